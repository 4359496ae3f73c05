theorem dX0_init_0 : decode cX0_init 0 = .ok (.aload_n 0, 1) := by decide +kernel
theorem dX0_init_1 : decode cX0_init 1 = .ok (.invokespecial 3, 3) := by decide +kernel
theorem dX0_init_4 : decode cX0_init 4 = .ok (.aload_n 0, 1) := by decide +kernel
theorem dX0_init_5 : decode cX0_init 5 = .ok (.bipush 24, 2) := by decide +kernel
theorem dX0_init_7 : decode cX0_init 7 = .ok (.newarray .int, 2) := by decide +kernel
theorem dX0_init_9 : decode cX0_init 9 = .ok (.putfield 9, 3) := by decide +kernel
theorem dX0_init_12 : decode cX0_init 12 = .ok (.aload_n 0, 1) := by decide +kernel
theorem dX0_init_13 : decode cX0_init 13 = .ok (.bipush 24, 2) := by decide +kernel
theorem dX0_init_15 : decode cX0_init 15 = .ok (.newarray .int, 2) := by decide +kernel
theorem dX0_init_17 : decode cX0_init 17 = .ok (.putfield 15, 3) := by decide +kernel
theorem dX0_init_20 : decode cX0_init 20 = .ok (.aload_n 0, 1) := by decide +kernel
theorem dX0_init_21 : decode cX0_init 21 = .ok (.bipush 24, 2) := by decide +kernel
theorem dX0_init_23 : decode cX0_init 23 = .ok (.newarray .int, 2) := by decide +kernel
theorem dX0_init_25 : decode cX0_init 25 = .ok (.putfield 18, 3) := by decide +kernel
theorem dX0_init_28 : decode cX0_init 28 = .ok (.aload_n 0, 1) := by decide +kernel
theorem dX0_init_29 : decode cX0_init 29 = .ok (.bipush 24, 2) := by decide +kernel
theorem dX0_init_31 : decode cX0_init 31 = .ok (.newarray .int, 2) := by decide +kernel
theorem dX0_init_33 : decode cX0_init 33 = .ok (.putfield 21, 3) := by decide +kernel
theorem dX0_init_36 : decode cX0_init 36 = .ok (.aload_n 0, 1) := by decide +kernel
theorem dX0_init_37 : decode cX0_init 37 = .ok (.bipush 24, 2) := by decide +kernel
theorem dX0_init_39 : decode cX0_init 39 = .ok (.newarray .int, 2) := by decide +kernel
theorem dX0_init_41 : decode cX0_init 41 = .ok (.putfield 24, 3) := by decide +kernel
theorem dX0_init_44 : decode cX0_init 44 = .ok (.aload_n 0, 1) := by decide +kernel
theorem dX0_init_45 : decode cX0_init 45 = .ok (.bipush 24, 2) := by decide +kernel
theorem dX0_init_47 : decode cX0_init 47 = .ok (.newarray .int, 2) := by decide +kernel
theorem dX0_init_49 : decode cX0_init 49 = .ok (.putfield 27, 3) := by decide +kernel
theorem dX0_init_52 : decode cX0_init 52 = .ok (.aload_n 0, 1) := by decide +kernel
theorem dX0_init_53 : decode cX0_init 53 = .ok (.bipush 24, 2) := by decide +kernel
theorem dX0_init_55 : decode cX0_init 55 = .ok (.newarray .int, 2) := by decide +kernel
theorem dX0_init_57 : decode cX0_init 57 = .ok (.putfield 30, 3) := by decide +kernel
theorem dX0_init_60 : decode cX0_init 60 = .ok (.aload_n 0, 1) := by decide +kernel
theorem dX0_init_61 : decode cX0_init 61 = .ok (.bipush 24, 2) := by decide +kernel
theorem dX0_init_63 : decode cX0_init 63 = .ok (.newarray .int, 2) := by decide +kernel
theorem dX0_init_65 : decode cX0_init 65 = .ok (.putfield 33, 3) := by decide +kernel
theorem dX0_init_68 : decode cX0_init 68 = .ok (.aload_n 0, 1) := by decide +kernel
theorem dX0_init_69 : decode cX0_init 69 = .ok (.iconst 0, 1) := by decide +kernel
theorem dX0_init_70 : decode cX0_init 70 = .ok (.putfield 36, 3) := by decide +kernel
theorem dX0_init_73 : decode cX0_init 73 = .ok (.return_, 1) := by decide +kernel
theorem dX0_has_0 : decode cX0_has 0 = .ok (.iload_n 1, 1) := by decide +kernel
theorem dX0_has_1 : decode cX0_has 1 = .ok (.ifCond .lt 15, 3) := by decide +kernel
theorem dX0_has_4 : decode cX0_has 4 = .ok (.iload_n 1, 1) := by decide +kernel
theorem dX0_has_5 : decode cX0_has 5 = .ok (.aload_n 0, 1) := by decide +kernel
theorem dX0_has_6 : decode cX0_has 6 = .ok (.getfield 36, 3) := by decide +kernel
theorem dX0_has_9 : decode cX0_has 9 = .ok (.if_icmp .ge 7, 3) := by decide +kernel
theorem dX0_has_12 : decode cX0_has 12 = .ok (.iconst 1, 1) := by decide +kernel
theorem dX0_has_13 : decode cX0_has 13 = .ok (.goto 4, 3) := by decide +kernel
theorem dX0_has_16 : decode cX0_has 16 = .ok (.iconst 0, 1) := by decide +kernel
theorem dX0_has_17 : decode cX0_has 17 = .ok (.ireturn, 1) := by decide +kernel
theorem dX0_write_0 : decode cX0_write 0 = .ok (.iload_n 1, 1) := by decide +kernel
theorem dX0_write_1 : decode cX0_write 1 = .ok (.ifCond .lt 9, 3) := by decide +kernel
theorem dX0_write_4 : decode cX0_write 4 = .ok (.iload_n 1, 1) := by decide +kernel
theorem dX0_write_5 : decode cX0_write 5 = .ok (.bipush 24, 2) := by decide +kernel
theorem dX0_write_7 : decode cX0_write 7 = .ok (.if_icmp .lt 4, 3) := by decide +kernel
theorem dX0_write_10 : decode cX0_write 10 = .ok (.return_, 1) := by decide +kernel
theorem dX0_write_11 : decode cX0_write 11 = .ok (.aload_n 0, 1) := by decide +kernel
theorem dX0_write_12 : decode cX0_write 12 = .ok (.getfield 9, 3) := by decide +kernel
theorem dX0_write_15 : decode cX0_write 15 = .ok (.iload_n 1, 1) := by decide +kernel
theorem dX0_write_16 : decode cX0_write 16 = .ok (.iload_n 2, 1) := by decide +kernel
theorem dX0_write_17 : decode cX0_write 17 = .ok (.iastore, 1) := by decide +kernel
theorem dX0_write_18 : decode cX0_write 18 = .ok (.aload_n 0, 1) := by decide +kernel
theorem dX0_write_19 : decode cX0_write 19 = .ok (.getfield 15, 3) := by decide +kernel
theorem dX0_write_22 : decode cX0_write 22 = .ok (.iload_n 1, 1) := by decide +kernel
theorem dX0_write_23 : decode cX0_write 23 = .ok (.iload_n 3, 1) := by decide +kernel
theorem dX0_write_24 : decode cX0_write 24 = .ok (.iastore, 1) := by decide +kernel
theorem dX0_write_25 : decode cX0_write 25 = .ok (.aload_n 0, 1) := by decide +kernel
theorem dX0_write_26 : decode cX0_write 26 = .ok (.getfield 18, 3) := by decide +kernel
theorem dX0_write_29 : decode cX0_write 29 = .ok (.iload_n 1, 1) := by decide +kernel
theorem dX0_write_30 : decode cX0_write 30 = .ok (.iload 4, 2) := by decide +kernel
theorem dX0_write_32 : decode cX0_write 32 = .ok (.iastore, 1) := by decide +kernel
theorem dX0_write_33 : decode cX0_write 33 = .ok (.aload_n 0, 1) := by decide +kernel
theorem dX0_write_34 : decode cX0_write 34 = .ok (.getfield 21, 3) := by decide +kernel
theorem dX0_write_37 : decode cX0_write 37 = .ok (.iload_n 1, 1) := by decide +kernel
theorem dX0_write_38 : decode cX0_write 38 = .ok (.iload 5, 2) := by decide +kernel
theorem dX0_write_40 : decode cX0_write 40 = .ok (.iastore, 1) := by decide +kernel
theorem dX0_write_41 : decode cX0_write 41 = .ok (.aload_n 0, 1) := by decide +kernel
theorem dX0_write_42 : decode cX0_write 42 = .ok (.getfield 24, 3) := by decide +kernel
theorem dX0_write_45 : decode cX0_write 45 = .ok (.iload_n 1, 1) := by decide +kernel
theorem dX0_write_46 : decode cX0_write 46 = .ok (.iconst 0, 1) := by decide +kernel
theorem dX0_write_47 : decode cX0_write 47 = .ok (.iastore, 1) := by decide +kernel
theorem dX0_write_48 : decode cX0_write 48 = .ok (.aload_n 0, 1) := by decide +kernel
theorem dX0_write_49 : decode cX0_write 49 = .ok (.getfield 27, 3) := by decide +kernel
theorem dX0_write_52 : decode cX0_write 52 = .ok (.iload_n 1, 1) := by decide +kernel
theorem dX0_write_53 : decode cX0_write 53 = .ok (.iconst (-1), 1) := by decide +kernel
theorem dX0_write_54 : decode cX0_write 54 = .ok (.iastore, 1) := by decide +kernel
theorem dX0_write_55 : decode cX0_write 55 = .ok (.aload_n 0, 1) := by decide +kernel
theorem dX0_write_56 : decode cX0_write 56 = .ok (.getfield 30, 3) := by decide +kernel
theorem dX0_write_59 : decode cX0_write 59 = .ok (.iload_n 1, 1) := by decide +kernel
theorem dX0_write_60 : decode cX0_write 60 = .ok (.iconst (-1), 1) := by decide +kernel
theorem dX0_write_61 : decode cX0_write 61 = .ok (.iastore, 1) := by decide +kernel
theorem dX0_write_62 : decode cX0_write 62 = .ok (.aload_n 0, 1) := by decide +kernel
theorem dX0_write_63 : decode cX0_write 63 = .ok (.getfield 33, 3) := by decide +kernel
theorem dX0_write_66 : decode cX0_write 66 = .ok (.iload_n 1, 1) := by decide +kernel
theorem dX0_write_67 : decode cX0_write 67 = .ok (.iconst 1, 1) := by decide +kernel
theorem dX0_write_68 : decode cX0_write 68 = .ok (.iastore, 1) := by decide +kernel
theorem dX0_write_69 : decode cX0_write 69 = .ok (.return_, 1) := by decide +kernel
theorem dX0_canJoin_0 : decode cX0_canJoin 0 = .ok (.aload_n 0, 1) := by decide +kernel
theorem dX0_canJoin_1 : decode cX0_canJoin 1 = .ok (.getfield 18, 3) := by decide +kernel
theorem dX0_canJoin_4 : decode cX0_canJoin 4 = .ok (.iload_n 1, 1) := by decide +kernel
theorem dX0_canJoin_5 : decode cX0_canJoin 5 = .ok (.iaload, 1) := by decide +kernel
theorem dX0_canJoin_6 : decode cX0_canJoin 6 = .ok (.aload_n 0, 1) := by decide +kernel
theorem dX0_canJoin_7 : decode cX0_canJoin 7 = .ok (.getfield 15, 3) := by decide +kernel
theorem dX0_canJoin_10 : decode cX0_canJoin 10 = .ok (.iload_n 1, 1) := by decide +kernel
theorem dX0_canJoin_11 : decode cX0_canJoin 11 = .ok (.iaload, 1) := by decide +kernel
theorem dX0_canJoin_12 : decode cX0_canJoin 12 = .ok (.iconst (-1), 1) := by decide +kernel
theorem dX0_canJoin_13 : decode cX0_canJoin 13 = .ok (.ixor, 1) := by decide +kernel
theorem dX0_canJoin_14 : decode cX0_canJoin 14 = .ok (.iand, 1) := by decide +kernel
theorem dX0_canJoin_15 : decode cX0_canJoin 15 = .ok (.aload_n 0, 1) := by decide +kernel
theorem dX0_canJoin_16 : decode cX0_canJoin 16 = .ok (.getfield 9, 3) := by decide +kernel
theorem dX0_canJoin_19 : decode cX0_canJoin 19 = .ok (.iload_n 2, 1) := by decide +kernel
theorem dX0_canJoin_20 : decode cX0_canJoin 20 = .ok (.iaload, 1) := by decide +kernel
theorem dX0_canJoin_21 : decode cX0_canJoin 21 = .ok (.iand, 1) := by decide +kernel
theorem dX0_canJoin_22 : decode cX0_canJoin 22 = .ok (.ifCond .ne 25, 3) := by decide +kernel
theorem dX0_canJoin_25 : decode cX0_canJoin 25 = .ok (.aload_n 0, 1) := by decide +kernel
theorem dX0_canJoin_26 : decode cX0_canJoin 26 = .ok (.getfield 21, 3) := by decide +kernel
theorem dX0_canJoin_29 : decode cX0_canJoin 29 = .ok (.iload_n 1, 1) := by decide +kernel
theorem dX0_canJoin_30 : decode cX0_canJoin 30 = .ok (.iaload, 1) := by decide +kernel
theorem dX0_canJoin_31 : decode cX0_canJoin 31 = .ok (.aload_n 0, 1) := by decide +kernel
theorem dX0_canJoin_32 : decode cX0_canJoin 32 = .ok (.getfield 21, 3) := by decide +kernel
theorem dX0_canJoin_35 : decode cX0_canJoin 35 = .ok (.iload_n 2, 1) := by decide +kernel
theorem dX0_canJoin_36 : decode cX0_canJoin 36 = .ok (.iaload, 1) := by decide +kernel
theorem dX0_canJoin_37 : decode cX0_canJoin 37 = .ok (.iadd, 1) := by decide +kernel
theorem dX0_canJoin_38 : decode cX0_canJoin 38 = .ok (.bipush 99, 2) := by decide +kernel
theorem dX0_canJoin_40 : decode cX0_canJoin 40 = .ok (.if_icmp .gt 7, 3) := by decide +kernel
theorem dX0_canJoin_43 : decode cX0_canJoin 43 = .ok (.iconst 1, 1) := by decide +kernel
theorem dX0_canJoin_44 : decode cX0_canJoin 44 = .ok (.goto 4, 3) := by decide +kernel
theorem dX0_canJoin_47 : decode cX0_canJoin 47 = .ok (.iconst 0, 1) := by decide +kernel
theorem dX0_canJoin_48 : decode cX0_canJoin 48 = .ok (.ireturn, 1) := by decide +kernel
theorem dX0_writeJoined_0 : decode cX0_writeJoined 0 = .ok (.iload_n 1, 1) := by decide +kernel
theorem dX0_writeJoined_1 : decode cX0_writeJoined 1 = .ok (.ifCond .lt 9, 3) := by decide +kernel
theorem dX0_writeJoined_4 : decode cX0_writeJoined 4 = .ok (.iload_n 1, 1) := by decide +kernel
theorem dX0_writeJoined_5 : decode cX0_writeJoined 5 = .ok (.bipush 24, 2) := by decide +kernel
theorem dX0_writeJoined_7 : decode cX0_writeJoined 7 = .ok (.if_icmp .lt 4, 3) := by decide +kernel
theorem dX0_writeJoined_10 : decode cX0_writeJoined 10 = .ok (.return_, 1) := by decide +kernel
theorem dX0_writeJoined_11 : decode cX0_writeJoined 11 = .ok (.aload_n 0, 1) := by decide +kernel
theorem dX0_writeJoined_12 : decode cX0_writeJoined 12 = .ok (.getfield 9, 3) := by decide +kernel
theorem dX0_writeJoined_15 : decode cX0_writeJoined 15 = .ok (.iload_n 2, 1) := by decide +kernel
theorem dX0_writeJoined_16 : decode cX0_writeJoined 16 = .ok (.iaload, 1) := by decide +kernel
theorem dX0_writeJoined_17 : decode cX0_writeJoined 17 = .ok (.aload_n 0, 1) := by decide +kernel
theorem dX0_writeJoined_18 : decode cX0_writeJoined 18 = .ok (.getfield 9, 3) := by decide +kernel
theorem dX0_writeJoined_21 : decode cX0_writeJoined 21 = .ok (.iload_n 3, 1) := by decide +kernel
theorem dX0_writeJoined_22 : decode cX0_writeJoined 22 = .ok (.iaload, 1) := by decide +kernel
theorem dX0_writeJoined_23 : decode cX0_writeJoined 23 = .ok (.aload_n 0, 1) := by decide +kernel
theorem dX0_writeJoined_24 : decode cX0_writeJoined 24 = .ok (.getfield 15, 3) := by decide +kernel
theorem dX0_writeJoined_27 : decode cX0_writeJoined 27 = .ok (.iload_n 2, 1) := by decide +kernel
theorem dX0_writeJoined_28 : decode cX0_writeJoined 28 = .ok (.iaload, 1) := by decide +kernel
theorem dX0_writeJoined_29 : decode cX0_writeJoined 29 = .ok (.iconst (-1), 1) := by decide +kernel
theorem dX0_writeJoined_30 : decode cX0_writeJoined 30 = .ok (.ixor, 1) := by decide +kernel
theorem dX0_writeJoined_31 : decode cX0_writeJoined 31 = .ok (.iand, 1) := by decide +kernel
theorem dX0_writeJoined_32 : decode cX0_writeJoined 32 = .ok (.ior, 1) := by decide +kernel
theorem dX0_writeJoined_33 : decode cX0_writeJoined 33 = .ok (.istore 4, 2) := by decide +kernel
theorem dX0_writeJoined_35 : decode cX0_writeJoined 35 = .ok (.aload_n 0, 1) := by decide +kernel
theorem dX0_writeJoined_36 : decode cX0_writeJoined 36 = .ok (.getfield 15, 3) := by decide +kernel
theorem dX0_writeJoined_39 : decode cX0_writeJoined 39 = .ok (.iload_n 2, 1) := by decide +kernel
theorem dX0_writeJoined_40 : decode cX0_writeJoined 40 = .ok (.iaload, 1) := by decide +kernel
theorem dX0_writeJoined_41 : decode cX0_writeJoined 41 = .ok (.aload_n 0, 1) := by decide +kernel
theorem dX0_writeJoined_42 : decode cX0_writeJoined 42 = .ok (.getfield 18, 3) := by decide +kernel
theorem dX0_writeJoined_45 : decode cX0_writeJoined 45 = .ok (.iload_n 3, 1) := by decide +kernel
theorem dX0_writeJoined_46 : decode cX0_writeJoined 46 = .ok (.iaload, 1) := by decide +kernel
theorem dX0_writeJoined_47 : decode cX0_writeJoined 47 = .ok (.iconst (-1), 1) := by decide +kernel
theorem dX0_writeJoined_48 : decode cX0_writeJoined 48 = .ok (.ixor, 1) := by decide +kernel
theorem dX0_writeJoined_49 : decode cX0_writeJoined 49 = .ok (.iand, 1) := by decide +kernel
theorem dX0_writeJoined_50 : decode cX0_writeJoined 50 = .ok (.aload_n 0, 1) := by decide +kernel
theorem dX0_writeJoined_51 : decode cX0_writeJoined 51 = .ok (.getfield 15, 3) := by decide +kernel
theorem dX0_writeJoined_54 : decode cX0_writeJoined 54 = .ok (.iload_n 3, 1) := by decide +kernel
theorem dX0_writeJoined_55 : decode cX0_writeJoined 55 = .ok (.iaload, 1) := by decide +kernel
theorem dX0_writeJoined_56 : decode cX0_writeJoined 56 = .ok (.ior, 1) := by decide +kernel
theorem dX0_writeJoined_57 : decode cX0_writeJoined 57 = .ok (.istore 5, 2) := by decide +kernel
theorem dX0_writeJoined_59 : decode cX0_writeJoined 59 = .ok (.aload_n 0, 1) := by decide +kernel
theorem dX0_writeJoined_60 : decode cX0_writeJoined 60 = .ok (.getfield 18, 3) := by decide +kernel
theorem dX0_writeJoined_63 : decode cX0_writeJoined 63 = .ok (.iload_n 2, 1) := by decide +kernel
theorem dX0_writeJoined_64 : decode cX0_writeJoined 64 = .ok (.iaload, 1) := by decide +kernel
theorem dX0_writeJoined_65 : decode cX0_writeJoined 65 = .ok (.aload_n 0, 1) := by decide +kernel
theorem dX0_writeJoined_66 : decode cX0_writeJoined 66 = .ok (.getfield 15, 3) := by decide +kernel
theorem dX0_writeJoined_69 : decode cX0_writeJoined 69 = .ok (.iload_n 3, 1) := by decide +kernel
theorem dX0_writeJoined_70 : decode cX0_writeJoined 70 = .ok (.iaload, 1) := by decide +kernel
theorem dX0_writeJoined_71 : decode cX0_writeJoined 71 = .ok (.iconst (-1), 1) := by decide +kernel
theorem dX0_writeJoined_72 : decode cX0_writeJoined 72 = .ok (.ixor, 1) := by decide +kernel
theorem dX0_writeJoined_73 : decode cX0_writeJoined 73 = .ok (.iand, 1) := by decide +kernel
theorem dX0_writeJoined_74 : decode cX0_writeJoined 74 = .ok (.aload_n 0, 1) := by decide +kernel
theorem dX0_writeJoined_75 : decode cX0_writeJoined 75 = .ok (.getfield 18, 3) := by decide +kernel
theorem dX0_writeJoined_78 : decode cX0_writeJoined 78 = .ok (.iload_n 3, 1) := by decide +kernel
theorem dX0_writeJoined_79 : decode cX0_writeJoined 79 = .ok (.iaload, 1) := by decide +kernel
theorem dX0_writeJoined_80 : decode cX0_writeJoined 80 = .ok (.ior, 1) := by decide +kernel
theorem dX0_writeJoined_81 : decode cX0_writeJoined 81 = .ok (.istore 6, 2) := by decide +kernel
theorem dX0_writeJoined_83 : decode cX0_writeJoined 83 = .ok (.aload_n 0, 1) := by decide +kernel
theorem dX0_writeJoined_84 : decode cX0_writeJoined 84 = .ok (.iload_n 1, 1) := by decide +kernel
theorem dX0_writeJoined_85 : decode cX0_writeJoined 85 = .ok (.iload 4, 2) := by decide +kernel
theorem dX0_writeJoined_87 : decode cX0_writeJoined 87 = .ok (.iload 5, 2) := by decide +kernel
theorem dX0_writeJoined_89 : decode cX0_writeJoined 89 = .ok (.iload 6, 2) := by decide +kernel
theorem dX0_writeJoined_91 : decode cX0_writeJoined 91 = .ok (.aload_n 0, 1) := by decide +kernel
theorem dX0_writeJoined_92 : decode cX0_writeJoined 92 = .ok (.getfield 21, 3) := by decide +kernel
theorem dX0_writeJoined_95 : decode cX0_writeJoined 95 = .ok (.iload_n 2, 1) := by decide +kernel
theorem dX0_writeJoined_96 : decode cX0_writeJoined 96 = .ok (.iaload, 1) := by decide +kernel
theorem dX0_writeJoined_97 : decode cX0_writeJoined 97 = .ok (.aload_n 0, 1) := by decide +kernel
theorem dX0_writeJoined_98 : decode cX0_writeJoined 98 = .ok (.getfield 21, 3) := by decide +kernel
theorem dX0_writeJoined_101 : decode cX0_writeJoined 101 = .ok (.iload_n 3, 1) := by decide +kernel
theorem dX0_writeJoined_102 : decode cX0_writeJoined 102 = .ok (.iaload, 1) := by decide +kernel
theorem dX0_writeJoined_103 : decode cX0_writeJoined 103 = .ok (.iadd, 1) := by decide +kernel
theorem dX0_writeJoined_104 : decode cX0_writeJoined 104 = .ok (.invokevirtual 40, 3) := by decide +kernel
theorem dX0_writeJoined_107 : decode cX0_writeJoined 107 = .ok (.aload_n 0, 1) := by decide +kernel
theorem dX0_writeJoined_108 : decode cX0_writeJoined 108 = .ok (.getfield 24, 3) := by decide +kernel
theorem dX0_writeJoined_111 : decode cX0_writeJoined 111 = .ok (.iload_n 2, 1) := by decide +kernel
theorem dX0_writeJoined_112 : decode cX0_writeJoined 112 = .ok (.iaload, 1) := by decide +kernel
theorem dX0_writeJoined_113 : decode cX0_writeJoined 113 = .ok (.ifCond .ne 16, 3) := by decide +kernel
theorem dX0_writeJoined_116 : decode cX0_writeJoined 116 = .ok (.aload_n 0, 1) := by decide +kernel
theorem dX0_writeJoined_117 : decode cX0_writeJoined 117 = .ok (.getfield 24, 3) := by decide +kernel
theorem dX0_writeJoined_120 : decode cX0_writeJoined 120 = .ok (.iload_n 3, 1) := by decide +kernel
theorem dX0_writeJoined_121 : decode cX0_writeJoined 121 = .ok (.iaload, 1) := by decide +kernel
theorem dX0_writeJoined_122 : decode cX0_writeJoined 122 = .ok (.ifCond .ne 7, 3) := by decide +kernel
theorem dX0_writeJoined_125 : decode cX0_writeJoined 125 = .ok (.iconst 1, 1) := by decide +kernel
theorem dX0_writeJoined_126 : decode cX0_writeJoined 126 = .ok (.goto 4, 3) := by decide +kernel
theorem dX0_writeJoined_129 : decode cX0_writeJoined 129 = .ok (.iconst 0, 1) := by decide +kernel
theorem dX0_writeJoined_130 : decode cX0_writeJoined 130 = .ok (.istore 7, 2) := by decide +kernel
theorem dX0_writeJoined_132 : decode cX0_writeJoined 132 = .ok (.aload_n 0, 1) := by decide +kernel
theorem dX0_writeJoined_133 : decode cX0_writeJoined 133 = .ok (.getfield 24, 3) := by decide +kernel
theorem dX0_writeJoined_136 : decode cX0_writeJoined 136 = .ok (.iload_n 1, 1) := by decide +kernel
theorem dX0_writeJoined_137 : decode cX0_writeJoined 137 = .ok (.iload 7, 2) := by decide +kernel
theorem dX0_writeJoined_139 : decode cX0_writeJoined 139 = .ok (.ifCond .eq 7, 3) := by decide +kernel
theorem dX0_writeJoined_142 : decode cX0_writeJoined 142 = .ok (.iconst 1, 1) := by decide +kernel
theorem dX0_writeJoined_143 : decode cX0_writeJoined 143 = .ok (.goto 4, 3) := by decide +kernel
theorem dX0_writeJoined_146 : decode cX0_writeJoined 146 = .ok (.iconst 2, 1) := by decide +kernel
theorem dX0_writeJoined_147 : decode cX0_writeJoined 147 = .ok (.iastore, 1) := by decide +kernel
theorem dX0_writeJoined_148 : decode cX0_writeJoined 148 = .ok (.aload_n 0, 1) := by decide +kernel
theorem dX0_writeJoined_149 : decode cX0_writeJoined 149 = .ok (.getfield 27, 3) := by decide +kernel
theorem dX0_writeJoined_152 : decode cX0_writeJoined 152 = .ok (.iload_n 1, 1) := by decide +kernel
theorem dX0_writeJoined_153 : decode cX0_writeJoined 153 = .ok (.iload_n 2, 1) := by decide +kernel
theorem dX0_writeJoined_154 : decode cX0_writeJoined 154 = .ok (.iastore, 1) := by decide +kernel
theorem dX0_writeJoined_155 : decode cX0_writeJoined 155 = .ok (.aload_n 0, 1) := by decide +kernel
theorem dX0_writeJoined_156 : decode cX0_writeJoined 156 = .ok (.getfield 30, 3) := by decide +kernel
theorem dX0_writeJoined_159 : decode cX0_writeJoined 159 = .ok (.iload_n 1, 1) := by decide +kernel
theorem dX0_writeJoined_160 : decode cX0_writeJoined 160 = .ok (.iload_n 3, 1) := by decide +kernel
theorem dX0_writeJoined_161 : decode cX0_writeJoined 161 = .ok (.iastore, 1) := by decide +kernel
theorem dX0_writeJoined_162 : decode cX0_writeJoined 162 = .ok (.aload_n 0, 1) := by decide +kernel
theorem dX0_writeJoined_163 : decode cX0_writeJoined 163 = .ok (.getfield 33, 3) := by decide +kernel
theorem dX0_writeJoined_166 : decode cX0_writeJoined 166 = .ok (.iload_n 1, 1) := by decide +kernel
theorem dX0_writeJoined_167 : decode cX0_writeJoined 167 = .ok (.aload_n 0, 1) := by decide +kernel
theorem dX0_writeJoined_168 : decode cX0_writeJoined 168 = .ok (.getfield 33, 3) := by decide +kernel
theorem dX0_writeJoined_171 : decode cX0_writeJoined 171 = .ok (.iload_n 2, 1) := by decide +kernel
theorem dX0_writeJoined_172 : decode cX0_writeJoined 172 = .ok (.iaload, 1) := by decide +kernel
theorem dX0_writeJoined_173 : decode cX0_writeJoined 173 = .ok (.aload_n 0, 1) := by decide +kernel
theorem dX0_writeJoined_174 : decode cX0_writeJoined 174 = .ok (.getfield 33, 3) := by decide +kernel
theorem dX0_writeJoined_177 : decode cX0_writeJoined 177 = .ok (.iload_n 3, 1) := by decide +kernel
theorem dX0_writeJoined_178 : decode cX0_writeJoined 178 = .ok (.iaload, 1) := by decide +kernel
theorem dX0_writeJoined_179 : decode cX0_writeJoined 179 = .ok (.iadd, 1) := by decide +kernel
theorem dX0_writeJoined_180 : decode cX0_writeJoined 180 = .ok (.iastore, 1) := by decide +kernel
theorem dX0_writeJoined_181 : decode cX0_writeJoined 181 = .ok (.return_, 1) := by decide +kernel
theorem dX0_isAllowed_0 : decode cX0_isAllowed 0 = .ok (.aload_n 0, 1) := by decide +kernel
theorem dX0_isAllowed_1 : decode cX0_isAllowed 1 = .ok (.getfield 9, 3) := by decide +kernel
theorem dX0_isAllowed_4 : decode cX0_isAllowed 4 = .ok (.iload_n 2, 1) := by decide +kernel
theorem dX0_isAllowed_5 : decode cX0_isAllowed 5 = .ok (.iaload, 1) := by decide +kernel
theorem dX0_isAllowed_6 : decode cX0_isAllowed 6 = .ok (.iload_n 1, 1) := by decide +kernel
theorem dX0_isAllowed_7 : decode cX0_isAllowed 7 = .ok (.iconst (-1), 1) := by decide +kernel
theorem dX0_isAllowed_8 : decode cX0_isAllowed 8 = .ok (.ixor, 1) := by decide +kernel
theorem dX0_isAllowed_9 : decode cX0_isAllowed 9 = .ok (.iand, 1) := by decide +kernel
theorem dX0_isAllowed_10 : decode cX0_isAllowed 10 = .ok (.ifCond .ne 7, 3) := by decide +kernel
theorem dX0_isAllowed_13 : decode cX0_isAllowed 13 = .ok (.iconst 1, 1) := by decide +kernel
theorem dX0_isAllowed_14 : decode cX0_isAllowed 14 = .ok (.goto 4, 3) := by decide +kernel
theorem dX0_isAllowed_17 : decode cX0_isAllowed 17 = .ok (.iconst 0, 1) := by decide +kernel
theorem dX0_isAllowed_18 : decode cX0_isAllowed 18 = .ok (.ireturn, 1) := by decide +kernel
theorem dX0_allowedIn_0 : decode cX0_allowedIn 0 = .ok (.iconst 0, 1) := by decide +kernel
theorem dX0_allowedIn_1 : decode cX0_allowedIn 1 = .ok (.istore_n 2, 1) := by decide +kernel
theorem dX0_allowedIn_2 : decode cX0_allowedIn 2 = .ok (.iconst 0, 1) := by decide +kernel
theorem dX0_allowedIn_3 : decode cX0_allowedIn 3 = .ok (.istore_n 3, 1) := by decide +kernel
theorem dX0_allowedIn_4 : decode cX0_allowedIn 4 = .ok (.iload_n 3, 1) := by decide +kernel
theorem dX0_allowedIn_5 : decode cX0_allowedIn 5 = .ok (.aload_n 0, 1) := by decide +kernel
theorem dX0_allowedIn_6 : decode cX0_allowedIn 6 = .ok (.getfield 36, 3) := by decide +kernel
theorem dX0_allowedIn_9 : decode cX0_allowedIn 9 = .ok (.if_icmp .ge 24, 3) := by decide +kernel
theorem dX0_allowedIn_12 : decode cX0_allowedIn 12 = .ok (.aload_n 0, 1) := by decide +kernel
theorem dX0_allowedIn_13 : decode cX0_allowedIn 13 = .ok (.iload_n 1, 1) := by decide +kernel
theorem dX0_allowedIn_14 : decode cX0_allowedIn 14 = .ok (.iload_n 3, 1) := by decide +kernel
theorem dX0_allowedIn_15 : decode cX0_allowedIn 15 = .ok (.invokevirtual 44, 3) := by decide +kernel
theorem dX0_allowedIn_18 : decode cX0_allowedIn 18 = .ok (.ifCond .eq 9, 3) := by decide +kernel
theorem dX0_allowedIn_21 : decode cX0_allowedIn 21 = .ok (.iload_n 2, 1) := by decide +kernel
theorem dX0_allowedIn_22 : decode cX0_allowedIn 22 = .ok (.iconst 1, 1) := by decide +kernel
theorem dX0_allowedIn_23 : decode cX0_allowedIn 23 = .ok (.iload_n 3, 1) := by decide +kernel
theorem dX0_allowedIn_24 : decode cX0_allowedIn 24 = .ok (.ishl, 1) := by decide +kernel
theorem dX0_allowedIn_25 : decode cX0_allowedIn 25 = .ok (.ior, 1) := by decide +kernel
theorem dX0_allowedIn_26 : decode cX0_allowedIn 26 = .ok (.istore_n 2, 1) := by decide +kernel
theorem dX0_allowedIn_27 : decode cX0_allowedIn 27 = .ok (.iinc 3 1, 3) := by decide +kernel
theorem dX0_allowedIn_30 : decode cX0_allowedIn 30 = .ok (.goto (-26), 3) := by decide +kernel
theorem dX0_allowedIn_33 : decode cX0_allowedIn 33 = .ok (.iload_n 2, 1) := by decide +kernel
theorem dX0_allowedIn_34 : decode cX0_allowedIn 34 = .ok (.ireturn, 1) := by decide +kernel
theorem dX0_after_0 : decode cX0_after 0 = .ok (.iload_n 1, 1) := by decide +kernel
theorem dX0_after_1 : decode cX0_after 1 = .ok (.aload_n 0, 1) := by decide +kernel
theorem dX0_after_2 : decode cX0_after 2 = .ok (.getfield 18, 3) := by decide +kernel
theorem dX0_after_5 : decode cX0_after 5 = .ok (.iload_n 2, 1) := by decide +kernel
theorem dX0_after_6 : decode cX0_after 6 = .ok (.iaload, 1) := by decide +kernel
theorem dX0_after_7 : decode cX0_after 7 = .ok (.iconst (-1), 1) := by decide +kernel
theorem dX0_after_8 : decode cX0_after 8 = .ok (.ixor, 1) := by decide +kernel
theorem dX0_after_9 : decode cX0_after 9 = .ok (.iand, 1) := by decide +kernel
theorem dX0_after_10 : decode cX0_after 10 = .ok (.aload_n 0, 1) := by decide +kernel
theorem dX0_after_11 : decode cX0_after 11 = .ok (.getfield 15, 3) := by decide +kernel
theorem dX0_after_14 : decode cX0_after 14 = .ok (.iload_n 2, 1) := by decide +kernel
theorem dX0_after_15 : decode cX0_after 15 = .ok (.iaload, 1) := by decide +kernel
theorem dX0_after_16 : decode cX0_after 16 = .ok (.ior, 1) := by decide +kernel
theorem dX0_after_17 : decode cX0_after 17 = .ok (.ireturn, 1) := by decide +kernel
theorem dX0_countMacros_0 : decode cX0_countMacros 0 = .ok (.iconst 0, 1) := by decide +kernel
theorem dX0_countMacros_1 : decode cX0_countMacros 1 = .ok (.istore_n 1, 1) := by decide +kernel
theorem dX0_countMacros_2 : decode cX0_countMacros 2 = .ok (.iconst 0, 1) := by decide +kernel
theorem dX0_countMacros_3 : decode cX0_countMacros 3 = .ok (.istore_n 2, 1) := by decide +kernel
theorem dX0_countMacros_4 : decode cX0_countMacros 4 = .ok (.iload_n 2, 1) := by decide +kernel
theorem dX0_countMacros_5 : decode cX0_countMacros 5 = .ok (.aload_n 0, 1) := by decide +kernel
theorem dX0_countMacros_6 : decode cX0_countMacros 6 = .ok (.getfield 36, 3) := by decide +kernel
theorem dX0_countMacros_9 : decode cX0_countMacros 9 = .ok (.if_icmp .ge 21, 3) := by decide +kernel
theorem dX0_countMacros_12 : decode cX0_countMacros 12 = .ok (.aload_n 0, 1) := by decide +kernel
theorem dX0_countMacros_13 : decode cX0_countMacros 13 = .ok (.getfield 24, 3) := by decide +kernel
theorem dX0_countMacros_16 : decode cX0_countMacros 16 = .ok (.iload_n 2, 1) := by decide +kernel
theorem dX0_countMacros_17 : decode cX0_countMacros 17 = .ok (.iaload, 1) := by decide +kernel
theorem dX0_countMacros_18 : decode cX0_countMacros 18 = .ok (.ifCond .eq 6, 3) := by decide +kernel
theorem dX0_countMacros_21 : decode cX0_countMacros 21 = .ok (.iinc 1 1, 3) := by decide +kernel
theorem dX0_countMacros_24 : decode cX0_countMacros 24 = .ok (.iinc 2 1, 3) := by decide +kernel
theorem dX0_countMacros_27 : decode cX0_countMacros 27 = .ok (.goto (-23), 3) := by decide +kernel
theorem dX0_countMacros_30 : decode cX0_countMacros 30 = .ok (.iload_n 1, 1) := by decide +kernel
theorem dX0_countMacros_31 : decode cX0_countMacros 31 = .ok (.ireturn, 1) := by decide +kernel
theorem dX1_init_0 : decode cX1_init 0 = .ok (.aload_n 0, 1) := by decide +kernel
theorem dX1_init_1 : decode cX1_init 1 = .ok (.invokespecial 3, 3) := by decide +kernel
theorem dX1_init_4 : decode cX1_init 4 = .ok (.aload_n 0, 1) := by decide +kernel
theorem dX1_init_5 : decode cX1_init 5 = .ok (.bipush 30, 2) := by decide +kernel
theorem dX1_init_7 : decode cX1_init 7 = .ok (.newarray .int, 2) := by decide +kernel
theorem dX1_init_9 : decode cX1_init 9 = .ok (.putfield 9, 3) := by decide +kernel
theorem dX1_init_12 : decode cX1_init 12 = .ok (.aload_n 0, 1) := by decide +kernel
theorem dX1_init_13 : decode cX1_init 13 = .ok (.iconst 0, 1) := by decide +kernel
theorem dX1_init_14 : decode cX1_init 14 = .ok (.putfield 15, 3) := by decide +kernel
theorem dX1_init_17 : decode cX1_init 17 = .ok (.aload_n 0, 1) := by decide +kernel
theorem dX1_init_18 : decode cX1_init 18 = .ok (.iconst 0, 1) := by decide +kernel
theorem dX1_init_19 : decode cX1_init 19 = .ok (.putfield 19, 3) := by decide +kernel
theorem dX1_init_22 : decode cX1_init 22 = .ok (.aload_n 0, 1) := by decide +kernel
theorem dX1_init_23 : decode cX1_init 23 = .ok (.aload_n 1, 1) := by decide +kernel
theorem dX1_init_24 : decode cX1_init 24 = .ok (.putfield 23, 3) := by decide +kernel
theorem dX1_init_27 : decode cX1_init 27 = .ok (.return_, 1) := by decide +kernel
theorem dX1_settle_0 : decode cX1_settle 0 = .ok (.aload_n 0, 1) := by decide +kernel
theorem dX1_settle_1 : decode cX1_settle 1 = .ok (.iload_n 2, 1) := by decide +kernel
theorem dX1_settle_2 : decode cX1_settle 2 = .ok (.putfield 19, 3) := by decide +kernel
theorem dX1_settle_5 : decode cX1_settle 5 = .ok (.aload_n 0, 1) := by decide +kernel
theorem dX1_settle_6 : decode cX1_settle 6 = .ok (.iload_n 1, 1) := by decide +kernel
theorem dX1_settle_7 : decode cX1_settle 7 = .ok (.putfield 15, 3) := by decide +kernel
theorem dX1_settle_10 : decode cX1_settle 10 = .ok (.aload_n 0, 1) := by decide +kernel
theorem dX1_settle_11 : decode cX1_settle 11 = .ok (.getfield 9, 3) := by decide +kernel
theorem dX1_settle_14 : decode cX1_settle 14 = .ok (.iconst 0, 1) := by decide +kernel
theorem dX1_settle_15 : decode cX1_settle 15 = .ok (.invokestatic 27, 3) := by decide +kernel
theorem dX1_settle_18 : decode cX1_settle 18 = .ok (.iconst 1, 1) := by decide +kernel
theorem dX1_settle_19 : decode cX1_settle 19 = .ok (.istore_n 3, 1) := by decide +kernel
theorem dX1_settle_20 : decode cX1_settle 20 = .ok (.iconst 0, 1) := by decide +kernel
theorem dX1_settle_21 : decode cX1_settle 21 = .ok (.istore 4, 2) := by decide +kernel
theorem dX1_settle_23 : decode cX1_settle 23 = .ok (.iload_n 3, 1) := by decide +kernel
theorem dX1_settle_24 : decode cX1_settle 24 = .ok (.ifCond .eq 85, 3) := by decide +kernel
theorem dX1_settle_27 : decode cX1_settle 27 = .ok (.iload 4, 2) := by decide +kernel
theorem dX1_settle_29 : decode cX1_settle 29 = .ok (.sipush 1000, 3) := by decide +kernel
theorem dX1_settle_32 : decode cX1_settle 32 = .ok (.if_icmp .ge 77, 3) := by decide +kernel
theorem dX1_settle_35 : decode cX1_settle 35 = .ok (.iconst 0, 1) := by decide +kernel
theorem dX1_settle_36 : decode cX1_settle 36 = .ok (.istore_n 3, 1) := by decide +kernel
theorem dX1_settle_37 : decode cX1_settle 37 = .ok (.iconst 0, 1) := by decide +kernel
theorem dX1_settle_38 : decode cX1_settle 38 = .ok (.istore 5, 2) := by decide +kernel
theorem dX1_settle_40 : decode cX1_settle 40 = .ok (.iload 5, 2) := by decide +kernel
theorem dX1_settle_42 : decode cX1_settle 42 = .ok (.aload_n 0, 1) := by decide +kernel
theorem dX1_settle_43 : decode cX1_settle 43 = .ok (.getfield 23, 3) := by decide +kernel
theorem dX1_settle_46 : decode cX1_settle 46 = .ok (.getfield 33, 3) := by decide +kernel
theorem dX1_settle_49 : decode cX1_settle 49 = .ok (.if_icmp .ge 54, 3) := by decide +kernel
theorem dX1_settle_52 : decode cX1_settle 52 = .ok (.aload_n 0, 1) := by decide +kernel
theorem dX1_settle_53 : decode cX1_settle 53 = .ok (.getfield 23, 3) := by decide +kernel
theorem dX1_settle_56 : decode cX1_settle 56 = .ok (.aload_n 0, 1) := by decide +kernel
theorem dX1_settle_57 : decode cX1_settle 57 = .ok (.getfield 15, 3) := by decide +kernel
theorem dX1_settle_60 : decode cX1_settle 60 = .ok (.iload 5, 2) := by decide +kernel
theorem dX1_settle_62 : decode cX1_settle 62 = .ok (.invokevirtual 38, 3) := by decide +kernel
theorem dX1_settle_65 : decode cX1_settle 65 = .ok (.ifCond .eq 32, 3) := by decide +kernel
theorem dX1_settle_68 : decode cX1_settle 68 = .ok (.aload_n 0, 1) := by decide +kernel
theorem dX1_settle_69 : decode cX1_settle 69 = .ok (.aload_n 0, 1) := by decide +kernel
theorem dX1_settle_70 : decode cX1_settle 70 = .ok (.getfield 23, 3) := by decide +kernel
theorem dX1_settle_73 : decode cX1_settle 73 = .ok (.getfield 42, 3) := by decide +kernel
theorem dX1_settle_76 : decode cX1_settle 76 = .ok (.iload 5, 2) := by decide +kernel
theorem dX1_settle_78 : decode cX1_settle 78 = .ok (.iaload, 1) := by decide +kernel
theorem dX1_settle_79 : decode cX1_settle 79 = .ok (.iload_n 1, 1) := by decide +kernel
theorem dX1_settle_80 : decode cX1_settle 80 = .ok (.iconst (-1), 1) := by decide +kernel
theorem dX1_settle_81 : decode cX1_settle 81 = .ok (.ixor, 1) := by decide +kernel
theorem dX1_settle_82 : decode cX1_settle 82 = .ok (.iand, 1) := by decide +kernel
theorem dX1_settle_83 : decode cX1_settle 83 = .ok (.aload_n 0, 1) := by decide +kernel
theorem dX1_settle_84 : decode cX1_settle 84 = .ok (.iload 5, 2) := by decide +kernel
theorem dX1_settle_86 : decode cX1_settle 86 = .ok (.invokevirtual 45, 3) := by decide +kernel
theorem dX1_settle_89 : decode cX1_settle 89 = .ok (.invokevirtual 49, 3) := by decide +kernel
theorem dX1_settle_92 : decode cX1_settle 92 = .ok (.ifCond .eq 5, 3) := by decide +kernel
theorem dX1_settle_95 : decode cX1_settle 95 = .ok (.iconst 1, 1) := by decide +kernel
theorem dX1_settle_96 : decode cX1_settle 96 = .ok (.istore_n 3, 1) := by decide +kernel
theorem dX1_settle_97 : decode cX1_settle 97 = .ok (.iinc 5 1, 3) := by decide +kernel
theorem dX1_settle_100 : decode cX1_settle 100 = .ok (.goto (-60), 3) := by decide +kernel
theorem dX1_settle_103 : decode cX1_settle 103 = .ok (.iinc 4 1, 3) := by decide +kernel
theorem dX1_settle_106 : decode cX1_settle 106 = .ok (.goto (-83), 3) := by decide +kernel
theorem dX1_settle_109 : decode cX1_settle 109 = .ok (.return_, 1) := by decide +kernel
theorem dX1_costBy_0 : decode cX1_costBy 0 = .ok (.ldc 52, 2) := by decide +kernel
theorem dX1_costBy_2 : decode cX1_costBy 2 = .ok (.aload_n 0, 1) := by decide +kernel
theorem dX1_costBy_3 : decode cX1_costBy 3 = .ok (.aload_n 0, 1) := by decide +kernel
theorem dX1_costBy_4 : decode cX1_costBy 4 = .ok (.getfield 23, 3) := by decide +kernel
theorem dX1_costBy_7 : decode cX1_costBy 7 = .ok (.getfield 53, 3) := by decide +kernel
theorem dX1_costBy_10 : decode cX1_costBy 10 = .ok (.iload_n 1, 1) := by decide +kernel
theorem dX1_costBy_11 : decode cX1_costBy 11 = .ok (.iaload, 1) := by decide +kernel
theorem dX1_costBy_12 : decode cX1_costBy 12 = .ok (.invokevirtual 56, 3) := by decide +kernel
theorem dX1_costBy_15 : decode cX1_costBy 15 = .ok (.aload_n 0, 1) := by decide +kernel
theorem dX1_costBy_16 : decode cX1_costBy 16 = .ok (.getfield 23, 3) := by decide +kernel
theorem dX1_costBy_19 : decode cX1_costBy 19 = .ok (.getfield 59, 3) := by decide +kernel
theorem dX1_costBy_22 : decode cX1_costBy 22 = .ok (.iload_n 1, 1) := by decide +kernel
theorem dX1_costBy_23 : decode cX1_costBy 23 = .ok (.iaload, 1) := by decide +kernel
theorem dX1_costBy_24 : decode cX1_costBy 24 = .ok (.iadd, 1) := by decide +kernel
theorem dX1_costBy_25 : decode cX1_costBy 25 = .ok (.invokestatic 60, 3) := by decide +kernel
theorem dX1_costBy_28 : decode cX1_costBy 28 = .ok (.ireturn, 1) := by decide +kernel
theorem dX1_ofAll_0 : decode cX1_ofAll 0 = .ok (.iconst 0, 1) := by decide +kernel
theorem dX1_ofAll_1 : decode cX1_ofAll 1 = .ok (.istore_n 2, 1) := by decide +kernel
theorem dX1_ofAll_2 : decode cX1_ofAll 2 = .ok (.iconst 0, 1) := by decide +kernel
theorem dX1_ofAll_3 : decode cX1_ofAll 3 = .ok (.istore_n 3, 1) := by decide +kernel
theorem dX1_ofAll_4 : decode cX1_ofAll 4 = .ok (.iload_n 3, 1) := by decide +kernel
theorem dX1_ofAll_5 : decode cX1_ofAll 5 = .ok (.bipush 30, 2) := by decide +kernel
theorem dX1_ofAll_7 : decode cX1_ofAll 7 = .ok (.if_icmp .ge 62, 3) := by decide +kernel
theorem dX1_ofAll_10 : decode cX1_ofAll 10 = .ok (.iload_n 1, 1) := by decide +kernel
theorem dX1_ofAll_11 : decode cX1_ofAll 11 = .ok (.iload_n 3, 1) := by decide +kernel
theorem dX1_ofAll_12 : decode cX1_ofAll 12 = .ok (.iushr, 1) := by decide +kernel
theorem dX1_ofAll_13 : decode cX1_ofAll 13 = .ok (.ifCond .eq 56, 3) := by decide +kernel
theorem dX1_ofAll_16 : decode cX1_ofAll 16 = .ok (.iload_n 1, 1) := by decide +kernel
theorem dX1_ofAll_17 : decode cX1_ofAll 17 = .ok (.iconst 1, 1) := by decide +kernel
theorem dX1_ofAll_18 : decode cX1_ofAll 18 = .ok (.iload_n 3, 1) := by decide +kernel
theorem dX1_ofAll_19 : decode cX1_ofAll 19 = .ok (.ishl, 1) := by decide +kernel
theorem dX1_ofAll_20 : decode cX1_ofAll 20 = .ok (.iand, 1) := by decide +kernel
theorem dX1_ofAll_21 : decode cX1_ofAll 21 = .ok (.ifCond .ne 6, 3) := by decide +kernel
theorem dX1_ofAll_24 : decode cX1_ofAll 24 = .ok (.goto 39, 3) := by decide +kernel
theorem dX1_ofAll_27 : decode cX1_ofAll 27 = .ok (.aload_n 0, 1) := by decide +kernel
theorem dX1_ofAll_28 : decode cX1_ofAll 28 = .ok (.getfield 19, 3) := by decide +kernel
theorem dX1_ofAll_31 : decode cX1_ofAll 31 = .ok (.ifCond .eq 15, 3) := by decide +kernel
theorem dX1_ofAll_34 : decode cX1_ofAll 34 = .ok (.iload_n 2, 1) := by decide +kernel
theorem dX1_ofAll_35 : decode cX1_ofAll 35 = .ok (.aload_n 0, 1) := by decide +kernel
theorem dX1_ofAll_36 : decode cX1_ofAll 36 = .ok (.getfield 9, 3) := by decide +kernel
theorem dX1_ofAll_39 : decode cX1_ofAll 39 = .ok (.iload_n 3, 1) := by decide +kernel
theorem dX1_ofAll_40 : decode cX1_ofAll 40 = .ok (.iaload, 1) := by decide +kernel
theorem dX1_ofAll_41 : decode cX1_ofAll 41 = .ok (.iadd, 1) := by decide +kernel
theorem dX1_ofAll_42 : decode cX1_ofAll 42 = .ok (.istore_n 2, 1) := by decide +kernel
theorem dX1_ofAll_43 : decode cX1_ofAll 43 = .ok (.goto 20, 3) := by decide +kernel
theorem dX1_ofAll_46 : decode cX1_ofAll 46 = .ok (.aload_n 0, 1) := by decide +kernel
theorem dX1_ofAll_47 : decode cX1_ofAll 47 = .ok (.getfield 9, 3) := by decide +kernel
theorem dX1_ofAll_50 : decode cX1_ofAll 50 = .ok (.iload_n 3, 1) := by decide +kernel
theorem dX1_ofAll_51 : decode cX1_ofAll 51 = .ok (.iaload, 1) := by decide +kernel
theorem dX1_ofAll_52 : decode cX1_ofAll 52 = .ok (.iload_n 2, 1) := by decide +kernel
theorem dX1_ofAll_53 : decode cX1_ofAll 53 = .ok (.if_icmp .le 10, 3) := by decide +kernel
theorem dX1_ofAll_56 : decode cX1_ofAll 56 = .ok (.aload_n 0, 1) := by decide +kernel
theorem dX1_ofAll_57 : decode cX1_ofAll 57 = .ok (.getfield 9, 3) := by decide +kernel
theorem dX1_ofAll_60 : decode cX1_ofAll 60 = .ok (.iload_n 3, 1) := by decide +kernel
theorem dX1_ofAll_61 : decode cX1_ofAll 61 = .ok (.iaload, 1) := by decide +kernel
theorem dX1_ofAll_62 : decode cX1_ofAll 62 = .ok (.istore_n 2, 1) := by decide +kernel
theorem dX1_ofAll_63 : decode cX1_ofAll 63 = .ok (.iinc 3 1, 3) := by decide +kernel
theorem dX1_ofAll_66 : decode cX1_ofAll 66 = .ok (.goto (-62), 3) := by decide +kernel
theorem dX1_ofAll_69 : decode cX1_ofAll 69 = .ok (.iload_n 2, 1) := by decide +kernel
theorem dX1_ofAll_70 : decode cX1_ofAll 70 = .ok (.ldc 52, 2) := by decide +kernel
theorem dX1_ofAll_72 : decode cX1_ofAll 72 = .ok (.if_icmp .le 8, 3) := by decide +kernel
theorem dX1_ofAll_75 : decode cX1_ofAll 75 = .ok (.ldc 52, 2) := by decide +kernel
theorem dX1_ofAll_77 : decode cX1_ofAll 77 = .ok (.goto 4, 3) := by decide +kernel
theorem dX1_ofAll_80 : decode cX1_ofAll 80 = .ok (.iload_n 2, 1) := by decide +kernel
theorem dX1_ofAll_81 : decode cX1_ofAll 81 = .ok (.ireturn, 1) := by decide +kernel
theorem dX1_lower_0 : decode cX1_lower 0 = .ok (.iconst 0, 1) := by decide +kernel
theorem dX1_lower_1 : decode cX1_lower 1 = .ok (.istore_n 3, 1) := by decide +kernel
theorem dX1_lower_2 : decode cX1_lower 2 = .ok (.iconst 0, 1) := by decide +kernel
theorem dX1_lower_3 : decode cX1_lower 3 = .ok (.istore 4, 2) := by decide +kernel
theorem dX1_lower_5 : decode cX1_lower 5 = .ok (.iload 4, 2) := by decide +kernel
theorem dX1_lower_7 : decode cX1_lower 7 = .ok (.bipush 30, 2) := by decide +kernel
theorem dX1_lower_9 : decode cX1_lower 9 = .ok (.if_icmp .ge 71, 3) := by decide +kernel
theorem dX1_lower_12 : decode cX1_lower 12 = .ok (.iload_n 1, 1) := by decide +kernel
theorem dX1_lower_13 : decode cX1_lower 13 = .ok (.iload 4, 2) := by decide +kernel
theorem dX1_lower_15 : decode cX1_lower 15 = .ok (.iushr, 1) := by decide +kernel
theorem dX1_lower_16 : decode cX1_lower 16 = .ok (.ifCond .eq 64, 3) := by decide +kernel
theorem dX1_lower_19 : decode cX1_lower 19 = .ok (.iconst 1, 1) := by decide +kernel
theorem dX1_lower_20 : decode cX1_lower 20 = .ok (.iload 4, 2) := by decide +kernel
theorem dX1_lower_22 : decode cX1_lower 22 = .ok (.ishl, 1) := by decide +kernel
theorem dX1_lower_23 : decode cX1_lower 23 = .ok (.istore 5, 2) := by decide +kernel
theorem dX1_lower_25 : decode cX1_lower 25 = .ok (.iload_n 1, 1) := by decide +kernel
theorem dX1_lower_26 : decode cX1_lower 26 = .ok (.iload 5, 2) := by decide +kernel
theorem dX1_lower_28 : decode cX1_lower 28 = .ok (.iand, 1) := by decide +kernel
theorem dX1_lower_29 : decode cX1_lower 29 = .ok (.ifCond .eq 45, 3) := by decide +kernel
theorem dX1_lower_32 : decode cX1_lower 32 = .ok (.aload_n 0, 1) := by decide +kernel
theorem dX1_lower_33 : decode cX1_lower 33 = .ok (.getfield 15, 3) := by decide +kernel
theorem dX1_lower_36 : decode cX1_lower 36 = .ok (.iload 5, 2) := by decide +kernel
theorem dX1_lower_38 : decode cX1_lower 38 = .ok (.iand, 1) := by decide +kernel
theorem dX1_lower_39 : decode cX1_lower 39 = .ok (.ifCond .eq 14, 3) := by decide +kernel
theorem dX1_lower_42 : decode cX1_lower 42 = .ok (.iload_n 2, 1) := by decide +kernel
theorem dX1_lower_43 : decode cX1_lower 43 = .ok (.aload_n 0, 1) := by decide +kernel
theorem dX1_lower_44 : decode cX1_lower 44 = .ok (.getfield 9, 3) := by decide +kernel
theorem dX1_lower_47 : decode cX1_lower 47 = .ok (.iload 4, 2) := by decide +kernel
theorem dX1_lower_49 : decode cX1_lower 49 = .ok (.iaload, 1) := by decide +kernel
theorem dX1_lower_50 : decode cX1_lower 50 = .ok (.if_icmp .ge 24, 3) := by decide +kernel
theorem dX1_lower_53 : decode cX1_lower 53 = .ok (.aload_n 0, 1) := by decide +kernel
theorem dX1_lower_54 : decode cX1_lower 54 = .ok (.getfield 9, 3) := by decide +kernel
theorem dX1_lower_57 : decode cX1_lower 57 = .ok (.iload 4, 2) := by decide +kernel
theorem dX1_lower_59 : decode cX1_lower 59 = .ok (.iload_n 2, 1) := by decide +kernel
theorem dX1_lower_60 : decode cX1_lower 60 = .ok (.iastore, 1) := by decide +kernel
theorem dX1_lower_61 : decode cX1_lower 61 = .ok (.aload_n 0, 1) := by decide +kernel
theorem dX1_lower_62 : decode cX1_lower 62 = .ok (.dup, 1) := by decide +kernel
theorem dX1_lower_63 : decode cX1_lower 63 = .ok (.getfield 15, 3) := by decide +kernel
theorem dX1_lower_66 : decode cX1_lower 66 = .ok (.iload 5, 2) := by decide +kernel
theorem dX1_lower_68 : decode cX1_lower 68 = .ok (.ior, 1) := by decide +kernel
theorem dX1_lower_69 : decode cX1_lower 69 = .ok (.putfield 15, 3) := by decide +kernel
theorem dX1_lower_72 : decode cX1_lower 72 = .ok (.iconst 1, 1) := by decide +kernel
theorem dX1_lower_73 : decode cX1_lower 73 = .ok (.istore_n 3, 1) := by decide +kernel
theorem dX1_lower_74 : decode cX1_lower 74 = .ok (.iinc 4 1, 3) := by decide +kernel
theorem dX1_lower_77 : decode cX1_lower 77 = .ok (.goto (-72), 3) := by decide +kernel
theorem dX1_lower_80 : decode cX1_lower 80 = .ok (.iload_n 3, 1) := by decide +kernel
theorem dX1_lower_81 : decode cX1_lower 81 = .ok (.ireturn, 1) := by decide +kernel
theorem dX2_init_0 : decode cX2_init 0 = .ok (.aload_n 0, 1) := by decide +kernel
theorem dX2_init_1 : decode cX2_init 1 = .ok (.invokespecial 3, 3) := by decide +kernel
theorem dX2_init_4 : decode cX2_init 4 = .ok (.aload_n 0, 1) := by decide +kernel
theorem dX2_init_5 : decode cX2_init 5 = .ok (.aload_n 1, 1) := by decide +kernel
theorem dX2_init_6 : decode cX2_init 6 = .ok (.putfield 9, 3) := by decide +kernel
theorem dX2_init_9 : decode cX2_init 9 = .ok (.aload_n 0, 1) := by decide +kernel
theorem dX2_init_10 : decode cX2_init 10 = .ok (.new 15, 3) := by decide +kernel
theorem dX2_init_13 : decode cX2_init 13 = .ok (.dup, 1) := by decide +kernel
theorem dX2_init_14 : decode cX2_init 14 = .ok (.aload_n 1, 1) := by decide +kernel
theorem dX2_init_15 : decode cX2_init 15 = .ok (.invokespecial 17, 3) := by decide +kernel
theorem dX2_init_18 : decode cX2_init 18 = .ok (.putfield 20, 3) := by decide +kernel
theorem dX2_init_21 : decode cX2_init 21 = .ok (.aload_n 0, 1) := by decide +kernel
theorem dX2_init_22 : decode cX2_init 22 = .ok (.new 24, 3) := by decide +kernel
theorem dX2_init_25 : decode cX2_init 25 = .ok (.dup, 1) := by decide +kernel
theorem dX2_init_26 : decode cX2_init 26 = .ok (.aload_n 1, 1) := by decide +kernel
theorem dX2_init_27 : decode cX2_init 27 = .ok (.aload_n 2, 1) := by decide +kernel
theorem dX2_init_28 : decode cX2_init 28 = .ok (.aload_n 0, 1) := by decide +kernel
theorem dX2_init_29 : decode cX2_init 29 = .ok (.getfield 20, 3) := by decide +kernel
theorem dX2_init_32 : decode cX2_init 32 = .ok (.invokespecial 26, 3) := by decide +kernel
theorem dX2_init_35 : decode cX2_init 35 = .ok (.putfield 29, 3) := by decide +kernel
theorem dX2_init_38 : decode cX2_init 38 = .ok (.return_, 1) := by decide +kernel
theorem dX2_guessOf_0 : decode cX2_guessOf 0 = .ok (.iload_n 3, 1) := by decide +kernel
theorem dX2_guessOf_1 : decode cX2_guessOf 1 = .ok (.ifCond .ne 12, 3) := by decide +kernel
theorem dX2_guessOf_4 : decode cX2_guessOf 4 = .ok (.iload_n 2, 1) := by decide +kernel
theorem dX2_guessOf_5 : decode cX2_guessOf 5 = .ok (.iload_n 1, 1) := by decide +kernel
theorem dX2_guessOf_6 : decode cX2_guessOf 6 = .ok (.iconst (-1), 1) := by decide +kernel
theorem dX2_guessOf_7 : decode cX2_guessOf 7 = .ok (.ixor, 1) := by decide +kernel
theorem dX2_guessOf_8 : decode cX2_guessOf 8 = .ok (.iand, 1) := by decide +kernel
theorem dX2_guessOf_9 : decode cX2_guessOf 9 = .ok (.invokestatic 33, 3) := by decide +kernel
theorem dX2_guessOf_12 : decode cX2_guessOf 12 = .ok (.ireturn, 1) := by decide +kernel
theorem dX2_guessOf_13 : decode cX2_guessOf 13 = .ok (.iload_n 3, 1) := by decide +kernel
theorem dX2_guessOf_14 : decode cX2_guessOf 14 = .ok (.iconst 3, 1) := by decide +kernel
theorem dX2_guessOf_15 : decode cX2_guessOf 15 = .ok (.if_icmp .ne 34, 3) := by decide +kernel
theorem dX2_guessOf_18 : decode cX2_guessOf 18 = .ok (.aload_n 0, 1) := by decide +kernel
theorem dX2_guessOf_19 : decode cX2_guessOf 19 = .ok (.getfield 29, 3) := by decide +kernel
theorem dX2_guessOf_22 : decode cX2_guessOf 22 = .ok (.iload_n 1, 1) := by decide +kernel
theorem dX2_guessOf_23 : decode cX2_guessOf 23 = .ok (.iload_n 2, 1) := by decide +kernel
theorem dX2_guessOf_24 : decode cX2_guessOf 24 = .ok (.invokevirtual 39, 3) := by decide +kernel
theorem dX2_guessOf_27 : decode cX2_guessOf 27 = .ok (.aload_n 0, 1) := by decide +kernel
theorem dX2_guessOf_28 : decode cX2_guessOf 28 = .ok (.getfield 29, 3) := by decide +kernel
theorem dX2_guessOf_31 : decode cX2_guessOf 31 = .ok (.getfield 43, 3) := by decide +kernel
theorem dX2_guessOf_34 : decode cX2_guessOf 34 = .ok (.ifCond .eq 13, 3) := by decide +kernel
theorem dX2_guessOf_37 : decode cX2_guessOf 37 = .ok (.aload_n 0, 1) := by decide +kernel
theorem dX2_guessOf_38 : decode cX2_guessOf 38 = .ok (.getfield 29, 3) := by decide +kernel
theorem dX2_guessOf_41 : decode cX2_guessOf 41 = .ok (.getfield 47, 3) := by decide +kernel
theorem dX2_guessOf_44 : decode cX2_guessOf 44 = .ok (.goto 4, 3) := by decide +kernel
theorem dX2_guessOf_47 : decode cX2_guessOf 47 = .ok (.iconst (-1), 1) := by decide +kernel
theorem dX2_guessOf_48 : decode cX2_guessOf 48 = .ok (.ireturn, 1) := by decide +kernel
theorem dX2_guessOf_49 : decode cX2_guessOf 49 = .ok (.aload_n 0, 1) := by decide +kernel
theorem dX2_guessOf_50 : decode cX2_guessOf 50 = .ok (.getfield 20, 3) := by decide +kernel
theorem dX2_guessOf_53 : decode cX2_guessOf 53 = .ok (.iload_n 1, 1) := by decide +kernel
theorem dX2_guessOf_54 : decode cX2_guessOf 54 = .ok (.iload_n 3, 1) := by decide +kernel
theorem dX2_guessOf_55 : decode cX2_guessOf 55 = .ok (.iconst 2, 1) := by decide +kernel
theorem dX2_guessOf_56 : decode cX2_guessOf 56 = .ok (.if_icmp .ne 7, 3) := by decide +kernel
theorem dX2_guessOf_59 : decode cX2_guessOf 59 = .ok (.iconst 1, 1) := by decide +kernel
theorem dX2_guessOf_60 : decode cX2_guessOf 60 = .ok (.goto 4, 3) := by decide +kernel
theorem dX2_guessOf_63 : decode cX2_guessOf 63 = .ok (.iconst 0, 1) := by decide +kernel
theorem dX2_guessOf_64 : decode cX2_guessOf 64 = .ok (.invokevirtual 51, 3) := by decide +kernel
theorem dX2_guessOf_67 : decode cX2_guessOf 67 = .ok (.iload_n 2, 1) := by decide +kernel
theorem dX2_guessOf_68 : decode cX2_guessOf 68 = .ok (.aload_n 0, 1) := by decide +kernel
theorem dX2_guessOf_69 : decode cX2_guessOf 69 = .ok (.getfield 20, 3) := by decide +kernel
theorem dX2_guessOf_72 : decode cX2_guessOf 72 = .ok (.getfield 55, 3) := by decide +kernel
theorem dX2_guessOf_75 : decode cX2_guessOf 75 = .ok (.iconst (-1), 1) := by decide +kernel
theorem dX2_guessOf_76 : decode cX2_guessOf 76 = .ok (.ixor, 1) := by decide +kernel
theorem dX2_guessOf_77 : decode cX2_guessOf 77 = .ok (.iand, 1) := by decide +kernel
theorem dX2_guessOf_78 : decode cX2_guessOf 78 = .ok (.ifCond .ne 14, 3) := by decide +kernel
theorem dX2_guessOf_81 : decode cX2_guessOf 81 = .ok (.aload_n 0, 1) := by decide +kernel
theorem dX2_guessOf_82 : decode cX2_guessOf 82 = .ok (.getfield 20, 3) := by decide +kernel
theorem dX2_guessOf_85 : decode cX2_guessOf 85 = .ok (.iload_n 2, 1) := by decide +kernel
theorem dX2_guessOf_86 : decode cX2_guessOf 86 = .ok (.invokevirtual 58, 3) := by decide +kernel
theorem dX2_guessOf_89 : decode cX2_guessOf 89 = .ok (.goto 4, 3) := by decide +kernel
theorem dX2_guessOf_92 : decode cX2_guessOf 92 = .ok (.iconst (-1), 1) := by decide +kernel
theorem dX2_guessOf_93 : decode cX2_guessOf 93 = .ok (.ireturn, 1) := by decide +kernel
theorem dX2_greediest_0 : decode cX2_greediest 0 = .ok (.iconst (-1), 1) := by decide +kernel
theorem dX2_greediest_1 : decode cX2_greediest 1 = .ok (.istore 4, 2) := by decide +kernel
theorem dX2_greediest_3 : decode cX2_greediest 3 = .ok (.iconst 0, 1) := by decide +kernel
theorem dX2_greediest_4 : decode cX2_greediest 4 = .ok (.istore 5, 2) := by decide +kernel
theorem dX2_greediest_6 : decode cX2_greediest 6 = .ok (.iconst 0, 1) := by decide +kernel
theorem dX2_greediest_7 : decode cX2_greediest 7 = .ok (.istore 6, 2) := by decide +kernel
theorem dX2_greediest_9 : decode cX2_greediest 9 = .ok (.iload 6, 2) := by decide +kernel
theorem dX2_greediest_11 : decode cX2_greediest 11 = .ok (.aload_n 0, 1) := by decide +kernel
theorem dX2_greediest_12 : decode cX2_greediest 12 = .ok (.getfield 9, 3) := by decide +kernel
theorem dX2_greediest_15 : decode cX2_greediest 15 = .ok (.getfield 61, 3) := by decide +kernel
theorem dX2_greediest_18 : decode cX2_greediest 18 = .ok (.if_icmp .ge 67, 3) := by decide +kernel
theorem dX2_greediest_21 : decode cX2_greediest 21 = .ok (.aload_n 0, 1) := by decide +kernel
theorem dX2_greediest_22 : decode cX2_greediest 22 = .ok (.getfield 9, 3) := by decide +kernel
theorem dX2_greediest_25 : decode cX2_greediest 25 = .ok (.iload_n 1, 1) := by decide +kernel
theorem dX2_greediest_26 : decode cX2_greediest 26 = .ok (.iload 6, 2) := by decide +kernel
theorem dX2_greediest_28 : decode cX2_greediest 28 = .ok (.invokevirtual 66, 3) := by decide +kernel
theorem dX2_greediest_31 : decode cX2_greediest 31 = .ok (.ifCond .eq 48, 3) := by decide +kernel
theorem dX2_greediest_34 : decode cX2_greediest 34 = .ok (.aload_n 0, 1) := by decide +kernel
theorem dX2_greediest_35 : decode cX2_greediest 35 = .ok (.aload_n 0, 1) := by decide +kernel
theorem dX2_greediest_36 : decode cX2_greediest 36 = .ok (.getfield 9, 3) := by decide +kernel
theorem dX2_greediest_39 : decode cX2_greediest 39 = .ok (.iload_n 1, 1) := by decide +kernel
theorem dX2_greediest_40 : decode cX2_greediest 40 = .ok (.iload 6, 2) := by decide +kernel
theorem dX2_greediest_42 : decode cX2_greediest 42 = .ok (.invokevirtual 70, 3) := by decide +kernel
theorem dX2_greediest_45 : decode cX2_greediest 45 = .ok (.iload_n 2, 1) := by decide +kernel
theorem dX2_greediest_46 : decode cX2_greediest 46 = .ok (.iload_n 3, 1) := by decide +kernel
theorem dX2_greediest_47 : decode cX2_greediest 47 = .ok (.invokevirtual 74, 3) := by decide +kernel
theorem dX2_greediest_50 : decode cX2_greediest 50 = .ok (.istore 7, 2) := by decide +kernel
theorem dX2_greediest_52 : decode cX2_greediest 52 = .ok (.iload 7, 2) := by decide +kernel
theorem dX2_greediest_54 : decode cX2_greediest 54 = .ok (.iconst (-1), 1) := by decide +kernel
theorem dX2_greediest_55 : decode cX2_greediest 55 = .ok (.if_icmp .eq 24, 3) := by decide +kernel
theorem dX2_greediest_58 : decode cX2_greediest 58 = .ok (.iload 4, 2) := by decide +kernel
theorem dX2_greediest_60 : decode cX2_greediest 60 = .ok (.iconst (-1), 1) := by decide +kernel
theorem dX2_greediest_61 : decode cX2_greediest 61 = .ok (.if_icmp .eq 10, 3) := by decide +kernel
theorem dX2_greediest_64 : decode cX2_greediest 64 = .ok (.iload 7, 2) := by decide +kernel
theorem dX2_greediest_66 : decode cX2_greediest 66 = .ok (.iload 5, 2) := by decide +kernel
theorem dX2_greediest_68 : decode cX2_greediest 68 = .ok (.if_icmp .ge 11, 3) := by decide +kernel
theorem dX2_greediest_71 : decode cX2_greediest 71 = .ok (.iload 6, 2) := by decide +kernel
theorem dX2_greediest_73 : decode cX2_greediest 73 = .ok (.istore 4, 2) := by decide +kernel
theorem dX2_greediest_75 : decode cX2_greediest 75 = .ok (.iload 7, 2) := by decide +kernel
theorem dX2_greediest_77 : decode cX2_greediest 77 = .ok (.istore 5, 2) := by decide +kernel
theorem dX2_greediest_79 : decode cX2_greediest 79 = .ok (.iinc 6 1, 3) := by decide +kernel
theorem dX2_greediest_82 : decode cX2_greediest 82 = .ok (.goto (-73), 3) := by decide +kernel
theorem dX2_greediest_85 : decode cX2_greediest 85 = .ok (.iload 4, 2) := by decide +kernel
theorem dX2_greediest_87 : decode cX2_greediest 87 = .ok (.ireturn, 1) := by decide +kernel
theorem dX3_init_0 : decode cX3_init 0 = .ok (.aload_n 0, 1) := by decide +kernel
theorem dX3_init_1 : decode cX3_init 1 = .ok (.invokespecial 3, 3) := by decide +kernel
theorem dX3_init_4 : decode cX3_init 4 = .ok (.aload_n 0, 1) := by decide +kernel
theorem dX3_init_5 : decode cX3_init 5 = .ok (.bipush 31, 2) := by decide +kernel
theorem dX3_init_7 : decode cX3_init 7 = .ok (.newarray .int, 2) := by decide +kernel
theorem dX3_init_9 : decode cX3_init 9 = .ok (.putfield 9, 3) := by decide +kernel
theorem dX3_init_12 : decode cX3_init 12 = .ok (.aload_n 0, 1) := by decide +kernel
theorem dX3_init_13 : decode cX3_init 13 = .ok (.iconst 0, 1) := by decide +kernel
theorem dX3_init_14 : decode cX3_init 14 = .ok (.putfield 15, 3) := by decide +kernel
theorem dX3_init_17 : decode cX3_init 17 = .ok (.aload_n 0, 1) := by decide +kernel
theorem dX3_init_18 : decode cX3_init 18 = .ok (.aload_n 1, 1) := by decide +kernel
theorem dX3_init_19 : decode cX3_init 19 = .ok (.putfield 19, 3) := by decide +kernel
theorem dX3_init_22 : decode cX3_init 22 = .ok (.return_, 1) := by decide +kernel
theorem dX3_spread_0 : decode cX3_spread 0 = .ok (.aload_n 0, 1) := by decide +kernel
theorem dX3_spread_1 : decode cX3_spread 1 = .ok (.iconst 0, 1) := by decide +kernel
theorem dX3_spread_2 : decode cX3_spread 2 = .ok (.putfield 15, 3) := by decide +kernel
theorem dX3_spread_5 : decode cX3_spread 5 = .ok (.aload_n 0, 1) := by decide +kernel
theorem dX3_spread_6 : decode cX3_spread 6 = .ok (.getfield 9, 3) := by decide +kernel
theorem dX3_spread_9 : decode cX3_spread 9 = .ok (.iconst 0, 1) := by decide +kernel
theorem dX3_spread_10 : decode cX3_spread 10 = .ok (.iload_n 1, 1) := by decide +kernel
theorem dX3_spread_11 : decode cX3_spread 11 = .ok (.iload_n 2, 1) := by decide +kernel
theorem dX3_spread_12 : decode cX3_spread 12 = .ok (.iconst (-1), 1) := by decide +kernel
theorem dX3_spread_13 : decode cX3_spread 13 = .ok (.ixor, 1) := by decide +kernel
theorem dX3_spread_14 : decode cX3_spread 14 = .ok (.iand, 1) := by decide +kernel
theorem dX3_spread_15 : decode cX3_spread 15 = .ok (.iastore, 1) := by decide +kernel
theorem dX3_spread_16 : decode cX3_spread 16 = .ok (.iconst 0, 1) := by decide +kernel
theorem dX3_spread_17 : decode cX3_spread 17 = .ok (.istore_n 3, 1) := by decide +kernel
theorem dX3_spread_18 : decode cX3_spread 18 = .ok (.iload_n 3, 1) := by decide +kernel
theorem dX3_spread_19 : decode cX3_spread 19 = .ok (.bipush 30, 2) := by decide +kernel
theorem dX3_spread_21 : decode cX3_spread 21 = .ok (.if_icmp .ge 64, 3) := by decide +kernel
theorem dX3_spread_24 : decode cX3_spread 24 = .ok (.aload_n 0, 1) := by decide +kernel
theorem dX3_spread_25 : decode cX3_spread 25 = .ok (.getfield 9, 3) := by decide +kernel
theorem dX3_spread_28 : decode cX3_spread 28 = .ok (.iload_n 3, 1) := by decide +kernel
theorem dX3_spread_29 : decode cX3_spread 29 = .ok (.iaload, 1) := by decide +kernel
theorem dX3_spread_30 : decode cX3_spread 30 = .ok (.aload_n 0, 1) := by decide +kernel
theorem dX3_spread_31 : decode cX3_spread 31 = .ok (.aload_n 0, 1) := by decide +kernel
theorem dX3_spread_32 : decode cX3_spread 32 = .ok (.getfield 9, 3) := by decide +kernel
theorem dX3_spread_35 : decode cX3_spread 35 = .ok (.iload_n 3, 1) := by decide +kernel
theorem dX3_spread_36 : decode cX3_spread 36 = .ok (.iaload, 1) := by decide +kernel
theorem dX3_spread_37 : decode cX3_spread 37 = .ok (.invokevirtual 23, 3) := by decide +kernel
theorem dX3_spread_40 : decode cX3_spread 40 = .ok (.iload_n 2, 1) := by decide +kernel
theorem dX3_spread_41 : decode cX3_spread 41 = .ok (.iconst (-1), 1) := by decide +kernel
theorem dX3_spread_42 : decode cX3_spread 42 = .ok (.ixor, 1) := by decide +kernel
theorem dX3_spread_43 : decode cX3_spread 43 = .ok (.iand, 1) := by decide +kernel
theorem dX3_spread_44 : decode cX3_spread 44 = .ok (.ior, 1) := by decide +kernel
theorem dX3_spread_45 : decode cX3_spread 45 = .ok (.istore 4, 2) := by decide +kernel
theorem dX3_spread_47 : decode cX3_spread 47 = .ok (.iload 4, 2) := by decide +kernel
theorem dX3_spread_49 : decode cX3_spread 49 = .ok (.aload_n 0, 1) := by decide +kernel
theorem dX3_spread_50 : decode cX3_spread 50 = .ok (.getfield 9, 3) := by decide +kernel
theorem dX3_spread_53 : decode cX3_spread 53 = .ok (.iload_n 3, 1) := by decide +kernel
theorem dX3_spread_54 : decode cX3_spread 54 = .ok (.iaload, 1) := by decide +kernel
theorem dX3_spread_55 : decode cX3_spread 55 = .ok (.if_icmp .ne 6, 3) := by decide +kernel
theorem dX3_spread_58 : decode cX3_spread 58 = .ok (.goto 27, 3) := by decide +kernel
theorem dX3_spread_61 : decode cX3_spread 61 = .ok (.aload_n 0, 1) := by decide +kernel
theorem dX3_spread_62 : decode cX3_spread 62 = .ok (.iload_n 3, 1) := by decide +kernel
theorem dX3_spread_63 : decode cX3_spread 63 = .ok (.iconst 1, 1) := by decide +kernel
theorem dX3_spread_64 : decode cX3_spread 64 = .ok (.iadd, 1) := by decide +kernel
theorem dX3_spread_65 : decode cX3_spread 65 = .ok (.putfield 15, 3) := by decide +kernel
theorem dX3_spread_68 : decode cX3_spread 68 = .ok (.aload_n 0, 1) := by decide +kernel
theorem dX3_spread_69 : decode cX3_spread 69 = .ok (.getfield 9, 3) := by decide +kernel
theorem dX3_spread_72 : decode cX3_spread 72 = .ok (.aload_n 0, 1) := by decide +kernel
theorem dX3_spread_73 : decode cX3_spread 73 = .ok (.getfield 15, 3) := by decide +kernel
theorem dX3_spread_76 : decode cX3_spread 76 = .ok (.iload 4, 2) := by decide +kernel
theorem dX3_spread_78 : decode cX3_spread 78 = .ok (.iastore, 1) := by decide +kernel
theorem dX3_spread_79 : decode cX3_spread 79 = .ok (.iinc 3 1, 3) := by decide +kernel
theorem dX3_spread_82 : decode cX3_spread 82 = .ok (.goto (-64), 3) := by decide +kernel
theorem dX3_spread_85 : decode cX3_spread 85 = .ok (.return_, 1) := by decide +kernel
theorem dX3_madeFrom_0 : decode cX3_madeFrom 0 = .ok (.iconst 0, 1) := by decide +kernel
theorem dX3_madeFrom_1 : decode cX3_madeFrom 1 = .ok (.istore_n 2, 1) := by decide +kernel
theorem dX3_madeFrom_2 : decode cX3_madeFrom 2 = .ok (.iconst 0, 1) := by decide +kernel
theorem dX3_madeFrom_3 : decode cX3_madeFrom 3 = .ok (.istore_n 3, 1) := by decide +kernel
theorem dX3_madeFrom_4 : decode cX3_madeFrom 4 = .ok (.iload_n 3, 1) := by decide +kernel
theorem dX3_madeFrom_5 : decode cX3_madeFrom 5 = .ok (.aload_n 0, 1) := by decide +kernel
theorem dX3_madeFrom_6 : decode cX3_madeFrom 6 = .ok (.getfield 19, 3) := by decide +kernel
theorem dX3_madeFrom_9 : decode cX3_madeFrom 9 = .ok (.getfield 27, 3) := by decide +kernel
theorem dX3_madeFrom_12 : decode cX3_madeFrom 12 = .ok (.if_icmp .ge 33, 3) := by decide +kernel
theorem dX3_madeFrom_15 : decode cX3_madeFrom 15 = .ok (.aload_n 0, 1) := by decide +kernel
theorem dX3_madeFrom_16 : decode cX3_madeFrom 16 = .ok (.getfield 19, 3) := by decide +kernel
theorem dX3_madeFrom_19 : decode cX3_madeFrom 19 = .ok (.iload_n 1, 1) := by decide +kernel
theorem dX3_madeFrom_20 : decode cX3_madeFrom 20 = .ok (.iload_n 3, 1) := by decide +kernel
theorem dX3_madeFrom_21 : decode cX3_madeFrom 21 = .ok (.invokevirtual 32, 3) := by decide +kernel
theorem dX3_madeFrom_24 : decode cX3_madeFrom 24 = .ok (.ifCond .eq 15, 3) := by decide +kernel
theorem dX3_madeFrom_27 : decode cX3_madeFrom 27 = .ok (.iload_n 2, 1) := by decide +kernel
theorem dX3_madeFrom_28 : decode cX3_madeFrom 28 = .ok (.aload_n 0, 1) := by decide +kernel
theorem dX3_madeFrom_29 : decode cX3_madeFrom 29 = .ok (.getfield 19, 3) := by decide +kernel
theorem dX3_madeFrom_32 : decode cX3_madeFrom 32 = .ok (.getfield 36, 3) := by decide +kernel
theorem dX3_madeFrom_35 : decode cX3_madeFrom 35 = .ok (.iload_n 3, 1) := by decide +kernel
theorem dX3_madeFrom_36 : decode cX3_madeFrom 36 = .ok (.iaload, 1) := by decide +kernel
theorem dX3_madeFrom_37 : decode cX3_madeFrom 37 = .ok (.ior, 1) := by decide +kernel
theorem dX3_madeFrom_38 : decode cX3_madeFrom 38 = .ok (.istore_n 2, 1) := by decide +kernel
theorem dX3_madeFrom_39 : decode cX3_madeFrom 39 = .ok (.iinc 3 1, 3) := by decide +kernel
theorem dX3_madeFrom_42 : decode cX3_madeFrom 42 = .ok (.goto (-38), 3) := by decide +kernel
theorem dX3_madeFrom_45 : decode cX3_madeFrom 45 = .ok (.iload_n 2, 1) := by decide +kernel
theorem dX3_madeFrom_46 : decode cX3_madeFrom 46 = .ok (.ireturn, 1) := by decide +kernel
theorem dX3_factsAt_0 : decode cX3_factsAt 0 = .ok (.aload_n 0, 1) := by decide +kernel
theorem dX3_factsAt_1 : decode cX3_factsAt 1 = .ok (.getfield 9, 3) := by decide +kernel
theorem dX3_factsAt_4 : decode cX3_factsAt 4 = .ok (.iconst 0, 1) := by decide +kernel
theorem dX3_factsAt_5 : decode cX3_factsAt 5 = .ok (.iload_n 1, 1) := by decide +kernel
theorem dX3_factsAt_6 : decode cX3_factsAt 6 = .ok (.aload_n 0, 1) := by decide +kernel
theorem dX3_factsAt_7 : decode cX3_factsAt 7 = .ok (.getfield 15, 3) := by decide +kernel
theorem dX3_factsAt_10 : decode cX3_factsAt 10 = .ok (.invokestatic 39, 3) := by decide +kernel
theorem dX3_factsAt_13 : decode cX3_factsAt 13 = .ok (.invokestatic 45, 3) := by decide +kernel
theorem dX3_factsAt_16 : decode cX3_factsAt 16 = .ok (.iaload, 1) := by decide +kernel
theorem dX3_factsAt_17 : decode cX3_factsAt 17 = .ok (.ireturn, 1) := by decide +kernel
theorem dX3_newAt_0 : decode cX3_newAt 0 = .ok (.iload_n 1, 1) := by decide +kernel
theorem dX3_newAt_1 : decode cX3_newAt 1 = .ok (.ifCond .le 21, 3) := by decide +kernel
theorem dX3_newAt_4 : decode cX3_newAt 4 = .ok (.aload_n 0, 1) := by decide +kernel
theorem dX3_newAt_5 : decode cX3_newAt 5 = .ok (.iload_n 1, 1) := by decide +kernel
theorem dX3_newAt_6 : decode cX3_newAt 6 = .ok (.invokevirtual 48, 3) := by decide +kernel
theorem dX3_newAt_9 : decode cX3_newAt 9 = .ok (.aload_n 0, 1) := by decide +kernel
theorem dX3_newAt_10 : decode cX3_newAt 10 = .ok (.iload_n 1, 1) := by decide +kernel
theorem dX3_newAt_11 : decode cX3_newAt 11 = .ok (.iconst 1, 1) := by decide +kernel
theorem dX3_newAt_12 : decode cX3_newAt 12 = .ok (.isub, 1) := by decide +kernel
theorem dX3_newAt_13 : decode cX3_newAt 13 = .ok (.invokevirtual 48, 3) := by decide +kernel
theorem dX3_newAt_16 : decode cX3_newAt 16 = .ok (.iconst (-1), 1) := by decide +kernel
theorem dX3_newAt_17 : decode cX3_newAt 17 = .ok (.ixor, 1) := by decide +kernel
theorem dX3_newAt_18 : decode cX3_newAt 18 = .ok (.iand, 1) := by decide +kernel
theorem dX3_newAt_19 : decode cX3_newAt 19 = .ok (.goto 8, 3) := by decide +kernel
theorem dX3_newAt_22 : decode cX3_newAt 22 = .ok (.aload_n 0, 1) := by decide +kernel
theorem dX3_newAt_23 : decode cX3_newAt 23 = .ok (.iconst 0, 1) := by decide +kernel
theorem dX3_newAt_24 : decode cX3_newAt 24 = .ok (.invokevirtual 48, 3) := by decide +kernel
theorem dX3_newAt_27 : decode cX3_newAt 27 = .ok (.ireturn, 1) := by decide +kernel
theorem dX3_lastLevel_0 : decode cX3_lastLevel 0 = .ok (.aload_n 0, 1) := by decide +kernel
theorem dX3_lastLevel_1 : decode cX3_lastLevel 1 = .ok (.getfield 15, 3) := by decide +kernel
theorem dX3_lastLevel_4 : decode cX3_lastLevel 4 = .ok (.ireturn, 1) := by decide +kernel
theorem dX3_firstWith_0 : decode cX3_firstWith 0 = .ok (.iconst 0, 1) := by decide +kernel
theorem dX3_firstWith_1 : decode cX3_firstWith 1 = .ok (.istore_n 2, 1) := by decide +kernel
theorem dX3_firstWith_2 : decode cX3_firstWith 2 = .ok (.iload_n 2, 1) := by decide +kernel
theorem dX3_firstWith_3 : decode cX3_firstWith 3 = .ok (.aload_n 0, 1) := by decide +kernel
theorem dX3_firstWith_4 : decode cX3_firstWith 4 = .ok (.getfield 15, 3) := by decide +kernel
theorem dX3_firstWith_7 : decode cX3_firstWith 7 = .ok (.if_icmp .gt 24, 3) := by decide +kernel
theorem dX3_firstWith_10 : decode cX3_firstWith 10 = .ok (.iload_n 1, 1) := by decide +kernel
theorem dX3_firstWith_11 : decode cX3_firstWith 11 = .ok (.aload_n 0, 1) := by decide +kernel
theorem dX3_firstWith_12 : decode cX3_firstWith 12 = .ok (.getfield 9, 3) := by decide +kernel
theorem dX3_firstWith_15 : decode cX3_firstWith 15 = .ok (.iload_n 2, 1) := by decide +kernel
theorem dX3_firstWith_16 : decode cX3_firstWith 16 = .ok (.iaload, 1) := by decide +kernel
theorem dX3_firstWith_17 : decode cX3_firstWith 17 = .ok (.iconst (-1), 1) := by decide +kernel
theorem dX3_firstWith_18 : decode cX3_firstWith 18 = .ok (.ixor, 1) := by decide +kernel
theorem dX3_firstWith_19 : decode cX3_firstWith 19 = .ok (.iand, 1) := by decide +kernel
theorem dX3_firstWith_20 : decode cX3_firstWith 20 = .ok (.ifCond .ne 5, 3) := by decide +kernel
theorem dX3_firstWith_23 : decode cX3_firstWith 23 = .ok (.iload_n 2, 1) := by decide +kernel
theorem dX3_firstWith_24 : decode cX3_firstWith 24 = .ok (.ireturn, 1) := by decide +kernel
theorem dX3_firstWith_25 : decode cX3_firstWith 25 = .ok (.iinc 2 1, 3) := by decide +kernel
theorem dX3_firstWith_28 : decode cX3_firstWith 28 = .ok (.goto (-26), 3) := by decide +kernel
theorem dX3_firstWith_31 : decode cX3_firstWith 31 = .ok (.iconst (-1), 1) := by decide +kernel
theorem dX3_firstWith_32 : decode cX3_firstWith 32 = .ok (.ireturn, 1) := by decide +kernel
theorem dX4_init_0 : decode cX4_init 0 = .ok (.aload_n 0, 1) := by decide +kernel
theorem dX4_init_1 : decode cX4_init 1 = .ok (.invokespecial 3, 3) := by decide +kernel
theorem dX4_init_4 : decode cX4_init 4 = .ok (.aload_n 0, 1) := by decide +kernel
theorem dX4_init_5 : decode cX4_init 5 = .ok (.sipush 300, 3) := by decide +kernel
theorem dX4_init_8 : decode cX4_init 8 = .ok (.newarray .int, 2) := by decide +kernel
theorem dX4_init_10 : decode cX4_init 10 = .ok (.putfield 9, 3) := by decide +kernel
theorem dX4_init_13 : decode cX4_init 13 = .ok (.aload_n 0, 1) := by decide +kernel
theorem dX4_init_14 : decode cX4_init 14 = .ok (.sipush 300, 3) := by decide +kernel
theorem dX4_init_17 : decode cX4_init 17 = .ok (.newarray .int, 2) := by decide +kernel
theorem dX4_init_19 : decode cX4_init 19 = .ok (.putfield 15, 3) := by decide +kernel
theorem dX4_init_22 : decode cX4_init 22 = .ok (.aload_n 0, 1) := by decide +kernel
theorem dX4_init_23 : decode cX4_init 23 = .ok (.sipush 300, 3) := by decide +kernel
theorem dX4_init_26 : decode cX4_init 26 = .ok (.newarray .boolean, 2) := by decide +kernel
theorem dX4_init_28 : decode cX4_init 28 = .ok (.putfield 18, 3) := by decide +kernel
theorem dX4_init_31 : decode cX4_init 31 = .ok (.aload_n 0, 1) := by decide +kernel
theorem dX4_init_32 : decode cX4_init 32 = .ok (.sipush 300, 3) := by decide +kernel
theorem dX4_init_35 : decode cX4_init 35 = .ok (.newarray .int, 2) := by decide +kernel
theorem dX4_init_37 : decode cX4_init 37 = .ok (.putfield 22, 3) := by decide +kernel
theorem dX4_init_40 : decode cX4_init 40 = .ok (.aload_n 0, 1) := by decide +kernel
theorem dX4_init_41 : decode cX4_init 41 = .ok (.iconst 0, 1) := by decide +kernel
theorem dX4_init_42 : decode cX4_init 42 = .ok (.putfield 25, 3) := by decide +kernel
theorem dX4_init_45 : decode cX4_init 45 = .ok (.aload_n 0, 1) := by decide +kernel
theorem dX4_init_46 : decode cX4_init 46 = .ok (.iconst 0, 1) := by decide +kernel
theorem dX4_init_47 : decode cX4_init 47 = .ok (.putfield 29, 3) := by decide +kernel
theorem dX4_init_50 : decode cX4_init 50 = .ok (.aload_n 0, 1) := by decide +kernel
theorem dX4_init_51 : decode cX4_init 51 = .ok (.iconst 0, 1) := by decide +kernel
theorem dX4_init_52 : decode cX4_init 52 = .ok (.putfield 33, 3) := by decide +kernel
theorem dX4_init_55 : decode cX4_init 55 = .ok (.aload_n 0, 1) := by decide +kernel
theorem dX4_init_56 : decode cX4_init 56 = .ok (.iconst 0, 1) := by decide +kernel
theorem dX4_init_57 : decode cX4_init 57 = .ok (.putfield 36, 3) := by decide +kernel
theorem dX4_init_60 : decode cX4_init 60 = .ok (.aload_n 0, 1) := by decide +kernel
theorem dX4_init_61 : decode cX4_init 61 = .ok (.iconst 0, 1) := by decide +kernel
theorem dX4_init_62 : decode cX4_init 62 = .ok (.putfield 39, 3) := by decide +kernel
theorem dX4_init_65 : decode cX4_init 65 = .ok (.aload_n 0, 1) := by decide +kernel
theorem dX4_init_66 : decode cX4_init 66 = .ok (.iconst 0, 1) := by decide +kernel
theorem dX4_init_67 : decode cX4_init 67 = .ok (.putfield 42, 3) := by decide +kernel
theorem dX4_init_70 : decode cX4_init 70 = .ok (.aload_n 0, 1) := by decide +kernel
theorem dX4_init_71 : decode cX4_init 71 = .ok (.aload_n 1, 1) := by decide +kernel
theorem dX4_init_72 : decode cX4_init 72 = .ok (.putfield 45, 3) := by decide +kernel
theorem dX4_init_75 : decode cX4_init 75 = .ok (.aload_n 0, 1) := by decide +kernel
theorem dX4_init_76 : decode cX4_init 76 = .ok (.aload_n 2, 1) := by decide +kernel
theorem dX4_init_77 : decode cX4_init 77 = .ok (.putfield 49, 3) := by decide +kernel
theorem dX4_init_80 : decode cX4_init 80 = .ok (.return_, 1) := by decide +kernel
theorem dX4_forget_0 : decode cX4_forget 0 = .ok (.aload_n 0, 1) := by decide +kernel
theorem dX4_forget_1 : decode cX4_forget 1 = .ok (.iconst 0, 1) := by decide +kernel
theorem dX4_forget_2 : decode cX4_forget 2 = .ok (.putfield 29, 3) := by decide +kernel
theorem dX4_forget_5 : decode cX4_forget 5 = .ok (.aload_n 0, 1) := by decide +kernel
theorem dX4_forget_6 : decode cX4_forget 6 = .ok (.iconst 0, 1) := by decide +kernel
theorem dX4_forget_7 : decode cX4_forget 7 = .ok (.putfield 33, 3) := by decide +kernel
theorem dX4_forget_10 : decode cX4_forget 10 = .ok (.return_, 1) := by decide +kernel
theorem dX4_costTo_0 : decode cX4_costTo 0 = .ok (.aload_n 0, 1) := by decide +kernel
theorem dX4_costTo_1 : decode cX4_costTo 1 = .ok (.getfield 49, 3) := by decide +kernel
theorem dX4_costTo_4 : decode cX4_costTo 4 = .ok (.iload_n 1, 1) := by decide +kernel
theorem dX4_costTo_5 : decode cX4_costTo 5 = .ok (.invokevirtual 53, 3) := by decide +kernel
theorem dX4_costTo_8 : decode cX4_costTo 8 = .ok (.ifCond .eq 16, 3) := by decide +kernel
theorem dX4_costTo_11 : decode cX4_costTo 11 = .ok (.aload_n 0, 1) := by decide +kernel
theorem dX4_costTo_12 : decode cX4_costTo 12 = .ok (.getfield 9, 3) := by decide +kernel
theorem dX4_costTo_15 : decode cX4_costTo 15 = .ok (.iload_n 1, 1) := by decide +kernel
theorem dX4_costTo_16 : decode cX4_costTo 16 = .ok (.iaload, 1) := by decide +kernel
theorem dX4_costTo_17 : decode cX4_costTo 17 = .ok (.sipush 1000, 3) := by decide +kernel
theorem dX4_costTo_20 : decode cX4_costTo 20 = .ok (.idiv, 1) := by decide +kernel
theorem dX4_costTo_21 : decode cX4_costTo 21 = .ok (.goto 4, 3) := by decide +kernel
theorem dX4_costTo_24 : decode cX4_costTo 24 = .ok (.iconst (-1), 1) := by decide +kernel
theorem dX4_costTo_25 : decode cX4_costTo 25 = .ok (.ireturn, 1) := by decide +kernel
theorem dX4_stepAt_0 : decode cX4_stepAt 0 = .ok (.aload_n 0, 1) := by decide +kernel
theorem dX4_stepAt_1 : decode cX4_stepAt 1 = .ok (.getfield 36, 3) := by decide +kernel
theorem dX4_stepAt_4 : decode cX4_stepAt 4 = .ok (.ifCond .eq 24, 3) := by decide +kernel
theorem dX4_stepAt_7 : decode cX4_stepAt 7 = .ok (.iload_n 1, 1) := by decide +kernel
theorem dX4_stepAt_8 : decode cX4_stepAt 8 = .ok (.ifCond .lt 20, 3) := by decide +kernel
theorem dX4_stepAt_11 : decode cX4_stepAt 11 = .ok (.iload_n 1, 1) := by decide +kernel
theorem dX4_stepAt_12 : decode cX4_stepAt 12 = .ok (.aload_n 0, 1) := by decide +kernel
theorem dX4_stepAt_13 : decode cX4_stepAt 13 = .ok (.getfield 39, 3) := by decide +kernel
theorem dX4_stepAt_16 : decode cX4_stepAt 16 = .ok (.if_icmp .ge 12, 3) := by decide +kernel
theorem dX4_stepAt_19 : decode cX4_stepAt 19 = .ok (.aload_n 0, 1) := by decide +kernel
theorem dX4_stepAt_20 : decode cX4_stepAt 20 = .ok (.getfield 22, 3) := by decide +kernel
theorem dX4_stepAt_23 : decode cX4_stepAt 23 = .ok (.iload_n 1, 1) := by decide +kernel
theorem dX4_stepAt_24 : decode cX4_stepAt 24 = .ok (.iaload, 1) := by decide +kernel
theorem dX4_stepAt_25 : decode cX4_stepAt 25 = .ok (.goto 4, 3) := by decide +kernel
theorem dX4_stepAt_28 : decode cX4_stepAt 28 = .ok (.iconst (-1), 1) := by decide +kernel
theorem dX4_stepAt_29 : decode cX4_stepAt 29 = .ok (.ireturn, 1) := by decide +kernel
theorem dX4_measure_0 : decode cX4_measure 0 = .ok (.aload_n 0, 1) := by decide +kernel
theorem dX4_measure_1 : decode cX4_measure 1 = .ok (.getfield 29, 3) := by decide +kernel
theorem dX4_measure_4 : decode cX4_measure 4 = .ok (.ifCond .eq 4, 3) := by decide +kernel
theorem dX4_measure_7 : decode cX4_measure 7 = .ok (.return_, 1) := by decide +kernel
theorem dX4_measure_8 : decode cX4_measure 8 = .ok (.aload_n 0, 1) := by decide +kernel
theorem dX4_measure_9 : decode cX4_measure 9 = .ok (.iconst 1, 1) := by decide +kernel
theorem dX4_measure_10 : decode cX4_measure 10 = .ok (.putfield 29, 3) := by decide +kernel
theorem dX4_measure_13 : decode cX4_measure 13 = .ok (.aload_n 0, 1) := by decide +kernel
theorem dX4_measure_14 : decode cX4_measure 14 = .ok (.getfield 9, 3) := by decide +kernel
theorem dX4_measure_17 : decode cX4_measure 17 = .ok (.iconst (-1), 1) := by decide +kernel
theorem dX4_measure_18 : decode cX4_measure 18 = .ok (.invokestatic 59, 3) := by decide +kernel
theorem dX4_measure_21 : decode cX4_measure 21 = .ok (.aload_n 0, 1) := by decide +kernel
theorem dX4_measure_22 : decode cX4_measure 22 = .ok (.getfield 9, 3) := by decide +kernel
theorem dX4_measure_25 : decode cX4_measure 25 = .ok (.iconst 0, 1) := by decide +kernel
theorem dX4_measure_26 : decode cX4_measure 26 = .ok (.iconst 0, 1) := by decide +kernel
theorem dX4_measure_27 : decode cX4_measure 27 = .ok (.iastore, 1) := by decide +kernel
theorem dX4_measure_28 : decode cX4_measure 28 = .ok (.aload_n 0, 1) := by decide +kernel
theorem dX4_measure_29 : decode cX4_measure 29 = .ok (.getfield 15, 3) := by decide +kernel
theorem dX4_measure_32 : decode cX4_measure 32 = .ok (.iconst 0, 1) := by decide +kernel
theorem dX4_measure_33 : decode cX4_measure 33 = .ok (.iconst 0, 1) := by decide +kernel
theorem dX4_measure_34 : decode cX4_measure 34 = .ok (.iastore, 1) := by decide +kernel
theorem dX4_measure_35 : decode cX4_measure 35 = .ok (.aload_n 0, 1) := by decide +kernel
theorem dX4_measure_36 : decode cX4_measure 36 = .ok (.iconst 1, 1) := by decide +kernel
theorem dX4_measure_37 : decode cX4_measure 37 = .ok (.putfield 25, 3) := by decide +kernel
theorem dX4_measure_40 : decode cX4_measure 40 = .ok (.iconst 0, 1) := by decide +kernel
theorem dX4_measure_41 : decode cX4_measure 41 = .ok (.istore_n 1, 1) := by decide +kernel
theorem dX4_measure_42 : decode cX4_measure 42 = .ok (.iload_n 1, 1) := by decide +kernel
theorem dX4_measure_43 : decode cX4_measure 43 = .ok (.sipush 300, 3) := by decide +kernel
theorem dX4_measure_46 : decode cX4_measure 46 = .ok (.if_icmp .ge 32, 3) := by decide +kernel
theorem dX4_measure_49 : decode cX4_measure 49 = .ok (.iload_n 1, 1) := by decide +kernel
theorem dX4_measure_50 : decode cX4_measure 50 = .ok (.aload_n 0, 1) := by decide +kernel
theorem dX4_measure_51 : decode cX4_measure 51 = .ok (.getfield 25, 3) := by decide +kernel
theorem dX4_measure_54 : decode cX4_measure 54 = .ok (.if_icmp .ge 24, 3) := by decide +kernel
theorem dX4_measure_57 : decode cX4_measure 57 = .ok (.aload_n 0, 1) := by decide +kernel
theorem dX4_measure_58 : decode cX4_measure 58 = .ok (.iload_n 1, 1) := by decide +kernel
theorem dX4_measure_59 : decode cX4_measure 59 = .ok (.invokevirtual 65, 3) := by decide +kernel
theorem dX4_measure_62 : decode cX4_measure 62 = .ok (.aload_n 0, 1) := by decide +kernel
theorem dX4_measure_63 : decode cX4_measure 63 = .ok (.aload_n 0, 1) := by decide +kernel
theorem dX4_measure_64 : decode cX4_measure 64 = .ok (.getfield 15, 3) := by decide +kernel
theorem dX4_measure_67 : decode cX4_measure 67 = .ok (.iload_n 1, 1) := by decide +kernel
theorem dX4_measure_68 : decode cX4_measure 68 = .ok (.iaload, 1) := by decide +kernel
theorem dX4_measure_69 : decode cX4_measure 69 = .ok (.invokevirtual 69, 3) := by decide +kernel
theorem dX4_measure_72 : decode cX4_measure 72 = .ok (.iinc 1 1, 3) := by decide +kernel
theorem dX4_measure_75 : decode cX4_measure 75 = .ok (.goto (-33), 3) := by decide +kernel
theorem dX4_measure_78 : decode cX4_measure 78 = .ok (.return_, 1) := by decide +kernel
theorem dX4_bringLightest_0 : decode cX4_bringLightest 0 = .ok (.iload_n 1, 1) := by decide +kernel
theorem dX4_bringLightest_1 : decode cX4_bringLightest 1 = .ok (.istore_n 2, 1) := by decide +kernel
theorem dX4_bringLightest_2 : decode cX4_bringLightest 2 = .ok (.iload_n 1, 1) := by decide +kernel
theorem dX4_bringLightest_3 : decode cX4_bringLightest 3 = .ok (.iconst 1, 1) := by decide +kernel
theorem dX4_bringLightest_4 : decode cX4_bringLightest 4 = .ok (.iadd, 1) := by decide +kernel
theorem dX4_bringLightest_5 : decode cX4_bringLightest 5 = .ok (.istore_n 3, 1) := by decide +kernel
theorem dX4_bringLightest_6 : decode cX4_bringLightest 6 = .ok (.iload_n 3, 1) := by decide +kernel
theorem dX4_bringLightest_7 : decode cX4_bringLightest 7 = .ok (.aload_n 0, 1) := by decide +kernel
theorem dX4_bringLightest_8 : decode cX4_bringLightest 8 = .ok (.getfield 25, 3) := by decide +kernel
theorem dX4_bringLightest_11 : decode cX4_bringLightest 11 = .ok (.if_icmp .ge 36, 3) := by decide +kernel
theorem dX4_bringLightest_14 : decode cX4_bringLightest 14 = .ok (.aload_n 0, 1) := by decide +kernel
theorem dX4_bringLightest_15 : decode cX4_bringLightest 15 = .ok (.getfield 9, 3) := by decide +kernel
theorem dX4_bringLightest_18 : decode cX4_bringLightest 18 = .ok (.aload_n 0, 1) := by decide +kernel
theorem dX4_bringLightest_19 : decode cX4_bringLightest 19 = .ok (.getfield 15, 3) := by decide +kernel
theorem dX4_bringLightest_22 : decode cX4_bringLightest 22 = .ok (.iload_n 3, 1) := by decide +kernel
theorem dX4_bringLightest_23 : decode cX4_bringLightest 23 = .ok (.iaload, 1) := by decide +kernel
theorem dX4_bringLightest_24 : decode cX4_bringLightest 24 = .ok (.iaload, 1) := by decide +kernel
theorem dX4_bringLightest_25 : decode cX4_bringLightest 25 = .ok (.aload_n 0, 1) := by decide +kernel
theorem dX4_bringLightest_26 : decode cX4_bringLightest 26 = .ok (.getfield 9, 3) := by decide +kernel
theorem dX4_bringLightest_29 : decode cX4_bringLightest 29 = .ok (.aload_n 0, 1) := by decide +kernel
theorem dX4_bringLightest_30 : decode cX4_bringLightest 30 = .ok (.getfield 15, 3) := by decide +kernel
theorem dX4_bringLightest_33 : decode cX4_bringLightest 33 = .ok (.iload_n 2, 1) := by decide +kernel
theorem dX4_bringLightest_34 : decode cX4_bringLightest 34 = .ok (.iaload, 1) := by decide +kernel
theorem dX4_bringLightest_35 : decode cX4_bringLightest 35 = .ok (.iaload, 1) := by decide +kernel
theorem dX4_bringLightest_36 : decode cX4_bringLightest 36 = .ok (.if_icmp .ge 5, 3) := by decide +kernel
theorem dX4_bringLightest_39 : decode cX4_bringLightest 39 = .ok (.iload_n 3, 1) := by decide +kernel
theorem dX4_bringLightest_40 : decode cX4_bringLightest 40 = .ok (.istore_n 2, 1) := by decide +kernel
theorem dX4_bringLightest_41 : decode cX4_bringLightest 41 = .ok (.iinc 3 1, 3) := by decide +kernel
theorem dX4_bringLightest_44 : decode cX4_bringLightest 44 = .ok (.goto (-38), 3) := by decide +kernel
theorem dX4_bringLightest_47 : decode cX4_bringLightest 47 = .ok (.aload_n 0, 1) := by decide +kernel
theorem dX4_bringLightest_48 : decode cX4_bringLightest 48 = .ok (.getfield 15, 3) := by decide +kernel
theorem dX4_bringLightest_51 : decode cX4_bringLightest 51 = .ok (.iload_n 1, 1) := by decide +kernel
theorem dX4_bringLightest_52 : decode cX4_bringLightest 52 = .ok (.iaload, 1) := by decide +kernel
theorem dX4_bringLightest_53 : decode cX4_bringLightest 53 = .ok (.istore_n 3, 1) := by decide +kernel
theorem dX4_bringLightest_54 : decode cX4_bringLightest 54 = .ok (.aload_n 0, 1) := by decide +kernel
theorem dX4_bringLightest_55 : decode cX4_bringLightest 55 = .ok (.getfield 15, 3) := by decide +kernel
theorem dX4_bringLightest_58 : decode cX4_bringLightest 58 = .ok (.iload_n 1, 1) := by decide +kernel
theorem dX4_bringLightest_59 : decode cX4_bringLightest 59 = .ok (.aload_n 0, 1) := by decide +kernel
theorem dX4_bringLightest_60 : decode cX4_bringLightest 60 = .ok (.getfield 15, 3) := by decide +kernel
theorem dX4_bringLightest_63 : decode cX4_bringLightest 63 = .ok (.iload_n 2, 1) := by decide +kernel
theorem dX4_bringLightest_64 : decode cX4_bringLightest 64 = .ok (.iaload, 1) := by decide +kernel
theorem dX4_bringLightest_65 : decode cX4_bringLightest 65 = .ok (.iastore, 1) := by decide +kernel
theorem dX4_bringLightest_66 : decode cX4_bringLightest 66 = .ok (.aload_n 0, 1) := by decide +kernel
theorem dX4_bringLightest_67 : decode cX4_bringLightest 67 = .ok (.getfield 15, 3) := by decide +kernel
theorem dX4_bringLightest_70 : decode cX4_bringLightest 70 = .ok (.iload_n 2, 1) := by decide +kernel
theorem dX4_bringLightest_71 : decode cX4_bringLightest 71 = .ok (.iload_n 3, 1) := by decide +kernel
theorem dX4_bringLightest_72 : decode cX4_bringLightest 72 = .ok (.iastore, 1) := by decide +kernel
theorem dX4_bringLightest_73 : decode cX4_bringLightest 73 = .ok (.return_, 1) := by decide +kernel
theorem dX4_lightenFrom_0 : decode cX4_lightenFrom 0 = .ok (.iconst 0, 1) := by decide +kernel
theorem dX4_lightenFrom_1 : decode cX4_lightenFrom 1 = .ok (.istore_n 2, 1) := by decide +kernel
theorem dX4_lightenFrom_2 : decode cX4_lightenFrom 2 = .ok (.iload_n 2, 1) := by decide +kernel
theorem dX4_lightenFrom_3 : decode cX4_lightenFrom 3 = .ok (.aload_n 0, 1) := by decide +kernel
theorem dX4_lightenFrom_4 : decode cX4_lightenFrom 4 = .ok (.getfield 45, 3) := by decide +kernel
theorem dX4_lightenFrom_7 : decode cX4_lightenFrom 7 = .ok (.getfield 72, 3) := by decide +kernel
theorem dX4_lightenFrom_10 : decode cX4_lightenFrom 10 = .ok (.if_icmp .ge 102, 3) := by decide +kernel
theorem dX4_lightenFrom_13 : decode cX4_lightenFrom 13 = .ok (.aload_n 0, 1) := by decide +kernel
theorem dX4_lightenFrom_14 : decode cX4_lightenFrom 14 = .ok (.iload_n 1, 1) := by decide +kernel
theorem dX4_lightenFrom_15 : decode cX4_lightenFrom 15 = .ok (.iload_n 2, 1) := by decide +kernel
theorem dX4_lightenFrom_16 : decode cX4_lightenFrom 16 = .ok (.invokevirtual 77, 3) := by decide +kernel
theorem dX4_lightenFrom_19 : decode cX4_lightenFrom 19 = .ok (.istore_n 3, 1) := by decide +kernel
theorem dX4_lightenFrom_20 : decode cX4_lightenFrom 20 = .ok (.iload_n 3, 1) := by decide +kernel
theorem dX4_lightenFrom_21 : decode cX4_lightenFrom 21 = .ok (.iconst (-1), 1) := by decide +kernel
theorem dX4_lightenFrom_22 : decode cX4_lightenFrom 22 = .ok (.if_icmp .ne 6, 3) := by decide +kernel
theorem dX4_lightenFrom_25 : decode cX4_lightenFrom 25 = .ok (.goto 81, 3) := by decide +kernel
theorem dX4_lightenFrom_28 : decode cX4_lightenFrom 28 = .ok (.aload_n 0, 1) := by decide +kernel
theorem dX4_lightenFrom_29 : decode cX4_lightenFrom 29 = .ok (.iload_n 1, 1) := by decide +kernel
theorem dX4_lightenFrom_30 : decode cX4_lightenFrom 30 = .ok (.iload_n 2, 1) := by decide +kernel
theorem dX4_lightenFrom_31 : decode cX4_lightenFrom 31 = .ok (.invokevirtual 81, 3) := by decide +kernel
theorem dX4_lightenFrom_34 : decode cX4_lightenFrom 34 = .ok (.istore 4, 2) := by decide +kernel
theorem dX4_lightenFrom_36 : decode cX4_lightenFrom 36 = .ok (.aload_n 0, 1) := by decide +kernel
theorem dX4_lightenFrom_37 : decode cX4_lightenFrom 37 = .ok (.getfield 9, 3) := by decide +kernel
theorem dX4_lightenFrom_40 : decode cX4_lightenFrom 40 = .ok (.iload_n 3, 1) := by decide +kernel
theorem dX4_lightenFrom_41 : decode cX4_lightenFrom 41 = .ok (.iaload, 1) := by decide +kernel
theorem dX4_lightenFrom_42 : decode cX4_lightenFrom 42 = .ok (.iconst (-1), 1) := by decide +kernel
theorem dX4_lightenFrom_43 : decode cX4_lightenFrom 43 = .ok (.if_icmp .ne 44, 3) := by decide +kernel
theorem dX4_lightenFrom_46 : decode cX4_lightenFrom 46 = .ok (.aload_n 0, 1) := by decide +kernel
theorem dX4_lightenFrom_47 : decode cX4_lightenFrom 47 = .ok (.getfield 25, 3) := by decide +kernel
theorem dX4_lightenFrom_50 : decode cX4_lightenFrom 50 = .ok (.sipush 300, 3) := by decide +kernel
theorem dX4_lightenFrom_53 : decode cX4_lightenFrom 53 = .ok (.if_icmp .ge 34, 3) := by decide +kernel
theorem dX4_lightenFrom_56 : decode cX4_lightenFrom 56 = .ok (.aload_n 0, 1) := by decide +kernel
theorem dX4_lightenFrom_57 : decode cX4_lightenFrom 57 = .ok (.getfield 9, 3) := by decide +kernel
theorem dX4_lightenFrom_60 : decode cX4_lightenFrom 60 = .ok (.iload_n 3, 1) := by decide +kernel
theorem dX4_lightenFrom_61 : decode cX4_lightenFrom 61 = .ok (.iload 4, 2) := by decide +kernel
theorem dX4_lightenFrom_63 : decode cX4_lightenFrom 63 = .ok (.iastore, 1) := by decide +kernel
theorem dX4_lightenFrom_64 : decode cX4_lightenFrom 64 = .ok (.aload_n 0, 1) := by decide +kernel
theorem dX4_lightenFrom_65 : decode cX4_lightenFrom 65 = .ok (.getfield 15, 3) := by decide +kernel
theorem dX4_lightenFrom_68 : decode cX4_lightenFrom 68 = .ok (.aload_n 0, 1) := by decide +kernel
theorem dX4_lightenFrom_69 : decode cX4_lightenFrom 69 = .ok (.getfield 25, 3) := by decide +kernel
theorem dX4_lightenFrom_72 : decode cX4_lightenFrom 72 = .ok (.iload_n 3, 1) := by decide +kernel
theorem dX4_lightenFrom_73 : decode cX4_lightenFrom 73 = .ok (.iastore, 1) := by decide +kernel
theorem dX4_lightenFrom_74 : decode cX4_lightenFrom 74 = .ok (.aload_n 0, 1) := by decide +kernel
theorem dX4_lightenFrom_75 : decode cX4_lightenFrom 75 = .ok (.dup, 1) := by decide +kernel
theorem dX4_lightenFrom_76 : decode cX4_lightenFrom 76 = .ok (.getfield 25, 3) := by decide +kernel
theorem dX4_lightenFrom_79 : decode cX4_lightenFrom 79 = .ok (.iconst 1, 1) := by decide +kernel
theorem dX4_lightenFrom_80 : decode cX4_lightenFrom 80 = .ok (.iadd, 1) := by decide +kernel
theorem dX4_lightenFrom_81 : decode cX4_lightenFrom 81 = .ok (.putfield 25, 3) := by decide +kernel
theorem dX4_lightenFrom_84 : decode cX4_lightenFrom 84 = .ok (.goto 22, 3) := by decide +kernel
theorem dX4_lightenFrom_87 : decode cX4_lightenFrom 87 = .ok (.iload 4, 2) := by decide +kernel
theorem dX4_lightenFrom_89 : decode cX4_lightenFrom 89 = .ok (.aload_n 0, 1) := by decide +kernel
theorem dX4_lightenFrom_90 : decode cX4_lightenFrom 90 = .ok (.getfield 9, 3) := by decide +kernel
theorem dX4_lightenFrom_93 : decode cX4_lightenFrom 93 = .ok (.iload_n 3, 1) := by decide +kernel
theorem dX4_lightenFrom_94 : decode cX4_lightenFrom 94 = .ok (.iaload, 1) := by decide +kernel
theorem dX4_lightenFrom_95 : decode cX4_lightenFrom 95 = .ok (.if_icmp .ge 11, 3) := by decide +kernel
theorem dX4_lightenFrom_98 : decode cX4_lightenFrom 98 = .ok (.aload_n 0, 1) := by decide +kernel
theorem dX4_lightenFrom_99 : decode cX4_lightenFrom 99 = .ok (.getfield 9, 3) := by decide +kernel
theorem dX4_lightenFrom_102 : decode cX4_lightenFrom 102 = .ok (.iload_n 3, 1) := by decide +kernel
theorem dX4_lightenFrom_103 : decode cX4_lightenFrom 103 = .ok (.iload 4, 2) := by decide +kernel
theorem dX4_lightenFrom_105 : decode cX4_lightenFrom 105 = .ok (.iastore, 1) := by decide +kernel
theorem dX4_lightenFrom_106 : decode cX4_lightenFrom 106 = .ok (.iinc 2 1, 3) := by decide +kernel
theorem dX4_lightenFrom_109 : decode cX4_lightenFrom 109 = .ok (.goto (-107), 3) := by decide +kernel
theorem dX4_lightenFrom_112 : decode cX4_lightenFrom 112 = .ok (.return_, 1) := by decide +kernel
theorem dX4_comesTo_0 : decode cX4_comesTo 0 = .ok (.aload_n 0, 1) := by decide +kernel
theorem dX4_comesTo_1 : decode cX4_comesTo 1 = .ok (.getfield 49, 3) := by decide +kernel
theorem dX4_comesTo_4 : decode cX4_comesTo 4 = .ok (.getfield 84, 3) := by decide +kernel
theorem dX4_comesTo_7 : decode cX4_comesTo 7 = .ok (.iload_n 1, 1) := by decide +kernel
theorem dX4_comesTo_8 : decode cX4_comesTo 8 = .ok (.iaload, 1) := by decide +kernel
theorem dX4_comesTo_9 : decode cX4_comesTo 9 = .ok (.istore_n 3, 1) := by decide +kernel
theorem dX4_comesTo_10 : decode cX4_comesTo 10 = .ok (.aload_n 0, 1) := by decide +kernel
theorem dX4_comesTo_11 : decode cX4_comesTo 11 = .ok (.getfield 45, 3) := by decide +kernel
theorem dX4_comesTo_14 : decode cX4_comesTo 14 = .ok (.iload_n 3, 1) := by decide +kernel
theorem dX4_comesTo_15 : decode cX4_comesTo 15 = .ok (.iload_n 2, 1) := by decide +kernel
theorem dX4_comesTo_16 : decode cX4_comesTo 16 = .ok (.invokevirtual 87, 3) := by decide +kernel
theorem dX4_comesTo_19 : decode cX4_comesTo 19 = .ok (.ifCond .eq 22, 3) := by decide +kernel
theorem dX4_comesTo_22 : decode cX4_comesTo 22 = .ok (.aload_n 0, 1) := by decide +kernel
theorem dX4_comesTo_23 : decode cX4_comesTo 23 = .ok (.getfield 49, 3) := by decide +kernel
theorem dX4_comesTo_26 : decode cX4_comesTo 26 = .ok (.aload_n 0, 1) := by decide +kernel
theorem dX4_comesTo_27 : decode cX4_comesTo 27 = .ok (.getfield 45, 3) := by decide +kernel
theorem dX4_comesTo_30 : decode cX4_comesTo 30 = .ok (.iload_n 3, 1) := by decide +kernel
theorem dX4_comesTo_31 : decode cX4_comesTo 31 = .ok (.iload_n 2, 1) := by decide +kernel
theorem dX4_comesTo_32 : decode cX4_comesTo 32 = .ok (.invokevirtual 91, 3) := by decide +kernel
theorem dX4_comesTo_35 : decode cX4_comesTo 35 = .ok (.invokevirtual 94, 3) := by decide +kernel
theorem dX4_comesTo_38 : decode cX4_comesTo 38 = .ok (.goto 4, 3) := by decide +kernel
theorem dX4_comesTo_41 : decode cX4_comesTo 41 = .ok (.iconst (-1), 1) := by decide +kernel
theorem dX4_comesTo_42 : decode cX4_comesTo 42 = .ok (.ireturn, 1) := by decide +kernel
theorem dX4_weightBy_0 : decode cX4_weightBy 0 = .ok (.aload_n 0, 1) := by decide +kernel
theorem dX4_weightBy_1 : decode cX4_weightBy 1 = .ok (.getfield 9, 3) := by decide +kernel
theorem dX4_weightBy_4 : decode cX4_weightBy 4 = .ok (.iload_n 1, 1) := by decide +kernel
theorem dX4_weightBy_5 : decode cX4_weightBy 5 = .ok (.iaload, 1) := by decide +kernel
theorem dX4_weightBy_6 : decode cX4_weightBy 6 = .ok (.aload_n 0, 1) := by decide +kernel
theorem dX4_weightBy_7 : decode cX4_weightBy 7 = .ok (.getfield 45, 3) := by decide +kernel
theorem dX4_weightBy_10 : decode cX4_weightBy 10 = .ok (.getfield 98, 3) := by decide +kernel
theorem dX4_weightBy_13 : decode cX4_weightBy 13 = .ok (.iload_n 2, 1) := by decide +kernel
theorem dX4_weightBy_14 : decode cX4_weightBy 14 = .ok (.iaload, 1) := by decide +kernel
theorem dX4_weightBy_15 : decode cX4_weightBy 15 = .ok (.sipush 1000, 3) := by decide +kernel
theorem dX4_weightBy_18 : decode cX4_weightBy 18 = .ok (.imul, 1) := by decide +kernel
theorem dX4_weightBy_19 : decode cX4_weightBy 19 = .ok (.iadd, 1) := by decide +kernel
theorem dX4_weightBy_20 : decode cX4_weightBy 20 = .ok (.iconst 1, 1) := by decide +kernel
theorem dX4_weightBy_21 : decode cX4_weightBy 21 = .ok (.iadd, 1) := by decide +kernel
theorem dX4_weightBy_22 : decode cX4_weightBy 22 = .ok (.ireturn, 1) := by decide +kernel
theorem dX4_choose_0 : decode cX4_choose 0 = .ok (.aload_n 0, 1) := by decide +kernel
theorem dX4_choose_1 : decode cX4_choose 1 = .ok (.getfield 33, 3) := by decide +kernel
theorem dX4_choose_4 : decode cX4_choose 4 = .ok (.ifCond .eq 4, 3) := by decide +kernel
theorem dX4_choose_7 : decode cX4_choose 7 = .ok (.return_, 1) := by decide +kernel
theorem dX4_choose_8 : decode cX4_choose 8 = .ok (.aload_n 0, 1) := by decide +kernel
theorem dX4_choose_9 : decode cX4_choose 9 = .ok (.iconst 1, 1) := by decide +kernel
theorem dX4_choose_10 : decode cX4_choose 10 = .ok (.putfield 33, 3) := by decide +kernel
theorem dX4_choose_13 : decode cX4_choose 13 = .ok (.aload_n 0, 1) := by decide +kernel
theorem dX4_choose_14 : decode cX4_choose 14 = .ok (.invokevirtual 101, 3) := by decide +kernel
theorem dX4_choose_17 : decode cX4_choose 17 = .ok (.aload_n 0, 1) := by decide +kernel
theorem dX4_choose_18 : decode cX4_choose 18 = .ok (.iload_n 1, 1) := by decide +kernel
theorem dX4_choose_19 : decode cX4_choose 19 = .ok (.invokevirtual 104, 3) := by decide +kernel
theorem dX4_choose_22 : decode cX4_choose 22 = .ok (.istore_n 2, 1) := by decide +kernel
theorem dX4_choose_23 : decode cX4_choose 23 = .ok (.aload_n 0, 1) := by decide +kernel
theorem dX4_choose_24 : decode cX4_choose 24 = .ok (.iload_n 2, 1) := by decide +kernel
theorem dX4_choose_25 : decode cX4_choose 25 = .ok (.iconst (-1), 1) := by decide +kernel
theorem dX4_choose_26 : decode cX4_choose 26 = .ok (.if_icmp .eq 7, 3) := by decide +kernel
theorem dX4_choose_29 : decode cX4_choose 29 = .ok (.iconst 1, 1) := by decide +kernel
theorem dX4_choose_30 : decode cX4_choose 30 = .ok (.goto 4, 3) := by decide +kernel
theorem dX4_choose_33 : decode cX4_choose 33 = .ok (.iconst 0, 1) := by decide +kernel
theorem dX4_choose_34 : decode cX4_choose 34 = .ok (.putfield 36, 3) := by decide +kernel
theorem dX4_choose_37 : decode cX4_choose 37 = .ok (.aload_n 0, 1) := by decide +kernel
theorem dX4_choose_38 : decode cX4_choose 38 = .ok (.iconst 0, 1) := by decide +kernel
theorem dX4_choose_39 : decode cX4_choose 39 = .ok (.putfield 39, 3) := by decide +kernel
theorem dX4_choose_42 : decode cX4_choose 42 = .ok (.aload_n 0, 1) := by decide +kernel
theorem dX4_choose_43 : decode cX4_choose 43 = .ok (.iconst 0, 1) := by decide +kernel
theorem dX4_choose_44 : decode cX4_choose 44 = .ok (.putfield 42, 3) := by decide +kernel
theorem dX4_choose_47 : decode cX4_choose 47 = .ok (.aload_n 0, 1) := by decide +kernel
theorem dX4_choose_48 : decode cX4_choose 48 = .ok (.getfield 36, 3) := by decide +kernel
theorem dX4_choose_51 : decode cX4_choose 51 = .ok (.ifCond .ne 4, 3) := by decide +kernel
theorem dX4_choose_54 : decode cX4_choose 54 = .ok (.return_, 1) := by decide +kernel
theorem dX4_choose_55 : decode cX4_choose 55 = .ok (.aload_n 0, 1) := by decide +kernel
theorem dX4_choose_56 : decode cX4_choose 56 = .ok (.iload_n 1, 1) := by decide +kernel
theorem dX4_choose_57 : decode cX4_choose 57 = .ok (.iload_n 2, 1) := by decide +kernel
theorem dX4_choose_58 : decode cX4_choose 58 = .ok (.invokevirtual 107, 3) := by decide +kernel
theorem dX4_choose_61 : decode cX4_choose 61 = .ok (.aload_n 0, 1) := by decide +kernel
theorem dX4_choose_62 : decode cX4_choose 62 = .ok (.iload_n 2, 1) := by decide +kernel
theorem dX4_choose_63 : decode cX4_choose 63 = .ok (.sipush 1000, 3) := by decide +kernel
theorem dX4_choose_66 : decode cX4_choose 66 = .ok (.idiv, 1) := by decide +kernel
theorem dX4_choose_67 : decode cX4_choose 67 = .ok (.putfield 42, 3) := by decide +kernel
theorem dX4_choose_70 : decode cX4_choose 70 = .ok (.iload_n 2, 1) := by decide +kernel
theorem dX4_choose_71 : decode cX4_choose 71 = .ok (.sipush 1000, 3) := by decide +kernel
theorem dX4_choose_74 : decode cX4_choose 74 = .ok (.irem, 1) := by decide +kernel
theorem dX4_choose_75 : decode cX4_choose 75 = .ok (.istore_n 3, 1) := by decide +kernel
theorem dX4_choose_76 : decode cX4_choose 76 = .ok (.iconst 0, 1) := by decide +kernel
theorem dX4_choose_77 : decode cX4_choose 77 = .ok (.istore 4, 2) := by decide +kernel
theorem dX4_choose_79 : decode cX4_choose 79 = .ok (.iconst 0, 1) := by decide +kernel
theorem dX4_choose_80 : decode cX4_choose 80 = .ok (.istore 5, 2) := by decide +kernel
theorem dX4_choose_82 : decode cX4_choose 82 = .ok (.iload 5, 2) := by decide +kernel
theorem dX4_choose_84 : decode cX4_choose 84 = .ok (.iload_n 3, 1) := by decide +kernel
theorem dX4_choose_85 : decode cX4_choose 85 = .ok (.if_icmp .ge 67, 3) := by decide +kernel
theorem dX4_choose_88 : decode cX4_choose 88 = .ok (.iload 5, 2) := by decide +kernel
theorem dX4_choose_90 : decode cX4_choose 90 = .ok (.sipush 300, 3) := by decide +kernel
theorem dX4_choose_93 : decode cX4_choose 93 = .ok (.if_icmp .ge 59, 3) := by decide +kernel
theorem dX4_choose_96 : decode cX4_choose 96 = .ok (.iload 4, 2) := by decide +kernel
theorem dX4_choose_98 : decode cX4_choose 98 = .ok (.iconst (-1), 1) := by decide +kernel
theorem dX4_choose_99 : decode cX4_choose 99 = .ok (.if_icmp .eq 53, 3) := by decide +kernel
theorem dX4_choose_102 : decode cX4_choose 102 = .ok (.aload_n 0, 1) := by decide +kernel
theorem dX4_choose_103 : decode cX4_choose 103 = .ok (.iload 4, 2) := by decide +kernel
theorem dX4_choose_105 : decode cX4_choose 105 = .ok (.invokevirtual 111, 3) := by decide +kernel
theorem dX4_choose_108 : decode cX4_choose 108 = .ok (.istore 6, 2) := by decide +kernel
theorem dX4_choose_110 : decode cX4_choose 110 = .ok (.iload 6, 2) := by decide +kernel
theorem dX4_choose_112 : decode cX4_choose 112 = .ok (.iconst (-1), 1) := by decide +kernel
theorem dX4_choose_113 : decode cX4_choose 113 = .ok (.if_icmp .ne 6, 3) := by decide +kernel
theorem dX4_choose_116 : decode cX4_choose 116 = .ok (.goto 36, 3) := by decide +kernel
theorem dX4_choose_119 : decode cX4_choose 119 = .ok (.aload_n 0, 1) := by decide +kernel
theorem dX4_choose_120 : decode cX4_choose 120 = .ok (.getfield 22, 3) := by decide +kernel
theorem dX4_choose_123 : decode cX4_choose 123 = .ok (.iload 5, 2) := by decide +kernel
theorem dX4_choose_125 : decode cX4_choose 125 = .ok (.iload 6, 2) := by decide +kernel
theorem dX4_choose_127 : decode cX4_choose 127 = .ok (.iastore, 1) := by decide +kernel
theorem dX4_choose_128 : decode cX4_choose 128 = .ok (.aload_n 0, 1) := by decide +kernel
theorem dX4_choose_129 : decode cX4_choose 129 = .ok (.iload 5, 2) := by decide +kernel
theorem dX4_choose_131 : decode cX4_choose 131 = .ok (.iconst 1, 1) := by decide +kernel
theorem dX4_choose_132 : decode cX4_choose 132 = .ok (.iadd, 1) := by decide +kernel
theorem dX4_choose_133 : decode cX4_choose 133 = .ok (.putfield 39, 3) := by decide +kernel
theorem dX4_choose_136 : decode cX4_choose 136 = .ok (.aload_n 0, 1) := by decide +kernel
theorem dX4_choose_137 : decode cX4_choose 137 = .ok (.iload 4, 2) := by decide +kernel
theorem dX4_choose_139 : decode cX4_choose 139 = .ok (.iload 6, 2) := by decide +kernel
theorem dX4_choose_141 : decode cX4_choose 141 = .ok (.invokevirtual 77, 3) := by decide +kernel
theorem dX4_choose_144 : decode cX4_choose 144 = .ok (.istore 4, 2) := by decide +kernel
theorem dX4_choose_146 : decode cX4_choose 146 = .ok (.iinc 5 1, 3) := by decide +kernel
theorem dX4_choose_149 : decode cX4_choose 149 = .ok (.goto (-67), 3) := by decide +kernel
theorem dX4_choose_152 : decode cX4_choose 152 = .ok (.return_, 1) := by decide +kernel
theorem dX4_leastWithGoal_0 : decode cX4_leastWithGoal 0 = .ok (.iconst 0, 1) := by decide +kernel
theorem dX4_leastWithGoal_1 : decode cX4_leastWithGoal 1 = .ok (.istore_n 2, 1) := by decide +kernel
theorem dX4_leastWithGoal_2 : decode cX4_leastWithGoal 2 = .ok (.iload_n 2, 1) := by decide +kernel
theorem dX4_leastWithGoal_3 : decode cX4_leastWithGoal 3 = .ok (.aload_n 0, 1) := by decide +kernel
theorem dX4_leastWithGoal_4 : decode cX4_leastWithGoal 4 = .ok (.getfield 25, 3) := by decide +kernel
theorem dX4_leastWithGoal_7 : decode cX4_leastWithGoal 7 = .ok (.if_icmp .ge 42, 3) := by decide +kernel
theorem dX4_leastWithGoal_10 : decode cX4_leastWithGoal 10 = .ok (.iload_n 1, 1) := by decide +kernel
theorem dX4_leastWithGoal_11 : decode cX4_leastWithGoal 11 = .ok (.aload_n 0, 1) := by decide +kernel
theorem dX4_leastWithGoal_12 : decode cX4_leastWithGoal 12 = .ok (.getfield 49, 3) := by decide +kernel
theorem dX4_leastWithGoal_15 : decode cX4_leastWithGoal 15 = .ok (.getfield 84, 3) := by decide +kernel
theorem dX4_leastWithGoal_18 : decode cX4_leastWithGoal 18 = .ok (.aload_n 0, 1) := by decide +kernel
theorem dX4_leastWithGoal_19 : decode cX4_leastWithGoal 19 = .ok (.getfield 15, 3) := by decide +kernel
theorem dX4_leastWithGoal_22 : decode cX4_leastWithGoal 22 = .ok (.iload_n 2, 1) := by decide +kernel
theorem dX4_leastWithGoal_23 : decode cX4_leastWithGoal 23 = .ok (.iaload, 1) := by decide +kernel
theorem dX4_leastWithGoal_24 : decode cX4_leastWithGoal 24 = .ok (.iaload, 1) := by decide +kernel
theorem dX4_leastWithGoal_25 : decode cX4_leastWithGoal 25 = .ok (.iconst (-1), 1) := by decide +kernel
theorem dX4_leastWithGoal_26 : decode cX4_leastWithGoal 26 = .ok (.ixor, 1) := by decide +kernel
theorem dX4_leastWithGoal_27 : decode cX4_leastWithGoal 27 = .ok (.iand, 1) := by decide +kernel
theorem dX4_leastWithGoal_28 : decode cX4_leastWithGoal 28 = .ok (.ifCond .ne 15, 3) := by decide +kernel
theorem dX4_leastWithGoal_31 : decode cX4_leastWithGoal 31 = .ok (.aload_n 0, 1) := by decide +kernel
theorem dX4_leastWithGoal_32 : decode cX4_leastWithGoal 32 = .ok (.getfield 9, 3) := by decide +kernel
theorem dX4_leastWithGoal_35 : decode cX4_leastWithGoal 35 = .ok (.aload_n 0, 1) := by decide +kernel
theorem dX4_leastWithGoal_36 : decode cX4_leastWithGoal 36 = .ok (.getfield 15, 3) := by decide +kernel
theorem dX4_leastWithGoal_39 : decode cX4_leastWithGoal 39 = .ok (.iload_n 2, 1) := by decide +kernel
theorem dX4_leastWithGoal_40 : decode cX4_leastWithGoal 40 = .ok (.iaload, 1) := by decide +kernel
theorem dX4_leastWithGoal_41 : decode cX4_leastWithGoal 41 = .ok (.iaload, 1) := by decide +kernel
theorem dX4_leastWithGoal_42 : decode cX4_leastWithGoal 42 = .ok (.ireturn, 1) := by decide +kernel
theorem dX4_leastWithGoal_43 : decode cX4_leastWithGoal 43 = .ok (.iinc 2 1, 3) := by decide +kernel
theorem dX4_leastWithGoal_46 : decode cX4_leastWithGoal 46 = .ok (.goto (-44), 3) := by decide +kernel
theorem dX4_leastWithGoal_49 : decode cX4_leastWithGoal 49 = .ok (.iconst (-1), 1) := by decide +kernel
theorem dX4_leastWithGoal_50 : decode cX4_leastWithGoal 50 = .ok (.ireturn, 1) := by decide +kernel
theorem dX4_markBest_0 : decode cX4_markBest 0 = .ok (.aload_n 0, 1) := by decide +kernel
theorem dX4_markBest_1 : decode cX4_markBest 1 = .ok (.getfield 25, 3) := by decide +kernel
theorem dX4_markBest_4 : decode cX4_markBest 4 = .ok (.iconst 1, 1) := by decide +kernel
theorem dX4_markBest_5 : decode cX4_markBest 5 = .ok (.isub, 1) := by decide +kernel
theorem dX4_markBest_6 : decode cX4_markBest 6 = .ok (.istore_n 3, 1) := by decide +kernel
theorem dX4_markBest_7 : decode cX4_markBest 7 = .ok (.iload_n 3, 1) := by decide +kernel
theorem dX4_markBest_8 : decode cX4_markBest 8 = .ok (.ifCond .lt 90, 3) := by decide +kernel
theorem dX4_markBest_11 : decode cX4_markBest 11 = .ok (.aload_n 0, 1) := by decide +kernel
theorem dX4_markBest_12 : decode cX4_markBest 12 = .ok (.getfield 15, 3) := by decide +kernel
theorem dX4_markBest_15 : decode cX4_markBest 15 = .ok (.iload_n 3, 1) := by decide +kernel
theorem dX4_markBest_16 : decode cX4_markBest 16 = .ok (.iaload, 1) := by decide +kernel
theorem dX4_markBest_17 : decode cX4_markBest 17 = .ok (.istore 4, 2) := by decide +kernel
theorem dX4_markBest_19 : decode cX4_markBest 19 = .ok (.aload_n 0, 1) := by decide +kernel
theorem dX4_markBest_20 : decode cX4_markBest 20 = .ok (.getfield 9, 3) := by decide +kernel
theorem dX4_markBest_23 : decode cX4_markBest 23 = .ok (.iload 4, 2) := by decide +kernel
theorem dX4_markBest_25 : decode cX4_markBest 25 = .ok (.iaload, 1) := by decide +kernel
theorem dX4_markBest_26 : decode cX4_markBest 26 = .ok (.iload_n 2, 1) := by decide +kernel
theorem dX4_markBest_27 : decode cX4_markBest 27 = .ok (.if_icmp .ne 24, 3) := by decide +kernel
theorem dX4_markBest_30 : decode cX4_markBest 30 = .ok (.iload_n 1, 1) := by decide +kernel
theorem dX4_markBest_31 : decode cX4_markBest 31 = .ok (.aload_n 0, 1) := by decide +kernel
theorem dX4_markBest_32 : decode cX4_markBest 32 = .ok (.getfield 49, 3) := by decide +kernel
theorem dX4_markBest_35 : decode cX4_markBest 35 = .ok (.getfield 84, 3) := by decide +kernel
theorem dX4_markBest_38 : decode cX4_markBest 38 = .ok (.iload 4, 2) := by decide +kernel
theorem dX4_markBest_40 : decode cX4_markBest 40 = .ok (.iaload, 1) := by decide +kernel
theorem dX4_markBest_41 : decode cX4_markBest 41 = .ok (.iconst (-1), 1) := by decide +kernel
theorem dX4_markBest_42 : decode cX4_markBest 42 = .ok (.ixor, 1) := by decide +kernel
theorem dX4_markBest_43 : decode cX4_markBest 43 = .ok (.iand, 1) := by decide +kernel
theorem dX4_markBest_44 : decode cX4_markBest 44 = .ok (.ifCond .ne 7, 3) := by decide +kernel
theorem dX4_markBest_47 : decode cX4_markBest 47 = .ok (.iconst 1, 1) := by decide +kernel
theorem dX4_markBest_48 : decode cX4_markBest 48 = .ok (.goto 4, 3) := by decide +kernel
theorem dX4_markBest_51 : decode cX4_markBest 51 = .ok (.iconst 0, 1) := by decide +kernel
theorem dX4_markBest_52 : decode cX4_markBest 52 = .ok (.istore 5, 2) := by decide +kernel
theorem dX4_markBest_54 : decode cX4_markBest 54 = .ok (.aload_n 0, 1) := by decide +kernel
theorem dX4_markBest_55 : decode cX4_markBest 55 = .ok (.getfield 18, 3) := by decide +kernel
theorem dX4_markBest_58 : decode cX4_markBest 58 = .ok (.iload 4, 2) := by decide +kernel
theorem dX4_markBest_60 : decode cX4_markBest 60 = .ok (.iload 5, 2) := by decide +kernel
theorem dX4_markBest_62 : decode cX4_markBest 62 = .ok (.ifCond .ne 24, 3) := by decide +kernel
theorem dX4_markBest_65 : decode cX4_markBest 65 = .ok (.aload_n 0, 1) := by decide +kernel
theorem dX4_markBest_66 : decode cX4_markBest 66 = .ok (.getfield 9, 3) := by decide +kernel
theorem dX4_markBest_69 : decode cX4_markBest 69 = .ok (.iload 4, 2) := by decide +kernel
theorem dX4_markBest_71 : decode cX4_markBest 71 = .ok (.iaload, 1) := by decide +kernel
theorem dX4_markBest_72 : decode cX4_markBest 72 = .ok (.iload_n 2, 1) := by decide +kernel
theorem dX4_markBest_73 : decode cX4_markBest 73 = .ok (.if_icmp .ge 17, 3) := by decide +kernel
theorem dX4_markBest_76 : decode cX4_markBest 76 = .ok (.aload_n 0, 1) := by decide +kernel
theorem dX4_markBest_77 : decode cX4_markBest 77 = .ok (.iload 4, 2) := by decide +kernel
theorem dX4_markBest_79 : decode cX4_markBest 79 = .ok (.invokevirtual 111, 3) := by decide +kernel
theorem dX4_markBest_82 : decode cX4_markBest 82 = .ok (.iconst (-1), 1) := by decide +kernel
theorem dX4_markBest_83 : decode cX4_markBest 83 = .ok (.if_icmp .eq 7, 3) := by decide +kernel
theorem dX4_markBest_86 : decode cX4_markBest 86 = .ok (.iconst 1, 1) := by decide +kernel
theorem dX4_markBest_87 : decode cX4_markBest 87 = .ok (.goto 4, 3) := by decide +kernel
theorem dX4_markBest_90 : decode cX4_markBest 90 = .ok (.iconst 0, 1) := by decide +kernel
theorem dX4_markBest_91 : decode cX4_markBest 91 = .ok (.bastore, 1) := by decide +kernel
theorem dX4_markBest_92 : decode cX4_markBest 92 = .ok (.iinc 3 (-1), 3) := by decide +kernel
theorem dX4_markBest_95 : decode cX4_markBest 95 = .ok (.goto (-88), 3) := by decide +kernel
theorem dX4_markBest_98 : decode cX4_markBest 98 = .ok (.return_, 1) := by decide +kernel
theorem dX4_leastOnward_0 : decode cX4_leastOnward 0 = .ok (.iconst 0, 1) := by decide +kernel
theorem dX4_leastOnward_1 : decode cX4_leastOnward 1 = .ok (.istore_n 2, 1) := by decide +kernel
theorem dX4_leastOnward_2 : decode cX4_leastOnward 2 = .ok (.iload_n 2, 1) := by decide +kernel
theorem dX4_leastOnward_3 : decode cX4_leastOnward 3 = .ok (.aload_n 0, 1) := by decide +kernel
theorem dX4_leastOnward_4 : decode cX4_leastOnward 4 = .ok (.getfield 45, 3) := by decide +kernel
theorem dX4_leastOnward_7 : decode cX4_leastOnward 7 = .ok (.getfield 72, 3) := by decide +kernel
theorem dX4_leastOnward_10 : decode cX4_leastOnward 10 = .ok (.if_icmp .ge 47, 3) := by decide +kernel
theorem dX4_leastOnward_13 : decode cX4_leastOnward 13 = .ok (.aload_n 0, 1) := by decide +kernel
theorem dX4_leastOnward_14 : decode cX4_leastOnward 14 = .ok (.iload_n 1, 1) := by decide +kernel
theorem dX4_leastOnward_15 : decode cX4_leastOnward 15 = .ok (.iload_n 2, 1) := by decide +kernel
theorem dX4_leastOnward_16 : decode cX4_leastOnward 16 = .ok (.invokevirtual 77, 3) := by decide +kernel
theorem dX4_leastOnward_19 : decode cX4_leastOnward 19 = .ok (.istore_n 3, 1) := by decide +kernel
theorem dX4_leastOnward_20 : decode cX4_leastOnward 20 = .ok (.iload_n 3, 1) := by decide +kernel
theorem dX4_leastOnward_21 : decode cX4_leastOnward 21 = .ok (.iconst (-1), 1) := by decide +kernel
theorem dX4_leastOnward_22 : decode cX4_leastOnward 22 = .ok (.if_icmp .eq 29, 3) := by decide +kernel
theorem dX4_leastOnward_25 : decode cX4_leastOnward 25 = .ok (.aload_n 0, 1) := by decide +kernel
theorem dX4_leastOnward_26 : decode cX4_leastOnward 26 = .ok (.getfield 9, 3) := by decide +kernel
theorem dX4_leastOnward_29 : decode cX4_leastOnward 29 = .ok (.iload_n 3, 1) := by decide +kernel
theorem dX4_leastOnward_30 : decode cX4_leastOnward 30 = .ok (.iaload, 1) := by decide +kernel
theorem dX4_leastOnward_31 : decode cX4_leastOnward 31 = .ok (.aload_n 0, 1) := by decide +kernel
theorem dX4_leastOnward_32 : decode cX4_leastOnward 32 = .ok (.iload_n 1, 1) := by decide +kernel
theorem dX4_leastOnward_33 : decode cX4_leastOnward 33 = .ok (.iload_n 2, 1) := by decide +kernel
theorem dX4_leastOnward_34 : decode cX4_leastOnward 34 = .ok (.invokevirtual 81, 3) := by decide +kernel
theorem dX4_leastOnward_37 : decode cX4_leastOnward 37 = .ok (.if_icmp .ne 14, 3) := by decide +kernel
theorem dX4_leastOnward_40 : decode cX4_leastOnward 40 = .ok (.aload_n 0, 1) := by decide +kernel
theorem dX4_leastOnward_41 : decode cX4_leastOnward 41 = .ok (.getfield 18, 3) := by decide +kernel
theorem dX4_leastOnward_44 : decode cX4_leastOnward 44 = .ok (.iload_n 3, 1) := by decide +kernel
theorem dX4_leastOnward_45 : decode cX4_leastOnward 45 = .ok (.baload, 1) := by decide +kernel
theorem dX4_leastOnward_46 : decode cX4_leastOnward 46 = .ok (.ifCond .eq 5, 3) := by decide +kernel
theorem dX4_leastOnward_49 : decode cX4_leastOnward 49 = .ok (.iload_n 2, 1) := by decide +kernel
theorem dX4_leastOnward_50 : decode cX4_leastOnward 50 = .ok (.ireturn, 1) := by decide +kernel
theorem dX4_leastOnward_51 : decode cX4_leastOnward 51 = .ok (.iinc 2 1, 3) := by decide +kernel
theorem dX4_leastOnward_54 : decode cX4_leastOnward 54 = .ok (.goto (-52), 3) := by decide +kernel
theorem dX4_leastOnward_57 : decode cX4_leastOnward 57 = .ok (.iconst (-1), 1) := by decide +kernel
theorem dX4_leastOnward_58 : decode cX4_leastOnward 58 = .ok (.ireturn, 1) := by decide +kernel
theorem dX5_init_0 : decode cX5_init 0 = .ok (.aload_n 0, 1) := by decide +kernel
theorem dX5_init_1 : decode cX5_init 1 = .ok (.invokespecial 1, 3) := by decide +kernel
theorem dX5_init_4 : decode cX5_init 4 = .ok (.aload_n 0, 1) := by decide +kernel
theorem dX5_init_5 : decode cX5_init 5 = .ok (.iconst 0, 1) := by decide +kernel
theorem dX5_init_6 : decode cX5_init 6 = .ok (.putfield 7, 3) := by decide +kernel
theorem dX5_init_9 : decode cX5_init 9 = .ok (.aload_n 0, 1) := by decide +kernel
theorem dX5_init_10 : decode cX5_init 10 = .ok (.iconst 0, 1) := by decide +kernel
theorem dX5_init_11 : decode cX5_init 11 = .ok (.putfield 13, 3) := by decide +kernel
theorem dX5_init_14 : decode cX5_init 14 = .ok (.aload_n 0, 1) := by decide +kernel
theorem dX5_init_15 : decode cX5_init 15 = .ok (.iconst 0, 1) := by decide +kernel
theorem dX5_init_16 : decode cX5_init 16 = .ok (.putfield 17, 3) := by decide +kernel
theorem dX5_init_19 : decode cX5_init 19 = .ok (.aload_n 0, 1) := by decide +kernel
theorem dX5_init_20 : decode cX5_init 20 = .ok (.iconst 0, 1) := by decide +kernel
theorem dX5_init_21 : decode cX5_init 21 = .ok (.putfield 20, 3) := by decide +kernel
theorem dX5_init_24 : decode cX5_init 24 = .ok (.aload_n 0, 1) := by decide +kernel
theorem dX5_init_25 : decode cX5_init 25 = .ok (.iconst 0, 1) := by decide +kernel
theorem dX5_init_26 : decode cX5_init 26 = .ok (.putfield 23, 3) := by decide +kernel
theorem dX5_init_29 : decode cX5_init 29 = .ok (.aload_n 0, 1) := by decide +kernel
theorem dX5_init_30 : decode cX5_init 30 = .ok (.iconst 0, 1) := by decide +kernel
theorem dX5_init_31 : decode cX5_init 31 = .ok (.putfield 26, 3) := by decide +kernel
theorem dX5_init_34 : decode cX5_init 34 = .ok (.return_, 1) := by decide +kernel
theorem dX6_init_0 : decode cX6_init 0 = .ok (.aload_n 0, 1) := by decide +kernel
theorem dX6_init_1 : decode cX6_init 1 = .ok (.invokespecial 3, 3) := by decide +kernel
theorem dX6_init_4 : decode cX6_init 4 = .ok (.aload_n 0, 1) := by decide +kernel
theorem dX6_init_5 : decode cX6_init 5 = .ok (.sipush 300, 3) := by decide +kernel
theorem dX6_init_8 : decode cX6_init 8 = .ok (.newarray .int, 2) := by decide +kernel
theorem dX6_init_10 : decode cX6_init 10 = .ok (.putfield 9, 3) := by decide +kernel
theorem dX6_init_13 : decode cX6_init 13 = .ok (.aload_n 0, 1) := by decide +kernel
theorem dX6_init_14 : decode cX6_init 14 = .ok (.sipush 1024, 3) := by decide +kernel
theorem dX6_init_17 : decode cX6_init 17 = .ok (.newarray .int, 2) := by decide +kernel
theorem dX6_init_19 : decode cX6_init 19 = .ok (.putfield 15, 3) := by decide +kernel
theorem dX6_init_22 : decode cX6_init 22 = .ok (.aload_n 0, 1) := by decide +kernel
theorem dX6_init_23 : decode cX6_init 23 = .ok (.iconst 0, 1) := by decide +kernel
theorem dX6_init_24 : decode cX6_init 24 = .ok (.putfield 18, 3) := by decide +kernel
theorem dX6_init_27 : decode cX6_init 27 = .ok (.aload_n 0, 1) := by decide +kernel
theorem dX6_init_28 : decode cX6_init 28 = .ok (.iconst 0, 1) := by decide +kernel
theorem dX6_init_29 : decode cX6_init 29 = .ok (.putfield 22, 3) := by decide +kernel
theorem dX6_init_32 : decode cX6_init 32 = .ok (.aload_n 0, 1) := by decide +kernel
theorem dX6_init_33 : decode cX6_init 33 = .ok (.iconst 0, 1) := by decide +kernel
theorem dX6_init_34 : decode cX6_init 34 = .ok (.putfield 26, 3) := by decide +kernel
theorem dX6_init_37 : decode cX6_init 37 = .ok (.aload_n 0, 1) := by decide +kernel
theorem dX6_init_38 : decode cX6_init 38 = .ok (.aload_n 1, 1) := by decide +kernel
theorem dX6_init_39 : decode cX6_init 39 = .ok (.putfield 29, 3) := by decide +kernel
theorem dX6_init_42 : decode cX6_init 42 = .ok (.return_, 1) := by decide +kernel
theorem dX6_explore_0 : decode cX6_explore 0 = .ok (.aload_n 0, 1) := by decide +kernel
theorem dX6_explore_1 : decode cX6_explore 1 = .ok (.getfield 26, 3) := by decide +kernel
theorem dX6_explore_4 : decode cX6_explore 4 = .ok (.ifCond .eq 4, 3) := by decide +kernel
theorem dX6_explore_7 : decode cX6_explore 7 = .ok (.return_, 1) := by decide +kernel
theorem dX6_explore_8 : decode cX6_explore 8 = .ok (.aload_n 0, 1) := by decide +kernel
theorem dX6_explore_9 : decode cX6_explore 9 = .ok (.iconst 1, 1) := by decide +kernel
theorem dX6_explore_10 : decode cX6_explore 10 = .ok (.putfield 26, 3) := by decide +kernel
theorem dX6_explore_13 : decode cX6_explore 13 = .ok (.aload_n 0, 1) := by decide +kernel
theorem dX6_explore_14 : decode cX6_explore 14 = .ok (.iconst 0, 1) := by decide +kernel
theorem dX6_explore_15 : decode cX6_explore 15 = .ok (.putfield 18, 3) := by decide +kernel
theorem dX6_explore_18 : decode cX6_explore 18 = .ok (.aload_n 0, 1) := by decide +kernel
theorem dX6_explore_19 : decode cX6_explore 19 = .ok (.iconst 0, 1) := by decide +kernel
theorem dX6_explore_20 : decode cX6_explore 20 = .ok (.putfield 22, 3) := by decide +kernel
theorem dX6_explore_23 : decode cX6_explore 23 = .ok (.aload_n 0, 1) := by decide +kernel
theorem dX6_explore_24 : decode cX6_explore 24 = .ok (.getfield 15, 3) := by decide +kernel
theorem dX6_explore_27 : decode cX6_explore 27 = .ok (.iconst 0, 1) := by decide +kernel
theorem dX6_explore_28 : decode cX6_explore 28 = .ok (.invokestatic 33, 3) := by decide +kernel
theorem dX6_explore_31 : decode cX6_explore 31 = .ok (.aload_n 0, 1) := by decide +kernel
theorem dX6_explore_32 : decode cX6_explore 32 = .ok (.iload_n 1, 1) := by decide +kernel
theorem dX6_explore_33 : decode cX6_explore 33 = .ok (.invokevirtual 39, 3) := by decide +kernel
theorem dX6_explore_36 : decode cX6_explore 36 = .ok (.iconst 0, 1) := by decide +kernel
theorem dX6_explore_37 : decode cX6_explore 37 = .ok (.istore_n 2, 1) := by decide +kernel
theorem dX6_explore_38 : decode cX6_explore 38 = .ok (.iload_n 2, 1) := by decide +kernel
theorem dX6_explore_39 : decode cX6_explore 39 = .ok (.sipush 300, 3) := by decide +kernel
theorem dX6_explore_42 : decode cX6_explore 42 = .ok (.if_icmp .ge 85, 3) := by decide +kernel
theorem dX6_explore_45 : decode cX6_explore 45 = .ok (.iload_n 2, 1) := by decide +kernel
theorem dX6_explore_46 : decode cX6_explore 46 = .ok (.aload_n 0, 1) := by decide +kernel
theorem dX6_explore_47 : decode cX6_explore 47 = .ok (.getfield 18, 3) := by decide +kernel
theorem dX6_explore_50 : decode cX6_explore 50 = .ok (.if_icmp .ge 77, 3) := by decide +kernel
theorem dX6_explore_53 : decode cX6_explore 53 = .ok (.aload_n 0, 1) := by decide +kernel
theorem dX6_explore_54 : decode cX6_explore 54 = .ok (.getfield 22, 3) := by decide +kernel
theorem dX6_explore_57 : decode cX6_explore 57 = .ok (.ifCond .ne 70, 3) := by decide +kernel
theorem dX6_explore_60 : decode cX6_explore 60 = .ok (.iconst 0, 1) := by decide +kernel
theorem dX6_explore_61 : decode cX6_explore 61 = .ok (.istore_n 3, 1) := by decide +kernel
theorem dX6_explore_62 : decode cX6_explore 62 = .ok (.iload_n 3, 1) := by decide +kernel
theorem dX6_explore_63 : decode cX6_explore 63 = .ok (.aload_n 0, 1) := by decide +kernel
theorem dX6_explore_64 : decode cX6_explore 64 = .ok (.getfield 29, 3) := by decide +kernel
theorem dX6_explore_67 : decode cX6_explore 67 = .ok (.getfield 43, 3) := by decide +kernel
theorem dX6_explore_70 : decode cX6_explore 70 = .ok (.if_icmp .ge 51, 3) := by decide +kernel
theorem dX6_explore_73 : decode cX6_explore 73 = .ok (.aload_n 0, 1) := by decide +kernel
theorem dX6_explore_74 : decode cX6_explore 74 = .ok (.getfield 22, 3) := by decide +kernel
theorem dX6_explore_77 : decode cX6_explore 77 = .ok (.ifCond .ne 44, 3) := by decide +kernel
theorem dX6_explore_80 : decode cX6_explore 80 = .ok (.aload_n 0, 1) := by decide +kernel
theorem dX6_explore_81 : decode cX6_explore 81 = .ok (.getfield 29, 3) := by decide +kernel
theorem dX6_explore_84 : decode cX6_explore 84 = .ok (.aload_n 0, 1) := by decide +kernel
theorem dX6_explore_85 : decode cX6_explore 85 = .ok (.getfield 9, 3) := by decide +kernel
theorem dX6_explore_88 : decode cX6_explore 88 = .ok (.iload_n 2, 1) := by decide +kernel
theorem dX6_explore_89 : decode cX6_explore 89 = .ok (.iaload, 1) := by decide +kernel
theorem dX6_explore_90 : decode cX6_explore 90 = .ok (.iload_n 3, 1) := by decide +kernel
theorem dX6_explore_91 : decode cX6_explore 91 = .ok (.invokevirtual 46, 3) := by decide +kernel
theorem dX6_explore_94 : decode cX6_explore 94 = .ok (.ifCond .eq 21, 3) := by decide +kernel
theorem dX6_explore_97 : decode cX6_explore 97 = .ok (.aload_n 0, 1) := by decide +kernel
theorem dX6_explore_98 : decode cX6_explore 98 = .ok (.aload_n 0, 1) := by decide +kernel
theorem dX6_explore_99 : decode cX6_explore 99 = .ok (.getfield 29, 3) := by decide +kernel
theorem dX6_explore_102 : decode cX6_explore 102 = .ok (.aload_n 0, 1) := by decide +kernel
theorem dX6_explore_103 : decode cX6_explore 103 = .ok (.getfield 9, 3) := by decide +kernel
theorem dX6_explore_106 : decode cX6_explore 106 = .ok (.iload_n 2, 1) := by decide +kernel
theorem dX6_explore_107 : decode cX6_explore 107 = .ok (.iaload, 1) := by decide +kernel
theorem dX6_explore_108 : decode cX6_explore 108 = .ok (.iload_n 3, 1) := by decide +kernel
theorem dX6_explore_109 : decode cX6_explore 109 = .ok (.invokevirtual 50, 3) := by decide +kernel
theorem dX6_explore_112 : decode cX6_explore 112 = .ok (.invokevirtual 39, 3) := by decide +kernel
theorem dX6_explore_115 : decode cX6_explore 115 = .ok (.iinc 3 1, 3) := by decide +kernel
theorem dX6_explore_118 : decode cX6_explore 118 = .ok (.goto (-56), 3) := by decide +kernel
theorem dX6_explore_121 : decode cX6_explore 121 = .ok (.iinc 2 1, 3) := by decide +kernel
theorem dX6_explore_124 : decode cX6_explore 124 = .ok (.goto (-86), 3) := by decide +kernel
theorem dX6_explore_127 : decode cX6_explore 127 = .ok (.return_, 1) := by decide +kernel
theorem dX6_enter_0 : decode cX6_enter 0 = .ok (.aload_n 0, 1) := by decide +kernel
theorem dX6_enter_1 : decode cX6_enter 1 = .ok (.iload_n 1, 1) := by decide +kernel
theorem dX6_enter_2 : decode cX6_enter 2 = .ok (.invokevirtual 54, 3) := by decide +kernel
theorem dX6_enter_5 : decode cX6_enter 5 = .ok (.istore_n 2, 1) := by decide +kernel
theorem dX6_enter_6 : decode cX6_enter 6 = .ok (.aload_n 0, 1) := by decide +kernel
theorem dX6_enter_7 : decode cX6_enter 7 = .ok (.getfield 15, 3) := by decide +kernel
theorem dX6_enter_10 : decode cX6_enter 10 = .ok (.iload_n 2, 1) := by decide +kernel
theorem dX6_enter_11 : decode cX6_enter 11 = .ok (.iaload, 1) := by decide +kernel
theorem dX6_enter_12 : decode cX6_enter 12 = .ok (.ifCond .eq 4, 3) := by decide +kernel
theorem dX6_enter_15 : decode cX6_enter 15 = .ok (.return_, 1) := by decide +kernel
theorem dX6_enter_16 : decode cX6_enter 16 = .ok (.aload_n 0, 1) := by decide +kernel
theorem dX6_enter_17 : decode cX6_enter 17 = .ok (.getfield 18, 3) := by decide +kernel
theorem dX6_enter_20 : decode cX6_enter 20 = .ok (.sipush 300, 3) := by decide +kernel
theorem dX6_enter_23 : decode cX6_enter 23 = .ok (.if_icmp .lt 9, 3) := by decide +kernel
theorem dX6_enter_26 : decode cX6_enter 26 = .ok (.aload_n 0, 1) := by decide +kernel
theorem dX6_enter_27 : decode cX6_enter 27 = .ok (.iconst 1, 1) := by decide +kernel
theorem dX6_enter_28 : decode cX6_enter 28 = .ok (.putfield 22, 3) := by decide +kernel
theorem dX6_enter_31 : decode cX6_enter 31 = .ok (.return_, 1) := by decide +kernel
theorem dX6_enter_32 : decode cX6_enter 32 = .ok (.aload_n 0, 1) := by decide +kernel
theorem dX6_enter_33 : decode cX6_enter 33 = .ok (.getfield 9, 3) := by decide +kernel
theorem dX6_enter_36 : decode cX6_enter 36 = .ok (.aload_n 0, 1) := by decide +kernel
theorem dX6_enter_37 : decode cX6_enter 37 = .ok (.getfield 18, 3) := by decide +kernel
theorem dX6_enter_40 : decode cX6_enter 40 = .ok (.iload_n 1, 1) := by decide +kernel
theorem dX6_enter_41 : decode cX6_enter 41 = .ok (.iastore, 1) := by decide +kernel
theorem dX6_enter_42 : decode cX6_enter 42 = .ok (.aload_n 0, 1) := by decide +kernel
theorem dX6_enter_43 : decode cX6_enter 43 = .ok (.dup, 1) := by decide +kernel
theorem dX6_enter_44 : decode cX6_enter 44 = .ok (.getfield 18, 3) := by decide +kernel
theorem dX6_enter_47 : decode cX6_enter 47 = .ok (.iconst 1, 1) := by decide +kernel
theorem dX6_enter_48 : decode cX6_enter 48 = .ok (.iadd, 1) := by decide +kernel
theorem dX6_enter_49 : decode cX6_enter 49 = .ok (.putfield 18, 3) := by decide +kernel
theorem dX6_enter_52 : decode cX6_enter 52 = .ok (.aload_n 0, 1) := by decide +kernel
theorem dX6_enter_53 : decode cX6_enter 53 = .ok (.getfield 15, 3) := by decide +kernel
theorem dX6_enter_56 : decode cX6_enter 56 = .ok (.iload_n 2, 1) := by decide +kernel
theorem dX6_enter_57 : decode cX6_enter 57 = .ok (.aload_n 0, 1) := by decide +kernel
theorem dX6_enter_58 : decode cX6_enter 58 = .ok (.getfield 18, 3) := by decide +kernel
theorem dX6_enter_61 : decode cX6_enter 61 = .ok (.iastore, 1) := by decide +kernel
theorem dX6_enter_62 : decode cX6_enter 62 = .ok (.return_, 1) := by decide +kernel
theorem dX6_slotOf_0 : decode cX6_slotOf 0 = .ok (.iload_n 1, 1) := by decide +kernel
theorem dX6_slotOf_1 : decode cX6_slotOf 1 = .ok (.ldc 58, 2) := by decide +kernel
theorem dX6_slotOf_3 : decode cX6_slotOf 3 = .ok (.imul, 1) := by decide +kernel
theorem dX6_slotOf_4 : decode cX6_slotOf 4 = .ok (.bipush 22, 2) := by decide +kernel
theorem dX6_slotOf_6 : decode cX6_slotOf 6 = .ok (.iushr, 1) := by decide +kernel
theorem dX6_slotOf_7 : decode cX6_slotOf 7 = .ok (.istore_n 2, 1) := by decide +kernel
theorem dX6_slotOf_8 : decode cX6_slotOf 8 = .ok (.iconst 0, 1) := by decide +kernel
theorem dX6_slotOf_9 : decode cX6_slotOf 9 = .ok (.istore_n 3, 1) := by decide +kernel
theorem dX6_slotOf_10 : decode cX6_slotOf 10 = .ok (.iload_n 3, 1) := by decide +kernel
theorem dX6_slotOf_11 : decode cX6_slotOf 11 = .ok (.sipush 1024, 3) := by decide +kernel
theorem dX6_slotOf_14 : decode cX6_slotOf 14 = .ok (.if_icmp .ge 46, 3) := by decide +kernel
theorem dX6_slotOf_17 : decode cX6_slotOf 17 = .ok (.aload_n 0, 1) := by decide +kernel
theorem dX6_slotOf_18 : decode cX6_slotOf 18 = .ok (.getfield 15, 3) := by decide +kernel
theorem dX6_slotOf_21 : decode cX6_slotOf 21 = .ok (.iload_n 2, 1) := by decide +kernel
theorem dX6_slotOf_22 : decode cX6_slotOf 22 = .ok (.iaload, 1) := by decide +kernel
theorem dX6_slotOf_23 : decode cX6_slotOf 23 = .ok (.istore 4, 2) := by decide +kernel
theorem dX6_slotOf_25 : decode cX6_slotOf 25 = .ok (.iload 4, 2) := by decide +kernel
theorem dX6_slotOf_27 : decode cX6_slotOf 27 = .ok (.ifCond .eq 33, 3) := by decide +kernel
theorem dX6_slotOf_30 : decode cX6_slotOf 30 = .ok (.aload_n 0, 1) := by decide +kernel
theorem dX6_slotOf_31 : decode cX6_slotOf 31 = .ok (.getfield 9, 3) := by decide +kernel
theorem dX6_slotOf_34 : decode cX6_slotOf 34 = .ok (.iload 4, 2) := by decide +kernel
theorem dX6_slotOf_36 : decode cX6_slotOf 36 = .ok (.iconst 1, 1) := by decide +kernel
theorem dX6_slotOf_37 : decode cX6_slotOf 37 = .ok (.isub, 1) := by decide +kernel
theorem dX6_slotOf_38 : decode cX6_slotOf 38 = .ok (.iaload, 1) := by decide +kernel
theorem dX6_slotOf_39 : decode cX6_slotOf 39 = .ok (.iload_n 1, 1) := by decide +kernel
theorem dX6_slotOf_40 : decode cX6_slotOf 40 = .ok (.if_icmp .ne 6, 3) := by decide +kernel
theorem dX6_slotOf_43 : decode cX6_slotOf 43 = .ok (.goto 17, 3) := by decide +kernel
theorem dX6_slotOf_46 : decode cX6_slotOf 46 = .ok (.iload_n 2, 1) := by decide +kernel
theorem dX6_slotOf_47 : decode cX6_slotOf 47 = .ok (.iconst 1, 1) := by decide +kernel
theorem dX6_slotOf_48 : decode cX6_slotOf 48 = .ok (.iadd, 1) := by decide +kernel
theorem dX6_slotOf_49 : decode cX6_slotOf 49 = .ok (.sipush 1023, 3) := by decide +kernel
theorem dX6_slotOf_52 : decode cX6_slotOf 52 = .ok (.iand, 1) := by decide +kernel
theorem dX6_slotOf_53 : decode cX6_slotOf 53 = .ok (.istore_n 2, 1) := by decide +kernel
theorem dX6_slotOf_54 : decode cX6_slotOf 54 = .ok (.iinc 3 1, 3) := by decide +kernel
theorem dX6_slotOf_57 : decode cX6_slotOf 57 = .ok (.goto (-47), 3) := by decide +kernel
theorem dX6_slotOf_60 : decode cX6_slotOf 60 = .ok (.iload_n 2, 1) := by decide +kernel
theorem dX6_slotOf_61 : decode cX6_slotOf 61 = .ok (.ireturn, 1) := by decide +kernel
theorem dX6_find_0 : decode cX6_find 0 = .ok (.aload_n 0, 1) := by decide +kernel
theorem dX6_find_1 : decode cX6_find 1 = .ok (.getfield 15, 3) := by decide +kernel
theorem dX6_find_4 : decode cX6_find 4 = .ok (.aload_n 0, 1) := by decide +kernel
theorem dX6_find_5 : decode cX6_find 5 = .ok (.iload_n 1, 1) := by decide +kernel
theorem dX6_find_6 : decode cX6_find 6 = .ok (.invokevirtual 54, 3) := by decide +kernel
theorem dX6_find_9 : decode cX6_find 9 = .ok (.iaload, 1) := by decide +kernel
theorem dX6_find_10 : decode cX6_find 10 = .ok (.iconst 1, 1) := by decide +kernel
theorem dX6_find_11 : decode cX6_find 11 = .ok (.isub, 1) := by decide +kernel
theorem dX6_find_12 : decode cX6_find 12 = .ok (.ireturn, 1) := by decide +kernel
theorem dX6_hasNumber_0 : decode cX6_hasNumber 0 = .ok (.iload_n 1, 1) := by decide +kernel
theorem dX6_hasNumber_1 : decode cX6_hasNumber 1 = .ok (.ifCond .lt 15, 3) := by decide +kernel
theorem dX6_hasNumber_4 : decode cX6_hasNumber 4 = .ok (.iload_n 1, 1) := by decide +kernel
theorem dX6_hasNumber_5 : decode cX6_hasNumber 5 = .ok (.aload_n 0, 1) := by decide +kernel
theorem dX6_hasNumber_6 : decode cX6_hasNumber 6 = .ok (.getfield 18, 3) := by decide +kernel
theorem dX6_hasNumber_9 : decode cX6_hasNumber 9 = .ok (.if_icmp .ge 7, 3) := by decide +kernel
theorem dX6_hasNumber_12 : decode cX6_hasNumber 12 = .ok (.iconst 1, 1) := by decide +kernel
theorem dX6_hasNumber_13 : decode cX6_hasNumber 13 = .ok (.goto 4, 3) := by decide +kernel
theorem dX6_hasNumber_16 : decode cX6_hasNumber 16 = .ok (.iconst 0, 1) := by decide +kernel
theorem dX6_hasNumber_17 : decode cX6_hasNumber 17 = .ok (.ireturn, 1) := by decide +kernel
theorem dX6_everWith_0 : decode cX6_everWith 0 = .ok (.iconst 0, 1) := by decide +kernel
theorem dX6_everWith_1 : decode cX6_everWith 1 = .ok (.istore_n 2, 1) := by decide +kernel
theorem dX6_everWith_2 : decode cX6_everWith 2 = .ok (.iconst 0, 1) := by decide +kernel
theorem dX6_everWith_3 : decode cX6_everWith 3 = .ok (.istore_n 3, 1) := by decide +kernel
theorem dX6_everWith_4 : decode cX6_everWith 4 = .ok (.iload_n 3, 1) := by decide +kernel
theorem dX6_everWith_5 : decode cX6_everWith 5 = .ok (.aload_n 0, 1) := by decide +kernel
theorem dX6_everWith_6 : decode cX6_everWith 6 = .ok (.getfield 18, 3) := by decide +kernel
theorem dX6_everWith_9 : decode cX6_everWith 9 = .ok (.if_icmp .ge 31, 3) := by decide +kernel
theorem dX6_everWith_12 : decode cX6_everWith 12 = .ok (.iload_n 1, 1) := by decide +kernel
theorem dX6_everWith_13 : decode cX6_everWith 13 = .ok (.aload_n 0, 1) := by decide +kernel
theorem dX6_everWith_14 : decode cX6_everWith 14 = .ok (.getfield 9, 3) := by decide +kernel
theorem dX6_everWith_17 : decode cX6_everWith 17 = .ok (.iload_n 3, 1) := by decide +kernel
theorem dX6_everWith_18 : decode cX6_everWith 18 = .ok (.iaload, 1) := by decide +kernel
theorem dX6_everWith_19 : decode cX6_everWith 19 = .ok (.iconst (-1), 1) := by decide +kernel
theorem dX6_everWith_20 : decode cX6_everWith 20 = .ok (.ixor, 1) := by decide +kernel
theorem dX6_everWith_21 : decode cX6_everWith 21 = .ok (.iand, 1) := by decide +kernel
theorem dX6_everWith_22 : decode cX6_everWith 22 = .ok (.ifCond .ne 12, 3) := by decide +kernel
theorem dX6_everWith_25 : decode cX6_everWith 25 = .ok (.iload_n 2, 1) := by decide +kernel
theorem dX6_everWith_26 : decode cX6_everWith 26 = .ok (.aload_n 0, 1) := by decide +kernel
theorem dX6_everWith_27 : decode cX6_everWith 27 = .ok (.getfield 9, 3) := by decide +kernel
theorem dX6_everWith_30 : decode cX6_everWith 30 = .ok (.iload_n 3, 1) := by decide +kernel
theorem dX6_everWith_31 : decode cX6_everWith 31 = .ok (.iaload, 1) := by decide +kernel
theorem dX6_everWith_32 : decode cX6_everWith 32 = .ok (.ior, 1) := by decide +kernel
theorem dX6_everWith_33 : decode cX6_everWith 33 = .ok (.istore_n 2, 1) := by decide +kernel
theorem dX6_everWith_34 : decode cX6_everWith 34 = .ok (.iinc 3 1, 3) := by decide +kernel
theorem dX6_everWith_37 : decode cX6_everWith 37 = .ok (.goto (-33), 3) := by decide +kernel
theorem dX6_everWith_40 : decode cX6_everWith 40 = .ok (.iload_n 2, 1) := by decide +kernel
theorem dX6_everWith_41 : decode cX6_everWith 41 = .ok (.ireturn, 1) := by decide +kernel
theorem dX7_init_0 : decode cX7_init 0 = .ok (.aload_n 0, 1) := by decide +kernel
theorem dX7_init_1 : decode cX7_init 1 = .ok (.invokespecial 3, 3) := by decide +kernel
theorem dX7_init_4 : decode cX7_init 4 = .ok (.aload_n 0, 1) := by decide +kernel
theorem dX7_init_5 : decode cX7_init 5 = .ok (.iconst 0, 1) := by decide +kernel
theorem dX7_init_6 : decode cX7_init 6 = .ok (.putfield 9, 3) := by decide +kernel
theorem dX7_init_9 : decode cX7_init 9 = .ok (.aload_n 0, 1) := by decide +kernel
theorem dX7_init_10 : decode cX7_init 10 = .ok (.iconst 0, 1) := by decide +kernel
theorem dX7_init_11 : decode cX7_init 11 = .ok (.putfield 15, 3) := by decide +kernel
theorem dX7_init_14 : decode cX7_init 14 = .ok (.aload_n 0, 1) := by decide +kernel
theorem dX7_init_15 : decode cX7_init 15 = .ok (.iconst 0, 1) := by decide +kernel
theorem dX7_init_16 : decode cX7_init 16 = .ok (.putfield 19, 3) := by decide +kernel
theorem dX7_init_19 : decode cX7_init 19 = .ok (.aload_n 0, 1) := by decide +kernel
theorem dX7_init_20 : decode cX7_init 20 = .ok (.iconst 0, 1) := by decide +kernel
theorem dX7_init_21 : decode cX7_init 21 = .ok (.putfield 22, 3) := by decide +kernel
theorem dX7_init_24 : decode cX7_init 24 = .ok (.aload_n 0, 1) := by decide +kernel
theorem dX7_init_25 : decode cX7_init 25 = .ok (.aload_n 1, 1) := by decide +kernel
theorem dX7_init_26 : decode cX7_init 26 = .ok (.putfield 25, 3) := by decide +kernel
theorem dX7_init_29 : decode cX7_init 29 = .ok (.aload_n 0, 1) := by decide +kernel
theorem dX7_init_30 : decode cX7_init 30 = .ok (.aload_n 2, 1) := by decide +kernel
theorem dX7_init_31 : decode cX7_init 31 = .ok (.putfield 29, 3) := by decide +kernel
theorem dX7_init_34 : decode cX7_init 34 = .ok (.aload_n 0, 1) := by decide +kernel
theorem dX7_init_35 : decode cX7_init 35 = .ok (.aload_n 3, 1) := by decide +kernel
theorem dX7_init_36 : decode cX7_init 36 = .ok (.putfield 33, 3) := by decide +kernel
theorem dX7_init_39 : decode cX7_init 39 = .ok (.return_, 1) := by decide +kernel
theorem dX7_make_0 : decode cX7_make 0 = .ok (.aload_n 0, 1) := by decide +kernel
theorem dX7_make_1 : decode cX7_make 1 = .ok (.iconst 0, 1) := by decide +kernel
theorem dX7_make_2 : decode cX7_make 2 = .ok (.putfield 15, 3) := by decide +kernel
theorem dX7_make_5 : decode cX7_make 5 = .ok (.aload_n 0, 1) := by decide +kernel
theorem dX7_make_6 : decode cX7_make 6 = .ok (.iconst 0, 1) := by decide +kernel
theorem dX7_make_7 : decode cX7_make 7 = .ok (.putfield 19, 3) := by decide +kernel
theorem dX7_make_10 : decode cX7_make 10 = .ok (.aload_n 0, 1) := by decide +kernel
theorem dX7_make_11 : decode cX7_make 11 = .ok (.iconst 0, 1) := by decide +kernel
theorem dX7_make_12 : decode cX7_make 12 = .ok (.putfield 22, 3) := by decide +kernel
theorem dX7_make_15 : decode cX7_make 15 = .ok (.aload_n 0, 1) := by decide +kernel
theorem dX7_make_16 : decode cX7_make 16 = .ok (.getfield 29, 3) := by decide +kernel
theorem dX7_make_19 : decode cX7_make 19 = .ok (.iload_n 1, 1) := by decide +kernel
theorem dX7_make_20 : decode cX7_make 20 = .ok (.iconst 0, 1) := by decide +kernel
theorem dX7_make_21 : decode cX7_make 21 = .ok (.invokevirtual 37, 3) := by decide +kernel
theorem dX7_make_24 : decode cX7_make 24 = .ok (.aload_n 0, 1) := by decide +kernel
theorem dX7_make_25 : decode cX7_make 25 = .ok (.aload_n 0, 1) := by decide +kernel
theorem dX7_make_26 : decode cX7_make 26 = .ok (.getfield 29, 3) := by decide +kernel
theorem dX7_make_29 : decode cX7_make 29 = .ok (.iload_n 2, 1) := by decide +kernel
theorem dX7_make_30 : decode cX7_make 30 = .ok (.invokevirtual 43, 3) := by decide +kernel
theorem dX7_make_33 : decode cX7_make 33 = .ok (.iconst (-1), 1) := by decide +kernel
theorem dX7_make_34 : decode cX7_make 34 = .ok (.if_icmp .eq 7, 3) := by decide +kernel
theorem dX7_make_37 : decode cX7_make 37 = .ok (.iconst 1, 1) := by decide +kernel
theorem dX7_make_38 : decode cX7_make 38 = .ok (.goto 4, 3) := by decide +kernel
theorem dX7_make_41 : decode cX7_make 41 = .ok (.iconst 0, 1) := by decide +kernel
theorem dX7_make_42 : decode cX7_make 42 = .ok (.putfield 9, 3) := by decide +kernel
theorem dX7_make_45 : decode cX7_make 45 = .ok (.aload_n 0, 1) := by decide +kernel
theorem dX7_make_46 : decode cX7_make 46 = .ok (.getfield 9, 3) := by decide +kernel
theorem dX7_make_49 : decode cX7_make 49 = .ok (.ifCond .ne 4, 3) := by decide +kernel
theorem dX7_make_52 : decode cX7_make 52 = .ok (.return_, 1) := by decide +kernel
theorem dX7_make_53 : decode cX7_make 53 = .ok (.aload_n 0, 1) := by decide +kernel
theorem dX7_make_54 : decode cX7_make 54 = .ok (.getfield 33, 3) := by decide +kernel
theorem dX7_make_57 : decode cX7_make 57 = .ok (.iload_n 1, 1) := by decide +kernel
theorem dX7_make_58 : decode cX7_make 58 = .ok (.iconst 1, 1) := by decide +kernel
theorem dX7_make_59 : decode cX7_make 59 = .ok (.invokevirtual 47, 3) := by decide +kernel
theorem dX7_make_62 : decode cX7_make 62 = .ok (.aload_n 0, 1) := by decide +kernel
theorem dX7_make_63 : decode cX7_make 63 = .ok (.iload_n 2, 1) := by decide +kernel
theorem dX7_make_64 : decode cX7_make 64 = .ok (.iload_n 1, 1) := by decide +kernel
theorem dX7_make_65 : decode cX7_make 65 = .ok (.iconst (-1), 1) := by decide +kernel
theorem dX7_make_66 : decode cX7_make 66 = .ok (.ixor, 1) := by decide +kernel
theorem dX7_make_67 : decode cX7_make 67 = .ok (.iand, 1) := by decide +kernel
theorem dX7_make_68 : decode cX7_make 68 = .ok (.putfield 22, 3) := by decide +kernel
theorem dX7_make_71 : decode cX7_make 71 = .ok (.aload_n 0, 1) := by decide +kernel
theorem dX7_make_72 : decode cX7_make 72 = .ok (.getfield 29, 3) := by decide +kernel
theorem dX7_make_75 : decode cX7_make 75 = .ok (.invokevirtual 53, 3) := by decide +kernel
theorem dX7_make_78 : decode cX7_make 78 = .ok (.istore_n 3, 1) := by decide +kernel
theorem dX7_make_79 : decode cX7_make 79 = .ok (.iload_n 3, 1) := by decide +kernel
theorem dX7_make_80 : decode cX7_make 80 = .ok (.ifCond .le 70, 3) := by decide +kernel
theorem dX7_make_83 : decode cX7_make 83 = .ok (.aload_n 0, 1) := by decide +kernel
theorem dX7_make_84 : decode cX7_make 84 = .ok (.getfield 22, 3) := by decide +kernel
theorem dX7_make_87 : decode cX7_make 87 = .ok (.aload_n 0, 1) := by decide +kernel
theorem dX7_make_88 : decode cX7_make 88 = .ok (.getfield 29, 3) := by decide +kernel
theorem dX7_make_91 : decode cX7_make 91 = .ok (.iload_n 3, 1) := by decide +kernel
theorem dX7_make_92 : decode cX7_make 92 = .ok (.invokevirtual 57, 3) := by decide +kernel
theorem dX7_make_95 : decode cX7_make 95 = .ok (.iand, 1) := by decide +kernel
theorem dX7_make_96 : decode cX7_make 96 = .ok (.istore 4, 2) := by decide +kernel
theorem dX7_make_98 : decode cX7_make 98 = .ok (.iconst 0, 1) := by decide +kernel
theorem dX7_make_99 : decode cX7_make 99 = .ok (.istore 5, 2) := by decide +kernel
theorem dX7_make_101 : decode cX7_make 101 = .ok (.iload 5, 2) := by decide +kernel
theorem dX7_make_103 : decode cX7_make 103 = .ok (.bipush 30, 2) := by decide +kernel
theorem dX7_make_105 : decode cX7_make 105 = .ok (.if_icmp .ge 39, 3) := by decide +kernel
theorem dX7_make_108 : decode cX7_make 108 = .ok (.iload 4, 2) := by decide +kernel
theorem dX7_make_110 : decode cX7_make 110 = .ok (.iload 5, 2) := by decide +kernel
theorem dX7_make_112 : decode cX7_make 112 = .ok (.iushr, 1) := by decide +kernel
theorem dX7_make_113 : decode cX7_make 113 = .ok (.ifCond .eq 31, 3) := by decide +kernel
theorem dX7_make_116 : decode cX7_make 116 = .ok (.iload 4, 2) := by decide +kernel
theorem dX7_make_118 : decode cX7_make 118 = .ok (.iconst 1, 1) := by decide +kernel
theorem dX7_make_119 : decode cX7_make 119 = .ok (.iload 5, 2) := by decide +kernel
theorem dX7_make_121 : decode cX7_make 121 = .ok (.ishl, 1) := by decide +kernel
theorem dX7_make_122 : decode cX7_make 122 = .ok (.iand, 1) := by decide +kernel
theorem dX7_make_123 : decode cX7_make 123 = .ok (.ifCond .eq 15, 3) := by decide +kernel
theorem dX7_make_126 : decode cX7_make 126 = .ok (.aload_n 0, 1) := by decide +kernel
theorem dX7_make_127 : decode cX7_make 127 = .ok (.aload_n 0, 1) := by decide +kernel
theorem dX7_make_128 : decode cX7_make 128 = .ok (.iload 5, 2) := by decide +kernel
theorem dX7_make_130 : decode cX7_make 130 = .ok (.iload_n 3, 1) := by decide +kernel
theorem dX7_make_131 : decode cX7_make 131 = .ok (.invokevirtual 60, 3) := by decide +kernel
theorem dX7_make_134 : decode cX7_make 134 = .ok (.iload_n 1, 1) := by decide +kernel
theorem dX7_make_135 : decode cX7_make 135 = .ok (.invokevirtual 64, 3) := by decide +kernel
theorem dX7_make_138 : decode cX7_make 138 = .ok (.iinc 5 1, 3) := by decide +kernel
theorem dX7_make_141 : decode cX7_make 141 = .ok (.goto (-40), 3) := by decide +kernel
theorem dX7_make_144 : decode cX7_make 144 = .ok (.iinc 3 (-1), 3) := by decide +kernel
theorem dX7_make_147 : decode cX7_make 147 = .ok (.goto (-68), 3) := by decide +kernel
theorem dX7_make_150 : decode cX7_make 150 = .ok (.return_, 1) := by decide +kernel
theorem dX7_include_0 : decode cX7_include 0 = .ok (.aload_n 0, 1) := by decide +kernel
theorem dX7_include_1 : decode cX7_include 1 = .ok (.getfield 25, 3) := by decide +kernel
theorem dX7_include_4 : decode cX7_include 4 = .ok (.iload_n 1, 1) := by decide +kernel
theorem dX7_include_5 : decode cX7_include 5 = .ok (.invokevirtual 67, 3) := by decide +kernel
theorem dX7_include_8 : decode cX7_include 8 = .ok (.ifCond .ne 4, 3) := by decide +kernel
theorem dX7_include_11 : decode cX7_include 11 = .ok (.return_, 1) := by decide +kernel
theorem dX7_include_12 : decode cX7_include 12 = .ok (.aload_n 0, 1) := by decide +kernel
theorem dX7_include_13 : decode cX7_include 13 = .ok (.getfield 15, 3) := by decide +kernel
theorem dX7_include_16 : decode cX7_include 16 = .ok (.iconst 1, 1) := by decide +kernel
theorem dX7_include_17 : decode cX7_include 17 = .ok (.iload_n 1, 1) := by decide +kernel
theorem dX7_include_18 : decode cX7_include 18 = .ok (.ishl, 1) := by decide +kernel
theorem dX7_include_19 : decode cX7_include 19 = .ok (.iand, 1) := by decide +kernel
theorem dX7_include_20 : decode cX7_include 20 = .ok (.ifCond .ne 33, 3) := by decide +kernel
theorem dX7_include_23 : decode cX7_include 23 = .ok (.aload_n 0, 1) := by decide +kernel
theorem dX7_include_24 : decode cX7_include 24 = .ok (.dup, 1) := by decide +kernel
theorem dX7_include_25 : decode cX7_include 25 = .ok (.getfield 15, 3) := by decide +kernel
theorem dX7_include_28 : decode cX7_include 28 = .ok (.iconst 1, 1) := by decide +kernel
theorem dX7_include_29 : decode cX7_include 29 = .ok (.iload_n 1, 1) := by decide +kernel
theorem dX7_include_30 : decode cX7_include 30 = .ok (.ishl, 1) := by decide +kernel
theorem dX7_include_31 : decode cX7_include 31 = .ok (.ior, 1) := by decide +kernel
theorem dX7_include_32 : decode cX7_include 32 = .ok (.putfield 15, 3) := by decide +kernel
theorem dX7_include_35 : decode cX7_include 35 = .ok (.aload_n 0, 1) := by decide +kernel
theorem dX7_include_36 : decode cX7_include 36 = .ok (.dup, 1) := by decide +kernel
theorem dX7_include_37 : decode cX7_include 37 = .ok (.getfield 19, 3) := by decide +kernel
theorem dX7_include_40 : decode cX7_include 40 = .ok (.aload_n 0, 1) := by decide +kernel
theorem dX7_include_41 : decode cX7_include 41 = .ok (.getfield 25, 3) := by decide +kernel
theorem dX7_include_44 : decode cX7_include 44 = .ok (.getfield 73, 3) := by decide +kernel
theorem dX7_include_47 : decode cX7_include 47 = .ok (.iload_n 1, 1) := by decide +kernel
theorem dX7_include_48 : decode cX7_include 48 = .ok (.iaload, 1) := by decide +kernel
theorem dX7_include_49 : decode cX7_include 49 = .ok (.iadd, 1) := by decide +kernel
theorem dX7_include_50 : decode cX7_include 50 = .ok (.putfield 19, 3) := by decide +kernel
theorem dX7_include_53 : decode cX7_include 53 = .ok (.aload_n 0, 1) := by decide +kernel
theorem dX7_include_54 : decode cX7_include 54 = .ok (.dup, 1) := by decide +kernel
theorem dX7_include_55 : decode cX7_include 55 = .ok (.getfield 22, 3) := by decide +kernel
theorem dX7_include_58 : decode cX7_include 58 = .ok (.aload_n 0, 1) := by decide +kernel
theorem dX7_include_59 : decode cX7_include 59 = .ok (.getfield 25, 3) := by decide +kernel
theorem dX7_include_62 : decode cX7_include 62 = .ok (.getfield 77, 3) := by decide +kernel
theorem dX7_include_65 : decode cX7_include 65 = .ok (.iload_n 1, 1) := by decide +kernel
theorem dX7_include_66 : decode cX7_include 66 = .ok (.iaload, 1) := by decide +kernel
theorem dX7_include_67 : decode cX7_include 67 = .ok (.iload_n 2, 1) := by decide +kernel
theorem dX7_include_68 : decode cX7_include 68 = .ok (.iconst (-1), 1) := by decide +kernel
theorem dX7_include_69 : decode cX7_include 69 = .ok (.ixor, 1) := by decide +kernel
theorem dX7_include_70 : decode cX7_include 70 = .ok (.iand, 1) := by decide +kernel
theorem dX7_include_71 : decode cX7_include 71 = .ok (.ior, 1) := by decide +kernel
theorem dX7_include_72 : decode cX7_include 72 = .ok (.putfield 22, 3) := by decide +kernel
theorem dX7_include_75 : decode cX7_include 75 = .ok (.return_, 1) := by decide +kernel
theorem dX7_makerOf_0 : decode cX7_makerOf 0 = .ok (.aload_n 0, 1) := by decide +kernel
theorem dX7_makerOf_1 : decode cX7_makerOf 1 = .ok (.getfield 29, 3) := by decide +kernel
theorem dX7_makerOf_4 : decode cX7_makerOf 4 = .ok (.iload_n 2, 1) := by decide +kernel
theorem dX7_makerOf_5 : decode cX7_makerOf 5 = .ok (.iconst 1, 1) := by decide +kernel
theorem dX7_makerOf_6 : decode cX7_makerOf 6 = .ok (.isub, 1) := by decide +kernel
theorem dX7_makerOf_7 : decode cX7_makerOf 7 = .ok (.invokevirtual 80, 3) := by decide +kernel
theorem dX7_makerOf_10 : decode cX7_makerOf 10 = .ok (.istore_n 3, 1) := by decide +kernel
theorem dX7_makerOf_11 : decode cX7_makerOf 11 = .ok (.iconst (-1), 1) := by decide +kernel
theorem dX7_makerOf_12 : decode cX7_makerOf 12 = .ok (.istore 4, 2) := by decide +kernel
theorem dX7_makerOf_14 : decode cX7_makerOf 14 = .ok (.iconst 0, 1) := by decide +kernel
theorem dX7_makerOf_15 : decode cX7_makerOf 15 = .ok (.istore 5, 2) := by decide +kernel
theorem dX7_makerOf_17 : decode cX7_makerOf 17 = .ok (.iconst 0, 1) := by decide +kernel
theorem dX7_makerOf_18 : decode cX7_makerOf 18 = .ok (.istore 6, 2) := by decide +kernel
theorem dX7_makerOf_20 : decode cX7_makerOf 20 = .ok (.iload 6, 2) := by decide +kernel
theorem dX7_makerOf_22 : decode cX7_makerOf 22 = .ok (.aload_n 0, 1) := by decide +kernel
theorem dX7_makerOf_23 : decode cX7_makerOf 23 = .ok (.getfield 25, 3) := by decide +kernel
theorem dX7_makerOf_26 : decode cX7_makerOf 26 = .ok (.getfield 83, 3) := by decide +kernel
theorem dX7_makerOf_29 : decode cX7_makerOf 29 = .ok (.if_icmp .ge 71, 3) := by decide +kernel
theorem dX7_makerOf_32 : decode cX7_makerOf 32 = .ok (.aload_n 0, 1) := by decide +kernel
theorem dX7_makerOf_33 : decode cX7_makerOf 33 = .ok (.getfield 25, 3) := by decide +kernel
theorem dX7_makerOf_36 : decode cX7_makerOf 36 = .ok (.getfield 86, 3) := by decide +kernel
theorem dX7_makerOf_39 : decode cX7_makerOf 39 = .ok (.iload 6, 2) := by decide +kernel
theorem dX7_makerOf_41 : decode cX7_makerOf 41 = .ok (.iaload, 1) := by decide +kernel
theorem dX7_makerOf_42 : decode cX7_makerOf 42 = .ok (.iconst 1, 1) := by decide +kernel
theorem dX7_makerOf_43 : decode cX7_makerOf 43 = .ok (.iload_n 1, 1) := by decide +kernel
theorem dX7_makerOf_44 : decode cX7_makerOf 44 = .ok (.ishl, 1) := by decide +kernel
theorem dX7_makerOf_45 : decode cX7_makerOf 45 = .ok (.iand, 1) := by decide +kernel
theorem dX7_makerOf_46 : decode cX7_makerOf 46 = .ok (.ifCond .eq 48, 3) := by decide +kernel
theorem dX7_makerOf_49 : decode cX7_makerOf 49 = .ok (.aload_n 0, 1) := by decide +kernel
theorem dX7_makerOf_50 : decode cX7_makerOf 50 = .ok (.getfield 25, 3) := by decide +kernel
theorem dX7_makerOf_53 : decode cX7_makerOf 53 = .ok (.iload_n 3, 1) := by decide +kernel
theorem dX7_makerOf_54 : decode cX7_makerOf 54 = .ok (.iload 6, 2) := by decide +kernel
theorem dX7_makerOf_56 : decode cX7_makerOf 56 = .ok (.invokevirtual 89, 3) := by decide +kernel
theorem dX7_makerOf_59 : decode cX7_makerOf 59 = .ok (.ifCond .eq 35, 3) := by decide +kernel
theorem dX7_makerOf_62 : decode cX7_makerOf 62 = .ok (.aload_n 0, 1) := by decide +kernel
theorem dX7_makerOf_63 : decode cX7_makerOf 63 = .ok (.getfield 33, 3) := by decide +kernel
theorem dX7_makerOf_66 : decode cX7_makerOf 66 = .ok (.iload 6, 2) := by decide +kernel
theorem dX7_makerOf_68 : decode cX7_makerOf 68 = .ok (.invokevirtual 93, 3) := by decide +kernel
theorem dX7_makerOf_71 : decode cX7_makerOf 71 = .ok (.istore 7, 2) := by decide +kernel
theorem dX7_makerOf_73 : decode cX7_makerOf 73 = .ok (.iload 4, 2) := by decide +kernel
theorem dX7_makerOf_75 : decode cX7_makerOf 75 = .ok (.iconst (-1), 1) := by decide +kernel
theorem dX7_makerOf_76 : decode cX7_makerOf 76 = .ok (.if_icmp .eq 10, 3) := by decide +kernel
theorem dX7_makerOf_79 : decode cX7_makerOf 79 = .ok (.iload 7, 2) := by decide +kernel
theorem dX7_makerOf_81 : decode cX7_makerOf 81 = .ok (.iload 5, 2) := by decide +kernel
theorem dX7_makerOf_83 : decode cX7_makerOf 83 = .ok (.if_icmp .ge 11, 3) := by decide +kernel
theorem dX7_makerOf_86 : decode cX7_makerOf 86 = .ok (.iload 6, 2) := by decide +kernel
theorem dX7_makerOf_88 : decode cX7_makerOf 88 = .ok (.istore 4, 2) := by decide +kernel
theorem dX7_makerOf_90 : decode cX7_makerOf 90 = .ok (.iload 7, 2) := by decide +kernel
theorem dX7_makerOf_92 : decode cX7_makerOf 92 = .ok (.istore 5, 2) := by decide +kernel
theorem dX7_makerOf_94 : decode cX7_makerOf 94 = .ok (.iinc 6 1, 3) := by decide +kernel
theorem dX7_makerOf_97 : decode cX7_makerOf 97 = .ok (.goto (-77), 3) := by decide +kernel
theorem dX7_makerOf_100 : decode cX7_makerOf 100 = .ok (.iload 4, 2) := by decide +kernel
theorem dX7_makerOf_102 : decode cX7_makerOf 102 = .ok (.ireturn, 1) := by decide +kernel
theorem dX7_helpfulIn_0 : decode cX7_helpfulIn 0 = .ok (.aload_n 0, 1) := by decide +kernel
theorem dX7_helpfulIn_1 : decode cX7_helpfulIn 1 = .ok (.getfield 9, 3) := by decide +kernel
theorem dX7_helpfulIn_4 : decode cX7_helpfulIn 4 = .ok (.ifCond .eq 19, 3) := by decide +kernel
theorem dX7_helpfulIn_7 : decode cX7_helpfulIn 7 = .ok (.aload_n 0, 1) := by decide +kernel
theorem dX7_helpfulIn_8 : decode cX7_helpfulIn 8 = .ok (.getfield 22, 3) := by decide +kernel
theorem dX7_helpfulIn_11 : decode cX7_helpfulIn 11 = .ok (.aload_n 0, 1) := by decide +kernel
theorem dX7_helpfulIn_12 : decode cX7_helpfulIn 12 = .ok (.getfield 29, 3) := by decide +kernel
theorem dX7_helpfulIn_15 : decode cX7_helpfulIn 15 = .ok (.iconst 1, 1) := by decide +kernel
theorem dX7_helpfulIn_16 : decode cX7_helpfulIn 16 = .ok (.invokevirtual 57, 3) := by decide +kernel
theorem dX7_helpfulIn_19 : decode cX7_helpfulIn 19 = .ok (.iand, 1) := by decide +kernel
theorem dX7_helpfulIn_20 : decode cX7_helpfulIn 20 = .ok (.goto 4, 3) := by decide +kernel
theorem dX7_helpfulIn_23 : decode cX7_helpfulIn 23 = .ok (.iconst 0, 1) := by decide +kernel
theorem dX7_helpfulIn_24 : decode cX7_helpfulIn 24 = .ok (.istore_n 2, 1) := by decide +kernel
theorem dX7_helpfulIn_25 : decode cX7_helpfulIn 25 = .ok (.iconst 0, 1) := by decide +kernel
theorem dX7_helpfulIn_26 : decode cX7_helpfulIn 26 = .ok (.istore_n 3, 1) := by decide +kernel
theorem dX7_helpfulIn_27 : decode cX7_helpfulIn 27 = .ok (.iconst 0, 1) := by decide +kernel
theorem dX7_helpfulIn_28 : decode cX7_helpfulIn 28 = .ok (.istore 4, 2) := by decide +kernel
theorem dX7_helpfulIn_30 : decode cX7_helpfulIn 30 = .ok (.iload 4, 2) := by decide +kernel
theorem dX7_helpfulIn_32 : decode cX7_helpfulIn 32 = .ok (.aload_n 0, 1) := by decide +kernel
theorem dX7_helpfulIn_33 : decode cX7_helpfulIn 33 = .ok (.getfield 25, 3) := by decide +kernel
theorem dX7_helpfulIn_36 : decode cX7_helpfulIn 36 = .ok (.getfield 83, 3) := by decide +kernel
theorem dX7_helpfulIn_39 : decode cX7_helpfulIn 39 = .ok (.if_icmp .ge 44, 3) := by decide +kernel
theorem dX7_helpfulIn_42 : decode cX7_helpfulIn 42 = .ok (.aload_n 0, 1) := by decide +kernel
theorem dX7_helpfulIn_43 : decode cX7_helpfulIn 43 = .ok (.getfield 25, 3) := by decide +kernel
theorem dX7_helpfulIn_46 : decode cX7_helpfulIn 46 = .ok (.iload_n 1, 1) := by decide +kernel
theorem dX7_helpfulIn_47 : decode cX7_helpfulIn 47 = .ok (.iload 4, 2) := by decide +kernel
theorem dX7_helpfulIn_49 : decode cX7_helpfulIn 49 = .ok (.invokevirtual 89, 3) := by decide +kernel
theorem dX7_helpfulIn_52 : decode cX7_helpfulIn 52 = .ok (.ifCond .eq 25, 3) := by decide +kernel
theorem dX7_helpfulIn_55 : decode cX7_helpfulIn 55 = .ok (.aload_n 0, 1) := by decide +kernel
theorem dX7_helpfulIn_56 : decode cX7_helpfulIn 56 = .ok (.getfield 25, 3) := by decide +kernel
theorem dX7_helpfulIn_59 : decode cX7_helpfulIn 59 = .ok (.getfield 86, 3) := by decide +kernel
theorem dX7_helpfulIn_62 : decode cX7_helpfulIn 62 = .ok (.iload 4, 2) := by decide +kernel
theorem dX7_helpfulIn_64 : decode cX7_helpfulIn 64 = .ok (.iaload, 1) := by decide +kernel
theorem dX7_helpfulIn_65 : decode cX7_helpfulIn 65 = .ok (.iload_n 2, 1) := by decide +kernel
theorem dX7_helpfulIn_66 : decode cX7_helpfulIn 66 = .ok (.iand, 1) := by decide +kernel
theorem dX7_helpfulIn_67 : decode cX7_helpfulIn 67 = .ok (.ifCond .eq 10, 3) := by decide +kernel
theorem dX7_helpfulIn_70 : decode cX7_helpfulIn 70 = .ok (.iload_n 3, 1) := by decide +kernel
theorem dX7_helpfulIn_71 : decode cX7_helpfulIn 71 = .ok (.iconst 1, 1) := by decide +kernel
theorem dX7_helpfulIn_72 : decode cX7_helpfulIn 72 = .ok (.iload 4, 2) := by decide +kernel
theorem dX7_helpfulIn_74 : decode cX7_helpfulIn 74 = .ok (.ishl, 1) := by decide +kernel
theorem dX7_helpfulIn_75 : decode cX7_helpfulIn 75 = .ok (.ior, 1) := by decide +kernel
theorem dX7_helpfulIn_76 : decode cX7_helpfulIn 76 = .ok (.istore_n 3, 1) := by decide +kernel
theorem dX7_helpfulIn_77 : decode cX7_helpfulIn 77 = .ok (.iinc 4 1, 3) := by decide +kernel
theorem dX7_helpfulIn_80 : decode cX7_helpfulIn 80 = .ok (.goto (-50), 3) := by decide +kernel
theorem dX7_helpfulIn_83 : decode cX7_helpfulIn 83 = .ok (.iload_n 3, 1) := by decide +kernel
theorem dX7_helpfulIn_84 : decode cX7_helpfulIn 84 = .ok (.ireturn, 1) := by decide +kernel
theorem dX8_init_0 : decode cX8_init 0 = .ok (.aload_n 0, 1) := by decide +kernel
theorem dX8_init_1 : decode cX8_init 1 = .ok (.invokespecial 3, 3) := by decide +kernel
theorem dX8_init_4 : decode cX8_init 4 = .ok (.aload_n 0, 1) := by decide +kernel
theorem dX8_init_5 : decode cX8_init 5 = .ok (.sipush 160, 3) := by decide +kernel
theorem dX8_init_8 : decode cX8_init 8 = .ok (.newarray .long, 2) := by decide +kernel
theorem dX8_init_10 : decode cX8_init 10 = .ok (.putfield 9, 3) := by decide +kernel
theorem dX8_init_13 : decode cX8_init 13 = .ok (.aload_n 0, 1) := by decide +kernel
theorem dX8_init_14 : decode cX8_init 14 = .ok (.iconst 0, 1) := by decide +kernel
theorem dX8_init_15 : decode cX8_init 15 = .ok (.putfield 15, 3) := by decide +kernel
theorem dX8_init_18 : decode cX8_init 18 = .ok (.aload_n 0, 1) := by decide +kernel
theorem dX8_init_19 : decode cX8_init 19 = .ok (.iconst (-1), 1) := by decide +kernel
theorem dX8_init_20 : decode cX8_init 20 = .ok (.putfield 19, 3) := by decide +kernel
theorem dX8_init_23 : decode cX8_init 23 = .ok (.return_, 1) := by decide +kernel
theorem dX8_hasRow_0 : decode cX8_hasRow 0 = .ok (.aload_n 0, 1) := by decide +kernel
theorem dX8_hasRow_1 : decode cX8_hasRow 1 = .ok (.getfield 19, 3) := by decide +kernel
theorem dX8_hasRow_4 : decode cX8_hasRow 4 = .ok (.bipush 100, 2) := by decide +kernel
theorem dX8_hasRow_6 : decode cX8_hasRow 6 = .ok (.if_icmp .lt 7, 3) := by decide +kernel
theorem dX8_hasRow_9 : decode cX8_hasRow 9 = .ok (.iconst 1, 1) := by decide +kernel
theorem dX8_hasRow_10 : decode cX8_hasRow 10 = .ok (.goto 4, 3) := by decide +kernel
theorem dX8_hasRow_13 : decode cX8_hasRow 13 = .ok (.iconst 0, 1) := by decide +kernel
theorem dX8_hasRow_14 : decode cX8_hasRow 14 = .ok (.ireturn, 1) := by decide +kernel
theorem dX8_hasAction_0 : decode cX8_hasAction 0 = .ok (.aload_n 0, 1) := by decide +kernel
theorem dX8_hasAction_1 : decode cX8_hasAction 1 = .ok (.getfield 19, 3) := by decide +kernel
theorem dX8_hasAction_4 : decode cX8_hasAction 4 = .ok (.iconst (-1), 1) := by decide +kernel
theorem dX8_hasAction_5 : decode cX8_hasAction 5 = .ok (.if_icmp .eq 16, 3) := by decide +kernel
theorem dX8_hasAction_8 : decode cX8_hasAction 8 = .ok (.aload_n 0, 1) := by decide +kernel
theorem dX8_hasAction_9 : decode cX8_hasAction 9 = .ok (.getfield 19, 3) := by decide +kernel
theorem dX8_hasAction_12 : decode cX8_hasAction 12 = .ok (.bipush 100, 2) := by decide +kernel
theorem dX8_hasAction_14 : decode cX8_hasAction 14 = .ok (.if_icmp .ge 7, 3) := by decide +kernel
theorem dX8_hasAction_17 : decode cX8_hasAction 17 = .ok (.iconst 1, 1) := by decide +kernel
theorem dX8_hasAction_18 : decode cX8_hasAction 18 = .ok (.goto 4, 3) := by decide +kernel
theorem dX8_hasAction_21 : decode cX8_hasAction 21 = .ok (.iconst 0, 1) := by decide +kernel
theorem dX8_hasAction_22 : decode cX8_hasAction 22 = .ok (.ireturn, 1) := by decide +kernel
theorem dX8_holdRow_0 : decode cX8_holdRow 0 = .ok (.iload_n 2, 1) := by decide +kernel
theorem dX8_holdRow_1 : decode cX8_holdRow 1 = .ok (.ifCond .lt 10, 3) := by decide +kernel
theorem dX8_holdRow_4 : decode cX8_holdRow 4 = .ok (.iload_n 2, 1) := by decide +kernel
theorem dX8_holdRow_5 : decode cX8_holdRow 5 = .ok (.sipush 160, 3) := by decide +kernel
theorem dX8_holdRow_8 : decode cX8_holdRow 8 = .ok (.if_icmp .le 4, 3) := by decide +kernel
theorem dX8_holdRow_11 : decode cX8_holdRow 11 = .ok (.return_, 1) := by decide +kernel
theorem dX8_holdRow_12 : decode cX8_holdRow 12 = .ok (.aload_n 0, 1) := by decide +kernel
theorem dX8_holdRow_13 : decode cX8_holdRow 13 = .ok (.bipush 100, 2) := by decide +kernel
theorem dX8_holdRow_15 : decode cX8_holdRow 15 = .ok (.iload_n 1, 1) := by decide +kernel
theorem dX8_holdRow_16 : decode cX8_holdRow 16 = .ok (.iadd, 1) := by decide +kernel
theorem dX8_holdRow_17 : decode cX8_holdRow 17 = .ok (.putfield 19, 3) := by decide +kernel
theorem dX8_holdRow_20 : decode cX8_holdRow 20 = .ok (.aload_n 0, 1) := by decide +kernel
theorem dX8_holdRow_21 : decode cX8_holdRow 21 = .ok (.iload_n 2, 1) := by decide +kernel
theorem dX8_holdRow_22 : decode cX8_holdRow 22 = .ok (.putfield 15, 3) := by decide +kernel
theorem dX8_holdRow_25 : decode cX8_holdRow 25 = .ok (.aload_n 0, 1) := by decide +kernel
theorem dX8_holdRow_26 : decode cX8_holdRow 26 = .ok (.getfield 9, 3) := by decide +kernel
theorem dX8_holdRow_29 : decode cX8_holdRow 29 = .ok (.lconst 0, 1) := by decide +kernel
theorem dX8_holdRow_30 : decode cX8_holdRow 30 = .ok (.invokestatic 22, 3) := by decide +kernel
theorem dX8_holdRow_33 : decode cX8_holdRow 33 = .ok (.return_, 1) := by decide +kernel
theorem dX8_holdAction_0 : decode cX8_holdAction 0 = .ok (.aload_n 0, 1) := by decide +kernel
theorem dX8_holdAction_1 : decode cX8_holdAction 1 = .ok (.iload_n 1, 1) := by decide +kernel
theorem dX8_holdAction_2 : decode cX8_holdAction 2 = .ok (.putfield 19, 3) := by decide +kernel
theorem dX8_holdAction_5 : decode cX8_holdAction 5 = .ok (.aload_n 0, 1) := by decide +kernel
theorem dX8_holdAction_6 : decode cX8_holdAction 6 = .ok (.iconst 0, 1) := by decide +kernel
theorem dX8_holdAction_7 : decode cX8_holdAction 7 = .ok (.putfield 15, 3) := by decide +kernel
theorem dX8_holdAction_10 : decode cX8_holdAction 10 = .ok (.return_, 1) := by decide +kernel
theorem dX8_hasElement_0 : decode cX8_hasElement 0 = .ok (.aload_n 0, 1) := by decide +kernel
theorem dX8_hasElement_1 : decode cX8_hasElement 1 = .ok (.invokevirtual 28, 3) := by decide +kernel
theorem dX8_hasElement_4 : decode cX8_hasElement 4 = .ok (.ifCond .eq 19, 3) := by decide +kernel
theorem dX8_hasElement_7 : decode cX8_hasElement 7 = .ok (.iload_n 1, 1) := by decide +kernel
theorem dX8_hasElement_8 : decode cX8_hasElement 8 = .ok (.ifCond .lt 15, 3) := by decide +kernel
theorem dX8_hasElement_11 : decode cX8_hasElement 11 = .ok (.iload_n 1, 1) := by decide +kernel
theorem dX8_hasElement_12 : decode cX8_hasElement 12 = .ok (.aload_n 0, 1) := by decide +kernel
theorem dX8_hasElement_13 : decode cX8_hasElement 13 = .ok (.getfield 15, 3) := by decide +kernel
theorem dX8_hasElement_16 : decode cX8_hasElement 16 = .ok (.if_icmp .ge 7, 3) := by decide +kernel
theorem dX8_hasElement_19 : decode cX8_hasElement 19 = .ok (.iconst 1, 1) := by decide +kernel
theorem dX8_hasElement_20 : decode cX8_hasElement 20 = .ok (.goto 4, 3) := by decide +kernel
theorem dX8_hasElement_23 : decode cX8_hasElement 23 = .ok (.iconst 0, 1) := by decide +kernel
theorem dX8_hasElement_24 : decode cX8_hasElement 24 = .ok (.ireturn, 1) := by decide +kernel
theorem dX8_hasStretch_0 : decode cX8_hasStretch 0 = .ok (.aload_n 0, 1) := by decide +kernel
theorem dX8_hasStretch_1 : decode cX8_hasStretch 1 = .ok (.invokevirtual 28, 3) := by decide +kernel
theorem dX8_hasStretch_4 : decode cX8_hasStretch 4 = .ok (.ifCond .eq 33, 3) := by decide +kernel
theorem dX8_hasStretch_7 : decode cX8_hasStretch 7 = .ok (.iload_n 1, 1) := by decide +kernel
theorem dX8_hasStretch_8 : decode cX8_hasStretch 8 = .ok (.ifCond .lt 29, 3) := by decide +kernel
theorem dX8_hasStretch_11 : decode cX8_hasStretch 11 = .ok (.iload_n 2, 1) := by decide +kernel
theorem dX8_hasStretch_12 : decode cX8_hasStretch 12 = .ok (.ifCond .lt 25, 3) := by decide +kernel
theorem dX8_hasStretch_15 : decode cX8_hasStretch 15 = .ok (.iload_n 1, 1) := by decide +kernel
theorem dX8_hasStretch_16 : decode cX8_hasStretch 16 = .ok (.aload_n 0, 1) := by decide +kernel
theorem dX8_hasStretch_17 : decode cX8_hasStretch 17 = .ok (.getfield 15, 3) := by decide +kernel
theorem dX8_hasStretch_20 : decode cX8_hasStretch 20 = .ok (.if_icmp .gt 17, 3) := by decide +kernel
theorem dX8_hasStretch_23 : decode cX8_hasStretch 23 = .ok (.iload_n 2, 1) := by decide +kernel
theorem dX8_hasStretch_24 : decode cX8_hasStretch 24 = .ok (.aload_n 0, 1) := by decide +kernel
theorem dX8_hasStretch_25 : decode cX8_hasStretch 25 = .ok (.getfield 15, 3) := by decide +kernel
theorem dX8_hasStretch_28 : decode cX8_hasStretch 28 = .ok (.iload_n 1, 1) := by decide +kernel
theorem dX8_hasStretch_29 : decode cX8_hasStretch 29 = .ok (.isub, 1) := by decide +kernel
theorem dX8_hasStretch_30 : decode cX8_hasStretch 30 = .ok (.if_icmp .gt 7, 3) := by decide +kernel
theorem dX8_hasStretch_33 : decode cX8_hasStretch 33 = .ok (.iconst 1, 1) := by decide +kernel
theorem dX8_hasStretch_34 : decode cX8_hasStretch 34 = .ok (.goto 4, 3) := by decide +kernel
theorem dX8_hasStretch_37 : decode cX8_hasStretch 37 = .ok (.iconst 0, 1) := by decide +kernel
theorem dX8_hasStretch_38 : decode cX8_hasStretch 38 = .ok (.ireturn, 1) := by decide +kernel
theorem dX8_keep_0 : decode cX8_keep 0 = .ok (.aload_n 0, 1) := by decide +kernel
theorem dX8_keep_1 : decode cX8_keep 1 = .ok (.iload_n 1, 1) := by decide +kernel
theorem dX8_keep_2 : decode cX8_keep 2 = .ok (.invokevirtual 32, 3) := by decide +kernel
theorem dX8_keep_5 : decode cX8_keep 5 = .ok (.ifCond .ne 4, 3) := by decide +kernel
theorem dX8_keep_8 : decode cX8_keep 8 = .ok (.return_, 1) := by decide +kernel
theorem dX8_keep_9 : decode cX8_keep 9 = .ok (.aload_n 0, 1) := by decide +kernel
theorem dX8_keep_10 : decode cX8_keep 10 = .ok (.getfield 19, 3) := by decide +kernel
theorem dX8_keep_13 : decode cX8_keep 13 = .ok (.bipush 100, 2) := by decide +kernel
theorem dX8_keep_15 : decode cX8_keep 15 = .ok (.isub, 1) := by decide +kernel
theorem dX8_keep_16 : decode cX8_keep 16 = .ok (.tableswitch 66 0 2 #[28, 41, 54], 28) := by decide +kernel
theorem dX8_keep_44 : decode cX8_keep 44 = .ok (.aload_n 0, 1) := by decide +kernel
theorem dX8_keep_45 : decode cX8_keep 45 = .ok (.getfield 9, 3) := by decide +kernel
theorem dX8_keep_48 : decode cX8_keep 48 = .ok (.iload_n 1, 1) := by decide +kernel
theorem dX8_keep_49 : decode cX8_keep 49 = .ok (.lload_n 2, 1) := by decide +kernel
theorem dX8_keep_50 : decode cX8_keep 50 = .ok (.l2i, 1) := by decide +kernel
theorem dX8_keep_51 : decode cX8_keep 51 = .ok (.i2b, 1) := by decide +kernel
theorem dX8_keep_52 : decode cX8_keep 52 = .ok (.i2l, 1) := by decide +kernel
theorem dX8_keep_53 : decode cX8_keep 53 = .ok (.lastore, 1) := by decide +kernel
theorem dX8_keep_54 : decode cX8_keep 54 = .ok (.goto 35, 3) := by decide +kernel
theorem dX8_keep_57 : decode cX8_keep 57 = .ok (.aload_n 0, 1) := by decide +kernel
theorem dX8_keep_58 : decode cX8_keep 58 = .ok (.getfield 9, 3) := by decide +kernel
theorem dX8_keep_61 : decode cX8_keep 61 = .ok (.iload_n 1, 1) := by decide +kernel
theorem dX8_keep_62 : decode cX8_keep 62 = .ok (.lload_n 2, 1) := by decide +kernel
theorem dX8_keep_63 : decode cX8_keep 63 = .ok (.l2i, 1) := by decide +kernel
theorem dX8_keep_64 : decode cX8_keep 64 = .ok (.i2s, 1) := by decide +kernel
theorem dX8_keep_65 : decode cX8_keep 65 = .ok (.i2l, 1) := by decide +kernel
theorem dX8_keep_66 : decode cX8_keep 66 = .ok (.lastore, 1) := by decide +kernel
theorem dX8_keep_67 : decode cX8_keep 67 = .ok (.goto 22, 3) := by decide +kernel
theorem dX8_keep_70 : decode cX8_keep 70 = .ok (.aload_n 0, 1) := by decide +kernel
theorem dX8_keep_71 : decode cX8_keep 71 = .ok (.getfield 9, 3) := by decide +kernel
theorem dX8_keep_74 : decode cX8_keep 74 = .ok (.iload_n 1, 1) := by decide +kernel
theorem dX8_keep_75 : decode cX8_keep 75 = .ok (.lload_n 2, 1) := by decide +kernel
theorem dX8_keep_76 : decode cX8_keep 76 = .ok (.l2i, 1) := by decide +kernel
theorem dX8_keep_77 : decode cX8_keep 77 = .ok (.i2l, 1) := by decide +kernel
theorem dX8_keep_78 : decode cX8_keep 78 = .ok (.lastore, 1) := by decide +kernel
theorem dX8_keep_79 : decode cX8_keep 79 = .ok (.goto 10, 3) := by decide +kernel
theorem dX8_keep_82 : decode cX8_keep 82 = .ok (.aload_n 0, 1) := by decide +kernel
theorem dX8_keep_83 : decode cX8_keep 83 = .ok (.getfield 9, 3) := by decide +kernel
theorem dX8_keep_86 : decode cX8_keep 86 = .ok (.iload_n 1, 1) := by decide +kernel
theorem dX8_keep_87 : decode cX8_keep 87 = .ok (.lload_n 2, 1) := by decide +kernel
theorem dX8_keep_88 : decode cX8_keep 88 = .ok (.lastore, 1) := by decide +kernel
theorem dX8_keep_89 : decode cX8_keep 89 = .ok (.return_, 1) := by decide +kernel
theorem dX8_longAt_0 : decode cX8_longAt 0 = .ok (.aload_n 0, 1) := by decide +kernel
theorem dX8_longAt_1 : decode cX8_longAt 1 = .ok (.iload_n 1, 1) := by decide +kernel
theorem dX8_longAt_2 : decode cX8_longAt 2 = .ok (.invokevirtual 32, 3) := by decide +kernel
theorem dX8_longAt_5 : decode cX8_longAt 5 = .ok (.ifCond .eq 12, 3) := by decide +kernel
theorem dX8_longAt_8 : decode cX8_longAt 8 = .ok (.aload_n 0, 1) := by decide +kernel
theorem dX8_longAt_9 : decode cX8_longAt 9 = .ok (.getfield 9, 3) := by decide +kernel
theorem dX8_longAt_12 : decode cX8_longAt 12 = .ok (.iload_n 1, 1) := by decide +kernel
theorem dX8_longAt_13 : decode cX8_longAt 13 = .ok (.laload, 1) := by decide +kernel
theorem dX8_longAt_14 : decode cX8_longAt 14 = .ok (.goto 4, 3) := by decide +kernel
theorem dX8_longAt_17 : decode cX8_longAt 17 = .ok (.lconst 0, 1) := by decide +kernel
theorem dX8_longAt_18 : decode cX8_longAt 18 = .ok (.lreturn, 1) := by decide +kernel
theorem dX8_intAt_0 : decode cX8_intAt 0 = .ok (.aload_n 0, 1) := by decide +kernel
theorem dX8_intAt_1 : decode cX8_intAt 1 = .ok (.iload_n 1, 1) := by decide +kernel
theorem dX8_intAt_2 : decode cX8_intAt 2 = .ok (.invokevirtual 36, 3) := by decide +kernel
theorem dX8_intAt_5 : decode cX8_intAt 5 = .ok (.l2i, 1) := by decide +kernel
theorem dX8_intAt_6 : decode cX8_intAt 6 = .ok (.ireturn, 1) := by decide +kernel
theorem dX9_init_0 : decode cX9_init 0 = .ok (.aload_n 0, 1) := by decide +kernel
theorem dX9_init_1 : decode cX9_init 1 = .ok (.invokespecial 3, 3) := by decide +kernel
theorem dX9_init_4 : decode cX9_init 4 = .ok (.aload_n 0, 1) := by decide +kernel
theorem dX9_init_5 : decode cX9_init 5 = .ok (.aconst_null, 1) := by decide +kernel
theorem dX9_init_6 : decode cX9_init 6 = .ok (.putfield 9, 3) := by decide +kernel
theorem dX9_init_9 : decode cX9_init 9 = .ok (.aload_n 0, 1) := by decide +kernel
theorem dX9_init_10 : decode cX9_init 10 = .ok (.iconst 0, 1) := by decide +kernel
theorem dX9_init_11 : decode cX9_init 11 = .ok (.putfield 15, 3) := by decide +kernel
theorem dX9_init_14 : decode cX9_init 14 = .ok (.aload_n 0, 1) := by decide +kernel
theorem dX9_init_15 : decode cX9_init 15 = .ok (.iconst (-1), 1) := by decide +kernel
theorem dX9_init_16 : decode cX9_init 16 = .ok (.putfield 19, 3) := by decide +kernel
theorem dX9_init_19 : decode cX9_init 19 = .ok (.aload_n 0, 1) := by decide +kernel
theorem dX9_init_20 : decode cX9_init 20 = .ok (.iconst 0, 1) := by decide +kernel
theorem dX9_init_21 : decode cX9_init 21 = .ok (.putfield 22, 3) := by decide +kernel
theorem dX9_init_24 : decode cX9_init 24 = .ok (.aload_n 0, 1) := by decide +kernel
theorem dX9_init_25 : decode cX9_init 25 = .ok (.iconst 0, 1) := by decide +kernel
theorem dX9_init_26 : decode cX9_init 26 = .ok (.putfield 25, 3) := by decide +kernel
theorem dX9_init_29 : decode cX9_init 29 = .ok (.aload_n 0, 1) := by decide +kernel
theorem dX9_init_30 : decode cX9_init 30 = .ok (.iconst 0, 1) := by decide +kernel
theorem dX9_init_31 : decode cX9_init 31 = .ok (.putfield 28, 3) := by decide +kernel
theorem dX9_init_34 : decode cX9_init 34 = .ok (.aload_n 0, 1) := by decide +kernel
theorem dX9_init_35 : decode cX9_init 35 = .ok (.iconst 0, 1) := by decide +kernel
theorem dX9_init_36 : decode cX9_init 36 = .ok (.putfield 31, 3) := by decide +kernel
theorem dX9_init_39 : decode cX9_init 39 = .ok (.aload_n 0, 1) := by decide +kernel
theorem dX9_init_40 : decode cX9_init 40 = .ok (.iconst 0, 1) := by decide +kernel
theorem dX9_init_41 : decode cX9_init 41 = .ok (.putfield 34, 3) := by decide +kernel
theorem dX9_init_44 : decode cX9_init 44 = .ok (.aload_n 0, 1) := by decide +kernel
theorem dX9_init_45 : decode cX9_init 45 = .ok (.aload_n 1, 1) := by decide +kernel
theorem dX9_init_46 : decode cX9_init 46 = .ok (.putfield 37, 3) := by decide +kernel
theorem dX9_init_49 : decode cX9_init 49 = .ok (.return_, 1) := by decide +kernel
theorem dX9_readAll_0 : decode cX9_readAll 0 = .ok (.aload_n 0, 1) := by decide +kernel
theorem dX9_readAll_1 : decode cX9_readAll 1 = .ok (.aload_n 1, 1) := by decide +kernel
theorem dX9_readAll_2 : decode cX9_readAll 2 = .ok (.putfield 9, 3) := by decide +kernel
theorem dX9_readAll_5 : decode cX9_readAll 5 = .ok (.aload_n 0, 1) := by decide +kernel
theorem dX9_readAll_6 : decode cX9_readAll 6 = .ok (.iconst 0, 1) := by decide +kernel
theorem dX9_readAll_7 : decode cX9_readAll 7 = .ok (.putfield 15, 3) := by decide +kernel
theorem dX9_readAll_10 : decode cX9_readAll 10 = .ok (.aload_n 0, 1) := by decide +kernel
theorem dX9_readAll_11 : decode cX9_readAll 11 = .ok (.iconst (-1), 1) := by decide +kernel
theorem dX9_readAll_12 : decode cX9_readAll 12 = .ok (.putfield 19, 3) := by decide +kernel
theorem dX9_readAll_15 : decode cX9_readAll 15 = .ok (.aload_n 0, 1) := by decide +kernel
theorem dX9_readAll_16 : decode cX9_readAll 16 = .ok (.iconst 0, 1) := by decide +kernel
theorem dX9_readAll_17 : decode cX9_readAll 17 = .ok (.putfield 22, 3) := by decide +kernel
theorem dX9_readAll_20 : decode cX9_readAll 20 = .ok (.aload_n 0, 1) := by decide +kernel
theorem dX9_readAll_21 : decode cX9_readAll 21 = .ok (.iconst 0, 1) := by decide +kernel
theorem dX9_readAll_22 : decode cX9_readAll 22 = .ok (.putfield 25, 3) := by decide +kernel
theorem dX9_readAll_25 : decode cX9_readAll 25 = .ok (.aload_n 0, 1) := by decide +kernel
theorem dX9_readAll_26 : decode cX9_readAll 26 = .ok (.iload_n 2, 1) := by decide +kernel
theorem dX9_readAll_27 : decode cX9_readAll 27 = .ok (.putfield 28, 3) := by decide +kernel
theorem dX9_readAll_30 : decode cX9_readAll 30 = .ok (.aload_n 0, 1) := by decide +kernel
theorem dX9_readAll_31 : decode cX9_readAll 31 = .ok (.iload_n 3, 1) := by decide +kernel
theorem dX9_readAll_32 : decode cX9_readAll 32 = .ok (.putfield 31, 3) := by decide +kernel
theorem dX9_readAll_35 : decode cX9_readAll 35 = .ok (.aload_n 0, 1) := by decide +kernel
theorem dX9_readAll_36 : decode cX9_readAll 36 = .ok (.iload 4, 2) := by decide +kernel
theorem dX9_readAll_38 : decode cX9_readAll 38 = .ok (.putfield 34, 3) := by decide +kernel
theorem dX9_readAll_41 : decode cX9_readAll 41 = .ok (.aload_n 0, 1) := by decide +kernel
theorem dX9_readAll_42 : decode cX9_readAll 42 = .ok (.invokevirtual 41, 3) := by decide +kernel
theorem dX9_readAll_45 : decode cX9_readAll 45 = .ok (.iconst 0, 1) := by decide +kernel
theorem dX9_readAll_46 : decode cX9_readAll 46 = .ok (.istore 5, 2) := by decide +kernel
theorem dX9_readAll_48 : decode cX9_readAll 48 = .ok (.iload 5, 2) := by decide +kernel
theorem dX9_readAll_50 : decode cX9_readAll 50 = .ok (.sipush 160, 3) := by decide +kernel
theorem dX9_readAll_53 : decode cX9_readAll 53 = .ok (.if_icmp .ge 38, 3) := by decide +kernel
theorem dX9_readAll_56 : decode cX9_readAll 56 = .ok (.aload_n 0, 1) := by decide +kernel
theorem dX9_readAll_57 : decode cX9_readAll 57 = .ok (.getfield 19, 3) := by decide +kernel
theorem dX9_readAll_60 : decode cX9_readAll 60 = .ok (.iconst (-1), 1) := by decide +kernel
theorem dX9_readAll_61 : decode cX9_readAll 61 = .ok (.if_icmp .ne 30, 3) := by decide +kernel
theorem dX9_readAll_64 : decode cX9_readAll 64 = .ok (.aload_n 0, 1) := by decide +kernel
theorem dX9_readAll_65 : decode cX9_readAll 65 = .ok (.getfield 15, 3) := by decide +kernel
theorem dX9_readAll_68 : decode cX9_readAll 68 = .ok (.aload_n 1, 1) := by decide +kernel
theorem dX9_readAll_69 : decode cX9_readAll 69 = .ok (.getfield 44, 3) := by decide +kernel
theorem dX9_readAll_72 : decode cX9_readAll 72 = .ok (.if_icmp .ge 19, 3) := by decide +kernel
theorem dX9_readAll_75 : decode cX9_readAll 75 = .ok (.aload_n 0, 1) := by decide +kernel
theorem dX9_readAll_76 : decode cX9_readAll 76 = .ok (.bipush 59, 2) := by decide +kernel
theorem dX9_readAll_78 : decode cX9_readAll 78 = .ok (.invokevirtual 49, 3) := by decide +kernel
theorem dX9_readAll_81 : decode cX9_readAll 81 = .ok (.aload_n 0, 1) := by decide +kernel
theorem dX9_readAll_82 : decode cX9_readAll 82 = .ok (.invokevirtual 41, 3) := by decide +kernel
theorem dX9_readAll_85 : decode cX9_readAll 85 = .ok (.iinc 5 1, 3) := by decide +kernel
theorem dX9_readAll_88 : decode cX9_readAll 88 = .ok (.goto (-40), 3) := by decide +kernel
theorem dX9_readAll_91 : decode cX9_readAll 91 = .ok (.return_, 1) := by decide +kernel
theorem dX9_readItem_0 : decode cX9_readItem 0 = .ok (.aload_n 0, 1) := by decide +kernel
theorem dX9_readItem_1 : decode cX9_readItem 1 = .ok (.getfield 19, 3) := by decide +kernel
theorem dX9_readItem_4 : decode cX9_readItem 4 = .ok (.iconst (-1), 1) := by decide +kernel
theorem dX9_readItem_5 : decode cX9_readItem 5 = .ok (.if_icmp .eq 4, 3) := by decide +kernel
theorem dX9_readItem_8 : decode cX9_readItem 8 = .ok (.return_, 1) := by decide +kernel
theorem dX9_readItem_9 : decode cX9_readItem 9 = .ok (.aload_n 0, 1) := by decide +kernel
theorem dX9_readItem_10 : decode cX9_readItem 10 = .ok (.invokevirtual 53, 3) := by decide +kernel
theorem dX9_readItem_13 : decode cX9_readItem 13 = .ok (.lookupswitch 89 #[(97, 82), (103, 56), (110, 69), (115, 43)], 43) := by decide +kernel
theorem dX9_readItem_56 : decode cX9_readItem 56 = .ok (.aload_n 0, 1) := by decide +kernel
theorem dX9_readItem_57 : decode cX9_readItem 57 = .ok (.aload_n 0, 1) := by decide +kernel
theorem dX9_readItem_58 : decode cX9_readItem 58 = .ok (.ldc 57, 2) := by decide +kernel
theorem dX9_readItem_60 : decode cX9_readItem 60 = .ok (.invokevirtual 59, 3) := by decide +kernel
theorem dX9_readItem_63 : decode cX9_readItem 63 = .ok (.putfield 28, 3) := by decide +kernel
theorem dX9_readItem_66 : decode cX9_readItem 66 = .ok (.goto 44, 3) := by decide +kernel
theorem dX9_readItem_69 : decode cX9_readItem 69 = .ok (.aload_n 0, 1) := by decide +kernel
theorem dX9_readItem_70 : decode cX9_readItem 70 = .ok (.aload_n 0, 1) := by decide +kernel
theorem dX9_readItem_71 : decode cX9_readItem 71 = .ok (.ldc 63, 2) := by decide +kernel
theorem dX9_readItem_73 : decode cX9_readItem 73 = .ok (.invokevirtual 59, 3) := by decide +kernel
theorem dX9_readItem_76 : decode cX9_readItem 76 = .ok (.putfield 31, 3) := by decide +kernel
theorem dX9_readItem_79 : decode cX9_readItem 79 = .ok (.goto 31, 3) := by decide +kernel
theorem dX9_readItem_82 : decode cX9_readItem 82 = .ok (.aload_n 0, 1) := by decide +kernel
theorem dX9_readItem_83 : decode cX9_readItem 83 = .ok (.aload_n 0, 1) := by decide +kernel
theorem dX9_readItem_84 : decode cX9_readItem 84 = .ok (.ldc 65, 2) := by decide +kernel
theorem dX9_readItem_86 : decode cX9_readItem 86 = .ok (.invokevirtual 59, 3) := by decide +kernel
theorem dX9_readItem_89 : decode cX9_readItem 89 = .ok (.putfield 34, 3) := by decide +kernel
theorem dX9_readItem_92 : decode cX9_readItem 92 = .ok (.goto 18, 3) := by decide +kernel
theorem dX9_readItem_95 : decode cX9_readItem 95 = .ok (.aload_n 0, 1) := by decide +kernel
theorem dX9_readItem_96 : decode cX9_readItem 96 = .ok (.invokevirtual 67, 3) := by decide +kernel
theorem dX9_readItem_99 : decode cX9_readItem 99 = .ok (.goto 11, 3) := by decide +kernel
theorem dX9_readItem_102 : decode cX9_readItem 102 = .ok (.aload_n 0, 1) := by decide +kernel
theorem dX9_readItem_103 : decode cX9_readItem 103 = .ok (.aload_n 0, 1) := by decide +kernel
theorem dX9_readItem_104 : decode cX9_readItem 104 = .ok (.getfield 15, 3) := by decide +kernel
theorem dX9_readItem_107 : decode cX9_readItem 107 = .ok (.invokevirtual 70, 3) := by decide +kernel
theorem dX9_readItem_110 : decode cX9_readItem 110 = .ok (.aload_n 0, 1) := by decide +kernel
theorem dX9_readItem_111 : decode cX9_readItem 111 = .ok (.dup, 1) := by decide +kernel
theorem dX9_readItem_112 : decode cX9_readItem 112 = .ok (.getfield 22, 3) := by decide +kernel
theorem dX9_readItem_115 : decode cX9_readItem 115 = .ok (.iconst 1, 1) := by decide +kernel
theorem dX9_readItem_116 : decode cX9_readItem 116 = .ok (.iadd, 1) := by decide +kernel
theorem dX9_readItem_117 : decode cX9_readItem 117 = .ok (.putfield 22, 3) := by decide +kernel
theorem dX9_readItem_120 : decode cX9_readItem 120 = .ok (.return_, 1) := by decide +kernel
theorem dX9_readSetItem_0 : decode cX9_readSetItem 0 = .ok (.aload_n 0, 1) := by decide +kernel
theorem dX9_readSetItem_1 : decode cX9_readSetItem 1 = .ok (.aload_n 1, 1) := by decide +kernel
theorem dX9_readSetItem_2 : decode cX9_readSetItem 2 = .ok (.invokevirtual 74, 3) := by decide +kernel
theorem dX9_readSetItem_5 : decode cX9_readSetItem 5 = .ok (.aload_n 0, 1) := by decide +kernel
theorem dX9_readSetItem_6 : decode cX9_readSetItem 6 = .ok (.bipush 32, 2) := by decide +kernel
theorem dX9_readSetItem_8 : decode cX9_readSetItem 8 = .ok (.invokevirtual 49, 3) := by decide +kernel
theorem dX9_readSetItem_11 : decode cX9_readSetItem 11 = .ok (.aload_n 0, 1) := by decide +kernel
theorem dX9_readSetItem_12 : decode cX9_readSetItem 12 = .ok (.invokevirtual 78, 3) := by decide +kernel
theorem dX9_readSetItem_15 : decode cX9_readSetItem 15 = .ok (.ireturn, 1) := by decide +kernel
theorem dX9_readAct_0 : decode cX9_readAct 0 = .ok (.aload_n 0, 1) := by decide +kernel
theorem dX9_readAct_1 : decode cX9_readAct 1 = .ok (.getfield 15, 3) := by decide +kernel
theorem dX9_readAct_4 : decode cX9_readAct 4 = .ok (.istore_n 1, 1) := by decide +kernel
theorem dX9_readAct_5 : decode cX9_readAct 5 = .ok (.aload_n 0, 1) := by decide +kernel
theorem dX9_readAct_6 : decode cX9_readAct 6 = .ok (.ldc 81, 2) := by decide +kernel
theorem dX9_readAct_8 : decode cX9_readAct 8 = .ok (.invokevirtual 74, 3) := by decide +kernel
theorem dX9_readAct_11 : decode cX9_readAct 11 = .ok (.aload_n 0, 1) := by decide +kernel
theorem dX9_readAct_12 : decode cX9_readAct 12 = .ok (.getfield 37, 3) := by decide +kernel
theorem dX9_readAct_15 : decode cX9_readAct 15 = .ok (.getfield 83, 3) := by decide +kernel
theorem dX9_readAct_18 : decode cX9_readAct 18 = .ok (.aload_n 0, 1) := by decide +kernel
theorem dX9_readAct_19 : decode cX9_readAct 19 = .ok (.getfield 25, 3) := by decide +kernel
theorem dX9_readAct_22 : decode cX9_readAct 22 = .ok (.iadd, 1) := by decide +kernel
theorem dX9_readAct_23 : decode cX9_readAct 23 = .ok (.bipush 24, 2) := by decide +kernel
theorem dX9_readAct_25 : decode cX9_readAct 25 = .ok (.if_icmp .lt 8, 3) := by decide +kernel
theorem dX9_readAct_28 : decode cX9_readAct 28 = .ok (.aload_n 0, 1) := by decide +kernel
theorem dX9_readAct_29 : decode cX9_readAct 29 = .ok (.iload_n 1, 1) := by decide +kernel
theorem dX9_readAct_30 : decode cX9_readAct 30 = .ok (.invokevirtual 70, 3) := by decide +kernel
theorem dX9_readAct_33 : decode cX9_readAct 33 = .ok (.aload_n 0, 1) := by decide +kernel
theorem dX9_readAct_34 : decode cX9_readAct 34 = .ok (.bipush 32, 2) := by decide +kernel
theorem dX9_readAct_36 : decode cX9_readAct 36 = .ok (.invokevirtual 49, 3) := by decide +kernel
theorem dX9_readAct_39 : decode cX9_readAct 39 = .ok (.aload_n 0, 1) := by decide +kernel
theorem dX9_readAct_40 : decode cX9_readAct 40 = .ok (.invokevirtual 78, 3) := by decide +kernel
theorem dX9_readAct_43 : decode cX9_readAct 43 = .ok (.istore_n 2, 1) := by decide +kernel
theorem dX9_readAct_44 : decode cX9_readAct 44 = .ok (.aload_n 0, 1) := by decide +kernel
theorem dX9_readAct_45 : decode cX9_readAct 45 = .ok (.bipush 43, 2) := by decide +kernel
theorem dX9_readAct_47 : decode cX9_readAct 47 = .ok (.invokevirtual 49, 3) := by decide +kernel
theorem dX9_readAct_50 : decode cX9_readAct 50 = .ok (.aload_n 0, 1) := by decide +kernel
theorem dX9_readAct_51 : decode cX9_readAct 51 = .ok (.invokevirtual 78, 3) := by decide +kernel
theorem dX9_readAct_54 : decode cX9_readAct 54 = .ok (.istore_n 3, 1) := by decide +kernel
theorem dX9_readAct_55 : decode cX9_readAct 55 = .ok (.aload_n 0, 1) := by decide +kernel
theorem dX9_readAct_56 : decode cX9_readAct 56 = .ok (.bipush 45, 2) := by decide +kernel
theorem dX9_readAct_58 : decode cX9_readAct 58 = .ok (.invokevirtual 49, 3) := by decide +kernel
theorem dX9_readAct_61 : decode cX9_readAct 61 = .ok (.aload_n 0, 1) := by decide +kernel
theorem dX9_readAct_62 : decode cX9_readAct 62 = .ok (.invokevirtual 78, 3) := by decide +kernel
theorem dX9_readAct_65 : decode cX9_readAct 65 = .ok (.istore 4, 2) := by decide +kernel
theorem dX9_readAct_67 : decode cX9_readAct 67 = .ok (.aload_n 0, 1) := by decide +kernel
theorem dX9_readAct_68 : decode cX9_readAct 68 = .ok (.bipush 36, 2) := by decide +kernel
theorem dX9_readAct_70 : decode cX9_readAct 70 = .ok (.invokevirtual 49, 3) := by decide +kernel
theorem dX9_readAct_73 : decode cX9_readAct 73 = .ok (.aload_n 0, 1) := by decide +kernel
theorem dX9_readAct_74 : decode cX9_readAct 74 = .ok (.iconst 1, 1) := by decide +kernel
theorem dX9_readAct_75 : decode cX9_readAct 75 = .ok (.bipush 99, 2) := by decide +kernel
theorem dX9_readAct_77 : decode cX9_readAct 77 = .ok (.invokevirtual 88, 3) := by decide +kernel
theorem dX9_readAct_80 : decode cX9_readAct 80 = .ok (.istore 5, 2) := by decide +kernel
theorem dX9_readAct_82 : decode cX9_readAct 82 = .ok (.aload_n 0, 1) := by decide +kernel
theorem dX9_readAct_83 : decode cX9_readAct 83 = .ok (.getfield 19, 3) := by decide +kernel
theorem dX9_readAct_86 : decode cX9_readAct 86 = .ok (.iconst (-1), 1) := by decide +kernel
theorem dX9_readAct_87 : decode cX9_readAct 87 = .ok (.if_icmp .ne 38, 3) := by decide +kernel
theorem dX9_readAct_90 : decode cX9_readAct 90 = .ok (.aload_n 0, 1) := by decide +kernel
theorem dX9_readAct_91 : decode cX9_readAct 91 = .ok (.getfield 37, 3) := by decide +kernel
theorem dX9_readAct_94 : decode cX9_readAct 94 = .ok (.aload_n 0, 1) := by decide +kernel
theorem dX9_readAct_95 : decode cX9_readAct 95 = .ok (.getfield 37, 3) := by decide +kernel
theorem dX9_readAct_98 : decode cX9_readAct 98 = .ok (.getfield 83, 3) := by decide +kernel
theorem dX9_readAct_101 : decode cX9_readAct 101 = .ok (.aload_n 0, 1) := by decide +kernel
theorem dX9_readAct_102 : decode cX9_readAct 102 = .ok (.getfield 25, 3) := by decide +kernel
theorem dX9_readAct_105 : decode cX9_readAct 105 = .ok (.iadd, 1) := by decide +kernel
theorem dX9_readAct_106 : decode cX9_readAct 106 = .ok (.iload_n 2, 1) := by decide +kernel
theorem dX9_readAct_107 : decode cX9_readAct 107 = .ok (.iload_n 3, 1) := by decide +kernel
theorem dX9_readAct_108 : decode cX9_readAct 108 = .ok (.iload 4, 2) := by decide +kernel
theorem dX9_readAct_110 : decode cX9_readAct 110 = .ok (.iload 5, 2) := by decide +kernel
theorem dX9_readAct_112 : decode cX9_readAct 112 = .ok (.invokevirtual 92, 3) := by decide +kernel
theorem dX9_readAct_115 : decode cX9_readAct 115 = .ok (.aload_n 0, 1) := by decide +kernel
theorem dX9_readAct_116 : decode cX9_readAct 116 = .ok (.dup, 1) := by decide +kernel
theorem dX9_readAct_117 : decode cX9_readAct 117 = .ok (.getfield 25, 3) := by decide +kernel
theorem dX9_readAct_120 : decode cX9_readAct 120 = .ok (.iconst 1, 1) := by decide +kernel
theorem dX9_readAct_121 : decode cX9_readAct 121 = .ok (.iadd, 1) := by decide +kernel
theorem dX9_readAct_122 : decode cX9_readAct 122 = .ok (.putfield 25, 3) := by decide +kernel
theorem dX9_readAct_125 : decode cX9_readAct 125 = .ok (.return_, 1) := by decide +kernel
theorem dX9_readFacts_0 : decode cX9_readFacts 0 = .ok (.aload_n 0, 1) := by decide +kernel
theorem dX9_readFacts_1 : decode cX9_readFacts 1 = .ok (.getfield 19, 3) := by decide +kernel
theorem dX9_readFacts_4 : decode cX9_readFacts 4 = .ok (.iconst (-1), 1) := by decide +kernel
theorem dX9_readFacts_5 : decode cX9_readFacts 5 = .ok (.if_icmp .ne 13, 3) := by decide +kernel
theorem dX9_readFacts_8 : decode cX9_readFacts 8 = .ok (.aload_n 0, 1) := by decide +kernel
theorem dX9_readFacts_9 : decode cX9_readFacts 9 = .ok (.invokevirtual 53, 3) := by decide +kernel
theorem dX9_readFacts_12 : decode cX9_readFacts 12 = .ok (.invokestatic 96, 3) := by decide +kernel
theorem dX9_readFacts_15 : decode cX9_readFacts 15 = .ok (.ifCond .ne 5, 3) := by decide +kernel
theorem dX9_readFacts_18 : decode cX9_readFacts 18 = .ok (.iconst 0, 1) := by decide +kernel
theorem dX9_readFacts_19 : decode cX9_readFacts 19 = .ok (.ireturn, 1) := by decide +kernel
theorem dX9_readFacts_20 : decode cX9_readFacts 20 = .ok (.iconst 1, 1) := by decide +kernel
theorem dX9_readFacts_21 : decode cX9_readFacts 21 = .ok (.aload_n 0, 1) := by decide +kernel
theorem dX9_readFacts_22 : decode cX9_readFacts 22 = .ok (.iconst 0, 1) := by decide +kernel
theorem dX9_readFacts_23 : decode cX9_readFacts 23 = .ok (.bipush 29, 2) := by decide +kernel
theorem dX9_readFacts_25 : decode cX9_readFacts 25 = .ok (.invokevirtual 88, 3) := by decide +kernel
theorem dX9_readFacts_28 : decode cX9_readFacts 28 = .ok (.ishl, 1) := by decide +kernel
theorem dX9_readFacts_29 : decode cX9_readFacts 29 = .ok (.istore_n 1, 1) := by decide +kernel
theorem dX9_readFacts_30 : decode cX9_readFacts 30 = .ok (.iconst 0, 1) := by decide +kernel
theorem dX9_readFacts_31 : decode cX9_readFacts 31 = .ok (.istore_n 2, 1) := by decide +kernel
theorem dX9_readFacts_32 : decode cX9_readFacts 32 = .ok (.iload_n 2, 1) := by decide +kernel
theorem dX9_readFacts_33 : decode cX9_readFacts 33 = .ok (.sipush 160, 3) := by decide +kernel
theorem dX9_readFacts_36 : decode cX9_readFacts 36 = .ok (.if_icmp .ge 48, 3) := by decide +kernel
theorem dX9_readFacts_39 : decode cX9_readFacts 39 = .ok (.aload_n 0, 1) := by decide +kernel
theorem dX9_readFacts_40 : decode cX9_readFacts 40 = .ok (.getfield 19, 3) := by decide +kernel
theorem dX9_readFacts_43 : decode cX9_readFacts 43 = .ok (.iconst (-1), 1) := by decide +kernel
theorem dX9_readFacts_44 : decode cX9_readFacts 44 = .ok (.if_icmp .ne 40, 3) := by decide +kernel
theorem dX9_readFacts_47 : decode cX9_readFacts 47 = .ok (.aload_n 0, 1) := by decide +kernel
theorem dX9_readFacts_48 : decode cX9_readFacts 48 = .ok (.invokevirtual 53, 3) := by decide +kernel
theorem dX9_readFacts_51 : decode cX9_readFacts 51 = .ok (.bipush 44, 2) := by decide +kernel
theorem dX9_readFacts_53 : decode cX9_readFacts 53 = .ok (.if_icmp .ne 31, 3) := by decide +kernel
theorem dX9_readFacts_56 : decode cX9_readFacts 56 = .ok (.aload_n 0, 1) := by decide +kernel
theorem dX9_readFacts_57 : decode cX9_readFacts 57 = .ok (.dup, 1) := by decide +kernel
theorem dX9_readFacts_58 : decode cX9_readFacts 58 = .ok (.getfield 15, 3) := by decide +kernel
theorem dX9_readFacts_61 : decode cX9_readFacts 61 = .ok (.iconst 1, 1) := by decide +kernel
theorem dX9_readFacts_62 : decode cX9_readFacts 62 = .ok (.iadd, 1) := by decide +kernel
theorem dX9_readFacts_63 : decode cX9_readFacts 63 = .ok (.putfield 15, 3) := by decide +kernel
theorem dX9_readFacts_66 : decode cX9_readFacts 66 = .ok (.iload_n 1, 1) := by decide +kernel
theorem dX9_readFacts_67 : decode cX9_readFacts 67 = .ok (.iconst 1, 1) := by decide +kernel
theorem dX9_readFacts_68 : decode cX9_readFacts 68 = .ok (.aload_n 0, 1) := by decide +kernel
theorem dX9_readFacts_69 : decode cX9_readFacts 69 = .ok (.iconst 0, 1) := by decide +kernel
theorem dX9_readFacts_70 : decode cX9_readFacts 70 = .ok (.bipush 29, 2) := by decide +kernel
theorem dX9_readFacts_72 : decode cX9_readFacts 72 = .ok (.invokevirtual 88, 3) := by decide +kernel
theorem dX9_readFacts_75 : decode cX9_readFacts 75 = .ok (.ishl, 1) := by decide +kernel
theorem dX9_readFacts_76 : decode cX9_readFacts 76 = .ok (.ior, 1) := by decide +kernel
theorem dX9_readFacts_77 : decode cX9_readFacts 77 = .ok (.istore_n 1, 1) := by decide +kernel
theorem dX9_readFacts_78 : decode cX9_readFacts 78 = .ok (.iinc 2 1, 3) := by decide +kernel
theorem dX9_readFacts_81 : decode cX9_readFacts 81 = .ok (.goto (-49), 3) := by decide +kernel
theorem dX9_readFacts_84 : decode cX9_readFacts 84 = .ok (.iload_n 1, 1) := by decide +kernel
theorem dX9_readFacts_85 : decode cX9_readFacts 85 = .ok (.ireturn, 1) := by decide +kernel
theorem dX9_readNumber_0 : decode cX9_readNumber 0 = .ok (.aload_n 0, 1) := by decide +kernel
theorem dX9_readNumber_1 : decode cX9_readNumber 1 = .ok (.getfield 19, 3) := by decide +kernel
theorem dX9_readNumber_4 : decode cX9_readNumber 4 = .ok (.iconst (-1), 1) := by decide +kernel
theorem dX9_readNumber_5 : decode cX9_readNumber 5 = .ok (.if_icmp .eq 5, 3) := by decide +kernel
theorem dX9_readNumber_8 : decode cX9_readNumber 8 = .ok (.iconst 0, 1) := by decide +kernel
theorem dX9_readNumber_9 : decode cX9_readNumber 9 = .ok (.ireturn, 1) := by decide +kernel
theorem dX9_readNumber_10 : decode cX9_readNumber 10 = .ok (.aload_n 0, 1) := by decide +kernel
theorem dX9_readNumber_11 : decode cX9_readNumber 11 = .ok (.getfield 15, 3) := by decide +kernel
theorem dX9_readNumber_14 : decode cX9_readNumber 14 = .ok (.istore_n 3, 1) := by decide +kernel
theorem dX9_readNumber_15 : decode cX9_readNumber 15 = .ok (.aload_n 0, 1) := by decide +kernel
theorem dX9_readNumber_16 : decode cX9_readNumber 16 = .ok (.invokevirtual 53, 3) := by decide +kernel
theorem dX9_readNumber_19 : decode cX9_readNumber 19 = .ok (.invokestatic 96, 3) := by decide +kernel
theorem dX9_readNumber_22 : decode cX9_readNumber 22 = .ok (.ifCond .ne 10, 3) := by decide +kernel
theorem dX9_readNumber_25 : decode cX9_readNumber 25 = .ok (.aload_n 0, 1) := by decide +kernel
theorem dX9_readNumber_26 : decode cX9_readNumber 26 = .ok (.iload_n 3, 1) := by decide +kernel
theorem dX9_readNumber_27 : decode cX9_readNumber 27 = .ok (.invokevirtual 70, 3) := by decide +kernel
theorem dX9_readNumber_30 : decode cX9_readNumber 30 = .ok (.iconst 0, 1) := by decide +kernel
theorem dX9_readNumber_31 : decode cX9_readNumber 31 = .ok (.ireturn, 1) := by decide +kernel
theorem dX9_readNumber_32 : decode cX9_readNumber 32 = .ok (.aload_n 0, 1) := by decide +kernel
theorem dX9_readNumber_33 : decode cX9_readNumber 33 = .ok (.invokevirtual 53, 3) := by decide +kernel
theorem dX9_readNumber_36 : decode cX9_readNumber 36 = .ok (.bipush 48, 2) := by decide +kernel
theorem dX9_readNumber_38 : decode cX9_readNumber 38 = .ok (.isub, 1) := by decide +kernel
theorem dX9_readNumber_39 : decode cX9_readNumber 39 = .ok (.istore 4, 2) := by decide +kernel
theorem dX9_readNumber_41 : decode cX9_readNumber 41 = .ok (.aload_n 0, 1) := by decide +kernel
theorem dX9_readNumber_42 : decode cX9_readNumber 42 = .ok (.dup, 1) := by decide +kernel
theorem dX9_readNumber_43 : decode cX9_readNumber 43 = .ok (.getfield 15, 3) := by decide +kernel
theorem dX9_readNumber_46 : decode cX9_readNumber 46 = .ok (.iconst 1, 1) := by decide +kernel
theorem dX9_readNumber_47 : decode cX9_readNumber 47 = .ok (.iadd, 1) := by decide +kernel
theorem dX9_readNumber_48 : decode cX9_readNumber 48 = .ok (.putfield 15, 3) := by decide +kernel
theorem dX9_readNumber_51 : decode cX9_readNumber 51 = .ok (.aload_n 0, 1) := by decide +kernel
theorem dX9_readNumber_52 : decode cX9_readNumber 52 = .ok (.invokevirtual 53, 3) := by decide +kernel
theorem dX9_readNumber_55 : decode cX9_readNumber 55 = .ok (.invokestatic 96, 3) := by decide +kernel
theorem dX9_readNumber_58 : decode cX9_readNumber 58 = .ok (.ifCond .eq 28, 3) := by decide +kernel
theorem dX9_readNumber_61 : decode cX9_readNumber 61 = .ok (.iload 4, 2) := by decide +kernel
theorem dX9_readNumber_63 : decode cX9_readNumber 63 = .ok (.bipush 10, 2) := by decide +kernel
theorem dX9_readNumber_65 : decode cX9_readNumber 65 = .ok (.imul, 1) := by decide +kernel
theorem dX9_readNumber_66 : decode cX9_readNumber 66 = .ok (.aload_n 0, 1) := by decide +kernel
theorem dX9_readNumber_67 : decode cX9_readNumber 67 = .ok (.invokevirtual 53, 3) := by decide +kernel
theorem dX9_readNumber_70 : decode cX9_readNumber 70 = .ok (.iadd, 1) := by decide +kernel
theorem dX9_readNumber_71 : decode cX9_readNumber 71 = .ok (.bipush 48, 2) := by decide +kernel
theorem dX9_readNumber_73 : decode cX9_readNumber 73 = .ok (.isub, 1) := by decide +kernel
theorem dX9_readNumber_74 : decode cX9_readNumber 74 = .ok (.istore 4, 2) := by decide +kernel
theorem dX9_readNumber_76 : decode cX9_readNumber 76 = .ok (.aload_n 0, 1) := by decide +kernel
theorem dX9_readNumber_77 : decode cX9_readNumber 77 = .ok (.dup, 1) := by decide +kernel
theorem dX9_readNumber_78 : decode cX9_readNumber 78 = .ok (.getfield 15, 3) := by decide +kernel
theorem dX9_readNumber_81 : decode cX9_readNumber 81 = .ok (.iconst 1, 1) := by decide +kernel
theorem dX9_readNumber_82 : decode cX9_readNumber 82 = .ok (.iadd, 1) := by decide +kernel
theorem dX9_readNumber_83 : decode cX9_readNumber 83 = .ok (.putfield 15, 3) := by decide +kernel
theorem dX9_readNumber_86 : decode cX9_readNumber 86 = .ok (.iload 4, 2) := by decide +kernel
theorem dX9_readNumber_88 : decode cX9_readNumber 88 = .ok (.iload_n 1, 1) := by decide +kernel
theorem dX9_readNumber_89 : decode cX9_readNumber 89 = .ok (.if_icmp .lt 9, 3) := by decide +kernel
theorem dX9_readNumber_92 : decode cX9_readNumber 92 = .ok (.iload 4, 2) := by decide +kernel
theorem dX9_readNumber_94 : decode cX9_readNumber 94 = .ok (.iload_n 2, 1) := by decide +kernel
theorem dX9_readNumber_95 : decode cX9_readNumber 95 = .ok (.if_icmp .le 10, 3) := by decide +kernel
theorem dX9_readNumber_98 : decode cX9_readNumber 98 = .ok (.aload_n 0, 1) := by decide +kernel
theorem dX9_readNumber_99 : decode cX9_readNumber 99 = .ok (.iload_n 3, 1) := by decide +kernel
theorem dX9_readNumber_100 : decode cX9_readNumber 100 = .ok (.invokevirtual 70, 3) := by decide +kernel
theorem dX9_readNumber_103 : decode cX9_readNumber 103 = .ok (.iconst 0, 1) := by decide +kernel
theorem dX9_readNumber_104 : decode cX9_readNumber 104 = .ok (.ireturn, 1) := by decide +kernel
theorem dX9_readNumber_105 : decode cX9_readNumber 105 = .ok (.iload 4, 2) := by decide +kernel
theorem dX9_readNumber_107 : decode cX9_readNumber 107 = .ok (.ireturn, 1) := by decide +kernel
theorem dX9_expectWord_0 : decode cX9_expectWord 0 = .ok (.iconst 0, 1) := by decide +kernel
theorem dX9_expectWord_1 : decode cX9_expectWord 1 = .ok (.istore_n 2, 1) := by decide +kernel
theorem dX9_expectWord_2 : decode cX9_expectWord 2 = .ok (.iload_n 2, 1) := by decide +kernel
theorem dX9_expectWord_3 : decode cX9_expectWord 3 = .ok (.aload_n 1, 1) := by decide +kernel
theorem dX9_expectWord_4 : decode cX9_expectWord 4 = .ok (.invokevirtual 100, 3) := by decide +kernel
theorem dX9_expectWord_7 : decode cX9_expectWord 7 = .ok (.if_icmp .ge 18, 3) := by decide +kernel
theorem dX9_expectWord_10 : decode cX9_expectWord 10 = .ok (.aload_n 0, 1) := by decide +kernel
theorem dX9_expectWord_11 : decode cX9_expectWord 11 = .ok (.aload_n 1, 1) := by decide +kernel
theorem dX9_expectWord_12 : decode cX9_expectWord 12 = .ok (.iload_n 2, 1) := by decide +kernel
theorem dX9_expectWord_13 : decode cX9_expectWord 13 = .ok (.invokevirtual 105, 3) := by decide +kernel
theorem dX9_expectWord_16 : decode cX9_expectWord 16 = .ok (.invokevirtual 49, 3) := by decide +kernel
theorem dX9_expectWord_19 : decode cX9_expectWord 19 = .ok (.iinc 2 1, 3) := by decide +kernel
theorem dX9_expectWord_22 : decode cX9_expectWord 22 = .ok (.goto (-20), 3) := by decide +kernel
theorem dX9_expectWord_25 : decode cX9_expectWord 25 = .ok (.return_, 1) := by decide +kernel
theorem dX9_expect_0 : decode cX9_expect 0 = .ok (.aload_n 0, 1) := by decide +kernel
theorem dX9_expect_1 : decode cX9_expect 1 = .ok (.getfield 19, 3) := by decide +kernel
theorem dX9_expect_4 : decode cX9_expect 4 = .ok (.iconst (-1), 1) := by decide +kernel
theorem dX9_expect_5 : decode cX9_expect 5 = .ok (.if_icmp .eq 4, 3) := by decide +kernel
theorem dX9_expect_8 : decode cX9_expect 8 = .ok (.return_, 1) := by decide +kernel
theorem dX9_expect_9 : decode cX9_expect 9 = .ok (.aload_n 0, 1) := by decide +kernel
theorem dX9_expect_10 : decode cX9_expect 10 = .ok (.invokevirtual 53, 3) := by decide +kernel
theorem dX9_expect_13 : decode cX9_expect 13 = .ok (.iload_n 1, 1) := by decide +kernel
theorem dX9_expect_14 : decode cX9_expect 14 = .ok (.if_icmp .ne 16, 3) := by decide +kernel
theorem dX9_expect_17 : decode cX9_expect 17 = .ok (.aload_n 0, 1) := by decide +kernel
theorem dX9_expect_18 : decode cX9_expect 18 = .ok (.dup, 1) := by decide +kernel
theorem dX9_expect_19 : decode cX9_expect 19 = .ok (.getfield 15, 3) := by decide +kernel
theorem dX9_expect_22 : decode cX9_expect 22 = .ok (.iconst 1, 1) := by decide +kernel
theorem dX9_expect_23 : decode cX9_expect 23 = .ok (.iadd, 1) := by decide +kernel
theorem dX9_expect_24 : decode cX9_expect 24 = .ok (.putfield 15, 3) := by decide +kernel
theorem dX9_expect_27 : decode cX9_expect 27 = .ok (.goto 11, 3) := by decide +kernel
theorem dX9_expect_30 : decode cX9_expect 30 = .ok (.aload_n 0, 1) := by decide +kernel
theorem dX9_expect_31 : decode cX9_expect 31 = .ok (.aload_n 0, 1) := by decide +kernel
theorem dX9_expect_32 : decode cX9_expect 32 = .ok (.getfield 15, 3) := by decide +kernel
theorem dX9_expect_35 : decode cX9_expect 35 = .ok (.invokevirtual 70, 3) := by decide +kernel
theorem dX9_expect_38 : decode cX9_expect 38 = .ok (.return_, 1) := by decide +kernel
theorem dX9_peek_0 : decode cX9_peek 0 = .ok (.aload_n 0, 1) := by decide +kernel
theorem dX9_peek_1 : decode cX9_peek 1 = .ok (.getfield 9, 3) := by decide +kernel
theorem dX9_peek_4 : decode cX9_peek 4 = .ok (.ifnull 43, 3) := by decide +kernel
theorem dX9_peek_7 : decode cX9_peek 7 = .ok (.aload_n 0, 1) := by decide +kernel
theorem dX9_peek_8 : decode cX9_peek 8 = .ok (.getfield 15, 3) := by decide +kernel
theorem dX9_peek_11 : decode cX9_peek 11 = .ok (.aload_n 0, 1) := by decide +kernel
theorem dX9_peek_12 : decode cX9_peek 12 = .ok (.getfield 9, 3) := by decide +kernel
theorem dX9_peek_15 : decode cX9_peek 15 = .ok (.getfield 44, 3) := by decide +kernel
theorem dX9_peek_18 : decode cX9_peek 18 = .ok (.if_icmp .ge 29, 3) := by decide +kernel
theorem dX9_peek_21 : decode cX9_peek 21 = .ok (.aload_n 0, 1) := by decide +kernel
theorem dX9_peek_22 : decode cX9_peek 22 = .ok (.getfield 15, 3) := by decide +kernel
theorem dX9_peek_25 : decode cX9_peek 25 = .ok (.sipush 160, 3) := by decide +kernel
theorem dX9_peek_28 : decode cX9_peek 28 = .ok (.if_icmp .ge 19, 3) := by decide +kernel
theorem dX9_peek_31 : decode cX9_peek 31 = .ok (.aload_n 0, 1) := by decide +kernel
theorem dX9_peek_32 : decode cX9_peek 32 = .ok (.getfield 9, 3) := by decide +kernel
theorem dX9_peek_35 : decode cX9_peek 35 = .ok (.getfield 109, 3) := by decide +kernel
theorem dX9_peek_38 : decode cX9_peek 38 = .ok (.aload_n 0, 1) := by decide +kernel
theorem dX9_peek_39 : decode cX9_peek 39 = .ok (.getfield 15, 3) := by decide +kernel
theorem dX9_peek_42 : decode cX9_peek 42 = .ok (.laload, 1) := by decide +kernel
theorem dX9_peek_43 : decode cX9_peek 43 = .ok (.l2i, 1) := by decide +kernel
theorem dX9_peek_44 : decode cX9_peek 44 = .ok (.goto 4, 3) := by decide +kernel
theorem dX9_peek_47 : decode cX9_peek 47 = .ok (.iconst (-1), 1) := by decide +kernel
theorem dX9_peek_48 : decode cX9_peek 48 = .ok (.ireturn, 1) := by decide +kernel
theorem dX9_fail_0 : decode cX9_fail 0 = .ok (.aload_n 0, 1) := by decide +kernel
theorem dX9_fail_1 : decode cX9_fail 1 = .ok (.getfield 19, 3) := by decide +kernel
theorem dX9_fail_4 : decode cX9_fail 4 = .ok (.iconst (-1), 1) := by decide +kernel
theorem dX9_fail_5 : decode cX9_fail 5 = .ok (.if_icmp .ne 8, 3) := by decide +kernel
theorem dX9_fail_8 : decode cX9_fail 8 = .ok (.aload_n 0, 1) := by decide +kernel
theorem dX9_fail_9 : decode cX9_fail 9 = .ok (.iload_n 1, 1) := by decide +kernel
theorem dX9_fail_10 : decode cX9_fail 10 = .ok (.putfield 19, 3) := by decide +kernel
theorem dX9_fail_13 : decode cX9_fail 13 = .ok (.return_, 1) := by decide +kernel
theorem dX9_isDigit_0 : decode cX9_isDigit 0 = .ok (.iload_n 0, 1) := by decide +kernel
theorem dX9_isDigit_1 : decode cX9_isDigit 1 = .ok (.bipush 48, 2) := by decide +kernel
theorem dX9_isDigit_3 : decode cX9_isDigit 3 = .ok (.if_icmp .lt 13, 3) := by decide +kernel
theorem dX9_isDigit_6 : decode cX9_isDigit 6 = .ok (.iload_n 0, 1) := by decide +kernel
theorem dX9_isDigit_7 : decode cX9_isDigit 7 = .ok (.bipush 57, 2) := by decide +kernel
theorem dX9_isDigit_9 : decode cX9_isDigit 9 = .ok (.if_icmp .gt 7, 3) := by decide +kernel
theorem dX9_isDigit_12 : decode cX9_isDigit 12 = .ok (.iconst 1, 1) := by decide +kernel
theorem dX9_isDigit_13 : decode cX9_isDigit 13 = .ok (.goto 4, 3) := by decide +kernel
theorem dX9_isDigit_16 : decode cX9_isDigit 16 = .ok (.iconst 0, 1) := by decide +kernel
theorem dX9_isDigit_17 : decode cX9_isDigit 17 = .ok (.ireturn, 1) := by decide +kernel
theorem dX10_init_0 : decode cX10_init 0 = .ok (.aload_n 0, 1) := by decide +kernel
theorem dX10_init_1 : decode cX10_init 1 = .ok (.invokespecial 3, 3) := by decide +kernel
theorem dX10_init_4 : decode cX10_init 4 = .ok (.aload_n 0, 1) := by decide +kernel
theorem dX10_init_5 : decode cX10_init 5 = .ok (.sipush 576, 3) := by decide +kernel
theorem dX10_init_8 : decode cX10_init 8 = .ok (.newarray .int, 2) := by decide +kernel
theorem dX10_init_10 : decode cX10_init 10 = .ok (.putfield 9, 3) := by decide +kernel
theorem dX10_init_13 : decode cX10_init 13 = .ok (.aload_n 0, 1) := by decide +kernel
theorem dX10_init_14 : decode cX10_init 14 = .ok (.iconst (-1), 1) := by decide +kernel
theorem dX10_init_15 : decode cX10_init 15 = .ok (.putfield 15, 3) := by decide +kernel
theorem dX10_init_18 : decode cX10_init 18 = .ok (.aload_n 0, 1) := by decide +kernel
theorem dX10_init_19 : decode cX10_init 19 = .ok (.iconst 0, 1) := by decide +kernel
theorem dX10_init_20 : decode cX10_init 20 = .ok (.putfield 19, 3) := by decide +kernel
theorem dX10_init_23 : decode cX10_init 23 = .ok (.aload_n 0, 1) := by decide +kernel
theorem dX10_init_24 : decode cX10_init 24 = .ok (.iconst 0, 1) := by decide +kernel
theorem dX10_init_25 : decode cX10_init 25 = .ok (.putfield 22, 3) := by decide +kernel
theorem dX10_init_28 : decode cX10_init 28 = .ok (.aload_n 0, 1) := by decide +kernel
theorem dX10_init_29 : decode cX10_init 29 = .ok (.aload_n 1, 1) := by decide +kernel
theorem dX10_init_30 : decode cX10_init 30 = .ok (.putfield 25, 3) := by decide +kernel
theorem dX10_init_33 : decode cX10_init 33 = .ok (.return_, 1) := by decide +kernel
theorem dX10_follow_0 : decode cX10_follow 0 = .ok (.aload_n 0, 1) := by decide +kernel
theorem dX10_follow_1 : decode cX10_follow 1 = .ok (.iconst (-1), 1) := by decide +kernel
theorem dX10_follow_2 : decode cX10_follow 2 = .ok (.putfield 15, 3) := by decide +kernel
theorem dX10_follow_5 : decode cX10_follow 5 = .ok (.aload_n 0, 1) := by decide +kernel
theorem dX10_follow_6 : decode cX10_follow 6 = .ok (.iload_n 3, 1) := by decide +kernel
theorem dX10_follow_7 : decode cX10_follow 7 = .ok (.putfield 19, 3) := by decide +kernel
theorem dX10_follow_10 : decode cX10_follow 10 = .ok (.aload_n 0, 1) := by decide +kernel
theorem dX10_follow_11 : decode cX10_follow 11 = .ok (.iconst 0, 1) := by decide +kernel
theorem dX10_follow_12 : decode cX10_follow 12 = .ok (.putfield 22, 3) := by decide +kernel
theorem dX10_follow_15 : decode cX10_follow 15 = .ok (.iconst 0, 1) := by decide +kernel
theorem dX10_follow_16 : decode cX10_follow 16 = .ok (.istore 4, 2) := by decide +kernel
theorem dX10_follow_18 : decode cX10_follow 18 = .ok (.iload 4, 2) := by decide +kernel
theorem dX10_follow_20 : decode cX10_follow 20 = .ok (.iload_n 2, 1) := by decide +kernel
theorem dX10_follow_21 : decode cX10_follow 21 = .ok (.if_icmp .ge 95, 3) := by decide +kernel
theorem dX10_follow_24 : decode cX10_follow 24 = .ok (.iload 4, 2) := by decide +kernel
theorem dX10_follow_26 : decode cX10_follow 26 = .ok (.bipush 100, 2) := by decide +kernel
theorem dX10_follow_28 : decode cX10_follow 28 = .ok (.if_icmp .ge 88, 3) := by decide +kernel
theorem dX10_follow_31 : decode cX10_follow 31 = .ok (.aload_n 1, 1) := by decide +kernel
theorem dX10_follow_32 : decode cX10_follow 32 = .ok (.iload 4, 2) := by decide +kernel
theorem dX10_follow_34 : decode cX10_follow 34 = .ok (.invokevirtual 29, 3) := by decide +kernel
theorem dX10_follow_37 : decode cX10_follow 37 = .ok (.istore 5, 2) := by decide +kernel
theorem dX10_follow_39 : decode cX10_follow 39 = .ok (.aload_n 0, 1) := by decide +kernel
theorem dX10_follow_40 : decode cX10_follow 40 = .ok (.getfield 25, 3) := by decide +kernel
theorem dX10_follow_43 : decode cX10_follow 43 = .ok (.iload 5, 2) := by decide +kernel
theorem dX10_follow_45 : decode cX10_follow 45 = .ok (.invokevirtual 35, 3) := by decide +kernel
theorem dX10_follow_48 : decode cX10_follow 48 = .ok (.ifCond .eq 19, 3) := by decide +kernel
theorem dX10_follow_51 : decode cX10_follow 51 = .ok (.aload_n 0, 1) := by decide +kernel
theorem dX10_follow_52 : decode cX10_follow 52 = .ok (.getfield 25, 3) := by decide +kernel
theorem dX10_follow_55 : decode cX10_follow 55 = .ok (.aload_n 0, 1) := by decide +kernel
theorem dX10_follow_56 : decode cX10_follow 56 = .ok (.getfield 19, 3) := by decide +kernel
theorem dX10_follow_59 : decode cX10_follow 59 = .ok (.iload 5, 2) := by decide +kernel
theorem dX10_follow_61 : decode cX10_follow 61 = .ok (.invokevirtual 41, 3) := by decide +kernel
theorem dX10_follow_64 : decode cX10_follow 64 = .ok (.ifCond .ne 10, 3) := by decide +kernel
theorem dX10_follow_67 : decode cX10_follow 67 = .ok (.aload_n 0, 1) := by decide +kernel
theorem dX10_follow_68 : decode cX10_follow 68 = .ok (.iload 4, 2) := by decide +kernel
theorem dX10_follow_70 : decode cX10_follow 70 = .ok (.putfield 15, 3) := by decide +kernel
theorem dX10_follow_73 : decode cX10_follow 73 = .ok (.return_, 1) := by decide +kernel
theorem dX10_follow_74 : decode cX10_follow 74 = .ok (.aload_n 0, 1) := by decide +kernel
theorem dX10_follow_75 : decode cX10_follow 75 = .ok (.aload_n 0, 1) := by decide +kernel
theorem dX10_follow_76 : decode cX10_follow 76 = .ok (.getfield 25, 3) := by decide +kernel
theorem dX10_follow_79 : decode cX10_follow 79 = .ok (.aload_n 0, 1) := by decide +kernel
theorem dX10_follow_80 : decode cX10_follow 80 = .ok (.getfield 19, 3) := by decide +kernel
theorem dX10_follow_83 : decode cX10_follow 83 = .ok (.iload 5, 2) := by decide +kernel
theorem dX10_follow_85 : decode cX10_follow 85 = .ok (.invokevirtual 45, 3) := by decide +kernel
theorem dX10_follow_88 : decode cX10_follow 88 = .ok (.putfield 19, 3) := by decide +kernel
theorem dX10_follow_91 : decode cX10_follow 91 = .ok (.aload_n 0, 1) := by decide +kernel
theorem dX10_follow_92 : decode cX10_follow 92 = .ok (.dup, 1) := by decide +kernel
theorem dX10_follow_93 : decode cX10_follow 93 = .ok (.getfield 22, 3) := by decide +kernel
theorem dX10_follow_96 : decode cX10_follow 96 = .ok (.aload_n 0, 1) := by decide +kernel
theorem dX10_follow_97 : decode cX10_follow 97 = .ok (.getfield 25, 3) := by decide +kernel
theorem dX10_follow_100 : decode cX10_follow 100 = .ok (.getfield 49, 3) := by decide +kernel
theorem dX10_follow_103 : decode cX10_follow 103 = .ok (.iload 5, 2) := by decide +kernel
theorem dX10_follow_105 : decode cX10_follow 105 = .ok (.iaload, 1) := by decide +kernel
theorem dX10_follow_106 : decode cX10_follow 106 = .ok (.iadd, 1) := by decide +kernel
theorem dX10_follow_107 : decode cX10_follow 107 = .ok (.putfield 22, 3) := by decide +kernel
theorem dX10_follow_110 : decode cX10_follow 110 = .ok (.iinc 4 1, 3) := by decide +kernel
theorem dX10_follow_113 : decode cX10_follow 113 = .ok (.goto (-95), 3) := by decide +kernel
theorem dX10_follow_116 : decode cX10_follow 116 = .ok (.return_, 1) := by decide +kernel
theorem dX10_areActions_0 : decode cX10_areActions 0 = .ok (.iconst 0, 1) := by decide +kernel
theorem dX10_areActions_1 : decode cX10_areActions 1 = .ok (.istore_n 3, 1) := by decide +kernel
theorem dX10_areActions_2 : decode cX10_areActions 2 = .ok (.iload_n 3, 1) := by decide +kernel
theorem dX10_areActions_3 : decode cX10_areActions 3 = .ok (.iload_n 2, 1) := by decide +kernel
theorem dX10_areActions_4 : decode cX10_areActions 4 = .ok (.if_icmp .ge 32, 3) := by decide +kernel
theorem dX10_areActions_7 : decode cX10_areActions 7 = .ok (.iload_n 3, 1) := by decide +kernel
theorem dX10_areActions_8 : decode cX10_areActions 8 = .ok (.bipush 100, 2) := by decide +kernel
theorem dX10_areActions_10 : decode cX10_areActions 10 = .ok (.if_icmp .ge 26, 3) := by decide +kernel
theorem dX10_areActions_13 : decode cX10_areActions 13 = .ok (.aload_n 0, 1) := by decide +kernel
theorem dX10_areActions_14 : decode cX10_areActions 14 = .ok (.getfield 25, 3) := by decide +kernel
theorem dX10_areActions_17 : decode cX10_areActions 17 = .ok (.aload_n 1, 1) := by decide +kernel
theorem dX10_areActions_18 : decode cX10_areActions 18 = .ok (.iload_n 3, 1) := by decide +kernel
theorem dX10_areActions_19 : decode cX10_areActions 19 = .ok (.invokevirtual 29, 3) := by decide +kernel
theorem dX10_areActions_22 : decode cX10_areActions 22 = .ok (.invokevirtual 35, 3) := by decide +kernel
theorem dX10_areActions_25 : decode cX10_areActions 25 = .ok (.ifCond .ne 5, 3) := by decide +kernel
theorem dX10_areActions_28 : decode cX10_areActions 28 = .ok (.iconst 0, 1) := by decide +kernel
theorem dX10_areActions_29 : decode cX10_areActions 29 = .ok (.ireturn, 1) := by decide +kernel
theorem dX10_areActions_30 : decode cX10_areActions 30 = .ok (.iinc 3 1, 3) := by decide +kernel
theorem dX10_areActions_33 : decode cX10_areActions 33 = .ok (.goto (-31), 3) := by decide +kernel
theorem dX10_areActions_36 : decode cX10_areActions 36 = .ok (.iconst 1, 1) := by decide +kernel
theorem dX10_areActions_37 : decode cX10_areActions 37 = .ok (.ireturn, 1) := by decide +kernel
theorem dX10_commonestPair_0 : decode cX10_commonestPair 0 = .ok (.aload_n 0, 1) := by decide +kernel
theorem dX10_commonestPair_1 : decode cX10_commonestPair 1 = .ok (.getfield 9, 3) := by decide +kernel
theorem dX10_commonestPair_4 : decode cX10_commonestPair 4 = .ok (.iconst 0, 1) := by decide +kernel
theorem dX10_commonestPair_5 : decode cX10_commonestPair 5 = .ok (.invokestatic 52, 3) := by decide +kernel
theorem dX10_commonestPair_8 : decode cX10_commonestPair 8 = .ok (.iconst 1, 1) := by decide +kernel
theorem dX10_commonestPair_9 : decode cX10_commonestPair 9 = .ok (.istore_n 3, 1) := by decide +kernel
theorem dX10_commonestPair_10 : decode cX10_commonestPair 10 = .ok (.iload_n 3, 1) := by decide +kernel
theorem dX10_commonestPair_11 : decode cX10_commonestPair 11 = .ok (.iload_n 2, 1) := by decide +kernel
theorem dX10_commonestPair_12 : decode cX10_commonestPair 12 = .ok (.if_icmp .ge 59, 3) := by decide +kernel
theorem dX10_commonestPair_15 : decode cX10_commonestPair 15 = .ok (.iload_n 3, 1) := by decide +kernel
theorem dX10_commonestPair_16 : decode cX10_commonestPair 16 = .ok (.bipush 100, 2) := by decide +kernel
theorem dX10_commonestPair_18 : decode cX10_commonestPair 18 = .ok (.if_icmp .ge 53, 3) := by decide +kernel
theorem dX10_commonestPair_21 : decode cX10_commonestPair 21 = .ok (.aload_n 1, 1) := by decide +kernel
theorem dX10_commonestPair_22 : decode cX10_commonestPair 22 = .ok (.iload_n 3, 1) := by decide +kernel
theorem dX10_commonestPair_23 : decode cX10_commonestPair 23 = .ok (.iconst 1, 1) := by decide +kernel
theorem dX10_commonestPair_24 : decode cX10_commonestPair 24 = .ok (.isub, 1) := by decide +kernel
theorem dX10_commonestPair_25 : decode cX10_commonestPair 25 = .ok (.invokevirtual 29, 3) := by decide +kernel
theorem dX10_commonestPair_28 : decode cX10_commonestPair 28 = .ok (.bipush 24, 2) := by decide +kernel
theorem dX10_commonestPair_30 : decode cX10_commonestPair 30 = .ok (.imul, 1) := by decide +kernel
theorem dX10_commonestPair_31 : decode cX10_commonestPair 31 = .ok (.aload_n 1, 1) := by decide +kernel
theorem dX10_commonestPair_32 : decode cX10_commonestPair 32 = .ok (.iload_n 3, 1) := by decide +kernel
theorem dX10_commonestPair_33 : decode cX10_commonestPair 33 = .ok (.invokevirtual 29, 3) := by decide +kernel
theorem dX10_commonestPair_36 : decode cX10_commonestPair 36 = .ok (.iadd, 1) := by decide +kernel
theorem dX10_commonestPair_37 : decode cX10_commonestPair 37 = .ok (.istore 4, 2) := by decide +kernel
theorem dX10_commonestPair_39 : decode cX10_commonestPair 39 = .ok (.iload 4, 2) := by decide +kernel
theorem dX10_commonestPair_41 : decode cX10_commonestPair 41 = .ok (.ifCond .lt 24, 3) := by decide +kernel
theorem dX10_commonestPair_44 : decode cX10_commonestPair 44 = .ok (.iload 4, 2) := by decide +kernel
theorem dX10_commonestPair_46 : decode cX10_commonestPair 46 = .ok (.aload_n 0, 1) := by decide +kernel
theorem dX10_commonestPair_47 : decode cX10_commonestPair 47 = .ok (.getfield 9, 3) := by decide +kernel
theorem dX10_commonestPair_50 : decode cX10_commonestPair 50 = .ok (.arraylength, 1) := by decide +kernel
theorem dX10_commonestPair_51 : decode cX10_commonestPair 51 = .ok (.if_icmp .ge 14, 3) := by decide +kernel
theorem dX10_commonestPair_54 : decode cX10_commonestPair 54 = .ok (.aload_n 0, 1) := by decide +kernel
theorem dX10_commonestPair_55 : decode cX10_commonestPair 55 = .ok (.getfield 9, 3) := by decide +kernel
theorem dX10_commonestPair_58 : decode cX10_commonestPair 58 = .ok (.iload 4, 2) := by decide +kernel
theorem dX10_commonestPair_60 : decode cX10_commonestPair 60 = .ok (.dup2, 1) := by decide +kernel
theorem dX10_commonestPair_61 : decode cX10_commonestPair 61 = .ok (.iaload, 1) := by decide +kernel
theorem dX10_commonestPair_62 : decode cX10_commonestPair 62 = .ok (.iconst 1, 1) := by decide +kernel
theorem dX10_commonestPair_63 : decode cX10_commonestPair 63 = .ok (.iadd, 1) := by decide +kernel
theorem dX10_commonestPair_64 : decode cX10_commonestPair 64 = .ok (.iastore, 1) := by decide +kernel
theorem dX10_commonestPair_65 : decode cX10_commonestPair 65 = .ok (.iinc 3 1, 3) := by decide +kernel
theorem dX10_commonestPair_68 : decode cX10_commonestPair 68 = .ok (.goto (-58), 3) := by decide +kernel
theorem dX10_commonestPair_71 : decode cX10_commonestPair 71 = .ok (.iconst 0, 1) := by decide +kernel
theorem dX10_commonestPair_72 : decode cX10_commonestPair 72 = .ok (.istore_n 3, 1) := by decide +kernel
theorem dX10_commonestPair_73 : decode cX10_commonestPair 73 = .ok (.iconst 1, 1) := by decide +kernel
theorem dX10_commonestPair_74 : decode cX10_commonestPair 74 = .ok (.istore 4, 2) := by decide +kernel
theorem dX10_commonestPair_76 : decode cX10_commonestPair 76 = .ok (.iload 4, 2) := by decide +kernel
theorem dX10_commonestPair_78 : decode cX10_commonestPair 78 = .ok (.aload_n 0, 1) := by decide +kernel
theorem dX10_commonestPair_79 : decode cX10_commonestPair 79 = .ok (.getfield 9, 3) := by decide +kernel
theorem dX10_commonestPair_82 : decode cX10_commonestPair 82 = .ok (.arraylength, 1) := by decide +kernel
theorem dX10_commonestPair_83 : decode cX10_commonestPair 83 = .ok (.if_icmp .ge 28, 3) := by decide +kernel
theorem dX10_commonestPair_86 : decode cX10_commonestPair 86 = .ok (.aload_n 0, 1) := by decide +kernel
theorem dX10_commonestPair_87 : decode cX10_commonestPair 87 = .ok (.getfield 9, 3) := by decide +kernel
theorem dX10_commonestPair_90 : decode cX10_commonestPair 90 = .ok (.iload 4, 2) := by decide +kernel
theorem dX10_commonestPair_92 : decode cX10_commonestPair 92 = .ok (.iaload, 1) := by decide +kernel
theorem dX10_commonestPair_93 : decode cX10_commonestPair 93 = .ok (.aload_n 0, 1) := by decide +kernel
theorem dX10_commonestPair_94 : decode cX10_commonestPair 94 = .ok (.getfield 9, 3) := by decide +kernel
theorem dX10_commonestPair_97 : decode cX10_commonestPair 97 = .ok (.iload_n 3, 1) := by decide +kernel
theorem dX10_commonestPair_98 : decode cX10_commonestPair 98 = .ok (.iaload, 1) := by decide +kernel
theorem dX10_commonestPair_99 : decode cX10_commonestPair 99 = .ok (.if_icmp .le 6, 3) := by decide +kernel
theorem dX10_commonestPair_102 : decode cX10_commonestPair 102 = .ok (.iload 4, 2) := by decide +kernel
theorem dX10_commonestPair_104 : decode cX10_commonestPair 104 = .ok (.istore_n 3, 1) := by decide +kernel
theorem dX10_commonestPair_105 : decode cX10_commonestPair 105 = .ok (.iinc 4 1, 3) := by decide +kernel
theorem dX10_commonestPair_108 : decode cX10_commonestPair 108 = .ok (.goto (-32), 3) := by decide +kernel
theorem dX10_commonestPair_111 : decode cX10_commonestPair 111 = .ok (.iload_n 3, 1) := by decide +kernel
theorem dX10_commonestPair_112 : decode cX10_commonestPair 112 = .ok (.ireturn, 1) := by decide +kernel
theorem dX11_init_0 : decode cX11_init 0 = .ok (.aload_n 0, 1) := by decide +kernel
theorem dX11_init_1 : decode cX11_init 1 = .ok (.invokespecial 3, 3) := by decide +kernel
theorem dX11_init_4 : decode cX11_init 4 = .ok (.aload_n 0, 1) := by decide +kernel
theorem dX11_init_5 : decode cX11_init 5 = .ok (.new 9, 3) := by decide +kernel
theorem dX11_init_8 : decode cX11_init 8 = .ok (.dup, 1) := by decide +kernel
theorem dX11_init_9 : decode cX11_init 9 = .ok (.invokespecial 11, 3) := by decide +kernel
theorem dX11_init_12 : decode cX11_init 12 = .ok (.putfield 12, 3) := by decide +kernel
theorem dX11_init_15 : decode cX11_init 15 = .ok (.aload_n 0, 1) := by decide +kernel
theorem dX11_init_16 : decode cX11_init 16 = .ok (.bipush 8, 2) := by decide +kernel
theorem dX11_init_18 : decode cX11_init 18 = .ok (.anewarray 16, 3) := by decide +kernel
theorem dX11_init_21 : decode cX11_init 21 = .ok (.putfield 18, 3) := by decide +kernel
theorem dX11_init_24 : decode cX11_init 24 = .ok (.aload_n 0, 1) := by decide +kernel
theorem dX11_init_25 : decode cX11_init 25 = .ok (.new 22, 3) := by decide +kernel
theorem dX11_init_28 : decode cX11_init 28 = .ok (.dup, 1) := by decide +kernel
theorem dX11_init_29 : decode cX11_init 29 = .ok (.aload_n 0, 1) := by decide +kernel
theorem dX11_init_30 : decode cX11_init 30 = .ok (.getfield 12, 3) := by decide +kernel
theorem dX11_init_33 : decode cX11_init 33 = .ok (.invokespecial 24, 3) := by decide +kernel
theorem dX11_init_36 : decode cX11_init 36 = .ok (.putfield 27, 3) := by decide +kernel
theorem dX11_init_39 : decode cX11_init 39 = .ok (.aload_n 0, 1) := by decide +kernel
theorem dX11_init_40 : decode cX11_init 40 = .ok (.new 31, 3) := by decide +kernel
theorem dX11_init_43 : decode cX11_init 43 = .ok (.dup, 1) := by decide +kernel
theorem dX11_init_44 : decode cX11_init 44 = .ok (.aload_n 0, 1) := by decide +kernel
theorem dX11_init_45 : decode cX11_init 45 = .ok (.getfield 12, 3) := by decide +kernel
theorem dX11_init_48 : decode cX11_init 48 = .ok (.aload_n 0, 1) := by decide +kernel
theorem dX11_init_49 : decode cX11_init 49 = .ok (.getfield 27, 3) := by decide +kernel
theorem dX11_init_52 : decode cX11_init 52 = .ok (.invokespecial 33, 3) := by decide +kernel
theorem dX11_init_55 : decode cX11_init 55 = .ok (.putfield 36, 3) := by decide +kernel
theorem dX11_init_58 : decode cX11_init 58 = .ok (.aload_n 0, 1) := by decide +kernel
theorem dX11_init_59 : decode cX11_init 59 = .ok (.new 40, 3) := by decide +kernel
theorem dX11_init_62 : decode cX11_init 62 = .ok (.dup, 1) := by decide +kernel
theorem dX11_init_63 : decode cX11_init 63 = .ok (.aload_n 0, 1) := by decide +kernel
theorem dX11_init_64 : decode cX11_init 64 = .ok (.getfield 12, 3) := by decide +kernel
theorem dX11_init_67 : decode cX11_init 67 = .ok (.invokespecial 42, 3) := by decide +kernel
theorem dX11_init_70 : decode cX11_init 70 = .ok (.putfield 43, 3) := by decide +kernel
theorem dX11_init_73 : decode cX11_init 73 = .ok (.aload_n 0, 1) := by decide +kernel
theorem dX11_init_74 : decode cX11_init 74 = .ok (.new 47, 3) := by decide +kernel
theorem dX11_init_77 : decode cX11_init 77 = .ok (.dup, 1) := by decide +kernel
theorem dX11_init_78 : decode cX11_init 78 = .ok (.aload_n 0, 1) := by decide +kernel
theorem dX11_init_79 : decode cX11_init 79 = .ok (.getfield 12, 3) := by decide +kernel
theorem dX11_init_82 : decode cX11_init 82 = .ok (.aload_n 0, 1) := by decide +kernel
theorem dX11_init_83 : decode cX11_init 83 = .ok (.getfield 43, 3) := by decide +kernel
theorem dX11_init_86 : decode cX11_init 86 = .ok (.invokespecial 49, 3) := by decide +kernel
theorem dX11_init_89 : decode cX11_init 89 = .ok (.putfield 52, 3) := by decide +kernel
theorem dX11_init_92 : decode cX11_init 92 = .ok (.aload_n 0, 1) := by decide +kernel
theorem dX11_init_93 : decode cX11_init 93 = .ok (.new 56, 3) := by decide +kernel
theorem dX11_init_96 : decode cX11_init 96 = .ok (.dup, 1) := by decide +kernel
theorem dX11_init_97 : decode cX11_init 97 = .ok (.aload_n 0, 1) := by decide +kernel
theorem dX11_init_98 : decode cX11_init 98 = .ok (.getfield 12, 3) := by decide +kernel
theorem dX11_init_101 : decode cX11_init 101 = .ok (.invokespecial 58, 3) := by decide +kernel
theorem dX11_init_104 : decode cX11_init 104 = .ok (.putfield 59, 3) := by decide +kernel
theorem dX11_init_107 : decode cX11_init 107 = .ok (.aload_n 0, 1) := by decide +kernel
theorem dX11_init_108 : decode cX11_init 108 = .ok (.new 63, 3) := by decide +kernel
theorem dX11_init_111 : decode cX11_init 111 = .ok (.dup, 1) := by decide +kernel
theorem dX11_init_112 : decode cX11_init 112 = .ok (.aload_n 0, 1) := by decide +kernel
theorem dX11_init_113 : decode cX11_init 113 = .ok (.getfield 12, 3) := by decide +kernel
theorem dX11_init_116 : decode cX11_init 116 = .ok (.invokespecial 65, 3) := by decide +kernel
theorem dX11_init_119 : decode cX11_init 119 = .ok (.putfield 66, 3) := by decide +kernel
theorem dX11_init_122 : decode cX11_init 122 = .ok (.aload_n 0, 1) := by decide +kernel
theorem dX11_init_123 : decode cX11_init 123 = .ok (.new 70, 3) := by decide +kernel
theorem dX11_init_126 : decode cX11_init 126 = .ok (.dup, 1) := by decide +kernel
theorem dX11_init_127 : decode cX11_init 127 = .ok (.invokespecial 72, 3) := by decide +kernel
theorem dX11_init_130 : decode cX11_init 130 = .ok (.putfield 73, 3) := by decide +kernel
theorem dX11_init_133 : decode cX11_init 133 = .ok (.aload_n 0, 1) := by decide +kernel
theorem dX11_init_134 : decode cX11_init 134 = .ok (.bipush 7, 2) := by decide +kernel
theorem dX11_init_136 : decode cX11_init 136 = .ok (.newarray .int, 2) := by decide +kernel
theorem dX11_init_138 : decode cX11_init 138 = .ok (.putfield 77, 3) := by decide +kernel
theorem dX11_init_141 : decode cX11_init 141 = .ok (.aload_n 0, 1) := by decide +kernel
theorem dX11_init_142 : decode cX11_init 142 = .ok (.bipush 40, 2) := by decide +kernel
theorem dX11_init_144 : decode cX11_init 144 = .ok (.newarray .int, 2) := by decide +kernel
theorem dX11_init_146 : decode cX11_init 146 = .ok (.putfield 81, 3) := by decide +kernel
theorem dX11_init_149 : decode cX11_init 149 = .ok (.aload_n 0, 1) := by decide +kernel
theorem dX11_init_150 : decode cX11_init 150 = .ok (.iconst 0, 1) := by decide +kernel
theorem dX11_init_151 : decode cX11_init 151 = .ok (.putfield 84, 3) := by decide +kernel
theorem dX11_init_154 : decode cX11_init 154 = .ok (.aload_n 0, 1) := by decide +kernel
theorem dX11_init_155 : decode cX11_init 155 = .ok (.iconst 0, 1) := by decide +kernel
theorem dX11_init_156 : decode cX11_init 156 = .ok (.putfield 88, 3) := by decide +kernel
theorem dX11_init_159 : decode cX11_init 159 = .ok (.aload_n 0, 1) := by decide +kernel
theorem dX11_init_160 : decode cX11_init 160 = .ok (.iconst 0, 1) := by decide +kernel
theorem dX11_init_161 : decode cX11_init 161 = .ok (.putfield 91, 3) := by decide +kernel
theorem dX11_init_164 : decode cX11_init 164 = .ok (.aload_n 0, 1) := by decide +kernel
theorem dX11_init_165 : decode cX11_init 165 = .ok (.iconst 0, 1) := by decide +kernel
theorem dX11_init_166 : decode cX11_init 166 = .ok (.putfield 94, 3) := by decide +kernel
theorem dX11_init_169 : decode cX11_init 169 = .ok (.aload_n 0, 1) := by decide +kernel
theorem dX11_init_170 : decode cX11_init 170 = .ok (.iconst 1, 1) := by decide +kernel
theorem dX11_init_171 : decode cX11_init 171 = .ok (.putfield 97, 3) := by decide +kernel
theorem dX11_init_174 : decode cX11_init 174 = .ok (.aload_n 0, 1) := by decide +kernel
theorem dX11_init_175 : decode cX11_init 175 = .ok (.iconst (-1), 1) := by decide +kernel
theorem dX11_init_176 : decode cX11_init 176 = .ok (.putfield 100, 3) := by decide +kernel
theorem dX11_init_179 : decode cX11_init 179 = .ok (.iconst 0, 1) := by decide +kernel
theorem dX11_init_180 : decode cX11_init 180 = .ok (.istore_n 1, 1) := by decide +kernel
theorem dX11_init_181 : decode cX11_init 181 = .ok (.iload_n 1, 1) := by decide +kernel
theorem dX11_init_182 : decode cX11_init 182 = .ok (.bipush 8, 2) := by decide +kernel
theorem dX11_init_184 : decode cX11_init 184 = .ok (.if_icmp .ge 22, 3) := by decide +kernel
theorem dX11_init_187 : decode cX11_init 187 = .ok (.aload_n 0, 1) := by decide +kernel
theorem dX11_init_188 : decode cX11_init 188 = .ok (.getfield 18, 3) := by decide +kernel
theorem dX11_init_191 : decode cX11_init 191 = .ok (.iload_n 1, 1) := by decide +kernel
theorem dX11_init_192 : decode cX11_init 192 = .ok (.new 16, 3) := by decide +kernel
theorem dX11_init_195 : decode cX11_init 195 = .ok (.dup, 1) := by decide +kernel
theorem dX11_init_196 : decode cX11_init 196 = .ok (.invokespecial 103, 3) := by decide +kernel
theorem dX11_init_199 : decode cX11_init 199 = .ok (.aastore, 1) := by decide +kernel
theorem dX11_init_200 : decode cX11_init 200 = .ok (.iinc 1 1, 3) := by decide +kernel
theorem dX11_init_203 : decode cX11_init 203 = .ok (.goto (-22), 3) := by decide +kernel
theorem dX11_init_206 : decode cX11_init 206 = .ok (.return_, 1) := by decide +kernel
theorem dX11_row_0 : decode cX11_row 0 = .ok (.iload_n 1, 1) := by decide +kernel
theorem dX11_row_1 : decode cX11_row 1 = .ok (.invokestatic 104, 3) := by decide +kernel
theorem dX11_row_4 : decode cX11_row 4 = .ok (.ifCond .ne 9, 3) := by decide +kernel
theorem dX11_row_7 : decode cX11_row 7 = .ok (.aload_n 0, 1) := by decide +kernel
theorem dX11_row_8 : decode cX11_row 8 = .ok (.iconst (-1), 1) := by decide +kernel
theorem dX11_row_9 : decode cX11_row 9 = .ok (.invokevirtual 108, 3) := by decide +kernel
theorem dX11_row_12 : decode cX11_row 12 = .ok (.ireturn, 1) := by decide +kernel
theorem dX11_row_13 : decode cX11_row 13 = .ok (.iload_n 3, 1) := by decide +kernel
theorem dX11_row_14 : decode cX11_row 14 = .ok (.ifCond .ge 10, 3) := by decide +kernel
theorem dX11_row_17 : decode cX11_row 17 = .ok (.aload_n 0, 1) := by decide +kernel
theorem dX11_row_18 : decode cX11_row 18 = .ok (.bipush (-4), 2) := by decide +kernel
theorem dX11_row_20 : decode cX11_row 20 = .ok (.invokevirtual 108, 3) := by decide +kernel
theorem dX11_row_23 : decode cX11_row 23 = .ok (.ireturn, 1) := by decide +kernel
theorem dX11_row_24 : decode cX11_row 24 = .ok (.iload_n 2, 1) := by decide +kernel
theorem dX11_row_25 : decode cX11_row 25 = .ok (.ifCond .lt 8, 3) := by decide +kernel
theorem dX11_row_28 : decode cX11_row 28 = .ok (.iload_n 2, 1) := by decide +kernel
theorem dX11_row_29 : decode cX11_row 29 = .ok (.iconst 3, 1) := by decide +kernel
theorem dX11_row_30 : decode cX11_row 30 = .ok (.if_icmp .le 10, 3) := by decide +kernel
theorem dX11_row_33 : decode cX11_row 33 = .ok (.aload_n 0, 1) := by decide +kernel
theorem dX11_row_34 : decode cX11_row 34 = .ok (.bipush (-6), 2) := by decide +kernel
theorem dX11_row_36 : decode cX11_row 36 = .ok (.invokevirtual 108, 3) := by decide +kernel
theorem dX11_row_39 : decode cX11_row 39 = .ok (.ireturn, 1) := by decide +kernel
theorem dX11_row_40 : decode cX11_row 40 = .ok (.iload_n 3, 1) := by decide +kernel
theorem dX11_row_41 : decode cX11_row 41 = .ok (.sipush 160, 3) := by decide +kernel
theorem dX11_row_44 : decode cX11_row 44 = .ok (.if_icmp .le 10, 3) := by decide +kernel
theorem dX11_row_47 : decode cX11_row 47 = .ok (.aload_n 0, 1) := by decide +kernel
theorem dX11_row_48 : decode cX11_row 48 = .ok (.bipush (-7), 2) := by decide +kernel
theorem dX11_row_50 : decode cX11_row 50 = .ok (.invokevirtual 108, 3) := by decide +kernel
theorem dX11_row_53 : decode cX11_row 53 = .ok (.ireturn, 1) := by decide +kernel
theorem dX11_row_54 : decode cX11_row 54 = .ok (.aload_n 0, 1) := by decide +kernel
theorem dX11_row_55 : decode cX11_row 55 = .ok (.getfield 18, 3) := by decide +kernel
theorem dX11_row_58 : decode cX11_row 58 = .ok (.iload_n 1, 1) := by decide +kernel
theorem dX11_row_59 : decode cX11_row 59 = .ok (.aaload, 1) := by decide +kernel
theorem dX11_row_60 : decode cX11_row 60 = .ok (.iload_n 2, 1) := by decide +kernel
theorem dX11_row_61 : decode cX11_row 61 = .ok (.iload_n 3, 1) := by decide +kernel
theorem dX11_row_62 : decode cX11_row 62 = .ok (.invokevirtual 112, 3) := by decide +kernel
theorem dX11_row_65 : decode cX11_row 65 = .ok (.iconst 1, 1) := by decide +kernel
theorem dX11_row_66 : decode cX11_row 66 = .ok (.ireturn, 1) := by decide +kernel
theorem dX11_set_0 : decode cX11_set 0 = .ok (.aload_n 0, 1) := by decide +kernel
theorem dX11_set_1 : decode cX11_set 1 = .ok (.iload_n 1, 1) := by decide +kernel
theorem dX11_set_2 : decode cX11_set 2 = .ok (.invokevirtual 116, 3) := by decide +kernel
theorem dX11_set_5 : decode cX11_set 5 = .ok (.istore 5, 2) := by decide +kernel
theorem dX11_set_7 : decode cX11_set 7 = .ok (.iload 5, 2) := by decide +kernel
theorem dX11_set_9 : decode cX11_set 9 = .ok (.ifCond .eq 10, 3) := by decide +kernel
theorem dX11_set_12 : decode cX11_set 12 = .ok (.aload_n 0, 1) := by decide +kernel
theorem dX11_set_13 : decode cX11_set 13 = .ok (.iload 5, 2) := by decide +kernel
theorem dX11_set_15 : decode cX11_set 15 = .ok (.invokevirtual 108, 3) := by decide +kernel
theorem dX11_set_18 : decode cX11_set 18 = .ok (.ireturn, 1) := by decide +kernel
theorem dX11_set_19 : decode cX11_set 19 = .ok (.aload_n 0, 1) := by decide +kernel
theorem dX11_set_20 : decode cX11_set 20 = .ok (.getfield 18, 3) := by decide +kernel
theorem dX11_set_23 : decode cX11_set 23 = .ok (.iload_n 1, 1) := by decide +kernel
theorem dX11_set_24 : decode cX11_set 24 = .ok (.aaload, 1) := by decide +kernel
theorem dX11_set_25 : decode cX11_set 25 = .ok (.iload_n 2, 1) := by decide +kernel
theorem dX11_set_26 : decode cX11_set 26 = .ok (.invokevirtual 119, 3) := by decide +kernel
theorem dX11_set_29 : decode cX11_set 29 = .ok (.ifCond .ne 10, 3) := by decide +kernel
theorem dX11_set_32 : decode cX11_set 32 = .ok (.aload_n 0, 1) := by decide +kernel
theorem dX11_set_33 : decode cX11_set 33 = .ok (.bipush (-5), 2) := by decide +kernel
theorem dX11_set_35 : decode cX11_set 35 = .ok (.invokevirtual 108, 3) := by decide +kernel
theorem dX11_set_38 : decode cX11_set 38 = .ok (.ireturn, 1) := by decide +kernel
theorem dX11_set_39 : decode cX11_set 39 = .ok (.aload_n 0, 1) := by decide +kernel
theorem dX11_set_40 : decode cX11_set 40 = .ok (.getfield 18, 3) := by decide +kernel
theorem dX11_set_43 : decode cX11_set 43 = .ok (.iload_n 1, 1) := by decide +kernel
theorem dX11_set_44 : decode cX11_set 44 = .ok (.aaload, 1) := by decide +kernel
theorem dX11_set_45 : decode cX11_set 45 = .ok (.iload_n 2, 1) := by decide +kernel
theorem dX11_set_46 : decode cX11_set 46 = .ok (.lload_n 3, 1) := by decide +kernel
theorem dX11_set_47 : decode cX11_set 47 = .ok (.invokevirtual 122, 3) := by decide +kernel
theorem dX11_set_50 : decode cX11_set 50 = .ok (.iconst 1, 1) := by decide +kernel
theorem dX11_set_51 : decode cX11_set 51 = .ok (.ireturn, 1) := by decide +kernel
theorem dX11_copy_0 : decode cX11_copy 0 = .ok (.aload_n 0, 1) := by decide +kernel
theorem dX11_copy_1 : decode cX11_copy 1 = .ok (.iload_n 1, 1) := by decide +kernel
theorem dX11_copy_2 : decode cX11_copy 2 = .ok (.iload_n 2, 1) := by decide +kernel
theorem dX11_copy_3 : decode cX11_copy 3 = .ok (.invokevirtual 126, 3) := by decide +kernel
theorem dX11_copy_6 : decode cX11_copy 6 = .ok (.istore 6, 2) := by decide +kernel
theorem dX11_copy_8 : decode cX11_copy 8 = .ok (.iload 6, 2) := by decide +kernel
theorem dX11_copy_10 : decode cX11_copy 10 = .ok (.ifCond .eq 10, 3) := by decide +kernel
theorem dX11_copy_13 : decode cX11_copy 13 = .ok (.aload_n 0, 1) := by decide +kernel
theorem dX11_copy_14 : decode cX11_copy 14 = .ok (.iload 6, 2) := by decide +kernel
theorem dX11_copy_16 : decode cX11_copy 16 = .ok (.invokevirtual 108, 3) := by decide +kernel
theorem dX11_copy_19 : decode cX11_copy 19 = .ok (.ireturn, 1) := by decide +kernel
theorem dX11_copy_20 : decode cX11_copy 20 = .ok (.iload 5, 2) := by decide +kernel
theorem dX11_copy_22 : decode cX11_copy 22 = .ok (.ifCond .ge 10, 3) := by decide +kernel
theorem dX11_copy_25 : decode cX11_copy 25 = .ok (.aload_n 0, 1) := by decide +kernel
theorem dX11_copy_26 : decode cX11_copy 26 = .ok (.bipush (-4), 2) := by decide +kernel
theorem dX11_copy_28 : decode cX11_copy 28 = .ok (.invokevirtual 108, 3) := by decide +kernel
theorem dX11_copy_31 : decode cX11_copy 31 = .ok (.ireturn, 1) := by decide +kernel
theorem dX11_copy_32 : decode cX11_copy 32 = .ok (.aload_n 0, 1) := by decide +kernel
theorem dX11_copy_33 : decode cX11_copy 33 = .ok (.getfield 18, 3) := by decide +kernel
theorem dX11_copy_36 : decode cX11_copy 36 = .ok (.iload_n 1, 1) := by decide +kernel
theorem dX11_copy_37 : decode cX11_copy 37 = .ok (.aaload, 1) := by decide +kernel
theorem dX11_copy_38 : decode cX11_copy 38 = .ok (.iload_n 3, 1) := by decide +kernel
theorem dX11_copy_39 : decode cX11_copy 39 = .ok (.iload 5, 2) := by decide +kernel
theorem dX11_copy_41 : decode cX11_copy 41 = .ok (.invokevirtual 130, 3) := by decide +kernel
theorem dX11_copy_44 : decode cX11_copy 44 = .ok (.ifCond .eq 19, 3) := by decide +kernel
theorem dX11_copy_47 : decode cX11_copy 47 = .ok (.aload_n 0, 1) := by decide +kernel
theorem dX11_copy_48 : decode cX11_copy 48 = .ok (.getfield 18, 3) := by decide +kernel
theorem dX11_copy_51 : decode cX11_copy 51 = .ok (.iload_n 2, 1) := by decide +kernel
theorem dX11_copy_52 : decode cX11_copy 52 = .ok (.aaload, 1) := by decide +kernel
theorem dX11_copy_53 : decode cX11_copy 53 = .ok (.iload 4, 2) := by decide +kernel
theorem dX11_copy_55 : decode cX11_copy 55 = .ok (.iload 5, 2) := by decide +kernel
theorem dX11_copy_57 : decode cX11_copy 57 = .ok (.invokevirtual 130, 3) := by decide +kernel
theorem dX11_copy_60 : decode cX11_copy 60 = .ok (.ifCond .ne 10, 3) := by decide +kernel
theorem dX11_copy_63 : decode cX11_copy 63 = .ok (.aload_n 0, 1) := by decide +kernel
theorem dX11_copy_64 : decode cX11_copy 64 = .ok (.bipush (-5), 2) := by decide +kernel
theorem dX11_copy_66 : decode cX11_copy 66 = .ok (.invokevirtual 108, 3) := by decide +kernel
theorem dX11_copy_69 : decode cX11_copy 69 = .ok (.ireturn, 1) := by decide +kernel
theorem dX11_copy_70 : decode cX11_copy 70 = .ok (.aload_n 0, 1) := by decide +kernel
theorem dX11_copy_71 : decode cX11_copy 71 = .ok (.getfield 18, 3) := by decide +kernel
theorem dX11_copy_74 : decode cX11_copy 74 = .ok (.iload_n 1, 1) := by decide +kernel
theorem dX11_copy_75 : decode cX11_copy 75 = .ok (.aaload, 1) := by decide +kernel
theorem dX11_copy_76 : decode cX11_copy 76 = .ok (.getfield 134, 3) := by decide +kernel
theorem dX11_copy_79 : decode cX11_copy 79 = .ok (.iload_n 3, 1) := by decide +kernel
theorem dX11_copy_80 : decode cX11_copy 80 = .ok (.aload_n 0, 1) := by decide +kernel
theorem dX11_copy_81 : decode cX11_copy 81 = .ok (.getfield 18, 3) := by decide +kernel
theorem dX11_copy_84 : decode cX11_copy 84 = .ok (.iload_n 2, 1) := by decide +kernel
theorem dX11_copy_85 : decode cX11_copy 85 = .ok (.aaload, 1) := by decide +kernel
theorem dX11_copy_86 : decode cX11_copy 86 = .ok (.getfield 134, 3) := by decide +kernel
theorem dX11_copy_89 : decode cX11_copy 89 = .ok (.iload 4, 2) := by decide +kernel
theorem dX11_copy_91 : decode cX11_copy 91 = .ok (.iload 5, 2) := by decide +kernel
theorem dX11_copy_93 : decode cX11_copy 93 = .ok (.invokestatic 138, 3) := by decide +kernel
theorem dX11_copy_96 : decode cX11_copy 96 = .ok (.iconst 1, 1) := by decide +kernel
theorem dX11_copy_97 : decode cX11_copy 97 = .ok (.ireturn, 1) := by decide +kernel
theorem dX11_element_0 : decode cX11_element 0 = .ok (.iload_n 1, 1) := by decide +kernel
theorem dX11_element_1 : decode cX11_element 1 = .ok (.invokestatic 104, 3) := by decide +kernel
theorem dX11_element_4 : decode cX11_element 4 = .ok (.ifCond .eq 16, 3) := by decide +kernel
theorem dX11_element_7 : decode cX11_element 7 = .ok (.aload_n 0, 1) := by decide +kernel
theorem dX11_element_8 : decode cX11_element 8 = .ok (.getfield 18, 3) := by decide +kernel
theorem dX11_element_11 : decode cX11_element 11 = .ok (.iload_n 1, 1) := by decide +kernel
theorem dX11_element_12 : decode cX11_element 12 = .ok (.aaload, 1) := by decide +kernel
theorem dX11_element_13 : decode cX11_element 13 = .ok (.iload_n 2, 1) := by decide +kernel
theorem dX11_element_14 : decode cX11_element 14 = .ok (.invokevirtual 144, 3) := by decide +kernel
theorem dX11_element_17 : decode cX11_element 17 = .ok (.goto 4, 3) := by decide +kernel
theorem dX11_element_20 : decode cX11_element 20 = .ok (.lconst 0, 1) := by decide +kernel
theorem dX11_element_21 : decode cX11_element 21 = .ok (.lreturn, 1) := by decide +kernel
theorem dX11_show_0 : decode cX11_show 0 = .ok (.iload_n 1, 1) := by decide +kernel
theorem dX11_show_1 : decode cX11_show 1 = .ok (.invokestatic 104, 3) := by decide +kernel
theorem dX11_show_4 : decode cX11_show 4 = .ok (.ifCond .eq 19, 3) := by decide +kernel
theorem dX11_show_7 : decode cX11_show 7 = .ok (.iload_n 2, 1) := by decide +kernel
theorem dX11_show_8 : decode cX11_show 8 = .ok (.iconst (-1), 1) := by decide +kernel
theorem dX11_show_9 : decode cX11_show 9 = .ok (.if_icmp .eq 20, 3) := by decide +kernel
theorem dX11_show_12 : decode cX11_show 12 = .ok (.aload_n 0, 1) := by decide +kernel
theorem dX11_show_13 : decode cX11_show 13 = .ok (.getfield 12, 3) := by decide +kernel
theorem dX11_show_16 : decode cX11_show 16 = .ok (.iload_n 2, 1) := by decide +kernel
theorem dX11_show_17 : decode cX11_show 17 = .ok (.invokevirtual 148, 3) := by decide +kernel
theorem dX11_show_20 : decode cX11_show 20 = .ok (.ifCond .ne 9, 3) := by decide +kernel
theorem dX11_show_23 : decode cX11_show 23 = .ok (.aload_n 0, 1) := by decide +kernel
theorem dX11_show_24 : decode cX11_show 24 = .ok (.iconst (-1), 1) := by decide +kernel
theorem dX11_show_25 : decode cX11_show 25 = .ok (.invokevirtual 108, 3) := by decide +kernel
theorem dX11_show_28 : decode cX11_show 28 = .ok (.ireturn, 1) := by decide +kernel
theorem dX11_show_29 : decode cX11_show 29 = .ok (.aload_n 0, 1) := by decide +kernel
theorem dX11_show_30 : decode cX11_show 30 = .ok (.getfield 18, 3) := by decide +kernel
theorem dX11_show_33 : decode cX11_show 33 = .ok (.iload_n 1, 1) := by decide +kernel
theorem dX11_show_34 : decode cX11_show 34 = .ok (.aaload, 1) := by decide +kernel
theorem dX11_show_35 : decode cX11_show 35 = .ok (.iload_n 2, 1) := by decide +kernel
theorem dX11_show_36 : decode cX11_show 36 = .ok (.invokevirtual 151, 3) := by decide +kernel
theorem dX11_show_39 : decode cX11_show 39 = .ok (.iload_n 2, 1) := by decide +kernel
theorem dX11_show_40 : decode cX11_show 40 = .ok (.iconst (-1), 1) := by decide +kernel
theorem dX11_show_41 : decode cX11_show 41 = .ok (.if_icmp .ne 7, 3) := by decide +kernel
theorem dX11_show_44 : decode cX11_show 44 = .ok (.iconst 0, 1) := by decide +kernel
theorem dX11_show_45 : decode cX11_show 45 = .ok (.goto 4, 3) := by decide +kernel
theorem dX11_show_48 : decode cX11_show 48 = .ok (.iconst 1, 1) := by decide +kernel
theorem dX11_show_49 : decode cX11_show 49 = .ok (.ireturn, 1) := by decide +kernel
theorem dX11_holds_0 : decode cX11_holds 0 = .ok (.iload_n 1, 1) := by decide +kernel
theorem dX11_holds_1 : decode cX11_holds 1 = .ok (.invokestatic 104, 3) := by decide +kernel
theorem dX11_holds_4 : decode cX11_holds 4 = .ok (.ifCond .eq 15, 3) := by decide +kernel
theorem dX11_holds_7 : decode cX11_holds 7 = .ok (.aload_n 0, 1) := by decide +kernel
theorem dX11_holds_8 : decode cX11_holds 8 = .ok (.getfield 18, 3) := by decide +kernel
theorem dX11_holds_11 : decode cX11_holds 11 = .ok (.iload_n 1, 1) := by decide +kernel
theorem dX11_holds_12 : decode cX11_holds 12 = .ok (.aaload, 1) := by decide +kernel
theorem dX11_holds_13 : decode cX11_holds 13 = .ok (.getfield 155, 3) := by decide +kernel
theorem dX11_holds_16 : decode cX11_holds 16 = .ok (.goto 4, 3) := by decide +kernel
theorem dX11_holds_19 : decode cX11_holds 19 = .ok (.iconst (-1), 1) := by decide +kernel
theorem dX11_holds_20 : decode cX11_holds 20 = .ok (.ireturn, 1) := by decide +kernel
theorem dX11_says_0 : decode cX11_says 0 = .ok (.iload_n 1, 1) := by decide +kernel
theorem dX11_says_1 : decode cX11_says 1 = .ok (.invokestatic 104, 3) := by decide +kernel
theorem dX11_says_4 : decode cX11_says 4 = .ok (.ifCond .eq 12, 3) := by decide +kernel
theorem dX11_says_7 : decode cX11_says 7 = .ok (.iload_n 2, 1) := by decide +kernel
theorem dX11_says_8 : decode cX11_says 8 = .ok (.ifCond .lt 8, 3) := by decide +kernel
theorem dX11_says_11 : decode cX11_says 11 = .ok (.iload_n 2, 1) := by decide +kernel
theorem dX11_says_12 : decode cX11_says 12 = .ok (.iconst 2, 1) := by decide +kernel
theorem dX11_says_13 : decode cX11_says 13 = .ok (.if_icmp .le 9, 3) := by decide +kernel
theorem dX11_says_16 : decode cX11_says 16 = .ok (.aload_n 0, 1) := by decide +kernel
theorem dX11_says_17 : decode cX11_says 17 = .ok (.iconst (-1), 1) := by decide +kernel
theorem dX11_says_18 : decode cX11_says 18 = .ok (.invokevirtual 108, 3) := by decide +kernel
theorem dX11_says_21 : decode cX11_says 21 = .ok (.ireturn, 1) := by decide +kernel
theorem dX11_says_22 : decode cX11_says 22 = .ok (.aload_n 0, 1) := by decide +kernel
theorem dX11_says_23 : decode cX11_says 23 = .ok (.getfield 18, 3) := by decide +kernel
theorem dX11_says_26 : decode cX11_says 26 = .ok (.iload_n 1, 1) := by decide +kernel
theorem dX11_says_27 : decode cX11_says 27 = .ok (.aaload, 1) := by decide +kernel
theorem dX11_says_28 : decode cX11_says 28 = .ok (.getfield 155, 3) := by decide +kernel
theorem dX11_says_31 : decode cX11_says 31 = .ok (.istore_n 3, 1) := by decide +kernel
theorem dX11_says_32 : decode cX11_says 32 = .ok (.iload_n 3, 1) := by decide +kernel
theorem dX11_says_33 : decode cX11_says 33 = .ok (.iconst (-1), 1) := by decide +kernel
theorem dX11_says_34 : decode cX11_says 34 = .ok (.if_icmp .ne 10, 3) := by decide +kernel
theorem dX11_says_37 : decode cX11_says 37 = .ok (.aload_n 0, 1) := by decide +kernel
theorem dX11_says_38 : decode cX11_says 38 = .ok (.bipush (-3), 2) := by decide +kernel
theorem dX11_says_40 : decode cX11_says 40 = .ok (.invokevirtual 108, 3) := by decide +kernel
theorem dX11_says_43 : decode cX11_says 43 = .ok (.ireturn, 1) := by decide +kernel
theorem dX11_says_44 : decode cX11_says 44 = .ok (.aload_n 0, 1) := by decide +kernel
theorem dX11_says_45 : decode cX11_says 45 = .ok (.getfield 12, 3) := by decide +kernel
theorem dX11_says_48 : decode cX11_says 48 = .ok (.iload_n 3, 1) := by decide +kernel
theorem dX11_says_49 : decode cX11_says 49 = .ok (.invokevirtual 148, 3) := by decide +kernel
theorem dX11_says_52 : decode cX11_says 52 = .ok (.ifCond .eq 16, 3) := by decide +kernel
theorem dX11_says_55 : decode cX11_says 55 = .ok (.aload_n 0, 1) := by decide +kernel
theorem dX11_says_56 : decode cX11_says 56 = .ok (.getfield 12, 3) := by decide +kernel
theorem dX11_says_59 : decode cX11_says 59 = .ok (.getfield 158, 3) := by decide +kernel
theorem dX11_says_62 : decode cX11_says 62 = .ok (.iload_n 3, 1) := by decide +kernel
theorem dX11_says_63 : decode cX11_says 63 = .ok (.iaload, 1) := by decide +kernel
theorem dX11_says_64 : decode cX11_says 64 = .ok (.iload_n 2, 1) := by decide +kernel
theorem dX11_says_65 : decode cX11_says 65 = .ok (.if_icmp .ge 10, 3) := by decide +kernel
theorem dX11_says_68 : decode cX11_says 68 = .ok (.aload_n 0, 1) := by decide +kernel
theorem dX11_says_69 : decode cX11_says 69 = .ok (.bipush (-2), 2) := by decide +kernel
theorem dX11_says_71 : decode cX11_says 71 = .ok (.invokevirtual 108, 3) := by decide +kernel
theorem dX11_says_74 : decode cX11_says 74 = .ok (.ireturn, 1) := by decide +kernel
theorem dX11_says_75 : decode cX11_says 75 = .ok (.iload_n 2, 1) := by decide +kernel
theorem dX11_says_76 : decode cX11_says 76 = .ok (.ifCond .ne 13, 3) := by decide +kernel
theorem dX11_says_79 : decode cX11_says 79 = .ok (.aload_n 0, 1) := by decide +kernel
theorem dX11_says_80 : decode cX11_says 80 = .ok (.getfield 12, 3) := by decide +kernel
theorem dX11_says_83 : decode cX11_says 83 = .ok (.getfield 161, 3) := by decide +kernel
theorem dX11_says_86 : decode cX11_says 86 = .ok (.iload_n 3, 1) := by decide +kernel
theorem dX11_says_87 : decode cX11_says 87 = .ok (.iaload, 1) := by decide +kernel
theorem dX11_says_88 : decode cX11_says 88 = .ok (.ireturn, 1) := by decide +kernel
theorem dX11_says_89 : decode cX11_says 89 = .ok (.iload_n 2, 1) := by decide +kernel
theorem dX11_says_90 : decode cX11_says 90 = .ok (.iconst 1, 1) := by decide +kernel
theorem dX11_says_91 : decode cX11_says 91 = .ok (.if_icmp .ne 28, 3) := by decide +kernel
theorem dX11_says_94 : decode cX11_says 94 = .ok (.bipush 100, 2) := by decide +kernel
theorem dX11_says_96 : decode cX11_says 96 = .ok (.aload_n 0, 1) := by decide +kernel
theorem dX11_says_97 : decode cX11_says 97 = .ok (.getfield 12, 3) := by decide +kernel
theorem dX11_says_100 : decode cX11_says 100 = .ok (.getfield 164, 3) := by decide +kernel
theorem dX11_says_103 : decode cX11_says 103 = .ok (.iload_n 3, 1) := by decide +kernel
theorem dX11_says_104 : decode cX11_says 104 = .ok (.iaload, 1) := by decide +kernel
theorem dX11_says_105 : decode cX11_says 105 = .ok (.imul, 1) := by decide +kernel
theorem dX11_says_106 : decode cX11_says 106 = .ok (.aload_n 0, 1) := by decide +kernel
theorem dX11_says_107 : decode cX11_says 107 = .ok (.getfield 12, 3) := by decide +kernel
theorem dX11_says_110 : decode cX11_says 110 = .ok (.getfield 167, 3) := by decide +kernel
theorem dX11_says_113 : decode cX11_says 113 = .ok (.iload_n 3, 1) := by decide +kernel
theorem dX11_says_114 : decode cX11_says 114 = .ok (.iaload, 1) := by decide +kernel
theorem dX11_says_115 : decode cX11_says 115 = .ok (.iadd, 1) := by decide +kernel
theorem dX11_says_116 : decode cX11_says 116 = .ok (.goto 12, 3) := by decide +kernel
theorem dX11_says_119 : decode cX11_says 119 = .ok (.aload_n 0, 1) := by decide +kernel
theorem dX11_says_120 : decode cX11_says 120 = .ok (.getfield 12, 3) := by decide +kernel
theorem dX11_says_123 : decode cX11_says 123 = .ok (.getfield 170, 3) := by decide +kernel
theorem dX11_says_126 : decode cX11_says 126 = .ok (.iload_n 3, 1) := by decide +kernel
theorem dX11_says_127 : decode cX11_says 127 = .ok (.iaload, 1) := by decide +kernel
theorem dX11_says_128 : decode cX11_says 128 = .ok (.ireturn, 1) := by decide +kernel
theorem dX11_action_0 : decode cX11_action 0 = .ok (.iload_n 1, 1) := by decide +kernel
theorem dX11_action_1 : decode cX11_action 1 = .ok (.invokestatic 173, 3) := by decide +kernel
theorem dX11_action_4 : decode cX11_action 4 = .ok (.ifCond .eq 30, 3) := by decide +kernel
theorem dX11_action_7 : decode cX11_action 7 = .ok (.iload_n 2, 1) := by decide +kernel
theorem dX11_action_8 : decode cX11_action 8 = .ok (.invokestatic 173, 3) := by decide +kernel
theorem dX11_action_11 : decode cX11_action 11 = .ok (.ifCond .eq 23, 3) := by decide +kernel
theorem dX11_action_14 : decode cX11_action 14 = .ok (.iload_n 3, 1) := by decide +kernel
theorem dX11_action_15 : decode cX11_action 15 = .ok (.invokestatic 173, 3) := by decide +kernel
theorem dX11_action_18 : decode cX11_action 18 = .ok (.ifCond .eq 16, 3) := by decide +kernel
theorem dX11_action_21 : decode cX11_action 21 = .ok (.iload 4, 2) := by decide +kernel
theorem dX11_action_23 : decode cX11_action 23 = .ok (.iconst 1, 1) := by decide +kernel
theorem dX11_action_24 : decode cX11_action 24 = .ok (.if_icmp .lt 10, 3) := by decide +kernel
theorem dX11_action_27 : decode cX11_action 27 = .ok (.iload 4, 2) := by decide +kernel
theorem dX11_action_29 : decode cX11_action 29 = .ok (.bipush 99, 2) := by decide +kernel
theorem dX11_action_31 : decode cX11_action 31 = .ok (.if_icmp .le 10, 3) := by decide +kernel
theorem dX11_action_34 : decode cX11_action 34 = .ok (.aload_n 0, 1) := by decide +kernel
theorem dX11_action_35 : decode cX11_action 35 = .ok (.bipush (-6), 2) := by decide +kernel
theorem dX11_action_37 : decode cX11_action 37 = .ok (.invokevirtual 108, 3) := by decide +kernel
theorem dX11_action_40 : decode cX11_action 40 = .ok (.ireturn, 1) := by decide +kernel
theorem dX11_action_41 : decode cX11_action 41 = .ok (.aload_n 0, 1) := by decide +kernel
theorem dX11_action_42 : decode cX11_action 42 = .ok (.getfield 12, 3) := by decide +kernel
theorem dX11_action_45 : decode cX11_action 45 = .ok (.getfield 176, 3) := by decide +kernel
theorem dX11_action_48 : decode cX11_action 48 = .ok (.bipush 24, 2) := by decide +kernel
theorem dX11_action_50 : decode cX11_action 50 = .ok (.if_icmp .lt 10, 3) := by decide +kernel
theorem dX11_action_53 : decode cX11_action 53 = .ok (.aload_n 0, 1) := by decide +kernel
theorem dX11_action_54 : decode cX11_action 54 = .ok (.bipush (-7), 2) := by decide +kernel
theorem dX11_action_56 : decode cX11_action 56 = .ok (.invokevirtual 108, 3) := by decide +kernel
theorem dX11_action_59 : decode cX11_action 59 = .ok (.ireturn, 1) := by decide +kernel
theorem dX11_action_60 : decode cX11_action 60 = .ok (.aload_n 0, 1) := by decide +kernel
theorem dX11_action_61 : decode cX11_action 61 = .ok (.getfield 12, 3) := by decide +kernel
theorem dX11_action_64 : decode cX11_action 64 = .ok (.aload_n 0, 1) := by decide +kernel
theorem dX11_action_65 : decode cX11_action 65 = .ok (.getfield 12, 3) := by decide +kernel
theorem dX11_action_68 : decode cX11_action 68 = .ok (.getfield 176, 3) := by decide +kernel
theorem dX11_action_71 : decode cX11_action 71 = .ok (.iload_n 1, 1) := by decide +kernel
theorem dX11_action_72 : decode cX11_action 72 = .ok (.iload_n 2, 1) := by decide +kernel
theorem dX11_action_73 : decode cX11_action 73 = .ok (.iload_n 3, 1) := by decide +kernel
theorem dX11_action_74 : decode cX11_action 74 = .ok (.iload 4, 2) := by decide +kernel
theorem dX11_action_76 : decode cX11_action 76 = .ok (.invokevirtual 179, 3) := by decide +kernel
theorem dX11_action_79 : decode cX11_action 79 = .ok (.aload_n 0, 1) := by decide +kernel
theorem dX11_action_80 : decode cX11_action 80 = .ok (.getfield 12, 3) := by decide +kernel
theorem dX11_action_83 : decode cX11_action 83 = .ok (.dup, 1) := by decide +kernel
theorem dX11_action_84 : decode cX11_action 84 = .ok (.getfield 176, 3) := by decide +kernel
theorem dX11_action_87 : decode cX11_action 87 = .ok (.iconst 1, 1) := by decide +kernel
theorem dX11_action_88 : decode cX11_action 88 = .ok (.iadd, 1) := by decide +kernel
theorem dX11_action_89 : decode cX11_action 89 = .ok (.putfield 176, 3) := by decide +kernel
theorem dX11_action_92 : decode cX11_action 92 = .ok (.aload_n 0, 1) := by decide +kernel
theorem dX11_action_93 : decode cX11_action 93 = .ok (.invokevirtual 183, 3) := by decide +kernel
theorem dX11_action_96 : decode cX11_action 96 = .ok (.aload_n 0, 1) := by decide +kernel
theorem dX11_action_97 : decode cX11_action 97 = .ok (.getfield 12, 3) := by decide +kernel
theorem dX11_action_100 : decode cX11_action 100 = .ok (.getfield 176, 3) := by decide +kernel
theorem dX11_action_103 : decode cX11_action 103 = .ok (.iconst 1, 1) := by decide +kernel
theorem dX11_action_104 : decode cX11_action 104 = .ok (.isub, 1) := by decide +kernel
theorem dX11_action_105 : decode cX11_action 105 = .ok (.ireturn, 1) := by decide +kernel
theorem dX11_macro_0 : decode cX11_macro 0 = .ok (.aload_n 0, 1) := by decide +kernel
theorem dX11_macro_1 : decode cX11_macro 1 = .ok (.getfield 12, 3) := by decide +kernel
theorem dX11_macro_4 : decode cX11_macro 4 = .ok (.iload_n 1, 1) := by decide +kernel
theorem dX11_macro_5 : decode cX11_macro 5 = .ok (.invokevirtual 148, 3) := by decide +kernel
theorem dX11_macro_8 : decode cX11_macro 8 = .ok (.ifCond .eq 14, 3) := by decide +kernel
theorem dX11_macro_11 : decode cX11_macro 11 = .ok (.aload_n 0, 1) := by decide +kernel
theorem dX11_macro_12 : decode cX11_macro 12 = .ok (.getfield 12, 3) := by decide +kernel
theorem dX11_macro_15 : decode cX11_macro 15 = .ok (.iload_n 2, 1) := by decide +kernel
theorem dX11_macro_16 : decode cX11_macro 16 = .ok (.invokevirtual 148, 3) := by decide +kernel
theorem dX11_macro_19 : decode cX11_macro 19 = .ok (.ifCond .ne 9, 3) := by decide +kernel
theorem dX11_macro_22 : decode cX11_macro 22 = .ok (.aload_n 0, 1) := by decide +kernel
theorem dX11_macro_23 : decode cX11_macro 23 = .ok (.iconst (-1), 1) := by decide +kernel
theorem dX11_macro_24 : decode cX11_macro 24 = .ok (.invokevirtual 108, 3) := by decide +kernel
theorem dX11_macro_27 : decode cX11_macro 27 = .ok (.ireturn, 1) := by decide +kernel
theorem dX11_macro_28 : decode cX11_macro 28 = .ok (.aload_n 0, 1) := by decide +kernel
theorem dX11_macro_29 : decode cX11_macro 29 = .ok (.getfield 12, 3) := by decide +kernel
theorem dX11_macro_32 : decode cX11_macro 32 = .ok (.iload_n 1, 1) := by decide +kernel
theorem dX11_macro_33 : decode cX11_macro 33 = .ok (.iload_n 2, 1) := by decide +kernel
theorem dX11_macro_34 : decode cX11_macro 34 = .ok (.invokevirtual 186, 3) := by decide +kernel
theorem dX11_macro_37 : decode cX11_macro 37 = .ok (.ifCond .ne 10, 3) := by decide +kernel
theorem dX11_macro_40 : decode cX11_macro 40 = .ok (.aload_n 0, 1) := by decide +kernel
theorem dX11_macro_41 : decode cX11_macro 41 = .ok (.bipush (-6), 2) := by decide +kernel
theorem dX11_macro_43 : decode cX11_macro 43 = .ok (.invokevirtual 108, 3) := by decide +kernel
theorem dX11_macro_46 : decode cX11_macro 46 = .ok (.ireturn, 1) := by decide +kernel
theorem dX11_macro_47 : decode cX11_macro 47 = .ok (.aload_n 0, 1) := by decide +kernel
theorem dX11_macro_48 : decode cX11_macro 48 = .ok (.getfield 12, 3) := by decide +kernel
theorem dX11_macro_51 : decode cX11_macro 51 = .ok (.getfield 176, 3) := by decide +kernel
theorem dX11_macro_54 : decode cX11_macro 54 = .ok (.bipush 24, 2) := by decide +kernel
theorem dX11_macro_56 : decode cX11_macro 56 = .ok (.if_icmp .lt 10, 3) := by decide +kernel
theorem dX11_macro_59 : decode cX11_macro 59 = .ok (.aload_n 0, 1) := by decide +kernel
theorem dX11_macro_60 : decode cX11_macro 60 = .ok (.bipush (-7), 2) := by decide +kernel
theorem dX11_macro_62 : decode cX11_macro 62 = .ok (.invokevirtual 108, 3) := by decide +kernel
theorem dX11_macro_65 : decode cX11_macro 65 = .ok (.ireturn, 1) := by decide +kernel
theorem dX11_macro_66 : decode cX11_macro 66 = .ok (.aload_n 0, 1) := by decide +kernel
theorem dX11_macro_67 : decode cX11_macro 67 = .ok (.getfield 12, 3) := by decide +kernel
theorem dX11_macro_70 : decode cX11_macro 70 = .ok (.aload_n 0, 1) := by decide +kernel
theorem dX11_macro_71 : decode cX11_macro 71 = .ok (.getfield 12, 3) := by decide +kernel
theorem dX11_macro_74 : decode cX11_macro 74 = .ok (.getfield 176, 3) := by decide +kernel
theorem dX11_macro_77 : decode cX11_macro 77 = .ok (.iload_n 1, 1) := by decide +kernel
theorem dX11_macro_78 : decode cX11_macro 78 = .ok (.iload_n 2, 1) := by decide +kernel
theorem dX11_macro_79 : decode cX11_macro 79 = .ok (.invokevirtual 189, 3) := by decide +kernel
theorem dX11_macro_82 : decode cX11_macro 82 = .ok (.aload_n 0, 1) := by decide +kernel
theorem dX11_macro_83 : decode cX11_macro 83 = .ok (.getfield 12, 3) := by decide +kernel
theorem dX11_macro_86 : decode cX11_macro 86 = .ok (.dup, 1) := by decide +kernel
theorem dX11_macro_87 : decode cX11_macro 87 = .ok (.getfield 176, 3) := by decide +kernel
theorem dX11_macro_90 : decode cX11_macro 90 = .ok (.iconst 1, 1) := by decide +kernel
theorem dX11_macro_91 : decode cX11_macro 91 = .ok (.iadd, 1) := by decide +kernel
theorem dX11_macro_92 : decode cX11_macro 92 = .ok (.putfield 176, 3) := by decide +kernel
theorem dX11_macro_95 : decode cX11_macro 95 = .ok (.aload_n 0, 1) := by decide +kernel
theorem dX11_macro_96 : decode cX11_macro 96 = .ok (.invokevirtual 183, 3) := by decide +kernel
theorem dX11_macro_99 : decode cX11_macro 99 = .ok (.aload_n 0, 1) := by decide +kernel
theorem dX11_macro_100 : decode cX11_macro 100 = .ok (.getfield 12, 3) := by decide +kernel
theorem dX11_macro_103 : decode cX11_macro 103 = .ok (.getfield 176, 3) := by decide +kernel
theorem dX11_macro_106 : decode cX11_macro 106 = .ok (.iconst 1, 1) := by decide +kernel
theorem dX11_macro_107 : decode cX11_macro 107 = .ok (.isub, 1) := by decide +kernel
theorem dX11_macro_108 : decode cX11_macro 108 = .ok (.ireturn, 1) := by decide +kernel
theorem dX11_read_0 : decode cX11_read 0 = .ok (.aload_n 0, 1) := by decide +kernel
theorem dX11_read_1 : decode cX11_read 1 = .ok (.iload_n 1, 1) := by decide +kernel
theorem dX11_read_2 : decode cX11_read 2 = .ok (.invokevirtual 116, 3) := by decide +kernel
theorem dX11_read_5 : decode cX11_read 5 = .ok (.istore_n 2, 1) := by decide +kernel
theorem dX11_read_6 : decode cX11_read 6 = .ok (.iload_n 2, 1) := by decide +kernel
theorem dX11_read_7 : decode cX11_read 7 = .ok (.ifCond .eq 9, 3) := by decide +kernel
theorem dX11_read_10 : decode cX11_read 10 = .ok (.aload_n 0, 1) := by decide +kernel
theorem dX11_read_11 : decode cX11_read 11 = .ok (.iload_n 2, 1) := by decide +kernel
theorem dX11_read_12 : decode cX11_read 12 = .ok (.invokevirtual 108, 3) := by decide +kernel
theorem dX11_read_15 : decode cX11_read 15 = .ok (.ireturn, 1) := by decide +kernel
theorem dX11_read_16 : decode cX11_read 16 = .ok (.aload_n 0, 1) := by decide +kernel
theorem dX11_read_17 : decode cX11_read 17 = .ok (.getfield 59, 3) := by decide +kernel
theorem dX11_read_20 : decode cX11_read 20 = .ok (.aload_n 0, 1) := by decide +kernel
theorem dX11_read_21 : decode cX11_read 21 = .ok (.getfield 18, 3) := by decide +kernel
theorem dX11_read_24 : decode cX11_read 24 = .ok (.iload_n 1, 1) := by decide +kernel
theorem dX11_read_25 : decode cX11_read 25 = .ok (.aaload, 1) := by decide +kernel
theorem dX11_read_26 : decode cX11_read 26 = .ok (.aload_n 0, 1) := by decide +kernel
theorem dX11_read_27 : decode cX11_read 27 = .ok (.getfield 88, 3) := by decide +kernel
theorem dX11_read_30 : decode cX11_read 30 = .ok (.aload_n 0, 1) := by decide +kernel
theorem dX11_read_31 : decode cX11_read 31 = .ok (.getfield 91, 3) := by decide +kernel
theorem dX11_read_34 : decode cX11_read 34 = .ok (.aload_n 0, 1) := by decide +kernel
theorem dX11_read_35 : decode cX11_read 35 = .ok (.getfield 94, 3) := by decide +kernel
theorem dX11_read_38 : decode cX11_read 38 = .ok (.invokevirtual 193, 3) := by decide +kernel
theorem dX11_read_41 : decode cX11_read 41 = .ok (.aload_n 0, 1) := by decide +kernel
theorem dX11_read_42 : decode cX11_read 42 = .ok (.aload_n 0, 1) := by decide +kernel
theorem dX11_read_43 : decode cX11_read 43 = .ok (.getfield 59, 3) := by decide +kernel
theorem dX11_read_46 : decode cX11_read 46 = .ok (.getfield 197, 3) := by decide +kernel
theorem dX11_read_49 : decode cX11_read 49 = .ok (.putfield 100, 3) := by decide +kernel
theorem dX11_read_52 : decode cX11_read 52 = .ok (.aload_n 0, 1) := by decide +kernel
theorem dX11_read_53 : decode cX11_read 53 = .ok (.getfield 100, 3) := by decide +kernel
theorem dX11_read_56 : decode cX11_read 56 = .ok (.iconst (-1), 1) := by decide +kernel
theorem dX11_read_57 : decode cX11_read 57 = .ok (.if_icmp .eq 10, 3) := by decide +kernel
theorem dX11_read_60 : decode cX11_read 60 = .ok (.aload_n 0, 1) := by decide +kernel
theorem dX11_read_61 : decode cX11_read 61 = .ok (.bipush (-6), 2) := by decide +kernel
theorem dX11_read_63 : decode cX11_read 63 = .ok (.invokevirtual 108, 3) := by decide +kernel
theorem dX11_read_66 : decode cX11_read 66 = .ok (.ireturn, 1) := by decide +kernel
theorem dX11_read_67 : decode cX11_read 67 = .ok (.aload_n 0, 1) := by decide +kernel
theorem dX11_read_68 : decode cX11_read 68 = .ok (.aload_n 0, 1) := by decide +kernel
theorem dX11_read_69 : decode cX11_read 69 = .ok (.getfield 59, 3) := by decide +kernel
theorem dX11_read_72 : decode cX11_read 72 = .ok (.getfield 200, 3) := by decide +kernel
theorem dX11_read_75 : decode cX11_read 75 = .ok (.putfield 88, 3) := by decide +kernel
theorem dX11_read_78 : decode cX11_read 78 = .ok (.aload_n 0, 1) := by decide +kernel
theorem dX11_read_79 : decode cX11_read 79 = .ok (.aload_n 0, 1) := by decide +kernel
theorem dX11_read_80 : decode cX11_read 80 = .ok (.getfield 59, 3) := by decide +kernel
theorem dX11_read_83 : decode cX11_read 83 = .ok (.getfield 203, 3) := by decide +kernel
theorem dX11_read_86 : decode cX11_read 86 = .ok (.putfield 91, 3) := by decide +kernel
theorem dX11_read_89 : decode cX11_read 89 = .ok (.aload_n 0, 1) := by decide +kernel
theorem dX11_read_90 : decode cX11_read 90 = .ok (.aload_n 0, 1) := by decide +kernel
theorem dX11_read_91 : decode cX11_read 91 = .ok (.getfield 59, 3) := by decide +kernel
theorem dX11_read_94 : decode cX11_read 94 = .ok (.getfield 206, 3) := by decide +kernel
theorem dX11_read_97 : decode cX11_read 97 = .ok (.putfield 94, 3) := by decide +kernel
theorem dX11_read_100 : decode cX11_read 100 = .ok (.aload_n 0, 1) := by decide +kernel
theorem dX11_read_101 : decode cX11_read 101 = .ok (.getfield 12, 3) := by decide +kernel
theorem dX11_read_104 : decode cX11_read 104 = .ok (.dup, 1) := by decide +kernel
theorem dX11_read_105 : decode cX11_read 105 = .ok (.getfield 176, 3) := by decide +kernel
theorem dX11_read_108 : decode cX11_read 108 = .ok (.aload_n 0, 1) := by decide +kernel
theorem dX11_read_109 : decode cX11_read 109 = .ok (.getfield 59, 3) := by decide +kernel
theorem dX11_read_112 : decode cX11_read 112 = .ok (.getfield 209, 3) := by decide +kernel
theorem dX11_read_115 : decode cX11_read 115 = .ok (.iadd, 1) := by decide +kernel
theorem dX11_read_116 : decode cX11_read 116 = .ok (.putfield 176, 3) := by decide +kernel
theorem dX11_read_119 : decode cX11_read 119 = .ok (.aload_n 0, 1) := by decide +kernel
theorem dX11_read_120 : decode cX11_read 120 = .ok (.invokevirtual 183, 3) := by decide +kernel
theorem dX11_read_123 : decode cX11_read 123 = .ok (.aload_n 0, 1) := by decide +kernel
theorem dX11_read_124 : decode cX11_read 124 = .ok (.getfield 59, 3) := by decide +kernel
theorem dX11_read_127 : decode cX11_read 127 = .ok (.getfield 212, 3) := by decide +kernel
theorem dX11_read_130 : decode cX11_read 130 = .ok (.ireturn, 1) := by decide +kernel
theorem dX11_fault_0 : decode cX11_fault 0 = .ok (.aload_n 0, 1) := by decide +kernel
theorem dX11_fault_1 : decode cX11_fault 1 = .ok (.getfield 100, 3) := by decide +kernel
theorem dX11_fault_4 : decode cX11_fault 4 = .ok (.ireturn, 1) := by decide +kernel
theorem dX11_put_0 : decode cX11_put 0 = .ok (.iload_n 1, 1) := by decide +kernel
theorem dX11_put_1 : decode cX11_put 1 = .ok (.ifCond .lt 8, 3) := by decide +kernel
theorem dX11_put_4 : decode cX11_put 4 = .ok (.iload_n 1, 1) := by decide +kernel
theorem dX11_put_5 : decode cX11_put 5 = .ok (.iconst 2, 1) := by decide +kernel
theorem dX11_put_6 : decode cX11_put 6 = .ok (.if_icmp .le 10, 3) := by decide +kernel
theorem dX11_put_9 : decode cX11_put 9 = .ok (.aload_n 0, 1) := by decide +kernel
theorem dX11_put_10 : decode cX11_put 10 = .ok (.bipush (-5), 2) := by decide +kernel
theorem dX11_put_12 : decode cX11_put 12 = .ok (.invokevirtual 108, 3) := by decide +kernel
theorem dX11_put_15 : decode cX11_put 15 = .ok (.ireturn, 1) := by decide +kernel
theorem dX11_put_16 : decode cX11_put 16 = .ok (.iload_n 2, 1) := by decide +kernel
theorem dX11_put_17 : decode cX11_put 17 = .ok (.invokestatic 173, 3) := by decide +kernel
theorem dX11_put_20 : decode cX11_put 20 = .ok (.ifCond .ne 10, 3) := by decide +kernel
theorem dX11_put_23 : decode cX11_put 23 = .ok (.aload_n 0, 1) := by decide +kernel
theorem dX11_put_24 : decode cX11_put 24 = .ok (.bipush (-6), 2) := by decide +kernel
theorem dX11_put_26 : decode cX11_put 26 = .ok (.invokevirtual 108, 3) := by decide +kernel
theorem dX11_put_29 : decode cX11_put 29 = .ok (.ireturn, 1) := by decide +kernel
theorem dX11_put_30 : decode cX11_put 30 = .ok (.iload_n 1, 1) := by decide +kernel
theorem dX11_put_31 : decode cX11_put 31 = .ok (.ifCond .ne 16, 3) := by decide +kernel
theorem dX11_put_34 : decode cX11_put 34 = .ok (.aload_n 0, 1) := by decide +kernel
theorem dX11_put_35 : decode cX11_put 35 = .ok (.getfield 88, 3) := by decide +kernel
theorem dX11_put_38 : decode cX11_put 38 = .ok (.istore_n 3, 1) := by decide +kernel
theorem dX11_put_39 : decode cX11_put 39 = .ok (.aload_n 0, 1) := by decide +kernel
theorem dX11_put_40 : decode cX11_put 40 = .ok (.iload_n 2, 1) := by decide +kernel
theorem dX11_put_41 : decode cX11_put 41 = .ok (.putfield 88, 3) := by decide +kernel
theorem dX11_put_44 : decode cX11_put 44 = .ok (.goto 31, 3) := by decide +kernel
theorem dX11_put_47 : decode cX11_put 47 = .ok (.iload_n 1, 1) := by decide +kernel
theorem dX11_put_48 : decode cX11_put 48 = .ok (.iconst 1, 1) := by decide +kernel
theorem dX11_put_49 : decode cX11_put 49 = .ok (.if_icmp .ne 16, 3) := by decide +kernel
theorem dX11_put_52 : decode cX11_put 52 = .ok (.aload_n 0, 1) := by decide +kernel
theorem dX11_put_53 : decode cX11_put 53 = .ok (.getfield 91, 3) := by decide +kernel
theorem dX11_put_56 : decode cX11_put 56 = .ok (.istore_n 3, 1) := by decide +kernel
theorem dX11_put_57 : decode cX11_put 57 = .ok (.aload_n 0, 1) := by decide +kernel
theorem dX11_put_58 : decode cX11_put 58 = .ok (.iload_n 2, 1) := by decide +kernel
theorem dX11_put_59 : decode cX11_put 59 = .ok (.putfield 91, 3) := by decide +kernel
theorem dX11_put_62 : decode cX11_put 62 = .ok (.goto 13, 3) := by decide +kernel
theorem dX11_put_65 : decode cX11_put 65 = .ok (.aload_n 0, 1) := by decide +kernel
theorem dX11_put_66 : decode cX11_put 66 = .ok (.getfield 94, 3) := by decide +kernel
theorem dX11_put_69 : decode cX11_put 69 = .ok (.istore_n 3, 1) := by decide +kernel
theorem dX11_put_70 : decode cX11_put 70 = .ok (.aload_n 0, 1) := by decide +kernel
theorem dX11_put_71 : decode cX11_put 71 = .ok (.iload_n 2, 1) := by decide +kernel
theorem dX11_put_72 : decode cX11_put 72 = .ok (.putfield 94, 3) := by decide +kernel
theorem dX11_put_75 : decode cX11_put 75 = .ok (.aload_n 0, 1) := by decide +kernel
theorem dX11_put_76 : decode cX11_put 76 = .ok (.invokevirtual 183, 3) := by decide +kernel
theorem dX11_put_79 : decode cX11_put 79 = .ok (.iload_n 3, 1) := by decide +kernel
theorem dX11_put_80 : decode cX11_put 80 = .ok (.ireturn, 1) := by decide +kernel
theorem dX11_actionOf_0 : decode cX11_actionOf 0 = .ok (.aload_n 0, 1) := by decide +kernel
theorem dX11_actionOf_1 : decode cX11_actionOf 1 = .ok (.getfield 12, 3) := by decide +kernel
theorem dX11_actionOf_4 : decode cX11_actionOf 4 = .ok (.iload_n 1, 1) := by decide +kernel
theorem dX11_actionOf_5 : decode cX11_actionOf 5 = .ok (.invokevirtual 148, 3) := by decide +kernel
theorem dX11_actionOf_8 : decode cX11_actionOf 8 = .ok (.ifCond .ne 10, 3) := by decide +kernel
theorem dX11_actionOf_11 : decode cX11_actionOf 11 = .ok (.aload_n 0, 1) := by decide +kernel
theorem dX11_actionOf_12 : decode cX11_actionOf 12 = .ok (.bipush (-5), 2) := by decide +kernel
theorem dX11_actionOf_14 : decode cX11_actionOf 14 = .ok (.invokevirtual 108, 3) := by decide +kernel
theorem dX11_actionOf_17 : decode cX11_actionOf 17 = .ok (.ireturn, 1) := by decide +kernel
theorem dX11_actionOf_18 : decode cX11_actionOf 18 = .ok (.iload_n 2, 1) := by decide +kernel
theorem dX11_actionOf_19 : decode cX11_actionOf 19 = .ok (.tableswitch 111 0 6 #[41, 51, 61, 71, 81, 91, 101], 41) := by decide +kernel
theorem dX11_actionOf_60 : decode cX11_actionOf 60 = .ok (.aload_n 0, 1) := by decide +kernel
theorem dX11_actionOf_61 : decode cX11_actionOf 61 = .ok (.getfield 12, 3) := by decide +kernel
theorem dX11_actionOf_64 : decode cX11_actionOf 64 = .ok (.getfield 158, 3) := by decide +kernel
theorem dX11_actionOf_67 : decode cX11_actionOf 67 = .ok (.iload_n 1, 1) := by decide +kernel
theorem dX11_actionOf_68 : decode cX11_actionOf 68 = .ok (.iaload, 1) := by decide +kernel
theorem dX11_actionOf_69 : decode cX11_actionOf 69 = .ok (.ireturn, 1) := by decide +kernel
theorem dX11_actionOf_70 : decode cX11_actionOf 70 = .ok (.aload_n 0, 1) := by decide +kernel
theorem dX11_actionOf_71 : decode cX11_actionOf 71 = .ok (.getfield 12, 3) := by decide +kernel
theorem dX11_actionOf_74 : decode cX11_actionOf 74 = .ok (.getfield 215, 3) := by decide +kernel
theorem dX11_actionOf_77 : decode cX11_actionOf 77 = .ok (.iload_n 1, 1) := by decide +kernel
theorem dX11_actionOf_78 : decode cX11_actionOf 78 = .ok (.iaload, 1) := by decide +kernel
theorem dX11_actionOf_79 : decode cX11_actionOf 79 = .ok (.ireturn, 1) := by decide +kernel
theorem dX11_actionOf_80 : decode cX11_actionOf 80 = .ok (.aload_n 0, 1) := by decide +kernel
theorem dX11_actionOf_81 : decode cX11_actionOf 81 = .ok (.getfield 12, 3) := by decide +kernel
theorem dX11_actionOf_84 : decode cX11_actionOf 84 = .ok (.getfield 218, 3) := by decide +kernel
theorem dX11_actionOf_87 : decode cX11_actionOf 87 = .ok (.iload_n 1, 1) := by decide +kernel
theorem dX11_actionOf_88 : decode cX11_actionOf 88 = .ok (.iaload, 1) := by decide +kernel
theorem dX11_actionOf_89 : decode cX11_actionOf 89 = .ok (.ireturn, 1) := by decide +kernel
theorem dX11_actionOf_90 : decode cX11_actionOf 90 = .ok (.aload_n 0, 1) := by decide +kernel
theorem dX11_actionOf_91 : decode cX11_actionOf 91 = .ok (.getfield 12, 3) := by decide +kernel
theorem dX11_actionOf_94 : decode cX11_actionOf 94 = .ok (.getfield 221, 3) := by decide +kernel
theorem dX11_actionOf_97 : decode cX11_actionOf 97 = .ok (.iload_n 1, 1) := by decide +kernel
theorem dX11_actionOf_98 : decode cX11_actionOf 98 = .ok (.iaload, 1) := by decide +kernel
theorem dX11_actionOf_99 : decode cX11_actionOf 99 = .ok (.ireturn, 1) := by decide +kernel
theorem dX11_actionOf_100 : decode cX11_actionOf 100 = .ok (.aload_n 0, 1) := by decide +kernel
theorem dX11_actionOf_101 : decode cX11_actionOf 101 = .ok (.getfield 12, 3) := by decide +kernel
theorem dX11_actionOf_104 : decode cX11_actionOf 104 = .ok (.getfield 161, 3) := by decide +kernel
theorem dX11_actionOf_107 : decode cX11_actionOf 107 = .ok (.iload_n 1, 1) := by decide +kernel
theorem dX11_actionOf_108 : decode cX11_actionOf 108 = .ok (.iaload, 1) := by decide +kernel
theorem dX11_actionOf_109 : decode cX11_actionOf 109 = .ok (.ireturn, 1) := by decide +kernel
theorem dX11_actionOf_110 : decode cX11_actionOf 110 = .ok (.aload_n 0, 1) := by decide +kernel
theorem dX11_actionOf_111 : decode cX11_actionOf 111 = .ok (.getfield 12, 3) := by decide +kernel
theorem dX11_actionOf_114 : decode cX11_actionOf 114 = .ok (.getfield 164, 3) := by decide +kernel
theorem dX11_actionOf_117 : decode cX11_actionOf 117 = .ok (.iload_n 1, 1) := by decide +kernel
theorem dX11_actionOf_118 : decode cX11_actionOf 118 = .ok (.iaload, 1) := by decide +kernel
theorem dX11_actionOf_119 : decode cX11_actionOf 119 = .ok (.ireturn, 1) := by decide +kernel
theorem dX11_actionOf_120 : decode cX11_actionOf 120 = .ok (.aload_n 0, 1) := by decide +kernel
theorem dX11_actionOf_121 : decode cX11_actionOf 121 = .ok (.getfield 12, 3) := by decide +kernel
theorem dX11_actionOf_124 : decode cX11_actionOf 124 = .ok (.getfield 167, 3) := by decide +kernel
theorem dX11_actionOf_127 : decode cX11_actionOf 127 = .ok (.iload_n 1, 1) := by decide +kernel
theorem dX11_actionOf_128 : decode cX11_actionOf 128 = .ok (.iaload, 1) := by decide +kernel
theorem dX11_actionOf_129 : decode cX11_actionOf 129 = .ok (.ireturn, 1) := by decide +kernel
theorem dX11_actionOf_130 : decode cX11_actionOf 130 = .ok (.aload_n 0, 1) := by decide +kernel
theorem dX11_actionOf_131 : decode cX11_actionOf 131 = .ok (.bipush (-5), 2) := by decide +kernel
theorem dX11_actionOf_133 : decode cX11_actionOf 133 = .ok (.invokevirtual 108, 3) := by decide +kernel
theorem dX11_actionOf_136 : decode cX11_actionOf 136 = .ok (.ireturn, 1) := by decide +kernel
theorem dX11_may_0 : decode cX11_may 0 = .ok (.iload_n 1, 1) := by decide +kernel
theorem dX11_may_1 : decode cX11_may 1 = .ok (.invokestatic 173, 3) := by decide +kernel
theorem dX11_may_4 : decode cX11_may 4 = .ok (.ifCond .eq 14, 3) := by decide +kernel
theorem dX11_may_7 : decode cX11_may 7 = .ok (.aload_n 0, 1) := by decide +kernel
theorem dX11_may_8 : decode cX11_may 8 = .ok (.getfield 12, 3) := by decide +kernel
theorem dX11_may_11 : decode cX11_may 11 = .ok (.iload_n 1, 1) := by decide +kernel
theorem dX11_may_12 : decode cX11_may 12 = .ok (.invokevirtual 224, 3) := by decide +kernel
theorem dX11_may_15 : decode cX11_may 15 = .ok (.goto 9, 3) := by decide +kernel
theorem dX11_may_18 : decode cX11_may 18 = .ok (.aload_n 0, 1) := by decide +kernel
theorem dX11_may_19 : decode cX11_may 19 = .ok (.bipush (-6), 2) := by decide +kernel
theorem dX11_may_21 : decode cX11_may 21 = .ok (.invokevirtual 108, 3) := by decide +kernel
theorem dX11_may_24 : decode cX11_may 24 = .ok (.ireturn, 1) := by decide +kernel
theorem dX11_then_0 : decode cX11_then 0 = .ok (.aload_n 0, 1) := by decide +kernel
theorem dX11_then_1 : decode cX11_then 1 = .ok (.getfield 12, 3) := by decide +kernel
theorem dX11_then_4 : decode cX11_then 4 = .ok (.iload_n 2, 1) := by decide +kernel
theorem dX11_then_5 : decode cX11_then 5 = .ok (.invokevirtual 148, 3) := by decide +kernel
theorem dX11_then_8 : decode cX11_then 8 = .ok (.ifCond .ne 9, 3) := by decide +kernel
theorem dX11_then_11 : decode cX11_then 11 = .ok (.aload_n 0, 1) := by decide +kernel
theorem dX11_then_12 : decode cX11_then 12 = .ok (.iconst (-1), 1) := by decide +kernel
theorem dX11_then_13 : decode cX11_then 13 = .ok (.invokevirtual 108, 3) := by decide +kernel
theorem dX11_then_16 : decode cX11_then 16 = .ok (.ireturn, 1) := by decide +kernel
theorem dX11_then_17 : decode cX11_then 17 = .ok (.iload_n 1, 1) := by decide +kernel
theorem dX11_then_18 : decode cX11_then 18 = .ok (.invokestatic 173, 3) := by decide +kernel
theorem dX11_then_21 : decode cX11_then 21 = .ok (.ifCond .eq 15, 3) := by decide +kernel
theorem dX11_then_24 : decode cX11_then 24 = .ok (.aload_n 0, 1) := by decide +kernel
theorem dX11_then_25 : decode cX11_then 25 = .ok (.getfield 12, 3) := by decide +kernel
theorem dX11_then_28 : decode cX11_then 28 = .ok (.iload_n 1, 1) := by decide +kernel
theorem dX11_then_29 : decode cX11_then 29 = .ok (.iload_n 2, 1) := by decide +kernel
theorem dX11_then_30 : decode cX11_then 30 = .ok (.invokevirtual 227, 3) := by decide +kernel
theorem dX11_then_33 : decode cX11_then 33 = .ok (.ifCond .ne 10, 3) := by decide +kernel
theorem dX11_then_36 : decode cX11_then 36 = .ok (.aload_n 0, 1) := by decide +kernel
theorem dX11_then_37 : decode cX11_then 37 = .ok (.bipush (-6), 2) := by decide +kernel
theorem dX11_then_39 : decode cX11_then 39 = .ok (.invokevirtual 108, 3) := by decide +kernel
theorem dX11_then_42 : decode cX11_then 42 = .ok (.ireturn, 1) := by decide +kernel
theorem dX11_then_43 : decode cX11_then 43 = .ok (.aload_n 0, 1) := by decide +kernel
theorem dX11_then_44 : decode cX11_then 44 = .ok (.getfield 12, 3) := by decide +kernel
theorem dX11_then_47 : decode cX11_then 47 = .ok (.iload_n 1, 1) := by decide +kernel
theorem dX11_then_48 : decode cX11_then 48 = .ok (.iload_n 2, 1) := by decide +kernel
theorem dX11_then_49 : decode cX11_then 49 = .ok (.invokevirtual 230, 3) := by decide +kernel
theorem dX11_then_52 : decode cX11_then 52 = .ok (.ireturn, 1) := by decide +kernel
theorem dX11_level_0 : decode cX11_level 0 = .ok (.iload_n 1, 1) := by decide +kernel
theorem dX11_level_1 : decode cX11_level 1 = .ok (.invokestatic 173, 3) := by decide +kernel
theorem dX11_level_4 : decode cX11_level 4 = .ok (.ifCond .eq 13, 3) := by decide +kernel
theorem dX11_level_7 : decode cX11_level 7 = .ok (.iload_n 2, 1) := by decide +kernel
theorem dX11_level_8 : decode cX11_level 8 = .ok (.ifCond .lt 9, 3) := by decide +kernel
theorem dX11_level_11 : decode cX11_level 11 = .ok (.iload_n 2, 1) := by decide +kernel
theorem dX11_level_12 : decode cX11_level 12 = .ok (.bipush 30, 2) := by decide +kernel
theorem dX11_level_14 : decode cX11_level 14 = .ok (.if_icmp .le 10, 3) := by decide +kernel
theorem dX11_level_17 : decode cX11_level 17 = .ok (.aload_n 0, 1) := by decide +kernel
theorem dX11_level_18 : decode cX11_level 18 = .ok (.bipush (-6), 2) := by decide +kernel
theorem dX11_level_20 : decode cX11_level 20 = .ok (.invokevirtual 108, 3) := by decide +kernel
theorem dX11_level_23 : decode cX11_level 23 = .ok (.ireturn, 1) := by decide +kernel
theorem dX11_level_24 : decode cX11_level 24 = .ok (.aload_n 0, 1) := by decide +kernel
theorem dX11_level_25 : decode cX11_level 25 = .ok (.getfield 27, 3) := by decide +kernel
theorem dX11_level_28 : decode cX11_level 28 = .ok (.iload_n 1, 1) := by decide +kernel
theorem dX11_level_29 : decode cX11_level 29 = .ok (.iconst 0, 1) := by decide +kernel
theorem dX11_level_30 : decode cX11_level 30 = .ok (.invokevirtual 233, 3) := by decide +kernel
theorem dX11_level_33 : decode cX11_level 33 = .ok (.aload_n 0, 1) := by decide +kernel
theorem dX11_level_34 : decode cX11_level 34 = .ok (.getfield 27, 3) := by decide +kernel
theorem dX11_level_37 : decode cX11_level 37 = .ok (.iload_n 2, 1) := by decide +kernel
theorem dX11_level_38 : decode cX11_level 38 = .ok (.invokevirtual 236, 3) := by decide +kernel
theorem dX11_level_41 : decode cX11_level 41 = .ok (.ireturn, 1) := by decide +kernel
theorem dX11_first_0 : decode cX11_first 0 = .ok (.iload_n 2, 1) := by decide +kernel
theorem dX11_first_1 : decode cX11_first 1 = .ok (.invokestatic 239, 3) := by decide +kernel
theorem dX11_first_4 : decode cX11_first 4 = .ok (.ifCond .ne 9, 3) := by decide +kernel
theorem dX11_first_7 : decode cX11_first 7 = .ok (.aload_n 0, 1) := by decide +kernel
theorem dX11_first_8 : decode cX11_first 8 = .ok (.iconst (-1), 1) := by decide +kernel
theorem dX11_first_9 : decode cX11_first 9 = .ok (.invokevirtual 242, 3) := by decide +kernel
theorem dX11_first_12 : decode cX11_first 12 = .ok (.ireturn, 1) := by decide +kernel
theorem dX11_first_13 : decode cX11_first 13 = .ok (.iload_n 1, 1) := by decide +kernel
theorem dX11_first_14 : decode cX11_first 14 = .ok (.invokestatic 173, 3) := by decide +kernel
theorem dX11_first_17 : decode cX11_first 17 = .ok (.ifCond .ne 10, 3) := by decide +kernel
theorem dX11_first_20 : decode cX11_first 20 = .ok (.aload_n 0, 1) := by decide +kernel
theorem dX11_first_21 : decode cX11_first 21 = .ok (.bipush (-6), 2) := by decide +kernel
theorem dX11_first_23 : decode cX11_first 23 = .ok (.invokevirtual 242, 3) := by decide +kernel
theorem dX11_first_26 : decode cX11_first 26 = .ok (.ireturn, 1) := by decide +kernel
theorem dX11_first_27 : decode cX11_first 27 = .ok (.aload_n 0, 1) := by decide +kernel
theorem dX11_first_28 : decode cX11_first 28 = .ok (.getfield 27, 3) := by decide +kernel
theorem dX11_first_31 : decode cX11_first 31 = .ok (.iload_n 1, 1) := by decide +kernel
theorem dX11_first_32 : decode cX11_first 32 = .ok (.iconst 0, 1) := by decide +kernel
theorem dX11_first_33 : decode cX11_first 33 = .ok (.invokevirtual 233, 3) := by decide +kernel
theorem dX11_first_36 : decode cX11_first 36 = .ok (.aload_n 0, 1) := by decide +kernel
theorem dX11_first_37 : decode cX11_first 37 = .ok (.getfield 27, 3) := by decide +kernel
theorem dX11_first_40 : decode cX11_first 40 = .ok (.iconst 1, 1) := by decide +kernel
theorem dX11_first_41 : decode cX11_first 41 = .ok (.iload_n 2, 1) := by decide +kernel
theorem dX11_first_42 : decode cX11_first 42 = .ok (.ishl, 1) := by decide +kernel
theorem dX11_first_43 : decode cX11_first 43 = .ok (.invokevirtual 245, 3) := by decide +kernel
theorem dX11_first_46 : decode cX11_first 46 = .ok (.ireturn, 1) := by decide +kernel
theorem dX11_firstOf_0 : decode cX11_firstOf 0 = .ok (.aload_n 0, 1) := by decide +kernel
theorem dX11_firstOf_1 : decode cX11_firstOf 1 = .ok (.getfield 12, 3) := by decide +kernel
theorem dX11_firstOf_4 : decode cX11_firstOf 4 = .ok (.iload_n 2, 1) := by decide +kernel
theorem dX11_firstOf_5 : decode cX11_firstOf 5 = .ok (.invokevirtual 148, 3) := by decide +kernel
theorem dX11_firstOf_8 : decode cX11_firstOf 8 = .ok (.ifCond .ne 9, 3) := by decide +kernel
theorem dX11_firstOf_11 : decode cX11_firstOf 11 = .ok (.aload_n 0, 1) := by decide +kernel
theorem dX11_firstOf_12 : decode cX11_firstOf 12 = .ok (.iconst (-1), 1) := by decide +kernel
theorem dX11_firstOf_13 : decode cX11_firstOf 13 = .ok (.invokevirtual 242, 3) := by decide +kernel
theorem dX11_firstOf_16 : decode cX11_firstOf 16 = .ok (.ireturn, 1) := by decide +kernel
theorem dX11_firstOf_17 : decode cX11_firstOf 17 = .ok (.iload_n 1, 1) := by decide +kernel
theorem dX11_firstOf_18 : decode cX11_firstOf 18 = .ok (.invokestatic 173, 3) := by decide +kernel
theorem dX11_firstOf_21 : decode cX11_firstOf 21 = .ok (.ifCond .ne 10, 3) := by decide +kernel
theorem dX11_firstOf_24 : decode cX11_firstOf 24 = .ok (.aload_n 0, 1) := by decide +kernel
theorem dX11_firstOf_25 : decode cX11_firstOf 25 = .ok (.bipush (-6), 2) := by decide +kernel
theorem dX11_firstOf_27 : decode cX11_firstOf 27 = .ok (.invokevirtual 242, 3) := by decide +kernel
theorem dX11_firstOf_30 : decode cX11_firstOf 30 = .ok (.ireturn, 1) := by decide +kernel
theorem dX11_firstOf_31 : decode cX11_firstOf 31 = .ok (.aload_n 0, 1) := by decide +kernel
theorem dX11_firstOf_32 : decode cX11_firstOf 32 = .ok (.getfield 27, 3) := by decide +kernel
theorem dX11_firstOf_35 : decode cX11_firstOf 35 = .ok (.iload_n 1, 1) := by decide +kernel
theorem dX11_firstOf_36 : decode cX11_firstOf 36 = .ok (.iconst 0, 1) := by decide +kernel
theorem dX11_firstOf_37 : decode cX11_firstOf 37 = .ok (.invokevirtual 233, 3) := by decide +kernel
theorem dX11_firstOf_40 : decode cX11_firstOf 40 = .ok (.aload_n 0, 1) := by decide +kernel
theorem dX11_firstOf_41 : decode cX11_firstOf 41 = .ok (.getfield 27, 3) := by decide +kernel
theorem dX11_firstOf_44 : decode cX11_firstOf 44 = .ok (.aload_n 0, 1) := by decide +kernel
theorem dX11_firstOf_45 : decode cX11_firstOf 45 = .ok (.getfield 12, 3) := by decide +kernel
theorem dX11_firstOf_48 : decode cX11_firstOf 48 = .ok (.getfield 215, 3) := by decide +kernel
theorem dX11_firstOf_51 : decode cX11_firstOf 51 = .ok (.iload_n 2, 1) := by decide +kernel
theorem dX11_firstOf_52 : decode cX11_firstOf 52 = .ok (.iaload, 1) := by decide +kernel
theorem dX11_firstOf_53 : decode cX11_firstOf 53 = .ok (.invokevirtual 245, 3) := by decide +kernel
theorem dX11_firstOf_56 : decode cX11_firstOf 56 = .ok (.ireturn, 1) := by decide +kernel
theorem dX11_guess_0 : decode cX11_guess 0 = .ok (.iload_n 2, 1) := by decide +kernel
theorem dX11_guess_1 : decode cX11_guess 1 = .ok (.invokestatic 248, 3) := by decide +kernel
theorem dX11_guess_4 : decode cX11_guess 4 = .ok (.ifCond .ne 9, 3) := by decide +kernel
theorem dX11_guess_7 : decode cX11_guess 7 = .ok (.aload_n 0, 1) := by decide +kernel
theorem dX11_guess_8 : decode cX11_guess 8 = .ok (.iconst (-1), 1) := by decide +kernel
theorem dX11_guess_9 : decode cX11_guess 9 = .ok (.invokevirtual 242, 3) := by decide +kernel
theorem dX11_guess_12 : decode cX11_guess 12 = .ok (.ireturn, 1) := by decide +kernel
theorem dX11_guess_13 : decode cX11_guess 13 = .ok (.iload_n 1, 1) := by decide +kernel
theorem dX11_guess_14 : decode cX11_guess 14 = .ok (.invokestatic 173, 3) := by decide +kernel
theorem dX11_guess_17 : decode cX11_guess 17 = .ok (.ifCond .ne 10, 3) := by decide +kernel
theorem dX11_guess_20 : decode cX11_guess 20 = .ok (.aload_n 0, 1) := by decide +kernel
theorem dX11_guess_21 : decode cX11_guess 21 = .ok (.bipush (-6), 2) := by decide +kernel
theorem dX11_guess_23 : decode cX11_guess 23 = .ok (.invokevirtual 242, 3) := by decide +kernel
theorem dX11_guess_26 : decode cX11_guess 26 = .ok (.ireturn, 1) := by decide +kernel
theorem dX11_guess_27 : decode cX11_guess 27 = .ok (.aload_n 0, 1) := by decide +kernel
theorem dX11_guess_28 : decode cX11_guess 28 = .ok (.getfield 36, 3) := by decide +kernel
theorem dX11_guess_31 : decode cX11_guess 31 = .ok (.iload_n 1, 1) := by decide +kernel
theorem dX11_guess_32 : decode cX11_guess 32 = .ok (.aload_n 0, 1) := by decide +kernel
theorem dX11_guess_33 : decode cX11_guess 33 = .ok (.getfield 91, 3) := by decide +kernel
theorem dX11_guess_36 : decode cX11_guess 36 = .ok (.iload_n 2, 1) := by decide +kernel
theorem dX11_guess_37 : decode cX11_guess 37 = .ok (.invokevirtual 251, 3) := by decide +kernel
theorem dX11_guess_40 : decode cX11_guess 40 = .ok (.ireturn, 1) := by decide +kernel
theorem dX11_relaxed_0 : decode cX11_relaxed 0 = .ok (.iload_n 1, 1) := by decide +kernel
theorem dX11_relaxed_1 : decode cX11_relaxed 1 = .ok (.invokestatic 173, 3) := by decide +kernel
theorem dX11_relaxed_4 : decode cX11_relaxed 4 = .ok (.ifCond .ne 10, 3) := by decide +kernel
theorem dX11_relaxed_7 : decode cX11_relaxed 7 = .ok (.aload_n 0, 1) := by decide +kernel
theorem dX11_relaxed_8 : decode cX11_relaxed 8 = .ok (.bipush (-6), 2) := by decide +kernel
theorem dX11_relaxed_10 : decode cX11_relaxed 10 = .ok (.invokevirtual 108, 3) := by decide +kernel
theorem dX11_relaxed_13 : decode cX11_relaxed 13 = .ok (.ireturn, 1) := by decide +kernel
theorem dX11_relaxed_14 : decode cX11_relaxed 14 = .ok (.aload_n 0, 1) := by decide +kernel
theorem dX11_relaxed_15 : decode cX11_relaxed 15 = .ok (.getfield 36, 3) := by decide +kernel
theorem dX11_relaxed_18 : decode cX11_relaxed 18 = .ok (.getfield 255, 3) := by decide +kernel
theorem dX11_relaxed_21 : decode cX11_relaxed 21 = .ok (.iload_n 1, 1) := by decide +kernel
theorem dX11_relaxed_22 : decode cX11_relaxed 22 = .ok (.aload_n 0, 1) := by decide +kernel
theorem dX11_relaxed_23 : decode cX11_relaxed 23 = .ok (.getfield 91, 3) := by decide +kernel
theorem dX11_relaxed_26 : decode cX11_relaxed 26 = .ok (.invokevirtual 259, 3) := by decide +kernel
theorem dX11_relaxed_29 : decode cX11_relaxed 29 = .ok (.aload_n 0, 1) := by decide +kernel
theorem dX11_relaxed_30 : decode cX11_relaxed 30 = .ok (.getfield 36, 3) := by decide +kernel
theorem dX11_relaxed_33 : decode cX11_relaxed 33 = .ok (.getfield 255, 3) := by decide +kernel
theorem dX11_relaxed_36 : decode cX11_relaxed 36 = .ok (.getfield 264, 3) := by decide +kernel
theorem dX11_relaxed_39 : decode cX11_relaxed 39 = .ok (.ireturn, 1) := by decide +kernel
theorem dX11_helpful_0 : decode cX11_helpful 0 = .ok (.iload_n 1, 1) := by decide +kernel
theorem dX11_helpful_1 : decode cX11_helpful 1 = .ok (.invokestatic 173, 3) := by decide +kernel
theorem dX11_helpful_4 : decode cX11_helpful 4 = .ok (.ifCond .ne 10, 3) := by decide +kernel
theorem dX11_helpful_7 : decode cX11_helpful 7 = .ok (.aload_n 0, 1) := by decide +kernel
theorem dX11_helpful_8 : decode cX11_helpful 8 = .ok (.bipush (-6), 2) := by decide +kernel
theorem dX11_helpful_10 : decode cX11_helpful 10 = .ok (.invokevirtual 108, 3) := by decide +kernel
theorem dX11_helpful_13 : decode cX11_helpful 13 = .ok (.ireturn, 1) := by decide +kernel
theorem dX11_helpful_14 : decode cX11_helpful 14 = .ok (.aload_n 0, 1) := by decide +kernel
theorem dX11_helpful_15 : decode cX11_helpful 15 = .ok (.getfield 36, 3) := by decide +kernel
theorem dX11_helpful_18 : decode cX11_helpful 18 = .ok (.getfield 255, 3) := by decide +kernel
theorem dX11_helpful_21 : decode cX11_helpful 21 = .ok (.iload_n 1, 1) := by decide +kernel
theorem dX11_helpful_22 : decode cX11_helpful 22 = .ok (.aload_n 0, 1) := by decide +kernel
theorem dX11_helpful_23 : decode cX11_helpful 23 = .ok (.getfield 91, 3) := by decide +kernel
theorem dX11_helpful_26 : decode cX11_helpful 26 = .ok (.invokevirtual 259, 3) := by decide +kernel
theorem dX11_helpful_29 : decode cX11_helpful 29 = .ok (.aload_n 0, 1) := by decide +kernel
theorem dX11_helpful_30 : decode cX11_helpful 30 = .ok (.getfield 36, 3) := by decide +kernel
theorem dX11_helpful_33 : decode cX11_helpful 33 = .ok (.getfield 255, 3) := by decide +kernel
theorem dX11_helpful_36 : decode cX11_helpful 36 = .ok (.iload_n 1, 1) := by decide +kernel
theorem dX11_helpful_37 : decode cX11_helpful 37 = .ok (.invokevirtual 267, 3) := by decide +kernel
theorem dX11_helpful_40 : decode cX11_helpful 40 = .ok (.ireturn, 1) := by decide +kernel
theorem dX11_landmarks_0 : decode cX11_landmarks 0 = .ok (.aload_n 0, 1) := by decide +kernel
theorem dX11_landmarks_1 : decode cX11_landmarks 1 = .ok (.getfield 27, 3) := by decide +kernel
theorem dX11_landmarks_4 : decode cX11_landmarks 4 = .ok (.aload_n 0, 1) := by decide +kernel
theorem dX11_landmarks_5 : decode cX11_landmarks 5 = .ok (.getfield 88, 3) := by decide +kernel
theorem dX11_landmarks_8 : decode cX11_landmarks 8 = .ok (.iconst 0, 1) := by decide +kernel
theorem dX11_landmarks_9 : decode cX11_landmarks 9 = .ok (.invokevirtual 233, 3) := by decide +kernel
theorem dX11_landmarks_12 : decode cX11_landmarks 12 = .ok (.aload_n 0, 1) := by decide +kernel
theorem dX11_landmarks_13 : decode cX11_landmarks 13 = .ok (.getfield 27, 3) := by decide +kernel
theorem dX11_landmarks_16 : decode cX11_landmarks 16 = .ok (.aload_n 0, 1) := by decide +kernel
theorem dX11_landmarks_17 : decode cX11_landmarks 17 = .ok (.getfield 91, 3) := by decide +kernel
theorem dX11_landmarks_20 : decode cX11_landmarks 20 = .ok (.invokevirtual 245, 3) := by decide +kernel
theorem dX11_landmarks_23 : decode cX11_landmarks 23 = .ok (.iconst (-1), 1) := by decide +kernel
theorem dX11_landmarks_24 : decode cX11_landmarks 24 = .ok (.if_icmp .ne 5, 3) := by decide +kernel
theorem dX11_landmarks_27 : decode cX11_landmarks 27 = .ok (.iconst 0, 1) := by decide +kernel
theorem dX11_landmarks_28 : decode cX11_landmarks 28 = .ok (.ireturn, 1) := by decide +kernel
theorem dX11_landmarks_29 : decode cX11_landmarks 29 = .ok (.iconst 0, 1) := by decide +kernel
theorem dX11_landmarks_30 : decode cX11_landmarks 30 = .ok (.istore_n 1, 1) := by decide +kernel
theorem dX11_landmarks_31 : decode cX11_landmarks 31 = .ok (.iconst 0, 1) := by decide +kernel
theorem dX11_landmarks_32 : decode cX11_landmarks 32 = .ok (.istore_n 2, 1) := by decide +kernel
theorem dX11_landmarks_33 : decode cX11_landmarks 33 = .ok (.iload_n 2, 1) := by decide +kernel
theorem dX11_landmarks_34 : decode cX11_landmarks 34 = .ok (.bipush 30, 2) := by decide +kernel
theorem dX11_landmarks_36 : decode cX11_landmarks 36 = .ok (.if_icmp .ge 44, 3) := by decide +kernel
theorem dX11_landmarks_39 : decode cX11_landmarks 39 = .ok (.aload_n 0, 1) := by decide +kernel
theorem dX11_landmarks_40 : decode cX11_landmarks 40 = .ok (.getfield 27, 3) := by decide +kernel
theorem dX11_landmarks_43 : decode cX11_landmarks 43 = .ok (.aload_n 0, 1) := by decide +kernel
theorem dX11_landmarks_44 : decode cX11_landmarks 44 = .ok (.getfield 88, 3) := by decide +kernel
theorem dX11_landmarks_47 : decode cX11_landmarks 47 = .ok (.iconst 1, 1) := by decide +kernel
theorem dX11_landmarks_48 : decode cX11_landmarks 48 = .ok (.iload_n 2, 1) := by decide +kernel
theorem dX11_landmarks_49 : decode cX11_landmarks 49 = .ok (.ishl, 1) := by decide +kernel
theorem dX11_landmarks_50 : decode cX11_landmarks 50 = .ok (.invokevirtual 233, 3) := by decide +kernel
theorem dX11_landmarks_53 : decode cX11_landmarks 53 = .ok (.aload_n 0, 1) := by decide +kernel
theorem dX11_landmarks_54 : decode cX11_landmarks 54 = .ok (.getfield 27, 3) := by decide +kernel
theorem dX11_landmarks_57 : decode cX11_landmarks 57 = .ok (.aload_n 0, 1) := by decide +kernel
theorem dX11_landmarks_58 : decode cX11_landmarks 58 = .ok (.getfield 91, 3) := by decide +kernel
theorem dX11_landmarks_61 : decode cX11_landmarks 61 = .ok (.invokevirtual 245, 3) := by decide +kernel
theorem dX11_landmarks_64 : decode cX11_landmarks 64 = .ok (.iconst (-1), 1) := by decide +kernel
theorem dX11_landmarks_65 : decode cX11_landmarks 65 = .ok (.if_icmp .ne 9, 3) := by decide +kernel
theorem dX11_landmarks_68 : decode cX11_landmarks 68 = .ok (.iload_n 1, 1) := by decide +kernel
theorem dX11_landmarks_69 : decode cX11_landmarks 69 = .ok (.iconst 1, 1) := by decide +kernel
theorem dX11_landmarks_70 : decode cX11_landmarks 70 = .ok (.iload_n 2, 1) := by decide +kernel
theorem dX11_landmarks_71 : decode cX11_landmarks 71 = .ok (.ishl, 1) := by decide +kernel
theorem dX11_landmarks_72 : decode cX11_landmarks 72 = .ok (.ior, 1) := by decide +kernel
theorem dX11_landmarks_73 : decode cX11_landmarks 73 = .ok (.istore_n 1, 1) := by decide +kernel
theorem dX11_landmarks_74 : decode cX11_landmarks 74 = .ok (.iinc 2 1, 3) := by decide +kernel
theorem dX11_landmarks_77 : decode cX11_landmarks 77 = .ok (.goto (-44), 3) := by decide +kernel
theorem dX11_landmarks_80 : decode cX11_landmarks 80 = .ok (.iload_n 1, 1) := by decide +kernel
theorem dX11_landmarks_81 : decode cX11_landmarks 81 = .ok (.ireturn, 1) := by decide +kernel
theorem dX11_isAhead_0 : decode cX11_isAhead 0 = .ok (.iload_n 1, 1) := by decide +kernel
theorem dX11_isAhead_1 : decode cX11_isAhead 1 = .ok (.invokestatic 239, 3) := by decide +kernel
theorem dX11_isAhead_4 : decode cX11_isAhead 4 = .ok (.ifCond .eq 10, 3) := by decide +kernel
theorem dX11_isAhead_7 : decode cX11_isAhead 7 = .ok (.iload_n 2, 1) := by decide +kernel
theorem dX11_isAhead_8 : decode cX11_isAhead 8 = .ok (.invokestatic 239, 3) := by decide +kernel
theorem dX11_isAhead_11 : decode cX11_isAhead 11 = .ok (.ifCond .ne 9, 3) := by decide +kernel
theorem dX11_isAhead_14 : decode cX11_isAhead 14 = .ok (.aload_n 0, 1) := by decide +kernel
theorem dX11_isAhead_15 : decode cX11_isAhead 15 = .ok (.iconst (-1), 1) := by decide +kernel
theorem dX11_isAhead_16 : decode cX11_isAhead 16 = .ok (.invokevirtual 108, 3) := by decide +kernel
theorem dX11_isAhead_19 : decode cX11_isAhead 19 = .ok (.ireturn, 1) := by decide +kernel
theorem dX11_isAhead_20 : decode cX11_isAhead 20 = .ok (.iload_n 1, 1) := by decide +kernel
theorem dX11_isAhead_21 : decode cX11_isAhead 21 = .ok (.iload_n 2, 1) := by decide +kernel
theorem dX11_isAhead_22 : decode cX11_isAhead 22 = .ok (.if_icmp .ne 5, 3) := by decide +kernel
theorem dX11_isAhead_25 : decode cX11_isAhead 25 = .ok (.iconst 0, 1) := by decide +kernel
theorem dX11_isAhead_26 : decode cX11_isAhead 26 = .ok (.ireturn, 1) := by decide +kernel
theorem dX11_isAhead_27 : decode cX11_isAhead 27 = .ok (.aload_n 0, 1) := by decide +kernel
theorem dX11_isAhead_28 : decode cX11_isAhead 28 = .ok (.getfield 27, 3) := by decide +kernel
theorem dX11_isAhead_31 : decode cX11_isAhead 31 = .ok (.aload_n 0, 1) := by decide +kernel
theorem dX11_isAhead_32 : decode cX11_isAhead 32 = .ok (.getfield 88, 3) := by decide +kernel
theorem dX11_isAhead_35 : decode cX11_isAhead 35 = .ok (.iconst 1, 1) := by decide +kernel
theorem dX11_isAhead_36 : decode cX11_isAhead 36 = .ok (.iload_n 1, 1) := by decide +kernel
theorem dX11_isAhead_37 : decode cX11_isAhead 37 = .ok (.ishl, 1) := by decide +kernel
theorem dX11_isAhead_38 : decode cX11_isAhead 38 = .ok (.invokevirtual 233, 3) := by decide +kernel
theorem dX11_isAhead_41 : decode cX11_isAhead 41 = .ok (.aload_n 0, 1) := by decide +kernel
theorem dX11_isAhead_42 : decode cX11_isAhead 42 = .ok (.getfield 27, 3) := by decide +kernel
theorem dX11_isAhead_45 : decode cX11_isAhead 45 = .ok (.iconst 1, 1) := by decide +kernel
theorem dX11_isAhead_46 : decode cX11_isAhead 46 = .ok (.iload_n 2, 1) := by decide +kernel
theorem dX11_isAhead_47 : decode cX11_isAhead 47 = .ok (.ishl, 1) := by decide +kernel
theorem dX11_isAhead_48 : decode cX11_isAhead 48 = .ok (.invokevirtual 245, 3) := by decide +kernel
theorem dX11_isAhead_51 : decode cX11_isAhead 51 = .ok (.iconst (-1), 1) := by decide +kernel
theorem dX11_isAhead_52 : decode cX11_isAhead 52 = .ok (.if_icmp .ne 7, 3) := by decide +kernel
theorem dX11_isAhead_55 : decode cX11_isAhead 55 = .ok (.iconst 1, 1) := by decide +kernel
theorem dX11_isAhead_56 : decode cX11_isAhead 56 = .ok (.goto 4, 3) := by decide +kernel
theorem dX11_isAhead_59 : decode cX11_isAhead 59 = .ok (.iconst 0, 1) := by decide +kernel
theorem dX11_isAhead_60 : decode cX11_isAhead 60 = .ok (.ireturn, 1) := by decide +kernel
theorem dX11_reached_0 : decode cX11_reached 0 = .ok (.aload_n 0, 1) := by decide +kernel
theorem dX11_reached_1 : decode cX11_reached 1 = .ok (.invokevirtual 270, 3) := by decide +kernel
theorem dX11_reached_4 : decode cX11_reached 4 = .ok (.ifCond .eq 7, 3) := by decide +kernel
theorem dX11_reached_7 : decode cX11_reached 7 = .ok (.iconst 0, 1) := by decide +kernel
theorem dX11_reached_8 : decode cX11_reached 8 = .ok (.goto 10, 3) := by decide +kernel
theorem dX11_reached_11 : decode cX11_reached 11 = .ok (.aload_n 0, 1) := by decide +kernel
theorem dX11_reached_12 : decode cX11_reached 12 = .ok (.getfield 43, 3) := by decide +kernel
theorem dX11_reached_15 : decode cX11_reached 15 = .ok (.getfield 274, 3) := by decide +kernel
theorem dX11_reached_18 : decode cX11_reached 18 = .ok (.ireturn, 1) := by decide +kernel
theorem dX11_state_0 : decode cX11_state 0 = .ok (.aload_n 0, 1) := by decide +kernel
theorem dX11_state_1 : decode cX11_state 1 = .ok (.invokevirtual 270, 3) := by decide +kernel
theorem dX11_state_4 : decode cX11_state 4 = .ok (.ifCond .ne 14, 3) := by decide +kernel
theorem dX11_state_7 : decode cX11_state 7 = .ok (.aload_n 0, 1) := by decide +kernel
theorem dX11_state_8 : decode cX11_state 8 = .ok (.getfield 43, 3) := by decide +kernel
theorem dX11_state_11 : decode cX11_state 11 = .ok (.iload_n 1, 1) := by decide +kernel
theorem dX11_state_12 : decode cX11_state 12 = .ok (.invokevirtual 275, 3) := by decide +kernel
theorem dX11_state_15 : decode cX11_state 15 = .ok (.ifCond .ne 10, 3) := by decide +kernel
theorem dX11_state_18 : decode cX11_state 18 = .ok (.aload_n 0, 1) := by decide +kernel
theorem dX11_state_19 : decode cX11_state 19 = .ok (.bipush (-5), 2) := by decide +kernel
theorem dX11_state_21 : decode cX11_state 21 = .ok (.invokevirtual 108, 3) := by decide +kernel
theorem dX11_state_24 : decode cX11_state 24 = .ok (.ireturn, 1) := by decide +kernel
theorem dX11_state_25 : decode cX11_state 25 = .ok (.aload_n 0, 1) := by decide +kernel
theorem dX11_state_26 : decode cX11_state 26 = .ok (.getfield 43, 3) := by decide +kernel
theorem dX11_state_29 : decode cX11_state 29 = .ok (.getfield 278, 3) := by decide +kernel
theorem dX11_state_32 : decode cX11_state 32 = .ok (.iload_n 1, 1) := by decide +kernel
theorem dX11_state_33 : decode cX11_state 33 = .ok (.iaload, 1) := by decide +kernel
theorem dX11_state_34 : decode cX11_state 34 = .ok (.ireturn, 1) := by decide +kernel
theorem dX11_far_0 : decode cX11_far 0 = .ok (.aload_n 0, 1) := by decide +kernel
theorem dX11_far_1 : decode cX11_far 1 = .ok (.invokevirtual 270, 3) := by decide +kernel
theorem dX11_far_4 : decode cX11_far 4 = .ok (.ifCond .ne 14, 3) := by decide +kernel
theorem dX11_far_7 : decode cX11_far 7 = .ok (.aload_n 0, 1) := by decide +kernel
theorem dX11_far_8 : decode cX11_far 8 = .ok (.getfield 43, 3) := by decide +kernel
theorem dX11_far_11 : decode cX11_far 11 = .ok (.iload_n 1, 1) := by decide +kernel
theorem dX11_far_12 : decode cX11_far 12 = .ok (.invokevirtual 275, 3) := by decide +kernel
theorem dX11_far_15 : decode cX11_far 15 = .ok (.ifCond .ne 10, 3) := by decide +kernel
theorem dX11_far_18 : decode cX11_far 18 = .ok (.aload_n 0, 1) := by decide +kernel
theorem dX11_far_19 : decode cX11_far 19 = .ok (.bipush (-5), 2) := by decide +kernel
theorem dX11_far_21 : decode cX11_far 21 = .ok (.invokevirtual 108, 3) := by decide +kernel
theorem dX11_far_24 : decode cX11_far 24 = .ok (.ireturn, 1) := by decide +kernel
theorem dX11_far_25 : decode cX11_far 25 = .ok (.aload_n 0, 1) := by decide +kernel
theorem dX11_far_26 : decode cX11_far 26 = .ok (.getfield 52, 3) := by decide +kernel
theorem dX11_far_29 : decode cX11_far 29 = .ok (.invokevirtual 281, 3) := by decide +kernel
theorem dX11_far_32 : decode cX11_far 32 = .ok (.aload_n 0, 1) := by decide +kernel
theorem dX11_far_33 : decode cX11_far 33 = .ok (.getfield 52, 3) := by decide +kernel
theorem dX11_far_36 : decode cX11_far 36 = .ok (.iload_n 1, 1) := by decide +kernel
theorem dX11_far_37 : decode cX11_far 37 = .ok (.invokevirtual 284, 3) := by decide +kernel
theorem dX11_far_40 : decode cX11_far 40 = .ok (.ireturn, 1) := by decide +kernel
theorem dX11_numberOf_0 : decode cX11_numberOf 0 = .ok (.aload_n 0, 1) := by decide +kernel
theorem dX11_numberOf_1 : decode cX11_numberOf 1 = .ok (.invokevirtual 270, 3) := by decide +kernel
theorem dX11_numberOf_4 : decode cX11_numberOf 4 = .ok (.ifCond .eq 10, 3) := by decide +kernel
theorem dX11_numberOf_7 : decode cX11_numberOf 7 = .ok (.aload_n 0, 1) := by decide +kernel
theorem dX11_numberOf_8 : decode cX11_numberOf 8 = .ok (.bipush (-5), 2) := by decide +kernel
theorem dX11_numberOf_10 : decode cX11_numberOf 10 = .ok (.invokevirtual 242, 3) := by decide +kernel
theorem dX11_numberOf_13 : decode cX11_numberOf 13 = .ok (.ireturn, 1) := by decide +kernel
theorem dX11_numberOf_14 : decode cX11_numberOf 14 = .ok (.iload_n 1, 1) := by decide +kernel
theorem dX11_numberOf_15 : decode cX11_numberOf 15 = .ok (.invokestatic 173, 3) := by decide +kernel
theorem dX11_numberOf_18 : decode cX11_numberOf 18 = .ok (.ifCond .eq 14, 3) := by decide +kernel
theorem dX11_numberOf_21 : decode cX11_numberOf 21 = .ok (.aload_n 0, 1) := by decide +kernel
theorem dX11_numberOf_22 : decode cX11_numberOf 22 = .ok (.getfield 43, 3) := by decide +kernel
theorem dX11_numberOf_25 : decode cX11_numberOf 25 = .ok (.iload_n 1, 1) := by decide +kernel
theorem dX11_numberOf_26 : decode cX11_numberOf 26 = .ok (.invokevirtual 287, 3) := by decide +kernel
theorem dX11_numberOf_29 : decode cX11_numberOf 29 = .ok (.goto 9, 3) := by decide +kernel
theorem dX11_numberOf_32 : decode cX11_numberOf 32 = .ok (.aload_n 0, 1) := by decide +kernel
theorem dX11_numberOf_33 : decode cX11_numberOf 33 = .ok (.bipush (-6), 2) := by decide +kernel
theorem dX11_numberOf_35 : decode cX11_numberOf 35 = .ok (.invokevirtual 242, 3) := by decide +kernel
theorem dX11_numberOf_38 : decode cX11_numberOf 38 = .ok (.ireturn, 1) := by decide +kernel
theorem dX11_excluded_0 : decode cX11_excluded 0 = .ok (.iload_n 1, 1) := by decide +kernel
theorem dX11_excluded_1 : decode cX11_excluded 1 = .ok (.invokestatic 239, 3) := by decide +kernel
theorem dX11_excluded_4 : decode cX11_excluded 4 = .ok (.ifCond .ne 9, 3) := by decide +kernel
theorem dX11_excluded_7 : decode cX11_excluded 7 = .ok (.aload_n 0, 1) := by decide +kernel
theorem dX11_excluded_8 : decode cX11_excluded 8 = .ok (.iconst (-1), 1) := by decide +kernel
theorem dX11_excluded_9 : decode cX11_excluded 9 = .ok (.invokevirtual 108, 3) := by decide +kernel
theorem dX11_excluded_12 : decode cX11_excluded 12 = .ok (.ireturn, 1) := by decide +kernel
theorem dX11_excluded_13 : decode cX11_excluded 13 = .ok (.aload_n 0, 1) := by decide +kernel
theorem dX11_excluded_14 : decode cX11_excluded 14 = .ok (.invokevirtual 270, 3) := by decide +kernel
theorem dX11_excluded_17 : decode cX11_excluded 17 = .ok (.ifCond .eq 10, 3) := by decide +kernel
theorem dX11_excluded_20 : decode cX11_excluded 20 = .ok (.aload_n 0, 1) := by decide +kernel
theorem dX11_excluded_21 : decode cX11_excluded 21 = .ok (.bipush (-5), 2) := by decide +kernel
theorem dX11_excluded_23 : decode cX11_excluded 23 = .ok (.invokevirtual 108, 3) := by decide +kernel
theorem dX11_excluded_26 : decode cX11_excluded 26 = .ok (.ireturn, 1) := by decide +kernel
theorem dX11_excluded_27 : decode cX11_excluded 27 = .ok (.ldc_w 290, 3) := by decide +kernel
theorem dX11_excluded_30 : decode cX11_excluded 30 = .ok (.aload_n 0, 1) := by decide +kernel
theorem dX11_excluded_31 : decode cX11_excluded 31 = .ok (.getfield 43, 3) := by decide +kernel
theorem dX11_excluded_34 : decode cX11_excluded 34 = .ok (.iconst 1, 1) := by decide +kernel
theorem dX11_excluded_35 : decode cX11_excluded 35 = .ok (.iload_n 1, 1) := by decide +kernel
theorem dX11_excluded_36 : decode cX11_excluded 36 = .ok (.ishl, 1) := by decide +kernel
theorem dX11_excluded_37 : decode cX11_excluded 37 = .ok (.invokevirtual 291, 3) := by decide +kernel
theorem dX11_excluded_40 : decode cX11_excluded 40 = .ok (.iconst (-1), 1) := by decide +kernel
theorem dX11_excluded_41 : decode cX11_excluded 41 = .ok (.ixor, 1) := by decide +kernel
theorem dX11_excluded_42 : decode cX11_excluded 42 = .ok (.iand, 1) := by decide +kernel
theorem dX11_excluded_43 : decode cX11_excluded 43 = .ok (.ireturn, 1) := by decide +kernel
theorem dX11_best_0 : decode cX11_best 0 = .ok (.iload_n 1, 1) := by decide +kernel
theorem dX11_best_1 : decode cX11_best 1 = .ok (.ifCond .lt 15, 3) := by decide +kernel
theorem dX11_best_4 : decode cX11_best 4 = .ok (.iload_n 1, 1) := by decide +kernel
theorem dX11_best_5 : decode cX11_best 5 = .ok (.iconst 1, 1) := by decide +kernel
theorem dX11_best_6 : decode cX11_best 6 = .ok (.if_icmp .gt 10, 3) := by decide +kernel
theorem dX11_best_9 : decode cX11_best 9 = .ok (.aload_n 0, 1) := by decide +kernel
theorem dX11_best_10 : decode cX11_best 10 = .ok (.invokevirtual 270, 3) := by decide +kernel
theorem dX11_best_13 : decode cX11_best 13 = .ok (.ifCond .eq 10, 3) := by decide +kernel
theorem dX11_best_16 : decode cX11_best 16 = .ok (.aload_n 0, 1) := by decide +kernel
theorem dX11_best_17 : decode cX11_best 17 = .ok (.bipush (-5), 2) := by decide +kernel
theorem dX11_best_19 : decode cX11_best 19 = .ok (.invokevirtual 242, 3) := by decide +kernel
theorem dX11_best_22 : decode cX11_best 22 = .ok (.ireturn, 1) := by decide +kernel
theorem dX11_best_23 : decode cX11_best 23 = .ok (.aload_n 0, 1) := by decide +kernel
theorem dX11_best_24 : decode cX11_best 24 = .ok (.getfield 52, 3) := by decide +kernel
theorem dX11_best_27 : decode cX11_best 27 = .ok (.aload_n 0, 1) := by decide +kernel
theorem dX11_best_28 : decode cX11_best 28 = .ok (.getfield 91, 3) := by decide +kernel
theorem dX11_best_31 : decode cX11_best 31 = .ok (.invokevirtual 294, 3) := by decide +kernel
theorem dX11_best_34 : decode cX11_best 34 = .ok (.aload_n 0, 1) := by decide +kernel
theorem dX11_best_35 : decode cX11_best 35 = .ok (.getfield 52, 3) := by decide +kernel
theorem dX11_best_38 : decode cX11_best 38 = .ok (.getfield 297, 3) := by decide +kernel
theorem dX11_best_41 : decode cX11_best 41 = .ok (.ifCond .ne 5, 3) := by decide +kernel
theorem dX11_best_44 : decode cX11_best 44 = .ok (.iconst (-1), 1) := by decide +kernel
theorem dX11_best_45 : decode cX11_best 45 = .ok (.ireturn, 1) := by decide +kernel
theorem dX11_best_46 : decode cX11_best 46 = .ok (.iload_n 1, 1) := by decide +kernel
theorem dX11_best_47 : decode cX11_best 47 = .ok (.ifCond .ne 13, 3) := by decide +kernel
theorem dX11_best_50 : decode cX11_best 50 = .ok (.aload_n 0, 1) := by decide +kernel
theorem dX11_best_51 : decode cX11_best 51 = .ok (.getfield 52, 3) := by decide +kernel
theorem dX11_best_54 : decode cX11_best 54 = .ok (.getfield 301, 3) := by decide +kernel
theorem dX11_best_57 : decode cX11_best 57 = .ok (.goto 10, 3) := by decide +kernel
theorem dX11_best_60 : decode cX11_best 60 = .ok (.aload_n 0, 1) := by decide +kernel
theorem dX11_best_61 : decode cX11_best 61 = .ok (.getfield 52, 3) := by decide +kernel
theorem dX11_best_64 : decode cX11_best 64 = .ok (.getfield 304, 3) := by decide +kernel
theorem dX11_best_67 : decode cX11_best 67 = .ok (.ireturn, 1) := by decide +kernel
theorem dX11_bestAt_0 : decode cX11_bestAt 0 = .ok (.aload_n 0, 1) := by decide +kernel
theorem dX11_bestAt_1 : decode cX11_bestAt 1 = .ok (.invokevirtual 270, 3) := by decide +kernel
theorem dX11_bestAt_4 : decode cX11_bestAt 4 = .ok (.ifCond .eq 10, 3) := by decide +kernel
theorem dX11_bestAt_7 : decode cX11_bestAt 7 = .ok (.aload_n 0, 1) := by decide +kernel
theorem dX11_bestAt_8 : decode cX11_bestAt 8 = .ok (.bipush (-5), 2) := by decide +kernel
theorem dX11_bestAt_10 : decode cX11_bestAt 10 = .ok (.invokevirtual 242, 3) := by decide +kernel
theorem dX11_bestAt_13 : decode cX11_bestAt 13 = .ok (.ireturn, 1) := by decide +kernel
theorem dX11_bestAt_14 : decode cX11_bestAt 14 = .ok (.aload_n 0, 1) := by decide +kernel
theorem dX11_bestAt_15 : decode cX11_bestAt 15 = .ok (.getfield 52, 3) := by decide +kernel
theorem dX11_bestAt_18 : decode cX11_bestAt 18 = .ok (.aload_n 0, 1) := by decide +kernel
theorem dX11_bestAt_19 : decode cX11_bestAt 19 = .ok (.getfield 91, 3) := by decide +kernel
theorem dX11_bestAt_22 : decode cX11_bestAt 22 = .ok (.invokevirtual 294, 3) := by decide +kernel
theorem dX11_bestAt_25 : decode cX11_bestAt 25 = .ok (.aload_n 0, 1) := by decide +kernel
theorem dX11_bestAt_26 : decode cX11_bestAt 26 = .ok (.getfield 52, 3) := by decide +kernel
theorem dX11_bestAt_29 : decode cX11_bestAt 29 = .ok (.iload_n 1, 1) := by decide +kernel
theorem dX11_bestAt_30 : decode cX11_bestAt 30 = .ok (.invokevirtual 307, 3) := by decide +kernel
theorem dX11_bestAt_33 : decode cX11_bestAt 33 = .ok (.ireturn, 1) := by decide +kernel
theorem dX11_spell_0 : decode cX11_spell 0 = .ok (.aload_n 0, 1) := by decide +kernel
theorem dX11_spell_1 : decode cX11_spell 1 = .ok (.iload_n 1, 1) := by decide +kernel
theorem dX11_spell_2 : decode cX11_spell 2 = .ok (.invokevirtual 116, 3) := by decide +kernel
theorem dX11_spell_5 : decode cX11_spell 5 = .ok (.istore_n 2, 1) := by decide +kernel
theorem dX11_spell_6 : decode cX11_spell 6 = .ok (.iload_n 2, 1) := by decide +kernel
theorem dX11_spell_7 : decode cX11_spell 7 = .ok (.ifCond .eq 9, 3) := by decide +kernel
theorem dX11_spell_10 : decode cX11_spell 10 = .ok (.aload_n 0, 1) := by decide +kernel
theorem dX11_spell_11 : decode cX11_spell 11 = .ok (.iload_n 2, 1) := by decide +kernel
theorem dX11_spell_12 : decode cX11_spell 12 = .ok (.invokevirtual 108, 3) := by decide +kernel
theorem dX11_spell_15 : decode cX11_spell 15 = .ok (.ireturn, 1) := by decide +kernel
theorem dX11_spell_16 : decode cX11_spell 16 = .ok (.aload_n 0, 1) := by decide +kernel
theorem dX11_spell_17 : decode cX11_spell 17 = .ok (.invokevirtual 270, 3) := by decide +kernel
theorem dX11_spell_20 : decode cX11_spell 20 = .ok (.ifCond .eq 10, 3) := by decide +kernel
theorem dX11_spell_23 : decode cX11_spell 23 = .ok (.aload_n 0, 1) := by decide +kernel
theorem dX11_spell_24 : decode cX11_spell 24 = .ok (.bipush (-5), 2) := by decide +kernel
theorem dX11_spell_26 : decode cX11_spell 26 = .ok (.invokevirtual 108, 3) := by decide +kernel
theorem dX11_spell_29 : decode cX11_spell 29 = .ok (.ireturn, 1) := by decide +kernel
theorem dX11_spell_30 : decode cX11_spell 30 = .ok (.aload_n 0, 1) := by decide +kernel
theorem dX11_spell_31 : decode cX11_spell 31 = .ok (.getfield 52, 3) := by decide +kernel
theorem dX11_spell_34 : decode cX11_spell 34 = .ok (.aload_n 0, 1) := by decide +kernel
theorem dX11_spell_35 : decode cX11_spell 35 = .ok (.getfield 91, 3) := by decide +kernel
theorem dX11_spell_38 : decode cX11_spell 38 = .ok (.invokevirtual 294, 3) := by decide +kernel
theorem dX11_spell_41 : decode cX11_spell 41 = .ok (.aload_n 0, 1) := by decide +kernel
theorem dX11_spell_42 : decode cX11_spell 42 = .ok (.getfield 52, 3) := by decide +kernel
theorem dX11_spell_45 : decode cX11_spell 45 = .ok (.getfield 297, 3) := by decide +kernel
theorem dX11_spell_48 : decode cX11_spell 48 = .ok (.ifCond .ne 10, 3) := by decide +kernel
theorem dX11_spell_51 : decode cX11_spell 51 = .ok (.aload_n 0, 1) := by decide +kernel
theorem dX11_spell_52 : decode cX11_spell 52 = .ok (.bipush (-5), 2) := by decide +kernel
theorem dX11_spell_54 : decode cX11_spell 54 = .ok (.invokevirtual 108, 3) := by decide +kernel
theorem dX11_spell_57 : decode cX11_spell 57 = .ok (.ireturn, 1) := by decide +kernel
theorem dX11_spell_58 : decode cX11_spell 58 = .ok (.aload_n 0, 1) := by decide +kernel
theorem dX11_spell_59 : decode cX11_spell 59 = .ok (.getfield 52, 3) := by decide +kernel
theorem dX11_spell_62 : decode cX11_spell 62 = .ok (.getfield 304, 3) := by decide +kernel
theorem dX11_spell_65 : decode cX11_spell 65 = .ok (.aload_n 0, 1) := by decide +kernel
theorem dX11_spell_66 : decode cX11_spell 66 = .ok (.getfield 18, 3) := by decide +kernel
theorem dX11_spell_69 : decode cX11_spell 69 = .ok (.iload_n 1, 1) := by decide +kernel
theorem dX11_spell_70 : decode cX11_spell 70 = .ok (.aaload, 1) := by decide +kernel
theorem dX11_spell_71 : decode cX11_spell 71 = .ok (.getfield 310, 3) := by decide +kernel
theorem dX11_spell_74 : decode cX11_spell 74 = .ok (.if_icmp .le 10, 3) := by decide +kernel
theorem dX11_spell_77 : decode cX11_spell 77 = .ok (.aload_n 0, 1) := by decide +kernel
theorem dX11_spell_78 : decode cX11_spell 78 = .ok (.bipush (-7), 2) := by decide +kernel
theorem dX11_spell_80 : decode cX11_spell 80 = .ok (.invokevirtual 108, 3) := by decide +kernel
theorem dX11_spell_83 : decode cX11_spell 83 = .ok (.ireturn, 1) := by decide +kernel
theorem dX11_spell_84 : decode cX11_spell 84 = .ok (.iconst 0, 1) := by decide +kernel
theorem dX11_spell_85 : decode cX11_spell 85 = .ok (.istore_n 3, 1) := by decide +kernel
theorem dX11_spell_86 : decode cX11_spell 86 = .ok (.iload_n 3, 1) := by decide +kernel
theorem dX11_spell_87 : decode cX11_spell 87 = .ok (.aload_n 0, 1) := by decide +kernel
theorem dX11_spell_88 : decode cX11_spell 88 = .ok (.getfield 52, 3) := by decide +kernel
theorem dX11_spell_91 : decode cX11_spell 91 = .ok (.getfield 304, 3) := by decide +kernel
theorem dX11_spell_94 : decode cX11_spell 94 = .ok (.if_icmp .ge 28, 3) := by decide +kernel
theorem dX11_spell_97 : decode cX11_spell 97 = .ok (.aload_n 0, 1) := by decide +kernel
theorem dX11_spell_98 : decode cX11_spell 98 = .ok (.getfield 18, 3) := by decide +kernel
theorem dX11_spell_101 : decode cX11_spell 101 = .ok (.iload_n 1, 1) := by decide +kernel
theorem dX11_spell_102 : decode cX11_spell 102 = .ok (.aaload, 1) := by decide +kernel
theorem dX11_spell_103 : decode cX11_spell 103 = .ok (.iload_n 3, 1) := by decide +kernel
theorem dX11_spell_104 : decode cX11_spell 104 = .ok (.aload_n 0, 1) := by decide +kernel
theorem dX11_spell_105 : decode cX11_spell 105 = .ok (.getfield 52, 3) := by decide +kernel
theorem dX11_spell_108 : decode cX11_spell 108 = .ok (.iload_n 3, 1) := by decide +kernel
theorem dX11_spell_109 : decode cX11_spell 109 = .ok (.invokevirtual 307, 3) := by decide +kernel
theorem dX11_spell_112 : decode cX11_spell 112 = .ok (.i2l, 1) := by decide +kernel
theorem dX11_spell_113 : decode cX11_spell 113 = .ok (.invokevirtual 122, 3) := by decide +kernel
theorem dX11_spell_116 : decode cX11_spell 116 = .ok (.iinc 3 1, 3) := by decide +kernel
theorem dX11_spell_119 : decode cX11_spell 119 = .ok (.goto (-33), 3) := by decide +kernel
theorem dX11_spell_122 : decode cX11_spell 122 = .ok (.aload_n 0, 1) := by decide +kernel
theorem dX11_spell_123 : decode cX11_spell 123 = .ok (.getfield 52, 3) := by decide +kernel
theorem dX11_spell_126 : decode cX11_spell 126 = .ok (.getfield 304, 3) := by decide +kernel
theorem dX11_spell_129 : decode cX11_spell 129 = .ok (.ireturn, 1) := by decide +kernel
theorem dX11_judge_0 : decode cX11_judge 0 = .ok (.aload_n 0, 1) := by decide +kernel
theorem dX11_judge_1 : decode cX11_judge 1 = .ok (.iload_n 1, 1) := by decide +kernel
theorem dX11_judge_2 : decode cX11_judge 2 = .ok (.iload_n 2, 1) := by decide +kernel
theorem dX11_judge_3 : decode cX11_judge 3 = .ok (.invokevirtual 313, 3) := by decide +kernel
theorem dX11_judge_6 : decode cX11_judge 6 = .ok (.istore_n 3, 1) := by decide +kernel
theorem dX11_judge_7 : decode cX11_judge 7 = .ok (.iload_n 3, 1) := by decide +kernel
theorem dX11_judge_8 : decode cX11_judge 8 = .ok (.ifCond .eq 9, 3) := by decide +kernel
theorem dX11_judge_11 : decode cX11_judge 11 = .ok (.aload_n 0, 1) := by decide +kernel
theorem dX11_judge_12 : decode cX11_judge 12 = .ok (.iload_n 3, 1) := by decide +kernel
theorem dX11_judge_13 : decode cX11_judge 13 = .ok (.invokevirtual 242, 3) := by decide +kernel
theorem dX11_judge_16 : decode cX11_judge 16 = .ok (.ireturn, 1) := by decide +kernel
theorem dX11_judge_17 : decode cX11_judge 17 = .ok (.iload_n 2, 1) := by decide +kernel
theorem dX11_judge_18 : decode cX11_judge 18 = .ok (.bipush 100, 2) := by decide +kernel
theorem dX11_judge_20 : decode cX11_judge 20 = .ok (.if_icmp .le 10, 3) := by decide +kernel
theorem dX11_judge_23 : decode cX11_judge 23 = .ok (.aload_n 0, 1) := by decide +kernel
theorem dX11_judge_24 : decode cX11_judge 24 = .ok (.bipush (-6), 2) := by decide +kernel
theorem dX11_judge_26 : decode cX11_judge 26 = .ok (.invokevirtual 242, 3) := by decide +kernel
theorem dX11_judge_29 : decode cX11_judge 29 = .ok (.ireturn, 1) := by decide +kernel
theorem dX11_judge_30 : decode cX11_judge 30 = .ok (.aload_n 0, 1) := by decide +kernel
theorem dX11_judge_31 : decode cX11_judge 31 = .ok (.getfield 66, 3) := by decide +kernel
theorem dX11_judge_34 : decode cX11_judge 34 = .ok (.aload_n 0, 1) := by decide +kernel
theorem dX11_judge_35 : decode cX11_judge 35 = .ok (.getfield 18, 3) := by decide +kernel
theorem dX11_judge_38 : decode cX11_judge 38 = .ok (.iload_n 1, 1) := by decide +kernel
theorem dX11_judge_39 : decode cX11_judge 39 = .ok (.aaload, 1) := by decide +kernel
theorem dX11_judge_40 : decode cX11_judge 40 = .ok (.iload_n 2, 1) := by decide +kernel
theorem dX11_judge_41 : decode cX11_judge 41 = .ok (.aload_n 0, 1) := by decide +kernel
theorem dX11_judge_42 : decode cX11_judge 42 = .ok (.getfield 88, 3) := by decide +kernel
theorem dX11_judge_45 : decode cX11_judge 45 = .ok (.invokevirtual 316, 3) := by decide +kernel
theorem dX11_judge_48 : decode cX11_judge 48 = .ok (.aload_n 0, 1) := by decide +kernel
theorem dX11_judge_49 : decode cX11_judge 49 = .ok (.getfield 66, 3) := by decide +kernel
theorem dX11_judge_52 : decode cX11_judge 52 = .ok (.getfield 320, 3) := by decide +kernel
theorem dX11_judge_55 : decode cX11_judge 55 = .ok (.ireturn, 1) := by decide +kernel
theorem dX11_behind_0 : decode cX11_behind 0 = .ok (.aload_n 0, 1) := by decide +kernel
theorem dX11_behind_1 : decode cX11_behind 1 = .ok (.iload_n 1, 1) := by decide +kernel
theorem dX11_behind_2 : decode cX11_behind 2 = .ok (.iload_n 2, 1) := by decide +kernel
theorem dX11_behind_3 : decode cX11_behind 3 = .ok (.invokevirtual 313, 3) := by decide +kernel
theorem dX11_behind_6 : decode cX11_behind 6 = .ok (.istore 4, 2) := by decide +kernel
theorem dX11_behind_8 : decode cX11_behind 8 = .ok (.iload 4, 2) := by decide +kernel
theorem dX11_behind_10 : decode cX11_behind 10 = .ok (.ifCond .eq 10, 3) := by decide +kernel
theorem dX11_behind_13 : decode cX11_behind 13 = .ok (.aload_n 0, 1) := by decide +kernel
theorem dX11_behind_14 : decode cX11_behind 14 = .ok (.iload 4, 2) := by decide +kernel
theorem dX11_behind_16 : decode cX11_behind 16 = .ok (.invokevirtual 108, 3) := by decide +kernel
theorem dX11_behind_19 : decode cX11_behind 19 = .ok (.ireturn, 1) := by decide +kernel
theorem dX11_behind_20 : decode cX11_behind 20 = .ok (.iload_n 3, 1) := by decide +kernel
theorem dX11_behind_21 : decode cX11_behind 21 = .ok (.ifCond .lt 8, 3) := by decide +kernel
theorem dX11_behind_24 : decode cX11_behind 24 = .ok (.iload_n 3, 1) := by decide +kernel
theorem dX11_behind_25 : decode cX11_behind 25 = .ok (.iconst 3, 1) := by decide +kernel
theorem dX11_behind_26 : decode cX11_behind 26 = .ok (.if_icmp .le 10, 3) := by decide +kernel
theorem dX11_behind_29 : decode cX11_behind 29 = .ok (.aload_n 0, 1) := by decide +kernel
theorem dX11_behind_30 : decode cX11_behind 30 = .ok (.bipush (-5), 2) := by decide +kernel
theorem dX11_behind_32 : decode cX11_behind 32 = .ok (.invokevirtual 108, 3) := by decide +kernel
theorem dX11_behind_35 : decode cX11_behind 35 = .ok (.ireturn, 1) := by decide +kernel
theorem dX11_behind_36 : decode cX11_behind 36 = .ok (.iload_n 2, 1) := by decide +kernel
theorem dX11_behind_37 : decode cX11_behind 37 = .ok (.bipush 100, 2) := by decide +kernel
theorem dX11_behind_39 : decode cX11_behind 39 = .ok (.if_icmp .le 10, 3) := by decide +kernel
theorem dX11_behind_42 : decode cX11_behind 42 = .ok (.aload_n 0, 1) := by decide +kernel
theorem dX11_behind_43 : decode cX11_behind 43 = .ok (.bipush (-6), 2) := by decide +kernel
theorem dX11_behind_45 : decode cX11_behind 45 = .ok (.invokevirtual 108, 3) := by decide +kernel
theorem dX11_behind_48 : decode cX11_behind 48 = .ok (.ireturn, 1) := by decide +kernel
theorem dX11_behind_49 : decode cX11_behind 49 = .ok (.aload_n 0, 1) := by decide +kernel
theorem dX11_behind_50 : decode cX11_behind 50 = .ok (.getfield 66, 3) := by decide +kernel
theorem dX11_behind_53 : decode cX11_behind 53 = .ok (.aload_n 0, 1) := by decide +kernel
theorem dX11_behind_54 : decode cX11_behind 54 = .ok (.getfield 18, 3) := by decide +kernel
theorem dX11_behind_57 : decode cX11_behind 57 = .ok (.iload_n 1, 1) := by decide +kernel
theorem dX11_behind_58 : decode cX11_behind 58 = .ok (.aaload, 1) := by decide +kernel
theorem dX11_behind_59 : decode cX11_behind 59 = .ok (.iload_n 2, 1) := by decide +kernel
theorem dX11_behind_60 : decode cX11_behind 60 = .ok (.aload_n 0, 1) := by decide +kernel
theorem dX11_behind_61 : decode cX11_behind 61 = .ok (.getfield 88, 3) := by decide +kernel
theorem dX11_behind_64 : decode cX11_behind 64 = .ok (.invokevirtual 316, 3) := by decide +kernel
theorem dX11_behind_67 : decode cX11_behind 67 = .ok (.aload_n 0, 1) := by decide +kernel
theorem dX11_behind_68 : decode cX11_behind 68 = .ok (.getfield 66, 3) := by decide +kernel
theorem dX11_behind_71 : decode cX11_behind 71 = .ok (.getfield 320, 3) := by decide +kernel
theorem dX11_behind_74 : decode cX11_behind 74 = .ok (.iconst (-1), 1) := by decide +kernel
theorem dX11_behind_75 : decode cX11_behind 75 = .ok (.if_icmp .eq 10, 3) := by decide +kernel
theorem dX11_behind_78 : decode cX11_behind 78 = .ok (.aload_n 0, 1) := by decide +kernel
theorem dX11_behind_79 : decode cX11_behind 79 = .ok (.bipush (-6), 2) := by decide +kernel
theorem dX11_behind_81 : decode cX11_behind 81 = .ok (.invokevirtual 108, 3) := by decide +kernel
theorem dX11_behind_84 : decode cX11_behind 84 = .ok (.ireturn, 1) := by decide +kernel
theorem dX11_behind_85 : decode cX11_behind 85 = .ok (.aload_n 0, 1) := by decide +kernel
theorem dX11_behind_86 : decode cX11_behind 86 = .ok (.getfield 91, 3) := by decide +kernel
theorem dX11_behind_89 : decode cX11_behind 89 = .ok (.aload_n 0, 1) := by decide +kernel
theorem dX11_behind_90 : decode cX11_behind 90 = .ok (.getfield 66, 3) := by decide +kernel
theorem dX11_behind_93 : decode cX11_behind 93 = .ok (.getfield 323, 3) := by decide +kernel
theorem dX11_behind_96 : decode cX11_behind 96 = .ok (.iconst (-1), 1) := by decide +kernel
theorem dX11_behind_97 : decode cX11_behind 97 = .ok (.ixor, 1) := by decide +kernel
theorem dX11_behind_98 : decode cX11_behind 98 = .ok (.iand, 1) := by decide +kernel
theorem dX11_behind_99 : decode cX11_behind 99 = .ok (.istore 5, 2) := by decide +kernel
theorem dX11_behind_101 : decode cX11_behind 101 = .ok (.iload_n 3, 1) := by decide +kernel
theorem dX11_behind_102 : decode cX11_behind 102 = .ok (.tableswitch 53 0 2 #[26, 34, 42], 26) := by decide +kernel
theorem dX11_behind_128 : decode cX11_behind 128 = .ok (.aload_n 0, 1) := by decide +kernel
theorem dX11_behind_129 : decode cX11_behind 129 = .ok (.getfield 66, 3) := by decide +kernel
theorem dX11_behind_132 : decode cX11_behind 132 = .ok (.getfield 323, 3) := by decide +kernel
theorem dX11_behind_135 : decode cX11_behind 135 = .ok (.ireturn, 1) := by decide +kernel
theorem dX11_behind_136 : decode cX11_behind 136 = .ok (.aload_n 0, 1) := by decide +kernel
theorem dX11_behind_137 : decode cX11_behind 137 = .ok (.getfield 66, 3) := by decide +kernel
theorem dX11_behind_140 : decode cX11_behind 140 = .ok (.getfield 326, 3) := by decide +kernel
theorem dX11_behind_143 : decode cX11_behind 143 = .ok (.ireturn, 1) := by decide +kernel
theorem dX11_behind_144 : decode cX11_behind 144 = .ok (.iload 5, 2) := by decide +kernel
theorem dX11_behind_146 : decode cX11_behind 146 = .ok (.ifCond .ne 7, 3) := by decide +kernel
theorem dX11_behind_149 : decode cX11_behind 149 = .ok (.iconst 1, 1) := by decide +kernel
theorem dX11_behind_150 : decode cX11_behind 150 = .ok (.goto 4, 3) := by decide +kernel
theorem dX11_behind_153 : decode cX11_behind 153 = .ok (.iconst 0, 1) := by decide +kernel
theorem dX11_behind_154 : decode cX11_behind 154 = .ok (.ireturn, 1) := by decide +kernel
theorem dX11_behind_155 : decode cX11_behind 155 = .ok (.iload 5, 2) := by decide +kernel
theorem dX11_behind_157 : decode cX11_behind 157 = .ok (.ireturn, 1) := by decide +kernel
theorem dX11_mostPair_0 : decode cX11_mostPair 0 = .ok (.aload_n 0, 1) := by decide +kernel
theorem dX11_mostPair_1 : decode cX11_mostPair 1 = .ok (.iload_n 1, 1) := by decide +kernel
theorem dX11_mostPair_2 : decode cX11_mostPair 2 = .ok (.iload_n 2, 1) := by decide +kernel
theorem dX11_mostPair_3 : decode cX11_mostPair 3 = .ok (.invokevirtual 313, 3) := by decide +kernel
theorem dX11_mostPair_6 : decode cX11_mostPair 6 = .ok (.istore_n 3, 1) := by decide +kernel
theorem dX11_mostPair_7 : decode cX11_mostPair 7 = .ok (.iload_n 3, 1) := by decide +kernel
theorem dX11_mostPair_8 : decode cX11_mostPair 8 = .ok (.ifCond .eq 9, 3) := by decide +kernel
theorem dX11_mostPair_11 : decode cX11_mostPair 11 = .ok (.aload_n 0, 1) := by decide +kernel
theorem dX11_mostPair_12 : decode cX11_mostPair 12 = .ok (.iload_n 3, 1) := by decide +kernel
theorem dX11_mostPair_13 : decode cX11_mostPair 13 = .ok (.invokevirtual 108, 3) := by decide +kernel
theorem dX11_mostPair_16 : decode cX11_mostPair 16 = .ok (.ireturn, 1) := by decide +kernel
theorem dX11_mostPair_17 : decode cX11_mostPair 17 = .ok (.iload_n 2, 1) := by decide +kernel
theorem dX11_mostPair_18 : decode cX11_mostPair 18 = .ok (.iconst 2, 1) := by decide +kernel
theorem dX11_mostPair_19 : decode cX11_mostPair 19 = .ok (.if_icmp .ge 10, 3) := by decide +kernel
theorem dX11_mostPair_22 : decode cX11_mostPair 22 = .ok (.aload_n 0, 1) := by decide +kernel
theorem dX11_mostPair_23 : decode cX11_mostPair 23 = .ok (.bipush (-5), 2) := by decide +kernel
theorem dX11_mostPair_25 : decode cX11_mostPair 25 = .ok (.invokevirtual 108, 3) := by decide +kernel
theorem dX11_mostPair_28 : decode cX11_mostPair 28 = .ok (.ireturn, 1) := by decide +kernel
theorem dX11_mostPair_29 : decode cX11_mostPair 29 = .ok (.iload_n 2, 1) := by decide +kernel
theorem dX11_mostPair_30 : decode cX11_mostPair 30 = .ok (.bipush 100, 2) := by decide +kernel
theorem dX11_mostPair_32 : decode cX11_mostPair 32 = .ok (.if_icmp .gt 20, 3) := by decide +kernel
theorem dX11_mostPair_35 : decode cX11_mostPair 35 = .ok (.aload_n 0, 1) := by decide +kernel
theorem dX11_mostPair_36 : decode cX11_mostPair 36 = .ok (.getfield 66, 3) := by decide +kernel
theorem dX11_mostPair_39 : decode cX11_mostPair 39 = .ok (.aload_n 0, 1) := by decide +kernel
theorem dX11_mostPair_40 : decode cX11_mostPair 40 = .ok (.getfield 18, 3) := by decide +kernel
theorem dX11_mostPair_43 : decode cX11_mostPair 43 = .ok (.iload_n 1, 1) := by decide +kernel
theorem dX11_mostPair_44 : decode cX11_mostPair 44 = .ok (.aaload, 1) := by decide +kernel
theorem dX11_mostPair_45 : decode cX11_mostPair 45 = .ok (.iload_n 2, 1) := by decide +kernel
theorem dX11_mostPair_46 : decode cX11_mostPair 46 = .ok (.invokevirtual 329, 3) := by decide +kernel
theorem dX11_mostPair_49 : decode cX11_mostPair 49 = .ok (.ifCond .ne 10, 3) := by decide +kernel
theorem dX11_mostPair_52 : decode cX11_mostPair 52 = .ok (.aload_n 0, 1) := by decide +kernel
theorem dX11_mostPair_53 : decode cX11_mostPair 53 = .ok (.bipush (-6), 2) := by decide +kernel
theorem dX11_mostPair_55 : decode cX11_mostPair 55 = .ok (.invokevirtual 108, 3) := by decide +kernel
theorem dX11_mostPair_58 : decode cX11_mostPair 58 = .ok (.ireturn, 1) := by decide +kernel
theorem dX11_mostPair_59 : decode cX11_mostPair 59 = .ok (.aload_n 0, 1) := by decide +kernel
theorem dX11_mostPair_60 : decode cX11_mostPair 60 = .ok (.getfield 66, 3) := by decide +kernel
theorem dX11_mostPair_63 : decode cX11_mostPair 63 = .ok (.aload_n 0, 1) := by decide +kernel
theorem dX11_mostPair_64 : decode cX11_mostPair 64 = .ok (.getfield 18, 3) := by decide +kernel
theorem dX11_mostPair_67 : decode cX11_mostPair 67 = .ok (.iload_n 1, 1) := by decide +kernel
theorem dX11_mostPair_68 : decode cX11_mostPair 68 = .ok (.aaload, 1) := by decide +kernel
theorem dX11_mostPair_69 : decode cX11_mostPair 69 = .ok (.iload_n 2, 1) := by decide +kernel
theorem dX11_mostPair_70 : decode cX11_mostPair 70 = .ok (.invokevirtual 333, 3) := by decide +kernel
theorem dX11_mostPair_73 : decode cX11_mostPair 73 = .ok (.istore 4, 2) := by decide +kernel
theorem dX11_mostPair_75 : decode cX11_mostPair 75 = .ok (.bipush 100, 2) := by decide +kernel
theorem dX11_mostPair_77 : decode cX11_mostPair 77 = .ok (.iload 4, 2) := by decide +kernel
theorem dX11_mostPair_79 : decode cX11_mostPair 79 = .ok (.bipush 24, 2) := by decide +kernel
theorem dX11_mostPair_81 : decode cX11_mostPair 81 = .ok (.idiv, 1) := by decide +kernel
theorem dX11_mostPair_82 : decode cX11_mostPair 82 = .ok (.imul, 1) := by decide +kernel
theorem dX11_mostPair_83 : decode cX11_mostPair 83 = .ok (.iload 4, 2) := by decide +kernel
theorem dX11_mostPair_85 : decode cX11_mostPair 85 = .ok (.bipush 24, 2) := by decide +kernel
theorem dX11_mostPair_87 : decode cX11_mostPair 87 = .ok (.irem, 1) := by decide +kernel
theorem dX11_mostPair_88 : decode cX11_mostPair 88 = .ok (.iadd, 1) := by decide +kernel
theorem dX11_mostPair_89 : decode cX11_mostPair 89 = .ok (.ireturn, 1) := by decide +kernel
theorem dX11_greedy_0 : decode cX11_greedy 0 = .ok (.iload_n 1, 1) := by decide +kernel
theorem dX11_greedy_1 : decode cX11_greedy 1 = .ok (.invokestatic 248, 3) := by decide +kernel
theorem dX11_greedy_4 : decode cX11_greedy 4 = .ok (.ifCond .ne 9, 3) := by decide +kernel
theorem dX11_greedy_7 : decode cX11_greedy 7 = .ok (.aload_n 0, 1) := by decide +kernel
theorem dX11_greedy_8 : decode cX11_greedy 8 = .ok (.iconst (-1), 1) := by decide +kernel
theorem dX11_greedy_9 : decode cX11_greedy 9 = .ok (.invokevirtual 108, 3) := by decide +kernel
theorem dX11_greedy_12 : decode cX11_greedy 12 = .ok (.ireturn, 1) := by decide +kernel
theorem dX11_greedy_13 : decode cX11_greedy 13 = .ok (.iload_n 2, 1) := by decide +kernel
theorem dX11_greedy_14 : decode cX11_greedy 14 = .ok (.iconst 1, 1) := by decide +kernel
theorem dX11_greedy_15 : decode cX11_greedy 15 = .ok (.if_icmp .lt 9, 3) := by decide +kernel
theorem dX11_greedy_18 : decode cX11_greedy 18 = .ok (.iload_n 2, 1) := by decide +kernel
theorem dX11_greedy_19 : decode cX11_greedy 19 = .ok (.bipush 40, 2) := by decide +kernel
theorem dX11_greedy_21 : decode cX11_greedy 21 = .ok (.if_icmp .le 10, 3) := by decide +kernel
theorem dX11_greedy_24 : decode cX11_greedy 24 = .ok (.aload_n 0, 1) := by decide +kernel
theorem dX11_greedy_25 : decode cX11_greedy 25 = .ok (.bipush (-6), 2) := by decide +kernel
theorem dX11_greedy_27 : decode cX11_greedy 27 = .ok (.invokevirtual 108, 3) := by decide +kernel
theorem dX11_greedy_30 : decode cX11_greedy 30 = .ok (.ireturn, 1) := by decide +kernel
theorem dX11_greedy_31 : decode cX11_greedy 31 = .ok (.aload_n 0, 1) := by decide +kernel
theorem dX11_greedy_32 : decode cX11_greedy 32 = .ok (.iconst 0, 1) := by decide +kernel
theorem dX11_greedy_33 : decode cX11_greedy 33 = .ok (.putfield 84, 3) := by decide +kernel
theorem dX11_greedy_36 : decode cX11_greedy 36 = .ok (.iconst 0, 1) := by decide +kernel
theorem dX11_greedy_37 : decode cX11_greedy 37 = .ok (.istore_n 3, 1) := by decide +kernel
theorem dX11_greedy_38 : decode cX11_greedy 38 = .ok (.iload_n 3, 1) := by decide +kernel
theorem dX11_greedy_39 : decode cX11_greedy 39 = .ok (.iload_n 2, 1) := by decide +kernel
theorem dX11_greedy_40 : decode cX11_greedy 40 = .ok (.if_icmp .ge 56, 3) := by decide +kernel
theorem dX11_greedy_43 : decode cX11_greedy 43 = .ok (.aload_n 0, 1) := by decide +kernel
theorem dX11_greedy_44 : decode cX11_greedy 44 = .ok (.getfield 91, 3) := by decide +kernel
theorem dX11_greedy_47 : decode cX11_greedy 47 = .ok (.aload_n 0, 1) := by decide +kernel
theorem dX11_greedy_48 : decode cX11_greedy 48 = .ok (.getfield 94, 3) := by decide +kernel
theorem dX11_greedy_51 : decode cX11_greedy 51 = .ok (.iconst (-1), 1) := by decide +kernel
theorem dX11_greedy_52 : decode cX11_greedy 52 = .ok (.ixor, 1) := by decide +kernel
theorem dX11_greedy_53 : decode cX11_greedy 53 = .ok (.iand, 1) := by decide +kernel
theorem dX11_greedy_54 : decode cX11_greedy 54 = .ok (.ifCond .eq 42, 3) := by decide +kernel
theorem dX11_greedy_57 : decode cX11_greedy 57 = .ok (.aload_n 0, 1) := by decide +kernel
theorem dX11_greedy_58 : decode cX11_greedy 58 = .ok (.getfield 36, 3) := by decide +kernel
theorem dX11_greedy_61 : decode cX11_greedy 61 = .ok (.aload_n 0, 1) := by decide +kernel
theorem dX11_greedy_62 : decode cX11_greedy 62 = .ok (.getfield 94, 3) := by decide +kernel
theorem dX11_greedy_65 : decode cX11_greedy 65 = .ok (.aload_n 0, 1) := by decide +kernel
theorem dX11_greedy_66 : decode cX11_greedy 66 = .ok (.getfield 91, 3) := by decide +kernel
theorem dX11_greedy_69 : decode cX11_greedy 69 = .ok (.iload_n 1, 1) := by decide +kernel
theorem dX11_greedy_70 : decode cX11_greedy 70 = .ok (.invokevirtual 337, 3) := by decide +kernel
theorem dX11_greedy_73 : decode cX11_greedy 73 = .ok (.istore 4, 2) := by decide +kernel
theorem dX11_greedy_75 : decode cX11_greedy 75 = .ok (.iload 4, 2) := by decide +kernel
theorem dX11_greedy_77 : decode cX11_greedy 77 = .ok (.iconst (-1), 1) := by decide +kernel
theorem dX11_greedy_78 : decode cX11_greedy 78 = .ok (.if_icmp .ne 6, 3) := by decide +kernel
theorem dX11_greedy_81 : decode cX11_greedy 81 = .ok (.goto 15, 3) := by decide +kernel
theorem dX11_greedy_84 : decode cX11_greedy 84 = .ok (.aload_n 0, 1) := by decide +kernel
theorem dX11_greedy_85 : decode cX11_greedy 85 = .ok (.iload 4, 2) := by decide +kernel
theorem dX11_greedy_87 : decode cX11_greedy 87 = .ok (.invokevirtual 340, 3) := by decide +kernel
theorem dX11_greedy_90 : decode cX11_greedy 90 = .ok (.iinc 3 1, 3) := by decide +kernel
theorem dX11_greedy_93 : decode cX11_greedy 93 = .ok (.goto (-55), 3) := by decide +kernel
theorem dX11_greedy_96 : decode cX11_greedy 96 = .ok (.aload_n 0, 1) := by decide +kernel
theorem dX11_greedy_97 : decode cX11_greedy 97 = .ok (.getfield 84, 3) := by decide +kernel
theorem dX11_greedy_100 : decode cX11_greedy 100 = .ok (.ireturn, 1) := by decide +kernel
theorem dX11_walk_0 : decode cX11_walk 0 = .ok (.iload_n 1, 1) := by decide +kernel
theorem dX11_walk_1 : decode cX11_walk 1 = .ok (.iconst 1, 1) := by decide +kernel
theorem dX11_walk_2 : decode cX11_walk 2 = .ok (.if_icmp .lt 9, 3) := by decide +kernel
theorem dX11_walk_5 : decode cX11_walk 5 = .ok (.iload_n 1, 1) := by decide +kernel
theorem dX11_walk_6 : decode cX11_walk 6 = .ok (.bipush 40, 2) := by decide +kernel
theorem dX11_walk_8 : decode cX11_walk 8 = .ok (.if_icmp .le 10, 3) := by decide +kernel
theorem dX11_walk_11 : decode cX11_walk 11 = .ok (.aload_n 0, 1) := by decide +kernel
theorem dX11_walk_12 : decode cX11_walk 12 = .ok (.bipush (-6), 2) := by decide +kernel
theorem dX11_walk_14 : decode cX11_walk 14 = .ok (.invokevirtual 108, 3) := by decide +kernel
theorem dX11_walk_17 : decode cX11_walk 17 = .ok (.ireturn, 1) := by decide +kernel
theorem dX11_walk_18 : decode cX11_walk 18 = .ok (.aload_n 0, 1) := by decide +kernel
theorem dX11_walk_19 : decode cX11_walk 19 = .ok (.iconst 0, 1) := by decide +kernel
theorem dX11_walk_20 : decode cX11_walk 20 = .ok (.putfield 84, 3) := by decide +kernel
theorem dX11_walk_23 : decode cX11_walk 23 = .ok (.iconst 0, 1) := by decide +kernel
theorem dX11_walk_24 : decode cX11_walk 24 = .ok (.istore_n 2, 1) := by decide +kernel
theorem dX11_walk_25 : decode cX11_walk 25 = .ok (.iload_n 2, 1) := by decide +kernel
theorem dX11_walk_26 : decode cX11_walk 26 = .ok (.iload_n 1, 1) := by decide +kernel
theorem dX11_walk_27 : decode cX11_walk 27 = .ok (.if_icmp .ge 44, 3) := by decide +kernel
theorem dX11_walk_30 : decode cX11_walk 30 = .ok (.aload_n 0, 1) := by decide +kernel
theorem dX11_walk_31 : decode cX11_walk 31 = .ok (.getfield 12, 3) := by decide +kernel
theorem dX11_walk_34 : decode cX11_walk 34 = .ok (.aload_n 0, 1) := by decide +kernel
theorem dX11_walk_35 : decode cX11_walk 35 = .ok (.getfield 94, 3) := by decide +kernel
theorem dX11_walk_38 : decode cX11_walk 38 = .ok (.invokevirtual 224, 3) := by decide +kernel
theorem dX11_walk_41 : decode cX11_walk 41 = .ok (.istore_n 3, 1) := by decide +kernel
theorem dX11_walk_42 : decode cX11_walk 42 = .ok (.iload_n 3, 1) := by decide +kernel
theorem dX11_walk_43 : decode cX11_walk 43 = .ok (.ifCond .ne 6, 3) := by decide +kernel
theorem dX11_walk_46 : decode cX11_walk 46 = .ok (.goto 25, 3) := by decide +kernel
theorem dX11_walk_49 : decode cX11_walk 49 = .ok (.aload_n 0, 1) := by decide +kernel
theorem dX11_walk_50 : decode cX11_walk 50 = .ok (.iload_n 3, 1) := by decide +kernel
theorem dX11_walk_51 : decode cX11_walk 51 = .ok (.aload_n 0, 1) := by decide +kernel
theorem dX11_walk_52 : decode cX11_walk 52 = .ok (.iload_n 3, 1) := by decide +kernel
theorem dX11_walk_53 : decode cX11_walk 53 = .ok (.invokestatic 343, 3) := by decide +kernel
theorem dX11_walk_56 : decode cX11_walk 56 = .ok (.invokevirtual 348, 3) := by decide +kernel
theorem dX11_walk_59 : decode cX11_walk 59 = .ok (.invokestatic 351, 3) := by decide +kernel
theorem dX11_walk_62 : decode cX11_walk 62 = .ok (.invokevirtual 340, 3) := by decide +kernel
theorem dX11_walk_65 : decode cX11_walk 65 = .ok (.iinc 2 1, 3) := by decide +kernel
theorem dX11_walk_68 : decode cX11_walk 68 = .ok (.goto (-43), 3) := by decide +kernel
theorem dX11_walk_71 : decode cX11_walk 71 = .ok (.aload_n 0, 1) := by decide +kernel
theorem dX11_walk_72 : decode cX11_walk 72 = .ok (.getfield 84, 3) := by decide +kernel
theorem dX11_walk_75 : decode cX11_walk 75 = .ok (.ireturn, 1) := by decide +kernel
theorem dX11_seed_0 : decode cX11_seed 0 = .ok (.aload_n 0, 1) := by decide +kernel
theorem dX11_seed_1 : decode cX11_seed 1 = .ok (.getfield 97, 3) := by decide +kernel
theorem dX11_seed_4 : decode cX11_seed 4 = .ok (.istore_n 2, 1) := by decide +kernel
theorem dX11_seed_5 : decode cX11_seed 5 = .ok (.aload_n 0, 1) := by decide +kernel
theorem dX11_seed_6 : decode cX11_seed 6 = .ok (.iload_n 1, 1) := by decide +kernel
theorem dX11_seed_7 : decode cX11_seed 7 = .ok (.putfield 97, 3) := by decide +kernel
theorem dX11_seed_10 : decode cX11_seed 10 = .ok (.iload_n 2, 1) := by decide +kernel
theorem dX11_seed_11 : decode cX11_seed 11 = .ok (.ireturn, 1) := by decide +kernel
theorem dX11_trace_0 : decode cX11_trace 0 = .ok (.iload_n 1, 1) := by decide +kernel
theorem dX11_trace_1 : decode cX11_trace 1 = .ok (.ifCond .lt 20, 3) := by decide +kernel
theorem dX11_trace_4 : decode cX11_trace 4 = .ok (.iload_n 1, 1) := by decide +kernel
theorem dX11_trace_5 : decode cX11_trace 5 = .ok (.aload_n 0, 1) := by decide +kernel
theorem dX11_trace_6 : decode cX11_trace 6 = .ok (.getfield 84, 3) := by decide +kernel
theorem dX11_trace_9 : decode cX11_trace 9 = .ok (.if_icmp .ge 12, 3) := by decide +kernel
theorem dX11_trace_12 : decode cX11_trace 12 = .ok (.aload_n 0, 1) := by decide +kernel
theorem dX11_trace_13 : decode cX11_trace 13 = .ok (.getfield 81, 3) := by decide +kernel
theorem dX11_trace_16 : decode cX11_trace 16 = .ok (.iload_n 1, 1) := by decide +kernel
theorem dX11_trace_17 : decode cX11_trace 17 = .ok (.iaload, 1) := by decide +kernel
theorem dX11_trace_18 : decode cX11_trace 18 = .ok (.goto 4, 3) := by decide +kernel
theorem dX11_trace_21 : decode cX11_trace 21 = .ok (.iconst (-1), 1) := by decide +kernel
theorem dX11_trace_22 : decode cX11_trace 22 = .ok (.ireturn, 1) := by decide +kernel
theorem dX11_image_0 : decode cX11_image 0 = .ok (.aload_n 0, 1) := by decide +kernel
theorem dX11_image_1 : decode cX11_image 1 = .ok (.getfield 73, 3) := by decide +kernel
theorem dX11_image_4 : decode cX11_image 4 = .ok (.iconst 1, 1) := by decide +kernel
theorem dX11_image_5 : decode cX11_image 5 = .ok (.putfield 354, 3) := by decide +kernel
theorem dX11_image_8 : decode cX11_image 8 = .ok (.aload_n 0, 1) := by decide +kernel
theorem dX11_image_9 : decode cX11_image 9 = .ok (.getfield 73, 3) := by decide +kernel
theorem dX11_image_12 : decode cX11_image 12 = .ok (.aload_n 0, 1) := by decide +kernel
theorem dX11_image_13 : decode cX11_image 13 = .ok (.getfield 12, 3) := by decide +kernel
theorem dX11_image_16 : decode cX11_image 16 = .ok (.getfield 176, 3) := by decide +kernel
theorem dX11_image_19 : decode cX11_image 19 = .ok (.putfield 357, 3) := by decide +kernel
theorem dX11_image_22 : decode cX11_image 22 = .ok (.aload_n 0, 1) := by decide +kernel
theorem dX11_image_23 : decode cX11_image 23 = .ok (.getfield 73, 3) := by decide +kernel
theorem dX11_image_26 : decode cX11_image 26 = .ok (.aload_n 0, 1) := by decide +kernel
theorem dX11_image_27 : decode cX11_image 27 = .ok (.getfield 88, 3) := by decide +kernel
theorem dX11_image_30 : decode cX11_image 30 = .ok (.putfield 360, 3) := by decide +kernel
theorem dX11_image_33 : decode cX11_image 33 = .ok (.aload_n 0, 1) := by decide +kernel
theorem dX11_image_34 : decode cX11_image 34 = .ok (.getfield 73, 3) := by decide +kernel
theorem dX11_image_37 : decode cX11_image 37 = .ok (.aload_n 0, 1) := by decide +kernel
theorem dX11_image_38 : decode cX11_image 38 = .ok (.getfield 91, 3) := by decide +kernel
theorem dX11_image_41 : decode cX11_image 41 = .ok (.putfield 363, 3) := by decide +kernel
theorem dX11_image_44 : decode cX11_image 44 = .ok (.aload_n 0, 1) := by decide +kernel
theorem dX11_image_45 : decode cX11_image 45 = .ok (.getfield 73, 3) := by decide +kernel
theorem dX11_image_48 : decode cX11_image 48 = .ok (.aload_n 0, 1) := by decide +kernel
theorem dX11_image_49 : decode cX11_image 49 = .ok (.getfield 94, 3) := by decide +kernel
theorem dX11_image_52 : decode cX11_image 52 = .ok (.putfield 366, 3) := by decide +kernel
theorem dX11_image_55 : decode cX11_image 55 = .ok (.aload_n 0, 1) := by decide +kernel
theorem dX11_image_56 : decode cX11_image 56 = .ok (.getfield 73, 3) := by decide +kernel
theorem dX11_image_59 : decode cX11_image 59 = .ok (.aload_n 0, 1) := by decide +kernel
theorem dX11_image_60 : decode cX11_image 60 = .ok (.getfield 97, 3) := by decide +kernel
theorem dX11_image_63 : decode cX11_image 63 = .ok (.putfield 369, 3) := by decide +kernel
theorem dX11_image_66 : decode cX11_image 66 = .ok (.aload_n 0, 1) := by decide +kernel
theorem dX11_image_67 : decode cX11_image 67 = .ok (.getfield 12, 3) := by decide +kernel
theorem dX11_image_70 : decode cX11_image 70 = .ok (.getfield 176, 3) := by decide +kernel
theorem dX11_image_73 : decode cX11_image 73 = .ok (.ireturn, 1) := by decide +kernel
theorem dX11_restore_0 : decode cX11_restore 0 = .ok (.aload_n 0, 1) := by decide +kernel
theorem dX11_restore_1 : decode cX11_restore 1 = .ok (.getfield 73, 3) := by decide +kernel
theorem dX11_restore_4 : decode cX11_restore 4 = .ok (.getfield 354, 3) := by decide +kernel
theorem dX11_restore_7 : decode cX11_restore 7 = .ok (.ifCond .ne 10, 3) := by decide +kernel
theorem dX11_restore_10 : decode cX11_restore 10 = .ok (.aload_n 0, 1) := by decide +kernel
theorem dX11_restore_11 : decode cX11_restore 11 = .ok (.bipush (-6), 2) := by decide +kernel
theorem dX11_restore_13 : decode cX11_restore 13 = .ok (.invokevirtual 108, 3) := by decide +kernel
theorem dX11_restore_16 : decode cX11_restore 16 = .ok (.ireturn, 1) := by decide +kernel
theorem dX11_restore_17 : decode cX11_restore 17 = .ok (.aload_n 0, 1) := by decide +kernel
theorem dX11_restore_18 : decode cX11_restore 18 = .ok (.getfield 12, 3) := by decide +kernel
theorem dX11_restore_21 : decode cX11_restore 21 = .ok (.aload_n 0, 1) := by decide +kernel
theorem dX11_restore_22 : decode cX11_restore 22 = .ok (.getfield 73, 3) := by decide +kernel
theorem dX11_restore_25 : decode cX11_restore 25 = .ok (.getfield 357, 3) := by decide +kernel
theorem dX11_restore_28 : decode cX11_restore 28 = .ok (.putfield 176, 3) := by decide +kernel
theorem dX11_restore_31 : decode cX11_restore 31 = .ok (.aload_n 0, 1) := by decide +kernel
theorem dX11_restore_32 : decode cX11_restore 32 = .ok (.aload_n 0, 1) := by decide +kernel
theorem dX11_restore_33 : decode cX11_restore 33 = .ok (.getfield 73, 3) := by decide +kernel
theorem dX11_restore_36 : decode cX11_restore 36 = .ok (.getfield 360, 3) := by decide +kernel
theorem dX11_restore_39 : decode cX11_restore 39 = .ok (.putfield 88, 3) := by decide +kernel
theorem dX11_restore_42 : decode cX11_restore 42 = .ok (.aload_n 0, 1) := by decide +kernel
theorem dX11_restore_43 : decode cX11_restore 43 = .ok (.aload_n 0, 1) := by decide +kernel
theorem dX11_restore_44 : decode cX11_restore 44 = .ok (.getfield 73, 3) := by decide +kernel
theorem dX11_restore_47 : decode cX11_restore 47 = .ok (.getfield 363, 3) := by decide +kernel
theorem dX11_restore_50 : decode cX11_restore 50 = .ok (.putfield 91, 3) := by decide +kernel
theorem dX11_restore_53 : decode cX11_restore 53 = .ok (.aload_n 0, 1) := by decide +kernel
theorem dX11_restore_54 : decode cX11_restore 54 = .ok (.aload_n 0, 1) := by decide +kernel
theorem dX11_restore_55 : decode cX11_restore 55 = .ok (.getfield 73, 3) := by decide +kernel
theorem dX11_restore_58 : decode cX11_restore 58 = .ok (.getfield 366, 3) := by decide +kernel
theorem dX11_restore_61 : decode cX11_restore 61 = .ok (.putfield 94, 3) := by decide +kernel
theorem dX11_restore_64 : decode cX11_restore 64 = .ok (.aload_n 0, 1) := by decide +kernel
theorem dX11_restore_65 : decode cX11_restore 65 = .ok (.aload_n 0, 1) := by decide +kernel
theorem dX11_restore_66 : decode cX11_restore 66 = .ok (.getfield 73, 3) := by decide +kernel
theorem dX11_restore_69 : decode cX11_restore 69 = .ok (.getfield 369, 3) := by decide +kernel
theorem dX11_restore_72 : decode cX11_restore 72 = .ok (.putfield 97, 3) := by decide +kernel
theorem dX11_restore_75 : decode cX11_restore 75 = .ok (.iconst 0, 1) := by decide +kernel
theorem dX11_restore_76 : decode cX11_restore 76 = .ok (.istore_n 1, 1) := by decide +kernel
theorem dX11_restore_77 : decode cX11_restore 77 = .ok (.iload_n 1, 1) := by decide +kernel
theorem dX11_restore_78 : decode cX11_restore 78 = .ok (.bipush 8, 2) := by decide +kernel
theorem dX11_restore_80 : decode cX11_restore 80 = .ok (.if_icmp .ge 50, 3) := by decide +kernel
theorem dX11_restore_83 : decode cX11_restore 83 = .ok (.aload_n 0, 1) := by decide +kernel
theorem dX11_restore_84 : decode cX11_restore 84 = .ok (.getfield 18, 3) := by decide +kernel
theorem dX11_restore_87 : decode cX11_restore 87 = .ok (.iload_n 1, 1) := by decide +kernel
theorem dX11_restore_88 : decode cX11_restore 88 = .ok (.aaload, 1) := by decide +kernel
theorem dX11_restore_89 : decode cX11_restore 89 = .ok (.invokevirtual 372, 3) := by decide +kernel
theorem dX11_restore_92 : decode cX11_restore 92 = .ok (.ifCond .eq 32, 3) := by decide +kernel
theorem dX11_restore_95 : decode cX11_restore 95 = .ok (.aload_n 0, 1) := by decide +kernel
theorem dX11_restore_96 : decode cX11_restore 96 = .ok (.getfield 12, 3) := by decide +kernel
theorem dX11_restore_99 : decode cX11_restore 99 = .ok (.aload_n 0, 1) := by decide +kernel
theorem dX11_restore_100 : decode cX11_restore 100 = .ok (.getfield 18, 3) := by decide +kernel
theorem dX11_restore_103 : decode cX11_restore 103 = .ok (.iload_n 1, 1) := by decide +kernel
theorem dX11_restore_104 : decode cX11_restore 104 = .ok (.aaload, 1) := by decide +kernel
theorem dX11_restore_105 : decode cX11_restore 105 = .ok (.getfield 155, 3) := by decide +kernel
theorem dX11_restore_108 : decode cX11_restore 108 = .ok (.invokevirtual 148, 3) := by decide +kernel
theorem dX11_restore_111 : decode cX11_restore 111 = .ok (.ifCond .ne 13, 3) := by decide +kernel
theorem dX11_restore_114 : decode cX11_restore 114 = .ok (.aload_n 0, 1) := by decide +kernel
theorem dX11_restore_115 : decode cX11_restore 115 = .ok (.getfield 18, 3) := by decide +kernel
theorem dX11_restore_118 : decode cX11_restore 118 = .ok (.iload_n 1, 1) := by decide +kernel
theorem dX11_restore_119 : decode cX11_restore 119 = .ok (.aaload, 1) := by decide +kernel
theorem dX11_restore_120 : decode cX11_restore 120 = .ok (.iconst (-1), 1) := by decide +kernel
theorem dX11_restore_121 : decode cX11_restore 121 = .ok (.invokevirtual 151, 3) := by decide +kernel
theorem dX11_restore_124 : decode cX11_restore 124 = .ok (.iinc 1 1, 3) := by decide +kernel
theorem dX11_restore_127 : decode cX11_restore 127 = .ok (.goto (-50), 3) := by decide +kernel
theorem dX11_restore_130 : decode cX11_restore 130 = .ok (.aload_n 0, 1) := by decide +kernel
theorem dX11_restore_131 : decode cX11_restore 131 = .ok (.invokevirtual 183, 3) := by decide +kernel
theorem dX11_restore_134 : decode cX11_restore 134 = .ok (.aload_n 0, 1) := by decide +kernel
theorem dX11_restore_135 : decode cX11_restore 135 = .ok (.getfield 12, 3) := by decide +kernel
theorem dX11_restore_138 : decode cX11_restore 138 = .ok (.getfield 176, 3) := by decide +kernel
theorem dX11_restore_141 : decode cX11_restore 141 = .ok (.ireturn, 1) := by decide +kernel
theorem dX11_status_0 : decode cX11_status 0 = .ok (.iload_n 1, 1) := by decide +kernel
theorem dX11_status_1 : decode cX11_status 1 = .ok (.bipush 11, 2) := by decide +kernel
theorem dX11_status_3 : decode cX11_status 3 = .ok (.if_icmp .lt 19, 3) := by decide +kernel
theorem dX11_status_6 : decode cX11_status 6 = .ok (.iload_n 1, 1) := by decide +kernel
theorem dX11_status_7 : decode cX11_status 7 = .ok (.bipush 17, 2) := by decide +kernel
theorem dX11_status_9 : decode cX11_status 9 = .ok (.if_icmp .gt 13, 3) := by decide +kernel
theorem dX11_status_12 : decode cX11_status 12 = .ok (.aload_n 0, 1) := by decide +kernel
theorem dX11_status_13 : decode cX11_status 13 = .ok (.getfield 77, 3) := by decide +kernel
theorem dX11_status_16 : decode cX11_status 16 = .ok (.iload_n 1, 1) := by decide +kernel
theorem dX11_status_17 : decode cX11_status 17 = .ok (.bipush 11, 2) := by decide +kernel
theorem dX11_status_19 : decode cX11_status 19 = .ok (.isub, 1) := by decide +kernel
theorem dX11_status_20 : decode cX11_status 20 = .ok (.iaload, 1) := by decide +kernel
theorem dX11_status_21 : decode cX11_status 21 = .ok (.ireturn, 1) := by decide +kernel
theorem dX11_status_22 : decode cX11_status 22 = .ok (.iload_n 1, 1) := by decide +kernel
theorem dX11_status_23 : decode cX11_status 23 = .ok (.tableswitch 82 0 6 #[41, 49, 54, 59, 64, 69, 77], 41) := by decide +kernel
theorem dX11_status_64 : decode cX11_status 64 = .ok (.aload_n 0, 1) := by decide +kernel
theorem dX11_status_65 : decode cX11_status 65 = .ok (.getfield 12, 3) := by decide +kernel
theorem dX11_status_68 : decode cX11_status 68 = .ok (.getfield 176, 3) := by decide +kernel
theorem dX11_status_71 : decode cX11_status 71 = .ok (.ireturn, 1) := by decide +kernel
theorem dX11_status_72 : decode cX11_status 72 = .ok (.aload_n 0, 1) := by decide +kernel
theorem dX11_status_73 : decode cX11_status 73 = .ok (.getfield 88, 3) := by decide +kernel
theorem dX11_status_76 : decode cX11_status 76 = .ok (.ireturn, 1) := by decide +kernel
theorem dX11_status_77 : decode cX11_status 77 = .ok (.aload_n 0, 1) := by decide +kernel
theorem dX11_status_78 : decode cX11_status 78 = .ok (.getfield 91, 3) := by decide +kernel
theorem dX11_status_81 : decode cX11_status 81 = .ok (.ireturn, 1) := by decide +kernel
theorem dX11_status_82 : decode cX11_status 82 = .ok (.aload_n 0, 1) := by decide +kernel
theorem dX11_status_83 : decode cX11_status 83 = .ok (.getfield 94, 3) := by decide +kernel
theorem dX11_status_86 : decode cX11_status 86 = .ok (.ireturn, 1) := by decide +kernel
theorem dX11_status_87 : decode cX11_status 87 = .ok (.aload_n 0, 1) := by decide +kernel
theorem dX11_status_88 : decode cX11_status 88 = .ok (.getfield 97, 3) := by decide +kernel
theorem dX11_status_91 : decode cX11_status 91 = .ok (.ireturn, 1) := by decide +kernel
theorem dX11_status_92 : decode cX11_status 92 = .ok (.aload_n 0, 1) := by decide +kernel
theorem dX11_status_93 : decode cX11_status 93 = .ok (.getfield 12, 3) := by decide +kernel
theorem dX11_status_96 : decode cX11_status 96 = .ok (.invokevirtual 375, 3) := by decide +kernel
theorem dX11_status_99 : decode cX11_status 99 = .ok (.ireturn, 1) := by decide +kernel
theorem dX11_status_100 : decode cX11_status 100 = .ok (.aload_n 0, 1) := by decide +kernel
theorem dX11_status_101 : decode cX11_status 101 = .ok (.getfield 84, 3) := by decide +kernel
theorem dX11_status_104 : decode cX11_status 104 = .ok (.ireturn, 1) := by decide +kernel
theorem dX11_status_105 : decode cX11_status 105 = .ok (.iconst (-1), 1) := by decide +kernel
theorem dX11_status_106 : decode cX11_status 106 = .ok (.ireturn, 1) := by decide +kernel
theorem dX11_isShelf_0 : decode cX11_isShelf 0 = .ok (.iload_n 0, 1) := by decide +kernel
theorem dX11_isShelf_1 : decode cX11_isShelf 1 = .ok (.ifCond .lt 13, 3) := by decide +kernel
theorem dX11_isShelf_4 : decode cX11_isShelf 4 = .ok (.iload_n 0, 1) := by decide +kernel
theorem dX11_isShelf_5 : decode cX11_isShelf 5 = .ok (.bipush 8, 2) := by decide +kernel
theorem dX11_isShelf_7 : decode cX11_isShelf 7 = .ok (.if_icmp .ge 7, 3) := by decide +kernel
theorem dX11_isShelf_10 : decode cX11_isShelf 10 = .ok (.iconst 1, 1) := by decide +kernel
theorem dX11_isShelf_11 : decode cX11_isShelf 11 = .ok (.goto 4, 3) := by decide +kernel
theorem dX11_isShelf_14 : decode cX11_isShelf 14 = .ok (.iconst 0, 1) := by decide +kernel
theorem dX11_isShelf_15 : decode cX11_isShelf 15 = .ok (.ireturn, 1) := by decide +kernel
theorem dX11_isFact_0 : decode cX11_isFact 0 = .ok (.iload_n 0, 1) := by decide +kernel
theorem dX11_isFact_1 : decode cX11_isFact 1 = .ok (.ifCond .lt 13, 3) := by decide +kernel
theorem dX11_isFact_4 : decode cX11_isFact 4 = .ok (.iload_n 0, 1) := by decide +kernel
theorem dX11_isFact_5 : decode cX11_isFact 5 = .ok (.bipush 30, 2) := by decide +kernel
theorem dX11_isFact_7 : decode cX11_isFact 7 = .ok (.if_icmp .ge 7, 3) := by decide +kernel
theorem dX11_isFact_10 : decode cX11_isFact 10 = .ok (.iconst 1, 1) := by decide +kernel
theorem dX11_isFact_11 : decode cX11_isFact 11 = .ok (.goto 4, 3) := by decide +kernel
theorem dX11_isFact_14 : decode cX11_isFact 14 = .ok (.iconst 0, 1) := by decide +kernel
theorem dX11_isFact_15 : decode cX11_isFact 15 = .ok (.ireturn, 1) := by decide +kernel
theorem dX11_isFacts_0 : decode cX11_isFacts 0 = .ok (.iload_n 0, 1) := by decide +kernel
theorem dX11_isFacts_1 : decode cX11_isFacts 1 = .ok (.ldc_w 379, 3) := by decide +kernel
theorem dX11_isFacts_4 : decode cX11_isFacts 4 = .ok (.iand, 1) := by decide +kernel
theorem dX11_isFacts_5 : decode cX11_isFacts 5 = .ok (.ifCond .ne 7, 3) := by decide +kernel
theorem dX11_isFacts_8 : decode cX11_isFacts 8 = .ok (.iconst 1, 1) := by decide +kernel
theorem dX11_isFacts_9 : decode cX11_isFacts 9 = .ok (.goto 4, 3) := by decide +kernel
theorem dX11_isFacts_12 : decode cX11_isFacts 12 = .ok (.iconst 0, 1) := by decide +kernel
theorem dX11_isFacts_13 : decode cX11_isFacts 13 = .ok (.ireturn, 1) := by decide +kernel
theorem dX11_isGuess_0 : decode cX11_isGuess 0 = .ok (.iload_n 0, 1) := by decide +kernel
theorem dX11_isGuess_1 : decode cX11_isGuess 1 = .ok (.ifCond .lt 12, 3) := by decide +kernel
theorem dX11_isGuess_4 : decode cX11_isGuess 4 = .ok (.iload_n 0, 1) := by decide +kernel
theorem dX11_isGuess_5 : decode cX11_isGuess 5 = .ok (.iconst 3, 1) := by decide +kernel
theorem dX11_isGuess_6 : decode cX11_isGuess 6 = .ok (.if_icmp .gt 7, 3) := by decide +kernel
theorem dX11_isGuess_9 : decode cX11_isGuess 9 = .ok (.iconst 1, 1) := by decide +kernel
theorem dX11_isGuess_10 : decode cX11_isGuess 10 = .ok (.goto 4, 3) := by decide +kernel
theorem dX11_isGuess_13 : decode cX11_isGuess 13 = .ok (.iconst 0, 1) := by decide +kernel
theorem dX11_isGuess_14 : decode cX11_isGuess 14 = .ok (.ireturn, 1) := by decide +kernel
theorem dX11_actionBehind_0 : decode cX11_actionBehind 0 = .ok (.iconst 0, 1) := by decide +kernel
theorem dX11_actionBehind_1 : decode cX11_actionBehind 1 = .ok (.istore_n 2, 1) := by decide +kernel
theorem dX11_actionBehind_2 : decode cX11_actionBehind 2 = .ok (.iconst 0, 1) := by decide +kernel
theorem dX11_actionBehind_3 : decode cX11_actionBehind 3 = .ok (.istore_n 3, 1) := by decide +kernel
theorem dX11_actionBehind_4 : decode cX11_actionBehind 4 = .ok (.iload_n 3, 1) := by decide +kernel
theorem dX11_actionBehind_5 : decode cX11_actionBehind 5 = .ok (.bipush 24, 2) := by decide +kernel
theorem dX11_actionBehind_7 : decode cX11_actionBehind 7 = .ok (.if_icmp .ge 27, 3) := by decide +kernel
theorem dX11_actionBehind_10 : decode cX11_actionBehind 10 = .ok (.iload_n 0, 1) := by decide +kernel
theorem dX11_actionBehind_11 : decode cX11_actionBehind 11 = .ok (.iconst 1, 1) := by decide +kernel
theorem dX11_actionBehind_12 : decode cX11_actionBehind 12 = .ok (.iload_n 3, 1) := by decide +kernel
theorem dX11_actionBehind_13 : decode cX11_actionBehind 13 = .ok (.ishl, 1) := by decide +kernel
theorem dX11_actionBehind_14 : decode cX11_actionBehind 14 = .ok (.iand, 1) := by decide +kernel
theorem dX11_actionBehind_15 : decode cX11_actionBehind 15 = .ok (.ifCond .eq 13, 3) := by decide +kernel
theorem dX11_actionBehind_18 : decode cX11_actionBehind 18 = .ok (.iload_n 2, 1) := by decide +kernel
theorem dX11_actionBehind_19 : decode cX11_actionBehind 19 = .ok (.iload_n 1, 1) := by decide +kernel
theorem dX11_actionBehind_20 : decode cX11_actionBehind 20 = .ok (.if_icmp .ne 5, 3) := by decide +kernel
theorem dX11_actionBehind_23 : decode cX11_actionBehind 23 = .ok (.iload_n 3, 1) := by decide +kernel
theorem dX11_actionBehind_24 : decode cX11_actionBehind 24 = .ok (.ireturn, 1) := by decide +kernel
theorem dX11_actionBehind_25 : decode cX11_actionBehind 25 = .ok (.iinc 2 1, 3) := by decide +kernel
theorem dX11_actionBehind_28 : decode cX11_actionBehind 28 = .ok (.iinc 3 1, 3) := by decide +kernel
theorem dX11_actionBehind_31 : decode cX11_actionBehind 31 = .ok (.goto (-27), 3) := by decide +kernel
theorem dX11_actionBehind_34 : decode cX11_actionBehind 34 = .ok (.iconst (-1), 1) := by decide +kernel
theorem dX11_actionBehind_35 : decode cX11_actionBehind 35 = .ok (.ireturn, 1) := by decide +kernel
theorem dX11_refuse_0 : decode cX11_refuse 0 = .ok (.iload_n 1, 1) := by decide +kernel
theorem dX11_refuse_1 : decode cX11_refuse 1 = .ok (.ineg, 1) := by decide +kernel
theorem dX11_refuse_2 : decode cX11_refuse 2 = .ok (.iconst 1, 1) := by decide +kernel
theorem dX11_refuse_3 : decode cX11_refuse 3 = .ok (.isub, 1) := by decide +kernel
theorem dX11_refuse_4 : decode cX11_refuse 4 = .ok (.istore_n 2, 1) := by decide +kernel
theorem dX11_refuse_5 : decode cX11_refuse 5 = .ok (.iload_n 2, 1) := by decide +kernel
theorem dX11_refuse_6 : decode cX11_refuse 6 = .ok (.ifCond .lt 19, 3) := by decide +kernel
theorem dX11_refuse_9 : decode cX11_refuse 9 = .ok (.iload_n 2, 1) := by decide +kernel
theorem dX11_refuse_10 : decode cX11_refuse 10 = .ok (.bipush 7, 2) := by decide +kernel
theorem dX11_refuse_12 : decode cX11_refuse 12 = .ok (.if_icmp .ge 13, 3) := by decide +kernel
theorem dX11_refuse_15 : decode cX11_refuse 15 = .ok (.aload_n 0, 1) := by decide +kernel
theorem dX11_refuse_16 : decode cX11_refuse 16 = .ok (.getfield 77, 3) := by decide +kernel
theorem dX11_refuse_19 : decode cX11_refuse 19 = .ok (.iload_n 2, 1) := by decide +kernel
theorem dX11_refuse_20 : decode cX11_refuse 20 = .ok (.dup2, 1) := by decide +kernel
theorem dX11_refuse_21 : decode cX11_refuse 21 = .ok (.iaload, 1) := by decide +kernel
theorem dX11_refuse_22 : decode cX11_refuse 22 = .ok (.iconst 1, 1) := by decide +kernel
theorem dX11_refuse_23 : decode cX11_refuse 23 = .ok (.iadd, 1) := by decide +kernel
theorem dX11_refuse_24 : decode cX11_refuse 24 = .ok (.iastore, 1) := by decide +kernel
theorem dX11_refuse_25 : decode cX11_refuse 25 = .ok (.iload_n 1, 1) := by decide +kernel
theorem dX11_refuse_26 : decode cX11_refuse 26 = .ok (.ireturn, 1) := by decide +kernel
theorem dX11_refuseShifted_0 : decode cX11_refuseShifted 0 = .ok (.aload_n 0, 1) := by decide +kernel
theorem dX11_refuseShifted_1 : decode cX11_refuseShifted 1 = .ok (.iload_n 1, 1) := by decide +kernel
theorem dX11_refuseShifted_2 : decode cX11_refuseShifted 2 = .ok (.invokevirtual 108, 3) := by decide +kernel
theorem dX11_refuseShifted_5 : decode cX11_refuseShifted 5 = .ok (.bipush (-10), 2) := by decide +kernel
theorem dX11_refuseShifted_7 : decode cX11_refuseShifted 7 = .ok (.iadd, 1) := by decide +kernel
theorem dX11_refuseShifted_8 : decode cX11_refuseShifted 8 = .ok (.ireturn, 1) := by decide +kernel
theorem dX11_refusalOfRow_0 : decode cX11_refusalOfRow 0 = .ok (.iload_n 1, 1) := by decide +kernel
theorem dX11_refusalOfRow_1 : decode cX11_refusalOfRow 1 = .ok (.invokestatic 104, 3) := by decide +kernel
theorem dX11_refusalOfRow_4 : decode cX11_refusalOfRow 4 = .ok (.ifCond .ne 5, 3) := by decide +kernel
theorem dX11_refusalOfRow_7 : decode cX11_refusalOfRow 7 = .ok (.iconst (-1), 1) := by decide +kernel
theorem dX11_refusalOfRow_8 : decode cX11_refusalOfRow 8 = .ok (.ireturn, 1) := by decide +kernel
theorem dX11_refusalOfRow_9 : decode cX11_refusalOfRow 9 = .ok (.aload_n 0, 1) := by decide +kernel
theorem dX11_refusalOfRow_10 : decode cX11_refusalOfRow 10 = .ok (.getfield 18, 3) := by decide +kernel
theorem dX11_refusalOfRow_13 : decode cX11_refusalOfRow 13 = .ok (.iload_n 1, 1) := by decide +kernel
theorem dX11_refusalOfRow_14 : decode cX11_refusalOfRow 14 = .ok (.aaload, 1) := by decide +kernel
theorem dX11_refusalOfRow_15 : decode cX11_refusalOfRow 15 = .ok (.invokevirtual 372, 3) := by decide +kernel
theorem dX11_refusalOfRow_18 : decode cX11_refusalOfRow 18 = .ok (.ifCond .eq 6, 3) := by decide +kernel
theorem dX11_refusalOfRow_21 : decode cX11_refusalOfRow 21 = .ok (.bipush (-2), 2) := by decide +kernel
theorem dX11_refusalOfRow_23 : decode cX11_refusalOfRow 23 = .ok (.ireturn, 1) := by decide +kernel
theorem dX11_refusalOfRow_24 : decode cX11_refusalOfRow 24 = .ok (.aload_n 0, 1) := by decide +kernel
theorem dX11_refusalOfRow_25 : decode cX11_refusalOfRow 25 = .ok (.getfield 18, 3) := by decide +kernel
theorem dX11_refusalOfRow_28 : decode cX11_refusalOfRow 28 = .ok (.iload_n 1, 1) := by decide +kernel
theorem dX11_refusalOfRow_29 : decode cX11_refusalOfRow 29 = .ok (.aaload, 1) := by decide +kernel
theorem dX11_refusalOfRow_30 : decode cX11_refusalOfRow 30 = .ok (.invokevirtual 380, 3) := by decide +kernel
theorem dX11_refusalOfRow_33 : decode cX11_refusalOfRow 33 = .ok (.ifCond .eq 7, 3) := by decide +kernel
theorem dX11_refusalOfRow_36 : decode cX11_refusalOfRow 36 = .ok (.iconst 0, 1) := by decide +kernel
theorem dX11_refusalOfRow_37 : decode cX11_refusalOfRow 37 = .ok (.goto 5, 3) := by decide +kernel
theorem dX11_refusalOfRow_40 : decode cX11_refusalOfRow 40 = .ok (.bipush (-3), 2) := by decide +kernel
theorem dX11_refusalOfRow_42 : decode cX11_refusalOfRow 42 = .ok (.ireturn, 1) := by decide +kernel
theorem dX11_refusalOfTwoRows_0 : decode cX11_refusalOfTwoRows 0 = .ok (.aload_n 0, 1) := by decide +kernel
theorem dX11_refusalOfTwoRows_1 : decode cX11_refusalOfTwoRows 1 = .ok (.iload_n 1, 1) := by decide +kernel
theorem dX11_refusalOfTwoRows_2 : decode cX11_refusalOfTwoRows 2 = .ok (.invokevirtual 116, 3) := by decide +kernel
theorem dX11_refusalOfTwoRows_5 : decode cX11_refusalOfTwoRows 5 = .ok (.istore_n 3, 1) := by decide +kernel
theorem dX11_refusalOfTwoRows_6 : decode cX11_refusalOfTwoRows 6 = .ok (.aload_n 0, 1) := by decide +kernel
theorem dX11_refusalOfTwoRows_7 : decode cX11_refusalOfTwoRows 7 = .ok (.iload_n 2, 1) := by decide +kernel
theorem dX11_refusalOfTwoRows_8 : decode cX11_refusalOfTwoRows 8 = .ok (.invokevirtual 116, 3) := by decide +kernel
theorem dX11_refusalOfTwoRows_11 : decode cX11_refusalOfTwoRows 11 = .ok (.istore 4, 2) := by decide +kernel
theorem dX11_refusalOfTwoRows_13 : decode cX11_refusalOfTwoRows 13 = .ok (.iload_n 3, 1) := by decide +kernel
theorem dX11_refusalOfTwoRows_14 : decode cX11_refusalOfTwoRows 14 = .ok (.iconst (-1), 1) := by decide +kernel
theorem dX11_refusalOfTwoRows_15 : decode cX11_refusalOfTwoRows 15 = .ok (.if_icmp .eq 9, 3) := by decide +kernel
theorem dX11_refusalOfTwoRows_18 : decode cX11_refusalOfTwoRows 18 = .ok (.iload 4, 2) := by decide +kernel
theorem dX11_refusalOfTwoRows_20 : decode cX11_refusalOfTwoRows 20 = .ok (.iconst (-1), 1) := by decide +kernel
theorem dX11_refusalOfTwoRows_21 : decode cX11_refusalOfTwoRows 21 = .ok (.if_icmp .ne 5, 3) := by decide +kernel
theorem dX11_refusalOfTwoRows_24 : decode cX11_refusalOfTwoRows 24 = .ok (.iconst (-1), 1) := by decide +kernel
theorem dX11_refusalOfTwoRows_25 : decode cX11_refusalOfTwoRows 25 = .ok (.ireturn, 1) := by decide +kernel
theorem dX11_refusalOfTwoRows_26 : decode cX11_refusalOfTwoRows 26 = .ok (.iload_n 3, 1) := by decide +kernel
theorem dX11_refusalOfTwoRows_27 : decode cX11_refusalOfTwoRows 27 = .ok (.bipush (-2), 2) := by decide +kernel
theorem dX11_refusalOfTwoRows_29 : decode cX11_refusalOfTwoRows 29 = .ok (.if_icmp .eq 10, 3) := by decide +kernel
theorem dX11_refusalOfTwoRows_32 : decode cX11_refusalOfTwoRows 32 = .ok (.iload 4, 2) := by decide +kernel
theorem dX11_refusalOfTwoRows_34 : decode cX11_refusalOfTwoRows 34 = .ok (.bipush (-2), 2) := by decide +kernel
theorem dX11_refusalOfTwoRows_36 : decode cX11_refusalOfTwoRows 36 = .ok (.if_icmp .ne 6, 3) := by decide +kernel
theorem dX11_refusalOfTwoRows_39 : decode cX11_refusalOfTwoRows 39 = .ok (.bipush (-2), 2) := by decide +kernel
theorem dX11_refusalOfTwoRows_41 : decode cX11_refusalOfTwoRows 41 = .ok (.ireturn, 1) := by decide +kernel
theorem dX11_refusalOfTwoRows_42 : decode cX11_refusalOfTwoRows 42 = .ok (.iload_n 3, 1) := by decide +kernel
theorem dX11_refusalOfTwoRows_43 : decode cX11_refusalOfTwoRows 43 = .ok (.bipush (-3), 2) := by decide +kernel
theorem dX11_refusalOfTwoRows_45 : decode cX11_refusalOfTwoRows 45 = .ok (.if_icmp .eq 10, 3) := by decide +kernel
theorem dX11_refusalOfTwoRows_48 : decode cX11_refusalOfTwoRows 48 = .ok (.iload 4, 2) := by decide +kernel
theorem dX11_refusalOfTwoRows_50 : decode cX11_refusalOfTwoRows 50 = .ok (.bipush (-3), 2) := by decide +kernel
theorem dX11_refusalOfTwoRows_52 : decode cX11_refusalOfTwoRows 52 = .ok (.if_icmp .ne 6, 3) := by decide +kernel
theorem dX11_refusalOfTwoRows_55 : decode cX11_refusalOfTwoRows 55 = .ok (.bipush (-3), 2) := by decide +kernel
theorem dX11_refusalOfTwoRows_57 : decode cX11_refusalOfTwoRows 57 = .ok (.ireturn, 1) := by decide +kernel
theorem dX11_refusalOfTwoRows_58 : decode cX11_refusalOfTwoRows 58 = .ok (.aload_n 0, 1) := by decide +kernel
theorem dX11_refusalOfTwoRows_59 : decode cX11_refusalOfTwoRows 59 = .ok (.getfield 18, 3) := by decide +kernel
theorem dX11_refusalOfTwoRows_62 : decode cX11_refusalOfTwoRows 62 = .ok (.iload_n 1, 1) := by decide +kernel
theorem dX11_refusalOfTwoRows_63 : decode cX11_refusalOfTwoRows 63 = .ok (.aaload, 1) := by decide +kernel
theorem dX11_refusalOfTwoRows_64 : decode cX11_refusalOfTwoRows 64 = .ok (.getfield 155, 3) := by decide +kernel
theorem dX11_refusalOfTwoRows_67 : decode cX11_refusalOfTwoRows 67 = .ok (.aload_n 0, 1) := by decide +kernel
theorem dX11_refusalOfTwoRows_68 : decode cX11_refusalOfTwoRows 68 = .ok (.getfield 18, 3) := by decide +kernel
theorem dX11_refusalOfTwoRows_71 : decode cX11_refusalOfTwoRows 71 = .ok (.iload_n 2, 1) := by decide +kernel
theorem dX11_refusalOfTwoRows_72 : decode cX11_refusalOfTwoRows 72 = .ok (.aaload, 1) := by decide +kernel
theorem dX11_refusalOfTwoRows_73 : decode cX11_refusalOfTwoRows 73 = .ok (.getfield 155, 3) := by decide +kernel
theorem dX11_refusalOfTwoRows_76 : decode cX11_refusalOfTwoRows 76 = .ok (.if_icmp .ne 7, 3) := by decide +kernel
theorem dX11_refusalOfTwoRows_79 : decode cX11_refusalOfTwoRows 79 = .ok (.iconst 0, 1) := by decide +kernel
theorem dX11_refusalOfTwoRows_80 : decode cX11_refusalOfTwoRows 80 = .ok (.goto 5, 3) := by decide +kernel
theorem dX11_refusalOfTwoRows_83 : decode cX11_refusalOfTwoRows 83 = .ok (.bipush (-2), 2) := by decide +kernel
theorem dX11_refusalOfTwoRows_85 : decode cX11_refusalOfTwoRows 85 = .ok (.ireturn, 1) := by decide +kernel
theorem dX11_refusalOfTold_0 : decode cX11_refusalOfTold 0 = .ok (.aload_n 0, 1) := by decide +kernel
theorem dX11_refusalOfTold_1 : decode cX11_refusalOfTold 1 = .ok (.iload_n 1, 1) := by decide +kernel
theorem dX11_refusalOfTold_2 : decode cX11_refusalOfTold 2 = .ok (.invokevirtual 116, 3) := by decide +kernel
theorem dX11_refusalOfTold_5 : decode cX11_refusalOfTold 5 = .ok (.istore_n 3, 1) := by decide +kernel
theorem dX11_refusalOfTold_6 : decode cX11_refusalOfTold 6 = .ok (.iload_n 3, 1) := by decide +kernel
theorem dX11_refusalOfTold_7 : decode cX11_refusalOfTold 7 = .ok (.ifCond .eq 5, 3) := by decide +kernel
theorem dX11_refusalOfTold_10 : decode cX11_refusalOfTold 10 = .ok (.iload_n 3, 1) := by decide +kernel
theorem dX11_refusalOfTold_11 : decode cX11_refusalOfTold 11 = .ok (.ireturn, 1) := by decide +kernel
theorem dX11_refusalOfTold_12 : decode cX11_refusalOfTold 12 = .ok (.iload_n 2, 1) := by decide +kernel
theorem dX11_refusalOfTold_13 : decode cX11_refusalOfTold 13 = .ok (.ifCond .ge 6, 3) := by decide +kernel
theorem dX11_refusalOfTold_16 : decode cX11_refusalOfTold 16 = .ok (.bipush (-4), 2) := by decide +kernel
theorem dX11_refusalOfTold_18 : decode cX11_refusalOfTold 18 = .ok (.ireturn, 1) := by decide +kernel
theorem dX11_refusalOfTold_19 : decode cX11_refusalOfTold 19 = .ok (.iload_n 2, 1) := by decide +kernel
theorem dX11_refusalOfTold_20 : decode cX11_refusalOfTold 20 = .ok (.aload_n 0, 1) := by decide +kernel
theorem dX11_refusalOfTold_21 : decode cX11_refusalOfTold 21 = .ok (.getfield 18, 3) := by decide +kernel
theorem dX11_refusalOfTold_24 : decode cX11_refusalOfTold 24 = .ok (.iload_n 1, 1) := by decide +kernel
theorem dX11_refusalOfTold_25 : decode cX11_refusalOfTold 25 = .ok (.aaload, 1) := by decide +kernel
theorem dX11_refusalOfTold_26 : decode cX11_refusalOfTold 26 = .ok (.getfield 310, 3) := by decide +kernel
theorem dX11_refusalOfTold_29 : decode cX11_refusalOfTold 29 = .ok (.if_icmp .le 8, 3) := by decide +kernel
theorem dX11_refusalOfTold_32 : decode cX11_refusalOfTold 32 = .ok (.bipush (-5), 2) := by decide +kernel
theorem dX11_refusalOfTold_34 : decode cX11_refusalOfTold 34 = .ok (.goto 4, 3) := by decide +kernel
theorem dX11_refusalOfTold_37 : decode cX11_refusalOfTold 37 = .ok (.iconst 0, 1) := by decide +kernel
theorem dX11_refusalOfTold_38 : decode cX11_refusalOfTold 38 = .ok (.ireturn, 1) := by decide +kernel
theorem dX11_isTooMany_0 : decode cX11_isTooMany 0 = .ok (.aload_n 0, 1) := by decide +kernel
theorem dX11_isTooMany_1 : decode cX11_isTooMany 1 = .ok (.getfield 43, 3) := by decide +kernel
theorem dX11_isTooMany_4 : decode cX11_isTooMany 4 = .ok (.aload_n 0, 1) := by decide +kernel
theorem dX11_isTooMany_5 : decode cX11_isTooMany 5 = .ok (.getfield 88, 3) := by decide +kernel
theorem dX11_isTooMany_8 : decode cX11_isTooMany 8 = .ok (.invokevirtual 383, 3) := by decide +kernel
theorem dX11_isTooMany_11 : decode cX11_isTooMany 11 = .ok (.aload_n 0, 1) := by decide +kernel
theorem dX11_isTooMany_12 : decode cX11_isTooMany 12 = .ok (.getfield 43, 3) := by decide +kernel
theorem dX11_isTooMany_15 : decode cX11_isTooMany 15 = .ok (.getfield 386, 3) := by decide +kernel
theorem dX11_isTooMany_18 : decode cX11_isTooMany 18 = .ok (.ireturn, 1) := by decide +kernel
theorem dX11_forgetSearch_0 : decode cX11_forgetSearch 0 = .ok (.aload_n 0, 1) := by decide +kernel
theorem dX11_forgetSearch_1 : decode cX11_forgetSearch 1 = .ok (.getfield 43, 3) := by decide +kernel
theorem dX11_forgetSearch_4 : decode cX11_forgetSearch 4 = .ok (.iconst 0, 1) := by decide +kernel
theorem dX11_forgetSearch_5 : decode cX11_forgetSearch 5 = .ok (.putfield 389, 3) := by decide +kernel
theorem dX11_forgetSearch_8 : decode cX11_forgetSearch 8 = .ok (.aload_n 0, 1) := by decide +kernel
theorem dX11_forgetSearch_9 : decode cX11_forgetSearch 9 = .ok (.getfield 52, 3) := by decide +kernel
theorem dX11_forgetSearch_12 : decode cX11_forgetSearch 12 = .ok (.invokevirtual 392, 3) := by decide +kernel
theorem dX11_forgetSearch_15 : decode cX11_forgetSearch 15 = .ok (.return_, 1) := by decide +kernel
theorem dX11_step_0 : decode cX11_step 0 = .ok (.aload_n 0, 1) := by decide +kernel
theorem dX11_step_1 : decode cX11_step 1 = .ok (.getfield 12, 3) := by decide +kernel
theorem dX11_step_4 : decode cX11_step 4 = .ok (.iload_n 1, 1) := by decide +kernel
theorem dX11_step_5 : decode cX11_step 5 = .ok (.invokevirtual 148, 3) := by decide +kernel
theorem dX11_step_8 : decode cX11_step 8 = .ok (.ifCond .eq 48, 3) := by decide +kernel
theorem dX11_step_11 : decode cX11_step 11 = .ok (.aload_n 0, 1) := by decide +kernel
theorem dX11_step_12 : decode cX11_step 12 = .ok (.getfield 84, 3) := by decide +kernel
theorem dX11_step_15 : decode cX11_step 15 = .ok (.bipush 40, 2) := by decide +kernel
theorem dX11_step_17 : decode cX11_step 17 = .ok (.if_icmp .ge 39, 3) := by decide +kernel
theorem dX11_step_20 : decode cX11_step 20 = .ok (.aload_n 0, 1) := by decide +kernel
theorem dX11_step_21 : decode cX11_step 21 = .ok (.aload_n 0, 1) := by decide +kernel
theorem dX11_step_22 : decode cX11_step 22 = .ok (.getfield 12, 3) := by decide +kernel
theorem dX11_step_25 : decode cX11_step 25 = .ok (.aload_n 0, 1) := by decide +kernel
theorem dX11_step_26 : decode cX11_step 26 = .ok (.getfield 94, 3) := by decide +kernel
theorem dX11_step_29 : decode cX11_step 29 = .ok (.iload_n 1, 1) := by decide +kernel
theorem dX11_step_30 : decode cX11_step 30 = .ok (.invokevirtual 230, 3) := by decide +kernel
theorem dX11_step_33 : decode cX11_step 33 = .ok (.putfield 94, 3) := by decide +kernel
theorem dX11_step_36 : decode cX11_step 36 = .ok (.aload_n 0, 1) := by decide +kernel
theorem dX11_step_37 : decode cX11_step 37 = .ok (.getfield 81, 3) := by decide +kernel
theorem dX11_step_40 : decode cX11_step 40 = .ok (.aload_n 0, 1) := by decide +kernel
theorem dX11_step_41 : decode cX11_step 41 = .ok (.getfield 84, 3) := by decide +kernel
theorem dX11_step_44 : decode cX11_step 44 = .ok (.iload_n 1, 1) := by decide +kernel
theorem dX11_step_45 : decode cX11_step 45 = .ok (.iastore, 1) := by decide +kernel
theorem dX11_step_46 : decode cX11_step 46 = .ok (.aload_n 0, 1) := by decide +kernel
theorem dX11_step_47 : decode cX11_step 47 = .ok (.dup, 1) := by decide +kernel
theorem dX11_step_48 : decode cX11_step 48 = .ok (.getfield 84, 3) := by decide +kernel
theorem dX11_step_51 : decode cX11_step 51 = .ok (.iconst 1, 1) := by decide +kernel
theorem dX11_step_52 : decode cX11_step 52 = .ok (.iadd, 1) := by decide +kernel
theorem dX11_step_53 : decode cX11_step 53 = .ok (.putfield 84, 3) := by decide +kernel
theorem dX11_step_56 : decode cX11_step 56 = .ok (.return_, 1) := by decide +kernel
theorem dX11_draw_0 : decode cX11_draw 0 = .ok (.aload_n 0, 1) := by decide +kernel
theorem dX11_draw_1 : decode cX11_draw 1 = .ok (.aload_n 0, 1) := by decide +kernel
theorem dX11_draw_2 : decode cX11_draw 2 = .ok (.getfield 97, 3) := by decide +kernel
theorem dX11_draw_5 : decode cX11_draw 5 = .ok (.ldc_w 395, 3) := by decide +kernel
theorem dX11_draw_8 : decode cX11_draw 8 = .ok (.imul, 1) := by decide +kernel
theorem dX11_draw_9 : decode cX11_draw 9 = .ok (.sipush 12345, 3) := by decide +kernel
theorem dX11_draw_12 : decode cX11_draw 12 = .ok (.iadd, 1) := by decide +kernel
theorem dX11_draw_13 : decode cX11_draw 13 = .ok (.putfield 97, 3) := by decide +kernel
theorem dX11_draw_16 : decode cX11_draw 16 = .ok (.iload_n 1, 1) := by decide +kernel
theorem dX11_draw_17 : decode cX11_draw 17 = .ok (.ifCond .le 15, 3) := by decide +kernel
theorem dX11_draw_20 : decode cX11_draw 20 = .ok (.aload_n 0, 1) := by decide +kernel
theorem dX11_draw_21 : decode cX11_draw 21 = .ok (.getfield 97, 3) := by decide +kernel
theorem dX11_draw_24 : decode cX11_draw 24 = .ok (.bipush 16, 2) := by decide +kernel
theorem dX11_draw_26 : decode cX11_draw 26 = .ok (.iushr, 1) := by decide +kernel
theorem dX11_draw_27 : decode cX11_draw 27 = .ok (.iload_n 1, 1) := by decide +kernel
theorem dX11_draw_28 : decode cX11_draw 28 = .ok (.irem, 1) := by decide +kernel
theorem dX11_draw_29 : decode cX11_draw 29 = .ok (.goto 4, 3) := by decide +kernel
theorem dX11_draw_32 : decode cX11_draw 32 = .ok (.iconst 0, 1) := by decide +kernel
theorem dX11_draw_33 : decode cX11_draw 33 = .ok (.ireturn, 1) := by decide +kernel
