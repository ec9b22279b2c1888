theorem dX0_init_0 : decode cX0_init 0 = .ok (.aload_n 0, 1) := by decide +kernel
theorem dX0_init_1 : decode cX0_init 1 = .ok (.invokespecial 3, 3) := by decide +kernel
theorem dX0_init_4 : decode cX0_init 4 = .ok (.aload_n 0, 1) := by decide +kernel
theorem dX0_init_5 : decode cX0_init 5 = .ok (.bipush 20, 2) := by decide +kernel
theorem dX0_init_7 : decode cX0_init 7 = .ok (.newarray .int, 2) := by decide +kernel
theorem dX0_init_9 : decode cX0_init 9 = .ok (.putfield 9, 3) := by decide +kernel
theorem dX0_init_12 : decode cX0_init 12 = .ok (.aload_n 0, 1) := by decide +kernel
theorem dX0_init_13 : decode cX0_init 13 = .ok (.bipush 20, 2) := by decide +kernel
theorem dX0_init_15 : decode cX0_init 15 = .ok (.newarray .int, 2) := by decide +kernel
theorem dX0_init_17 : decode cX0_init 17 = .ok (.putfield 15, 3) := by decide +kernel
theorem dX0_init_20 : decode cX0_init 20 = .ok (.aload_n 0, 1) := by decide +kernel
theorem dX0_init_21 : decode cX0_init 21 = .ok (.bipush 20, 2) := by decide +kernel
theorem dX0_init_23 : decode cX0_init 23 = .ok (.newarray .int, 2) := by decide +kernel
theorem dX0_init_25 : decode cX0_init 25 = .ok (.putfield 18, 3) := by decide +kernel
theorem dX0_init_28 : decode cX0_init 28 = .ok (.aload_n 0, 1) := by decide +kernel
theorem dX0_init_29 : decode cX0_init 29 = .ok (.iconst 0, 1) := by decide +kernel
theorem dX0_init_30 : decode cX0_init 30 = .ok (.putfield 21, 3) := by decide +kernel
theorem dX0_init_33 : decode cX0_init 33 = .ok (.return_, 1) := by decide +kernel
theorem dX0_note_0 : decode cX0_note 0 = .ok (.aload_n 0, 1) := by decide +kernel
theorem dX0_note_1 : decode cX0_note 1 = .ok (.getfield 21, 3) := by decide +kernel
theorem dX0_note_4 : decode cX0_note 4 = .ok (.bipush 20, 2) := by decide +kernel
theorem dX0_note_6 : decode cX0_note 6 = .ok (.if_icmp .lt 7, 3) := by decide +kernel
theorem dX0_note_9 : decode cX0_note 9 = .ok (.aload_n 0, 1) := by decide +kernel
theorem dX0_note_10 : decode cX0_note 10 = .ok (.invokevirtual 25, 3) := by decide +kernel
theorem dX0_note_13 : decode cX0_note 13 = .ok (.aload_n 0, 1) := by decide +kernel
theorem dX0_note_14 : decode cX0_note 14 = .ok (.getfield 9, 3) := by decide +kernel
theorem dX0_note_17 : decode cX0_note 17 = .ok (.aload_n 0, 1) := by decide +kernel
theorem dX0_note_18 : decode cX0_note 18 = .ok (.getfield 21, 3) := by decide +kernel
theorem dX0_note_21 : decode cX0_note 21 = .ok (.iload_n 1, 1) := by decide +kernel
theorem dX0_note_22 : decode cX0_note 22 = .ok (.iastore, 1) := by decide +kernel
theorem dX0_note_23 : decode cX0_note 23 = .ok (.aload_n 0, 1) := by decide +kernel
theorem dX0_note_24 : decode cX0_note 24 = .ok (.getfield 15, 3) := by decide +kernel
theorem dX0_note_27 : decode cX0_note 27 = .ok (.aload_n 0, 1) := by decide +kernel
theorem dX0_note_28 : decode cX0_note 28 = .ok (.getfield 21, 3) := by decide +kernel
theorem dX0_note_31 : decode cX0_note 31 = .ok (.iload_n 2, 1) := by decide +kernel
theorem dX0_note_32 : decode cX0_note 32 = .ok (.iastore, 1) := by decide +kernel
theorem dX0_note_33 : decode cX0_note 33 = .ok (.aload_n 0, 1) := by decide +kernel
theorem dX0_note_34 : decode cX0_note 34 = .ok (.getfield 18, 3) := by decide +kernel
theorem dX0_note_37 : decode cX0_note 37 = .ok (.aload_n 0, 1) := by decide +kernel
theorem dX0_note_38 : decode cX0_note 38 = .ok (.getfield 21, 3) := by decide +kernel
theorem dX0_note_41 : decode cX0_note 41 = .ok (.iload_n 3, 1) := by decide +kernel
theorem dX0_note_42 : decode cX0_note 42 = .ok (.iastore, 1) := by decide +kernel
theorem dX0_note_43 : decode cX0_note 43 = .ok (.aload_n 0, 1) := by decide +kernel
theorem dX0_note_44 : decode cX0_note 44 = .ok (.dup, 1) := by decide +kernel
theorem dX0_note_45 : decode cX0_note 45 = .ok (.getfield 21, 3) := by decide +kernel
theorem dX0_note_48 : decode cX0_note 48 = .ok (.iconst 1, 1) := by decide +kernel
theorem dX0_note_49 : decode cX0_note 49 = .ok (.iadd, 1) := by decide +kernel
theorem dX0_note_50 : decode cX0_note 50 = .ok (.putfield 21, 3) := by decide +kernel
theorem dX0_note_53 : decode cX0_note 53 = .ok (.return_, 1) := by decide +kernel
theorem dX0_forgetOldest_0 : decode cX0_forgetOldest 0 = .ok (.aload_n 0, 1) := by decide +kernel
theorem dX0_forgetOldest_1 : decode cX0_forgetOldest 1 = .ok (.bipush 19, 2) := by decide +kernel
theorem dX0_forgetOldest_3 : decode cX0_forgetOldest 3 = .ok (.putfield 21, 3) := by decide +kernel
theorem dX0_forgetOldest_6 : decode cX0_forgetOldest 6 = .ok (.iconst 0, 1) := by decide +kernel
theorem dX0_forgetOldest_7 : decode cX0_forgetOldest 7 = .ok (.istore_n 1, 1) := by decide +kernel
theorem dX0_forgetOldest_8 : decode cX0_forgetOldest 8 = .ok (.iload_n 1, 1) := by decide +kernel
theorem dX0_forgetOldest_9 : decode cX0_forgetOldest 9 = .ok (.aload_n 0, 1) := by decide +kernel
theorem dX0_forgetOldest_10 : decode cX0_forgetOldest 10 = .ok (.getfield 21, 3) := by decide +kernel
theorem dX0_forgetOldest_13 : decode cX0_forgetOldest 13 = .ok (.if_icmp .ge 51, 3) := by decide +kernel
theorem dX0_forgetOldest_16 : decode cX0_forgetOldest 16 = .ok (.aload_n 0, 1) := by decide +kernel
theorem dX0_forgetOldest_17 : decode cX0_forgetOldest 17 = .ok (.getfield 9, 3) := by decide +kernel
theorem dX0_forgetOldest_20 : decode cX0_forgetOldest 20 = .ok (.iload_n 1, 1) := by decide +kernel
theorem dX0_forgetOldest_21 : decode cX0_forgetOldest 21 = .ok (.aload_n 0, 1) := by decide +kernel
theorem dX0_forgetOldest_22 : decode cX0_forgetOldest 22 = .ok (.getfield 9, 3) := by decide +kernel
theorem dX0_forgetOldest_25 : decode cX0_forgetOldest 25 = .ok (.iload_n 1, 1) := by decide +kernel
theorem dX0_forgetOldest_26 : decode cX0_forgetOldest 26 = .ok (.iconst 1, 1) := by decide +kernel
theorem dX0_forgetOldest_27 : decode cX0_forgetOldest 27 = .ok (.iadd, 1) := by decide +kernel
theorem dX0_forgetOldest_28 : decode cX0_forgetOldest 28 = .ok (.iaload, 1) := by decide +kernel
theorem dX0_forgetOldest_29 : decode cX0_forgetOldest 29 = .ok (.iastore, 1) := by decide +kernel
theorem dX0_forgetOldest_30 : decode cX0_forgetOldest 30 = .ok (.aload_n 0, 1) := by decide +kernel
theorem dX0_forgetOldest_31 : decode cX0_forgetOldest 31 = .ok (.getfield 15, 3) := by decide +kernel
theorem dX0_forgetOldest_34 : decode cX0_forgetOldest 34 = .ok (.iload_n 1, 1) := by decide +kernel
theorem dX0_forgetOldest_35 : decode cX0_forgetOldest 35 = .ok (.aload_n 0, 1) := by decide +kernel
theorem dX0_forgetOldest_36 : decode cX0_forgetOldest 36 = .ok (.getfield 15, 3) := by decide +kernel
theorem dX0_forgetOldest_39 : decode cX0_forgetOldest 39 = .ok (.iload_n 1, 1) := by decide +kernel
theorem dX0_forgetOldest_40 : decode cX0_forgetOldest 40 = .ok (.iconst 1, 1) := by decide +kernel
theorem dX0_forgetOldest_41 : decode cX0_forgetOldest 41 = .ok (.iadd, 1) := by decide +kernel
theorem dX0_forgetOldest_42 : decode cX0_forgetOldest 42 = .ok (.iaload, 1) := by decide +kernel
theorem dX0_forgetOldest_43 : decode cX0_forgetOldest 43 = .ok (.iastore, 1) := by decide +kernel
theorem dX0_forgetOldest_44 : decode cX0_forgetOldest 44 = .ok (.aload_n 0, 1) := by decide +kernel
theorem dX0_forgetOldest_45 : decode cX0_forgetOldest 45 = .ok (.getfield 18, 3) := by decide +kernel
theorem dX0_forgetOldest_48 : decode cX0_forgetOldest 48 = .ok (.iload_n 1, 1) := by decide +kernel
theorem dX0_forgetOldest_49 : decode cX0_forgetOldest 49 = .ok (.aload_n 0, 1) := by decide +kernel
theorem dX0_forgetOldest_50 : decode cX0_forgetOldest 50 = .ok (.getfield 18, 3) := by decide +kernel
theorem dX0_forgetOldest_53 : decode cX0_forgetOldest 53 = .ok (.iload_n 1, 1) := by decide +kernel
theorem dX0_forgetOldest_54 : decode cX0_forgetOldest 54 = .ok (.iconst 1, 1) := by decide +kernel
theorem dX0_forgetOldest_55 : decode cX0_forgetOldest 55 = .ok (.iadd, 1) := by decide +kernel
theorem dX0_forgetOldest_56 : decode cX0_forgetOldest 56 = .ok (.iaload, 1) := by decide +kernel
theorem dX0_forgetOldest_57 : decode cX0_forgetOldest 57 = .ok (.iastore, 1) := by decide +kernel
theorem dX0_forgetOldest_58 : decode cX0_forgetOldest 58 = .ok (.iinc 1 1, 3) := by decide +kernel
theorem dX0_forgetOldest_61 : decode cX0_forgetOldest 61 = .ok (.goto (-53), 3) := by decide +kernel
theorem dX0_forgetOldest_64 : decode cX0_forgetOldest 64 = .ok (.return_, 1) := by decide +kernel
theorem dX0_undoLast_0 : decode cX0_undoLast 0 = .ok (.aload_n 0, 1) := by decide +kernel
theorem dX0_undoLast_1 : decode cX0_undoLast 1 = .ok (.getfield 21, 3) := by decide +kernel
theorem dX0_undoLast_4 : decode cX0_undoLast 4 = .ok (.iconst 1, 1) := by decide +kernel
theorem dX0_undoLast_5 : decode cX0_undoLast 5 = .ok (.if_icmp .ge 4, 3) := by decide +kernel
theorem dX0_undoLast_8 : decode cX0_undoLast 8 = .ok (.return_, 1) := by decide +kernel
theorem dX0_undoLast_9 : decode cX0_undoLast 9 = .ok (.aload_n 0, 1) := by decide +kernel
theorem dX0_undoLast_10 : decode cX0_undoLast 10 = .ok (.dup, 1) := by decide +kernel
theorem dX0_undoLast_11 : decode cX0_undoLast 11 = .ok (.getfield 21, 3) := by decide +kernel
theorem dX0_undoLast_14 : decode cX0_undoLast 14 = .ok (.iconst 1, 1) := by decide +kernel
theorem dX0_undoLast_15 : decode cX0_undoLast 15 = .ok (.isub, 1) := by decide +kernel
theorem dX0_undoLast_16 : decode cX0_undoLast 16 = .ok (.putfield 21, 3) := by decide +kernel
theorem dX0_undoLast_19 : decode cX0_undoLast 19 = .ok (.aload_n 0, 1) := by decide +kernel
theorem dX0_undoLast_20 : decode cX0_undoLast 20 = .ok (.getfield 15, 3) := by decide +kernel
theorem dX0_undoLast_23 : decode cX0_undoLast 23 = .ok (.aload_n 0, 1) := by decide +kernel
theorem dX0_undoLast_24 : decode cX0_undoLast 24 = .ok (.getfield 21, 3) := by decide +kernel
theorem dX0_undoLast_27 : decode cX0_undoLast 27 = .ok (.iaload, 1) := by decide +kernel
theorem dX0_undoLast_28 : decode cX0_undoLast 28 = .ok (.istore_n 2, 1) := by decide +kernel
theorem dX0_undoLast_29 : decode cX0_undoLast 29 = .ok (.aload_n 0, 1) := by decide +kernel
theorem dX0_undoLast_30 : decode cX0_undoLast 30 = .ok (.getfield 9, 3) := by decide +kernel
theorem dX0_undoLast_33 : decode cX0_undoLast 33 = .ok (.aload_n 0, 1) := by decide +kernel
theorem dX0_undoLast_34 : decode cX0_undoLast 34 = .ok (.getfield 21, 3) := by decide +kernel
theorem dX0_undoLast_37 : decode cX0_undoLast 37 = .ok (.iaload, 1) := by decide +kernel
theorem dX0_undoLast_38 : decode cX0_undoLast 38 = .ok (.lookupswitch 70 #[(0, 44), (1, 26)], 26) := by decide +kernel
theorem dX0_undoLast_64 : decode cX0_undoLast 64 = .ok (.aload_n 1, 1) := by decide +kernel
theorem dX0_undoLast_65 : decode cX0_undoLast 65 = .ok (.getfield 28, 3) := by decide +kernel
theorem dX0_undoLast_68 : decode cX0_undoLast 68 = .ok (.iload_n 2, 1) := by decide +kernel
theorem dX0_undoLast_69 : decode cX0_undoLast 69 = .ok (.aload_n 0, 1) := by decide +kernel
theorem dX0_undoLast_70 : decode cX0_undoLast 70 = .ok (.getfield 18, 3) := by decide +kernel
theorem dX0_undoLast_73 : decode cX0_undoLast 73 = .ok (.aload_n 0, 1) := by decide +kernel
theorem dX0_undoLast_74 : decode cX0_undoLast 74 = .ok (.getfield 21, 3) := by decide +kernel
theorem dX0_undoLast_77 : decode cX0_undoLast 77 = .ok (.iaload, 1) := by decide +kernel
theorem dX0_undoLast_78 : decode cX0_undoLast 78 = .ok (.iastore, 1) := by decide +kernel
theorem dX0_undoLast_79 : decode cX0_undoLast 79 = .ok (.goto 43, 3) := by decide +kernel
theorem dX0_undoLast_82 : decode cX0_undoLast 82 = .ok (.aload_n 1, 1) := by decide +kernel
theorem dX0_undoLast_83 : decode cX0_undoLast 83 = .ok (.aload_n 1, 1) := by decide +kernel
theorem dX0_undoLast_84 : decode cX0_undoLast 84 = .ok (.iload_n 2, 1) := by decide +kernel
theorem dX0_undoLast_85 : decode cX0_undoLast 85 = .ok (.invokevirtual 33, 3) := by decide +kernel
theorem dX0_undoLast_88 : decode cX0_undoLast 88 = .ok (.invokevirtual 37, 3) := by decide +kernel
theorem dX0_undoLast_91 : decode cX0_undoLast 91 = .ok (.aload_n 1, 1) := by decide +kernel
theorem dX0_undoLast_92 : decode cX0_undoLast 92 = .ok (.iload_n 2, 1) := by decide +kernel
theorem dX0_undoLast_93 : decode cX0_undoLast 93 = .ok (.aload_n 0, 1) := by decide +kernel
theorem dX0_undoLast_94 : decode cX0_undoLast 94 = .ok (.getfield 18, 3) := by decide +kernel
theorem dX0_undoLast_97 : decode cX0_undoLast 97 = .ok (.aload_n 0, 1) := by decide +kernel
theorem dX0_undoLast_98 : decode cX0_undoLast 98 = .ok (.getfield 21, 3) := by decide +kernel
theorem dX0_undoLast_101 : decode cX0_undoLast 101 = .ok (.iaload, 1) := by decide +kernel
theorem dX0_undoLast_102 : decode cX0_undoLast 102 = .ok (.invokevirtual 41, 3) := by decide +kernel
theorem dX0_undoLast_105 : decode cX0_undoLast 105 = .ok (.goto 17, 3) := by decide +kernel
theorem dX0_undoLast_108 : decode cX0_undoLast 108 = .ok (.aload_n 1, 1) := by decide +kernel
theorem dX0_undoLast_109 : decode cX0_undoLast 109 = .ok (.iload_n 2, 1) := by decide +kernel
theorem dX0_undoLast_110 : decode cX0_undoLast 110 = .ok (.aload_n 0, 1) := by decide +kernel
theorem dX0_undoLast_111 : decode cX0_undoLast 111 = .ok (.getfield 18, 3) := by decide +kernel
theorem dX0_undoLast_114 : decode cX0_undoLast 114 = .ok (.aload_n 0, 1) := by decide +kernel
theorem dX0_undoLast_115 : decode cX0_undoLast 115 = .ok (.getfield 21, 3) := by decide +kernel
theorem dX0_undoLast_118 : decode cX0_undoLast 118 = .ok (.iaload, 1) := by decide +kernel
theorem dX0_undoLast_119 : decode cX0_undoLast 119 = .ok (.invokevirtual 41, 3) := by decide +kernel
theorem dX0_undoLast_122 : decode cX0_undoLast 122 = .ok (.return_, 1) := by decide +kernel
theorem dX1_init_0 : decode cX1_init 0 = .ok (.aload_n 0, 1) := by decide +kernel
theorem dX1_init_1 : decode cX1_init 1 = .ok (.invokespecial 3, 3) := by decide +kernel
theorem dX1_init_4 : decode cX1_init 4 = .ok (.aload_n 0, 1) := by decide +kernel
theorem dX1_init_5 : decode cX1_init 5 = .ok (.bipush 72, 2) := by decide +kernel
theorem dX1_init_7 : decode cX1_init 7 = .ok (.newarray .int, 2) := by decide +kernel
theorem dX1_init_9 : decode cX1_init 9 = .ok (.putfield 9, 3) := by decide +kernel
theorem dX1_init_12 : decode cX1_init 12 = .ok (.aload_n 0, 1) := by decide +kernel
theorem dX1_init_13 : decode cX1_init 13 = .ok (.iconst 0, 1) := by decide +kernel
theorem dX1_init_14 : decode cX1_init 14 = .ok (.putfield 15, 3) := by decide +kernel
theorem dX1_init_17 : decode cX1_init 17 = .ok (.aload_n 0, 1) := by decide +kernel
theorem dX1_init_18 : decode cX1_init 18 = .ok (.iconst 0, 1) := by decide +kernel
theorem dX1_init_19 : decode cX1_init 19 = .ok (.putfield 19, 3) := by decide +kernel
theorem dX1_init_22 : decode cX1_init 22 = .ok (.aload_n 0, 1) := by decide +kernel
theorem dX1_init_23 : decode cX1_init 23 = .ok (.bipush 9, 2) := by decide +kernel
theorem dX1_init_25 : decode cX1_init 25 = .ok (.newarray .boolean, 2) := by decide +kernel
theorem dX1_init_27 : decode cX1_init 27 = .ok (.putfield 22, 3) := by decide +kernel
theorem dX1_init_30 : decode cX1_init 30 = .ok (.aload_n 0, 1) := by decide +kernel
theorem dX1_init_31 : decode cX1_init 31 = .ok (.iconst 1, 1) := by decide +kernel
theorem dX1_init_32 : decode cX1_init 32 = .ok (.putfield 26, 3) := by decide +kernel
theorem dX1_init_35 : decode cX1_init 35 = .ok (.aload_n 0, 1) := by decide +kernel
theorem dX1_init_36 : decode cX1_init 36 = .ok (.iconst 1, 1) := by decide +kernel
theorem dX1_init_37 : decode cX1_init 37 = .ok (.putfield 30, 3) := by decide +kernel
theorem dX1_init_40 : decode cX1_init 40 = .ok (.aload_n 0, 1) := by decide +kernel
theorem dX1_init_41 : decode cX1_init 41 = .ok (.aload_n 1, 1) := by decide +kernel
theorem dX1_init_42 : decode cX1_init 42 = .ok (.putfield 33, 3) := by decide +kernel
theorem dX1_init_45 : decode cX1_init 45 = .ok (.return_, 1) := by decide +kernel
theorem dX1_read_0 : decode cX1_read 0 = .ok (.aload_n 0, 1) := by decide +kernel
theorem dX1_read_1 : decode cX1_read 1 = .ok (.iconst 0, 1) := by decide +kernel
theorem dX1_read_2 : decode cX1_read 2 = .ok (.putfield 15, 3) := by decide +kernel
theorem dX1_read_5 : decode cX1_read 5 = .ok (.aload_n 0, 1) := by decide +kernel
theorem dX1_read_6 : decode cX1_read 6 = .ok (.iconst 0, 1) := by decide +kernel
theorem dX1_read_7 : decode cX1_read 7 = .ok (.putfield 19, 3) := by decide +kernel
theorem dX1_read_10 : decode cX1_read 10 = .ok (.aload_n 0, 1) := by decide +kernel
theorem dX1_read_11 : decode cX1_read 11 = .ok (.getfield 22, 3) := by decide +kernel
theorem dX1_read_14 : decode cX1_read 14 = .ok (.iconst 0, 1) := by decide +kernel
theorem dX1_read_15 : decode cX1_read 15 = .ok (.iconst 0, 1) := by decide +kernel
theorem dX1_read_16 : decode cX1_read 16 = .ok (.bastore, 1) := by decide +kernel
theorem dX1_read_17 : decode cX1_read 17 = .ok (.aload_n 0, 1) := by decide +kernel
theorem dX1_read_18 : decode cX1_read 18 = .ok (.iconst 1, 1) := by decide +kernel
theorem dX1_read_19 : decode cX1_read 19 = .ok (.putfield 26, 3) := by decide +kernel
theorem dX1_read_22 : decode cX1_read 22 = .ok (.aload_n 0, 1) := by decide +kernel
theorem dX1_read_23 : decode cX1_read 23 = .ok (.iconst 1, 1) := by decide +kernel
theorem dX1_read_24 : decode cX1_read 24 = .ok (.putfield 30, 3) := by decide +kernel
theorem dX1_read_27 : decode cX1_read 27 = .ok (.iconst 0, 1) := by decide +kernel
theorem dX1_read_28 : decode cX1_read 28 = .ok (.istore_n 2, 1) := by decide +kernel
theorem dX1_read_29 : decode cX1_read 29 = .ok (.iload_n 2, 1) := by decide +kernel
theorem dX1_read_30 : decode cX1_read 30 = .ok (.sipush 700, 3) := by decide +kernel
theorem dX1_read_33 : decode cX1_read 33 = .ok (.if_icmp .ge 77, 3) := by decide +kernel
theorem dX1_read_36 : decode cX1_read 36 = .ok (.aload_n 0, 1) := by decide +kernel
theorem dX1_read_37 : decode cX1_read 37 = .ok (.getfield 26, 3) := by decide +kernel
theorem dX1_read_40 : decode cX1_read 40 = .ok (.ifCond .ne 30, 3) := by decide +kernel
theorem dX1_read_43 : decode cX1_read 43 = .ok (.aload_n 0, 1) := by decide +kernel
theorem dX1_read_44 : decode cX1_read 44 = .ok (.getfield 19, 3) := by decide +kernel
theorem dX1_read_47 : decode cX1_read 47 = .ok (.ifCond .ne 23, 3) := by decide +kernel
theorem dX1_read_50 : decode cX1_read 50 = .ok (.aload_n 0, 1) := by decide +kernel
theorem dX1_read_51 : decode cX1_read 51 = .ok (.getfield 33, 3) := by decide +kernel
theorem dX1_read_54 : decode cX1_read 54 = .ok (.getfield 37, 3) := by decide +kernel
theorem dX1_read_57 : decode cX1_read 57 = .ok (.bipush 22, 2) := by decide +kernel
theorem dX1_read_59 : decode cX1_read 59 = .ok (.if_icmp .ne 11, 3) := by decide +kernel
theorem dX1_read_62 : decode cX1_read 62 = .ok (.aload_n 0, 1) := by decide +kernel
theorem dX1_read_63 : decode cX1_read 63 = .ok (.aload_n 1, 1) := by decide +kernel
theorem dX1_read_64 : decode cX1_read 64 = .ok (.iconst 1, 1) := by decide +kernel
theorem dX1_read_65 : decode cX1_read 65 = .ok (.invokevirtual 42, 3) := by decide +kernel
theorem dX1_read_68 : decode cX1_read 68 = .ok (.iconst 0, 1) := by decide +kernel
theorem dX1_read_69 : decode cX1_read 69 = .ok (.ireturn, 1) := by decide +kernel
theorem dX1_read_70 : decode cX1_read 70 = .ok (.aload_n 0, 1) := by decide +kernel
theorem dX1_read_71 : decode cX1_read 71 = .ok (.getfield 26, 3) := by decide +kernel
theorem dX1_read_74 : decode cX1_read 74 = .ok (.ifCond .eq 11, 3) := by decide +kernel
theorem dX1_read_77 : decode cX1_read 77 = .ok (.aload_n 0, 1) := by decide +kernel
theorem dX1_read_78 : decode cX1_read 78 = .ok (.aload_n 1, 1) := by decide +kernel
theorem dX1_read_79 : decode cX1_read 79 = .ok (.invokevirtual 46, 3) := by decide +kernel
theorem dX1_read_82 : decode cX1_read 82 = .ok (.goto 8, 3) := by decide +kernel
theorem dX1_read_85 : decode cX1_read 85 = .ok (.aload_n 0, 1) := by decide +kernel
theorem dX1_read_86 : decode cX1_read 86 = .ok (.aload_n 1, 1) := by decide +kernel
theorem dX1_read_87 : decode cX1_read 87 = .ok (.invokevirtual 50, 3) := by decide +kernel
theorem dX1_read_90 : decode cX1_read 90 = .ok (.istore_n 3, 1) := by decide +kernel
theorem dX1_read_91 : decode cX1_read 91 = .ok (.iload_n 3, 1) := by decide +kernel
theorem dX1_read_92 : decode cX1_read 92 = .ok (.ifCond .eq 5, 3) := by decide +kernel
theorem dX1_read_95 : decode cX1_read 95 = .ok (.iload_n 3, 1) := by decide +kernel
theorem dX1_read_96 : decode cX1_read 96 = .ok (.ireturn, 1) := by decide +kernel
theorem dX1_read_97 : decode cX1_read 97 = .ok (.aload_n 0, 1) := by decide +kernel
theorem dX1_read_98 : decode cX1_read 98 = .ok (.getfield 33, 3) := by decide +kernel
theorem dX1_read_101 : decode cX1_read 101 = .ok (.invokevirtual 53, 3) := by decide +kernel
theorem dX1_read_104 : decode cX1_read 104 = .ok (.iinc 2 1, 3) := by decide +kernel
theorem dX1_read_107 : decode cX1_read 107 = .ok (.goto (-78), 3) := by decide +kernel
theorem dX1_read_110 : decode cX1_read 110 = .ok (.iconst 1, 1) := by decide +kernel
theorem dX1_read_111 : decode cX1_read 111 = .ok (.ireturn, 1) := by decide +kernel
theorem dX1_takeValue_0 : decode cX1_takeValue 0 = .ok (.aload_n 0, 1) := by decide +kernel
theorem dX1_takeValue_1 : decode cX1_takeValue 1 = .ok (.getfield 33, 3) := by decide +kernel
theorem dX1_takeValue_4 : decode cX1_takeValue 4 = .ok (.getfield 37, 3) := by decide +kernel
theorem dX1_takeValue_7 : decode cX1_takeValue 7 = .ok (.istore_n 2, 1) := by decide +kernel
theorem dX1_takeValue_8 : decode cX1_takeValue 8 = .ok (.iload_n 2, 1) := by decide +kernel
theorem dX1_takeValue_9 : decode cX1_takeValue 9 = .ok (.bipush 23, 2) := by decide +kernel
theorem dX1_takeValue_11 : decode cX1_takeValue 11 = .ok (.if_icmp .ne 8, 3) := by decide +kernel
theorem dX1_takeValue_14 : decode cX1_takeValue 14 = .ok (.aload_n 0, 1) := by decide +kernel
theorem dX1_takeValue_15 : decode cX1_takeValue 15 = .ok (.invokevirtual 56, 3) := by decide +kernel
theorem dX1_takeValue_18 : decode cX1_takeValue 18 = .ok (.ireturn, 1) := by decide +kernel
theorem dX1_takeValue_19 : decode cX1_takeValue 19 = .ok (.iload_n 2, 1) := by decide +kernel
theorem dX1_takeValue_20 : decode cX1_takeValue 20 = .ok (.bipush 12, 2) := by decide +kernel
theorem dX1_takeValue_22 : decode cX1_takeValue 22 = .ok (.if_icmp .ne 28, 3) := by decide +kernel
theorem dX1_takeValue_25 : decode cX1_takeValue 25 = .ok (.aload_n 0, 1) := by decide +kernel
theorem dX1_takeValue_26 : decode cX1_takeValue 26 = .ok (.getfield 30, 3) := by decide +kernel
theorem dX1_takeValue_29 : decode cX1_takeValue 29 = .ok (.ifCond .eq 21, 3) := by decide +kernel
theorem dX1_takeValue_32 : decode cX1_takeValue 32 = .ok (.aload_n 1, 1) := by decide +kernel
theorem dX1_takeValue_33 : decode cX1_takeValue 33 = .ok (.invokestatic 60, 3) := by decide +kernel
theorem dX1_takeValue_36 : decode cX1_takeValue 36 = .ok (.ifCond .eq 12, 3) := by decide +kernel
theorem dX1_takeValue_39 : decode cX1_takeValue 39 = .ok (.aload_n 0, 1) := by decide +kernel
theorem dX1_takeValue_40 : decode cX1_takeValue 40 = .ok (.bipush 12, 2) := by decide +kernel
theorem dX1_takeValue_42 : decode cX1_takeValue 42 = .ok (.invokevirtual 64, 3) := by decide +kernel
theorem dX1_takeValue_45 : decode cX1_takeValue 45 = .ok (.goto 4, 3) := by decide +kernel
theorem dX1_takeValue_48 : decode cX1_takeValue 48 = .ok (.iconst 2, 1) := by decide +kernel
theorem dX1_takeValue_49 : decode cX1_takeValue 49 = .ok (.ireturn, 1) := by decide +kernel
theorem dX1_takeValue_50 : decode cX1_takeValue 50 = .ok (.iload_n 2, 1) := by decide +kernel
theorem dX1_takeValue_51 : decode cX1_takeValue 51 = .ok (.bipush 21, 2) := by decide +kernel
theorem dX1_takeValue_53 : decode cX1_takeValue 53 = .ok (.if_icmp .eq 17, 3) := by decide +kernel
theorem dX1_takeValue_56 : decode cX1_takeValue 56 = .ok (.iload_n 2, 1) := by decide +kernel
theorem dX1_takeValue_57 : decode cX1_takeValue 57 = .ok (.bipush 13, 2) := by decide +kernel
theorem dX1_takeValue_59 : decode cX1_takeValue 59 = .ok (.if_icmp .lt 9, 3) := by decide +kernel
theorem dX1_takeValue_62 : decode cX1_takeValue 62 = .ok (.iload_n 2, 1) := by decide +kernel
theorem dX1_takeValue_63 : decode cX1_takeValue 63 = .ok (.bipush 19, 2) := by decide +kernel
theorem dX1_takeValue_65 : decode cX1_takeValue 65 = .ok (.if_icmp .le 5, 3) := by decide +kernel
theorem dX1_takeValue_68 : decode cX1_takeValue 68 = .ok (.iconst 1, 1) := by decide +kernel
theorem dX1_takeValue_69 : decode cX1_takeValue 69 = .ok (.ireturn, 1) := by decide +kernel
theorem dX1_takeValue_70 : decode cX1_takeValue 70 = .ok (.iload_n 2, 1) := by decide +kernel
theorem dX1_takeValue_71 : decode cX1_takeValue 71 = .ok (.bipush 21, 2) := by decide +kernel
theorem dX1_takeValue_73 : decode cX1_takeValue 73 = .ok (.if_icmp .ne 16, 3) := by decide +kernel
theorem dX1_takeValue_76 : decode cX1_takeValue 76 = .ok (.aload_n 0, 1) := by decide +kernel
theorem dX1_takeValue_77 : decode cX1_takeValue 77 = .ok (.getfield 33, 3) := by decide +kernel
theorem dX1_takeValue_80 : decode cX1_takeValue 80 = .ok (.getfield 68, 3) := by decide +kernel
theorem dX1_takeValue_83 : decode cX1_takeValue 83 = .ok (.sipush 9999, 3) := by decide +kernel
theorem dX1_takeValue_86 : decode cX1_takeValue 86 = .ok (.if_icmp .gt 10, 3) := by decide +kernel
theorem dX1_takeValue_89 : decode cX1_takeValue 89 = .ok (.aload_n 1, 1) := by decide +kernel
theorem dX1_takeValue_90 : decode cX1_takeValue 90 = .ok (.invokestatic 60, 3) := by decide +kernel
theorem dX1_takeValue_93 : decode cX1_takeValue 93 = .ok (.ifCond .ne 5, 3) := by decide +kernel
theorem dX1_takeValue_96 : decode cX1_takeValue 96 = .ok (.iconst 2, 1) := by decide +kernel
theorem dX1_takeValue_97 : decode cX1_takeValue 97 = .ok (.ireturn, 1) := by decide +kernel
theorem dX1_takeValue_98 : decode cX1_takeValue 98 = .ok (.aload_n 1, 1) := by decide +kernel
theorem dX1_takeValue_99 : decode cX1_takeValue 99 = .ok (.iload_n 2, 1) := by decide +kernel
theorem dX1_takeValue_100 : decode cX1_takeValue 100 = .ok (.iload_n 2, 1) := by decide +kernel
theorem dX1_takeValue_101 : decode cX1_takeValue 101 = .ok (.bipush 21, 2) := by decide +kernel
theorem dX1_takeValue_103 : decode cX1_takeValue 103 = .ok (.if_icmp .ne 13, 3) := by decide +kernel
theorem dX1_takeValue_106 : decode cX1_takeValue 106 = .ok (.aload_n 0, 1) := by decide +kernel
theorem dX1_takeValue_107 : decode cX1_takeValue 107 = .ok (.getfield 33, 3) := by decide +kernel
theorem dX1_takeValue_110 : decode cX1_takeValue 110 = .ok (.getfield 68, 3) := by decide +kernel
theorem dX1_takeValue_113 : decode cX1_takeValue 113 = .ok (.goto 4, 3) := by decide +kernel
theorem dX1_takeValue_116 : decode cX1_takeValue 116 = .ok (.iconst 0, 1) := by decide +kernel
theorem dX1_takeValue_117 : decode cX1_takeValue 117 = .ok (.invokevirtual 71, 3) := by decide +kernel
theorem dX1_takeValue_120 : decode cX1_takeValue 120 = .ok (.aload_n 0, 1) := by decide +kernel
theorem dX1_takeValue_121 : decode cX1_takeValue 121 = .ok (.iconst 0, 1) := by decide +kernel
theorem dX1_takeValue_122 : decode cX1_takeValue 122 = .ok (.putfield 26, 3) := by decide +kernel
theorem dX1_takeValue_125 : decode cX1_takeValue 125 = .ok (.iconst 0, 1) := by decide +kernel
theorem dX1_takeValue_126 : decode cX1_takeValue 126 = .ok (.ireturn, 1) := by decide +kernel
theorem dX1_takeOpen_0 : decode cX1_takeOpen 0 = .ok (.aload_n 0, 1) := by decide +kernel
theorem dX1_takeOpen_1 : decode cX1_takeOpen 1 = .ok (.getfield 19, 3) := by decide +kernel
theorem dX1_takeOpen_4 : decode cX1_takeOpen 4 = .ok (.bipush 8, 2) := by decide +kernel
theorem dX1_takeOpen_6 : decode cX1_takeOpen 6 = .ok (.if_icmp .lt 5, 3) := by decide +kernel
theorem dX1_takeOpen_9 : decode cX1_takeOpen 9 = .ok (.iconst 2, 1) := by decide +kernel
theorem dX1_takeOpen_10 : decode cX1_takeOpen 10 = .ok (.ireturn, 1) := by decide +kernel
theorem dX1_takeOpen_11 : decode cX1_takeOpen 11 = .ok (.aload_n 0, 1) := by decide +kernel
theorem dX1_takeOpen_12 : decode cX1_takeOpen 12 = .ok (.dup, 1) := by decide +kernel
theorem dX1_takeOpen_13 : decode cX1_takeOpen 13 = .ok (.getfield 19, 3) := by decide +kernel
theorem dX1_takeOpen_16 : decode cX1_takeOpen 16 = .ok (.iconst 1, 1) := by decide +kernel
theorem dX1_takeOpen_17 : decode cX1_takeOpen 17 = .ok (.iadd, 1) := by decide +kernel
theorem dX1_takeOpen_18 : decode cX1_takeOpen 18 = .ok (.putfield 19, 3) := by decide +kernel
theorem dX1_takeOpen_21 : decode cX1_takeOpen 21 = .ok (.aload_n 0, 1) := by decide +kernel
theorem dX1_takeOpen_22 : decode cX1_takeOpen 22 = .ok (.getfield 22, 3) := by decide +kernel
theorem dX1_takeOpen_25 : decode cX1_takeOpen 25 = .ok (.aload_n 0, 1) := by decide +kernel
theorem dX1_takeOpen_26 : decode cX1_takeOpen 26 = .ok (.getfield 19, 3) := by decide +kernel
theorem dX1_takeOpen_29 : decode cX1_takeOpen 29 = .ok (.iconst 0, 1) := by decide +kernel
theorem dX1_takeOpen_30 : decode cX1_takeOpen 30 = .ok (.bastore, 1) := by decide +kernel
theorem dX1_takeOpen_31 : decode cX1_takeOpen 31 = .ok (.aload_n 0, 1) := by decide +kernel
theorem dX1_takeOpen_32 : decode cX1_takeOpen 32 = .ok (.iconst 1, 1) := by decide +kernel
theorem dX1_takeOpen_33 : decode cX1_takeOpen 33 = .ok (.putfield 30, 3) := by decide +kernel
theorem dX1_takeOpen_36 : decode cX1_takeOpen 36 = .ok (.aload_n 0, 1) := by decide +kernel
theorem dX1_takeOpen_37 : decode cX1_takeOpen 37 = .ok (.bipush 23, 2) := by decide +kernel
theorem dX1_takeOpen_39 : decode cX1_takeOpen 39 = .ok (.invokevirtual 64, 3) := by decide +kernel
theorem dX1_takeOpen_42 : decode cX1_takeOpen 42 = .ok (.ireturn, 1) := by decide +kernel
theorem dX1_takeSign_0 : decode cX1_takeSign 0 = .ok (.aload_n 0, 1) := by decide +kernel
theorem dX1_takeSign_1 : decode cX1_takeSign 1 = .ok (.getfield 33, 3) := by decide +kernel
theorem dX1_takeSign_4 : decode cX1_takeSign 4 = .ok (.getfield 37, 3) := by decide +kernel
theorem dX1_takeSign_7 : decode cX1_takeSign 7 = .ok (.istore_n 2, 1) := by decide +kernel
theorem dX1_takeSign_8 : decode cX1_takeSign 8 = .ok (.iload_n 2, 1) := by decide +kernel
theorem dX1_takeSign_9 : decode cX1_takeSign 9 = .ok (.bipush 24, 2) := by decide +kernel
theorem dX1_takeSign_11 : decode cX1_takeSign 11 = .ok (.if_icmp .ne 38, 3) := by decide +kernel
theorem dX1_takeSign_14 : decode cX1_takeSign 14 = .ok (.aload_n 0, 1) := by decide +kernel
theorem dX1_takeSign_15 : decode cX1_takeSign 15 = .ok (.getfield 19, 3) := by decide +kernel
theorem dX1_takeSign_18 : decode cX1_takeSign 18 = .ok (.ifCond .le 31, 3) := by decide +kernel
theorem dX1_takeSign_21 : decode cX1_takeSign 21 = .ok (.aload_n 0, 1) := by decide +kernel
theorem dX1_takeSign_22 : decode cX1_takeSign 22 = .ok (.aload_n 1, 1) := by decide +kernel
theorem dX1_takeSign_23 : decode cX1_takeSign 23 = .ok (.iconst 1, 1) := by decide +kernel
theorem dX1_takeSign_24 : decode cX1_takeSign 24 = .ok (.invokevirtual 42, 3) := by decide +kernel
theorem dX1_takeSign_27 : decode cX1_takeSign 27 = .ok (.aload_n 0, 1) := by decide +kernel
theorem dX1_takeSign_28 : decode cX1_takeSign 28 = .ok (.dup, 1) := by decide +kernel
theorem dX1_takeSign_29 : decode cX1_takeSign 29 = .ok (.getfield 15, 3) := by decide +kernel
theorem dX1_takeSign_32 : decode cX1_takeSign 32 = .ok (.iconst 1, 1) := by decide +kernel
theorem dX1_takeSign_33 : decode cX1_takeSign 33 = .ok (.isub, 1) := by decide +kernel
theorem dX1_takeSign_34 : decode cX1_takeSign 34 = .ok (.putfield 15, 3) := by decide +kernel
theorem dX1_takeSign_37 : decode cX1_takeSign 37 = .ok (.aload_n 0, 1) := by decide +kernel
theorem dX1_takeSign_38 : decode cX1_takeSign 38 = .ok (.dup, 1) := by decide +kernel
theorem dX1_takeSign_39 : decode cX1_takeSign 39 = .ok (.getfield 19, 3) := by decide +kernel
theorem dX1_takeSign_42 : decode cX1_takeSign 42 = .ok (.iconst 1, 1) := by decide +kernel
theorem dX1_takeSign_43 : decode cX1_takeSign 43 = .ok (.isub, 1) := by decide +kernel
theorem dX1_takeSign_44 : decode cX1_takeSign 44 = .ok (.putfield 19, 3) := by decide +kernel
theorem dX1_takeSign_47 : decode cX1_takeSign 47 = .ok (.iconst 0, 1) := by decide +kernel
theorem dX1_takeSign_48 : decode cX1_takeSign 48 = .ok (.ireturn, 1) := by decide +kernel
theorem dX1_takeSign_49 : decode cX1_takeSign 49 = .ok (.iload_n 2, 1) := by decide +kernel
theorem dX1_takeSign_50 : decode cX1_takeSign 50 = .ok (.invokestatic 77, 3) := by decide +kernel
theorem dX1_takeSign_53 : decode cX1_takeSign 53 = .ok (.istore_n 3, 1) := by decide +kernel
theorem dX1_takeSign_54 : decode cX1_takeSign 54 = .ok (.iload_n 3, 1) := by decide +kernel
theorem dX1_takeSign_55 : decode cX1_takeSign 55 = .ok (.bipush 29, 2) := by decide +kernel
theorem dX1_takeSign_57 : decode cX1_takeSign 57 = .ok (.invokestatic 77, 3) := by decide +kernel
theorem dX1_takeSign_60 : decode cX1_takeSign 60 = .ok (.if_icmp .ne 7, 3) := by decide +kernel
theorem dX1_takeSign_63 : decode cX1_takeSign 63 = .ok (.iconst 1, 1) := by decide +kernel
theorem dX1_takeSign_64 : decode cX1_takeSign 64 = .ok (.goto 4, 3) := by decide +kernel
theorem dX1_takeSign_67 : decode cX1_takeSign 67 = .ok (.iconst 0, 1) := by decide +kernel
theorem dX1_takeSign_68 : decode cX1_takeSign 68 = .ok (.istore 4, 2) := by decide +kernel
theorem dX1_takeSign_70 : decode cX1_takeSign 70 = .ok (.iload_n 3, 1) := by decide +kernel
theorem dX1_takeSign_71 : decode cX1_takeSign 71 = .ok (.ifCond .eq 26, 3) := by decide +kernel
theorem dX1_takeSign_74 : decode cX1_takeSign 74 = .ok (.iload_n 2, 1) := by decide +kernel
theorem dX1_takeSign_75 : decode cX1_takeSign 75 = .ok (.bipush 12, 2) := by decide +kernel
theorem dX1_takeSign_77 : decode cX1_takeSign 77 = .ok (.if_icmp .eq 20, 3) := by decide +kernel
theorem dX1_takeSign_80 : decode cX1_takeSign 80 = .ok (.iload 4, 2) := by decide +kernel
theorem dX1_takeSign_82 : decode cX1_takeSign 82 = .ok (.ifCond .eq 17, 3) := by decide +kernel
theorem dX1_takeSign_85 : decode cX1_takeSign 85 = .ok (.aload_n 0, 1) := by decide +kernel
theorem dX1_takeSign_86 : decode cX1_takeSign 86 = .ok (.getfield 22, 3) := by decide +kernel
theorem dX1_takeSign_89 : decode cX1_takeSign 89 = .ok (.aload_n 0, 1) := by decide +kernel
theorem dX1_takeSign_90 : decode cX1_takeSign 90 = .ok (.getfield 19, 3) := by decide +kernel
theorem dX1_takeSign_93 : decode cX1_takeSign 93 = .ok (.baload, 1) := by decide +kernel
theorem dX1_takeSign_94 : decode cX1_takeSign 94 = .ok (.ifCond .eq 5, 3) := by decide +kernel
theorem dX1_takeSign_97 : decode cX1_takeSign 97 = .ok (.iconst 1, 1) := by decide +kernel
theorem dX1_takeSign_98 : decode cX1_takeSign 98 = .ok (.ireturn, 1) := by decide +kernel
theorem dX1_takeSign_99 : decode cX1_takeSign 99 = .ok (.aload_n 1, 1) := by decide +kernel
theorem dX1_takeSign_100 : decode cX1_takeSign 100 = .ok (.invokestatic 60, 3) := by decide +kernel
theorem dX1_takeSign_103 : decode cX1_takeSign 103 = .ok (.ifCond .ne 5, 3) := by decide +kernel
theorem dX1_takeSign_106 : decode cX1_takeSign 106 = .ok (.iconst 2, 1) := by decide +kernel
theorem dX1_takeSign_107 : decode cX1_takeSign 107 = .ok (.ireturn, 1) := by decide +kernel
theorem dX1_takeSign_108 : decode cX1_takeSign 108 = .ok (.aload_n 0, 1) := by decide +kernel
theorem dX1_takeSign_109 : decode cX1_takeSign 109 = .ok (.aload_n 1, 1) := by decide +kernel
theorem dX1_takeSign_110 : decode cX1_takeSign 110 = .ok (.iload_n 3, 1) := by decide +kernel
theorem dX1_takeSign_111 : decode cX1_takeSign 111 = .ok (.invokevirtual 42, 3) := by decide +kernel
theorem dX1_takeSign_114 : decode cX1_takeSign 114 = .ok (.aload_n 0, 1) := by decide +kernel
theorem dX1_takeSign_115 : decode cX1_takeSign 115 = .ok (.iload_n 2, 1) := by decide +kernel
theorem dX1_takeSign_116 : decode cX1_takeSign 116 = .ok (.bipush 10, 2) := by decide +kernel
theorem dX1_takeSign_118 : decode cX1_takeSign 118 = .ok (.if_icmp .eq 9, 3) := by decide +kernel
theorem dX1_takeSign_121 : decode cX1_takeSign 121 = .ok (.iload_n 2, 1) := by decide +kernel
theorem dX1_takeSign_122 : decode cX1_takeSign 122 = .ok (.bipush 11, 2) := by decide +kernel
theorem dX1_takeSign_124 : decode cX1_takeSign 124 = .ok (.if_icmp .ne 7, 3) := by decide +kernel
theorem dX1_takeSign_127 : decode cX1_takeSign 127 = .ok (.iconst 1, 1) := by decide +kernel
theorem dX1_takeSign_128 : decode cX1_takeSign 128 = .ok (.goto 4, 3) := by decide +kernel
theorem dX1_takeSign_131 : decode cX1_takeSign 131 = .ok (.iconst 0, 1) := by decide +kernel
theorem dX1_takeSign_132 : decode cX1_takeSign 132 = .ok (.putfield 30, 3) := by decide +kernel
theorem dX1_takeSign_135 : decode cX1_takeSign 135 = .ok (.iload 4, 2) := by decide +kernel
theorem dX1_takeSign_137 : decode cX1_takeSign 137 = .ok (.ifCond .ne 10, 3) := by decide +kernel
theorem dX1_takeSign_140 : decode cX1_takeSign 140 = .ok (.aload_n 0, 1) := by decide +kernel
theorem dX1_takeSign_141 : decode cX1_takeSign 141 = .ok (.getfield 30, 3) := by decide +kernel
theorem dX1_takeSign_144 : decode cX1_takeSign 144 = .ok (.ifCond .eq 14, 3) := by decide +kernel
theorem dX1_takeSign_147 : decode cX1_takeSign 147 = .ok (.aload_n 0, 1) := by decide +kernel
theorem dX1_takeSign_148 : decode cX1_takeSign 148 = .ok (.getfield 22, 3) := by decide +kernel
theorem dX1_takeSign_151 : decode cX1_takeSign 151 = .ok (.aload_n 0, 1) := by decide +kernel
theorem dX1_takeSign_152 : decode cX1_takeSign 152 = .ok (.getfield 19, 3) := by decide +kernel
theorem dX1_takeSign_155 : decode cX1_takeSign 155 = .ok (.iload 4, 2) := by decide +kernel
theorem dX1_takeSign_157 : decode cX1_takeSign 157 = .ok (.bastore, 1) := by decide +kernel
theorem dX1_takeSign_158 : decode cX1_takeSign 158 = .ok (.aload_n 0, 1) := by decide +kernel
theorem dX1_takeSign_159 : decode cX1_takeSign 159 = .ok (.iconst 1, 1) := by decide +kernel
theorem dX1_takeSign_160 : decode cX1_takeSign 160 = .ok (.putfield 26, 3) := by decide +kernel
theorem dX1_takeSign_163 : decode cX1_takeSign 163 = .ok (.aload_n 0, 1) := by decide +kernel
theorem dX1_takeSign_164 : decode cX1_takeSign 164 = .ok (.iload_n 2, 1) := by decide +kernel
theorem dX1_takeSign_165 : decode cX1_takeSign 165 = .ok (.invokevirtual 64, 3) := by decide +kernel
theorem dX1_takeSign_168 : decode cX1_takeSign 168 = .ok (.ireturn, 1) := by decide +kernel
theorem dX1_takeKnot_0 : decode cX1_takeKnot 0 = .ok (.aload_n 0, 1) := by decide +kernel
theorem dX1_takeKnot_1 : decode cX1_takeKnot 1 = .ok (.getfield 80, 3) := by decide +kernel
theorem dX1_takeKnot_4 : decode cX1_takeKnot 4 = .ok (.bipush 64, 2) := by decide +kernel
theorem dX1_takeKnot_6 : decode cX1_takeKnot 6 = .ok (.if_icmp .lt 5, 3) := by decide +kernel
theorem dX1_takeKnot_9 : decode cX1_takeKnot 9 = .ok (.iconst 0, 1) := by decide +kernel
theorem dX1_takeKnot_10 : decode cX1_takeKnot 10 = .ok (.ireturn, 1) := by decide +kernel
theorem dX1_takeKnot_11 : decode cX1_takeKnot 11 = .ok (.aload_n 0, 1) := by decide +kernel
theorem dX1_takeKnot_12 : decode cX1_takeKnot 12 = .ok (.dup, 1) := by decide +kernel
theorem dX1_takeKnot_13 : decode cX1_takeKnot 13 = .ok (.getfield 80, 3) := by decide +kernel
theorem dX1_takeKnot_16 : decode cX1_takeKnot 16 = .ok (.iconst 1, 1) := by decide +kernel
theorem dX1_takeKnot_17 : decode cX1_takeKnot 17 = .ok (.iadd, 1) := by decide +kernel
theorem dX1_takeKnot_18 : decode cX1_takeKnot 18 = .ok (.putfield 80, 3) := by decide +kernel
theorem dX1_takeKnot_21 : decode cX1_takeKnot 21 = .ok (.iconst 1, 1) := by decide +kernel
theorem dX1_takeKnot_22 : decode cX1_takeKnot 22 = .ok (.ireturn, 1) := by decide +kernel
theorem dX1_push_0 : decode cX1_push 0 = .ok (.aload_n 0, 1) := by decide +kernel
theorem dX1_push_1 : decode cX1_push 1 = .ok (.getfield 15, 3) := by decide +kernel
theorem dX1_push_4 : decode cX1_push 4 = .ok (.aload_n 0, 1) := by decide +kernel
theorem dX1_push_5 : decode cX1_push 5 = .ok (.getfield 9, 3) := by decide +kernel
theorem dX1_push_8 : decode cX1_push 8 = .ok (.arraylength, 1) := by decide +kernel
theorem dX1_push_9 : decode cX1_push 9 = .ok (.if_icmp .lt 5, 3) := by decide +kernel
theorem dX1_push_12 : decode cX1_push 12 = .ok (.iconst 2, 1) := by decide +kernel
theorem dX1_push_13 : decode cX1_push 13 = .ok (.ireturn, 1) := by decide +kernel
theorem dX1_push_14 : decode cX1_push 14 = .ok (.aload_n 0, 1) := by decide +kernel
theorem dX1_push_15 : decode cX1_push 15 = .ok (.getfield 9, 3) := by decide +kernel
theorem dX1_push_18 : decode cX1_push 18 = .ok (.aload_n 0, 1) := by decide +kernel
theorem dX1_push_19 : decode cX1_push 19 = .ok (.getfield 15, 3) := by decide +kernel
theorem dX1_push_22 : decode cX1_push 22 = .ok (.iload_n 1, 1) := by decide +kernel
theorem dX1_push_23 : decode cX1_push 23 = .ok (.iastore, 1) := by decide +kernel
theorem dX1_push_24 : decode cX1_push 24 = .ok (.aload_n 0, 1) := by decide +kernel
theorem dX1_push_25 : decode cX1_push 25 = .ok (.dup, 1) := by decide +kernel
theorem dX1_push_26 : decode cX1_push 26 = .ok (.getfield 15, 3) := by decide +kernel
theorem dX1_push_29 : decode cX1_push 29 = .ok (.iconst 1, 1) := by decide +kernel
theorem dX1_push_30 : decode cX1_push 30 = .ok (.iadd, 1) := by decide +kernel
theorem dX1_push_31 : decode cX1_push 31 = .ok (.putfield 15, 3) := by decide +kernel
theorem dX1_push_34 : decode cX1_push 34 = .ok (.iconst 0, 1) := by decide +kernel
theorem dX1_push_35 : decode cX1_push 35 = .ok (.ireturn, 1) := by decide +kernel
theorem dX1_putSigns_0 : decode cX1_putSigns 0 = .ok (.aload_n 0, 1) := by decide +kernel
theorem dX1_putSigns_1 : decode cX1_putSigns 1 = .ok (.getfield 15, 3) := by decide +kernel
theorem dX1_putSigns_4 : decode cX1_putSigns 4 = .ok (.ifCond .le 48, 3) := by decide +kernel
theorem dX1_putSigns_7 : decode cX1_putSigns 7 = .ok (.aload_n 0, 1) := by decide +kernel
theorem dX1_putSigns_8 : decode cX1_putSigns 8 = .ok (.getfield 9, 3) := by decide +kernel
theorem dX1_putSigns_11 : decode cX1_putSigns 11 = .ok (.aload_n 0, 1) := by decide +kernel
theorem dX1_putSigns_12 : decode cX1_putSigns 12 = .ok (.getfield 15, 3) := by decide +kernel
theorem dX1_putSigns_15 : decode cX1_putSigns 15 = .ok (.iconst 1, 1) := by decide +kernel
theorem dX1_putSigns_16 : decode cX1_putSigns 16 = .ok (.isub, 1) := by decide +kernel
theorem dX1_putSigns_17 : decode cX1_putSigns 17 = .ok (.iaload, 1) := by decide +kernel
theorem dX1_putSigns_18 : decode cX1_putSigns 18 = .ok (.invokestatic 77, 3) := by decide +kernel
theorem dX1_putSigns_21 : decode cX1_putSigns 21 = .ok (.iload_n 2, 1) := by decide +kernel
theorem dX1_putSigns_22 : decode cX1_putSigns 22 = .ok (.if_icmp .lt 30, 3) := by decide +kernel
theorem dX1_putSigns_25 : decode cX1_putSigns 25 = .ok (.aload_n 0, 1) := by decide +kernel
theorem dX1_putSigns_26 : decode cX1_putSigns 26 = .ok (.dup, 1) := by decide +kernel
theorem dX1_putSigns_27 : decode cX1_putSigns 27 = .ok (.getfield 15, 3) := by decide +kernel
theorem dX1_putSigns_30 : decode cX1_putSigns 30 = .ok (.iconst 1, 1) := by decide +kernel
theorem dX1_putSigns_31 : decode cX1_putSigns 31 = .ok (.isub, 1) := by decide +kernel
theorem dX1_putSigns_32 : decode cX1_putSigns 32 = .ok (.putfield 15, 3) := by decide +kernel
theorem dX1_putSigns_35 : decode cX1_putSigns 35 = .ok (.aload_n 1, 1) := by decide +kernel
theorem dX1_putSigns_36 : decode cX1_putSigns 36 = .ok (.aload_n 0, 1) := by decide +kernel
theorem dX1_putSigns_37 : decode cX1_putSigns 37 = .ok (.getfield 9, 3) := by decide +kernel
theorem dX1_putSigns_40 : decode cX1_putSigns 40 = .ok (.aload_n 0, 1) := by decide +kernel
theorem dX1_putSigns_41 : decode cX1_putSigns 41 = .ok (.getfield 15, 3) := by decide +kernel
theorem dX1_putSigns_44 : decode cX1_putSigns 44 = .ok (.iaload, 1) := by decide +kernel
theorem dX1_putSigns_45 : decode cX1_putSigns 45 = .ok (.iconst 0, 1) := by decide +kernel
theorem dX1_putSigns_46 : decode cX1_putSigns 46 = .ok (.invokevirtual 71, 3) := by decide +kernel
theorem dX1_putSigns_49 : decode cX1_putSigns 49 = .ok (.goto (-49), 3) := by decide +kernel
theorem dX1_putSigns_52 : decode cX1_putSigns 52 = .ok (.return_, 1) := by decide +kernel
theorem dX1_levelOf_0 : decode cX1_levelOf 0 = .ok (.iload_n 0, 1) := by decide +kernel
theorem dX1_levelOf_1 : decode cX1_levelOf 1 = .ok (.tableswitch 128 10 34 #[115, 117, 119, 128, 128, 128, 128, 128, 128, 128, 128, 128, 128, 128, 128, 123, 123, 125, 125, 121, 121, 121, 121, 121, 121], 115) := by decide +kernel
theorem dX1_levelOf_116 : decode cX1_levelOf 116 = .ok (.iconst 1, 1) := by decide +kernel
theorem dX1_levelOf_117 : decode cX1_levelOf 117 = .ok (.ireturn, 1) := by decide +kernel
theorem dX1_levelOf_118 : decode cX1_levelOf 118 = .ok (.iconst 2, 1) := by decide +kernel
theorem dX1_levelOf_119 : decode cX1_levelOf 119 = .ok (.ireturn, 1) := by decide +kernel
theorem dX1_levelOf_120 : decode cX1_levelOf 120 = .ok (.iconst 3, 1) := by decide +kernel
theorem dX1_levelOf_121 : decode cX1_levelOf 121 = .ok (.ireturn, 1) := by decide +kernel
theorem dX1_levelOf_122 : decode cX1_levelOf 122 = .ok (.iconst 4, 1) := by decide +kernel
theorem dX1_levelOf_123 : decode cX1_levelOf 123 = .ok (.ireturn, 1) := by decide +kernel
theorem dX1_levelOf_124 : decode cX1_levelOf 124 = .ok (.iconst 5, 1) := by decide +kernel
theorem dX1_levelOf_125 : decode cX1_levelOf 125 = .ok (.ireturn, 1) := by decide +kernel
theorem dX1_levelOf_126 : decode cX1_levelOf 126 = .ok (.bipush 6, 2) := by decide +kernel
theorem dX1_levelOf_128 : decode cX1_levelOf 128 = .ok (.ireturn, 1) := by decide +kernel
theorem dX1_levelOf_129 : decode cX1_levelOf 129 = .ok (.iconst 0, 1) := by decide +kernel
theorem dX1_levelOf_130 : decode cX1_levelOf 130 = .ok (.ireturn, 1) := by decide +kernel
theorem dX2_init_0 : decode cX2_init 0 = .ok (.aload_n 0, 1) := by decide +kernel
theorem dX2_init_1 : decode cX2_init 1 = .ok (.invokespecial 3, 3) := by decide +kernel
theorem dX2_init_4 : decode cX2_init 4 = .ok (.aload_n 0, 1) := by decide +kernel
theorem dX2_init_5 : decode cX2_init 5 = .ok (.bipush 64, 2) := by decide +kernel
theorem dX2_init_7 : decode cX2_init 7 = .ok (.newarray .int, 2) := by decide +kernel
theorem dX2_init_9 : decode cX2_init 9 = .ok (.putfield 9, 3) := by decide +kernel
theorem dX2_init_12 : decode cX2_init 12 = .ok (.aload_n 0, 1) := by decide +kernel
theorem dX2_init_13 : decode cX2_init 13 = .ok (.bipush 64, 2) := by decide +kernel
theorem dX2_init_15 : decode cX2_init 15 = .ok (.newarray .int, 2) := by decide +kernel
theorem dX2_init_17 : decode cX2_init 17 = .ok (.putfield 15, 3) := by decide +kernel
theorem dX2_init_20 : decode cX2_init 20 = .ok (.aload_n 0, 1) := by decide +kernel
theorem dX2_init_21 : decode cX2_init 21 = .ok (.iconst 3, 1) := by decide +kernel
theorem dX2_init_22 : decode cX2_init 22 = .ok (.newarray .int, 2) := by decide +kernel
theorem dX2_init_24 : decode cX2_init 24 = .ok (.putfield 18, 3) := by decide +kernel
theorem dX2_init_27 : decode cX2_init 27 = .ok (.aload_n 0, 1) := by decide +kernel
theorem dX2_init_28 : decode cX2_init 28 = .ok (.iconst 3, 1) := by decide +kernel
theorem dX2_init_29 : decode cX2_init 29 = .ok (.newarray .int, 2) := by decide +kernel
theorem dX2_init_31 : decode cX2_init 31 = .ok (.putfield 21, 3) := by decide +kernel
theorem dX2_init_34 : decode cX2_init 34 = .ok (.aload_n 0, 1) := by decide +kernel
theorem dX2_init_35 : decode cX2_init 35 = .ok (.bipush 64, 2) := by decide +kernel
theorem dX2_init_37 : decode cX2_init 37 = .ok (.newarray .long, 2) := by decide +kernel
theorem dX2_init_39 : decode cX2_init 39 = .ok (.putfield 24, 3) := by decide +kernel
theorem dX2_init_42 : decode cX2_init 42 = .ok (.aload_n 0, 1) := by decide +kernel
theorem dX2_init_43 : decode cX2_init 43 = .ok (.iconst 0, 1) := by decide +kernel
theorem dX2_init_44 : decode cX2_init 44 = .ok (.putfield 28, 3) := by decide +kernel
theorem dX2_init_47 : decode cX2_init 47 = .ok (.aload_n 0, 1) := by decide +kernel
theorem dX2_init_48 : decode cX2_init 48 = .ok (.iconst 0, 1) := by decide +kernel
theorem dX2_init_49 : decode cX2_init 49 = .ok (.putfield 32, 3) := by decide +kernel
theorem dX2_init_52 : decode cX2_init 52 = .ok (.return_, 1) := by decide +kernel
theorem dX2_clear_0 : decode cX2_clear 0 = .ok (.aload_n 0, 1) := by decide +kernel
theorem dX2_clear_1 : decode cX2_clear 1 = .ok (.iconst 0, 1) := by decide +kernel
theorem dX2_clear_2 : decode cX2_clear 2 = .ok (.putfield 28, 3) := by decide +kernel
theorem dX2_clear_5 : decode cX2_clear 5 = .ok (.aload_n 0, 1) := by decide +kernel
theorem dX2_clear_6 : decode cX2_clear 6 = .ok (.iconst 0, 1) := by decide +kernel
theorem dX2_clear_7 : decode cX2_clear 7 = .ok (.putfield 32, 3) := by decide +kernel
theorem dX2_clear_10 : decode cX2_clear 10 = .ok (.iconst 0, 1) := by decide +kernel
theorem dX2_clear_11 : decode cX2_clear 11 = .ok (.istore_n 1, 1) := by decide +kernel
theorem dX2_clear_12 : decode cX2_clear 12 = .ok (.iload_n 1, 1) := by decide +kernel
theorem dX2_clear_13 : decode cX2_clear 13 = .ok (.iconst 3, 1) := by decide +kernel
theorem dX2_clear_14 : decode cX2_clear 14 = .ok (.if_icmp .ge 23, 3) := by decide +kernel
theorem dX2_clear_17 : decode cX2_clear 17 = .ok (.aload_n 0, 1) := by decide +kernel
theorem dX2_clear_18 : decode cX2_clear 18 = .ok (.getfield 18, 3) := by decide +kernel
theorem dX2_clear_21 : decode cX2_clear 21 = .ok (.iload_n 1, 1) := by decide +kernel
theorem dX2_clear_22 : decode cX2_clear 22 = .ok (.iconst 0, 1) := by decide +kernel
theorem dX2_clear_23 : decode cX2_clear 23 = .ok (.iastore, 1) := by decide +kernel
theorem dX2_clear_24 : decode cX2_clear 24 = .ok (.aload_n 0, 1) := by decide +kernel
theorem dX2_clear_25 : decode cX2_clear 25 = .ok (.getfield 21, 3) := by decide +kernel
theorem dX2_clear_28 : decode cX2_clear 28 = .ok (.iload_n 1, 1) := by decide +kernel
theorem dX2_clear_29 : decode cX2_clear 29 = .ok (.iconst 0, 1) := by decide +kernel
theorem dX2_clear_30 : decode cX2_clear 30 = .ok (.iastore, 1) := by decide +kernel
theorem dX2_clear_31 : decode cX2_clear 31 = .ok (.iinc 1 1, 3) := by decide +kernel
theorem dX2_clear_34 : decode cX2_clear 34 = .ok (.goto (-22), 3) := by decide +kernel
theorem dX2_clear_37 : decode cX2_clear 37 = .ok (.return_, 1) := by decide +kernel
theorem dX2_isTold_0 : decode cX2_isTold 0 = .ok (.iload_n 1, 1) := by decide +kernel
theorem dX2_isTold_1 : decode cX2_isTold 1 = .ok (.ifCond .lt 27, 3) := by decide +kernel
theorem dX2_isTold_4 : decode cX2_isTold 4 = .ok (.iload_n 1, 1) := by decide +kernel
theorem dX2_isTold_5 : decode cX2_isTold 5 = .ok (.iconst 3, 1) := by decide +kernel
theorem dX2_isTold_6 : decode cX2_isTold 6 = .ok (.if_icmp .ge 22, 3) := by decide +kernel
theorem dX2_isTold_9 : decode cX2_isTold 9 = .ok (.aload_n 0, 1) := by decide +kernel
theorem dX2_isTold_10 : decode cX2_isTold 10 = .ok (.getfield 21, 3) := by decide +kernel
theorem dX2_isTold_13 : decode cX2_isTold 13 = .ok (.iload_n 1, 1) := by decide +kernel
theorem dX2_isTold_14 : decode cX2_isTold 14 = .ok (.iaload, 1) := by decide +kernel
theorem dX2_isTold_15 : decode cX2_isTold 15 = .ok (.aload_n 0, 1) := by decide +kernel
theorem dX2_isTold_16 : decode cX2_isTold 16 = .ok (.getfield 18, 3) := by decide +kernel
theorem dX2_isTold_19 : decode cX2_isTold 19 = .ok (.iload_n 1, 1) := by decide +kernel
theorem dX2_isTold_20 : decode cX2_isTold 20 = .ok (.iaload, 1) := by decide +kernel
theorem dX2_isTold_21 : decode cX2_isTold 21 = .ok (.if_icmp .le 7, 3) := by decide +kernel
theorem dX2_isTold_24 : decode cX2_isTold 24 = .ok (.iconst 1, 1) := by decide +kernel
theorem dX2_isTold_25 : decode cX2_isTold 25 = .ok (.goto 4, 3) := by decide +kernel
theorem dX2_isTold_28 : decode cX2_isTold 28 = .ok (.iconst 0, 1) := by decide +kernel
theorem dX2_isTold_29 : decode cX2_isTold 29 = .ok (.ireturn, 1) := by decide +kernel
theorem dX2_start_0 : decode cX2_start 0 = .ok (.iload_n 1, 1) := by decide +kernel
theorem dX2_start_1 : decode cX2_start 1 = .ok (.ifCond .lt 18, 3) := by decide +kernel
theorem dX2_start_4 : decode cX2_start 4 = .ok (.iload_n 1, 1) := by decide +kernel
theorem dX2_start_5 : decode cX2_start 5 = .ok (.iconst 3, 1) := by decide +kernel
theorem dX2_start_6 : decode cX2_start 6 = .ok (.if_icmp .ge 13, 3) := by decide +kernel
theorem dX2_start_9 : decode cX2_start 9 = .ok (.aload_n 0, 1) := by decide +kernel
theorem dX2_start_10 : decode cX2_start 10 = .ok (.getfield 18, 3) := by decide +kernel
theorem dX2_start_13 : decode cX2_start 13 = .ok (.iload_n 1, 1) := by decide +kernel
theorem dX2_start_14 : decode cX2_start 14 = .ok (.aload_n 0, 1) := by decide +kernel
theorem dX2_start_15 : decode cX2_start 15 = .ok (.getfield 28, 3) := by decide +kernel
theorem dX2_start_18 : decode cX2_start 18 = .ok (.iastore, 1) := by decide +kernel
theorem dX2_start_19 : decode cX2_start 19 = .ok (.return_, 1) := by decide +kernel
theorem dX2_end_0 : decode cX2_end 0 = .ok (.iload_n 1, 1) := by decide +kernel
theorem dX2_end_1 : decode cX2_end 1 = .ok (.ifCond .lt 18, 3) := by decide +kernel
theorem dX2_end_4 : decode cX2_end 4 = .ok (.iload_n 1, 1) := by decide +kernel
theorem dX2_end_5 : decode cX2_end 5 = .ok (.iconst 3, 1) := by decide +kernel
theorem dX2_end_6 : decode cX2_end 6 = .ok (.if_icmp .ge 13, 3) := by decide +kernel
theorem dX2_end_9 : decode cX2_end 9 = .ok (.aload_n 0, 1) := by decide +kernel
theorem dX2_end_10 : decode cX2_end 10 = .ok (.getfield 21, 3) := by decide +kernel
theorem dX2_end_13 : decode cX2_end 13 = .ok (.iload_n 1, 1) := by decide +kernel
theorem dX2_end_14 : decode cX2_end 14 = .ok (.aload_n 0, 1) := by decide +kernel
theorem dX2_end_15 : decode cX2_end 15 = .ok (.getfield 28, 3) := by decide +kernel
theorem dX2_end_18 : decode cX2_end 18 = .ok (.iastore, 1) := by decide +kernel
theorem dX2_end_19 : decode cX2_end 19 = .ok (.return_, 1) := by decide +kernel
theorem dX2_put_0 : decode cX2_put 0 = .ok (.aload_n 0, 1) := by decide +kernel
theorem dX2_put_1 : decode cX2_put 1 = .ok (.getfield 28, 3) := by decide +kernel
theorem dX2_put_4 : decode cX2_put 4 = .ok (.bipush 64, 2) := by decide +kernel
theorem dX2_put_6 : decode cX2_put 6 = .ok (.if_icmp .ge 33, 3) := by decide +kernel
theorem dX2_put_9 : decode cX2_put 9 = .ok (.aload_n 0, 1) := by decide +kernel
theorem dX2_put_10 : decode cX2_put 10 = .ok (.getfield 9, 3) := by decide +kernel
theorem dX2_put_13 : decode cX2_put 13 = .ok (.aload_n 0, 1) := by decide +kernel
theorem dX2_put_14 : decode cX2_put 14 = .ok (.getfield 28, 3) := by decide +kernel
theorem dX2_put_17 : decode cX2_put 17 = .ok (.iload_n 1, 1) := by decide +kernel
theorem dX2_put_18 : decode cX2_put 18 = .ok (.iastore, 1) := by decide +kernel
theorem dX2_put_19 : decode cX2_put 19 = .ok (.aload_n 0, 1) := by decide +kernel
theorem dX2_put_20 : decode cX2_put 20 = .ok (.getfield 15, 3) := by decide +kernel
theorem dX2_put_23 : decode cX2_put 23 = .ok (.aload_n 0, 1) := by decide +kernel
theorem dX2_put_24 : decode cX2_put 24 = .ok (.getfield 28, 3) := by decide +kernel
theorem dX2_put_27 : decode cX2_put 27 = .ok (.iload_n 2, 1) := by decide +kernel
theorem dX2_put_28 : decode cX2_put 28 = .ok (.iastore, 1) := by decide +kernel
theorem dX2_put_29 : decode cX2_put 29 = .ok (.aload_n 0, 1) := by decide +kernel
theorem dX2_put_30 : decode cX2_put 30 = .ok (.dup, 1) := by decide +kernel
theorem dX2_put_31 : decode cX2_put 31 = .ok (.getfield 28, 3) := by decide +kernel
theorem dX2_put_34 : decode cX2_put 34 = .ok (.iconst 1, 1) := by decide +kernel
theorem dX2_put_35 : decode cX2_put 35 = .ok (.iadd, 1) := by decide +kernel
theorem dX2_put_36 : decode cX2_put 36 = .ok (.putfield 28, 3) := by decide +kernel
theorem dX2_put_39 : decode cX2_put 39 = .ok (.return_, 1) := by decide +kernel
theorem dX2_worth_0 : decode cX2_worth 0 = .ok (.aload_n 0, 1) := by decide +kernel
theorem dX2_worth_1 : decode cX2_worth 1 = .ok (.iload_n 1, 1) := by decide +kernel
theorem dX2_worth_2 : decode cX2_worth 2 = .ok (.invokevirtual 35, 3) := by decide +kernel
theorem dX2_worth_5 : decode cX2_worth 5 = .ok (.ifCond .ne 7, 3) := by decide +kernel
theorem dX2_worth_8 : decode cX2_worth 8 = .ok (.ldc2_w 39, 3) := by decide +kernel
theorem dX2_worth_11 : decode cX2_worth 11 = .ok (.lreturn, 1) := by decide +kernel
theorem dX2_worth_12 : decode cX2_worth 12 = .ok (.iconst 0, 1) := by decide +kernel
theorem dX2_worth_13 : decode cX2_worth 13 = .ok (.istore_n 3, 1) := by decide +kernel
theorem dX2_worth_14 : decode cX2_worth 14 = .ok (.aload_n 0, 1) := by decide +kernel
theorem dX2_worth_15 : decode cX2_worth 15 = .ok (.getfield 18, 3) := by decide +kernel
theorem dX2_worth_18 : decode cX2_worth 18 = .ok (.iload_n 1, 1) := by decide +kernel
theorem dX2_worth_19 : decode cX2_worth 19 = .ok (.iaload, 1) := by decide +kernel
theorem dX2_worth_20 : decode cX2_worth 20 = .ok (.istore 4, 2) := by decide +kernel
theorem dX2_worth_22 : decode cX2_worth 22 = .ok (.iload 4, 2) := by decide +kernel
theorem dX2_worth_24 : decode cX2_worth 24 = .ok (.aload_n 0, 1) := by decide +kernel
theorem dX2_worth_25 : decode cX2_worth 25 = .ok (.getfield 21, 3) := by decide +kernel
theorem dX2_worth_28 : decode cX2_worth 28 = .ok (.iload_n 1, 1) := by decide +kernel
theorem dX2_worth_29 : decode cX2_worth 29 = .ok (.iaload, 1) := by decide +kernel
theorem dX2_worth_30 : decode cX2_worth 30 = .ok (.if_icmp .ge 196, 3) := by decide +kernel
theorem dX2_worth_33 : decode cX2_worth 33 = .ok (.iload 4, 2) := by decide +kernel
theorem dX2_worth_35 : decode cX2_worth 35 = .ok (.bipush 64, 2) := by decide +kernel
theorem dX2_worth_37 : decode cX2_worth 37 = .ok (.if_icmp .ge 189, 3) := by decide +kernel
theorem dX2_worth_40 : decode cX2_worth 40 = .ok (.aload_n 0, 1) := by decide +kernel
theorem dX2_worth_41 : decode cX2_worth 41 = .ok (.getfield 9, 3) := by decide +kernel
theorem dX2_worth_44 : decode cX2_worth 44 = .ok (.iload 4, 2) := by decide +kernel
theorem dX2_worth_46 : decode cX2_worth 46 = .ok (.iaload, 1) := by decide +kernel
theorem dX2_worth_47 : decode cX2_worth 47 = .ok (.istore 5, 2) := by decide +kernel
theorem dX2_worth_49 : decode cX2_worth 49 = .ok (.iload 5, 2) := by decide +kernel
theorem dX2_worth_51 : decode cX2_worth 51 = .ok (.bipush 21, 2) := by decide +kernel
theorem dX2_worth_53 : decode cX2_worth 53 = .ok (.if_icmp .eq 17, 3) := by decide +kernel
theorem dX2_worth_56 : decode cX2_worth 56 = .ok (.iload 5, 2) := by decide +kernel
theorem dX2_worth_58 : decode cX2_worth 58 = .ok (.bipush 13, 2) := by decide +kernel
theorem dX2_worth_60 : decode cX2_worth 60 = .ok (.if_icmp .lt 57, 3) := by decide +kernel
theorem dX2_worth_63 : decode cX2_worth 63 = .ok (.iload 5, 2) := by decide +kernel
theorem dX2_worth_65 : decode cX2_worth 65 = .ok (.bipush 19, 2) := by decide +kernel
theorem dX2_worth_67 : decode cX2_worth 67 = .ok (.if_icmp .gt 50, 3) := by decide +kernel
theorem dX2_worth_70 : decode cX2_worth 70 = .ok (.iload_n 3, 1) := by decide +kernel
theorem dX2_worth_71 : decode cX2_worth 71 = .ok (.bipush 64, 2) := by decide +kernel
theorem dX2_worth_73 : decode cX2_worth 73 = .ok (.if_icmp .lt 7, 3) := by decide +kernel
theorem dX2_worth_76 : decode cX2_worth 76 = .ok (.ldc2_w 39, 3) := by decide +kernel
theorem dX2_worth_79 : decode cX2_worth 79 = .ok (.lreturn, 1) := by decide +kernel
theorem dX2_worth_80 : decode cX2_worth 80 = .ok (.aload_n 0, 1) := by decide +kernel
theorem dX2_worth_81 : decode cX2_worth 81 = .ok (.getfield 24, 3) := by decide +kernel
theorem dX2_worth_84 : decode cX2_worth 84 = .ok (.iload_n 3, 1) := by decide +kernel
theorem dX2_worth_85 : decode cX2_worth 85 = .ok (.iload 5, 2) := by decide +kernel
theorem dX2_worth_87 : decode cX2_worth 87 = .ok (.bipush 21, 2) := by decide +kernel
theorem dX2_worth_89 : decode cX2_worth 89 = .ok (.if_icmp .ne 14, 3) := by decide +kernel
theorem dX2_worth_92 : decode cX2_worth 92 = .ok (.aload_n 0, 1) := by decide +kernel
theorem dX2_worth_93 : decode cX2_worth 93 = .ok (.getfield 15, 3) := by decide +kernel
theorem dX2_worth_96 : decode cX2_worth 96 = .ok (.iload 4, 2) := by decide +kernel
theorem dX2_worth_98 : decode cX2_worth 98 = .ok (.iaload, 1) := by decide +kernel
theorem dX2_worth_99 : decode cX2_worth 99 = .ok (.i2l, 1) := by decide +kernel
theorem dX2_worth_100 : decode cX2_worth 100 = .ok (.goto 10, 3) := by decide +kernel
theorem dX2_worth_103 : decode cX2_worth 103 = .ok (.aload_n 2, 1) := by decide +kernel
theorem dX2_worth_104 : decode cX2_worth 104 = .ok (.iload 5, 2) := by decide +kernel
theorem dX2_worth_106 : decode cX2_worth 106 = .ok (.bipush 13, 2) := by decide +kernel
theorem dX2_worth_108 : decode cX2_worth 108 = .ok (.isub, 1) := by decide +kernel
theorem dX2_worth_109 : decode cX2_worth 109 = .ok (.laload, 1) := by decide +kernel
theorem dX2_worth_110 : decode cX2_worth 110 = .ok (.lastore, 1) := by decide +kernel
theorem dX2_worth_111 : decode cX2_worth 111 = .ok (.iinc 3 1, 3) := by decide +kernel
theorem dX2_worth_114 : decode cX2_worth 114 = .ok (.goto 106, 3) := by decide +kernel
theorem dX2_worth_117 : decode cX2_worth 117 = .ok (.iload 5, 2) := by decide +kernel
theorem dX2_worth_119 : decode cX2_worth 119 = .ok (.bipush 12, 2) := by decide +kernel
theorem dX2_worth_121 : decode cX2_worth 121 = .ok (.if_icmp .ne 41, 3) := by decide +kernel
theorem dX2_worth_124 : decode cX2_worth 124 = .ok (.iload_n 3, 1) := by decide +kernel
theorem dX2_worth_125 : decode cX2_worth 125 = .ok (.iconst 1, 1) := by decide +kernel
theorem dX2_worth_126 : decode cX2_worth 126 = .ok (.if_icmp .ge 7, 3) := by decide +kernel
theorem dX2_worth_129 : decode cX2_worth 129 = .ok (.ldc2_w 39, 3) := by decide +kernel
theorem dX2_worth_132 : decode cX2_worth 132 = .ok (.lreturn, 1) := by decide +kernel
theorem dX2_worth_133 : decode cX2_worth 133 = .ok (.aload_n 0, 1) := by decide +kernel
theorem dX2_worth_134 : decode cX2_worth 134 = .ok (.getfield 24, 3) := by decide +kernel
theorem dX2_worth_137 : decode cX2_worth 137 = .ok (.iload_n 3, 1) := by decide +kernel
theorem dX2_worth_138 : decode cX2_worth 138 = .ok (.iconst 1, 1) := by decide +kernel
theorem dX2_worth_139 : decode cX2_worth 139 = .ok (.isub, 1) := by decide +kernel
theorem dX2_worth_140 : decode cX2_worth 140 = .ok (.aload_n 0, 1) := by decide +kernel
theorem dX2_worth_141 : decode cX2_worth 141 = .ok (.getfield 24, 3) := by decide +kernel
theorem dX2_worth_144 : decode cX2_worth 144 = .ok (.iload_n 3, 1) := by decide +kernel
theorem dX2_worth_145 : decode cX2_worth 145 = .ok (.iconst 1, 1) := by decide +kernel
theorem dX2_worth_146 : decode cX2_worth 146 = .ok (.isub, 1) := by decide +kernel
theorem dX2_worth_147 : decode cX2_worth 147 = .ok (.laload, 1) := by decide +kernel
theorem dX2_worth_148 : decode cX2_worth 148 = .ok (.lconst 0, 1) := by decide +kernel
theorem dX2_worth_149 : decode cX2_worth 149 = .ok (.lcmp, 1) := by decide +kernel
theorem dX2_worth_150 : decode cX2_worth 150 = .ok (.ifCond .ne 7, 3) := by decide +kernel
theorem dX2_worth_153 : decode cX2_worth 153 = .ok (.lconst 1, 1) := by decide +kernel
theorem dX2_worth_154 : decode cX2_worth 154 = .ok (.goto 4, 3) := by decide +kernel
theorem dX2_worth_157 : decode cX2_worth 157 = .ok (.lconst 0, 1) := by decide +kernel
theorem dX2_worth_158 : decode cX2_worth 158 = .ok (.lastore, 1) := by decide +kernel
theorem dX2_worth_159 : decode cX2_worth 159 = .ok (.goto 61, 3) := by decide +kernel
theorem dX2_worth_162 : decode cX2_worth 162 = .ok (.iload_n 3, 1) := by decide +kernel
theorem dX2_worth_163 : decode cX2_worth 163 = .ok (.iconst 2, 1) := by decide +kernel
theorem dX2_worth_164 : decode cX2_worth 164 = .ok (.if_icmp .ge 7, 3) := by decide +kernel
theorem dX2_worth_167 : decode cX2_worth 167 = .ok (.ldc2_w 39, 3) := by decide +kernel
theorem dX2_worth_170 : decode cX2_worth 170 = .ok (.lreturn, 1) := by decide +kernel
theorem dX2_worth_171 : decode cX2_worth 171 = .ok (.iinc 3 (-1), 3) := by decide +kernel
theorem dX2_worth_174 : decode cX2_worth 174 = .ok (.aload_n 0, 1) := by decide +kernel
theorem dX2_worth_175 : decode cX2_worth 175 = .ok (.getfield 24, 3) := by decide +kernel
theorem dX2_worth_178 : decode cX2_worth 178 = .ok (.iload_n 3, 1) := by decide +kernel
theorem dX2_worth_179 : decode cX2_worth 179 = .ok (.iconst 1, 1) := by decide +kernel
theorem dX2_worth_180 : decode cX2_worth 180 = .ok (.isub, 1) := by decide +kernel
theorem dX2_worth_181 : decode cX2_worth 181 = .ok (.iload 5, 2) := by decide +kernel
theorem dX2_worth_183 : decode cX2_worth 183 = .ok (.aload_n 0, 1) := by decide +kernel
theorem dX2_worth_184 : decode cX2_worth 184 = .ok (.getfield 24, 3) := by decide +kernel
theorem dX2_worth_187 : decode cX2_worth 187 = .ok (.iload_n 3, 1) := by decide +kernel
theorem dX2_worth_188 : decode cX2_worth 188 = .ok (.iconst 1, 1) := by decide +kernel
theorem dX2_worth_189 : decode cX2_worth 189 = .ok (.isub, 1) := by decide +kernel
theorem dX2_worth_190 : decode cX2_worth 190 = .ok (.laload, 1) := by decide +kernel
theorem dX2_worth_191 : decode cX2_worth 191 = .ok (.aload_n 0, 1) := by decide +kernel
theorem dX2_worth_192 : decode cX2_worth 192 = .ok (.getfield 24, 3) := by decide +kernel
theorem dX2_worth_195 : decode cX2_worth 195 = .ok (.iload_n 3, 1) := by decide +kernel
theorem dX2_worth_196 : decode cX2_worth 196 = .ok (.laload, 1) := by decide +kernel
theorem dX2_worth_197 : decode cX2_worth 197 = .ok (.invokestatic 41, 3) := by decide +kernel
theorem dX2_worth_200 : decode cX2_worth 200 = .ok (.lastore, 1) := by decide +kernel
theorem dX2_worth_201 : decode cX2_worth 201 = .ok (.aload_n 0, 1) := by decide +kernel
theorem dX2_worth_202 : decode cX2_worth 202 = .ok (.getfield 24, 3) := by decide +kernel
theorem dX2_worth_205 : decode cX2_worth 205 = .ok (.iload_n 3, 1) := by decide +kernel
theorem dX2_worth_206 : decode cX2_worth 206 = .ok (.iconst 1, 1) := by decide +kernel
theorem dX2_worth_207 : decode cX2_worth 207 = .ok (.isub, 1) := by decide +kernel
theorem dX2_worth_208 : decode cX2_worth 208 = .ok (.laload, 1) := by decide +kernel
theorem dX2_worth_209 : decode cX2_worth 209 = .ok (.ldc2_w 39, 3) := by decide +kernel
theorem dX2_worth_212 : decode cX2_worth 212 = .ok (.lcmp, 1) := by decide +kernel
theorem dX2_worth_213 : decode cX2_worth 213 = .ok (.ifCond .ne 7, 3) := by decide +kernel
theorem dX2_worth_216 : decode cX2_worth 216 = .ok (.ldc2_w 39, 3) := by decide +kernel
theorem dX2_worth_219 : decode cX2_worth 219 = .ok (.lreturn, 1) := by decide +kernel
theorem dX2_worth_220 : decode cX2_worth 220 = .ok (.iinc 4 1, 3) := by decide +kernel
theorem dX2_worth_223 : decode cX2_worth 223 = .ok (.goto (-201), 3) := by decide +kernel
theorem dX2_worth_226 : decode cX2_worth 226 = .ok (.iload_n 3, 1) := by decide +kernel
theorem dX2_worth_227 : decode cX2_worth 227 = .ok (.iconst 1, 1) := by decide +kernel
theorem dX2_worth_228 : decode cX2_worth 228 = .ok (.if_icmp .ne 12, 3) := by decide +kernel
theorem dX2_worth_231 : decode cX2_worth 231 = .ok (.aload_n 0, 1) := by decide +kernel
theorem dX2_worth_232 : decode cX2_worth 232 = .ok (.getfield 24, 3) := by decide +kernel
theorem dX2_worth_235 : decode cX2_worth 235 = .ok (.iconst 0, 1) := by decide +kernel
theorem dX2_worth_236 : decode cX2_worth 236 = .ok (.laload, 1) := by decide +kernel
theorem dX2_worth_237 : decode cX2_worth 237 = .ok (.goto 6, 3) := by decide +kernel
theorem dX2_worth_240 : decode cX2_worth 240 = .ok (.ldc2_w 39, 3) := by decide +kernel
theorem dX2_worth_243 : decode cX2_worth 243 = .ok (.lreturn, 1) := by decide +kernel
theorem dX2_joined_0 : decode cX2_joined 0 = .ok (.iload_n 0, 1) := by decide +kernel
theorem dX2_joined_1 : decode cX2_joined 1 = .ok (.tableswitch 344 10 34 #[115, 137, 344, 344, 344, 344, 344, 344, 344, 344, 344, 344, 344, 344, 344, 255, 263, 271, 326, 159, 175, 191, 207, 223, 239], 115) := by decide +kernel
theorem dX2_joined_116 : decode cX2_joined 116 = .ok (.lload_n 1, 1) := by decide +kernel
theorem dX2_joined_117 : decode cX2_joined 117 = .ok (.lconst 0, 1) := by decide +kernel
theorem dX2_joined_118 : decode cX2_joined 118 = .ok (.lcmp, 1) := by decide +kernel
theorem dX2_joined_119 : decode cX2_joined 119 = .ok (.ifCond .ne 9, 3) := by decide +kernel
theorem dX2_joined_122 : decode cX2_joined 122 = .ok (.lload_n 3, 1) := by decide +kernel
theorem dX2_joined_123 : decode cX2_joined 123 = .ok (.lconst 0, 1) := by decide +kernel
theorem dX2_joined_124 : decode cX2_joined 124 = .ok (.lcmp, 1) := by decide +kernel
theorem dX2_joined_125 : decode cX2_joined 125 = .ok (.ifCond .eq 7, 3) := by decide +kernel
theorem dX2_joined_128 : decode cX2_joined 128 = .ok (.lconst 1, 1) := by decide +kernel
theorem dX2_joined_129 : decode cX2_joined 129 = .ok (.goto 4, 3) := by decide +kernel
theorem dX2_joined_132 : decode cX2_joined 132 = .ok (.lconst 0, 1) := by decide +kernel
theorem dX2_joined_133 : decode cX2_joined 133 = .ok (.lstore 5, 2) := by decide +kernel
theorem dX2_joined_135 : decode cX2_joined 135 = .ok (.goto 214, 3) := by decide +kernel
theorem dX2_joined_138 : decode cX2_joined 138 = .ok (.lload_n 1, 1) := by decide +kernel
theorem dX2_joined_139 : decode cX2_joined 139 = .ok (.lconst 0, 1) := by decide +kernel
theorem dX2_joined_140 : decode cX2_joined 140 = .ok (.lcmp, 1) := by decide +kernel
theorem dX2_joined_141 : decode cX2_joined 141 = .ok (.ifCond .eq 13, 3) := by decide +kernel
theorem dX2_joined_144 : decode cX2_joined 144 = .ok (.lload_n 3, 1) := by decide +kernel
theorem dX2_joined_145 : decode cX2_joined 145 = .ok (.lconst 0, 1) := by decide +kernel
theorem dX2_joined_146 : decode cX2_joined 146 = .ok (.lcmp, 1) := by decide +kernel
theorem dX2_joined_147 : decode cX2_joined 147 = .ok (.ifCond .eq 7, 3) := by decide +kernel
theorem dX2_joined_150 : decode cX2_joined 150 = .ok (.lconst 1, 1) := by decide +kernel
theorem dX2_joined_151 : decode cX2_joined 151 = .ok (.goto 4, 3) := by decide +kernel
theorem dX2_joined_154 : decode cX2_joined 154 = .ok (.lconst 0, 1) := by decide +kernel
theorem dX2_joined_155 : decode cX2_joined 155 = .ok (.lstore 5, 2) := by decide +kernel
theorem dX2_joined_157 : decode cX2_joined 157 = .ok (.goto 192, 3) := by decide +kernel
theorem dX2_joined_160 : decode cX2_joined 160 = .ok (.lload_n 1, 1) := by decide +kernel
theorem dX2_joined_161 : decode cX2_joined 161 = .ok (.lload_n 3, 1) := by decide +kernel
theorem dX2_joined_162 : decode cX2_joined 162 = .ok (.lcmp, 1) := by decide +kernel
theorem dX2_joined_163 : decode cX2_joined 163 = .ok (.ifCond .ge 7, 3) := by decide +kernel
theorem dX2_joined_166 : decode cX2_joined 166 = .ok (.lconst 1, 1) := by decide +kernel
theorem dX2_joined_167 : decode cX2_joined 167 = .ok (.goto 4, 3) := by decide +kernel
theorem dX2_joined_170 : decode cX2_joined 170 = .ok (.lconst 0, 1) := by decide +kernel
theorem dX2_joined_171 : decode cX2_joined 171 = .ok (.lstore 5, 2) := by decide +kernel
theorem dX2_joined_173 : decode cX2_joined 173 = .ok (.goto 176, 3) := by decide +kernel
theorem dX2_joined_176 : decode cX2_joined 176 = .ok (.lload_n 1, 1) := by decide +kernel
theorem dX2_joined_177 : decode cX2_joined 177 = .ok (.lload_n 3, 1) := by decide +kernel
theorem dX2_joined_178 : decode cX2_joined 178 = .ok (.lcmp, 1) := by decide +kernel
theorem dX2_joined_179 : decode cX2_joined 179 = .ok (.ifCond .gt 7, 3) := by decide +kernel
theorem dX2_joined_182 : decode cX2_joined 182 = .ok (.lconst 1, 1) := by decide +kernel
theorem dX2_joined_183 : decode cX2_joined 183 = .ok (.goto 4, 3) := by decide +kernel
theorem dX2_joined_186 : decode cX2_joined 186 = .ok (.lconst 0, 1) := by decide +kernel
theorem dX2_joined_187 : decode cX2_joined 187 = .ok (.lstore 5, 2) := by decide +kernel
theorem dX2_joined_189 : decode cX2_joined 189 = .ok (.goto 160, 3) := by decide +kernel
theorem dX2_joined_192 : decode cX2_joined 192 = .ok (.lload_n 1, 1) := by decide +kernel
theorem dX2_joined_193 : decode cX2_joined 193 = .ok (.lload_n 3, 1) := by decide +kernel
theorem dX2_joined_194 : decode cX2_joined 194 = .ok (.lcmp, 1) := by decide +kernel
theorem dX2_joined_195 : decode cX2_joined 195 = .ok (.ifCond .ne 7, 3) := by decide +kernel
theorem dX2_joined_198 : decode cX2_joined 198 = .ok (.lconst 1, 1) := by decide +kernel
theorem dX2_joined_199 : decode cX2_joined 199 = .ok (.goto 4, 3) := by decide +kernel
theorem dX2_joined_202 : decode cX2_joined 202 = .ok (.lconst 0, 1) := by decide +kernel
theorem dX2_joined_203 : decode cX2_joined 203 = .ok (.lstore 5, 2) := by decide +kernel
theorem dX2_joined_205 : decode cX2_joined 205 = .ok (.goto 144, 3) := by decide +kernel
theorem dX2_joined_208 : decode cX2_joined 208 = .ok (.lload_n 1, 1) := by decide +kernel
theorem dX2_joined_209 : decode cX2_joined 209 = .ok (.lload_n 3, 1) := by decide +kernel
theorem dX2_joined_210 : decode cX2_joined 210 = .ok (.lcmp, 1) := by decide +kernel
theorem dX2_joined_211 : decode cX2_joined 211 = .ok (.ifCond .eq 7, 3) := by decide +kernel
theorem dX2_joined_214 : decode cX2_joined 214 = .ok (.lconst 1, 1) := by decide +kernel
theorem dX2_joined_215 : decode cX2_joined 215 = .ok (.goto 4, 3) := by decide +kernel
theorem dX2_joined_218 : decode cX2_joined 218 = .ok (.lconst 0, 1) := by decide +kernel
theorem dX2_joined_219 : decode cX2_joined 219 = .ok (.lstore 5, 2) := by decide +kernel
theorem dX2_joined_221 : decode cX2_joined 221 = .ok (.goto 128, 3) := by decide +kernel
theorem dX2_joined_224 : decode cX2_joined 224 = .ok (.lload_n 1, 1) := by decide +kernel
theorem dX2_joined_225 : decode cX2_joined 225 = .ok (.lload_n 3, 1) := by decide +kernel
theorem dX2_joined_226 : decode cX2_joined 226 = .ok (.lcmp, 1) := by decide +kernel
theorem dX2_joined_227 : decode cX2_joined 227 = .ok (.ifCond .lt 7, 3) := by decide +kernel
theorem dX2_joined_230 : decode cX2_joined 230 = .ok (.lconst 1, 1) := by decide +kernel
theorem dX2_joined_231 : decode cX2_joined 231 = .ok (.goto 4, 3) := by decide +kernel
theorem dX2_joined_234 : decode cX2_joined 234 = .ok (.lconst 0, 1) := by decide +kernel
theorem dX2_joined_235 : decode cX2_joined 235 = .ok (.lstore 5, 2) := by decide +kernel
theorem dX2_joined_237 : decode cX2_joined 237 = .ok (.goto 112, 3) := by decide +kernel
theorem dX2_joined_240 : decode cX2_joined 240 = .ok (.lload_n 1, 1) := by decide +kernel
theorem dX2_joined_241 : decode cX2_joined 241 = .ok (.lload_n 3, 1) := by decide +kernel
theorem dX2_joined_242 : decode cX2_joined 242 = .ok (.lcmp, 1) := by decide +kernel
theorem dX2_joined_243 : decode cX2_joined 243 = .ok (.ifCond .le 7, 3) := by decide +kernel
theorem dX2_joined_246 : decode cX2_joined 246 = .ok (.lconst 1, 1) := by decide +kernel
theorem dX2_joined_247 : decode cX2_joined 247 = .ok (.goto 4, 3) := by decide +kernel
theorem dX2_joined_250 : decode cX2_joined 250 = .ok (.lconst 0, 1) := by decide +kernel
theorem dX2_joined_251 : decode cX2_joined 251 = .ok (.lstore 5, 2) := by decide +kernel
theorem dX2_joined_253 : decode cX2_joined 253 = .ok (.goto 96, 3) := by decide +kernel
theorem dX2_joined_256 : decode cX2_joined 256 = .ok (.lload_n 1, 1) := by decide +kernel
theorem dX2_joined_257 : decode cX2_joined 257 = .ok (.lload_n 3, 1) := by decide +kernel
theorem dX2_joined_258 : decode cX2_joined 258 = .ok (.ladd, 1) := by decide +kernel
theorem dX2_joined_259 : decode cX2_joined 259 = .ok (.lstore 5, 2) := by decide +kernel
theorem dX2_joined_261 : decode cX2_joined 261 = .ok (.goto 88, 3) := by decide +kernel
theorem dX2_joined_264 : decode cX2_joined 264 = .ok (.lload_n 1, 1) := by decide +kernel
theorem dX2_joined_265 : decode cX2_joined 265 = .ok (.lload_n 3, 1) := by decide +kernel
theorem dX2_joined_266 : decode cX2_joined 266 = .ok (.lsub, 1) := by decide +kernel
theorem dX2_joined_267 : decode cX2_joined 267 = .ok (.lstore 5, 2) := by decide +kernel
theorem dX2_joined_269 : decode cX2_joined 269 = .ok (.goto 80, 3) := by decide +kernel
theorem dX2_joined_272 : decode cX2_joined 272 = .ok (.lload_n 1, 1) := by decide +kernel
theorem dX2_joined_273 : decode cX2_joined 273 = .ok (.lconst 0, 1) := by decide +kernel
theorem dX2_joined_274 : decode cX2_joined 274 = .ok (.lcmp, 1) := by decide +kernel
theorem dX2_joined_275 : decode cX2_joined 275 = .ok (.ifCond .ge 8, 3) := by decide +kernel
theorem dX2_joined_278 : decode cX2_joined 278 = .ok (.lload_n 1, 1) := by decide +kernel
theorem dX2_joined_279 : decode cX2_joined 279 = .ok (.lneg, 1) := by decide +kernel
theorem dX2_joined_280 : decode cX2_joined 280 = .ok (.goto 4, 3) := by decide +kernel
theorem dX2_joined_283 : decode cX2_joined 283 = .ok (.lload_n 1, 1) := by decide +kernel
theorem dX2_joined_284 : decode cX2_joined 284 = .ok (.lstore 7, 2) := by decide +kernel
theorem dX2_joined_286 : decode cX2_joined 286 = .ok (.lload 7, 2) := by decide +kernel
theorem dX2_joined_288 : decode cX2_joined 288 = .ok (.lconst 0, 1) := by decide +kernel
theorem dX2_joined_289 : decode cX2_joined 289 = .ok (.lcmp, 1) := by decide +kernel
theorem dX2_joined_290 : decode cX2_joined 290 = .ok (.ifCond .eq 29, 3) := by decide +kernel
theorem dX2_joined_293 : decode cX2_joined 293 = .ok (.lload_n 3, 1) := by decide +kernel
theorem dX2_joined_294 : decode cX2_joined 294 = .ok (.lconst 0, 1) := by decide +kernel
theorem dX2_joined_295 : decode cX2_joined 295 = .ok (.lcmp, 1) := by decide +kernel
theorem dX2_joined_296 : decode cX2_joined 296 = .ok (.ifCond .ge 8, 3) := by decide +kernel
theorem dX2_joined_299 : decode cX2_joined 299 = .ok (.lload_n 3, 1) := by decide +kernel
theorem dX2_joined_300 : decode cX2_joined 300 = .ok (.lneg, 1) := by decide +kernel
theorem dX2_joined_301 : decode cX2_joined 301 = .ok (.goto 4, 3) := by decide +kernel
theorem dX2_joined_304 : decode cX2_joined 304 = .ok (.lload_n 3, 1) := by decide +kernel
theorem dX2_joined_305 : decode cX2_joined 305 = .ok (.ldc2_w 45, 3) := by decide +kernel
theorem dX2_joined_308 : decode cX2_joined 308 = .ok (.lload 7, 2) := by decide +kernel
theorem dX2_joined_310 : decode cX2_joined 310 = .ok (.ldiv, 1) := by decide +kernel
theorem dX2_joined_311 : decode cX2_joined 311 = .ok (.lcmp, 1) := by decide +kernel
theorem dX2_joined_312 : decode cX2_joined 312 = .ok (.ifCond .le 7, 3) := by decide +kernel
theorem dX2_joined_315 : decode cX2_joined 315 = .ok (.ldc2_w 39, 3) := by decide +kernel
theorem dX2_joined_318 : decode cX2_joined 318 = .ok (.lreturn, 1) := by decide +kernel
theorem dX2_joined_319 : decode cX2_joined 319 = .ok (.lload_n 1, 1) := by decide +kernel
theorem dX2_joined_320 : decode cX2_joined 320 = .ok (.lload_n 3, 1) := by decide +kernel
theorem dX2_joined_321 : decode cX2_joined 321 = .ok (.lmul, 1) := by decide +kernel
theorem dX2_joined_322 : decode cX2_joined 322 = .ok (.lstore 5, 2) := by decide +kernel
theorem dX2_joined_324 : decode cX2_joined 324 = .ok (.goto 25, 3) := by decide +kernel
theorem dX2_joined_327 : decode cX2_joined 327 = .ok (.lload_n 3, 1) := by decide +kernel
theorem dX2_joined_328 : decode cX2_joined 328 = .ok (.lconst 0, 1) := by decide +kernel
theorem dX2_joined_329 : decode cX2_joined 329 = .ok (.lcmp, 1) := by decide +kernel
theorem dX2_joined_330 : decode cX2_joined 330 = .ok (.ifCond .ne 7, 3) := by decide +kernel
theorem dX2_joined_333 : decode cX2_joined 333 = .ok (.ldc2_w 39, 3) := by decide +kernel
theorem dX2_joined_336 : decode cX2_joined 336 = .ok (.lreturn, 1) := by decide +kernel
theorem dX2_joined_337 : decode cX2_joined 337 = .ok (.lload_n 1, 1) := by decide +kernel
theorem dX2_joined_338 : decode cX2_joined 338 = .ok (.lload_n 3, 1) := by decide +kernel
theorem dX2_joined_339 : decode cX2_joined 339 = .ok (.ldiv, 1) := by decide +kernel
theorem dX2_joined_340 : decode cX2_joined 340 = .ok (.lstore 5, 2) := by decide +kernel
theorem dX2_joined_342 : decode cX2_joined 342 = .ok (.goto 7, 3) := by decide +kernel
theorem dX2_joined_345 : decode cX2_joined 345 = .ok (.ldc2_w 39, 3) := by decide +kernel
theorem dX2_joined_348 : decode cX2_joined 348 = .ok (.lreturn, 1) := by decide +kernel
theorem dX2_joined_349 : decode cX2_joined 349 = .ok (.lload 5, 2) := by decide +kernel
theorem dX2_joined_351 : decode cX2_joined 351 = .ok (.ldc2_w 45, 3) := by decide +kernel
theorem dX2_joined_354 : decode cX2_joined 354 = .ok (.lcmp, 1) := by decide +kernel
theorem dX2_joined_355 : decode cX2_joined 355 = .ok (.ifCond .gt 12, 3) := by decide +kernel
theorem dX2_joined_358 : decode cX2_joined 358 = .ok (.lload 5, 2) := by decide +kernel
theorem dX2_joined_360 : decode cX2_joined 360 = .ok (.ldc2_w 47, 3) := by decide +kernel
theorem dX2_joined_363 : decode cX2_joined 363 = .ok (.lcmp, 1) := by decide +kernel
theorem dX2_joined_364 : decode cX2_joined 364 = .ok (.ifCond .ge 9, 3) := by decide +kernel
theorem dX2_joined_367 : decode cX2_joined 367 = .ok (.ldc2_w 39, 3) := by decide +kernel
theorem dX2_joined_370 : decode cX2_joined 370 = .ok (.goto 5, 3) := by decide +kernel
theorem dX2_joined_373 : decode cX2_joined 373 = .ok (.lload 5, 2) := by decide +kernel
theorem dX2_joined_375 : decode cX2_joined 375 = .ok (.lreturn, 1) := by decide +kernel
theorem dX3_init_0 : decode cX3_init 0 = .ok (.aload_n 0, 1) := by decide +kernel
theorem dX3_init_1 : decode cX3_init 1 = .ok (.invokespecial 3, 3) := by decide +kernel
theorem dX3_init_4 : decode cX3_init 4 = .ok (.aload_n 0, 1) := by decide +kernel
theorem dX3_init_5 : decode cX3_init 5 = .ok (.iconst 0, 1) := by decide +kernel
theorem dX3_init_6 : decode cX3_init 6 = .ok (.putfield 9, 3) := by decide +kernel
theorem dX3_init_9 : decode cX3_init 9 = .ok (.aload_n 0, 1) := by decide +kernel
theorem dX3_init_10 : decode cX3_init 10 = .ok (.iconst 0, 1) := by decide +kernel
theorem dX3_init_11 : decode cX3_init 11 = .ok (.putfield 15, 3) := by decide +kernel
theorem dX3_init_14 : decode cX3_init 14 = .ok (.aload_n 0, 1) := by decide +kernel
theorem dX3_init_15 : decode cX3_init 15 = .ok (.iconst (-1), 1) := by decide +kernel
theorem dX3_init_16 : decode cX3_init 16 = .ok (.putfield 19, 3) := by decide +kernel
theorem dX3_init_19 : decode cX3_init 19 = .ok (.aload_n 0, 1) := by decide +kernel
theorem dX3_init_20 : decode cX3_init 20 = .ok (.iconst 1, 1) := by decide +kernel
theorem dX3_init_21 : decode cX3_init 21 = .ok (.putfield 22, 3) := by decide +kernel
theorem dX3_init_24 : decode cX3_init 24 = .ok (.aload_n 0, 1) := by decide +kernel
theorem dX3_init_25 : decode cX3_init 25 = .ok (.bipush 7, 2) := by decide +kernel
theorem dX3_init_27 : decode cX3_init 27 = .ok (.newarray .long, 2) := by decide +kernel
theorem dX3_init_29 : decode cX3_init 29 = .ok (.putfield 25, 3) := by decide +kernel
theorem dX3_init_32 : decode cX3_init 32 = .ok (.aload_n 0, 1) := by decide +kernel
theorem dX3_init_33 : decode cX3_init 33 = .ok (.bipush 8, 2) := by decide +kernel
theorem dX3_init_35 : decode cX3_init 35 = .ok (.newarray .int, 2) := by decide +kernel
theorem dX3_init_37 : decode cX3_init 37 = .ok (.putfield 29, 3) := by decide +kernel
theorem dX3_init_40 : decode cX3_init 40 = .ok (.aload_n 0, 1) := by decide +kernel
theorem dX3_init_41 : decode cX3_init 41 = .ok (.aload_n 1, 1) := by decide +kernel
theorem dX3_init_42 : decode cX3_init 42 = .ok (.putfield 33, 3) := by decide +kernel
theorem dX3_init_45 : decode cX3_init 45 = .ok (.aload_n 0, 1) := by decide +kernel
theorem dX3_init_46 : decode cX3_init 46 = .ok (.aload_n 2, 1) := by decide +kernel
theorem dX3_init_47 : decode cX3_init 47 = .ok (.putfield 37, 3) := by decide +kernel
theorem dX3_init_50 : decode cX3_init 50 = .ok (.return_, 1) := by decide +kernel
theorem dX3_ready_0 : decode cX3_ready 0 = .ok (.aload_n 0, 1) := by decide +kernel
theorem dX3_ready_1 : decode cX3_ready 1 = .ok (.aload_n 1, 1) := by decide +kernel
theorem dX3_ready_2 : decode cX3_ready 2 = .ok (.putfield 33, 3) := by decide +kernel
theorem dX3_ready_5 : decode cX3_ready 5 = .ok (.aload_n 0, 1) := by decide +kernel
theorem dX3_ready_6 : decode cX3_ready 6 = .ok (.aload_n 2, 1) := by decide +kernel
theorem dX3_ready_7 : decode cX3_ready 7 = .ok (.putfield 37, 3) := by decide +kernel
theorem dX3_ready_10 : decode cX3_ready 10 = .ok (.aload_n 0, 1) := by decide +kernel
theorem dX3_ready_11 : decode cX3_ready 11 = .ok (.iconst 0, 1) := by decide +kernel
theorem dX3_ready_12 : decode cX3_ready 12 = .ok (.putfield 9, 3) := by decide +kernel
theorem dX3_ready_15 : decode cX3_ready 15 = .ok (.aload_n 0, 1) := by decide +kernel
theorem dX3_ready_16 : decode cX3_ready 16 = .ok (.iconst 0, 1) := by decide +kernel
theorem dX3_ready_17 : decode cX3_ready 17 = .ok (.putfield 15, 3) := by decide +kernel
theorem dX3_ready_20 : decode cX3_ready 20 = .ok (.aload_n 0, 1) := by decide +kernel
theorem dX3_ready_21 : decode cX3_ready 21 = .ok (.iconst (-1), 1) := by decide +kernel
theorem dX3_ready_22 : decode cX3_ready 22 = .ok (.putfield 19, 3) := by decide +kernel
theorem dX3_ready_25 : decode cX3_ready 25 = .ok (.aload_n 0, 1) := by decide +kernel
theorem dX3_ready_26 : decode cX3_ready 26 = .ok (.iconst 1, 1) := by decide +kernel
theorem dX3_ready_27 : decode cX3_ready 27 = .ok (.putfield 22, 3) := by decide +kernel
theorem dX3_ready_30 : decode cX3_ready 30 = .ok (.return_, 1) := by decide +kernel
theorem dX3_pass_0 : decode cX3_pass 0 = .ok (.iconst 0, 1) := by decide +kernel
theorem dX3_pass_1 : decode cX3_pass 1 = .ok (.istore_n 2, 1) := by decide +kernel
theorem dX3_pass_2 : decode cX3_pass 2 = .ok (.iload_n 2, 1) := by decide +kernel
theorem dX3_pass_3 : decode cX3_pass 3 = .ok (.iload_n 1, 1) := by decide +kernel
theorem dX3_pass_4 : decode cX3_pass 4 = .ok (.if_icmp .ge 69, 3) := by decide +kernel
theorem dX3_pass_7 : decode cX3_pass 7 = .ok (.aload_n 0, 1) := by decide +kernel
theorem dX3_pass_8 : decode cX3_pass 8 = .ok (.invokevirtual 41, 3) := by decide +kernel
theorem dX3_pass_11 : decode cX3_pass 11 = .ok (.iconst 0, 1) := by decide +kernel
theorem dX3_pass_12 : decode cX3_pass 12 = .ok (.istore_n 3, 1) := by decide +kernel
theorem dX3_pass_13 : decode cX3_pass 13 = .ok (.iload_n 3, 1) := by decide +kernel
theorem dX3_pass_14 : decode cX3_pass 14 = .ok (.aload_n 0, 1) := by decide +kernel
theorem dX3_pass_15 : decode cX3_pass 15 = .ok (.getfield 33, 3) := by decide +kernel
theorem dX3_pass_18 : decode cX3_pass 18 = .ok (.getfield 44, 3) := by decide +kernel
theorem dX3_pass_21 : decode cX3_pass 21 = .ok (.if_icmp .ge 22, 3) := by decide +kernel
theorem dX3_pass_24 : decode cX3_pass 24 = .ok (.aload_n 0, 1) := by decide +kernel
theorem dX3_pass_25 : decode cX3_pass 25 = .ok (.iload_n 3, 1) := by decide +kernel
theorem dX3_pass_26 : decode cX3_pass 26 = .ok (.invokevirtual 49, 3) := by decide +kernel
theorem dX3_pass_29 : decode cX3_pass 29 = .ok (.ifCond .eq 8, 3) := by decide +kernel
theorem dX3_pass_32 : decode cX3_pass 32 = .ok (.aload_n 0, 1) := by decide +kernel
theorem dX3_pass_33 : decode cX3_pass 33 = .ok (.iload_n 3, 1) := by decide +kernel
theorem dX3_pass_34 : decode cX3_pass 34 = .ok (.invokevirtual 53, 3) := by decide +kernel
theorem dX3_pass_37 : decode cX3_pass 37 = .ok (.iinc 3 1, 3) := by decide +kernel
theorem dX3_pass_40 : decode cX3_pass 40 = .ok (.goto (-27), 3) := by decide +kernel
theorem dX3_pass_43 : decode cX3_pass 43 = .ok (.aload_n 0, 1) := by decide +kernel
theorem dX3_pass_44 : decode cX3_pass 44 = .ok (.invokevirtual 57, 3) := by decide +kernel
theorem dX3_pass_47 : decode cX3_pass 47 = .ok (.ifCond .eq 7, 3) := by decide +kernel
theorem dX3_pass_50 : decode cX3_pass 50 = .ok (.aload_n 0, 1) := by decide +kernel
theorem dX3_pass_51 : decode cX3_pass 51 = .ok (.invokevirtual 61, 3) := by decide +kernel
theorem dX3_pass_54 : decode cX3_pass 54 = .ok (.aload_n 0, 1) := by decide +kernel
theorem dX3_pass_55 : decode cX3_pass 55 = .ok (.getfield 37, 3) := by decide +kernel
theorem dX3_pass_58 : decode cX3_pass 58 = .ok (.dup, 1) := by decide +kernel
theorem dX3_pass_59 : decode cX3_pass 59 = .ok (.getfield 64, 3) := by decide +kernel
theorem dX3_pass_62 : decode cX3_pass 62 = .ok (.iconst 1, 1) := by decide +kernel
theorem dX3_pass_63 : decode cX3_pass 63 = .ok (.iadd, 1) := by decide +kernel
theorem dX3_pass_64 : decode cX3_pass 64 = .ok (.putfield 64, 3) := by decide +kernel
theorem dX3_pass_67 : decode cX3_pass 67 = .ok (.iinc 2 1, 3) := by decide +kernel
theorem dX3_pass_70 : decode cX3_pass 70 = .ok (.goto (-68), 3) := by decide +kernel
theorem dX3_pass_73 : decode cX3_pass 73 = .ok (.return_, 1) := by decide +kernel
theorem dX3_tillGone_0 : decode cX3_tillGone 0 = .ok (.aload_n 0, 1) := by decide +kernel
theorem dX3_tillGone_1 : decode cX3_tillGone 1 = .ok (.getfield 37, 3) := by decide +kernel
theorem dX3_tillGone_4 : decode cX3_tillGone 4 = .ok (.getfield 69, 3) := by decide +kernel
theorem dX3_tillGone_7 : decode cX3_tillGone 7 = .ok (.iload_n 1, 1) := by decide +kernel
theorem dX3_tillGone_8 : decode cX3_tillGone 8 = .ok (.iaload, 1) := by decide +kernel
theorem dX3_tillGone_9 : decode cX3_tillGone 9 = .ok (.iconst 3, 1) := by decide +kernel
theorem dX3_tillGone_10 : decode cX3_tillGone 10 = .ok (.if_icmp .ne 6, 3) := by decide +kernel
theorem dX3_tillGone_13 : decode cX3_tillGone 13 = .ok (.bipush (-2), 2) := by decide +kernel
theorem dX3_tillGone_15 : decode cX3_tillGone 15 = .ok (.ireturn, 1) := by decide +kernel
theorem dX3_tillGone_16 : decode cX3_tillGone 16 = .ok (.iconst 0, 1) := by decide +kernel
theorem dX3_tillGone_17 : decode cX3_tillGone 17 = .ok (.istore_n 3, 1) := by decide +kernel
theorem dX3_tillGone_18 : decode cX3_tillGone 18 = .ok (.iload_n 3, 1) := by decide +kernel
theorem dX3_tillGone_19 : decode cX3_tillGone 19 = .ok (.iload_n 2, 1) := by decide +kernel
theorem dX3_tillGone_20 : decode cX3_tillGone 20 = .ok (.if_icmp .ge 29, 3) := by decide +kernel
theorem dX3_tillGone_23 : decode cX3_tillGone 23 = .ok (.aload_n 0, 1) := by decide +kernel
theorem dX3_tillGone_24 : decode cX3_tillGone 24 = .ok (.getfield 37, 3) := by decide +kernel
theorem dX3_tillGone_27 : decode cX3_tillGone 27 = .ok (.getfield 69, 3) := by decide +kernel
theorem dX3_tillGone_30 : decode cX3_tillGone 30 = .ok (.iload_n 1, 1) := by decide +kernel
theorem dX3_tillGone_31 : decode cX3_tillGone 31 = .ok (.iaload, 1) := by decide +kernel
theorem dX3_tillGone_32 : decode cX3_tillGone 32 = .ok (.iconst 2, 1) := by decide +kernel
theorem dX3_tillGone_33 : decode cX3_tillGone 33 = .ok (.if_icmp .ne 5, 3) := by decide +kernel
theorem dX3_tillGone_36 : decode cX3_tillGone 36 = .ok (.iload_n 3, 1) := by decide +kernel
theorem dX3_tillGone_37 : decode cX3_tillGone 37 = .ok (.ireturn, 1) := by decide +kernel
theorem dX3_tillGone_38 : decode cX3_tillGone 38 = .ok (.aload_n 0, 1) := by decide +kernel
theorem dX3_tillGone_39 : decode cX3_tillGone 39 = .ok (.iconst 1, 1) := by decide +kernel
theorem dX3_tillGone_40 : decode cX3_tillGone 40 = .ok (.invokevirtual 72, 3) := by decide +kernel
theorem dX3_tillGone_43 : decode cX3_tillGone 43 = .ok (.iinc 3 1, 3) := by decide +kernel
theorem dX3_tillGone_46 : decode cX3_tillGone 46 = .ok (.goto (-28), 3) := by decide +kernel
theorem dX3_tillGone_49 : decode cX3_tillGone 49 = .ok (.aload_n 0, 1) := by decide +kernel
theorem dX3_tillGone_50 : decode cX3_tillGone 50 = .ok (.getfield 37, 3) := by decide +kernel
theorem dX3_tillGone_53 : decode cX3_tillGone 53 = .ok (.getfield 69, 3) := by decide +kernel
theorem dX3_tillGone_56 : decode cX3_tillGone 56 = .ok (.iload_n 1, 1) := by decide +kernel
theorem dX3_tillGone_57 : decode cX3_tillGone 57 = .ok (.iaload, 1) := by decide +kernel
theorem dX3_tillGone_58 : decode cX3_tillGone 58 = .ok (.iconst 2, 1) := by decide +kernel
theorem dX3_tillGone_59 : decode cX3_tillGone 59 = .ok (.if_icmp .ne 7, 3) := by decide +kernel
theorem dX3_tillGone_62 : decode cX3_tillGone 62 = .ok (.iload_n 2, 1) := by decide +kernel
theorem dX3_tillGone_63 : decode cX3_tillGone 63 = .ok (.goto 5, 3) := by decide +kernel
theorem dX3_tillGone_66 : decode cX3_tillGone 66 = .ok (.bipush (-2), 2) := by decide +kernel
theorem dX3_tillGone_68 : decode cX3_tillGone 68 = .ok (.ireturn, 1) := by decide +kernel
theorem dX3_letCome_0 : decode cX3_letCome 0 = .ok (.iconst 0, 1) := by decide +kernel
theorem dX3_letCome_1 : decode cX3_letCome 1 = .ok (.istore_n 1, 1) := by decide +kernel
theorem dX3_letCome_2 : decode cX3_letCome 2 = .ok (.iload_n 1, 1) := by decide +kernel
theorem dX3_letCome_3 : decode cX3_letCome 3 = .ok (.aload_n 0, 1) := by decide +kernel
theorem dX3_letCome_4 : decode cX3_letCome 4 = .ok (.getfield 33, 3) := by decide +kernel
theorem dX3_letCome_7 : decode cX3_letCome 7 = .ok (.getfield 75, 3) := by decide +kernel
theorem dX3_letCome_10 : decode cX3_letCome 10 = .ok (.if_icmp .ge 55, 3) := by decide +kernel
theorem dX3_letCome_13 : decode cX3_letCome 13 = .ok (.aload_n 0, 1) := by decide +kernel
theorem dX3_letCome_14 : decode cX3_letCome 14 = .ok (.getfield 33, 3) := by decide +kernel
theorem dX3_letCome_17 : decode cX3_letCome 17 = .ok (.getfield 78, 3) := by decide +kernel
theorem dX3_letCome_20 : decode cX3_letCome 20 = .ok (.iload_n 1, 1) := by decide +kernel
theorem dX3_letCome_21 : decode cX3_letCome 21 = .ok (.iaload, 1) := by decide +kernel
theorem dX3_letCome_22 : decode cX3_letCome 22 = .ok (.aload_n 0, 1) := by decide +kernel
theorem dX3_letCome_23 : decode cX3_letCome 23 = .ok (.getfield 37, 3) := by decide +kernel
theorem dX3_letCome_26 : decode cX3_letCome 26 = .ok (.getfield 64, 3) := by decide +kernel
theorem dX3_letCome_29 : decode cX3_letCome 29 = .ok (.if_icmp .ne 30, 3) := by decide +kernel
theorem dX3_letCome_32 : decode cX3_letCome 32 = .ok (.aload_n 0, 1) := by decide +kernel
theorem dX3_letCome_33 : decode cX3_letCome 33 = .ok (.getfield 37, 3) := by decide +kernel
theorem dX3_letCome_36 : decode cX3_letCome 36 = .ok (.getfield 69, 3) := by decide +kernel
theorem dX3_letCome_39 : decode cX3_letCome 39 = .ok (.iload_n 1, 1) := by decide +kernel
theorem dX3_letCome_40 : decode cX3_letCome 40 = .ok (.iaload, 1) := by decide +kernel
theorem dX3_letCome_41 : decode cX3_letCome 41 = .ok (.ifCond .ne 18, 3) := by decide +kernel
theorem dX3_letCome_44 : decode cX3_letCome 44 = .ok (.aload_n 0, 1) := by decide +kernel
theorem dX3_letCome_45 : decode cX3_letCome 45 = .ok (.getfield 37, 3) := by decide +kernel
theorem dX3_letCome_48 : decode cX3_letCome 48 = .ok (.iload_n 1, 1) := by decide +kernel
theorem dX3_letCome_49 : decode cX3_letCome 49 = .ok (.aload_n 0, 1) := by decide +kernel
theorem dX3_letCome_50 : decode cX3_letCome 50 = .ok (.getfield 37, 3) := by decide +kernel
theorem dX3_letCome_53 : decode cX3_letCome 53 = .ok (.getfield 81, 3) := by decide +kernel
theorem dX3_letCome_56 : decode cX3_letCome 56 = .ok (.invokevirtual 84, 3) := by decide +kernel
theorem dX3_letCome_59 : decode cX3_letCome 59 = .ok (.iinc 1 1, 3) := by decide +kernel
theorem dX3_letCome_62 : decode cX3_letCome 62 = .ok (.goto (-60), 3) := by decide +kernel
theorem dX3_letCome_65 : decode cX3_letCome 65 = .ok (.return_, 1) := by decide +kernel
theorem dX3_comes_0 : decode cX3_comes 0 = .ok (.iload_n 1, 1) := by decide +kernel
theorem dX3_comes_1 : decode cX3_comes 1 = .ok (.aload_n 0, 1) := by decide +kernel
theorem dX3_comes_2 : decode cX3_comes 2 = .ok (.getfield 19, 3) := by decide +kernel
theorem dX3_comes_5 : decode cX3_comes 5 = .ok (.if_icmp .ne 10, 3) := by decide +kernel
theorem dX3_comes_8 : decode cX3_comes 8 = .ok (.aload_n 0, 1) := by decide +kernel
theorem dX3_comes_9 : decode cX3_comes 9 = .ok (.getfield 22, 3) := by decide +kernel
theorem dX3_comes_12 : decode cX3_comes 12 = .ok (.goto 12, 3) := by decide +kernel
theorem dX3_comes_15 : decode cX3_comes 15 = .ok (.aload_n 0, 1) := by decide +kernel
theorem dX3_comes_16 : decode cX3_comes 16 = .ok (.getfield 33, 3) := by decide +kernel
theorem dX3_comes_19 : decode cX3_comes 19 = .ok (.getfield 88, 3) := by decide +kernel
theorem dX3_comes_22 : decode cX3_comes 22 = .ok (.iload_n 1, 1) := by decide +kernel
theorem dX3_comes_23 : decode cX3_comes 23 = .ok (.iaload, 1) := by decide +kernel
theorem dX3_comes_24 : decode cX3_comes 24 = .ok (.istore_n 2, 1) := by decide +kernel
theorem dX3_comes_25 : decode cX3_comes 25 = .ok (.aload_n 0, 1) := by decide +kernel
theorem dX3_comes_26 : decode cX3_comes 26 = .ok (.getfield 37, 3) := by decide +kernel
theorem dX3_comes_29 : decode cX3_comes 29 = .ok (.getfield 64, 3) := by decide +kernel
theorem dX3_comes_32 : decode cX3_comes 32 = .ok (.aload_n 0, 1) := by decide +kernel
theorem dX3_comes_33 : decode cX3_comes 33 = .ok (.getfield 33, 3) := by decide +kernel
theorem dX3_comes_36 : decode cX3_comes 36 = .ok (.getfield 91, 3) := by decide +kernel
theorem dX3_comes_39 : decode cX3_comes 39 = .ok (.iload_n 1, 1) := by decide +kernel
theorem dX3_comes_40 : decode cX3_comes 40 = .ok (.iaload, 1) := by decide +kernel
theorem dX3_comes_41 : decode cX3_comes 41 = .ok (.isub, 1) := by decide +kernel
theorem dX3_comes_42 : decode cX3_comes 42 = .ok (.istore_n 3, 1) := by decide +kernel
theorem dX3_comes_43 : decode cX3_comes 43 = .ok (.iload_n 3, 1) := by decide +kernel
theorem dX3_comes_44 : decode cX3_comes 44 = .ok (.ifCond .lt 17, 3) := by decide +kernel
theorem dX3_comes_47 : decode cX3_comes 47 = .ok (.iload_n 2, 1) := by decide +kernel
theorem dX3_comes_48 : decode cX3_comes 48 = .ok (.ifCond .le 13, 3) := by decide +kernel
theorem dX3_comes_51 : decode cX3_comes 51 = .ok (.iload_n 3, 1) := by decide +kernel
theorem dX3_comes_52 : decode cX3_comes 52 = .ok (.iload_n 2, 1) := by decide +kernel
theorem dX3_comes_53 : decode cX3_comes 53 = .ok (.irem, 1) := by decide +kernel
theorem dX3_comes_54 : decode cX3_comes 54 = .ok (.ifCond .ne 7, 3) := by decide +kernel
theorem dX3_comes_57 : decode cX3_comes 57 = .ok (.iconst 1, 1) := by decide +kernel
theorem dX3_comes_58 : decode cX3_comes 58 = .ok (.goto 4, 3) := by decide +kernel
theorem dX3_comes_61 : decode cX3_comes 61 = .ok (.iconst 0, 1) := by decide +kernel
theorem dX3_comes_62 : decode cX3_comes 62 = .ok (.ireturn, 1) := by decide +kernel
theorem dX3_board_0 : decode cX3_board 0 = .ok (.aload_n 0, 1) := by decide +kernel
theorem dX3_board_1 : decode cX3_board 1 = .ok (.iload_n 1, 1) := by decide +kernel
theorem dX3_board_2 : decode cX3_board 2 = .ok (.invokevirtual 94, 3) := by decide +kernel
theorem dX3_board_5 : decode cX3_board 5 = .ok (.istore_n 2, 1) := by decide +kernel
theorem dX3_board_6 : decode cX3_board 6 = .ok (.aload_n 0, 1) := by decide +kernel
theorem dX3_board_7 : decode cX3_board 7 = .ok (.iload_n 1, 1) := by decide +kernel
theorem dX3_board_8 : decode cX3_board 8 = .ok (.iload_n 2, 1) := by decide +kernel
theorem dX3_board_9 : decode cX3_board 9 = .ok (.invokevirtual 98, 3) := by decide +kernel
theorem dX3_board_12 : decode cX3_board 12 = .ok (.aload_n 0, 1) := by decide +kernel
theorem dX3_board_13 : decode cX3_board 13 = .ok (.getfield 15, 3) := by decide +kernel
theorem dX3_board_16 : decode cX3_board 16 = .ok (.iconst 4, 1) := by decide +kernel
theorem dX3_board_17 : decode cX3_board 17 = .ok (.if_icmp .ne 8, 3) := by decide +kernel
theorem dX3_board_20 : decode cX3_board 20 = .ok (.bipush 8, 2) := by decide +kernel
theorem dX3_board_22 : decode cX3_board 22 = .ok (.goto 12, 3) := by decide +kernel
theorem dX3_board_25 : decode cX3_board 25 = .ok (.aload_n 0, 1) := by decide +kernel
theorem dX3_board_26 : decode cX3_board 26 = .ok (.getfield 33, 3) := by decide +kernel
theorem dX3_board_29 : decode cX3_board 29 = .ok (.getfield 101, 3) := by decide +kernel
theorem dX3_board_32 : decode cX3_board 32 = .ok (.iload_n 1, 1) := by decide +kernel
theorem dX3_board_33 : decode cX3_board 33 = .ok (.iaload, 1) := by decide +kernel
theorem dX3_board_34 : decode cX3_board 34 = .ok (.istore_n 3, 1) := by decide +kernel
theorem dX3_board_35 : decode cX3_board 35 = .ok (.iload_n 3, 1) := by decide +kernel
theorem dX3_board_36 : decode cX3_board 36 = .ok (.ifCond .le 125, 3) := by decide +kernel
theorem dX3_board_39 : decode cX3_board 39 = .ok (.aload_n 0, 1) := by decide +kernel
theorem dX3_board_40 : decode cX3_board 40 = .ok (.iload_n 2, 1) := by decide +kernel
theorem dX3_board_41 : decode cX3_board 41 = .ok (.invokevirtual 104, 3) := by decide +kernel
theorem dX3_board_44 : decode cX3_board 44 = .ok (.istore 4, 2) := by decide +kernel
theorem dX3_board_46 : decode cX3_board 46 = .ok (.iload 4, 2) := by decide +kernel
theorem dX3_board_48 : decode cX3_board 48 = .ok (.ifCond .ge 4, 3) := by decide +kernel
theorem dX3_board_51 : decode cX3_board 51 = .ok (.return_, 1) := by decide +kernel
theorem dX3_board_52 : decode cX3_board 52 = .ok (.aload_n 0, 1) := by decide +kernel
theorem dX3_board_53 : decode cX3_board 53 = .ok (.getfield 37, 3) := by decide +kernel
theorem dX3_board_56 : decode cX3_board 56 = .ok (.getfield 107, 3) := by decide +kernel
theorem dX3_board_59 : decode cX3_board 59 = .ok (.iload 4, 2) := by decide +kernel
theorem dX3_board_61 : decode cX3_board 61 = .ok (.iaload, 1) := by decide +kernel
theorem dX3_board_62 : decode cX3_board 62 = .ok (.istore 5, 2) := by decide +kernel
theorem dX3_board_64 : decode cX3_board 64 = .ok (.aload_n 0, 1) := by decide +kernel
theorem dX3_board_65 : decode cX3_board 65 = .ok (.getfield 37, 3) := by decide +kernel
theorem dX3_board_68 : decode cX3_board 68 = .ok (.iload 4, 2) := by decide +kernel
theorem dX3_board_70 : decode cX3_board 70 = .ok (.invokevirtual 110, 3) := by decide +kernel
theorem dX3_board_73 : decode cX3_board 73 = .ok (.aload_n 0, 1) := by decide +kernel
theorem dX3_board_74 : decode cX3_board 74 = .ok (.getfield 37, 3) := by decide +kernel
theorem dX3_board_77 : decode cX3_board 77 = .ok (.getfield 69, 3) := by decide +kernel
theorem dX3_board_80 : decode cX3_board 80 = .ok (.iload 5, 2) := by decide +kernel
theorem dX3_board_82 : decode cX3_board 82 = .ok (.iconst 2, 1) := by decide +kernel
theorem dX3_board_83 : decode cX3_board 83 = .ok (.iastore, 1) := by decide +kernel
theorem dX3_board_84 : decode cX3_board 84 = .ok (.aload_n 0, 1) := by decide +kernel
theorem dX3_board_85 : decode cX3_board 85 = .ok (.getfield 37, 3) := by decide +kernel
theorem dX3_board_88 : decode cX3_board 88 = .ok (.getfield 113, 3) := by decide +kernel
theorem dX3_board_91 : decode cX3_board 91 = .ok (.iload 5, 2) := by decide +kernel
theorem dX3_board_93 : decode cX3_board 93 = .ok (.iload_n 1, 1) := by decide +kernel
theorem dX3_board_94 : decode cX3_board 94 = .ok (.iastore, 1) := by decide +kernel
theorem dX3_board_95 : decode cX3_board 95 = .ok (.aload_n 0, 1) := by decide +kernel
theorem dX3_board_96 : decode cX3_board 96 = .ok (.getfield 37, 3) := by decide +kernel
theorem dX3_board_99 : decode cX3_board 99 = .ok (.getfield 116, 3) := by decide +kernel
theorem dX3_board_102 : decode cX3_board 102 = .ok (.iload 5, 2) := by decide +kernel
theorem dX3_board_104 : decode cX3_board 104 = .ok (.aload_n 0, 1) := by decide +kernel
theorem dX3_board_105 : decode cX3_board 105 = .ok (.getfield 37, 3) := by decide +kernel
theorem dX3_board_108 : decode cX3_board 108 = .ok (.getfield 64, 3) := by decide +kernel
theorem dX3_board_111 : decode cX3_board 111 = .ok (.iastore, 1) := by decide +kernel
theorem dX3_board_112 : decode cX3_board 112 = .ok (.aload_n 0, 1) := by decide +kernel
theorem dX3_board_113 : decode cX3_board 113 = .ok (.getfield 37, 3) := by decide +kernel
theorem dX3_board_116 : decode cX3_board 116 = .ok (.getfield 119, 3) := by decide +kernel
theorem dX3_board_119 : decode cX3_board 119 = .ok (.iload 5, 2) := by decide +kernel
theorem dX3_board_121 : decode cX3_board 121 = .ok (.aload_n 0, 1) := by decide +kernel
theorem dX3_board_122 : decode cX3_board 122 = .ok (.getfield 37, 3) := by decide +kernel
theorem dX3_board_125 : decode cX3_board 125 = .ok (.getfield 119, 3) := by decide +kernel
theorem dX3_board_128 : decode cX3_board 128 = .ok (.iload 5, 2) := by decide +kernel
theorem dX3_board_130 : decode cX3_board 130 = .ok (.iaload, 1) := by decide +kernel
theorem dX3_board_131 : decode cX3_board 131 = .ok (.aload_n 0, 1) := by decide +kernel
theorem dX3_board_132 : decode cX3_board 132 = .ok (.getfield 33, 3) := by decide +kernel
theorem dX3_board_135 : decode cX3_board 135 = .ok (.getfield 122, 3) := by decide +kernel
theorem dX3_board_138 : decode cX3_board 138 = .ok (.iload_n 1, 1) := by decide +kernel
theorem dX3_board_139 : decode cX3_board 139 = .ok (.iaload, 1) := by decide +kernel
theorem dX3_board_140 : decode cX3_board 140 = .ok (.isub, 1) := by decide +kernel
theorem dX3_board_141 : decode cX3_board 141 = .ok (.iconst 0, 1) := by decide +kernel
theorem dX3_board_142 : decode cX3_board 142 = .ok (.invokestatic 125, 3) := by decide +kernel
theorem dX3_board_145 : decode cX3_board 145 = .ok (.iastore, 1) := by decide +kernel
theorem dX3_board_146 : decode cX3_board 146 = .ok (.iload_n 2, 1) := by decide +kernel
theorem dX3_board_147 : decode cX3_board 147 = .ok (.iconst 1, 1) := by decide +kernel
theorem dX3_board_148 : decode cX3_board 148 = .ok (.iload 5, 2) := by decide +kernel
theorem dX3_board_150 : decode cX3_board 150 = .ok (.ishl, 1) := by decide +kernel
theorem dX3_board_151 : decode cX3_board 151 = .ok (.iconst (-1), 1) := by decide +kernel
theorem dX3_board_152 : decode cX3_board 152 = .ok (.ixor, 1) := by decide +kernel
theorem dX3_board_153 : decode cX3_board 153 = .ok (.iand, 1) := by decide +kernel
theorem dX3_board_154 : decode cX3_board 154 = .ok (.istore_n 2, 1) := by decide +kernel
theorem dX3_board_155 : decode cX3_board 155 = .ok (.iinc 3 (-1), 3) := by decide +kernel
theorem dX3_board_158 : decode cX3_board 158 = .ok (.goto (-123), 3) := by decide +kernel
theorem dX3_board_161 : decode cX3_board 161 = .ok (.iconst 0, 1) := by decide +kernel
theorem dX3_board_162 : decode cX3_board 162 = .ok (.istore 4, 2) := by decide +kernel
theorem dX3_board_164 : decode cX3_board 164 = .ok (.iload 4, 2) := by decide +kernel
theorem dX3_board_166 : decode cX3_board 166 = .ok (.aload_n 0, 1) := by decide +kernel
theorem dX3_board_167 : decode cX3_board 167 = .ok (.getfield 33, 3) := by decide +kernel
theorem dX3_board_170 : decode cX3_board 170 = .ok (.getfield 75, 3) := by decide +kernel
theorem dX3_board_173 : decode cX3_board 173 = .ok (.if_icmp .ge 32, 3) := by decide +kernel
theorem dX3_board_176 : decode cX3_board 176 = .ok (.iload_n 2, 1) := by decide +kernel
theorem dX3_board_177 : decode cX3_board 177 = .ok (.iconst 1, 1) := by decide +kernel
theorem dX3_board_178 : decode cX3_board 178 = .ok (.iload 4, 2) := by decide +kernel
theorem dX3_board_180 : decode cX3_board 180 = .ok (.ishl, 1) := by decide +kernel
theorem dX3_board_181 : decode cX3_board 181 = .ok (.iand, 1) := by decide +kernel
theorem dX3_board_182 : decode cX3_board 182 = .ok (.ifCond .eq 17, 3) := by decide +kernel
theorem dX3_board_185 : decode cX3_board 185 = .ok (.aload_n 0, 1) := by decide +kernel
theorem dX3_board_186 : decode cX3_board 186 = .ok (.getfield 37, 3) := by decide +kernel
theorem dX3_board_189 : decode cX3_board 189 = .ok (.getfield 131, 3) := by decide +kernel
theorem dX3_board_192 : decode cX3_board 192 = .ok (.iload 4, 2) := by decide +kernel
theorem dX3_board_194 : decode cX3_board 194 = .ok (.dup2, 1) := by decide +kernel
theorem dX3_board_195 : decode cX3_board 195 = .ok (.iaload, 1) := by decide +kernel
theorem dX3_board_196 : decode cX3_board 196 = .ok (.iconst 1, 1) := by decide +kernel
theorem dX3_board_197 : decode cX3_board 197 = .ok (.iadd, 1) := by decide +kernel
theorem dX3_board_198 : decode cX3_board 198 = .ok (.iastore, 1) := by decide +kernel
theorem dX3_board_199 : decode cX3_board 199 = .ok (.iinc 4 1, 3) := by decide +kernel
theorem dX3_board_202 : decode cX3_board 202 = .ok (.goto (-38), 3) := by decide +kernel
theorem dX3_board_205 : decode cX3_board 205 = .ok (.return_, 1) := by decide +kernel
theorem dX3_whoMay_0 : decode cX3_whoMay 0 = .ok (.iconst 0, 1) := by decide +kernel
theorem dX3_whoMay_1 : decode cX3_whoMay 1 = .ok (.istore_n 2, 1) := by decide +kernel
theorem dX3_whoMay_2 : decode cX3_whoMay 2 = .ok (.iconst 0, 1) := by decide +kernel
theorem dX3_whoMay_3 : decode cX3_whoMay 3 = .ok (.istore_n 3, 1) := by decide +kernel
theorem dX3_whoMay_4 : decode cX3_whoMay 4 = .ok (.iload_n 3, 1) := by decide +kernel
theorem dX3_whoMay_5 : decode cX3_whoMay 5 = .ok (.aload_n 0, 1) := by decide +kernel
theorem dX3_whoMay_6 : decode cX3_whoMay 6 = .ok (.getfield 37, 3) := by decide +kernel
theorem dX3_whoMay_9 : decode cX3_whoMay 9 = .ok (.getfield 81, 3) := by decide +kernel
theorem dX3_whoMay_12 : decode cX3_whoMay 12 = .ok (.if_icmp .ge 126, 3) := by decide +kernel
theorem dX3_whoMay_15 : decode cX3_whoMay 15 = .ok (.aload_n 0, 1) := by decide +kernel
theorem dX3_whoMay_16 : decode cX3_whoMay 16 = .ok (.getfield 37, 3) := by decide +kernel
theorem dX3_whoMay_19 : decode cX3_whoMay 19 = .ok (.getfield 107, 3) := by decide +kernel
theorem dX3_whoMay_22 : decode cX3_whoMay 22 = .ok (.iload_n 3, 1) := by decide +kernel
theorem dX3_whoMay_23 : decode cX3_whoMay 23 = .ok (.iaload, 1) := by decide +kernel
theorem dX3_whoMay_24 : decode cX3_whoMay 24 = .ok (.istore 4, 2) := by decide +kernel
theorem dX3_whoMay_26 : decode cX3_whoMay 26 = .ok (.aload_n 0, 1) := by decide +kernel
theorem dX3_whoMay_27 : decode cX3_whoMay 27 = .ok (.iload 4, 2) := by decide +kernel
theorem dX3_whoMay_29 : decode cX3_whoMay 29 = .ok (.iload_n 3, 1) := by decide +kernel
theorem dX3_whoMay_30 : decode cX3_whoMay 30 = .ok (.aload_n 0, 1) := by decide +kernel
theorem dX3_whoMay_31 : decode cX3_whoMay 31 = .ok (.getfield 33, 3) := by decide +kernel
theorem dX3_whoMay_34 : decode cX3_whoMay 34 = .ok (.getfield 122, 3) := by decide +kernel
theorem dX3_whoMay_37 : decode cX3_whoMay 37 = .ok (.iload_n 1, 1) := by decide +kernel
theorem dX3_whoMay_38 : decode cX3_whoMay 38 = .ok (.iaload, 1) := by decide +kernel
theorem dX3_whoMay_39 : decode cX3_whoMay 39 = .ok (.invokevirtual 134, 3) := by decide +kernel
theorem dX3_whoMay_42 : decode cX3_whoMay 42 = .ok (.aload_n 0, 1) := by decide +kernel
theorem dX3_whoMay_43 : decode cX3_whoMay 43 = .ok (.getfield 33, 3) := by decide +kernel
theorem dX3_whoMay_46 : decode cX3_whoMay 46 = .ok (.getfield 138, 3) := by decide +kernel
theorem dX3_whoMay_49 : decode cX3_whoMay 49 = .ok (.iconst 0, 1) := by decide +kernel
theorem dX3_whoMay_50 : decode cX3_whoMay 50 = .ok (.aload_n 0, 1) := by decide +kernel
theorem dX3_whoMay_51 : decode cX3_whoMay 51 = .ok (.getfield 25, 3) := by decide +kernel
theorem dX3_whoMay_54 : decode cX3_whoMay 54 = .ok (.invokevirtual 142, 3) := by decide +kernel
theorem dX3_whoMay_57 : decode cX3_whoMay 57 = .ok (.lstore 5, 2) := by decide +kernel
theorem dX3_whoMay_59 : decode cX3_whoMay 59 = .ok (.lload 5, 2) := by decide +kernel
theorem dX3_whoMay_61 : decode cX3_whoMay 61 = .ok (.ldc2_w 148, 3) := by decide +kernel
theorem dX3_whoMay_64 : decode cX3_whoMay 64 = .ok (.lcmp, 1) := by decide +kernel
theorem dX3_whoMay_65 : decode cX3_whoMay 65 = .ok (.ifCond .ne 33, 3) := by decide +kernel
theorem dX3_whoMay_68 : decode cX3_whoMay 68 = .ok (.aload_n 0, 1) := by decide +kernel
theorem dX3_whoMay_69 : decode cX3_whoMay 69 = .ok (.getfield 37, 3) := by decide +kernel
theorem dX3_whoMay_72 : decode cX3_whoMay 72 = .ok (.getfield 119, 3) := by decide +kernel
theorem dX3_whoMay_75 : decode cX3_whoMay 75 = .ok (.iload 4, 2) := by decide +kernel
theorem dX3_whoMay_77 : decode cX3_whoMay 77 = .ok (.iaload, 1) := by decide +kernel
theorem dX3_whoMay_78 : decode cX3_whoMay 78 = .ok (.aload_n 0, 1) := by decide +kernel
theorem dX3_whoMay_79 : decode cX3_whoMay 79 = .ok (.getfield 33, 3) := by decide +kernel
theorem dX3_whoMay_82 : decode cX3_whoMay 82 = .ok (.getfield 122, 3) := by decide +kernel
theorem dX3_whoMay_85 : decode cX3_whoMay 85 = .ok (.iload_n 1, 1) := by decide +kernel
theorem dX3_whoMay_86 : decode cX3_whoMay 86 = .ok (.iaload, 1) := by decide +kernel
theorem dX3_whoMay_87 : decode cX3_whoMay 87 = .ok (.if_icmp .lt 7, 3) := by decide +kernel
theorem dX3_whoMay_90 : decode cX3_whoMay 90 = .ok (.iconst 1, 1) := by decide +kernel
theorem dX3_whoMay_91 : decode cX3_whoMay 91 = .ok (.goto 19, 3) := by decide +kernel
theorem dX3_whoMay_94 : decode cX3_whoMay 94 = .ok (.iconst 0, 1) := by decide +kernel
theorem dX3_whoMay_95 : decode cX3_whoMay 95 = .ok (.goto 15, 3) := by decide +kernel
theorem dX3_whoMay_98 : decode cX3_whoMay 98 = .ok (.lload 5, 2) := by decide +kernel
theorem dX3_whoMay_100 : decode cX3_whoMay 100 = .ok (.lconst 0, 1) := by decide +kernel
theorem dX3_whoMay_101 : decode cX3_whoMay 101 = .ok (.lcmp, 1) := by decide +kernel
theorem dX3_whoMay_102 : decode cX3_whoMay 102 = .ok (.ifCond .eq 7, 3) := by decide +kernel
theorem dX3_whoMay_105 : decode cX3_whoMay 105 = .ok (.iconst 1, 1) := by decide +kernel
theorem dX3_whoMay_106 : decode cX3_whoMay 106 = .ok (.goto 4, 3) := by decide +kernel
theorem dX3_whoMay_109 : decode cX3_whoMay 109 = .ok (.iconst 0, 1) := by decide +kernel
theorem dX3_whoMay_110 : decode cX3_whoMay 110 = .ok (.istore 7, 2) := by decide +kernel
theorem dX3_whoMay_112 : decode cX3_whoMay 112 = .ok (.iload 7, 2) := by decide +kernel
theorem dX3_whoMay_114 : decode cX3_whoMay 114 = .ok (.ifCond .ne 11, 3) := by decide +kernel
theorem dX3_whoMay_117 : decode cX3_whoMay 117 = .ok (.aload_n 0, 1) := by decide +kernel
theorem dX3_whoMay_118 : decode cX3_whoMay 118 = .ok (.getfield 15, 3) := by decide +kernel
theorem dX3_whoMay_121 : decode cX3_whoMay 121 = .ok (.iconst 3, 1) := by decide +kernel
theorem dX3_whoMay_122 : decode cX3_whoMay 122 = .ok (.if_icmp .ne 10, 3) := by decide +kernel
theorem dX3_whoMay_125 : decode cX3_whoMay 125 = .ok (.iload_n 2, 1) := by decide +kernel
theorem dX3_whoMay_126 : decode cX3_whoMay 126 = .ok (.iconst 1, 1) := by decide +kernel
theorem dX3_whoMay_127 : decode cX3_whoMay 127 = .ok (.iload 4, 2) := by decide +kernel
theorem dX3_whoMay_129 : decode cX3_whoMay 129 = .ok (.ishl, 1) := by decide +kernel
theorem dX3_whoMay_130 : decode cX3_whoMay 130 = .ok (.ior, 1) := by decide +kernel
theorem dX3_whoMay_131 : decode cX3_whoMay 131 = .ok (.istore_n 2, 1) := by decide +kernel
theorem dX3_whoMay_132 : decode cX3_whoMay 132 = .ok (.iinc 3 1, 3) := by decide +kernel
theorem dX3_whoMay_135 : decode cX3_whoMay 135 = .ok (.goto (-131), 3) := by decide +kernel
theorem dX3_whoMay_138 : decode cX3_whoMay 138 = .ok (.iload_n 2, 1) := by decide +kernel
theorem dX3_whoMay_139 : decode cX3_whoMay 139 = .ok (.ireturn, 1) := by decide +kernel
theorem dX3_findTurns_0 : decode cX3_findTurns 0 = .ok (.iconst 0, 1) := by decide +kernel
theorem dX3_findTurns_1 : decode cX3_findTurns 1 = .ok (.istore_n 3, 1) := by decide +kernel
theorem dX3_findTurns_2 : decode cX3_findTurns 2 = .ok (.iload_n 3, 1) := by decide +kernel
theorem dX3_findTurns_3 : decode cX3_findTurns 3 = .ok (.aload_n 0, 1) := by decide +kernel
theorem dX3_findTurns_4 : decode cX3_findTurns 4 = .ok (.getfield 37, 3) := by decide +kernel
theorem dX3_findTurns_7 : decode cX3_findTurns 7 = .ok (.getfield 81, 3) := by decide +kernel
theorem dX3_findTurns_10 : decode cX3_findTurns 10 = .ok (.if_icmp .ge 97, 3) := by decide +kernel
theorem dX3_findTurns_13 : decode cX3_findTurns 13 = .ok (.aload_n 0, 1) := by decide +kernel
theorem dX3_findTurns_14 : decode cX3_findTurns 14 = .ok (.getfield 37, 3) := by decide +kernel
theorem dX3_findTurns_17 : decode cX3_findTurns 17 = .ok (.getfield 107, 3) := by decide +kernel
theorem dX3_findTurns_20 : decode cX3_findTurns 20 = .ok (.iload_n 3, 1) := by decide +kernel
theorem dX3_findTurns_21 : decode cX3_findTurns 21 = .ok (.iaload, 1) := by decide +kernel
theorem dX3_findTurns_22 : decode cX3_findTurns 22 = .ok (.istore 4, 2) := by decide +kernel
theorem dX3_findTurns_24 : decode cX3_findTurns 24 = .ok (.iload_n 2, 1) := by decide +kernel
theorem dX3_findTurns_25 : decode cX3_findTurns 25 = .ok (.iconst 1, 1) := by decide +kernel
theorem dX3_findTurns_26 : decode cX3_findTurns 26 = .ok (.iload 4, 2) := by decide +kernel
theorem dX3_findTurns_28 : decode cX3_findTurns 28 = .ok (.ishl, 1) := by decide +kernel
theorem dX3_findTurns_29 : decode cX3_findTurns 29 = .ok (.iand, 1) := by decide +kernel
theorem dX3_findTurns_30 : decode cX3_findTurns 30 = .ok (.ifCond .eq 71, 3) := by decide +kernel
theorem dX3_findTurns_33 : decode cX3_findTurns 33 = .ok (.aload_n 0, 1) := by decide +kernel
theorem dX3_findTurns_34 : decode cX3_findTurns 34 = .ok (.iload 4, 2) := by decide +kernel
theorem dX3_findTurns_36 : decode cX3_findTurns 36 = .ok (.iload_n 3, 1) := by decide +kernel
theorem dX3_findTurns_37 : decode cX3_findTurns 37 = .ok (.aload_n 0, 1) := by decide +kernel
theorem dX3_findTurns_38 : decode cX3_findTurns 38 = .ok (.getfield 33, 3) := by decide +kernel
theorem dX3_findTurns_41 : decode cX3_findTurns 41 = .ok (.getfield 122, 3) := by decide +kernel
theorem dX3_findTurns_44 : decode cX3_findTurns 44 = .ok (.iload_n 1, 1) := by decide +kernel
theorem dX3_findTurns_45 : decode cX3_findTurns 45 = .ok (.iaload, 1) := by decide +kernel
theorem dX3_findTurns_46 : decode cX3_findTurns 46 = .ok (.invokevirtual 134, 3) := by decide +kernel
theorem dX3_findTurns_49 : decode cX3_findTurns 49 = .ok (.aload_n 0, 1) := by decide +kernel
theorem dX3_findTurns_50 : decode cX3_findTurns 50 = .ok (.getfield 33, 3) := by decide +kernel
theorem dX3_findTurns_53 : decode cX3_findTurns 53 = .ok (.getfield 138, 3) := by decide +kernel
theorem dX3_findTurns_56 : decode cX3_findTurns 56 = .ok (.iconst 1, 1) := by decide +kernel
theorem dX3_findTurns_57 : decode cX3_findTurns 57 = .ok (.aload_n 0, 1) := by decide +kernel
theorem dX3_findTurns_58 : decode cX3_findTurns 58 = .ok (.getfield 25, 3) := by decide +kernel
theorem dX3_findTurns_61 : decode cX3_findTurns 61 = .ok (.invokevirtual 142, 3) := by decide +kernel
theorem dX3_findTurns_64 : decode cX3_findTurns 64 = .ok (.lstore 5, 2) := by decide +kernel
theorem dX3_findTurns_66 : decode cX3_findTurns 66 = .ok (.aload_n 0, 1) := by decide +kernel
theorem dX3_findTurns_67 : decode cX3_findTurns 67 = .ok (.getfield 29, 3) := by decide +kernel
theorem dX3_findTurns_70 : decode cX3_findTurns 70 = .ok (.iload 4, 2) := by decide +kernel
theorem dX3_findTurns_72 : decode cX3_findTurns 72 = .ok (.lload 5, 2) := by decide +kernel
theorem dX3_findTurns_74 : decode cX3_findTurns 74 = .ok (.ldc2_w 148, 3) := by decide +kernel
theorem dX3_findTurns_77 : decode cX3_findTurns 77 = .ok (.lcmp, 1) := by decide +kernel
theorem dX3_findTurns_78 : decode cX3_findTurns 78 = .ok (.ifCond .ne 7, 3) := by decide +kernel
theorem dX3_findTurns_81 : decode cX3_findTurns 81 = .ok (.iconst 0, 1) := by decide +kernel
theorem dX3_findTurns_82 : decode cX3_findTurns 82 = .ok (.goto 18, 3) := by decide +kernel
theorem dX3_findTurns_85 : decode cX3_findTurns 85 = .ok (.ldc2_w 150, 3) := by decide +kernel
theorem dX3_findTurns_88 : decode cX3_findTurns 88 = .ok (.ldc2_w 152, 3) := by decide +kernel
theorem dX3_findTurns_91 : decode cX3_findTurns 91 = .ok (.lload 5, 2) := by decide +kernel
theorem dX3_findTurns_93 : decode cX3_findTurns 93 = .ok (.invokestatic 154, 3) := by decide +kernel
theorem dX3_findTurns_96 : decode cX3_findTurns 96 = .ok (.invokestatic 158, 3) := by decide +kernel
theorem dX3_findTurns_99 : decode cX3_findTurns 99 = .ok (.l2i, 1) := by decide +kernel
theorem dX3_findTurns_100 : decode cX3_findTurns 100 = .ok (.iastore, 1) := by decide +kernel
theorem dX3_findTurns_101 : decode cX3_findTurns 101 = .ok (.iinc 3 1, 3) := by decide +kernel
theorem dX3_findTurns_104 : decode cX3_findTurns 104 = .ok (.goto (-102), 3) := by decide +kernel
theorem dX3_findTurns_107 : decode cX3_findTurns 107 = .ok (.return_, 1) := by decide +kernel
theorem dX3_firstToBoard_0 : decode cX3_firstToBoard 0 = .ok (.iconst (-1), 1) := by decide +kernel
theorem dX3_firstToBoard_1 : decode cX3_firstToBoard 1 = .ok (.istore_n 2, 1) := by decide +kernel
theorem dX3_firstToBoard_2 : decode cX3_firstToBoard 2 = .ok (.iconst 0, 1) := by decide +kernel
theorem dX3_firstToBoard_3 : decode cX3_firstToBoard 3 = .ok (.istore_n 3, 1) := by decide +kernel
theorem dX3_firstToBoard_4 : decode cX3_firstToBoard 4 = .ok (.iconst 0, 1) := by decide +kernel
theorem dX3_firstToBoard_5 : decode cX3_firstToBoard 5 = .ok (.istore 4, 2) := by decide +kernel
theorem dX3_firstToBoard_7 : decode cX3_firstToBoard 7 = .ok (.iload 4, 2) := by decide +kernel
theorem dX3_firstToBoard_9 : decode cX3_firstToBoard 9 = .ok (.aload_n 0, 1) := by decide +kernel
theorem dX3_firstToBoard_10 : decode cX3_firstToBoard 10 = .ok (.getfield 37, 3) := by decide +kernel
theorem dX3_firstToBoard_13 : decode cX3_firstToBoard 13 = .ok (.getfield 81, 3) := by decide +kernel
theorem dX3_firstToBoard_16 : decode cX3_firstToBoard 16 = .ok (.if_icmp .ge 92, 3) := by decide +kernel
theorem dX3_firstToBoard_19 : decode cX3_firstToBoard 19 = .ok (.aload_n 0, 1) := by decide +kernel
theorem dX3_firstToBoard_20 : decode cX3_firstToBoard 20 = .ok (.getfield 37, 3) := by decide +kernel
theorem dX3_firstToBoard_23 : decode cX3_firstToBoard 23 = .ok (.getfield 107, 3) := by decide +kernel
theorem dX3_firstToBoard_26 : decode cX3_firstToBoard 26 = .ok (.iload 4, 2) := by decide +kernel
theorem dX3_firstToBoard_28 : decode cX3_firstToBoard 28 = .ok (.iaload, 1) := by decide +kernel
theorem dX3_firstToBoard_29 : decode cX3_firstToBoard 29 = .ok (.istore 5, 2) := by decide +kernel
theorem dX3_firstToBoard_31 : decode cX3_firstToBoard 31 = .ok (.aload_n 0, 1) := by decide +kernel
theorem dX3_firstToBoard_32 : decode cX3_firstToBoard 32 = .ok (.getfield 15, 3) := by decide +kernel
theorem dX3_firstToBoard_35 : decode cX3_firstToBoard 35 = .ok (.iconst 1, 1) := by decide +kernel
theorem dX3_firstToBoard_36 : decode cX3_firstToBoard 36 = .ok (.if_icmp .eq 22, 3) := by decide +kernel
theorem dX3_firstToBoard_39 : decode cX3_firstToBoard 39 = .ok (.aload_n 0, 1) := by decide +kernel
theorem dX3_firstToBoard_40 : decode cX3_firstToBoard 40 = .ok (.getfield 33, 3) := by decide +kernel
theorem dX3_firstToBoard_43 : decode cX3_firstToBoard 43 = .ok (.getfield 160, 3) := by decide +kernel
theorem dX3_firstToBoard_46 : decode cX3_firstToBoard 46 = .ok (.iload 5, 2) := by decide +kernel
theorem dX3_firstToBoard_48 : decode cX3_firstToBoard 48 = .ok (.iaload, 1) := by decide +kernel
theorem dX3_firstToBoard_49 : decode cX3_firstToBoard 49 = .ok (.iload_n 1, 1) := by decide +kernel
theorem dX3_firstToBoard_50 : decode cX3_firstToBoard 50 = .ok (.iand, 1) := by decide +kernel
theorem dX3_firstToBoard_51 : decode cX3_firstToBoard 51 = .ok (.ifCond .eq 7, 3) := by decide +kernel
theorem dX3_firstToBoard_54 : decode cX3_firstToBoard 54 = .ok (.iconst 1, 1) := by decide +kernel
theorem dX3_firstToBoard_55 : decode cX3_firstToBoard 55 = .ok (.goto 4, 3) := by decide +kernel
theorem dX3_firstToBoard_58 : decode cX3_firstToBoard 58 = .ok (.iconst 0, 1) := by decide +kernel
theorem dX3_firstToBoard_59 : decode cX3_firstToBoard 59 = .ok (.istore 6, 2) := by decide +kernel
theorem dX3_firstToBoard_61 : decode cX3_firstToBoard 61 = .ok (.iload_n 1, 1) := by decide +kernel
theorem dX3_firstToBoard_62 : decode cX3_firstToBoard 62 = .ok (.iconst 1, 1) := by decide +kernel
theorem dX3_firstToBoard_63 : decode cX3_firstToBoard 63 = .ok (.iload 5, 2) := by decide +kernel
theorem dX3_firstToBoard_65 : decode cX3_firstToBoard 65 = .ok (.ishl, 1) := by decide +kernel
theorem dX3_firstToBoard_66 : decode cX3_firstToBoard 66 = .ok (.iand, 1) := by decide +kernel
theorem dX3_firstToBoard_67 : decode cX3_firstToBoard 67 = .ok (.ifCond .eq 35, 3) := by decide +kernel
theorem dX3_firstToBoard_70 : decode cX3_firstToBoard 70 = .ok (.iload 6, 2) := by decide +kernel
theorem dX3_firstToBoard_72 : decode cX3_firstToBoard 72 = .ok (.ifCond .ne 30, 3) := by decide +kernel
theorem dX3_firstToBoard_75 : decode cX3_firstToBoard 75 = .ok (.iload_n 2, 1) := by decide +kernel
theorem dX3_firstToBoard_76 : decode cX3_firstToBoard 76 = .ok (.iconst (-1), 1) := by decide +kernel
theorem dX3_firstToBoard_77 : decode cX3_firstToBoard 77 = .ok (.if_icmp .eq 14, 3) := by decide +kernel
theorem dX3_firstToBoard_80 : decode cX3_firstToBoard 80 = .ok (.aload_n 0, 1) := by decide +kernel
theorem dX3_firstToBoard_81 : decode cX3_firstToBoard 81 = .ok (.getfield 29, 3) := by decide +kernel
theorem dX3_firstToBoard_84 : decode cX3_firstToBoard 84 = .ok (.iload 5, 2) := by decide +kernel
theorem dX3_firstToBoard_86 : decode cX3_firstToBoard 86 = .ok (.iaload, 1) := by decide +kernel
theorem dX3_firstToBoard_87 : decode cX3_firstToBoard 87 = .ok (.iload_n 3, 1) := by decide +kernel
theorem dX3_firstToBoard_88 : decode cX3_firstToBoard 88 = .ok (.if_icmp .ge 14, 3) := by decide +kernel
theorem dX3_firstToBoard_91 : decode cX3_firstToBoard 91 = .ok (.iload 4, 2) := by decide +kernel
theorem dX3_firstToBoard_93 : decode cX3_firstToBoard 93 = .ok (.istore_n 2, 1) := by decide +kernel
theorem dX3_firstToBoard_94 : decode cX3_firstToBoard 94 = .ok (.aload_n 0, 1) := by decide +kernel
theorem dX3_firstToBoard_95 : decode cX3_firstToBoard 95 = .ok (.getfield 29, 3) := by decide +kernel
theorem dX3_firstToBoard_98 : decode cX3_firstToBoard 98 = .ok (.iload 5, 2) := by decide +kernel
theorem dX3_firstToBoard_100 : decode cX3_firstToBoard 100 = .ok (.iaload, 1) := by decide +kernel
theorem dX3_firstToBoard_101 : decode cX3_firstToBoard 101 = .ok (.istore_n 3, 1) := by decide +kernel
theorem dX3_firstToBoard_102 : decode cX3_firstToBoard 102 = .ok (.iinc 4 1, 3) := by decide +kernel
theorem dX3_firstToBoard_105 : decode cX3_firstToBoard 105 = .ok (.goto (-98), 3) := by decide +kernel
theorem dX3_firstToBoard_108 : decode cX3_firstToBoard 108 = .ok (.iload_n 2, 1) := by decide +kernel
theorem dX3_firstToBoard_109 : decode cX3_firstToBoard 109 = .ok (.ireturn, 1) := by decide +kernel
theorem dX3_rains_0 : decode cX3_rains 0 = .ok (.aload_n 0, 1) := by decide +kernel
theorem dX3_rains_1 : decode cX3_rains 1 = .ok (.getfield 9, 3) := by decide +kernel
theorem dX3_rains_4 : decode cX3_rains 4 = .ok (.ifCond .ne 21, 3) := by decide +kernel
theorem dX3_rains_7 : decode cX3_rains 7 = .ok (.aload_n 0, 1) := by decide +kernel
theorem dX3_rains_8 : decode cX3_rains 8 = .ok (.getfield 33, 3) := by decide +kernel
theorem dX3_rains_11 : decode cX3_rains 11 = .ok (.getfield 163, 3) := by decide +kernel
theorem dX3_rains_14 : decode cX3_rains 14 = .ok (.bipush 50, 2) := by decide +kernel
theorem dX3_rains_16 : decode cX3_rains 16 = .ok (.if_icmp .lt 7, 3) := by decide +kernel
theorem dX3_rains_19 : decode cX3_rains 19 = .ok (.iconst 1, 1) := by decide +kernel
theorem dX3_rains_20 : decode cX3_rains 20 = .ok (.goto 4, 3) := by decide +kernel
theorem dX3_rains_23 : decode cX3_rains 23 = .ok (.iconst 0, 1) := by decide +kernel
theorem dX3_rains_24 : decode cX3_rains 24 = .ok (.ireturn, 1) := by decide +kernel
theorem dX3_rains_25 : decode cX3_rains 25 = .ok (.aload_n 0, 1) := by decide +kernel
theorem dX3_rains_26 : decode cX3_rains 26 = .ok (.getfield 33, 3) := by decide +kernel
theorem dX3_rains_29 : decode cX3_rains 29 = .ok (.getfield 163, 3) := by decide +kernel
theorem dX3_rains_32 : decode cX3_rains 32 = .ok (.ifCond .eq 15, 3) := by decide +kernel
theorem dX3_rains_35 : decode cX3_rains 35 = .ok (.aload_n 0, 1) := by decide +kernel
theorem dX3_rains_36 : decode cX3_rains 36 = .ok (.getfield 33, 3) := by decide +kernel
theorem dX3_rains_39 : decode cX3_rains 39 = .ok (.getfield 163, 3) := by decide +kernel
theorem dX3_rains_42 : decode cX3_rains 42 = .ok (.bipush 100, 2) := by decide +kernel
theorem dX3_rains_44 : decode cX3_rains 44 = .ok (.if_icmp .ne 21, 3) := by decide +kernel
theorem dX3_rains_47 : decode cX3_rains 47 = .ok (.aload_n 0, 1) := by decide +kernel
theorem dX3_rains_48 : decode cX3_rains 48 = .ok (.getfield 33, 3) := by decide +kernel
theorem dX3_rains_51 : decode cX3_rains 51 = .ok (.getfield 163, 3) := by decide +kernel
theorem dX3_rains_54 : decode cX3_rains 54 = .ok (.bipush 100, 2) := by decide +kernel
theorem dX3_rains_56 : decode cX3_rains 56 = .ok (.if_icmp .ne 7, 3) := by decide +kernel
theorem dX3_rains_59 : decode cX3_rains 59 = .ok (.iconst 1, 1) := by decide +kernel
theorem dX3_rains_60 : decode cX3_rains 60 = .ok (.goto 4, 3) := by decide +kernel
theorem dX3_rains_63 : decode cX3_rains 63 = .ok (.iconst 0, 1) := by decide +kernel
theorem dX3_rains_64 : decode cX3_rains 64 = .ok (.ireturn, 1) := by decide +kernel
theorem dX3_rains_65 : decode cX3_rains 65 = .ok (.aload_n 0, 1) := by decide +kernel
theorem dX3_rains_66 : decode cX3_rains 66 = .ok (.getfield 37, 3) := by decide +kernel
theorem dX3_rains_69 : decode cX3_rains 69 = .ok (.aload_n 0, 1) := by decide +kernel
theorem dX3_rains_70 : decode cX3_rains 70 = .ok (.getfield 37, 3) := by decide +kernel
theorem dX3_rains_73 : decode cX3_rains 73 = .ok (.getfield 166, 3) := by decide +kernel
theorem dX3_rains_76 : decode cX3_rains 76 = .ok (.i2l, 1) := by decide +kernel
theorem dX3_rains_77 : decode cX3_rains 77 = .ok (.ldc2_w 169, 3) := by decide +kernel
theorem dX3_rains_80 : decode cX3_rains 80 = .ok (.lmul, 1) := by decide +kernel
theorem dX3_rains_81 : decode cX3_rains 81 = .ok (.ldc2_w 171, 3) := by decide +kernel
theorem dX3_rains_84 : decode cX3_rains 84 = .ok (.ladd, 1) := by decide +kernel
theorem dX3_rains_85 : decode cX3_rains 85 = .ok (.ldc2_w 173, 3) := by decide +kernel
theorem dX3_rains_88 : decode cX3_rains 88 = .ok (.land, 1) := by decide +kernel
theorem dX3_rains_89 : decode cX3_rains 89 = .ok (.l2i, 1) := by decide +kernel
theorem dX3_rains_90 : decode cX3_rains 90 = .ok (.putfield 166, 3) := by decide +kernel
theorem dX3_rains_93 : decode cX3_rains 93 = .ok (.aload_n 0, 1) := by decide +kernel
theorem dX3_rains_94 : decode cX3_rains 94 = .ok (.getfield 37, 3) := by decide +kernel
theorem dX3_rains_97 : decode cX3_rains 97 = .ok (.getfield 166, 3) := by decide +kernel
theorem dX3_rains_100 : decode cX3_rains 100 = .ok (.ldc 175, 2) := by decide +kernel
theorem dX3_rains_102 : decode cX3_rains 102 = .ok (.idiv, 1) := by decide +kernel
theorem dX3_rains_103 : decode cX3_rains 103 = .ok (.bipush 100, 2) := by decide +kernel
theorem dX3_rains_105 : decode cX3_rains 105 = .ok (.irem, 1) := by decide +kernel
theorem dX3_rains_106 : decode cX3_rains 106 = .ok (.aload_n 0, 1) := by decide +kernel
theorem dX3_rains_107 : decode cX3_rains 107 = .ok (.getfield 33, 3) := by decide +kernel
theorem dX3_rains_110 : decode cX3_rains 110 = .ok (.getfield 163, 3) := by decide +kernel
theorem dX3_rains_113 : decode cX3_rains 113 = .ok (.if_icmp .ge 7, 3) := by decide +kernel
theorem dX3_rains_116 : decode cX3_rains 116 = .ok (.iconst 1, 1) := by decide +kernel
theorem dX3_rains_117 : decode cX3_rains 117 = .ok (.goto 4, 3) := by decide +kernel
theorem dX3_rains_120 : decode cX3_rains 120 = .ok (.iconst 0, 1) := by decide +kernel
theorem dX3_rains_121 : decode cX3_rains 121 = .ok (.ireturn, 1) := by decide +kernel
theorem dX3_soak_0 : decode cX3_soak 0 = .ok (.aload_n 0, 1) := by decide +kernel
theorem dX3_soak_1 : decode cX3_soak 1 = .ok (.getfield 33, 3) := by decide +kernel
theorem dX3_soak_4 : decode cX3_soak 4 = .ok (.getfield 176, 3) := by decide +kernel
theorem dX3_soak_7 : decode cX3_soak 7 = .ok (.istore_n 1, 1) := by decide +kernel
theorem dX3_soak_8 : decode cX3_soak 8 = .ok (.iload_n 1, 1) := by decide +kernel
theorem dX3_soak_9 : decode cX3_soak 9 = .ok (.aload_n 0, 1) := by decide +kernel
theorem dX3_soak_10 : decode cX3_soak 10 = .ok (.getfield 37, 3) := by decide +kernel
theorem dX3_soak_13 : decode cX3_soak 13 = .ok (.getfield 81, 3) := by decide +kernel
theorem dX3_soak_16 : decode cX3_soak 16 = .ok (.if_icmp .ge 95, 3) := by decide +kernel
theorem dX3_soak_19 : decode cX3_soak 19 = .ok (.aload_n 0, 1) := by decide +kernel
theorem dX3_soak_20 : decode cX3_soak 20 = .ok (.getfield 37, 3) := by decide +kernel
theorem dX3_soak_23 : decode cX3_soak 23 = .ok (.getfield 107, 3) := by decide +kernel
theorem dX3_soak_26 : decode cX3_soak 26 = .ok (.iload_n 1, 1) := by decide +kernel
theorem dX3_soak_27 : decode cX3_soak 27 = .ok (.iaload, 1) := by decide +kernel
theorem dX3_soak_28 : decode cX3_soak 28 = .ok (.istore_n 2, 1) := by decide +kernel
theorem dX3_soak_29 : decode cX3_soak 29 = .ok (.aload_n 0, 1) := by decide +kernel
theorem dX3_soak_30 : decode cX3_soak 30 = .ok (.iload_n 2, 1) := by decide +kernel
theorem dX3_soak_31 : decode cX3_soak 31 = .ok (.iload_n 1, 1) := by decide +kernel
theorem dX3_soak_32 : decode cX3_soak 32 = .ok (.iconst 0, 1) := by decide +kernel
theorem dX3_soak_33 : decode cX3_soak 33 = .ok (.invokevirtual 134, 3) := by decide +kernel
theorem dX3_soak_36 : decode cX3_soak 36 = .ok (.aload_n 0, 1) := by decide +kernel
theorem dX3_soak_37 : decode cX3_soak 37 = .ok (.getfield 33, 3) := by decide +kernel
theorem dX3_soak_40 : decode cX3_soak 40 = .ok (.getfield 138, 3) := by decide +kernel
theorem dX3_soak_43 : decode cX3_soak 43 = .ok (.iconst 2, 1) := by decide +kernel
theorem dX3_soak_44 : decode cX3_soak 44 = .ok (.aload_n 0, 1) := by decide +kernel
theorem dX3_soak_45 : decode cX3_soak 45 = .ok (.getfield 25, 3) := by decide +kernel
theorem dX3_soak_48 : decode cX3_soak 48 = .ok (.invokevirtual 142, 3) := by decide +kernel
theorem dX3_soak_51 : decode cX3_soak 51 = .ok (.lstore_n 3, 1) := by decide +kernel
theorem dX3_soak_52 : decode cX3_soak 52 = .ok (.lload_n 3, 1) := by decide +kernel
theorem dX3_soak_53 : decode cX3_soak 53 = .ok (.ldc2_w 148, 3) := by decide +kernel
theorem dX3_soak_56 : decode cX3_soak 56 = .ok (.lcmp, 1) := by decide +kernel
theorem dX3_soak_57 : decode cX3_soak 57 = .ok (.ifCond .ne 7, 3) := by decide +kernel
theorem dX3_soak_60 : decode cX3_soak 60 = .ok (.iconst 1, 1) := by decide +kernel
theorem dX3_soak_61 : decode cX3_soak 61 = .ok (.goto 15, 3) := by decide +kernel
theorem dX3_soak_64 : decode cX3_soak 64 = .ok (.lconst 0, 1) := by decide +kernel
theorem dX3_soak_65 : decode cX3_soak 65 = .ok (.ldc2_w 179, 3) := by decide +kernel
theorem dX3_soak_68 : decode cX3_soak 68 = .ok (.lload_n 3, 1) := by decide +kernel
theorem dX3_soak_69 : decode cX3_soak 69 = .ok (.invokestatic 154, 3) := by decide +kernel
theorem dX3_soak_72 : decode cX3_soak 72 = .ok (.invokestatic 158, 3) := by decide +kernel
theorem dX3_soak_75 : decode cX3_soak 75 = .ok (.l2i, 1) := by decide +kernel
theorem dX3_soak_76 : decode cX3_soak 76 = .ok (.istore 5, 2) := by decide +kernel
theorem dX3_soak_78 : decode cX3_soak 78 = .ok (.aload_n 0, 1) := by decide +kernel
theorem dX3_soak_79 : decode cX3_soak 79 = .ok (.getfield 37, 3) := by decide +kernel
theorem dX3_soak_82 : decode cX3_soak 82 = .ok (.getfield 181, 3) := by decide +kernel
theorem dX3_soak_85 : decode cX3_soak 85 = .ok (.iload_n 2, 1) := by decide +kernel
theorem dX3_soak_86 : decode cX3_soak 86 = .ok (.aload_n 0, 1) := by decide +kernel
theorem dX3_soak_87 : decode cX3_soak 87 = .ok (.getfield 37, 3) := by decide +kernel
theorem dX3_soak_90 : decode cX3_soak 90 = .ok (.getfield 181, 3) := by decide +kernel
theorem dX3_soak_93 : decode cX3_soak 93 = .ok (.iload_n 2, 1) := by decide +kernel
theorem dX3_soak_94 : decode cX3_soak 94 = .ok (.iaload, 1) := by decide +kernel
theorem dX3_soak_95 : decode cX3_soak 95 = .ok (.iload 5, 2) := by decide +kernel
theorem dX3_soak_97 : decode cX3_soak 97 = .ok (.iadd, 1) := by decide +kernel
theorem dX3_soak_98 : decode cX3_soak 98 = .ok (.sipush 999, 3) := by decide +kernel
theorem dX3_soak_101 : decode cX3_soak 101 = .ok (.invokestatic 184, 3) := by decide +kernel
theorem dX3_soak_104 : decode cX3_soak 104 = .ok (.iastore, 1) := by decide +kernel
theorem dX3_soak_105 : decode cX3_soak 105 = .ok (.iinc 1 1, 3) := by decide +kernel
theorem dX3_soak_108 : decode cX3_soak 108 = .ok (.goto (-100), 3) := by decide +kernel
theorem dX3_soak_111 : decode cX3_soak 111 = .ok (.return_, 1) := by decide +kernel
theorem dX3_look_0 : decode cX3_look 0 = .ok (.aload_n 0, 1) := by decide +kernel
theorem dX3_look_1 : decode cX3_look 1 = .ok (.getfield 25, 3) := by decide +kernel
theorem dX3_look_4 : decode cX3_look 4 = .ok (.iconst 0, 1) := by decide +kernel
theorem dX3_look_5 : decode cX3_look 5 = .ok (.aload_n 0, 1) := by decide +kernel
theorem dX3_look_6 : decode cX3_look 6 = .ok (.getfield 33, 3) := by decide +kernel
theorem dX3_look_9 : decode cX3_look 9 = .ok (.getfield 186, 3) := by decide +kernel
theorem dX3_look_12 : decode cX3_look 12 = .ok (.iload_n 1, 1) := by decide +kernel
theorem dX3_look_13 : decode cX3_look 13 = .ok (.iaload, 1) := by decide +kernel
theorem dX3_look_14 : decode cX3_look 14 = .ok (.i2l, 1) := by decide +kernel
theorem dX3_look_15 : decode cX3_look 15 = .ok (.lastore, 1) := by decide +kernel
theorem dX3_look_16 : decode cX3_look 16 = .ok (.aload_n 0, 1) := by decide +kernel
theorem dX3_look_17 : decode cX3_look 17 = .ok (.getfield 25, 3) := by decide +kernel
theorem dX3_look_20 : decode cX3_look 20 = .ok (.iconst 1, 1) := by decide +kernel
theorem dX3_look_21 : decode cX3_look 21 = .ok (.aload_n 0, 1) := by decide +kernel
theorem dX3_look_22 : decode cX3_look 22 = .ok (.getfield 37, 3) := by decide +kernel
theorem dX3_look_25 : decode cX3_look 25 = .ok (.getfield 119, 3) := by decide +kernel
theorem dX3_look_28 : decode cX3_look 28 = .ok (.iload_n 1, 1) := by decide +kernel
theorem dX3_look_29 : decode cX3_look 29 = .ok (.iaload, 1) := by decide +kernel
theorem dX3_look_30 : decode cX3_look 30 = .ok (.i2l, 1) := by decide +kernel
theorem dX3_look_31 : decode cX3_look 31 = .ok (.lastore, 1) := by decide +kernel
theorem dX3_look_32 : decode cX3_look 32 = .ok (.aload_n 0, 1) := by decide +kernel
theorem dX3_look_33 : decode cX3_look 33 = .ok (.getfield 25, 3) := by decide +kernel
theorem dX3_look_36 : decode cX3_look 36 = .ok (.iconst 2, 1) := by decide +kernel
theorem dX3_look_37 : decode cX3_look 37 = .ok (.aload_n 0, 1) := by decide +kernel
theorem dX3_look_38 : decode cX3_look 38 = .ok (.getfield 37, 3) := by decide +kernel
theorem dX3_look_41 : decode cX3_look 41 = .ok (.getfield 181, 3) := by decide +kernel
theorem dX3_look_44 : decode cX3_look 44 = .ok (.iload_n 1, 1) := by decide +kernel
theorem dX3_look_45 : decode cX3_look 45 = .ok (.iaload, 1) := by decide +kernel
theorem dX3_look_46 : decode cX3_look 46 = .ok (.i2l, 1) := by decide +kernel
theorem dX3_look_47 : decode cX3_look 47 = .ok (.lastore, 1) := by decide +kernel
theorem dX3_look_48 : decode cX3_look 48 = .ok (.aload_n 0, 1) := by decide +kernel
theorem dX3_look_49 : decode cX3_look 49 = .ok (.getfield 25, 3) := by decide +kernel
theorem dX3_look_52 : decode cX3_look 52 = .ok (.iconst 3, 1) := by decide +kernel
theorem dX3_look_53 : decode cX3_look 53 = .ok (.aload_n 0, 1) := by decide +kernel
theorem dX3_look_54 : decode cX3_look 54 = .ok (.getfield 37, 3) := by decide +kernel
theorem dX3_look_57 : decode cX3_look 57 = .ok (.getfield 64, 3) := by decide +kernel
theorem dX3_look_60 : decode cX3_look 60 = .ok (.aload_n 0, 1) := by decide +kernel
theorem dX3_look_61 : decode cX3_look 61 = .ok (.getfield 33, 3) := by decide +kernel
theorem dX3_look_64 : decode cX3_look 64 = .ok (.getfield 78, 3) := by decide +kernel
theorem dX3_look_67 : decode cX3_look 67 = .ok (.iload_n 1, 1) := by decide +kernel
theorem dX3_look_68 : decode cX3_look 68 = .ok (.iaload, 1) := by decide +kernel
theorem dX3_look_69 : decode cX3_look 69 = .ok (.isub, 1) := by decide +kernel
theorem dX3_look_70 : decode cX3_look 70 = .ok (.i2l, 1) := by decide +kernel
theorem dX3_look_71 : decode cX3_look 71 = .ok (.lastore, 1) := by decide +kernel
theorem dX3_look_72 : decode cX3_look 72 = .ok (.aload_n 0, 1) := by decide +kernel
theorem dX3_look_73 : decode cX3_look 73 = .ok (.getfield 25, 3) := by decide +kernel
theorem dX3_look_76 : decode cX3_look 76 = .ok (.iconst 4, 1) := by decide +kernel
theorem dX3_look_77 : decode cX3_look 77 = .ok (.iload_n 3, 1) := by decide +kernel
theorem dX3_look_78 : decode cX3_look 78 = .ok (.i2l, 1) := by decide +kernel
theorem dX3_look_79 : decode cX3_look 79 = .ok (.lastore, 1) := by decide +kernel
theorem dX3_look_80 : decode cX3_look 80 = .ok (.aload_n 0, 1) := by decide +kernel
theorem dX3_look_81 : decode cX3_look 81 = .ok (.getfield 25, 3) := by decide +kernel
theorem dX3_look_84 : decode cX3_look 84 = .ok (.iconst 5, 1) := by decide +kernel
theorem dX3_look_85 : decode cX3_look 85 = .ok (.iload_n 2, 1) := by decide +kernel
theorem dX3_look_86 : decode cX3_look 86 = .ok (.i2l, 1) := by decide +kernel
theorem dX3_look_87 : decode cX3_look 87 = .ok (.lastore, 1) := by decide +kernel
theorem dX3_look_88 : decode cX3_look 88 = .ok (.aload_n 0, 1) := by decide +kernel
theorem dX3_look_89 : decode cX3_look 89 = .ok (.getfield 25, 3) := by decide +kernel
theorem dX3_look_92 : decode cX3_look 92 = .ok (.bipush 6, 2) := by decide +kernel
theorem dX3_look_94 : decode cX3_look 94 = .ok (.aload_n 0, 1) := by decide +kernel
theorem dX3_look_95 : decode cX3_look 95 = .ok (.getfield 37, 3) := by decide +kernel
theorem dX3_look_98 : decode cX3_look 98 = .ok (.getfield 64, 3) := by decide +kernel
theorem dX3_look_101 : decode cX3_look 101 = .ok (.i2l, 1) := by decide +kernel
theorem dX3_look_102 : decode cX3_look 102 = .ok (.lastore, 1) := by decide +kernel
theorem dX3_look_103 : decode cX3_look 103 = .ok (.return_, 1) := by decide +kernel
theorem dX4_init_0 : decode cX4_init 0 = .ok (.aload_n 0, 1) := by decide +kernel
theorem dX4_init_1 : decode cX4_init 1 = .ok (.invokespecial 3, 3) := by decide +kernel
theorem dX4_init_4 : decode cX4_init 4 = .ok (.aload_n 0, 1) := by decide +kernel
theorem dX4_init_5 : decode cX4_init 5 = .ok (.new 9, 3) := by decide +kernel
theorem dX4_init_8 : decode cX4_init 8 = .ok (.dup, 1) := by decide +kernel
theorem dX4_init_9 : decode cX4_init 9 = .ok (.invokespecial 11, 3) := by decide +kernel
theorem dX4_init_12 : decode cX4_init 12 = .ok (.putfield 12, 3) := by decide +kernel
theorem dX4_init_15 : decode cX4_init 15 = .ok (.aload_n 0, 1) := by decide +kernel
theorem dX4_init_16 : decode cX4_init 16 = .ok (.iconst 0, 1) := by decide +kernel
theorem dX4_init_17 : decode cX4_init 17 = .ok (.putfield 18, 3) := by decide +kernel
theorem dX4_init_20 : decode cX4_init 20 = .ok (.aload_n 0, 1) := by decide +kernel
theorem dX4_init_21 : decode cX4_init 21 = .ok (.iconst 0, 1) := by decide +kernel
theorem dX4_init_22 : decode cX4_init 22 = .ok (.putfield 22, 3) := by decide +kernel
theorem dX4_init_25 : decode cX4_init 25 = .ok (.aload_n 0, 1) := by decide +kernel
theorem dX4_init_26 : decode cX4_init 26 = .ok (.iconst (-1), 1) := by decide +kernel
theorem dX4_init_27 : decode cX4_init 27 = .ok (.putfield 25, 3) := by decide +kernel
theorem dX4_init_30 : decode cX4_init 30 = .ok (.aload_n 0, 1) := by decide +kernel
theorem dX4_init_31 : decode cX4_init 31 = .ok (.new 28, 3) := by decide +kernel
theorem dX4_init_34 : decode cX4_init 34 = .ok (.dup, 1) := by decide +kernel
theorem dX4_init_35 : decode cX4_init 35 = .ok (.aload_n 1, 1) := by decide +kernel
theorem dX4_init_36 : decode cX4_init 36 = .ok (.invokespecial 30, 3) := by decide +kernel
theorem dX4_init_39 : decode cX4_init 39 = .ok (.putfield 33, 3) := by decide +kernel
theorem dX4_init_42 : decode cX4_init 42 = .ok (.aload_n 0, 1) := by decide +kernel
theorem dX4_init_43 : decode cX4_init 43 = .ok (.new 37, 3) := by decide +kernel
theorem dX4_init_46 : decode cX4_init 46 = .ok (.dup, 1) := by decide +kernel
theorem dX4_init_47 : decode cX4_init 47 = .ok (.aload_n 0, 1) := by decide +kernel
theorem dX4_init_48 : decode cX4_init 48 = .ok (.getfield 33, 3) := by decide +kernel
theorem dX4_init_51 : decode cX4_init 51 = .ok (.invokespecial 39, 3) := by decide +kernel
theorem dX4_init_54 : decode cX4_init 54 = .ok (.putfield 42, 3) := by decide +kernel
theorem dX4_init_57 : decode cX4_init 57 = .ok (.return_, 1) := by decide +kernel
theorem dX4_read_0 : decode cX4_read 0 = .ok (.aload_n 0, 1) := by decide +kernel
theorem dX4_read_1 : decode cX4_read 1 = .ok (.getfield 12, 3) := by decide +kernel
theorem dX4_read_4 : decode cX4_read 4 = .ok (.invokevirtual 46, 3) := by decide +kernel
theorem dX4_read_7 : decode cX4_read 7 = .ok (.aload_n 0, 1) := by decide +kernel
theorem dX4_read_8 : decode cX4_read 8 = .ok (.iconst 0, 1) := by decide +kernel
theorem dX4_read_9 : decode cX4_read 9 = .ok (.putfield 18, 3) := by decide +kernel
theorem dX4_read_12 : decode cX4_read 12 = .ok (.aload_n 0, 1) := by decide +kernel
theorem dX4_read_13 : decode cX4_read 13 = .ok (.iconst 0, 1) := by decide +kernel
theorem dX4_read_14 : decode cX4_read 14 = .ok (.putfield 22, 3) := by decide +kernel
theorem dX4_read_17 : decode cX4_read 17 = .ok (.aload_n 0, 1) := by decide +kernel
theorem dX4_read_18 : decode cX4_read 18 = .ok (.iconst (-1), 1) := by decide +kernel
theorem dX4_read_19 : decode cX4_read 19 = .ok (.putfield 25, 3) := by decide +kernel
theorem dX4_read_22 : decode cX4_read 22 = .ok (.aload_n 0, 1) := by decide +kernel
theorem dX4_read_23 : decode cX4_read 23 = .ok (.getfield 33, 3) := by decide +kernel
theorem dX4_read_26 : decode cX4_read 26 = .ok (.iload_n 1, 1) := by decide +kernel
theorem dX4_read_27 : decode cX4_read 27 = .ok (.invokevirtual 49, 3) := by decide +kernel
theorem dX4_read_30 : decode cX4_read 30 = .ok (.iconst 0, 1) := by decide +kernel
theorem dX4_read_31 : decode cX4_read 31 = .ok (.istore_n 2, 1) := by decide +kernel
theorem dX4_read_32 : decode cX4_read 32 = .ok (.aload_n 0, 1) := by decide +kernel
theorem dX4_read_33 : decode cX4_read 33 = .ok (.getfield 33, 3) := by decide +kernel
theorem dX4_read_36 : decode cX4_read 36 = .ok (.getfield 53, 3) := by decide +kernel
theorem dX4_read_39 : decode cX4_read 39 = .ok (.bipush 35, 2) := by decide +kernel
theorem dX4_read_41 : decode cX4_read 41 = .ok (.if_icmp .eq 25, 3) := by decide +kernel
theorem dX4_read_44 : decode cX4_read 44 = .ok (.iload_n 2, 1) := by decide +kernel
theorem dX4_read_45 : decode cX4_read 45 = .ok (.sipush 700, 3) := by decide +kernel
theorem dX4_read_48 : decode cX4_read 48 = .ok (.if_icmp .ge 18, 3) := by decide +kernel
theorem dX4_read_51 : decode cX4_read 51 = .ok (.aload_n 0, 1) := by decide +kernel
theorem dX4_read_52 : decode cX4_read 52 = .ok (.invokevirtual 56, 3) := by decide +kernel
theorem dX4_read_55 : decode cX4_read 55 = .ok (.ifCond .ne 5, 3) := by decide +kernel
theorem dX4_read_58 : decode cX4_read 58 = .ok (.iconst (-1), 1) := by decide +kernel
theorem dX4_read_59 : decode cX4_read 59 = .ok (.ireturn, 1) := by decide +kernel
theorem dX4_read_60 : decode cX4_read 60 = .ok (.iinc 2 1, 3) := by decide +kernel
theorem dX4_read_63 : decode cX4_read 63 = .ok (.goto (-31), 3) := by decide +kernel
theorem dX4_read_66 : decode cX4_read 66 = .ok (.iload_n 2, 1) := by decide +kernel
theorem dX4_read_67 : decode cX4_read 67 = .ok (.ireturn, 1) := by decide +kernel
theorem dX4_exchange_0 : decode cX4_exchange 0 = .ok (.aload_n 0, 1) := by decide +kernel
theorem dX4_exchange_1 : decode cX4_exchange 1 = .ok (.getfield 12, 3) := by decide +kernel
theorem dX4_exchange_4 : decode cX4_exchange 4 = .ok (.astore_n 2, 1) := by decide +kernel
theorem dX4_exchange_5 : decode cX4_exchange 5 = .ok (.aload_n 0, 1) := by decide +kernel
theorem dX4_exchange_6 : decode cX4_exchange 6 = .ok (.aload_n 1, 1) := by decide +kernel
theorem dX4_exchange_7 : decode cX4_exchange 7 = .ok (.putfield 12, 3) := by decide +kernel
theorem dX4_exchange_10 : decode cX4_exchange 10 = .ok (.aload_n 2, 1) := by decide +kernel
theorem dX4_exchange_11 : decode cX4_exchange 11 = .ok (.areturn, 1) := by decide +kernel
theorem dX4_refuse_0 : decode cX4_refuse 0 = .ok (.aload_n 0, 1) := by decide +kernel
theorem dX4_refuse_1 : decode cX4_refuse 1 = .ok (.iload_n 1, 1) := by decide +kernel
theorem dX4_refuse_2 : decode cX4_refuse 2 = .ok (.putfield 22, 3) := by decide +kernel
theorem dX4_refuse_5 : decode cX4_refuse 5 = .ok (.aload_n 0, 1) := by decide +kernel
theorem dX4_refuse_6 : decode cX4_refuse 6 = .ok (.aload_n 0, 1) := by decide +kernel
theorem dX4_refuse_7 : decode cX4_refuse 7 = .ok (.getfield 33, 3) := by decide +kernel
theorem dX4_refuse_10 : decode cX4_refuse 10 = .ok (.getfield 60, 3) := by decide +kernel
theorem dX4_refuse_13 : decode cX4_refuse 13 = .ok (.putfield 25, 3) := by decide +kernel
theorem dX4_refuse_16 : decode cX4_refuse 16 = .ok (.iconst 0, 1) := by decide +kernel
theorem dX4_refuse_17 : decode cX4_refuse 17 = .ok (.ireturn, 1) := by decide +kernel
theorem dX4_readLine_0 : decode cX4_readLine 0 = .ok (.aload_n 0, 1) := by decide +kernel
theorem dX4_readLine_1 : decode cX4_readLine 1 = .ok (.getfield 33, 3) := by decide +kernel
theorem dX4_readLine_4 : decode cX4_readLine 4 = .ok (.getfield 53, 3) := by decide +kernel
theorem dX4_readLine_7 : decode cX4_readLine 7 = .ok (.tableswitch 88 0 6 #[41, 49, 57, 65, 65, 65, 80], 41) := by decide +kernel
theorem dX4_readLine_48 : decode cX4_readLine 48 = .ok (.aload_n 0, 1) := by decide +kernel
theorem dX4_readLine_49 : decode cX4_readLine 49 = .ok (.invokevirtual 61, 3) := by decide +kernel
theorem dX4_readLine_52 : decode cX4_readLine 52 = .ok (.istore_n 1, 1) := by decide +kernel
theorem dX4_readLine_53 : decode cX4_readLine 53 = .ok (.goto 48, 3) := by decide +kernel
theorem dX4_readLine_56 : decode cX4_readLine 56 = .ok (.aload_n 0, 1) := by decide +kernel
theorem dX4_readLine_57 : decode cX4_readLine 57 = .ok (.invokevirtual 64, 3) := by decide +kernel
theorem dX4_readLine_60 : decode cX4_readLine 60 = .ok (.istore_n 1, 1) := by decide +kernel
theorem dX4_readLine_61 : decode cX4_readLine 61 = .ok (.goto 40, 3) := by decide +kernel
theorem dX4_readLine_64 : decode cX4_readLine 64 = .ok (.aload_n 0, 1) := by decide +kernel
theorem dX4_readLine_65 : decode cX4_readLine 65 = .ok (.invokevirtual 67, 3) := by decide +kernel
theorem dX4_readLine_68 : decode cX4_readLine 68 = .ok (.istore_n 1, 1) := by decide +kernel
theorem dX4_readLine_69 : decode cX4_readLine 69 = .ok (.goto 32, 3) := by decide +kernel
theorem dX4_readLine_72 : decode cX4_readLine 72 = .ok (.aload_n 0, 1) := by decide +kernel
theorem dX4_readLine_73 : decode cX4_readLine 73 = .ok (.aload_n 0, 1) := by decide +kernel
theorem dX4_readLine_74 : decode cX4_readLine 74 = .ok (.getfield 33, 3) := by decide +kernel
theorem dX4_readLine_77 : decode cX4_readLine 77 = .ok (.getfield 53, 3) := by decide +kernel
theorem dX4_readLine_80 : decode cX4_readLine 80 = .ok (.invokevirtual 70, 3) := by decide +kernel
theorem dX4_readLine_83 : decode cX4_readLine 83 = .ok (.istore_n 1, 1) := by decide +kernel
theorem dX4_readLine_84 : decode cX4_readLine 84 = .ok (.goto 17, 3) := by decide +kernel
theorem dX4_readLine_87 : decode cX4_readLine 87 = .ok (.aload_n 0, 1) := by decide +kernel
theorem dX4_readLine_88 : decode cX4_readLine 88 = .ok (.invokevirtual 74, 3) := by decide +kernel
theorem dX4_readLine_91 : decode cX4_readLine 91 = .ok (.istore_n 1, 1) := by decide +kernel
theorem dX4_readLine_92 : decode cX4_readLine 92 = .ok (.goto 9, 3) := by decide +kernel
theorem dX4_readLine_95 : decode cX4_readLine 95 = .ok (.aload_n 0, 1) := by decide +kernel
theorem dX4_readLine_96 : decode cX4_readLine 96 = .ok (.iconst 1, 1) := by decide +kernel
theorem dX4_readLine_97 : decode cX4_readLine 97 = .ok (.invokevirtual 77, 3) := by decide +kernel
theorem dX4_readLine_100 : decode cX4_readLine 100 = .ok (.ireturn, 1) := by decide +kernel
theorem dX4_readLine_101 : decode cX4_readLine 101 = .ok (.iload_n 1, 1) := by decide +kernel
theorem dX4_readLine_102 : decode cX4_readLine 102 = .ok (.ifCond .ne 5, 3) := by decide +kernel
theorem dX4_readLine_105 : decode cX4_readLine 105 = .ok (.iconst 0, 1) := by decide +kernel
theorem dX4_readLine_106 : decode cX4_readLine 106 = .ok (.ireturn, 1) := by decide +kernel
theorem dX4_readLine_107 : decode cX4_readLine 107 = .ok (.aload_n 0, 1) := by decide +kernel
theorem dX4_readLine_108 : decode cX4_readLine 108 = .ok (.getfield 33, 3) := by decide +kernel
theorem dX4_readLine_111 : decode cX4_readLine 111 = .ok (.getfield 53, 3) := by decide +kernel
theorem dX4_readLine_114 : decode cX4_readLine 114 = .ok (.bipush 22, 2) := by decide +kernel
theorem dX4_readLine_116 : decode cX4_readLine 116 = .ok (.if_icmp .eq 9, 3) := by decide +kernel
theorem dX4_readLine_119 : decode cX4_readLine 119 = .ok (.aload_n 0, 1) := by decide +kernel
theorem dX4_readLine_120 : decode cX4_readLine 120 = .ok (.iconst 1, 1) := by decide +kernel
theorem dX4_readLine_121 : decode cX4_readLine 121 = .ok (.invokevirtual 77, 3) := by decide +kernel
theorem dX4_readLine_124 : decode cX4_readLine 124 = .ok (.ireturn, 1) := by decide +kernel
theorem dX4_readLine_125 : decode cX4_readLine 125 = .ok (.aload_n 0, 1) := by decide +kernel
theorem dX4_readLine_126 : decode cX4_readLine 126 = .ok (.getfield 33, 3) := by decide +kernel
theorem dX4_readLine_129 : decode cX4_readLine 129 = .ok (.invokevirtual 80, 3) := by decide +kernel
theorem dX4_readLine_132 : decode cX4_readLine 132 = .ok (.iconst 1, 1) := by decide +kernel
theorem dX4_readLine_133 : decode cX4_readLine 133 = .ok (.ireturn, 1) := by decide +kernel
theorem dX4_readSoul_0 : decode cX4_readSoul 0 = .ok (.aload_n 0, 1) := by decide +kernel
theorem dX4_readSoul_1 : decode cX4_readSoul 1 = .ok (.getfield 12, 3) := by decide +kernel
theorem dX4_readSoul_4 : decode cX4_readSoul 4 = .ok (.getfield 83, 3) := by decide +kernel
theorem dX4_readSoul_7 : decode cX4_readSoul 7 = .ok (.istore_n 1, 1) := by decide +kernel
theorem dX4_readSoul_8 : decode cX4_readSoul 8 = .ok (.iload_n 1, 1) := by decide +kernel
theorem dX4_readSoul_9 : decode cX4_readSoul 9 = .ok (.bipush 8, 2) := by decide +kernel
theorem dX4_readSoul_11 : decode cX4_readSoul 11 = .ok (.if_icmp .lt 9, 3) := by decide +kernel
theorem dX4_readSoul_14 : decode cX4_readSoul 14 = .ok (.aload_n 0, 1) := by decide +kernel
theorem dX4_readSoul_15 : decode cX4_readSoul 15 = .ok (.iconst 2, 1) := by decide +kernel
theorem dX4_readSoul_16 : decode cX4_readSoul 16 = .ok (.invokevirtual 77, 3) := by decide +kernel
theorem dX4_readSoul_19 : decode cX4_readSoul 19 = .ok (.ireturn, 1) := by decide +kernel
theorem dX4_readSoul_20 : decode cX4_readSoul 20 = .ok (.aload_n 0, 1) := by decide +kernel
theorem dX4_readSoul_21 : decode cX4_readSoul 21 = .ok (.getfield 33, 3) := by decide +kernel
theorem dX4_readSoul_24 : decode cX4_readSoul 24 = .ok (.invokevirtual 80, 3) := by decide +kernel
theorem dX4_readSoul_27 : decode cX4_readSoul 27 = .ok (.aload_n 0, 1) := by decide +kernel
theorem dX4_readSoul_28 : decode cX4_readSoul 28 = .ok (.aload_n 0, 1) := by decide +kernel
theorem dX4_readSoul_29 : decode cX4_readSoul 29 = .ok (.getfield 12, 3) := by decide +kernel
theorem dX4_readSoul_32 : decode cX4_readSoul 32 = .ok (.getfield 86, 3) := by decide +kernel
theorem dX4_readSoul_35 : decode cX4_readSoul 35 = .ok (.iload_n 1, 1) := by decide +kernel
theorem dX4_readSoul_36 : decode cX4_readSoul 36 = .ok (.invokevirtual 90, 3) := by decide +kernel
theorem dX4_readSoul_39 : decode cX4_readSoul 39 = .ok (.ifCond .eq 57, 3) := by decide +kernel
theorem dX4_readSoul_42 : decode cX4_readSoul 42 = .ok (.aload_n 0, 1) := by decide +kernel
theorem dX4_readSoul_43 : decode cX4_readSoul 43 = .ok (.aload_n 0, 1) := by decide +kernel
theorem dX4_readSoul_44 : decode cX4_readSoul 44 = .ok (.getfield 12, 3) := by decide +kernel
theorem dX4_readSoul_47 : decode cX4_readSoul 47 = .ok (.getfield 94, 3) := by decide +kernel
theorem dX4_readSoul_50 : decode cX4_readSoul 50 = .ok (.iload_n 1, 1) := by decide +kernel
theorem dX4_readSoul_51 : decode cX4_readSoul 51 = .ok (.iconst 0, 1) := by decide +kernel
theorem dX4_readSoul_52 : decode cX4_readSoul 52 = .ok (.bipush 99, 2) := by decide +kernel
theorem dX4_readSoul_54 : decode cX4_readSoul 54 = .ok (.invokevirtual 97, 3) := by decide +kernel
theorem dX4_readSoul_57 : decode cX4_readSoul 57 = .ok (.ifCond .eq 39, 3) := by decide +kernel
theorem dX4_readSoul_60 : decode cX4_readSoul 60 = .ok (.aload_n 0, 1) := by decide +kernel
theorem dX4_readSoul_61 : decode cX4_readSoul 61 = .ok (.aload_n 0, 1) := by decide +kernel
theorem dX4_readSoul_62 : decode cX4_readSoul 62 = .ok (.getfield 12, 3) := by decide +kernel
theorem dX4_readSoul_65 : decode cX4_readSoul 65 = .ok (.getfield 101, 3) := by decide +kernel
theorem dX4_readSoul_68 : decode cX4_readSoul 68 = .ok (.iload_n 1, 1) := by decide +kernel
theorem dX4_readSoul_69 : decode cX4_readSoul 69 = .ok (.iconst 0, 1) := by decide +kernel
theorem dX4_readSoul_70 : decode cX4_readSoul 70 = .ok (.bipush 99, 2) := by decide +kernel
theorem dX4_readSoul_72 : decode cX4_readSoul 72 = .ok (.invokevirtual 97, 3) := by decide +kernel
theorem dX4_readSoul_75 : decode cX4_readSoul 75 = .ok (.ifCond .eq 21, 3) := by decide +kernel
theorem dX4_readSoul_78 : decode cX4_readSoul 78 = .ok (.aload_n 0, 1) := by decide +kernel
theorem dX4_readSoul_79 : decode cX4_readSoul 79 = .ok (.aload_n 0, 1) := by decide +kernel
theorem dX4_readSoul_80 : decode cX4_readSoul 80 = .ok (.getfield 12, 3) := by decide +kernel
theorem dX4_readSoul_83 : decode cX4_readSoul 83 = .ok (.getfield 104, 3) := by decide +kernel
theorem dX4_readSoul_86 : decode cX4_readSoul 86 = .ok (.iload_n 1, 1) := by decide +kernel
theorem dX4_readSoul_87 : decode cX4_readSoul 87 = .ok (.iconst 0, 1) := by decide +kernel
theorem dX4_readSoul_88 : decode cX4_readSoul 88 = .ok (.bipush 99, 2) := by decide +kernel
theorem dX4_readSoul_90 : decode cX4_readSoul 90 = .ok (.invokevirtual 97, 3) := by decide +kernel
theorem dX4_readSoul_93 : decode cX4_readSoul 93 = .ok (.ifCond .ne 5, 3) := by decide +kernel
theorem dX4_readSoul_96 : decode cX4_readSoul 96 = .ok (.iconst 0, 1) := by decide +kernel
theorem dX4_readSoul_97 : decode cX4_readSoul 97 = .ok (.ireturn, 1) := by decide +kernel
theorem dX4_readSoul_98 : decode cX4_readSoul 98 = .ok (.aload_n 0, 1) := by decide +kernel
theorem dX4_readSoul_99 : decode cX4_readSoul 99 = .ok (.getfield 12, 3) := by decide +kernel
theorem dX4_readSoul_102 : decode cX4_readSoul 102 = .ok (.dup, 1) := by decide +kernel
theorem dX4_readSoul_103 : decode cX4_readSoul 103 = .ok (.getfield 83, 3) := by decide +kernel
theorem dX4_readSoul_106 : decode cX4_readSoul 106 = .ok (.iconst 1, 1) := by decide +kernel
theorem dX4_readSoul_107 : decode cX4_readSoul 107 = .ok (.iadd, 1) := by decide +kernel
theorem dX4_readSoul_108 : decode cX4_readSoul 108 = .ok (.putfield 83, 3) := by decide +kernel
theorem dX4_readSoul_111 : decode cX4_readSoul 111 = .ok (.iconst 1, 1) := by decide +kernel
theorem dX4_readSoul_112 : decode cX4_readSoul 112 = .ok (.ireturn, 1) := by decide +kernel
theorem dX4_readBus_0 : decode cX4_readBus 0 = .ok (.aload_n 0, 1) := by decide +kernel
theorem dX4_readBus_1 : decode cX4_readBus 1 = .ok (.getfield 12, 3) := by decide +kernel
theorem dX4_readBus_4 : decode cX4_readBus 4 = .ok (.getfield 107, 3) := by decide +kernel
theorem dX4_readBus_7 : decode cX4_readBus 7 = .ok (.istore_n 1, 1) := by decide +kernel
theorem dX4_readBus_8 : decode cX4_readBus 8 = .ok (.iload_n 1, 1) := by decide +kernel
theorem dX4_readBus_9 : decode cX4_readBus 9 = .ok (.iconst 4, 1) := by decide +kernel
theorem dX4_readBus_10 : decode cX4_readBus 10 = .ok (.if_icmp .lt 9, 3) := by decide +kernel
theorem dX4_readBus_13 : decode cX4_readBus 13 = .ok (.aload_n 0, 1) := by decide +kernel
theorem dX4_readBus_14 : decode cX4_readBus 14 = .ok (.iconst 2, 1) := by decide +kernel
theorem dX4_readBus_15 : decode cX4_readBus 15 = .ok (.invokevirtual 77, 3) := by decide +kernel
theorem dX4_readBus_18 : decode cX4_readBus 18 = .ok (.ireturn, 1) := by decide +kernel
theorem dX4_readBus_19 : decode cX4_readBus 19 = .ok (.aload_n 0, 1) := by decide +kernel
theorem dX4_readBus_20 : decode cX4_readBus 20 = .ok (.getfield 33, 3) := by decide +kernel
theorem dX4_readBus_23 : decode cX4_readBus 23 = .ok (.invokevirtual 80, 3) := by decide +kernel
theorem dX4_readBus_26 : decode cX4_readBus 26 = .ok (.aload_n 0, 1) := by decide +kernel
theorem dX4_readBus_27 : decode cX4_readBus 27 = .ok (.aload_n 0, 1) := by decide +kernel
theorem dX4_readBus_28 : decode cX4_readBus 28 = .ok (.getfield 12, 3) := by decide +kernel
theorem dX4_readBus_31 : decode cX4_readBus 31 = .ok (.getfield 110, 3) := by decide +kernel
theorem dX4_readBus_34 : decode cX4_readBus 34 = .ok (.iload_n 1, 1) := by decide +kernel
theorem dX4_readBus_35 : decode cX4_readBus 35 = .ok (.invokevirtual 90, 3) := by decide +kernel
theorem dX4_readBus_38 : decode cX4_readBus 38 = .ok (.ifCond .eq 75, 3) := by decide +kernel
theorem dX4_readBus_41 : decode cX4_readBus 41 = .ok (.aload_n 0, 1) := by decide +kernel
theorem dX4_readBus_42 : decode cX4_readBus 42 = .ok (.aload_n 0, 1) := by decide +kernel
theorem dX4_readBus_43 : decode cX4_readBus 43 = .ok (.getfield 12, 3) := by decide +kernel
theorem dX4_readBus_46 : decode cX4_readBus 46 = .ok (.getfield 113, 3) := by decide +kernel
theorem dX4_readBus_49 : decode cX4_readBus 49 = .ok (.iload_n 1, 1) := by decide +kernel
theorem dX4_readBus_50 : decode cX4_readBus 50 = .ok (.iconst 0, 1) := by decide +kernel
theorem dX4_readBus_51 : decode cX4_readBus 51 = .ok (.bipush 99, 2) := by decide +kernel
theorem dX4_readBus_53 : decode cX4_readBus 53 = .ok (.invokevirtual 97, 3) := by decide +kernel
theorem dX4_readBus_56 : decode cX4_readBus 56 = .ok (.ifCond .eq 57, 3) := by decide +kernel
theorem dX4_readBus_59 : decode cX4_readBus 59 = .ok (.aload_n 0, 1) := by decide +kernel
theorem dX4_readBus_60 : decode cX4_readBus 60 = .ok (.aload_n 0, 1) := by decide +kernel
theorem dX4_readBus_61 : decode cX4_readBus 61 = .ok (.getfield 12, 3) := by decide +kernel
theorem dX4_readBus_64 : decode cX4_readBus 64 = .ok (.getfield 116, 3) := by decide +kernel
theorem dX4_readBus_67 : decode cX4_readBus 67 = .ok (.iload_n 1, 1) := by decide +kernel
theorem dX4_readBus_68 : decode cX4_readBus 68 = .ok (.iconst 1, 1) := by decide +kernel
theorem dX4_readBus_69 : decode cX4_readBus 69 = .ok (.bipush 30, 2) := by decide +kernel
theorem dX4_readBus_71 : decode cX4_readBus 71 = .ok (.invokevirtual 97, 3) := by decide +kernel
theorem dX4_readBus_74 : decode cX4_readBus 74 = .ok (.ifCond .eq 39, 3) := by decide +kernel
theorem dX4_readBus_77 : decode cX4_readBus 77 = .ok (.aload_n 0, 1) := by decide +kernel
theorem dX4_readBus_78 : decode cX4_readBus 78 = .ok (.aload_n 0, 1) := by decide +kernel
theorem dX4_readBus_79 : decode cX4_readBus 79 = .ok (.getfield 12, 3) := by decide +kernel
theorem dX4_readBus_82 : decode cX4_readBus 82 = .ok (.getfield 119, 3) := by decide +kernel
theorem dX4_readBus_85 : decode cX4_readBus 85 = .ok (.iload_n 1, 1) := by decide +kernel
theorem dX4_readBus_86 : decode cX4_readBus 86 = .ok (.iconst 1, 1) := by decide +kernel
theorem dX4_readBus_87 : decode cX4_readBus 87 = .ok (.bipush 8, 2) := by decide +kernel
theorem dX4_readBus_89 : decode cX4_readBus 89 = .ok (.invokevirtual 97, 3) := by decide +kernel
theorem dX4_readBus_92 : decode cX4_readBus 92 = .ok (.ifCond .eq 21, 3) := by decide +kernel
theorem dX4_readBus_95 : decode cX4_readBus 95 = .ok (.aload_n 0, 1) := by decide +kernel
theorem dX4_readBus_96 : decode cX4_readBus 96 = .ok (.aload_n 0, 1) := by decide +kernel
theorem dX4_readBus_97 : decode cX4_readBus 97 = .ok (.getfield 12, 3) := by decide +kernel
theorem dX4_readBus_100 : decode cX4_readBus 100 = .ok (.getfield 122, 3) := by decide +kernel
theorem dX4_readBus_103 : decode cX4_readBus 103 = .ok (.iload_n 1, 1) := by decide +kernel
theorem dX4_readBus_104 : decode cX4_readBus 104 = .ok (.iconst 0, 1) := by decide +kernel
theorem dX4_readBus_105 : decode cX4_readBus 105 = .ok (.bipush 99, 2) := by decide +kernel
theorem dX4_readBus_107 : decode cX4_readBus 107 = .ok (.invokevirtual 97, 3) := by decide +kernel
theorem dX4_readBus_110 : decode cX4_readBus 110 = .ok (.ifCond .ne 5, 3) := by decide +kernel
theorem dX4_readBus_113 : decode cX4_readBus 113 = .ok (.iconst 0, 1) := by decide +kernel
theorem dX4_readBus_114 : decode cX4_readBus 114 = .ok (.ireturn, 1) := by decide +kernel
theorem dX4_readBus_115 : decode cX4_readBus 115 = .ok (.aload_n 0, 1) := by decide +kernel
theorem dX4_readBus_116 : decode cX4_readBus 116 = .ok (.getfield 12, 3) := by decide +kernel
theorem dX4_readBus_119 : decode cX4_readBus 119 = .ok (.dup, 1) := by decide +kernel
theorem dX4_readBus_120 : decode cX4_readBus 120 = .ok (.getfield 107, 3) := by decide +kernel
theorem dX4_readBus_123 : decode cX4_readBus 123 = .ok (.iconst 1, 1) := by decide +kernel
theorem dX4_readBus_124 : decode cX4_readBus 124 = .ok (.iadd, 1) := by decide +kernel
theorem dX4_readBus_125 : decode cX4_readBus 125 = .ok (.putfield 107, 3) := by decide +kernel
theorem dX4_readBus_128 : decode cX4_readBus 128 = .ok (.iconst 1, 1) := by decide +kernel
theorem dX4_readBus_129 : decode cX4_readBus 129 = .ok (.ireturn, 1) := by decide +kernel
theorem dX4_readNewName_0 : decode cX4_readNewName 0 = .ok (.aload_n 0, 1) := by decide +kernel
theorem dX4_readNewName_1 : decode cX4_readNewName 1 = .ok (.getfield 33, 3) := by decide +kernel
theorem dX4_readNewName_4 : decode cX4_readNewName 4 = .ok (.getfield 53, 3) := by decide +kernel
theorem dX4_readNewName_7 : decode cX4_readNewName 7 = .ok (.bipush 20, 2) := by decide +kernel
theorem dX4_readNewName_9 : decode cX4_readNewName 9 = .ok (.if_icmp .eq 9, 3) := by decide +kernel
theorem dX4_readNewName_12 : decode cX4_readNewName 12 = .ok (.aload_n 0, 1) := by decide +kernel
theorem dX4_readNewName_13 : decode cX4_readNewName 13 = .ok (.iconst 1, 1) := by decide +kernel
theorem dX4_readNewName_14 : decode cX4_readNewName 14 = .ok (.invokevirtual 77, 3) := by decide +kernel
theorem dX4_readNewName_17 : decode cX4_readNewName 17 = .ok (.ireturn, 1) := by decide +kernel
theorem dX4_readNewName_18 : decode cX4_readNewName 18 = .ok (.aload_n 1, 1) := by decide +kernel
theorem dX4_readNewName_19 : decode cX4_readNewName 19 = .ok (.iload_n 2, 1) := by decide +kernel
theorem dX4_readNewName_20 : decode cX4_readNewName 20 = .ok (.aload_n 0, 1) := by decide +kernel
theorem dX4_readNewName_21 : decode cX4_readNewName 21 = .ok (.getfield 33, 3) := by decide +kernel
theorem dX4_readNewName_24 : decode cX4_readNewName 24 = .ok (.getfield 125, 3) := by decide +kernel
theorem dX4_readNewName_27 : decode cX4_readNewName 27 = .ok (.invokestatic 128, 3) := by decide +kernel
theorem dX4_readNewName_30 : decode cX4_readNewName 30 = .ok (.iconst (-1), 1) := by decide +kernel
theorem dX4_readNewName_31 : decode cX4_readNewName 31 = .ok (.if_icmp .eq 9, 3) := by decide +kernel
theorem dX4_readNewName_34 : decode cX4_readNewName 34 = .ok (.aload_n 0, 1) := by decide +kernel
theorem dX4_readNewName_35 : decode cX4_readNewName 35 = .ok (.iconst 3, 1) := by decide +kernel
theorem dX4_readNewName_36 : decode cX4_readNewName 36 = .ok (.invokevirtual 77, 3) := by decide +kernel
theorem dX4_readNewName_39 : decode cX4_readNewName 39 = .ok (.ireturn, 1) := by decide +kernel
theorem dX4_readNewName_40 : decode cX4_readNewName 40 = .ok (.iload_n 2, 1) := by decide +kernel
theorem dX4_readNewName_41 : decode cX4_readNewName 41 = .ok (.aload_n 1, 1) := by decide +kernel
theorem dX4_readNewName_42 : decode cX4_readNewName 42 = .ok (.arraylength, 1) := by decide +kernel
theorem dX4_readNewName_43 : decode cX4_readNewName 43 = .ok (.if_icmp .ge 13, 3) := by decide +kernel
theorem dX4_readNewName_46 : decode cX4_readNewName 46 = .ok (.aload_n 1, 1) := by decide +kernel
theorem dX4_readNewName_47 : decode cX4_readNewName 47 = .ok (.iload_n 2, 1) := by decide +kernel
theorem dX4_readNewName_48 : decode cX4_readNewName 48 = .ok (.aload_n 0, 1) := by decide +kernel
theorem dX4_readNewName_49 : decode cX4_readNewName 49 = .ok (.getfield 33, 3) := by decide +kernel
theorem dX4_readNewName_52 : decode cX4_readNewName 52 = .ok (.getfield 125, 3) := by decide +kernel
theorem dX4_readNewName_55 : decode cX4_readNewName 55 = .ok (.iastore, 1) := by decide +kernel
theorem dX4_readNewName_56 : decode cX4_readNewName 56 = .ok (.aload_n 0, 1) := by decide +kernel
theorem dX4_readNewName_57 : decode cX4_readNewName 57 = .ok (.getfield 33, 3) := by decide +kernel
theorem dX4_readNewName_60 : decode cX4_readNewName 60 = .ok (.invokevirtual 80, 3) := by decide +kernel
theorem dX4_readNewName_63 : decode cX4_readNewName 63 = .ok (.iconst 1, 1) := by decide +kernel
theorem dX4_readNewName_64 : decode cX4_readNewName 64 = .ok (.ireturn, 1) := by decide +kernel
theorem dX4_readNumber_0 : decode cX4_readNumber 0 = .ok (.aload_n 0, 1) := by decide +kernel
theorem dX4_readNumber_1 : decode cX4_readNumber 1 = .ok (.getfield 33, 3) := by decide +kernel
theorem dX4_readNumber_4 : decode cX4_readNumber 4 = .ok (.getfield 53, 3) := by decide +kernel
theorem dX4_readNumber_7 : decode cX4_readNumber 7 = .ok (.bipush 21, 2) := by decide +kernel
theorem dX4_readNumber_9 : decode cX4_readNumber 9 = .ok (.if_icmp .eq 9, 3) := by decide +kernel
theorem dX4_readNumber_12 : decode cX4_readNumber 12 = .ok (.aload_n 0, 1) := by decide +kernel
theorem dX4_readNumber_13 : decode cX4_readNumber 13 = .ok (.iconst 1, 1) := by decide +kernel
theorem dX4_readNumber_14 : decode cX4_readNumber 14 = .ok (.invokevirtual 77, 3) := by decide +kernel
theorem dX4_readNumber_17 : decode cX4_readNumber 17 = .ok (.ireturn, 1) := by decide +kernel
theorem dX4_readNumber_18 : decode cX4_readNumber 18 = .ok (.aload_n 0, 1) := by decide +kernel
theorem dX4_readNumber_19 : decode cX4_readNumber 19 = .ok (.getfield 33, 3) := by decide +kernel
theorem dX4_readNumber_22 : decode cX4_readNumber 22 = .ok (.getfield 125, 3) := by decide +kernel
theorem dX4_readNumber_25 : decode cX4_readNumber 25 = .ok (.iload_n 3, 1) := by decide +kernel
theorem dX4_readNumber_26 : decode cX4_readNumber 26 = .ok (.if_icmp .lt 15, 3) := by decide +kernel
theorem dX4_readNumber_29 : decode cX4_readNumber 29 = .ok (.aload_n 0, 1) := by decide +kernel
theorem dX4_readNumber_30 : decode cX4_readNumber 30 = .ok (.getfield 33, 3) := by decide +kernel
theorem dX4_readNumber_33 : decode cX4_readNumber 33 = .ok (.getfield 125, 3) := by decide +kernel
theorem dX4_readNumber_36 : decode cX4_readNumber 36 = .ok (.iload 4, 2) := by decide +kernel
theorem dX4_readNumber_38 : decode cX4_readNumber 38 = .ok (.if_icmp .le 9, 3) := by decide +kernel
theorem dX4_readNumber_41 : decode cX4_readNumber 41 = .ok (.aload_n 0, 1) := by decide +kernel
theorem dX4_readNumber_42 : decode cX4_readNumber 42 = .ok (.iconst 2, 1) := by decide +kernel
theorem dX4_readNumber_43 : decode cX4_readNumber 43 = .ok (.invokevirtual 77, 3) := by decide +kernel
theorem dX4_readNumber_46 : decode cX4_readNumber 46 = .ok (.ireturn, 1) := by decide +kernel
theorem dX4_readNumber_47 : decode cX4_readNumber 47 = .ok (.iload_n 2, 1) := by decide +kernel
theorem dX4_readNumber_48 : decode cX4_readNumber 48 = .ok (.ifCond .lt 19, 3) := by decide +kernel
theorem dX4_readNumber_51 : decode cX4_readNumber 51 = .ok (.iload_n 2, 1) := by decide +kernel
theorem dX4_readNumber_52 : decode cX4_readNumber 52 = .ok (.aload_n 1, 1) := by decide +kernel
theorem dX4_readNumber_53 : decode cX4_readNumber 53 = .ok (.arraylength, 1) := by decide +kernel
theorem dX4_readNumber_54 : decode cX4_readNumber 54 = .ok (.if_icmp .ge 13, 3) := by decide +kernel
theorem dX4_readNumber_57 : decode cX4_readNumber 57 = .ok (.aload_n 1, 1) := by decide +kernel
theorem dX4_readNumber_58 : decode cX4_readNumber 58 = .ok (.iload_n 2, 1) := by decide +kernel
theorem dX4_readNumber_59 : decode cX4_readNumber 59 = .ok (.aload_n 0, 1) := by decide +kernel
theorem dX4_readNumber_60 : decode cX4_readNumber 60 = .ok (.getfield 33, 3) := by decide +kernel
theorem dX4_readNumber_63 : decode cX4_readNumber 63 = .ok (.getfield 125, 3) := by decide +kernel
theorem dX4_readNumber_66 : decode cX4_readNumber 66 = .ok (.iastore, 1) := by decide +kernel
theorem dX4_readNumber_67 : decode cX4_readNumber 67 = .ok (.aload_n 0, 1) := by decide +kernel
theorem dX4_readNumber_68 : decode cX4_readNumber 68 = .ok (.getfield 33, 3) := by decide +kernel
theorem dX4_readNumber_71 : decode cX4_readNumber 71 = .ok (.invokevirtual 80, 3) := by decide +kernel
theorem dX4_readNumber_74 : decode cX4_readNumber 74 = .ok (.iconst 1, 1) := by decide +kernel
theorem dX4_readNumber_75 : decode cX4_readNumber 75 = .ok (.ireturn, 1) := by decide +kernel
theorem dX4_readLets_0 : decode cX4_readLets 0 = .ok (.aload_n 0, 1) := by decide +kernel
theorem dX4_readLets_1 : decode cX4_readLets 1 = .ok (.getfield 12, 3) := by decide +kernel
theorem dX4_readLets_4 : decode cX4_readLets 4 = .ok (.getfield 132, 3) := by decide +kernel
theorem dX4_readLets_7 : decode cX4_readLets 7 = .ok (.bipush 8, 2) := by decide +kernel
theorem dX4_readLets_9 : decode cX4_readLets 9 = .ok (.if_icmp .lt 9, 3) := by decide +kernel
theorem dX4_readLets_12 : decode cX4_readLets 12 = .ok (.aload_n 0, 1) := by decide +kernel
theorem dX4_readLets_13 : decode cX4_readLets 13 = .ok (.iconst 2, 1) := by decide +kernel
theorem dX4_readLets_14 : decode cX4_readLets 14 = .ok (.invokevirtual 77, 3) := by decide +kernel
theorem dX4_readLets_17 : decode cX4_readLets 17 = .ok (.ireturn, 1) := by decide +kernel
theorem dX4_readLets_18 : decode cX4_readLets 18 = .ok (.aload_n 0, 1) := by decide +kernel
theorem dX4_readLets_19 : decode cX4_readLets 19 = .ok (.getfield 33, 3) := by decide +kernel
theorem dX4_readLets_22 : decode cX4_readLets 22 = .ok (.invokevirtual 80, 3) := by decide +kernel
theorem dX4_readLets_25 : decode cX4_readLets 25 = .ok (.aload_n 0, 1) := by decide +kernel
theorem dX4_readLets_26 : decode cX4_readLets 26 = .ok (.getfield 12, 3) := by decide +kernel
theorem dX4_readLets_29 : decode cX4_readLets 29 = .ok (.getfield 86, 3) := by decide +kernel
theorem dX4_readLets_32 : decode cX4_readLets 32 = .ok (.aload_n 0, 1) := by decide +kernel
theorem dX4_readLets_33 : decode cX4_readLets 33 = .ok (.getfield 12, 3) := by decide +kernel
theorem dX4_readLets_36 : decode cX4_readLets 36 = .ok (.getfield 83, 3) := by decide +kernel
theorem dX4_readLets_39 : decode cX4_readLets 39 = .ok (.aload_n 0, 1) := by decide +kernel
theorem dX4_readLets_40 : decode cX4_readLets 40 = .ok (.getfield 33, 3) := by decide +kernel
theorem dX4_readLets_43 : decode cX4_readLets 43 = .ok (.getfield 125, 3) := by decide +kernel
theorem dX4_readLets_46 : decode cX4_readLets 46 = .ok (.invokestatic 128, 3) := by decide +kernel
theorem dX4_readLets_49 : decode cX4_readLets 49 = .ok (.istore_n 1, 1) := by decide +kernel
theorem dX4_readLets_50 : decode cX4_readLets 50 = .ok (.aload_n 0, 1) := by decide +kernel
theorem dX4_readLets_51 : decode cX4_readLets 51 = .ok (.getfield 33, 3) := by decide +kernel
theorem dX4_readLets_54 : decode cX4_readLets 54 = .ok (.getfield 53, 3) := by decide +kernel
theorem dX4_readLets_57 : decode cX4_readLets 57 = .ok (.bipush 20, 2) := by decide +kernel
theorem dX4_readLets_59 : decode cX4_readLets 59 = .ok (.if_icmp .ne 8, 3) := by decide +kernel
theorem dX4_readLets_62 : decode cX4_readLets 62 = .ok (.iload_n 1, 1) := by decide +kernel
theorem dX4_readLets_63 : decode cX4_readLets 63 = .ok (.iconst (-1), 1) := by decide +kernel
theorem dX4_readLets_64 : decode cX4_readLets 64 = .ok (.if_icmp .ne 25, 3) := by decide +kernel
theorem dX4_readLets_67 : decode cX4_readLets 67 = .ok (.aload_n 0, 1) := by decide +kernel
theorem dX4_readLets_68 : decode cX4_readLets 68 = .ok (.aload_n 0, 1) := by decide +kernel
theorem dX4_readLets_69 : decode cX4_readLets 69 = .ok (.getfield 33, 3) := by decide +kernel
theorem dX4_readLets_72 : decode cX4_readLets 72 = .ok (.getfield 53, 3) := by decide +kernel
theorem dX4_readLets_75 : decode cX4_readLets 75 = .ok (.bipush 20, 2) := by decide +kernel
theorem dX4_readLets_77 : decode cX4_readLets 77 = .ok (.if_icmp .eq 7, 3) := by decide +kernel
theorem dX4_readLets_80 : decode cX4_readLets 80 = .ok (.iconst 1, 1) := by decide +kernel
theorem dX4_readLets_81 : decode cX4_readLets 81 = .ok (.goto 4, 3) := by decide +kernel
theorem dX4_readLets_84 : decode cX4_readLets 84 = .ok (.iconst 4, 1) := by decide +kernel
theorem dX4_readLets_85 : decode cX4_readLets 85 = .ok (.invokevirtual 77, 3) := by decide +kernel
theorem dX4_readLets_88 : decode cX4_readLets 88 = .ok (.ireturn, 1) := by decide +kernel
theorem dX4_readLets_89 : decode cX4_readLets 89 = .ok (.aload_n 0, 1) := by decide +kernel
theorem dX4_readLets_90 : decode cX4_readLets 90 = .ok (.getfield 33, 3) := by decide +kernel
theorem dX4_readLets_93 : decode cX4_readLets 93 = .ok (.invokevirtual 80, 3) := by decide +kernel
theorem dX4_readLets_96 : decode cX4_readLets 96 = .ok (.aload_n 0, 1) := by decide +kernel
theorem dX4_readLets_97 : decode cX4_readLets 97 = .ok (.getfield 12, 3) := by decide +kernel
theorem dX4_readLets_100 : decode cX4_readLets 100 = .ok (.getfield 86, 3) := by decide +kernel
theorem dX4_readLets_103 : decode cX4_readLets 103 = .ok (.aload_n 0, 1) := by decide +kernel
theorem dX4_readLets_104 : decode cX4_readLets 104 = .ok (.getfield 12, 3) := by decide +kernel
theorem dX4_readLets_107 : decode cX4_readLets 107 = .ok (.getfield 83, 3) := by decide +kernel
theorem dX4_readLets_110 : decode cX4_readLets 110 = .ok (.aload_n 0, 1) := by decide +kernel
theorem dX4_readLets_111 : decode cX4_readLets 111 = .ok (.getfield 33, 3) := by decide +kernel
theorem dX4_readLets_114 : decode cX4_readLets 114 = .ok (.getfield 125, 3) := by decide +kernel
theorem dX4_readLets_117 : decode cX4_readLets 117 = .ok (.invokestatic 128, 3) := by decide +kernel
theorem dX4_readLets_120 : decode cX4_readLets 120 = .ok (.istore_n 2, 1) := by decide +kernel
theorem dX4_readLets_121 : decode cX4_readLets 121 = .ok (.aload_n 0, 1) := by decide +kernel
theorem dX4_readLets_122 : decode cX4_readLets 122 = .ok (.getfield 33, 3) := by decide +kernel
theorem dX4_readLets_125 : decode cX4_readLets 125 = .ok (.getfield 53, 3) := by decide +kernel
theorem dX4_readLets_128 : decode cX4_readLets 128 = .ok (.bipush 20, 2) := by decide +kernel
theorem dX4_readLets_130 : decode cX4_readLets 130 = .ok (.if_icmp .ne 8, 3) := by decide +kernel
theorem dX4_readLets_133 : decode cX4_readLets 133 = .ok (.iload_n 2, 1) := by decide +kernel
theorem dX4_readLets_134 : decode cX4_readLets 134 = .ok (.iconst (-1), 1) := by decide +kernel
theorem dX4_readLets_135 : decode cX4_readLets 135 = .ok (.if_icmp .ne 25, 3) := by decide +kernel
theorem dX4_readLets_138 : decode cX4_readLets 138 = .ok (.aload_n 0, 1) := by decide +kernel
theorem dX4_readLets_139 : decode cX4_readLets 139 = .ok (.aload_n 0, 1) := by decide +kernel
theorem dX4_readLets_140 : decode cX4_readLets 140 = .ok (.getfield 33, 3) := by decide +kernel
theorem dX4_readLets_143 : decode cX4_readLets 143 = .ok (.getfield 53, 3) := by decide +kernel
theorem dX4_readLets_146 : decode cX4_readLets 146 = .ok (.bipush 20, 2) := by decide +kernel
theorem dX4_readLets_148 : decode cX4_readLets 148 = .ok (.if_icmp .eq 7, 3) := by decide +kernel
theorem dX4_readLets_151 : decode cX4_readLets 151 = .ok (.iconst 1, 1) := by decide +kernel
theorem dX4_readLets_152 : decode cX4_readLets 152 = .ok (.goto 4, 3) := by decide +kernel
theorem dX4_readLets_155 : decode cX4_readLets 155 = .ok (.iconst 4, 1) := by decide +kernel
theorem dX4_readLets_156 : decode cX4_readLets 156 = .ok (.invokevirtual 77, 3) := by decide +kernel
theorem dX4_readLets_159 : decode cX4_readLets 159 = .ok (.ireturn, 1) := by decide +kernel
theorem dX4_readLets_160 : decode cX4_readLets 160 = .ok (.aload_n 0, 1) := by decide +kernel
theorem dX4_readLets_161 : decode cX4_readLets 161 = .ok (.getfield 12, 3) := by decide +kernel
theorem dX4_readLets_164 : decode cX4_readLets 164 = .ok (.getfield 135, 3) := by decide +kernel
theorem dX4_readLets_167 : decode cX4_readLets 167 = .ok (.iload_n 1, 1) := by decide +kernel
theorem dX4_readLets_168 : decode cX4_readLets 168 = .ok (.iaload, 1) := by decide +kernel
theorem dX4_readLets_169 : decode cX4_readLets 169 = .ok (.iconst 1, 1) := by decide +kernel
theorem dX4_readLets_170 : decode cX4_readLets 170 = .ok (.iload_n 2, 1) := by decide +kernel
theorem dX4_readLets_171 : decode cX4_readLets 171 = .ok (.ishl, 1) := by decide +kernel
theorem dX4_readLets_172 : decode cX4_readLets 172 = .ok (.iand, 1) := by decide +kernel
theorem dX4_readLets_173 : decode cX4_readLets 173 = .ok (.ifCond .eq 9, 3) := by decide +kernel
theorem dX4_readLets_176 : decode cX4_readLets 176 = .ok (.aload_n 0, 1) := by decide +kernel
theorem dX4_readLets_177 : decode cX4_readLets 177 = .ok (.iconst 3, 1) := by decide +kernel
theorem dX4_readLets_178 : decode cX4_readLets 178 = .ok (.invokevirtual 77, 3) := by decide +kernel
theorem dX4_readLets_181 : decode cX4_readLets 181 = .ok (.ireturn, 1) := by decide +kernel
theorem dX4_readLets_182 : decode cX4_readLets 182 = .ok (.iload_n 1, 1) := by decide +kernel
theorem dX4_readLets_183 : decode cX4_readLets 183 = .ok (.iload_n 2, 1) := by decide +kernel
theorem dX4_readLets_184 : decode cX4_readLets 184 = .ok (.if_icmp .ne 9, 3) := by decide +kernel
theorem dX4_readLets_187 : decode cX4_readLets 187 = .ok (.aload_n 0, 1) := by decide +kernel
theorem dX4_readLets_188 : decode cX4_readLets 188 = .ok (.iconst 5, 1) := by decide +kernel
theorem dX4_readLets_189 : decode cX4_readLets 189 = .ok (.invokevirtual 77, 3) := by decide +kernel
theorem dX4_readLets_192 : decode cX4_readLets 192 = .ok (.ireturn, 1) := by decide +kernel
theorem dX4_readLets_193 : decode cX4_readLets 193 = .ok (.aload_n 0, 1) := by decide +kernel
theorem dX4_readLets_194 : decode cX4_readLets 194 = .ok (.getfield 12, 3) := by decide +kernel
theorem dX4_readLets_197 : decode cX4_readLets 197 = .ok (.getfield 135, 3) := by decide +kernel
theorem dX4_readLets_200 : decode cX4_readLets 200 = .ok (.iload_n 1, 1) := by decide +kernel
theorem dX4_readLets_201 : decode cX4_readLets 201 = .ok (.dup2, 1) := by decide +kernel
theorem dX4_readLets_202 : decode cX4_readLets 202 = .ok (.iaload, 1) := by decide +kernel
theorem dX4_readLets_203 : decode cX4_readLets 203 = .ok (.iconst 1, 1) := by decide +kernel
theorem dX4_readLets_204 : decode cX4_readLets 204 = .ok (.iload_n 2, 1) := by decide +kernel
theorem dX4_readLets_205 : decode cX4_readLets 205 = .ok (.ishl, 1) := by decide +kernel
theorem dX4_readLets_206 : decode cX4_readLets 206 = .ok (.ior, 1) := by decide +kernel
theorem dX4_readLets_207 : decode cX4_readLets 207 = .ok (.iastore, 1) := by decide +kernel
theorem dX4_readLets_208 : decode cX4_readLets 208 = .ok (.aload_n 0, 1) := by decide +kernel
theorem dX4_readLets_209 : decode cX4_readLets 209 = .ok (.getfield 12, 3) := by decide +kernel
theorem dX4_readLets_212 : decode cX4_readLets 212 = .ok (.dup, 1) := by decide +kernel
theorem dX4_readLets_213 : decode cX4_readLets 213 = .ok (.getfield 132, 3) := by decide +kernel
theorem dX4_readLets_216 : decode cX4_readLets 216 = .ok (.iconst 1, 1) := by decide +kernel
theorem dX4_readLets_217 : decode cX4_readLets 217 = .ok (.iadd, 1) := by decide +kernel
theorem dX4_readLets_218 : decode cX4_readLets 218 = .ok (.putfield 132, 3) := by decide +kernel
theorem dX4_readLets_221 : decode cX4_readLets 221 = .ok (.aload_n 0, 1) := by decide +kernel
theorem dX4_readLets_222 : decode cX4_readLets 222 = .ok (.getfield 33, 3) := by decide +kernel
theorem dX4_readLets_225 : decode cX4_readLets 225 = .ok (.invokevirtual 80, 3) := by decide +kernel
theorem dX4_readLets_228 : decode cX4_readLets 228 = .ok (.iconst 1, 1) := by decide +kernel
theorem dX4_readLets_229 : decode cX4_readLets 229 = .ok (.ireturn, 1) := by decide +kernel
theorem dX4_readOnce_0 : decode cX4_readOnce 0 = .ok (.aload_n 0, 1) := by decide +kernel
theorem dX4_readOnce_1 : decode cX4_readOnce 1 = .ok (.getfield 18, 3) := by decide +kernel
theorem dX4_readOnce_4 : decode cX4_readOnce 4 = .ok (.iconst 1, 1) := by decide +kernel
theorem dX4_readOnce_5 : decode cX4_readOnce 5 = .ok (.iload_n 1, 1) := by decide +kernel
theorem dX4_readOnce_6 : decode cX4_readOnce 6 = .ok (.ishl, 1) := by decide +kernel
theorem dX4_readOnce_7 : decode cX4_readOnce 7 = .ok (.iand, 1) := by decide +kernel
theorem dX4_readOnce_8 : decode cX4_readOnce 8 = .ok (.ifCond .eq 9, 3) := by decide +kernel
theorem dX4_readOnce_11 : decode cX4_readOnce 11 = .ok (.aload_n 0, 1) := by decide +kernel
theorem dX4_readOnce_12 : decode cX4_readOnce 12 = .ok (.iconst 3, 1) := by decide +kernel
theorem dX4_readOnce_13 : decode cX4_readOnce 13 = .ok (.invokevirtual 77, 3) := by decide +kernel
theorem dX4_readOnce_16 : decode cX4_readOnce 16 = .ok (.ireturn, 1) := by decide +kernel
theorem dX4_readOnce_17 : decode cX4_readOnce 17 = .ok (.aload_n 0, 1) := by decide +kernel
theorem dX4_readOnce_18 : decode cX4_readOnce 18 = .ok (.dup, 1) := by decide +kernel
theorem dX4_readOnce_19 : decode cX4_readOnce 19 = .ok (.getfield 18, 3) := by decide +kernel
theorem dX4_readOnce_22 : decode cX4_readOnce 22 = .ok (.iconst 1, 1) := by decide +kernel
theorem dX4_readOnce_23 : decode cX4_readOnce 23 = .ok (.iload_n 1, 1) := by decide +kernel
theorem dX4_readOnce_24 : decode cX4_readOnce 24 = .ok (.ishl, 1) := by decide +kernel
theorem dX4_readOnce_25 : decode cX4_readOnce 25 = .ok (.ior, 1) := by decide +kernel
theorem dX4_readOnce_26 : decode cX4_readOnce 26 = .ok (.putfield 18, 3) := by decide +kernel
theorem dX4_readOnce_29 : decode cX4_readOnce 29 = .ok (.aload_n 0, 1) := by decide +kernel
theorem dX4_readOnce_30 : decode cX4_readOnce 30 = .ok (.getfield 33, 3) := by decide +kernel
theorem dX4_readOnce_33 : decode cX4_readOnce 33 = .ok (.invokevirtual 80, 3) := by decide +kernel
theorem dX4_readOnce_36 : decode cX4_readOnce 36 = .ok (.aload_n 0, 1) := by decide +kernel
theorem dX4_readOnce_37 : decode cX4_readOnce 37 = .ok (.getfield 33, 3) := by decide +kernel
theorem dX4_readOnce_40 : decode cX4_readOnce 40 = .ok (.getfield 53, 3) := by decide +kernel
theorem dX4_readOnce_43 : decode cX4_readOnce 43 = .ok (.bipush 21, 2) := by decide +kernel
theorem dX4_readOnce_45 : decode cX4_readOnce 45 = .ok (.if_icmp .eq 9, 3) := by decide +kernel
theorem dX4_readOnce_48 : decode cX4_readOnce 48 = .ok (.aload_n 0, 1) := by decide +kernel
theorem dX4_readOnce_49 : decode cX4_readOnce 49 = .ok (.iconst 1, 1) := by decide +kernel
theorem dX4_readOnce_50 : decode cX4_readOnce 50 = .ok (.invokevirtual 77, 3) := by decide +kernel
theorem dX4_readOnce_53 : decode cX4_readOnce 53 = .ok (.ireturn, 1) := by decide +kernel
theorem dX4_readOnce_54 : decode cX4_readOnce 54 = .ok (.iload_n 1, 1) := by decide +kernel
theorem dX4_readOnce_55 : decode cX4_readOnce 55 = .ok (.iconst 3, 1) := by decide +kernel
theorem dX4_readOnce_56 : decode cX4_readOnce 56 = .ok (.if_icmp .ne 8, 3) := by decide +kernel
theorem dX4_readOnce_59 : decode cX4_readOnce 59 = .ok (.bipush 8, 2) := by decide +kernel
theorem dX4_readOnce_61 : decode cX4_readOnce 61 = .ok (.goto 15, 3) := by decide +kernel
theorem dX4_readOnce_64 : decode cX4_readOnce 64 = .ok (.iload_n 1, 1) := by decide +kernel
theorem dX4_readOnce_65 : decode cX4_readOnce 65 = .ok (.iconst 4, 1) := by decide +kernel
theorem dX4_readOnce_66 : decode cX4_readOnce 66 = .ok (.if_icmp .ne 8, 3) := by decide +kernel
theorem dX4_readOnce_69 : decode cX4_readOnce 69 = .ok (.bipush 100, 2) := by decide +kernel
theorem dX4_readOnce_71 : decode cX4_readOnce 71 = .ok (.goto 5, 3) := by decide +kernel
theorem dX4_readOnce_74 : decode cX4_readOnce 74 = .ok (.ldc 138, 2) := by decide +kernel
theorem dX4_readOnce_76 : decode cX4_readOnce 76 = .ok (.istore_n 2, 1) := by decide +kernel
theorem dX4_readOnce_77 : decode cX4_readOnce 77 = .ok (.aload_n 0, 1) := by decide +kernel
theorem dX4_readOnce_78 : decode cX4_readOnce 78 = .ok (.getfield 33, 3) := by decide +kernel
theorem dX4_readOnce_81 : decode cX4_readOnce 81 = .ok (.getfield 125, 3) := by decide +kernel
theorem dX4_readOnce_84 : decode cX4_readOnce 84 = .ok (.iload_n 2, 1) := by decide +kernel
theorem dX4_readOnce_85 : decode cX4_readOnce 85 = .ok (.if_icmp .le 9, 3) := by decide +kernel
theorem dX4_readOnce_88 : decode cX4_readOnce 88 = .ok (.aload_n 0, 1) := by decide +kernel
theorem dX4_readOnce_89 : decode cX4_readOnce 89 = .ok (.iconst 2, 1) := by decide +kernel
theorem dX4_readOnce_90 : decode cX4_readOnce 90 = .ok (.invokevirtual 77, 3) := by decide +kernel
theorem dX4_readOnce_93 : decode cX4_readOnce 93 = .ok (.ireturn, 1) := by decide +kernel
theorem dX4_readOnce_94 : decode cX4_readOnce 94 = .ok (.iload_n 1, 1) := by decide +kernel
theorem dX4_readOnce_95 : decode cX4_readOnce 95 = .ok (.lookupswitch 59 #[(3, 25), (4, 42)], 25) := by decide +kernel
theorem dX4_readOnce_120 : decode cX4_readOnce 120 = .ok (.aload_n 0, 1) := by decide +kernel
theorem dX4_readOnce_121 : decode cX4_readOnce 121 = .ok (.getfield 12, 3) := by decide +kernel
theorem dX4_readOnce_124 : decode cX4_readOnce 124 = .ok (.aload_n 0, 1) := by decide +kernel
theorem dX4_readOnce_125 : decode cX4_readOnce 125 = .ok (.getfield 33, 3) := by decide +kernel
theorem dX4_readOnce_128 : decode cX4_readOnce 128 = .ok (.getfield 125, 3) := by decide +kernel
theorem dX4_readOnce_131 : decode cX4_readOnce 131 = .ok (.putfield 139, 3) := by decide +kernel
theorem dX4_readOnce_134 : decode cX4_readOnce 134 = .ok (.goto 34, 3) := by decide +kernel
theorem dX4_readOnce_137 : decode cX4_readOnce 137 = .ok (.aload_n 0, 1) := by decide +kernel
theorem dX4_readOnce_138 : decode cX4_readOnce 138 = .ok (.getfield 12, 3) := by decide +kernel
theorem dX4_readOnce_141 : decode cX4_readOnce 141 = .ok (.aload_n 0, 1) := by decide +kernel
theorem dX4_readOnce_142 : decode cX4_readOnce 142 = .ok (.getfield 33, 3) := by decide +kernel
theorem dX4_readOnce_145 : decode cX4_readOnce 145 = .ok (.getfield 125, 3) := by decide +kernel
theorem dX4_readOnce_148 : decode cX4_readOnce 148 = .ok (.putfield 142, 3) := by decide +kernel
theorem dX4_readOnce_151 : decode cX4_readOnce 151 = .ok (.goto 17, 3) := by decide +kernel
theorem dX4_readOnce_154 : decode cX4_readOnce 154 = .ok (.aload_n 0, 1) := by decide +kernel
theorem dX4_readOnce_155 : decode cX4_readOnce 155 = .ok (.getfield 12, 3) := by decide +kernel
theorem dX4_readOnce_158 : decode cX4_readOnce 158 = .ok (.aload_n 0, 1) := by decide +kernel
theorem dX4_readOnce_159 : decode cX4_readOnce 159 = .ok (.getfield 33, 3) := by decide +kernel
theorem dX4_readOnce_162 : decode cX4_readOnce 162 = .ok (.getfield 125, 3) := by decide +kernel
theorem dX4_readOnce_165 : decode cX4_readOnce 165 = .ok (.putfield 145, 3) := by decide +kernel
theorem dX4_readOnce_168 : decode cX4_readOnce 168 = .ok (.aload_n 0, 1) := by decide +kernel
theorem dX4_readOnce_169 : decode cX4_readOnce 169 = .ok (.getfield 33, 3) := by decide +kernel
theorem dX4_readOnce_172 : decode cX4_readOnce 172 = .ok (.invokevirtual 80, 3) := by decide +kernel
theorem dX4_readOnce_175 : decode cX4_readOnce 175 = .ok (.iconst 1, 1) := by decide +kernel
theorem dX4_readOnce_176 : decode cX4_readOnce 176 = .ok (.ireturn, 1) := by decide +kernel
theorem dX4_readLaw_0 : decode cX4_readLaw 0 = .ok (.aload_n 0, 1) := by decide +kernel
theorem dX4_readLaw_1 : decode cX4_readLaw 1 = .ok (.getfield 33, 3) := by decide +kernel
theorem dX4_readLaw_4 : decode cX4_readLaw 4 = .ok (.invokevirtual 80, 3) := by decide +kernel
theorem dX4_readLaw_7 : decode cX4_readLaw 7 = .ok (.aload_n 0, 1) := by decide +kernel
theorem dX4_readLaw_8 : decode cX4_readLaw 8 = .ok (.getfield 33, 3) := by decide +kernel
theorem dX4_readLaw_11 : decode cX4_readLaw 11 = .ok (.getfield 53, 3) := by decide +kernel
theorem dX4_readLaw_14 : decode cX4_readLaw 14 = .ok (.bipush 7, 2) := by decide +kernel
theorem dX4_readLaw_16 : decode cX4_readLaw 16 = .ok (.if_icmp .lt 15, 3) := by decide +kernel
theorem dX4_readLaw_19 : decode cX4_readLaw 19 = .ok (.aload_n 0, 1) := by decide +kernel
theorem dX4_readLaw_20 : decode cX4_readLaw 20 = .ok (.getfield 33, 3) := by decide +kernel
theorem dX4_readLaw_23 : decode cX4_readLaw 23 = .ok (.getfield 53, 3) := by decide +kernel
theorem dX4_readLaw_26 : decode cX4_readLaw 26 = .ok (.bipush 9, 2) := by decide +kernel
theorem dX4_readLaw_28 : decode cX4_readLaw 28 = .ok (.if_icmp .le 9, 3) := by decide +kernel
theorem dX4_readLaw_31 : decode cX4_readLaw 31 = .ok (.aload_n 0, 1) := by decide +kernel
theorem dX4_readLaw_32 : decode cX4_readLaw 32 = .ok (.iconst 1, 1) := by decide +kernel
theorem dX4_readLaw_33 : decode cX4_readLaw 33 = .ok (.invokevirtual 77, 3) := by decide +kernel
theorem dX4_readLaw_36 : decode cX4_readLaw 36 = .ok (.ireturn, 1) := by decide +kernel
theorem dX4_readLaw_37 : decode cX4_readLaw 37 = .ok (.aload_n 0, 1) := by decide +kernel
theorem dX4_readLaw_38 : decode cX4_readLaw 38 = .ok (.getfield 33, 3) := by decide +kernel
theorem dX4_readLaw_41 : decode cX4_readLaw 41 = .ok (.getfield 53, 3) := by decide +kernel
theorem dX4_readLaw_44 : decode cX4_readLaw 44 = .ok (.bipush 7, 2) := by decide +kernel
theorem dX4_readLaw_46 : decode cX4_readLaw 46 = .ok (.isub, 1) := by decide +kernel
theorem dX4_readLaw_47 : decode cX4_readLaw 47 = .ok (.istore_n 1, 1) := by decide +kernel
theorem dX4_readLaw_48 : decode cX4_readLaw 48 = .ok (.aload_n 0, 1) := by decide +kernel
theorem dX4_readLaw_49 : decode cX4_readLaw 49 = .ok (.getfield 12, 3) := by decide +kernel
theorem dX4_readLaw_52 : decode cX4_readLaw 52 = .ok (.getfield 148, 3) := by decide +kernel
theorem dX4_readLaw_55 : decode cX4_readLaw 55 = .ok (.iload_n 1, 1) := by decide +kernel
theorem dX4_readLaw_56 : decode cX4_readLaw 56 = .ok (.invokevirtual 151, 3) := by decide +kernel
theorem dX4_readLaw_59 : decode cX4_readLaw 59 = .ok (.ifCond .eq 9, 3) := by decide +kernel
theorem dX4_readLaw_62 : decode cX4_readLaw 62 = .ok (.aload_n 0, 1) := by decide +kernel
theorem dX4_readLaw_63 : decode cX4_readLaw 63 = .ok (.iconst 3, 1) := by decide +kernel
theorem dX4_readLaw_64 : decode cX4_readLaw 64 = .ok (.invokevirtual 77, 3) := by decide +kernel
theorem dX4_readLaw_67 : decode cX4_readLaw 67 = .ok (.ireturn, 1) := by decide +kernel
theorem dX4_readLaw_68 : decode cX4_readLaw 68 = .ok (.aload_n 0, 1) := by decide +kernel
theorem dX4_readLaw_69 : decode cX4_readLaw 69 = .ok (.getfield 33, 3) := by decide +kernel
theorem dX4_readLaw_72 : decode cX4_readLaw 72 = .ok (.invokevirtual 80, 3) := by decide +kernel
theorem dX4_readLaw_75 : decode cX4_readLaw 75 = .ok (.aload_n 0, 1) := by decide +kernel
theorem dX4_readLaw_76 : decode cX4_readLaw 76 = .ok (.getfield 12, 3) := by decide +kernel
theorem dX4_readLaw_79 : decode cX4_readLaw 79 = .ok (.getfield 148, 3) := by decide +kernel
theorem dX4_readLaw_82 : decode cX4_readLaw 82 = .ok (.iload_n 1, 1) := by decide +kernel
theorem dX4_readLaw_83 : decode cX4_readLaw 83 = .ok (.invokevirtual 156, 3) := by decide +kernel
theorem dX4_readLaw_86 : decode cX4_readLaw 86 = .ok (.aload_n 0, 1) := by decide +kernel
theorem dX4_readLaw_87 : decode cX4_readLaw 87 = .ok (.getfield 42, 3) := by decide +kernel
theorem dX4_readLaw_90 : decode cX4_readLaw 90 = .ok (.aload_n 0, 1) := by decide +kernel
theorem dX4_readLaw_91 : decode cX4_readLaw 91 = .ok (.getfield 12, 3) := by decide +kernel
theorem dX4_readLaw_94 : decode cX4_readLaw 94 = .ok (.getfield 148, 3) := by decide +kernel
theorem dX4_readLaw_97 : decode cX4_readLaw 97 = .ok (.invokevirtual 157, 3) := by decide +kernel
theorem dX4_readLaw_100 : decode cX4_readLaw 100 = .ok (.istore_n 2, 1) := by decide +kernel
theorem dX4_readLaw_101 : decode cX4_readLaw 101 = .ok (.aload_n 0, 1) := by decide +kernel
theorem dX4_readLaw_102 : decode cX4_readLaw 102 = .ok (.getfield 12, 3) := by decide +kernel
theorem dX4_readLaw_105 : decode cX4_readLaw 105 = .ok (.getfield 148, 3) := by decide +kernel
theorem dX4_readLaw_108 : decode cX4_readLaw 108 = .ok (.iload_n 1, 1) := by decide +kernel
theorem dX4_readLaw_109 : decode cX4_readLaw 109 = .ok (.invokevirtual 161, 3) := by decide +kernel
theorem dX4_readLaw_112 : decode cX4_readLaw 112 = .ok (.iload_n 2, 1) := by decide +kernel
theorem dX4_readLaw_113 : decode cX4_readLaw 113 = .ok (.ifCond .eq 11, 3) := by decide +kernel
theorem dX4_readLaw_116 : decode cX4_readLaw 116 = .ok (.aload_n 0, 1) := by decide +kernel
theorem dX4_readLaw_117 : decode cX4_readLaw 117 = .ok (.iload_n 2, 1) := by decide +kernel
theorem dX4_readLaw_118 : decode cX4_readLaw 118 = .ok (.invokevirtual 77, 3) := by decide +kernel
theorem dX4_readLaw_121 : decode cX4_readLaw 121 = .ok (.ifCond .eq 7, 3) := by decide +kernel
theorem dX4_readLaw_124 : decode cX4_readLaw 124 = .ok (.iconst 1, 1) := by decide +kernel
theorem dX4_readLaw_125 : decode cX4_readLaw 125 = .ok (.goto 4, 3) := by decide +kernel
theorem dX4_readLaw_128 : decode cX4_readLaw 128 = .ok (.iconst 0, 1) := by decide +kernel
theorem dX4_readLaw_129 : decode cX4_readLaw 129 = .ok (.ireturn, 1) := by decide +kernel
theorem dX5_init_0 : decode cX5_init 0 = .ok (.aload_n 0, 1) := by decide +kernel
theorem dX5_init_1 : decode cX5_init 1 = .ok (.invokespecial 3, 3) := by decide +kernel
theorem dX5_init_4 : decode cX5_init 4 = .ok (.aload_n 0, 1) := by decide +kernel
theorem dX5_init_5 : decode cX5_init 5 = .ok (.bipush 24, 2) := by decide +kernel
theorem dX5_init_7 : decode cX5_init 7 = .ok (.newarray .int, 2) := by decide +kernel
theorem dX5_init_9 : decode cX5_init 9 = .ok (.putfield 9, 3) := by decide +kernel
theorem dX5_init_12 : decode cX5_init 12 = .ok (.aload_n 0, 1) := by decide +kernel
theorem dX5_init_13 : decode cX5_init 13 = .ok (.bipush 24, 2) := by decide +kernel
theorem dX5_init_15 : decode cX5_init 15 = .ok (.newarray .int, 2) := by decide +kernel
theorem dX5_init_17 : decode cX5_init 17 = .ok (.putfield 15, 3) := by decide +kernel
theorem dX5_init_20 : decode cX5_init 20 = .ok (.aload_n 0, 1) := by decide +kernel
theorem dX5_init_21 : decode cX5_init 21 = .ok (.bipush 24, 2) := by decide +kernel
theorem dX5_init_23 : decode cX5_init 23 = .ok (.newarray .int, 2) := by decide +kernel
theorem dX5_init_25 : decode cX5_init 25 = .ok (.putfield 18, 3) := by decide +kernel
theorem dX5_init_28 : decode cX5_init 28 = .ok (.aload_n 0, 1) := by decide +kernel
theorem dX5_init_29 : decode cX5_init 29 = .ok (.iconst 0, 1) := by decide +kernel
theorem dX5_init_30 : decode cX5_init 30 = .ok (.putfield 21, 3) := by decide +kernel
theorem dX5_init_33 : decode cX5_init 33 = .ok (.aload_n 0, 1) := by decide +kernel
theorem dX5_init_34 : decode cX5_init 34 = .ok (.iconst (-1), 1) := by decide +kernel
theorem dX5_init_35 : decode cX5_init 35 = .ok (.putfield 25, 3) := by decide +kernel
theorem dX5_init_38 : decode cX5_init 38 = .ok (.return_, 1) := by decide +kernel
theorem dX5_clear_0 : decode cX5_clear 0 = .ok (.aload_n 0, 1) := by decide +kernel
theorem dX5_clear_1 : decode cX5_clear 1 = .ok (.iconst 0, 1) := by decide +kernel
theorem dX5_clear_2 : decode cX5_clear 2 = .ok (.putfield 21, 3) := by decide +kernel
theorem dX5_clear_5 : decode cX5_clear 5 = .ok (.aload_n 0, 1) := by decide +kernel
theorem dX5_clear_6 : decode cX5_clear 6 = .ok (.iconst (-1), 1) := by decide +kernel
theorem dX5_clear_7 : decode cX5_clear 7 = .ok (.putfield 25, 3) := by decide +kernel
theorem dX5_clear_10 : decode cX5_clear 10 = .ok (.return_, 1) := by decide +kernel
theorem dX5_add_0 : decode cX5_add 0 = .ok (.aload_n 0, 1) := by decide +kernel
theorem dX5_add_1 : decode cX5_add 1 = .ok (.getfield 21, 3) := by decide +kernel
theorem dX5_add_4 : decode cX5_add 4 = .ok (.bipush 24, 2) := by decide +kernel
theorem dX5_add_6 : decode cX5_add 6 = .ok (.if_icmp .lt 5, 3) := by decide +kernel
theorem dX5_add_9 : decode cX5_add 9 = .ok (.iconst (-1), 1) := by decide +kernel
theorem dX5_add_10 : decode cX5_add 10 = .ok (.ireturn, 1) := by decide +kernel
theorem dX5_add_11 : decode cX5_add 11 = .ok (.aload_n 0, 1) := by decide +kernel
theorem dX5_add_12 : decode cX5_add 12 = .ok (.getfield 9, 3) := by decide +kernel
theorem dX5_add_15 : decode cX5_add 15 = .ok (.aload_n 0, 1) := by decide +kernel
theorem dX5_add_16 : decode cX5_add 16 = .ok (.getfield 21, 3) := by decide +kernel
theorem dX5_add_19 : decode cX5_add 19 = .ok (.iload_n 1, 1) := by decide +kernel
theorem dX5_add_20 : decode cX5_add 20 = .ok (.iastore, 1) := by decide +kernel
theorem dX5_add_21 : decode cX5_add 21 = .ok (.aload_n 0, 1) := by decide +kernel
theorem dX5_add_22 : decode cX5_add 22 = .ok (.getfield 15, 3) := by decide +kernel
theorem dX5_add_25 : decode cX5_add 25 = .ok (.aload_n 0, 1) := by decide +kernel
theorem dX5_add_26 : decode cX5_add 26 = .ok (.getfield 21, 3) := by decide +kernel
theorem dX5_add_29 : decode cX5_add 29 = .ok (.iload_n 2, 1) := by decide +kernel
theorem dX5_add_30 : decode cX5_add 30 = .ok (.iastore, 1) := by decide +kernel
theorem dX5_add_31 : decode cX5_add 31 = .ok (.aload_n 0, 1) := by decide +kernel
theorem dX5_add_32 : decode cX5_add 32 = .ok (.getfield 18, 3) := by decide +kernel
theorem dX5_add_35 : decode cX5_add 35 = .ok (.aload_n 0, 1) := by decide +kernel
theorem dX5_add_36 : decode cX5_add 36 = .ok (.getfield 21, 3) := by decide +kernel
theorem dX5_add_39 : decode cX5_add 39 = .ok (.iload_n 3, 1) := by decide +kernel
theorem dX5_add_40 : decode cX5_add 40 = .ok (.iastore, 1) := by decide +kernel
theorem dX5_add_41 : decode cX5_add 41 = .ok (.aload_n 0, 1) := by decide +kernel
theorem dX5_add_42 : decode cX5_add 42 = .ok (.dup, 1) := by decide +kernel
theorem dX5_add_43 : decode cX5_add 43 = .ok (.getfield 21, 3) := by decide +kernel
theorem dX5_add_46 : decode cX5_add 46 = .ok (.iconst 1, 1) := by decide +kernel
theorem dX5_add_47 : decode cX5_add 47 = .ok (.iadd, 1) := by decide +kernel
theorem dX5_add_48 : decode cX5_add 48 = .ok (.putfield 21, 3) := by decide +kernel
theorem dX5_add_51 : decode cX5_add 51 = .ok (.aload_n 0, 1) := by decide +kernel
theorem dX5_add_52 : decode cX5_add 52 = .ok (.getfield 21, 3) := by decide +kernel
theorem dX5_add_55 : decode cX5_add 55 = .ok (.iconst 1, 1) := by decide +kernel
theorem dX5_add_56 : decode cX5_add 56 = .ok (.isub, 1) := by decide +kernel
theorem dX5_add_57 : decode cX5_add 57 = .ok (.ireturn, 1) := by decide +kernel
theorem dX5_knownMany_0 : decode cX5_knownMany 0 = .ok (.aload_n 0, 1) := by decide +kernel
theorem dX5_knownMany_1 : decode cX5_knownMany 1 = .ok (.getfield 25, 3) := by decide +kernel
theorem dX5_knownMany_4 : decode cX5_knownMany 4 = .ok (.ifCond .ge 10, 3) := by decide +kernel
theorem dX5_knownMany_7 : decode cX5_knownMany 7 = .ok (.aload_n 0, 1) := by decide +kernel
theorem dX5_knownMany_8 : decode cX5_knownMany 8 = .ok (.getfield 21, 3) := by decide +kernel
theorem dX5_knownMany_11 : decode cX5_knownMany 11 = .ok (.goto 7, 3) := by decide +kernel
theorem dX5_knownMany_14 : decode cX5_knownMany 14 = .ok (.aload_n 0, 1) := by decide +kernel
theorem dX5_knownMany_15 : decode cX5_knownMany 15 = .ok (.getfield 25, 3) := by decide +kernel
theorem dX5_knownMany_18 : decode cX5_knownMany 18 = .ok (.ireturn, 1) := by decide +kernel
theorem dX5_knownBits_0 : decode cX5_knownBits 0 = .ok (.iconst 0, 1) := by decide +kernel
theorem dX5_knownBits_1 : decode cX5_knownBits 1 = .ok (.istore_n 1, 1) := by decide +kernel
theorem dX5_knownBits_2 : decode cX5_knownBits 2 = .ok (.iconst 0, 1) := by decide +kernel
theorem dX5_knownBits_3 : decode cX5_knownBits 3 = .ok (.istore_n 2, 1) := by decide +kernel
theorem dX5_knownBits_4 : decode cX5_knownBits 4 = .ok (.aload_n 0, 1) := by decide +kernel
theorem dX5_knownBits_5 : decode cX5_knownBits 5 = .ok (.invokevirtual 28, 3) := by decide +kernel
theorem dX5_knownBits_8 : decode cX5_knownBits 8 = .ok (.aload_n 0, 1) := by decide +kernel
theorem dX5_knownBits_9 : decode cX5_knownBits 9 = .ok (.getfield 21, 3) := by decide +kernel
theorem dX5_knownBits_12 : decode cX5_knownBits 12 = .ok (.invokestatic 32, 3) := by decide +kernel
theorem dX5_knownBits_15 : decode cX5_knownBits 15 = .ok (.iconst 1, 1) := by decide +kernel
theorem dX5_knownBits_16 : decode cX5_knownBits 16 = .ok (.isub, 1) := by decide +kernel
theorem dX5_knownBits_17 : decode cX5_knownBits 17 = .ok (.istore_n 3, 1) := by decide +kernel
theorem dX5_knownBits_18 : decode cX5_knownBits 18 = .ok (.iload_n 3, 1) := by decide +kernel
theorem dX5_knownBits_19 : decode cX5_knownBits 19 = .ok (.ifCond .lt 47, 3) := by decide +kernel
theorem dX5_knownBits_22 : decode cX5_knownBits 22 = .ok (.iload_n 1, 1) := by decide +kernel
theorem dX5_knownBits_23 : decode cX5_knownBits 23 = .ok (.iconst 1, 1) := by decide +kernel
theorem dX5_knownBits_24 : decode cX5_knownBits 24 = .ok (.iload_n 3, 1) := by decide +kernel
theorem dX5_knownBits_25 : decode cX5_knownBits 25 = .ok (.ishl, 1) := by decide +kernel
theorem dX5_knownBits_26 : decode cX5_knownBits 26 = .ok (.iand, 1) := by decide +kernel
theorem dX5_knownBits_27 : decode cX5_knownBits 27 = .ok (.ifCond .ne 33, 3) := by decide +kernel
theorem dX5_knownBits_30 : decode cX5_knownBits 30 = .ok (.aload_n 0, 1) := by decide +kernel
theorem dX5_knownBits_31 : decode cX5_knownBits 31 = .ok (.getfield 18, 3) := by decide +kernel
theorem dX5_knownBits_34 : decode cX5_knownBits 34 = .ok (.iload_n 3, 1) := by decide +kernel
theorem dX5_knownBits_35 : decode cX5_knownBits 35 = .ok (.iaload, 1) := by decide +kernel
theorem dX5_knownBits_36 : decode cX5_knownBits 36 = .ok (.iconst 2, 1) := by decide +kernel
theorem dX5_knownBits_37 : decode cX5_knownBits 37 = .ok (.if_icmp .ne 17, 3) := by decide +kernel
theorem dX5_knownBits_40 : decode cX5_knownBits 40 = .ok (.iload_n 1, 1) := by decide +kernel
theorem dX5_knownBits_41 : decode cX5_knownBits 41 = .ok (.iconst 1, 1) := by decide +kernel
theorem dX5_knownBits_42 : decode cX5_knownBits 42 = .ok (.aload_n 0, 1) := by decide +kernel
theorem dX5_knownBits_43 : decode cX5_knownBits 43 = .ok (.getfield 15, 3) := by decide +kernel
theorem dX5_knownBits_46 : decode cX5_knownBits 46 = .ok (.iload_n 3, 1) := by decide +kernel
theorem dX5_knownBits_47 : decode cX5_knownBits 47 = .ok (.iaload, 1) := by decide +kernel
theorem dX5_knownBits_48 : decode cX5_knownBits 48 = .ok (.ishl, 1) := by decide +kernel
theorem dX5_knownBits_49 : decode cX5_knownBits 49 = .ok (.ior, 1) := by decide +kernel
theorem dX5_knownBits_50 : decode cX5_knownBits 50 = .ok (.istore_n 1, 1) := by decide +kernel
theorem dX5_knownBits_51 : decode cX5_knownBits 51 = .ok (.goto 9, 3) := by decide +kernel
theorem dX5_knownBits_54 : decode cX5_knownBits 54 = .ok (.iload_n 2, 1) := by decide +kernel
theorem dX5_knownBits_55 : decode cX5_knownBits 55 = .ok (.iconst 1, 1) := by decide +kernel
theorem dX5_knownBits_56 : decode cX5_knownBits 56 = .ok (.iload_n 3, 1) := by decide +kernel
theorem dX5_knownBits_57 : decode cX5_knownBits 57 = .ok (.ishl, 1) := by decide +kernel
theorem dX5_knownBits_58 : decode cX5_knownBits 58 = .ok (.ior, 1) := by decide +kernel
theorem dX5_knownBits_59 : decode cX5_knownBits 59 = .ok (.istore_n 2, 1) := by decide +kernel
theorem dX5_knownBits_60 : decode cX5_knownBits 60 = .ok (.iinc 3 (-1), 3) := by decide +kernel
theorem dX5_knownBits_63 : decode cX5_knownBits 63 = .ok (.goto (-45), 3) := by decide +kernel
theorem dX5_knownBits_66 : decode cX5_knownBits 66 = .ok (.iload_n 2, 1) := by decide +kernel
theorem dX5_knownBits_67 : decode cX5_knownBits 67 = .ok (.ireturn, 1) := by decide +kernel
theorem dX5_lastMinutes_0 : decode cX5_lastMinutes 0 = .ok (.iconst 0, 1) := by decide +kernel
theorem dX5_lastMinutes_1 : decode cX5_lastMinutes 1 = .ok (.istore_n 2, 1) := by decide +kernel
theorem dX5_lastMinutes_2 : decode cX5_lastMinutes 2 = .ok (.iconst 0, 1) := by decide +kernel
theorem dX5_lastMinutes_3 : decode cX5_lastMinutes 3 = .ok (.istore_n 3, 1) := by decide +kernel
theorem dX5_lastMinutes_4 : decode cX5_lastMinutes 4 = .ok (.iload_n 3, 1) := by decide +kernel
theorem dX5_lastMinutes_5 : decode cX5_lastMinutes 5 = .ok (.aload_n 0, 1) := by decide +kernel
theorem dX5_lastMinutes_6 : decode cX5_lastMinutes 6 = .ok (.getfield 21, 3) := by decide +kernel
theorem dX5_lastMinutes_9 : decode cX5_lastMinutes 9 = .ok (.if_icmp .ge 28, 3) := by decide +kernel
theorem dX5_lastMinutes_12 : decode cX5_lastMinutes 12 = .ok (.iload_n 1, 1) := by decide +kernel
theorem dX5_lastMinutes_13 : decode cX5_lastMinutes 13 = .ok (.iconst 1, 1) := by decide +kernel
theorem dX5_lastMinutes_14 : decode cX5_lastMinutes 14 = .ok (.iload_n 3, 1) := by decide +kernel
theorem dX5_lastMinutes_15 : decode cX5_lastMinutes 15 = .ok (.ishl, 1) := by decide +kernel
theorem dX5_lastMinutes_16 : decode cX5_lastMinutes 16 = .ok (.iand, 1) := by decide +kernel
theorem dX5_lastMinutes_17 : decode cX5_lastMinutes 17 = .ok (.ifCond .eq 14, 3) := by decide +kernel
theorem dX5_lastMinutes_20 : decode cX5_lastMinutes 20 = .ok (.iload_n 2, 1) := by decide +kernel
theorem dX5_lastMinutes_21 : decode cX5_lastMinutes 21 = .ok (.aload_n 0, 1) := by decide +kernel
theorem dX5_lastMinutes_22 : decode cX5_lastMinutes 22 = .ok (.getfield 9, 3) := by decide +kernel
theorem dX5_lastMinutes_25 : decode cX5_lastMinutes 25 = .ok (.iload_n 3, 1) := by decide +kernel
theorem dX5_lastMinutes_26 : decode cX5_lastMinutes 26 = .ok (.iaload, 1) := by decide +kernel
theorem dX5_lastMinutes_27 : decode cX5_lastMinutes 27 = .ok (.invokestatic 38, 3) := by decide +kernel
theorem dX5_lastMinutes_30 : decode cX5_lastMinutes 30 = .ok (.istore_n 2, 1) := by decide +kernel
theorem dX5_lastMinutes_31 : decode cX5_lastMinutes 31 = .ok (.iinc 3 1, 3) := by decide +kernel
theorem dX5_lastMinutes_34 : decode cX5_lastMinutes 34 = .ok (.goto (-30), 3) := by decide +kernel
theorem dX5_lastMinutes_37 : decode cX5_lastMinutes 37 = .ok (.iload_n 2, 1) := by decide +kernel
theorem dX5_lastMinutes_38 : decode cX5_lastMinutes 38 = .ok (.ireturn, 1) := by decide +kernel
theorem dX5_areSo_0 : decode cX5_areSo 0 = .ok (.iconst 0, 1) := by decide +kernel
theorem dX5_areSo_1 : decode cX5_areSo 1 = .ok (.istore 4, 2) := by decide +kernel
theorem dX5_areSo_3 : decode cX5_areSo 3 = .ok (.iload 4, 2) := by decide +kernel
theorem dX5_areSo_5 : decode cX5_areSo 5 = .ok (.aload_n 0, 1) := by decide +kernel
theorem dX5_areSo_6 : decode cX5_areSo 6 = .ok (.getfield 21, 3) := by decide +kernel
theorem dX5_areSo_9 : decode cX5_areSo 9 = .ok (.if_icmp .ge 79, 3) := by decide +kernel
theorem dX5_areSo_12 : decode cX5_areSo 12 = .ok (.iload_n 1, 1) := by decide +kernel
theorem dX5_areSo_13 : decode cX5_areSo 13 = .ok (.iconst 1, 1) := by decide +kernel
theorem dX5_areSo_14 : decode cX5_areSo 14 = .ok (.iload 4, 2) := by decide +kernel
theorem dX5_areSo_16 : decode cX5_areSo 16 = .ok (.ishl, 1) := by decide +kernel
theorem dX5_areSo_17 : decode cX5_areSo 17 = .ok (.iand, 1) := by decide +kernel
theorem dX5_areSo_18 : decode cX5_areSo 18 = .ok (.ifCond .eq 18, 3) := by decide +kernel
theorem dX5_areSo_21 : decode cX5_areSo 21 = .ok (.aload_n 0, 1) := by decide +kernel
theorem dX5_areSo_22 : decode cX5_areSo 22 = .ok (.getfield 9, 3) := by decide +kernel
theorem dX5_areSo_25 : decode cX5_areSo 25 = .ok (.iload 4, 2) := by decide +kernel
theorem dX5_areSo_27 : decode cX5_areSo 27 = .ok (.iaload, 1) := by decide +kernel
theorem dX5_areSo_28 : decode cX5_areSo 28 = .ok (.iload_n 2, 1) := by decide +kernel
theorem dX5_areSo_29 : decode cX5_areSo 29 = .ok (.if_icmp .ne 7, 3) := by decide +kernel
theorem dX5_areSo_32 : decode cX5_areSo 32 = .ok (.iconst 1, 1) := by decide +kernel
theorem dX5_areSo_33 : decode cX5_areSo 33 = .ok (.goto 4, 3) := by decide +kernel
theorem dX5_areSo_36 : decode cX5_areSo 36 = .ok (.iconst 0, 1) := by decide +kernel
theorem dX5_areSo_37 : decode cX5_areSo 37 = .ok (.istore 5, 2) := by decide +kernel
theorem dX5_areSo_39 : decode cX5_areSo 39 = .ok (.iload 5, 2) := by decide +kernel
theorem dX5_areSo_41 : decode cX5_areSo 41 = .ok (.ifCond .eq 41, 3) := by decide +kernel
theorem dX5_areSo_44 : decode cX5_areSo 44 = .ok (.aload_n 3, 1) := by decide +kernel
theorem dX5_areSo_45 : decode cX5_areSo 45 = .ok (.aload_n 0, 1) := by decide +kernel
theorem dX5_areSo_46 : decode cX5_areSo 46 = .ok (.getfield 15, 3) := by decide +kernel
theorem dX5_areSo_49 : decode cX5_areSo 49 = .ok (.iload 4, 2) := by decide +kernel
theorem dX5_areSo_51 : decode cX5_areSo 51 = .ok (.iaload, 1) := by decide +kernel
theorem dX5_areSo_52 : decode cX5_areSo 52 = .ok (.iaload, 1) := by decide +kernel
theorem dX5_areSo_53 : decode cX5_areSo 53 = .ok (.iconst 2, 1) := by decide +kernel
theorem dX5_areSo_54 : decode cX5_areSo 54 = .ok (.if_icmp .ne 7, 3) := by decide +kernel
theorem dX5_areSo_57 : decode cX5_areSo 57 = .ok (.iconst 1, 1) := by decide +kernel
theorem dX5_areSo_58 : decode cX5_areSo 58 = .ok (.goto 4, 3) := by decide +kernel
theorem dX5_areSo_61 : decode cX5_areSo 61 = .ok (.iconst 0, 1) := by decide +kernel
theorem dX5_areSo_62 : decode cX5_areSo 62 = .ok (.aload_n 0, 1) := by decide +kernel
theorem dX5_areSo_63 : decode cX5_areSo 63 = .ok (.getfield 18, 3) := by decide +kernel
theorem dX5_areSo_66 : decode cX5_areSo 66 = .ok (.iload 4, 2) := by decide +kernel
theorem dX5_areSo_68 : decode cX5_areSo 68 = .ok (.iaload, 1) := by decide +kernel
theorem dX5_areSo_69 : decode cX5_areSo 69 = .ok (.ifCond .ne 7, 3) := by decide +kernel
theorem dX5_areSo_72 : decode cX5_areSo 72 = .ok (.iconst 1, 1) := by decide +kernel
theorem dX5_areSo_73 : decode cX5_areSo 73 = .ok (.goto 4, 3) := by decide +kernel
theorem dX5_areSo_76 : decode cX5_areSo 76 = .ok (.iconst 0, 1) := by decide +kernel
theorem dX5_areSo_77 : decode cX5_areSo 77 = .ok (.if_icmp .eq 5, 3) := by decide +kernel
theorem dX5_areSo_80 : decode cX5_areSo 80 = .ok (.iconst 0, 1) := by decide +kernel
theorem dX5_areSo_81 : decode cX5_areSo 81 = .ok (.ireturn, 1) := by decide +kernel
theorem dX5_areSo_82 : decode cX5_areSo 82 = .ok (.iinc 4 1, 3) := by decide +kernel
theorem dX5_areSo_85 : decode cX5_areSo 85 = .ok (.goto (-82), 3) := by decide +kernel
theorem dX5_areSo_88 : decode cX5_areSo 88 = .ok (.iconst 1, 1) := by decide +kernel
theorem dX5_areSo_89 : decode cX5_areSo 89 = .ok (.ireturn, 1) := by decide +kernel
theorem dX6_init_0 : decode cX6_init 0 = .ok (.aload_n 0, 1) := by decide +kernel
theorem dX6_init_1 : decode cX6_init 1 = .ok (.invokespecial 3, 3) := by decide +kernel
theorem dX6_init_4 : decode cX6_init 4 = .ok (.aload_n 0, 1) := by decide +kernel
theorem dX6_init_5 : decode cX6_init 5 = .ok (.iconst 0, 1) := by decide +kernel
theorem dX6_init_6 : decode cX6_init 6 = .ok (.putfield 9, 3) := by decide +kernel
theorem dX6_init_9 : decode cX6_init 9 = .ok (.aload_n 0, 1) := by decide +kernel
theorem dX6_init_10 : decode cX6_init 10 = .ok (.iconst 0, 1) := by decide +kernel
theorem dX6_init_11 : decode cX6_init 11 = .ok (.putfield 15, 3) := by decide +kernel
theorem dX6_init_14 : decode cX6_init 14 = .ok (.aload_n 0, 1) := by decide +kernel
theorem dX6_init_15 : decode cX6_init 15 = .ok (.bipush 8, 2) := by decide +kernel
theorem dX6_init_17 : decode cX6_init 17 = .ok (.newarray .int, 2) := by decide +kernel
theorem dX6_init_19 : decode cX6_init 19 = .ok (.putfield 18, 3) := by decide +kernel
theorem dX6_init_22 : decode cX6_init 22 = .ok (.aload_n 0, 1) := by decide +kernel
theorem dX6_init_23 : decode cX6_init 23 = .ok (.bipush 8, 2) := by decide +kernel
theorem dX6_init_25 : decode cX6_init 25 = .ok (.newarray .int, 2) := by decide +kernel
theorem dX6_init_27 : decode cX6_init 27 = .ok (.putfield 22, 3) := by decide +kernel
theorem dX6_init_30 : decode cX6_init 30 = .ok (.aload_n 0, 1) := by decide +kernel
theorem dX6_init_31 : decode cX6_init 31 = .ok (.bipush 8, 2) := by decide +kernel
theorem dX6_init_33 : decode cX6_init 33 = .ok (.newarray .int, 2) := by decide +kernel
theorem dX6_init_35 : decode cX6_init 35 = .ok (.putfield 25, 3) := by decide +kernel
theorem dX6_init_38 : decode cX6_init 38 = .ok (.aload_n 0, 1) := by decide +kernel
theorem dX6_init_39 : decode cX6_init 39 = .ok (.bipush 8, 2) := by decide +kernel
theorem dX6_init_41 : decode cX6_init 41 = .ok (.newarray .int, 2) := by decide +kernel
theorem dX6_init_43 : decode cX6_init 43 = .ok (.putfield 28, 3) := by decide +kernel
theorem dX6_init_46 : decode cX6_init 46 = .ok (.aload_n 0, 1) := by decide +kernel
theorem dX6_init_47 : decode cX6_init 47 = .ok (.bipush 8, 2) := by decide +kernel
theorem dX6_init_49 : decode cX6_init 49 = .ok (.newarray .int, 2) := by decide +kernel
theorem dX6_init_51 : decode cX6_init 51 = .ok (.putfield 31, 3) := by decide +kernel
theorem dX6_init_54 : decode cX6_init 54 = .ok (.aload_n 0, 1) := by decide +kernel
theorem dX6_init_55 : decode cX6_init 55 = .ok (.bipush 8, 2) := by decide +kernel
theorem dX6_init_57 : decode cX6_init 57 = .ok (.newarray .int, 2) := by decide +kernel
theorem dX6_init_59 : decode cX6_init 59 = .ok (.putfield 34, 3) := by decide +kernel
theorem dX6_init_62 : decode cX6_init 62 = .ok (.aload_n 0, 1) := by decide +kernel
theorem dX6_init_63 : decode cX6_init 63 = .ok (.bipush 8, 2) := by decide +kernel
theorem dX6_init_65 : decode cX6_init 65 = .ok (.newarray .int, 2) := by decide +kernel
theorem dX6_init_67 : decode cX6_init 67 = .ok (.putfield 37, 3) := by decide +kernel
theorem dX6_init_70 : decode cX6_init 70 = .ok (.aload_n 0, 1) := by decide +kernel
theorem dX6_init_71 : decode cX6_init 71 = .ok (.iconst 0, 1) := by decide +kernel
theorem dX6_init_72 : decode cX6_init 72 = .ok (.putfield 40, 3) := by decide +kernel
theorem dX6_init_75 : decode cX6_init 75 = .ok (.return_, 1) := by decide +kernel
theorem dX6_begin_0 : decode cX6_begin 0 = .ok (.aload_n 0, 1) := by decide +kernel
theorem dX6_begin_1 : decode cX6_begin 1 = .ok (.iconst 0, 1) := by decide +kernel
theorem dX6_begin_2 : decode cX6_begin 2 = .ok (.putfield 9, 3) := by decide +kernel
theorem dX6_begin_5 : decode cX6_begin 5 = .ok (.aload_n 0, 1) := by decide +kernel
theorem dX6_begin_6 : decode cX6_begin 6 = .ok (.iload_n 2, 1) := by decide +kernel
theorem dX6_begin_7 : decode cX6_begin 7 = .ok (.putfield 15, 3) := by decide +kernel
theorem dX6_begin_10 : decode cX6_begin 10 = .ok (.aload_n 0, 1) := by decide +kernel
theorem dX6_begin_11 : decode cX6_begin 11 = .ok (.iconst 0, 1) := by decide +kernel
theorem dX6_begin_12 : decode cX6_begin 12 = .ok (.putfield 40, 3) := by decide +kernel
theorem dX6_begin_15 : decode cX6_begin 15 = .ok (.iconst 0, 1) := by decide +kernel
theorem dX6_begin_16 : decode cX6_begin 16 = .ok (.istore_n 3, 1) := by decide +kernel
theorem dX6_begin_17 : decode cX6_begin 17 = .ok (.iload_n 3, 1) := by decide +kernel
theorem dX6_begin_18 : decode cX6_begin 18 = .ok (.bipush 8, 2) := by decide +kernel
theorem dX6_begin_20 : decode cX6_begin 20 = .ok (.if_icmp .ge 65, 3) := by decide +kernel
theorem dX6_begin_23 : decode cX6_begin 23 = .ok (.aload_n 0, 1) := by decide +kernel
theorem dX6_begin_24 : decode cX6_begin 24 = .ok (.getfield 18, 3) := by decide +kernel
theorem dX6_begin_27 : decode cX6_begin 27 = .ok (.iload_n 3, 1) := by decide +kernel
theorem dX6_begin_28 : decode cX6_begin 28 = .ok (.iconst 0, 1) := by decide +kernel
theorem dX6_begin_29 : decode cX6_begin 29 = .ok (.iastore, 1) := by decide +kernel
theorem dX6_begin_30 : decode cX6_begin 30 = .ok (.aload_n 0, 1) := by decide +kernel
theorem dX6_begin_31 : decode cX6_begin 31 = .ok (.getfield 22, 3) := by decide +kernel
theorem dX6_begin_34 : decode cX6_begin 34 = .ok (.iload_n 3, 1) := by decide +kernel
theorem dX6_begin_35 : decode cX6_begin 35 = .ok (.iload_n 3, 1) := by decide +kernel
theorem dX6_begin_36 : decode cX6_begin 36 = .ok (.aload_n 1, 1) := by decide +kernel
theorem dX6_begin_37 : decode cX6_begin 37 = .ok (.arraylength, 1) := by decide +kernel
theorem dX6_begin_38 : decode cX6_begin 38 = .ok (.if_icmp .ge 9, 3) := by decide +kernel
theorem dX6_begin_41 : decode cX6_begin 41 = .ok (.aload_n 1, 1) := by decide +kernel
theorem dX6_begin_42 : decode cX6_begin 42 = .ok (.iload_n 3, 1) := by decide +kernel
theorem dX6_begin_43 : decode cX6_begin 43 = .ok (.iaload, 1) := by decide +kernel
theorem dX6_begin_44 : decode cX6_begin 44 = .ok (.goto 4, 3) := by decide +kernel
theorem dX6_begin_47 : decode cX6_begin 47 = .ok (.iconst 0, 1) := by decide +kernel
theorem dX6_begin_48 : decode cX6_begin 48 = .ok (.iastore, 1) := by decide +kernel
theorem dX6_begin_49 : decode cX6_begin 49 = .ok (.aload_n 0, 1) := by decide +kernel
theorem dX6_begin_50 : decode cX6_begin 50 = .ok (.getfield 25, 3) := by decide +kernel
theorem dX6_begin_53 : decode cX6_begin 53 = .ok (.iload_n 3, 1) := by decide +kernel
theorem dX6_begin_54 : decode cX6_begin 54 = .ok (.iconst 0, 1) := by decide +kernel
theorem dX6_begin_55 : decode cX6_begin 55 = .ok (.iastore, 1) := by decide +kernel
theorem dX6_begin_56 : decode cX6_begin 56 = .ok (.aload_n 0, 1) := by decide +kernel
theorem dX6_begin_57 : decode cX6_begin 57 = .ok (.getfield 28, 3) := by decide +kernel
theorem dX6_begin_60 : decode cX6_begin 60 = .ok (.iload_n 3, 1) := by decide +kernel
theorem dX6_begin_61 : decode cX6_begin 61 = .ok (.iconst 0, 1) := by decide +kernel
theorem dX6_begin_62 : decode cX6_begin 62 = .ok (.iastore, 1) := by decide +kernel
theorem dX6_begin_63 : decode cX6_begin 63 = .ok (.aload_n 0, 1) := by decide +kernel
theorem dX6_begin_64 : decode cX6_begin 64 = .ok (.getfield 31, 3) := by decide +kernel
theorem dX6_begin_67 : decode cX6_begin 67 = .ok (.iload_n 3, 1) := by decide +kernel
theorem dX6_begin_68 : decode cX6_begin 68 = .ok (.bipush (-2), 2) := by decide +kernel
theorem dX6_begin_70 : decode cX6_begin 70 = .ok (.iastore, 1) := by decide +kernel
theorem dX6_begin_71 : decode cX6_begin 71 = .ok (.aload_n 0, 1) := by decide +kernel
theorem dX6_begin_72 : decode cX6_begin 72 = .ok (.getfield 34, 3) := by decide +kernel
theorem dX6_begin_75 : decode cX6_begin 75 = .ok (.iload_n 3, 1) := by decide +kernel
theorem dX6_begin_76 : decode cX6_begin 76 = .ok (.bipush (-2), 2) := by decide +kernel
theorem dX6_begin_78 : decode cX6_begin 78 = .ok (.iastore, 1) := by decide +kernel
theorem dX6_begin_79 : decode cX6_begin 79 = .ok (.iinc 3 1, 3) := by decide +kernel
theorem dX6_begin_82 : decode cX6_begin 82 = .ok (.goto (-65), 3) := by decide +kernel
theorem dX6_begin_85 : decode cX6_begin 85 = .ok (.return_, 1) := by decide +kernel
theorem dX6_copy_0 : decode cX6_copy 0 = .ok (.aload_n 0, 1) := by decide +kernel
theorem dX6_copy_1 : decode cX6_copy 1 = .ok (.aload_n 1, 1) := by decide +kernel
theorem dX6_copy_2 : decode cX6_copy 2 = .ok (.getfield 9, 3) := by decide +kernel
theorem dX6_copy_5 : decode cX6_copy 5 = .ok (.putfield 9, 3) := by decide +kernel
theorem dX6_copy_8 : decode cX6_copy 8 = .ok (.aload_n 0, 1) := by decide +kernel
theorem dX6_copy_9 : decode cX6_copy 9 = .ok (.aload_n 1, 1) := by decide +kernel
theorem dX6_copy_10 : decode cX6_copy 10 = .ok (.getfield 15, 3) := by decide +kernel
theorem dX6_copy_13 : decode cX6_copy 13 = .ok (.putfield 15, 3) := by decide +kernel
theorem dX6_copy_16 : decode cX6_copy 16 = .ok (.aload_n 0, 1) := by decide +kernel
theorem dX6_copy_17 : decode cX6_copy 17 = .ok (.aload_n 1, 1) := by decide +kernel
theorem dX6_copy_18 : decode cX6_copy 18 = .ok (.getfield 40, 3) := by decide +kernel
theorem dX6_copy_21 : decode cX6_copy 21 = .ok (.putfield 40, 3) := by decide +kernel
theorem dX6_copy_24 : decode cX6_copy 24 = .ok (.iconst 0, 1) := by decide +kernel
theorem dX6_copy_25 : decode cX6_copy 25 = .ok (.istore_n 2, 1) := by decide +kernel
theorem dX6_copy_26 : decode cX6_copy 26 = .ok (.iload_n 2, 1) := by decide +kernel
theorem dX6_copy_27 : decode cX6_copy 27 = .ok (.bipush 8, 2) := by decide +kernel
theorem dX6_copy_29 : decode cX6_copy 29 = .ok (.if_icmp .ge 93, 3) := by decide +kernel
theorem dX6_copy_32 : decode cX6_copy 32 = .ok (.aload_n 0, 1) := by decide +kernel
theorem dX6_copy_33 : decode cX6_copy 33 = .ok (.getfield 18, 3) := by decide +kernel
theorem dX6_copy_36 : decode cX6_copy 36 = .ok (.iload_n 2, 1) := by decide +kernel
theorem dX6_copy_37 : decode cX6_copy 37 = .ok (.aload_n 1, 1) := by decide +kernel
theorem dX6_copy_38 : decode cX6_copy 38 = .ok (.getfield 18, 3) := by decide +kernel
theorem dX6_copy_41 : decode cX6_copy 41 = .ok (.iload_n 2, 1) := by decide +kernel
theorem dX6_copy_42 : decode cX6_copy 42 = .ok (.iaload, 1) := by decide +kernel
theorem dX6_copy_43 : decode cX6_copy 43 = .ok (.iastore, 1) := by decide +kernel
theorem dX6_copy_44 : decode cX6_copy 44 = .ok (.aload_n 0, 1) := by decide +kernel
theorem dX6_copy_45 : decode cX6_copy 45 = .ok (.getfield 22, 3) := by decide +kernel
theorem dX6_copy_48 : decode cX6_copy 48 = .ok (.iload_n 2, 1) := by decide +kernel
theorem dX6_copy_49 : decode cX6_copy 49 = .ok (.aload_n 1, 1) := by decide +kernel
theorem dX6_copy_50 : decode cX6_copy 50 = .ok (.getfield 22, 3) := by decide +kernel
theorem dX6_copy_53 : decode cX6_copy 53 = .ok (.iload_n 2, 1) := by decide +kernel
theorem dX6_copy_54 : decode cX6_copy 54 = .ok (.iaload, 1) := by decide +kernel
theorem dX6_copy_55 : decode cX6_copy 55 = .ok (.iastore, 1) := by decide +kernel
theorem dX6_copy_56 : decode cX6_copy 56 = .ok (.aload_n 0, 1) := by decide +kernel
theorem dX6_copy_57 : decode cX6_copy 57 = .ok (.getfield 25, 3) := by decide +kernel
theorem dX6_copy_60 : decode cX6_copy 60 = .ok (.iload_n 2, 1) := by decide +kernel
theorem dX6_copy_61 : decode cX6_copy 61 = .ok (.aload_n 1, 1) := by decide +kernel
theorem dX6_copy_62 : decode cX6_copy 62 = .ok (.getfield 25, 3) := by decide +kernel
theorem dX6_copy_65 : decode cX6_copy 65 = .ok (.iload_n 2, 1) := by decide +kernel
theorem dX6_copy_66 : decode cX6_copy 66 = .ok (.iaload, 1) := by decide +kernel
theorem dX6_copy_67 : decode cX6_copy 67 = .ok (.iastore, 1) := by decide +kernel
theorem dX6_copy_68 : decode cX6_copy 68 = .ok (.aload_n 0, 1) := by decide +kernel
theorem dX6_copy_69 : decode cX6_copy 69 = .ok (.getfield 28, 3) := by decide +kernel
theorem dX6_copy_72 : decode cX6_copy 72 = .ok (.iload_n 2, 1) := by decide +kernel
theorem dX6_copy_73 : decode cX6_copy 73 = .ok (.aload_n 1, 1) := by decide +kernel
theorem dX6_copy_74 : decode cX6_copy 74 = .ok (.getfield 28, 3) := by decide +kernel
theorem dX6_copy_77 : decode cX6_copy 77 = .ok (.iload_n 2, 1) := by decide +kernel
theorem dX6_copy_78 : decode cX6_copy 78 = .ok (.iaload, 1) := by decide +kernel
theorem dX6_copy_79 : decode cX6_copy 79 = .ok (.iastore, 1) := by decide +kernel
theorem dX6_copy_80 : decode cX6_copy 80 = .ok (.aload_n 0, 1) := by decide +kernel
theorem dX6_copy_81 : decode cX6_copy 81 = .ok (.getfield 31, 3) := by decide +kernel
theorem dX6_copy_84 : decode cX6_copy 84 = .ok (.iload_n 2, 1) := by decide +kernel
theorem dX6_copy_85 : decode cX6_copy 85 = .ok (.aload_n 1, 1) := by decide +kernel
theorem dX6_copy_86 : decode cX6_copy 86 = .ok (.getfield 31, 3) := by decide +kernel
theorem dX6_copy_89 : decode cX6_copy 89 = .ok (.iload_n 2, 1) := by decide +kernel
theorem dX6_copy_90 : decode cX6_copy 90 = .ok (.iaload, 1) := by decide +kernel
theorem dX6_copy_91 : decode cX6_copy 91 = .ok (.iastore, 1) := by decide +kernel
theorem dX6_copy_92 : decode cX6_copy 92 = .ok (.aload_n 0, 1) := by decide +kernel
theorem dX6_copy_93 : decode cX6_copy 93 = .ok (.getfield 34, 3) := by decide +kernel
theorem dX6_copy_96 : decode cX6_copy 96 = .ok (.iload_n 2, 1) := by decide +kernel
theorem dX6_copy_97 : decode cX6_copy 97 = .ok (.aload_n 1, 1) := by decide +kernel
theorem dX6_copy_98 : decode cX6_copy 98 = .ok (.getfield 34, 3) := by decide +kernel
theorem dX6_copy_101 : decode cX6_copy 101 = .ok (.iload_n 2, 1) := by decide +kernel
theorem dX6_copy_102 : decode cX6_copy 102 = .ok (.iaload, 1) := by decide +kernel
theorem dX6_copy_103 : decode cX6_copy 103 = .ok (.iastore, 1) := by decide +kernel
theorem dX6_copy_104 : decode cX6_copy 104 = .ok (.aload_n 0, 1) := by decide +kernel
theorem dX6_copy_105 : decode cX6_copy 105 = .ok (.getfield 37, 3) := by decide +kernel
theorem dX6_copy_108 : decode cX6_copy 108 = .ok (.iload_n 2, 1) := by decide +kernel
theorem dX6_copy_109 : decode cX6_copy 109 = .ok (.aload_n 1, 1) := by decide +kernel
theorem dX6_copy_110 : decode cX6_copy 110 = .ok (.getfield 37, 3) := by decide +kernel
theorem dX6_copy_113 : decode cX6_copy 113 = .ok (.iload_n 2, 1) := by decide +kernel
theorem dX6_copy_114 : decode cX6_copy 114 = .ok (.iaload, 1) := by decide +kernel
theorem dX6_copy_115 : decode cX6_copy 115 = .ok (.iastore, 1) := by decide +kernel
theorem dX6_copy_116 : decode cX6_copy 116 = .ok (.iinc 2 1, 3) := by decide +kernel
theorem dX6_copy_119 : decode cX6_copy 119 = .ok (.goto (-93), 3) := by decide +kernel
theorem dX6_copy_122 : decode cX6_copy 122 = .ok (.return_, 1) := by decide +kernel
theorem dX6_placeOf_0 : decode cX6_placeOf 0 = .ok (.iconst 0, 1) := by decide +kernel
theorem dX6_placeOf_1 : decode cX6_placeOf 1 = .ok (.istore_n 2, 1) := by decide +kernel
theorem dX6_placeOf_2 : decode cX6_placeOf 2 = .ok (.iload_n 2, 1) := by decide +kernel
theorem dX6_placeOf_3 : decode cX6_placeOf 3 = .ok (.aload_n 0, 1) := by decide +kernel
theorem dX6_placeOf_4 : decode cX6_placeOf 4 = .ok (.getfield 40, 3) := by decide +kernel
theorem dX6_placeOf_7 : decode cX6_placeOf 7 = .ok (.if_icmp .ge 27, 3) := by decide +kernel
theorem dX6_placeOf_10 : decode cX6_placeOf 10 = .ok (.iload_n 2, 1) := by decide +kernel
theorem dX6_placeOf_11 : decode cX6_placeOf 11 = .ok (.bipush 8, 2) := by decide +kernel
theorem dX6_placeOf_13 : decode cX6_placeOf 13 = .ok (.if_icmp .ge 21, 3) := by decide +kernel
theorem dX6_placeOf_16 : decode cX6_placeOf 16 = .ok (.aload_n 0, 1) := by decide +kernel
theorem dX6_placeOf_17 : decode cX6_placeOf 17 = .ok (.getfield 37, 3) := by decide +kernel
theorem dX6_placeOf_20 : decode cX6_placeOf 20 = .ok (.iload_n 2, 1) := by decide +kernel
theorem dX6_placeOf_21 : decode cX6_placeOf 21 = .ok (.iaload, 1) := by decide +kernel
theorem dX6_placeOf_22 : decode cX6_placeOf 22 = .ok (.iload_n 1, 1) := by decide +kernel
theorem dX6_placeOf_23 : decode cX6_placeOf 23 = .ok (.if_icmp .ne 5, 3) := by decide +kernel
theorem dX6_placeOf_26 : decode cX6_placeOf 26 = .ok (.iload_n 2, 1) := by decide +kernel
theorem dX6_placeOf_27 : decode cX6_placeOf 27 = .ok (.ireturn, 1) := by decide +kernel
theorem dX6_placeOf_28 : decode cX6_placeOf 28 = .ok (.iinc 2 1, 3) := by decide +kernel
theorem dX6_placeOf_31 : decode cX6_placeOf 31 = .ok (.goto (-29), 3) := by decide +kernel
theorem dX6_placeOf_34 : decode cX6_placeOf 34 = .ok (.bipush (-2), 2) := by decide +kernel
theorem dX6_placeOf_36 : decode cX6_placeOf 36 = .ok (.ireturn, 1) := by decide +kernel
theorem dX6_takeOut_0 : decode cX6_takeOut 0 = .ok (.iload_n 1, 1) := by decide +kernel
theorem dX6_takeOut_1 : decode cX6_takeOut 1 = .ok (.ifCond .lt 11, 3) := by decide +kernel
theorem dX6_takeOut_4 : decode cX6_takeOut 4 = .ok (.iload_n 1, 1) := by decide +kernel
theorem dX6_takeOut_5 : decode cX6_takeOut 5 = .ok (.aload_n 0, 1) := by decide +kernel
theorem dX6_takeOut_6 : decode cX6_takeOut 6 = .ok (.getfield 40, 3) := by decide +kernel
theorem dX6_takeOut_9 : decode cX6_takeOut 9 = .ok (.if_icmp .lt 4, 3) := by decide +kernel
theorem dX6_takeOut_12 : decode cX6_takeOut 12 = .ok (.return_, 1) := by decide +kernel
theorem dX6_takeOut_13 : decode cX6_takeOut 13 = .ok (.aload_n 0, 1) := by decide +kernel
theorem dX6_takeOut_14 : decode cX6_takeOut 14 = .ok (.dup, 1) := by decide +kernel
theorem dX6_takeOut_15 : decode cX6_takeOut 15 = .ok (.getfield 40, 3) := by decide +kernel
theorem dX6_takeOut_18 : decode cX6_takeOut 18 = .ok (.iconst 1, 1) := by decide +kernel
theorem dX6_takeOut_19 : decode cX6_takeOut 19 = .ok (.isub, 1) := by decide +kernel
theorem dX6_takeOut_20 : decode cX6_takeOut 20 = .ok (.putfield 40, 3) := by decide +kernel
theorem dX6_takeOut_23 : decode cX6_takeOut 23 = .ok (.iload_n 1, 1) := by decide +kernel
theorem dX6_takeOut_24 : decode cX6_takeOut 24 = .ok (.istore_n 2, 1) := by decide +kernel
theorem dX6_takeOut_25 : decode cX6_takeOut 25 = .ok (.iload_n 2, 1) := by decide +kernel
theorem dX6_takeOut_26 : decode cX6_takeOut 26 = .ok (.aload_n 0, 1) := by decide +kernel
theorem dX6_takeOut_27 : decode cX6_takeOut 27 = .ok (.getfield 40, 3) := by decide +kernel
theorem dX6_takeOut_30 : decode cX6_takeOut 30 = .ok (.if_icmp .ge 29, 3) := by decide +kernel
theorem dX6_takeOut_33 : decode cX6_takeOut 33 = .ok (.iload_n 2, 1) := by decide +kernel
theorem dX6_takeOut_34 : decode cX6_takeOut 34 = .ok (.bipush 7, 2) := by decide +kernel
theorem dX6_takeOut_36 : decode cX6_takeOut 36 = .ok (.if_icmp .ge 23, 3) := by decide +kernel
theorem dX6_takeOut_39 : decode cX6_takeOut 39 = .ok (.aload_n 0, 1) := by decide +kernel
theorem dX6_takeOut_40 : decode cX6_takeOut 40 = .ok (.getfield 37, 3) := by decide +kernel
theorem dX6_takeOut_43 : decode cX6_takeOut 43 = .ok (.iload_n 2, 1) := by decide +kernel
theorem dX6_takeOut_44 : decode cX6_takeOut 44 = .ok (.aload_n 0, 1) := by decide +kernel
theorem dX6_takeOut_45 : decode cX6_takeOut 45 = .ok (.getfield 37, 3) := by decide +kernel
theorem dX6_takeOut_48 : decode cX6_takeOut 48 = .ok (.iload_n 2, 1) := by decide +kernel
theorem dX6_takeOut_49 : decode cX6_takeOut 49 = .ok (.iconst 1, 1) := by decide +kernel
theorem dX6_takeOut_50 : decode cX6_takeOut 50 = .ok (.iadd, 1) := by decide +kernel
theorem dX6_takeOut_51 : decode cX6_takeOut 51 = .ok (.iaload, 1) := by decide +kernel
theorem dX6_takeOut_52 : decode cX6_takeOut 52 = .ok (.iastore, 1) := by decide +kernel
theorem dX6_takeOut_53 : decode cX6_takeOut 53 = .ok (.iinc 2 1, 3) := by decide +kernel
theorem dX6_takeOut_56 : decode cX6_takeOut 56 = .ok (.goto (-31), 3) := by decide +kernel
theorem dX6_takeOut_59 : decode cX6_takeOut 59 = .ok (.return_, 1) := by decide +kernel
theorem dX6_putIn_0 : decode cX6_putIn 0 = .ok (.iload_n 2, 1) := by decide +kernel
theorem dX6_putIn_1 : decode cX6_putIn 1 = .ok (.ifCond .lt 20, 3) := by decide +kernel
theorem dX6_putIn_4 : decode cX6_putIn 4 = .ok (.iload_n 2, 1) := by decide +kernel
theorem dX6_putIn_5 : decode cX6_putIn 5 = .ok (.aload_n 0, 1) := by decide +kernel
theorem dX6_putIn_6 : decode cX6_putIn 6 = .ok (.getfield 40, 3) := by decide +kernel
theorem dX6_putIn_9 : decode cX6_putIn 9 = .ok (.if_icmp .gt 12, 3) := by decide +kernel
theorem dX6_putIn_12 : decode cX6_putIn 12 = .ok (.aload_n 0, 1) := by decide +kernel
theorem dX6_putIn_13 : decode cX6_putIn 13 = .ok (.getfield 40, 3) := by decide +kernel
theorem dX6_putIn_16 : decode cX6_putIn 16 = .ok (.bipush 8, 2) := by decide +kernel
theorem dX6_putIn_18 : decode cX6_putIn 18 = .ok (.if_icmp .lt 4, 3) := by decide +kernel
theorem dX6_putIn_21 : decode cX6_putIn 21 = .ok (.return_, 1) := by decide +kernel
theorem dX6_putIn_22 : decode cX6_putIn 22 = .ok (.aload_n 0, 1) := by decide +kernel
theorem dX6_putIn_23 : decode cX6_putIn 23 = .ok (.getfield 40, 3) := by decide +kernel
theorem dX6_putIn_26 : decode cX6_putIn 26 = .ok (.istore_n 3, 1) := by decide +kernel
theorem dX6_putIn_27 : decode cX6_putIn 27 = .ok (.iload_n 3, 1) := by decide +kernel
theorem dX6_putIn_28 : decode cX6_putIn 28 = .ok (.iload_n 2, 1) := by decide +kernel
theorem dX6_putIn_29 : decode cX6_putIn 29 = .ok (.if_icmp .le 23, 3) := by decide +kernel
theorem dX6_putIn_32 : decode cX6_putIn 32 = .ok (.aload_n 0, 1) := by decide +kernel
theorem dX6_putIn_33 : decode cX6_putIn 33 = .ok (.getfield 37, 3) := by decide +kernel
theorem dX6_putIn_36 : decode cX6_putIn 36 = .ok (.iload_n 3, 1) := by decide +kernel
theorem dX6_putIn_37 : decode cX6_putIn 37 = .ok (.aload_n 0, 1) := by decide +kernel
theorem dX6_putIn_38 : decode cX6_putIn 38 = .ok (.getfield 37, 3) := by decide +kernel
theorem dX6_putIn_41 : decode cX6_putIn 41 = .ok (.iload_n 3, 1) := by decide +kernel
theorem dX6_putIn_42 : decode cX6_putIn 42 = .ok (.iconst 1, 1) := by decide +kernel
theorem dX6_putIn_43 : decode cX6_putIn 43 = .ok (.isub, 1) := by decide +kernel
theorem dX6_putIn_44 : decode cX6_putIn 44 = .ok (.iaload, 1) := by decide +kernel
theorem dX6_putIn_45 : decode cX6_putIn 45 = .ok (.iastore, 1) := by decide +kernel
theorem dX6_putIn_46 : decode cX6_putIn 46 = .ok (.iinc 3 (-1), 3) := by decide +kernel
theorem dX6_putIn_49 : decode cX6_putIn 49 = .ok (.goto (-22), 3) := by decide +kernel
theorem dX6_putIn_52 : decode cX6_putIn 52 = .ok (.aload_n 0, 1) := by decide +kernel
theorem dX6_putIn_53 : decode cX6_putIn 53 = .ok (.getfield 37, 3) := by decide +kernel
theorem dX6_putIn_56 : decode cX6_putIn 56 = .ok (.iload_n 2, 1) := by decide +kernel
theorem dX6_putIn_57 : decode cX6_putIn 57 = .ok (.iload_n 1, 1) := by decide +kernel
theorem dX6_putIn_58 : decode cX6_putIn 58 = .ok (.iastore, 1) := by decide +kernel
theorem dX6_putIn_59 : decode cX6_putIn 59 = .ok (.aload_n 0, 1) := by decide +kernel
theorem dX6_putIn_60 : decode cX6_putIn 60 = .ok (.getfield 18, 3) := by decide +kernel
theorem dX6_putIn_63 : decode cX6_putIn 63 = .ok (.iload_n 1, 1) := by decide +kernel
theorem dX6_putIn_64 : decode cX6_putIn 64 = .ok (.iconst 1, 1) := by decide +kernel
theorem dX6_putIn_65 : decode cX6_putIn 65 = .ok (.iastore, 1) := by decide +kernel
theorem dX6_putIn_66 : decode cX6_putIn 66 = .ok (.aload_n 0, 1) := by decide +kernel
theorem dX6_putIn_67 : decode cX6_putIn 67 = .ok (.dup, 1) := by decide +kernel
theorem dX6_putIn_68 : decode cX6_putIn 68 = .ok (.getfield 40, 3) := by decide +kernel
theorem dX6_putIn_71 : decode cX6_putIn 71 = .ok (.iconst 1, 1) := by decide +kernel
theorem dX6_putIn_72 : decode cX6_putIn 72 = .ok (.iadd, 1) := by decide +kernel
theorem dX6_putIn_73 : decode cX6_putIn 73 = .ok (.putfield 40, 3) := by decide +kernel
theorem dX6_putIn_76 : decode cX6_putIn 76 = .ok (.return_, 1) := by decide +kernel
theorem dX6_howMany_0 : decode cX6_howMany 0 = .ok (.iconst 0, 1) := by decide +kernel
theorem dX6_howMany_1 : decode cX6_howMany 1 = .ok (.istore_n 3, 1) := by decide +kernel
theorem dX6_howMany_2 : decode cX6_howMany 2 = .ok (.iconst 0, 1) := by decide +kernel
theorem dX6_howMany_3 : decode cX6_howMany 3 = .ok (.istore 4, 2) := by decide +kernel
theorem dX6_howMany_5 : decode cX6_howMany 5 = .ok (.iload 4, 2) := by decide +kernel
theorem dX6_howMany_7 : decode cX6_howMany 7 = .ok (.iload_n 2, 1) := by decide +kernel
theorem dX6_howMany_8 : decode cX6_howMany 8 = .ok (.if_icmp .ge 30, 3) := by decide +kernel
theorem dX6_howMany_11 : decode cX6_howMany 11 = .ok (.iload 4, 2) := by decide +kernel
theorem dX6_howMany_13 : decode cX6_howMany 13 = .ok (.bipush 8, 2) := by decide +kernel
theorem dX6_howMany_15 : decode cX6_howMany 15 = .ok (.if_icmp .ge 23, 3) := by decide +kernel
theorem dX6_howMany_18 : decode cX6_howMany 18 = .ok (.aload_n 0, 1) := by decide +kernel
theorem dX6_howMany_19 : decode cX6_howMany 19 = .ok (.getfield 18, 3) := by decide +kernel
theorem dX6_howMany_22 : decode cX6_howMany 22 = .ok (.iload 4, 2) := by decide +kernel
theorem dX6_howMany_24 : decode cX6_howMany 24 = .ok (.iaload, 1) := by decide +kernel
theorem dX6_howMany_25 : decode cX6_howMany 25 = .ok (.iload_n 1, 1) := by decide +kernel
theorem dX6_howMany_26 : decode cX6_howMany 26 = .ok (.if_icmp .ne 6, 3) := by decide +kernel
theorem dX6_howMany_29 : decode cX6_howMany 29 = .ok (.iinc 3 1, 3) := by decide +kernel
theorem dX6_howMany_32 : decode cX6_howMany 32 = .ok (.iinc 4 1, 3) := by decide +kernel
theorem dX6_howMany_35 : decode cX6_howMany 35 = .ok (.goto (-30), 3) := by decide +kernel
theorem dX6_howMany_38 : decode cX6_howMany 38 = .ok (.iload_n 3, 1) := by decide +kernel
theorem dX6_howMany_39 : decode cX6_howMany 39 = .ok (.ireturn, 1) := by decide +kernel
theorem dX7_init_0 : decode cX7_init 0 = .ok (.aload_n 0, 1) := by decide +kernel
theorem dX7_init_1 : decode cX7_init 1 = .ok (.invokespecial 3, 3) := by decide +kernel
theorem dX7_init_4 : decode cX7_init 4 = .ok (.aload_n 0, 1) := by decide +kernel
theorem dX7_init_5 : decode cX7_init 5 = .ok (.bipush 20, 2) := by decide +kernel
theorem dX7_init_7 : decode cX7_init 7 = .ok (.newarray .int, 2) := by decide +kernel
theorem dX7_init_9 : decode cX7_init 9 = .ok (.putfield 9, 3) := by decide +kernel
theorem dX7_init_12 : decode cX7_init 12 = .ok (.aload_n 0, 1) := by decide +kernel
theorem dX7_init_13 : decode cX7_init 13 = .ok (.iconst 0, 1) := by decide +kernel
theorem dX7_init_14 : decode cX7_init 14 = .ok (.putfield 15, 3) := by decide +kernel
theorem dX7_init_17 : decode cX7_init 17 = .ok (.aload_n 0, 1) := by decide +kernel
theorem dX7_init_18 : decode cX7_init 18 = .ok (.iconst 0, 1) := by decide +kernel
theorem dX7_init_19 : decode cX7_init 19 = .ok (.putfield 19, 3) := by decide +kernel
theorem dX7_init_22 : decode cX7_init 22 = .ok (.aload_n 0, 1) := by decide +kernel
theorem dX7_init_23 : decode cX7_init 23 = .ok (.bipush 35, 2) := by decide +kernel
theorem dX7_init_25 : decode cX7_init 25 = .ok (.putfield 22, 3) := by decide +kernel
theorem dX7_init_28 : decode cX7_init 28 = .ok (.aload_n 0, 1) := by decide +kernel
theorem dX7_init_29 : decode cX7_init 29 = .ok (.iconst 0, 1) := by decide +kernel
theorem dX7_init_30 : decode cX7_init 30 = .ok (.putfield 25, 3) := by decide +kernel
theorem dX7_init_33 : decode cX7_init 33 = .ok (.aload_n 0, 1) := by decide +kernel
theorem dX7_init_34 : decode cX7_init 34 = .ok (.iconst 0, 1) := by decide +kernel
theorem dX7_init_35 : decode cX7_init 35 = .ok (.putfield 28, 3) := by decide +kernel
theorem dX7_init_38 : decode cX7_init 38 = .ok (.aload_n 0, 1) := by decide +kernel
theorem dX7_init_39 : decode cX7_init 39 = .ok (.aload_n 1, 1) := by decide +kernel
theorem dX7_init_40 : decode cX7_init 40 = .ok (.putfield 31, 3) := by decide +kernel
theorem dX7_init_43 : decode cX7_init 43 = .ok (.iconst 0, 1) := by decide +kernel
theorem dX7_init_44 : decode cX7_init 44 = .ok (.istore_n 2, 1) := by decide +kernel
theorem dX7_init_45 : decode cX7_init 45 = .ok (.iconst 0, 1) := by decide +kernel
theorem dX7_init_46 : decode cX7_init 46 = .ok (.istore_n 3, 1) := by decide +kernel
theorem dX7_init_47 : decode cX7_init 47 = .ok (.iconst 0, 1) := by decide +kernel
theorem dX7_init_48 : decode cX7_init 48 = .ok (.istore 4, 2) := by decide +kernel
theorem dX7_init_50 : decode cX7_init 50 = .ok (.iload 4, 2) := by decide +kernel
theorem dX7_init_52 : decode cX7_init 52 = .ok (.ldc 35, 2) := by decide +kernel
theorem dX7_init_54 : decode cX7_init 54 = .ok (.invokevirtual 37, 3) := by decide +kernel
theorem dX7_init_57 : decode cX7_init 57 = .ok (.if_icmp .ge 65, 3) := by decide +kernel
theorem dX7_init_60 : decode cX7_init 60 = .ok (.iload_n 2, 1) := by decide +kernel
theorem dX7_init_61 : decode cX7_init 61 = .ok (.bipush 20, 2) := by decide +kernel
theorem dX7_init_63 : decode cX7_init 63 = .ok (.if_icmp .ge 59, 3) := by decide +kernel
theorem dX7_init_66 : decode cX7_init 66 = .ok (.ldc 35, 2) := by decide +kernel
theorem dX7_init_68 : decode cX7_init 68 = .ok (.iload 4, 2) := by decide +kernel
theorem dX7_init_70 : decode cX7_init 70 = .ok (.invokevirtual 42, 3) := by decide +kernel
theorem dX7_init_73 : decode cX7_init 73 = .ok (.bipush 32, 2) := by decide +kernel
theorem dX7_init_75 : decode cX7_init 75 = .ok (.if_icmp .ne 11, 3) := by decide +kernel
theorem dX7_init_78 : decode cX7_init 78 = .ok (.iinc 2 1, 3) := by decide +kernel
theorem dX7_init_81 : decode cX7_init 81 = .ok (.iconst 0, 1) := by decide +kernel
theorem dX7_init_82 : decode cX7_init 82 = .ok (.istore_n 3, 1) := by decide +kernel
theorem dX7_init_83 : decode cX7_init 83 = .ok (.goto 33, 3) := by decide +kernel
theorem dX7_init_86 : decode cX7_init 86 = .ok (.aload_n 0, 1) := by decide +kernel
theorem dX7_init_87 : decode cX7_init 87 = .ok (.getfield 9, 3) := by decide +kernel
theorem dX7_init_90 : decode cX7_init 90 = .ok (.iload_n 2, 1) := by decide +kernel
theorem dX7_init_91 : decode cX7_init 91 = .ok (.dup2, 1) := by decide +kernel
theorem dX7_init_92 : decode cX7_init 92 = .ok (.iaload, 1) := by decide +kernel
theorem dX7_init_93 : decode cX7_init 93 = .ok (.ldc 35, 2) := by decide +kernel
theorem dX7_init_95 : decode cX7_init 95 = .ok (.iload 4, 2) := by decide +kernel
theorem dX7_init_97 : decode cX7_init 97 = .ok (.invokevirtual 42, 3) := by decide +kernel
theorem dX7_init_100 : decode cX7_init 100 = .ok (.bipush 97, 2) := by decide +kernel
theorem dX7_init_102 : decode cX7_init 102 = .ok (.isub, 1) := by decide +kernel
theorem dX7_init_103 : decode cX7_init 103 = .ok (.iconst 1, 1) := by decide +kernel
theorem dX7_init_104 : decode cX7_init 104 = .ok (.iadd, 1) := by decide +kernel
theorem dX7_init_105 : decode cX7_init 105 = .ok (.iconst 5, 1) := by decide +kernel
theorem dX7_init_106 : decode cX7_init 106 = .ok (.iconst 5, 1) := by decide +kernel
theorem dX7_init_107 : decode cX7_init 107 = .ok (.iload_n 3, 1) := by decide +kernel
theorem dX7_init_108 : decode cX7_init 108 = .ok (.isub, 1) := by decide +kernel
theorem dX7_init_109 : decode cX7_init 109 = .ok (.imul, 1) := by decide +kernel
theorem dX7_init_110 : decode cX7_init 110 = .ok (.ishl, 1) := by decide +kernel
theorem dX7_init_111 : decode cX7_init 111 = .ok (.ior, 1) := by decide +kernel
theorem dX7_init_112 : decode cX7_init 112 = .ok (.iastore, 1) := by decide +kernel
theorem dX7_init_113 : decode cX7_init 113 = .ok (.iinc 3 1, 3) := by decide +kernel
theorem dX7_init_116 : decode cX7_init 116 = .ok (.iinc 4 1, 3) := by decide +kernel
theorem dX7_init_119 : decode cX7_init 119 = .ok (.goto (-69), 3) := by decide +kernel
theorem dX7_init_122 : decode cX7_init 122 = .ok (.return_, 1) := by decide +kernel
theorem dX7_start_0 : decode cX7_start 0 = .ok (.aload_n 0, 1) := by decide +kernel
theorem dX7_start_1 : decode cX7_start 1 = .ok (.iload_n 1, 1) := by decide +kernel
theorem dX7_start_2 : decode cX7_start 2 = .ok (.aload_n 0, 1) := by decide +kernel
theorem dX7_start_3 : decode cX7_start 3 = .ok (.getfield 31, 3) := by decide +kernel
theorem dX7_start_6 : decode cX7_start 6 = .ok (.arraylength, 1) := by decide +kernel
theorem dX7_start_7 : decode cX7_start 7 = .ok (.invokestatic 46, 3) := by decide +kernel
theorem dX7_start_10 : decode cX7_start 10 = .ok (.putfield 15, 3) := by decide +kernel
theorem dX7_start_13 : decode cX7_start 13 = .ok (.aload_n 0, 1) := by decide +kernel
theorem dX7_start_14 : decode cX7_start 14 = .ok (.iconst 0, 1) := by decide +kernel
theorem dX7_start_15 : decode cX7_start 15 = .ok (.putfield 19, 3) := by decide +kernel
theorem dX7_start_18 : decode cX7_start 18 = .ok (.aload_n 0, 1) := by decide +kernel
theorem dX7_start_19 : decode cX7_start 19 = .ok (.invokevirtual 52, 3) := by decide +kernel
theorem dX7_start_22 : decode cX7_start 22 = .ok (.return_, 1) := by decide +kernel
theorem dX7_advance_0 : decode cX7_advance 0 = .ok (.aload_n 0, 1) := by decide +kernel
theorem dX7_advance_1 : decode cX7_advance 1 = .ok (.getfield 19, 3) := by decide +kernel
theorem dX7_advance_4 : decode cX7_advance 4 = .ok (.aload_n 0, 1) := by decide +kernel
theorem dX7_advance_5 : decode cX7_advance 5 = .ok (.getfield 15, 3) := by decide +kernel
theorem dX7_advance_8 : decode cX7_advance 8 = .ok (.if_icmp .ge 44, 3) := by decide +kernel
theorem dX7_advance_11 : decode cX7_advance 11 = .ok (.aload_n 0, 1) := by decide +kernel
theorem dX7_advance_12 : decode cX7_advance 12 = .ok (.getfield 31, 3) := by decide +kernel
theorem dX7_advance_15 : decode cX7_advance 15 = .ok (.aload_n 0, 1) := by decide +kernel
theorem dX7_advance_16 : decode cX7_advance 16 = .ok (.getfield 19, 3) := by decide +kernel
theorem dX7_advance_19 : decode cX7_advance 19 = .ok (.baload, 1) := by decide +kernel
theorem dX7_advance_20 : decode cX7_advance 20 = .ok (.bipush 32, 2) := by decide +kernel
theorem dX7_advance_22 : decode cX7_advance 22 = .ok (.if_icmp .eq 17, 3) := by decide +kernel
theorem dX7_advance_25 : decode cX7_advance 25 = .ok (.aload_n 0, 1) := by decide +kernel
theorem dX7_advance_26 : decode cX7_advance 26 = .ok (.getfield 31, 3) := by decide +kernel
theorem dX7_advance_29 : decode cX7_advance 29 = .ok (.aload_n 0, 1) := by decide +kernel
theorem dX7_advance_30 : decode cX7_advance 30 = .ok (.getfield 19, 3) := by decide +kernel
theorem dX7_advance_33 : decode cX7_advance 33 = .ok (.baload, 1) := by decide +kernel
theorem dX7_advance_34 : decode cX7_advance 34 = .ok (.bipush 10, 2) := by decide +kernel
theorem dX7_advance_36 : decode cX7_advance 36 = .ok (.if_icmp .ne 16, 3) := by decide +kernel
theorem dX7_advance_39 : decode cX7_advance 39 = .ok (.aload_n 0, 1) := by decide +kernel
theorem dX7_advance_40 : decode cX7_advance 40 = .ok (.dup, 1) := by decide +kernel
theorem dX7_advance_41 : decode cX7_advance 41 = .ok (.getfield 19, 3) := by decide +kernel
theorem dX7_advance_44 : decode cX7_advance 44 = .ok (.iconst 1, 1) := by decide +kernel
theorem dX7_advance_45 : decode cX7_advance 45 = .ok (.iadd, 1) := by decide +kernel
theorem dX7_advance_46 : decode cX7_advance 46 = .ok (.putfield 19, 3) := by decide +kernel
theorem dX7_advance_49 : decode cX7_advance 49 = .ok (.goto (-49), 3) := by decide +kernel
theorem dX7_advance_52 : decode cX7_advance 52 = .ok (.aload_n 0, 1) := by decide +kernel
theorem dX7_advance_53 : decode cX7_advance 53 = .ok (.aload_n 0, 1) := by decide +kernel
theorem dX7_advance_54 : decode cX7_advance 54 = .ok (.getfield 19, 3) := by decide +kernel
theorem dX7_advance_57 : decode cX7_advance 57 = .ok (.putfield 25, 3) := by decide +kernel
theorem dX7_advance_60 : decode cX7_advance 60 = .ok (.aload_n 0, 1) := by decide +kernel
theorem dX7_advance_61 : decode cX7_advance 61 = .ok (.iconst 0, 1) := by decide +kernel
theorem dX7_advance_62 : decode cX7_advance 62 = .ok (.putfield 28, 3) := by decide +kernel
theorem dX7_advance_65 : decode cX7_advance 65 = .ok (.aload_n 0, 1) := by decide +kernel
theorem dX7_advance_66 : decode cX7_advance 66 = .ok (.getfield 19, 3) := by decide +kernel
theorem dX7_advance_69 : decode cX7_advance 69 = .ok (.aload_n 0, 1) := by decide +kernel
theorem dX7_advance_70 : decode cX7_advance 70 = .ok (.getfield 15, 3) := by decide +kernel
theorem dX7_advance_73 : decode cX7_advance 73 = .ok (.if_icmp .lt 12, 3) := by decide +kernel
theorem dX7_advance_76 : decode cX7_advance 76 = .ok (.aload_n 0, 1) := by decide +kernel
theorem dX7_advance_77 : decode cX7_advance 77 = .ok (.bipush 35, 2) := by decide +kernel
theorem dX7_advance_79 : decode cX7_advance 79 = .ok (.putfield 22, 3) := by decide +kernel
theorem dX7_advance_82 : decode cX7_advance 82 = .ok (.goto 77, 3) := by decide +kernel
theorem dX7_advance_85 : decode cX7_advance 85 = .ok (.aload_n 0, 1) := by decide +kernel
theorem dX7_advance_86 : decode cX7_advance 86 = .ok (.getfield 31, 3) := by decide +kernel
theorem dX7_advance_89 : decode cX7_advance 89 = .ok (.aload_n 0, 1) := by decide +kernel
theorem dX7_advance_90 : decode cX7_advance 90 = .ok (.getfield 19, 3) := by decide +kernel
theorem dX7_advance_93 : decode cX7_advance 93 = .ok (.baload, 1) := by decide +kernel
theorem dX7_advance_94 : decode cX7_advance 94 = .ok (.bipush 97, 2) := by decide +kernel
theorem dX7_advance_96 : decode cX7_advance 96 = .ok (.if_icmp .lt 24, 3) := by decide +kernel
theorem dX7_advance_99 : decode cX7_advance 99 = .ok (.aload_n 0, 1) := by decide +kernel
theorem dX7_advance_100 : decode cX7_advance 100 = .ok (.getfield 31, 3) := by decide +kernel
theorem dX7_advance_103 : decode cX7_advance 103 = .ok (.aload_n 0, 1) := by decide +kernel
theorem dX7_advance_104 : decode cX7_advance 104 = .ok (.getfield 19, 3) := by decide +kernel
theorem dX7_advance_107 : decode cX7_advance 107 = .ok (.baload, 1) := by decide +kernel
theorem dX7_advance_108 : decode cX7_advance 108 = .ok (.bipush 122, 2) := by decide +kernel
theorem dX7_advance_110 : decode cX7_advance 110 = .ok (.if_icmp .gt 10, 3) := by decide +kernel
theorem dX7_advance_113 : decode cX7_advance 113 = .ok (.aload_n 0, 1) := by decide +kernel
theorem dX7_advance_114 : decode cX7_advance 114 = .ok (.invokevirtual 55, 3) := by decide +kernel
theorem dX7_advance_117 : decode cX7_advance 117 = .ok (.goto 42, 3) := by decide +kernel
theorem dX7_advance_120 : decode cX7_advance 120 = .ok (.aload_n 0, 1) := by decide +kernel
theorem dX7_advance_121 : decode cX7_advance 121 = .ok (.getfield 31, 3) := by decide +kernel
theorem dX7_advance_124 : decode cX7_advance 124 = .ok (.aload_n 0, 1) := by decide +kernel
theorem dX7_advance_125 : decode cX7_advance 125 = .ok (.getfield 19, 3) := by decide +kernel
theorem dX7_advance_128 : decode cX7_advance 128 = .ok (.baload, 1) := by decide +kernel
theorem dX7_advance_129 : decode cX7_advance 129 = .ok (.bipush 48, 2) := by decide +kernel
theorem dX7_advance_131 : decode cX7_advance 131 = .ok (.if_icmp .lt 24, 3) := by decide +kernel
theorem dX7_advance_134 : decode cX7_advance 134 = .ok (.aload_n 0, 1) := by decide +kernel
theorem dX7_advance_135 : decode cX7_advance 135 = .ok (.getfield 31, 3) := by decide +kernel
theorem dX7_advance_138 : decode cX7_advance 138 = .ok (.aload_n 0, 1) := by decide +kernel
theorem dX7_advance_139 : decode cX7_advance 139 = .ok (.getfield 19, 3) := by decide +kernel
theorem dX7_advance_142 : decode cX7_advance 142 = .ok (.baload, 1) := by decide +kernel
theorem dX7_advance_143 : decode cX7_advance 143 = .ok (.bipush 57, 2) := by decide +kernel
theorem dX7_advance_145 : decode cX7_advance 145 = .ok (.if_icmp .gt 10, 3) := by decide +kernel
theorem dX7_advance_148 : decode cX7_advance 148 = .ok (.aload_n 0, 1) := by decide +kernel
theorem dX7_advance_149 : decode cX7_advance 149 = .ok (.invokevirtual 58, 3) := by decide +kernel
theorem dX7_advance_152 : decode cX7_advance 152 = .ok (.goto 7, 3) := by decide +kernel
theorem dX7_advance_155 : decode cX7_advance 155 = .ok (.aload_n 0, 1) := by decide +kernel
theorem dX7_advance_156 : decode cX7_advance 156 = .ok (.invokevirtual 61, 3) := by decide +kernel
theorem dX7_advance_159 : decode cX7_advance 159 = .ok (.return_, 1) := by decide +kernel
theorem dX7_readWord_0 : decode cX7_readWord 0 = .ok (.iconst 0, 1) := by decide +kernel
theorem dX7_readWord_1 : decode cX7_readWord 1 = .ok (.istore_n 1, 1) := by decide +kernel
theorem dX7_readWord_2 : decode cX7_readWord 2 = .ok (.aload_n 0, 1) := by decide +kernel
theorem dX7_readWord_3 : decode cX7_readWord 3 = .ok (.getfield 19, 3) := by decide +kernel
theorem dX7_readWord_6 : decode cX7_readWord 6 = .ok (.aload_n 0, 1) := by decide +kernel
theorem dX7_readWord_7 : decode cX7_readWord 7 = .ok (.getfield 15, 3) := by decide +kernel
theorem dX7_readWord_10 : decode cX7_readWord 10 = .ok (.if_icmp .ge 82, 3) := by decide +kernel
theorem dX7_readWord_13 : decode cX7_readWord 13 = .ok (.aload_n 0, 1) := by decide +kernel
theorem dX7_readWord_14 : decode cX7_readWord 14 = .ok (.getfield 31, 3) := by decide +kernel
theorem dX7_readWord_17 : decode cX7_readWord 17 = .ok (.aload_n 0, 1) := by decide +kernel
theorem dX7_readWord_18 : decode cX7_readWord 18 = .ok (.getfield 19, 3) := by decide +kernel
theorem dX7_readWord_21 : decode cX7_readWord 21 = .ok (.baload, 1) := by decide +kernel
theorem dX7_readWord_22 : decode cX7_readWord 22 = .ok (.bipush 97, 2) := by decide +kernel
theorem dX7_readWord_24 : decode cX7_readWord 24 = .ok (.if_icmp .lt 68, 3) := by decide +kernel
theorem dX7_readWord_27 : decode cX7_readWord 27 = .ok (.aload_n 0, 1) := by decide +kernel
theorem dX7_readWord_28 : decode cX7_readWord 28 = .ok (.getfield 31, 3) := by decide +kernel
theorem dX7_readWord_31 : decode cX7_readWord 31 = .ok (.aload_n 0, 1) := by decide +kernel
theorem dX7_readWord_32 : decode cX7_readWord 32 = .ok (.getfield 19, 3) := by decide +kernel
theorem dX7_readWord_35 : decode cX7_readWord 35 = .ok (.baload, 1) := by decide +kernel
theorem dX7_readWord_36 : decode cX7_readWord 36 = .ok (.bipush 122, 2) := by decide +kernel
theorem dX7_readWord_38 : decode cX7_readWord 38 = .ok (.if_icmp .gt 54, 3) := by decide +kernel
theorem dX7_readWord_41 : decode cX7_readWord 41 = .ok (.iload_n 1, 1) := by decide +kernel
theorem dX7_readWord_42 : decode cX7_readWord 42 = .ok (.bipush 6, 2) := by decide +kernel
theorem dX7_readWord_44 : decode cX7_readWord 44 = .ok (.if_icmp .ge 32, 3) := by decide +kernel
theorem dX7_readWord_47 : decode cX7_readWord 47 = .ok (.aload_n 0, 1) := by decide +kernel
theorem dX7_readWord_48 : decode cX7_readWord 48 = .ok (.dup, 1) := by decide +kernel
theorem dX7_readWord_49 : decode cX7_readWord 49 = .ok (.getfield 28, 3) := by decide +kernel
theorem dX7_readWord_52 : decode cX7_readWord 52 = .ok (.aload_n 0, 1) := by decide +kernel
theorem dX7_readWord_53 : decode cX7_readWord 53 = .ok (.getfield 31, 3) := by decide +kernel
theorem dX7_readWord_56 : decode cX7_readWord 56 = .ok (.aload_n 0, 1) := by decide +kernel
theorem dX7_readWord_57 : decode cX7_readWord 57 = .ok (.getfield 19, 3) := by decide +kernel
theorem dX7_readWord_60 : decode cX7_readWord 60 = .ok (.baload, 1) := by decide +kernel
theorem dX7_readWord_61 : decode cX7_readWord 61 = .ok (.bipush 97, 2) := by decide +kernel
theorem dX7_readWord_63 : decode cX7_readWord 63 = .ok (.isub, 1) := by decide +kernel
theorem dX7_readWord_64 : decode cX7_readWord 64 = .ok (.iconst 1, 1) := by decide +kernel
theorem dX7_readWord_65 : decode cX7_readWord 65 = .ok (.iadd, 1) := by decide +kernel
theorem dX7_readWord_66 : decode cX7_readWord 66 = .ok (.iconst 5, 1) := by decide +kernel
theorem dX7_readWord_67 : decode cX7_readWord 67 = .ok (.iconst 5, 1) := by decide +kernel
theorem dX7_readWord_68 : decode cX7_readWord 68 = .ok (.iload_n 1, 1) := by decide +kernel
theorem dX7_readWord_69 : decode cX7_readWord 69 = .ok (.isub, 1) := by decide +kernel
theorem dX7_readWord_70 : decode cX7_readWord 70 = .ok (.imul, 1) := by decide +kernel
theorem dX7_readWord_71 : decode cX7_readWord 71 = .ok (.ishl, 1) := by decide +kernel
theorem dX7_readWord_72 : decode cX7_readWord 72 = .ok (.ior, 1) := by decide +kernel
theorem dX7_readWord_73 : decode cX7_readWord 73 = .ok (.putfield 28, 3) := by decide +kernel
theorem dX7_readWord_76 : decode cX7_readWord 76 = .ok (.iinc 1 1, 3) := by decide +kernel
theorem dX7_readWord_79 : decode cX7_readWord 79 = .ok (.aload_n 0, 1) := by decide +kernel
theorem dX7_readWord_80 : decode cX7_readWord 80 = .ok (.dup, 1) := by decide +kernel
theorem dX7_readWord_81 : decode cX7_readWord 81 = .ok (.getfield 19, 3) := by decide +kernel
theorem dX7_readWord_84 : decode cX7_readWord 84 = .ok (.iconst 1, 1) := by decide +kernel
theorem dX7_readWord_85 : decode cX7_readWord 85 = .ok (.iadd, 1) := by decide +kernel
theorem dX7_readWord_86 : decode cX7_readWord 86 = .ok (.putfield 19, 3) := by decide +kernel
theorem dX7_readWord_89 : decode cX7_readWord 89 = .ok (.goto (-87), 3) := by decide +kernel
theorem dX7_readWord_92 : decode cX7_readWord 92 = .ok (.iload_n 1, 1) := by decide +kernel
theorem dX7_readWord_93 : decode cX7_readWord 93 = .ok (.bipush 6, 2) := by decide +kernel
theorem dX7_readWord_95 : decode cX7_readWord 95 = .ok (.if_icmp .le 10, 3) := by decide +kernel
theorem dX7_readWord_98 : decode cX7_readWord 98 = .ok (.aload_n 0, 1) := by decide +kernel
theorem dX7_readWord_99 : decode cX7_readWord 99 = .ok (.bipush 36, 2) := by decide +kernel
theorem dX7_readWord_101 : decode cX7_readWord 101 = .ok (.putfield 22, 3) := by decide +kernel
theorem dX7_readWord_104 : decode cX7_readWord 104 = .ok (.return_, 1) := by decide +kernel
theorem dX7_readWord_105 : decode cX7_readWord 105 = .ok (.aload_n 0, 1) := by decide +kernel
theorem dX7_readWord_106 : decode cX7_readWord 106 = .ok (.getfield 9, 3) := by decide +kernel
theorem dX7_readWord_109 : decode cX7_readWord 109 = .ok (.bipush 20, 2) := by decide +kernel
theorem dX7_readWord_111 : decode cX7_readWord 111 = .ok (.aload_n 0, 1) := by decide +kernel
theorem dX7_readWord_112 : decode cX7_readWord 112 = .ok (.getfield 28, 3) := by decide +kernel
theorem dX7_readWord_115 : decode cX7_readWord 115 = .ok (.invokestatic 64, 3) := by decide +kernel
theorem dX7_readWord_118 : decode cX7_readWord 118 = .ok (.istore_n 2, 1) := by decide +kernel
theorem dX7_readWord_119 : decode cX7_readWord 119 = .ok (.aload_n 0, 1) := by decide +kernel
theorem dX7_readWord_120 : decode cX7_readWord 120 = .ok (.iload_n 2, 1) := by decide +kernel
theorem dX7_readWord_121 : decode cX7_readWord 121 = .ok (.iconst (-1), 1) := by decide +kernel
theorem dX7_readWord_122 : decode cX7_readWord 122 = .ok (.if_icmp .ne 8, 3) := by decide +kernel
theorem dX7_readWord_125 : decode cX7_readWord 125 = .ok (.bipush 20, 2) := by decide +kernel
theorem dX7_readWord_127 : decode cX7_readWord 127 = .ok (.goto 4, 3) := by decide +kernel
theorem dX7_readWord_130 : decode cX7_readWord 130 = .ok (.iload_n 2, 1) := by decide +kernel
theorem dX7_readWord_131 : decode cX7_readWord 131 = .ok (.putfield 22, 3) := by decide +kernel
theorem dX7_readWord_134 : decode cX7_readWord 134 = .ok (.return_, 1) := by decide +kernel
theorem dX7_readNumber_0 : decode cX7_readNumber 0 = .ok (.aload_n 0, 1) := by decide +kernel
theorem dX7_readNumber_1 : decode cX7_readNumber 1 = .ok (.bipush 21, 2) := by decide +kernel
theorem dX7_readNumber_3 : decode cX7_readNumber 3 = .ok (.putfield 22, 3) := by decide +kernel
theorem dX7_readNumber_6 : decode cX7_readNumber 6 = .ok (.aload_n 0, 1) := by decide +kernel
theorem dX7_readNumber_7 : decode cX7_readNumber 7 = .ok (.getfield 19, 3) := by decide +kernel
theorem dX7_readNumber_10 : decode cX7_readNumber 10 = .ok (.aload_n 0, 1) := by decide +kernel
theorem dX7_readNumber_11 : decode cX7_readNumber 11 = .ok (.getfield 15, 3) := by decide +kernel
theorem dX7_readNumber_14 : decode cX7_readNumber 14 = .ok (.if_icmp .ge 73, 3) := by decide +kernel
theorem dX7_readNumber_17 : decode cX7_readNumber 17 = .ok (.aload_n 0, 1) := by decide +kernel
theorem dX7_readNumber_18 : decode cX7_readNumber 18 = .ok (.getfield 31, 3) := by decide +kernel
theorem dX7_readNumber_21 : decode cX7_readNumber 21 = .ok (.aload_n 0, 1) := by decide +kernel
theorem dX7_readNumber_22 : decode cX7_readNumber 22 = .ok (.getfield 19, 3) := by decide +kernel
theorem dX7_readNumber_25 : decode cX7_readNumber 25 = .ok (.baload, 1) := by decide +kernel
theorem dX7_readNumber_26 : decode cX7_readNumber 26 = .ok (.bipush 48, 2) := by decide +kernel
theorem dX7_readNumber_28 : decode cX7_readNumber 28 = .ok (.if_icmp .lt 59, 3) := by decide +kernel
theorem dX7_readNumber_31 : decode cX7_readNumber 31 = .ok (.aload_n 0, 1) := by decide +kernel
theorem dX7_readNumber_32 : decode cX7_readNumber 32 = .ok (.getfield 31, 3) := by decide +kernel
theorem dX7_readNumber_35 : decode cX7_readNumber 35 = .ok (.aload_n 0, 1) := by decide +kernel
theorem dX7_readNumber_36 : decode cX7_readNumber 36 = .ok (.getfield 19, 3) := by decide +kernel
theorem dX7_readNumber_39 : decode cX7_readNumber 39 = .ok (.baload, 1) := by decide +kernel
theorem dX7_readNumber_40 : decode cX7_readNumber 40 = .ok (.bipush 57, 2) := by decide +kernel
theorem dX7_readNumber_42 : decode cX7_readNumber 42 = .ok (.if_icmp .gt 45, 3) := by decide +kernel
theorem dX7_readNumber_45 : decode cX7_readNumber 45 = .ok (.aload_n 0, 1) := by decide +kernel
theorem dX7_readNumber_46 : decode cX7_readNumber 46 = .ok (.aload_n 0, 1) := by decide +kernel
theorem dX7_readNumber_47 : decode cX7_readNumber 47 = .ok (.getfield 28, 3) := by decide +kernel
theorem dX7_readNumber_50 : decode cX7_readNumber 50 = .ok (.bipush 10, 2) := by decide +kernel
theorem dX7_readNumber_52 : decode cX7_readNumber 52 = .ok (.imul, 1) := by decide +kernel
theorem dX7_readNumber_53 : decode cX7_readNumber 53 = .ok (.aload_n 0, 1) := by decide +kernel
theorem dX7_readNumber_54 : decode cX7_readNumber 54 = .ok (.getfield 31, 3) := by decide +kernel
theorem dX7_readNumber_57 : decode cX7_readNumber 57 = .ok (.aload_n 0, 1) := by decide +kernel
theorem dX7_readNumber_58 : decode cX7_readNumber 58 = .ok (.getfield 19, 3) := by decide +kernel
theorem dX7_readNumber_61 : decode cX7_readNumber 61 = .ok (.baload, 1) := by decide +kernel
theorem dX7_readNumber_62 : decode cX7_readNumber 62 = .ok (.iadd, 1) := by decide +kernel
theorem dX7_readNumber_63 : decode cX7_readNumber 63 = .ok (.bipush 48, 2) := by decide +kernel
theorem dX7_readNumber_65 : decode cX7_readNumber 65 = .ok (.isub, 1) := by decide +kernel
theorem dX7_readNumber_66 : decode cX7_readNumber 66 = .ok (.ldc 68, 2) := by decide +kernel
theorem dX7_readNumber_68 : decode cX7_readNumber 68 = .ok (.invokestatic 46, 3) := by decide +kernel
theorem dX7_readNumber_71 : decode cX7_readNumber 71 = .ok (.putfield 28, 3) := by decide +kernel
theorem dX7_readNumber_74 : decode cX7_readNumber 74 = .ok (.aload_n 0, 1) := by decide +kernel
theorem dX7_readNumber_75 : decode cX7_readNumber 75 = .ok (.dup, 1) := by decide +kernel
theorem dX7_readNumber_76 : decode cX7_readNumber 76 = .ok (.getfield 19, 3) := by decide +kernel
theorem dX7_readNumber_79 : decode cX7_readNumber 79 = .ok (.iconst 1, 1) := by decide +kernel
theorem dX7_readNumber_80 : decode cX7_readNumber 80 = .ok (.iadd, 1) := by decide +kernel
theorem dX7_readNumber_81 : decode cX7_readNumber 81 = .ok (.putfield 19, 3) := by decide +kernel
theorem dX7_readNumber_84 : decode cX7_readNumber 84 = .ok (.goto (-78), 3) := by decide +kernel
theorem dX7_readNumber_87 : decode cX7_readNumber 87 = .ok (.return_, 1) := by decide +kernel
theorem dX7_readSign_0 : decode cX7_readSign 0 = .ok (.aload_n 0, 1) := by decide +kernel
theorem dX7_readSign_1 : decode cX7_readSign 1 = .ok (.getfield 31, 3) := by decide +kernel
theorem dX7_readSign_4 : decode cX7_readSign 4 = .ok (.aload_n 0, 1) := by decide +kernel
theorem dX7_readSign_5 : decode cX7_readSign 5 = .ok (.getfield 19, 3) := by decide +kernel
theorem dX7_readSign_8 : decode cX7_readSign 8 = .ok (.baload, 1) := by decide +kernel
theorem dX7_readSign_9 : decode cX7_readSign 9 = .ok (.istore_n 1, 1) := by decide +kernel
theorem dX7_readSign_10 : decode cX7_readSign 10 = .ok (.aload_n 0, 1) := by decide +kernel
theorem dX7_readSign_11 : decode cX7_readSign 11 = .ok (.dup, 1) := by decide +kernel
theorem dX7_readSign_12 : decode cX7_readSign 12 = .ok (.getfield 19, 3) := by decide +kernel
theorem dX7_readSign_15 : decode cX7_readSign 15 = .ok (.iconst 1, 1) := by decide +kernel
theorem dX7_readSign_16 : decode cX7_readSign 16 = .ok (.iadd, 1) := by decide +kernel
theorem dX7_readSign_17 : decode cX7_readSign 17 = .ok (.putfield 19, 3) := by decide +kernel
theorem dX7_readSign_20 : decode cX7_readSign 20 = .ok (.aload_n 0, 1) := by decide +kernel
theorem dX7_readSign_21 : decode cX7_readSign 21 = .ok (.getfield 19, 3) := by decide +kernel
theorem dX7_readSign_24 : decode cX7_readSign 24 = .ok (.aload_n 0, 1) := by decide +kernel
theorem dX7_readSign_25 : decode cX7_readSign 25 = .ok (.getfield 15, 3) := by decide +kernel
theorem dX7_readSign_28 : decode cX7_readSign 28 = .ok (.if_icmp .ge 15, 3) := by decide +kernel
theorem dX7_readSign_31 : decode cX7_readSign 31 = .ok (.aload_n 0, 1) := by decide +kernel
theorem dX7_readSign_32 : decode cX7_readSign 32 = .ok (.getfield 31, 3) := by decide +kernel
theorem dX7_readSign_35 : decode cX7_readSign 35 = .ok (.aload_n 0, 1) := by decide +kernel
theorem dX7_readSign_36 : decode cX7_readSign 36 = .ok (.getfield 19, 3) := by decide +kernel
theorem dX7_readSign_39 : decode cX7_readSign 39 = .ok (.baload, 1) := by decide +kernel
theorem dX7_readSign_40 : decode cX7_readSign 40 = .ok (.goto 4, 3) := by decide +kernel
theorem dX7_readSign_43 : decode cX7_readSign 43 = .ok (.iconst 0, 1) := by decide +kernel
theorem dX7_readSign_44 : decode cX7_readSign 44 = .ok (.istore_n 2, 1) := by decide +kernel
theorem dX7_readSign_45 : decode cX7_readSign 45 = .ok (.iload_n 1, 1) := by decide +kernel
theorem dX7_readSign_46 : decode cX7_readSign 46 = .ok (.tableswitch 229 40 62 #[115, 124, 151, 133, 229, 142, 229, 160, 229, 229, 229, 229, 229, 229, 229, 229, 229, 229, 229, 106, 178, 169, 209], 106) := by decide +kernel
theorem dX7_readSign_152 : decode cX7_readSign 152 = .ok (.aload_n 0, 1) := by decide +kernel
theorem dX7_readSign_153 : decode cX7_readSign 153 = .ok (.bipush 22, 2) := by decide +kernel
theorem dX7_readSign_155 : decode cX7_readSign 155 = .ok (.putfield 22, 3) := by decide +kernel
theorem dX7_readSign_158 : decode cX7_readSign 158 = .ok (.goto 123, 3) := by decide +kernel
theorem dX7_readSign_161 : decode cX7_readSign 161 = .ok (.aload_n 0, 1) := by decide +kernel
theorem dX7_readSign_162 : decode cX7_readSign 162 = .ok (.bipush 23, 2) := by decide +kernel
theorem dX7_readSign_164 : decode cX7_readSign 164 = .ok (.putfield 22, 3) := by decide +kernel
theorem dX7_readSign_167 : decode cX7_readSign 167 = .ok (.goto 114, 3) := by decide +kernel
theorem dX7_readSign_170 : decode cX7_readSign 170 = .ok (.aload_n 0, 1) := by decide +kernel
theorem dX7_readSign_171 : decode cX7_readSign 171 = .ok (.bipush 24, 2) := by decide +kernel
theorem dX7_readSign_173 : decode cX7_readSign 173 = .ok (.putfield 22, 3) := by decide +kernel
theorem dX7_readSign_176 : decode cX7_readSign 176 = .ok (.goto 105, 3) := by decide +kernel
theorem dX7_readSign_179 : decode cX7_readSign 179 = .ok (.aload_n 0, 1) := by decide +kernel
theorem dX7_readSign_180 : decode cX7_readSign 180 = .ok (.bipush 25, 2) := by decide +kernel
theorem dX7_readSign_182 : decode cX7_readSign 182 = .ok (.putfield 22, 3) := by decide +kernel
theorem dX7_readSign_185 : decode cX7_readSign 185 = .ok (.goto 96, 3) := by decide +kernel
theorem dX7_readSign_188 : decode cX7_readSign 188 = .ok (.aload_n 0, 1) := by decide +kernel
theorem dX7_readSign_189 : decode cX7_readSign 189 = .ok (.bipush 26, 2) := by decide +kernel
theorem dX7_readSign_191 : decode cX7_readSign 191 = .ok (.putfield 22, 3) := by decide +kernel
theorem dX7_readSign_194 : decode cX7_readSign 194 = .ok (.goto 87, 3) := by decide +kernel
theorem dX7_readSign_197 : decode cX7_readSign 197 = .ok (.aload_n 0, 1) := by decide +kernel
theorem dX7_readSign_198 : decode cX7_readSign 198 = .ok (.bipush 27, 2) := by decide +kernel
theorem dX7_readSign_200 : decode cX7_readSign 200 = .ok (.putfield 22, 3) := by decide +kernel
theorem dX7_readSign_203 : decode cX7_readSign 203 = .ok (.goto 78, 3) := by decide +kernel
theorem dX7_readSign_206 : decode cX7_readSign 206 = .ok (.aload_n 0, 1) := by decide +kernel
theorem dX7_readSign_207 : decode cX7_readSign 207 = .ok (.bipush 28, 2) := by decide +kernel
theorem dX7_readSign_209 : decode cX7_readSign 209 = .ok (.putfield 22, 3) := by decide +kernel
theorem dX7_readSign_212 : decode cX7_readSign 212 = .ok (.goto 69, 3) := by decide +kernel
theorem dX7_readSign_215 : decode cX7_readSign 215 = .ok (.aload_n 0, 1) := by decide +kernel
theorem dX7_readSign_216 : decode cX7_readSign 216 = .ok (.bipush 31, 2) := by decide +kernel
theorem dX7_readSign_218 : decode cX7_readSign 218 = .ok (.putfield 22, 3) := by decide +kernel
theorem dX7_readSign_221 : decode cX7_readSign 221 = .ok (.goto 60, 3) := by decide +kernel
theorem dX7_readSign_224 : decode cX7_readSign 224 = .ok (.aload_n 0, 1) := by decide +kernel
theorem dX7_readSign_225 : decode cX7_readSign 225 = .ok (.iload_n 2, 1) := by decide +kernel
theorem dX7_readSign_226 : decode cX7_readSign 226 = .ok (.bipush 61, 2) := by decide +kernel
theorem dX7_readSign_228 : decode cX7_readSign 228 = .ok (.if_icmp .ne 8, 3) := by decide +kernel
theorem dX7_readSign_231 : decode cX7_readSign 231 = .ok (.bipush 30, 2) := by decide +kernel
theorem dX7_readSign_233 : decode cX7_readSign 233 = .ok (.goto 16, 3) := by decide +kernel
theorem dX7_readSign_236 : decode cX7_readSign 236 = .ok (.iload_n 2, 1) := by decide +kernel
theorem dX7_readSign_237 : decode cX7_readSign 237 = .ok (.bipush 62, 2) := by decide +kernel
theorem dX7_readSign_239 : decode cX7_readSign 239 = .ok (.if_icmp .ne 8, 3) := by decide +kernel
theorem dX7_readSign_242 : decode cX7_readSign 242 = .ok (.bipush 32, 2) := by decide +kernel
theorem dX7_readSign_244 : decode cX7_readSign 244 = .ok (.goto 5, 3) := by decide +kernel
theorem dX7_readSign_247 : decode cX7_readSign 247 = .ok (.bipush 29, 2) := by decide +kernel
theorem dX7_readSign_249 : decode cX7_readSign 249 = .ok (.putfield 22, 3) := by decide +kernel
theorem dX7_readSign_252 : decode cX7_readSign 252 = .ok (.goto 29, 3) := by decide +kernel
theorem dX7_readSign_255 : decode cX7_readSign 255 = .ok (.aload_n 0, 1) := by decide +kernel
theorem dX7_readSign_256 : decode cX7_readSign 256 = .ok (.iload_n 2, 1) := by decide +kernel
theorem dX7_readSign_257 : decode cX7_readSign 257 = .ok (.bipush 61, 2) := by decide +kernel
theorem dX7_readSign_259 : decode cX7_readSign 259 = .ok (.if_icmp .ne 8, 3) := by decide +kernel
theorem dX7_readSign_262 : decode cX7_readSign 262 = .ok (.bipush 33, 2) := by decide +kernel
theorem dX7_readSign_264 : decode cX7_readSign 264 = .ok (.goto 5, 3) := by decide +kernel
theorem dX7_readSign_267 : decode cX7_readSign 267 = .ok (.bipush 34, 2) := by decide +kernel
theorem dX7_readSign_269 : decode cX7_readSign 269 = .ok (.putfield 22, 3) := by decide +kernel
theorem dX7_readSign_272 : decode cX7_readSign 272 = .ok (.goto 9, 3) := by decide +kernel
theorem dX7_readSign_275 : decode cX7_readSign 275 = .ok (.aload_n 0, 1) := by decide +kernel
theorem dX7_readSign_276 : decode cX7_readSign 276 = .ok (.bipush 36, 2) := by decide +kernel
theorem dX7_readSign_278 : decode cX7_readSign 278 = .ok (.putfield 22, 3) := by decide +kernel
theorem dX7_readSign_281 : decode cX7_readSign 281 = .ok (.aload_n 0, 1) := by decide +kernel
theorem dX7_readSign_282 : decode cX7_readSign 282 = .ok (.getfield 22, 3) := by decide +kernel
theorem dX7_readSign_285 : decode cX7_readSign 285 = .ok (.bipush 30, 2) := by decide +kernel
theorem dX7_readSign_287 : decode cX7_readSign 287 = .ok (.if_icmp .eq 21, 3) := by decide +kernel
theorem dX7_readSign_290 : decode cX7_readSign 290 = .ok (.aload_n 0, 1) := by decide +kernel
theorem dX7_readSign_291 : decode cX7_readSign 291 = .ok (.getfield 22, 3) := by decide +kernel
theorem dX7_readSign_294 : decode cX7_readSign 294 = .ok (.bipush 32, 2) := by decide +kernel
theorem dX7_readSign_296 : decode cX7_readSign 296 = .ok (.if_icmp .eq 12, 3) := by decide +kernel
theorem dX7_readSign_299 : decode cX7_readSign 299 = .ok (.aload_n 0, 1) := by decide +kernel
theorem dX7_readSign_300 : decode cX7_readSign 300 = .ok (.getfield 22, 3) := by decide +kernel
theorem dX7_readSign_303 : decode cX7_readSign 303 = .ok (.bipush 33, 2) := by decide +kernel
theorem dX7_readSign_305 : decode cX7_readSign 305 = .ok (.if_icmp .ne 13, 3) := by decide +kernel
theorem dX7_readSign_308 : decode cX7_readSign 308 = .ok (.aload_n 0, 1) := by decide +kernel
theorem dX7_readSign_309 : decode cX7_readSign 309 = .ok (.dup, 1) := by decide +kernel
theorem dX7_readSign_310 : decode cX7_readSign 310 = .ok (.getfield 19, 3) := by decide +kernel
theorem dX7_readSign_313 : decode cX7_readSign 313 = .ok (.iconst 1, 1) := by decide +kernel
theorem dX7_readSign_314 : decode cX7_readSign 314 = .ok (.iadd, 1) := by decide +kernel
theorem dX7_readSign_315 : decode cX7_readSign 315 = .ok (.putfield 19, 3) := by decide +kernel
theorem dX7_readSign_318 : decode cX7_readSign 318 = .ok (.return_, 1) := by decide +kernel
theorem dX8_init_0 : decode cX8_init 0 = .ok (.aload_n 0, 1) := by decide +kernel
theorem dX8_init_1 : decode cX8_init 1 = .ok (.invokespecial 3, 3) := by decide +kernel
theorem dX8_init_4 : decode cX8_init 4 = .ok (.aload_n 0, 1) := by decide +kernel
theorem dX8_init_5 : decode cX8_init 5 = .ok (.iconst 0, 1) := by decide +kernel
theorem dX8_init_6 : decode cX8_init 6 = .ok (.putfield 9, 3) := by decide +kernel
theorem dX8_init_9 : decode cX8_init 9 = .ok (.aload_n 0, 1) := by decide +kernel
theorem dX8_init_10 : decode cX8_init 10 = .ok (.bipush 8, 2) := by decide +kernel
theorem dX8_init_12 : decode cX8_init 12 = .ok (.newarray .int, 2) := by decide +kernel
theorem dX8_init_14 : decode cX8_init 14 = .ok (.putfield 15, 3) := by decide +kernel
theorem dX8_init_17 : decode cX8_init 17 = .ok (.aload_n 0, 1) := by decide +kernel
theorem dX8_init_18 : decode cX8_init 18 = .ok (.bipush 8, 2) := by decide +kernel
theorem dX8_init_20 : decode cX8_init 20 = .ok (.newarray .int, 2) := by decide +kernel
theorem dX8_init_22 : decode cX8_init 22 = .ok (.putfield 19, 3) := by decide +kernel
theorem dX8_init_25 : decode cX8_init 25 = .ok (.aload_n 0, 1) := by decide +kernel
theorem dX8_init_26 : decode cX8_init 26 = .ok (.bipush 8, 2) := by decide +kernel
theorem dX8_init_28 : decode cX8_init 28 = .ok (.newarray .int, 2) := by decide +kernel
theorem dX8_init_30 : decode cX8_init 30 = .ok (.putfield 22, 3) := by decide +kernel
theorem dX8_init_33 : decode cX8_init 33 = .ok (.aload_n 0, 1) := by decide +kernel
theorem dX8_init_34 : decode cX8_init 34 = .ok (.bipush 8, 2) := by decide +kernel
theorem dX8_init_36 : decode cX8_init 36 = .ok (.newarray .int, 2) := by decide +kernel
theorem dX8_init_38 : decode cX8_init 38 = .ok (.putfield 25, 3) := by decide +kernel
theorem dX8_init_41 : decode cX8_init 41 = .ok (.aload_n 0, 1) := by decide +kernel
theorem dX8_init_42 : decode cX8_init 42 = .ok (.bipush 8, 2) := by decide +kernel
theorem dX8_init_44 : decode cX8_init 44 = .ok (.newarray .int, 2) := by decide +kernel
theorem dX8_init_46 : decode cX8_init 46 = .ok (.putfield 28, 3) := by decide +kernel
theorem dX8_init_49 : decode cX8_init 49 = .ok (.aload_n 0, 1) := by decide +kernel
theorem dX8_init_50 : decode cX8_init 50 = .ok (.iconst 0, 1) := by decide +kernel
theorem dX8_init_51 : decode cX8_init 51 = .ok (.putfield 31, 3) := by decide +kernel
theorem dX8_init_54 : decode cX8_init 54 = .ok (.aload_n 0, 1) := by decide +kernel
theorem dX8_init_55 : decode cX8_init 55 = .ok (.iconst 0, 1) := by decide +kernel
theorem dX8_init_56 : decode cX8_init 56 = .ok (.putfield 34, 3) := by decide +kernel
theorem dX8_init_59 : decode cX8_init 59 = .ok (.aload_n 0, 1) := by decide +kernel
theorem dX8_init_60 : decode cX8_init 60 = .ok (.iconst 4, 1) := by decide +kernel
theorem dX8_init_61 : decode cX8_init 61 = .ok (.newarray .int, 2) := by decide +kernel
theorem dX8_init_63 : decode cX8_init 63 = .ok (.putfield 37, 3) := by decide +kernel
theorem dX8_init_66 : decode cX8_init 66 = .ok (.aload_n 0, 1) := by decide +kernel
theorem dX8_init_67 : decode cX8_init 67 = .ok (.iconst 4, 1) := by decide +kernel
theorem dX8_init_68 : decode cX8_init 68 = .ok (.newarray .int, 2) := by decide +kernel
theorem dX8_init_70 : decode cX8_init 70 = .ok (.putfield 40, 3) := by decide +kernel
theorem dX8_init_73 : decode cX8_init 73 = .ok (.aload_n 0, 1) := by decide +kernel
theorem dX8_init_74 : decode cX8_init 74 = .ok (.iconst 4, 1) := by decide +kernel
theorem dX8_init_75 : decode cX8_init 75 = .ok (.newarray .int, 2) := by decide +kernel
theorem dX8_init_77 : decode cX8_init 77 = .ok (.putfield 43, 3) := by decide +kernel
theorem dX8_init_80 : decode cX8_init 80 = .ok (.aload_n 0, 1) := by decide +kernel
theorem dX8_init_81 : decode cX8_init 81 = .ok (.iconst 4, 1) := by decide +kernel
theorem dX8_init_82 : decode cX8_init 82 = .ok (.newarray .int, 2) := by decide +kernel
theorem dX8_init_84 : decode cX8_init 84 = .ok (.putfield 46, 3) := by decide +kernel
theorem dX8_init_87 : decode cX8_init 87 = .ok (.aload_n 0, 1) := by decide +kernel
theorem dX8_init_88 : decode cX8_init 88 = .ok (.iconst 4, 1) := by decide +kernel
theorem dX8_init_89 : decode cX8_init 89 = .ok (.newarray .int, 2) := by decide +kernel
theorem dX8_init_91 : decode cX8_init 91 = .ok (.putfield 49, 3) := by decide +kernel
theorem dX8_init_94 : decode cX8_init 94 = .ok (.aload_n 0, 1) := by decide +kernel
theorem dX8_init_95 : decode cX8_init 95 = .ok (.iconst 2, 1) := by decide +kernel
theorem dX8_init_96 : decode cX8_init 96 = .ok (.putfield 52, 3) := by decide +kernel
theorem dX8_init_99 : decode cX8_init 99 = .ok (.aload_n 0, 1) := by decide +kernel
theorem dX8_init_100 : decode cX8_init 100 = .ok (.iconst 0, 1) := by decide +kernel
theorem dX8_init_101 : decode cX8_init 101 = .ok (.putfield 55, 3) := by decide +kernel
theorem dX8_init_104 : decode cX8_init 104 = .ok (.aload_n 0, 1) := by decide +kernel
theorem dX8_init_105 : decode cX8_init 105 = .ok (.iconst 0, 1) := by decide +kernel
theorem dX8_init_106 : decode cX8_init 106 = .ok (.putfield 58, 3) := by decide +kernel
theorem dX8_init_109 : decode cX8_init 109 = .ok (.aload_n 0, 1) := by decide +kernel
theorem dX8_init_110 : decode cX8_init 110 = .ok (.new 61, 3) := by decide +kernel
theorem dX8_init_113 : decode cX8_init 113 = .ok (.dup, 1) := by decide +kernel
theorem dX8_init_114 : decode cX8_init 114 = .ok (.invokespecial 63, 3) := by decide +kernel
theorem dX8_init_117 : decode cX8_init 117 = .ok (.putfield 64, 3) := by decide +kernel
theorem dX8_init_120 : decode cX8_init 120 = .ok (.return_, 1) := by decide +kernel
theorem dX8_clear_0 : decode cX8_clear 0 = .ok (.aload_n 0, 1) := by decide +kernel
theorem dX8_clear_1 : decode cX8_clear 1 = .ok (.iconst 0, 1) := by decide +kernel
theorem dX8_clear_2 : decode cX8_clear 2 = .ok (.putfield 9, 3) := by decide +kernel
theorem dX8_clear_5 : decode cX8_clear 5 = .ok (.iconst 0, 1) := by decide +kernel
theorem dX8_clear_6 : decode cX8_clear 6 = .ok (.istore_n 1, 1) := by decide +kernel
theorem dX8_clear_7 : decode cX8_clear 7 = .ok (.iload_n 1, 1) := by decide +kernel
theorem dX8_clear_8 : decode cX8_clear 8 = .ok (.bipush 8, 2) := by decide +kernel
theorem dX8_clear_10 : decode cX8_clear 10 = .ok (.if_icmp .ge 23, 3) := by decide +kernel
theorem dX8_clear_13 : decode cX8_clear 13 = .ok (.aload_n 0, 1) := by decide +kernel
theorem dX8_clear_14 : decode cX8_clear 14 = .ok (.getfield 28, 3) := by decide +kernel
theorem dX8_clear_17 : decode cX8_clear 17 = .ok (.iload_n 1, 1) := by decide +kernel
theorem dX8_clear_18 : decode cX8_clear 18 = .ok (.iconst 0, 1) := by decide +kernel
theorem dX8_clear_19 : decode cX8_clear 19 = .ok (.iastore, 1) := by decide +kernel
theorem dX8_clear_20 : decode cX8_clear 20 = .ok (.aload_n 0, 1) := by decide +kernel
theorem dX8_clear_21 : decode cX8_clear 21 = .ok (.getfield 25, 3) := by decide +kernel
theorem dX8_clear_24 : decode cX8_clear 24 = .ok (.iload_n 1, 1) := by decide +kernel
theorem dX8_clear_25 : decode cX8_clear 25 = .ok (.iconst 0, 1) := by decide +kernel
theorem dX8_clear_26 : decode cX8_clear 26 = .ok (.iastore, 1) := by decide +kernel
theorem dX8_clear_27 : decode cX8_clear 27 = .ok (.iinc 1 1, 3) := by decide +kernel
theorem dX8_clear_30 : decode cX8_clear 30 = .ok (.goto (-23), 3) := by decide +kernel
theorem dX8_clear_33 : decode cX8_clear 33 = .ok (.aload_n 0, 1) := by decide +kernel
theorem dX8_clear_34 : decode cX8_clear 34 = .ok (.iconst 0, 1) := by decide +kernel
theorem dX8_clear_35 : decode cX8_clear 35 = .ok (.putfield 31, 3) := by decide +kernel
theorem dX8_clear_38 : decode cX8_clear 38 = .ok (.aload_n 0, 1) := by decide +kernel
theorem dX8_clear_39 : decode cX8_clear 39 = .ok (.iconst 0, 1) := by decide +kernel
theorem dX8_clear_40 : decode cX8_clear 40 = .ok (.putfield 34, 3) := by decide +kernel
theorem dX8_clear_43 : decode cX8_clear 43 = .ok (.aload_n 0, 1) := by decide +kernel
theorem dX8_clear_44 : decode cX8_clear 44 = .ok (.iconst 2, 1) := by decide +kernel
theorem dX8_clear_45 : decode cX8_clear 45 = .ok (.putfield 52, 3) := by decide +kernel
theorem dX8_clear_48 : decode cX8_clear 48 = .ok (.aload_n 0, 1) := by decide +kernel
theorem dX8_clear_49 : decode cX8_clear 49 = .ok (.iconst 0, 1) := by decide +kernel
theorem dX8_clear_50 : decode cX8_clear 50 = .ok (.putfield 55, 3) := by decide +kernel
theorem dX8_clear_53 : decode cX8_clear 53 = .ok (.aload_n 0, 1) := by decide +kernel
theorem dX8_clear_54 : decode cX8_clear 54 = .ok (.iconst 0, 1) := by decide +kernel
theorem dX8_clear_55 : decode cX8_clear 55 = .ok (.putfield 58, 3) := by decide +kernel
theorem dX8_clear_58 : decode cX8_clear 58 = .ok (.aload_n 0, 1) := by decide +kernel
theorem dX8_clear_59 : decode cX8_clear 59 = .ok (.getfield 64, 3) := by decide +kernel
theorem dX8_clear_62 : decode cX8_clear 62 = .ok (.invokevirtual 68, 3) := by decide +kernel
theorem dX8_clear_65 : decode cX8_clear 65 = .ok (.return_, 1) := by decide +kernel
