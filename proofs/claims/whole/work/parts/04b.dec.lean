theorem dX9_init_0 : decode cX9_init 0 = .ok (.aload_n 0, 1) := by decide +kernel
theorem dX9_init_1 : decode cX9_init 1 = .ok (.invokespecial 3, 3) := by decide +kernel
theorem dX9_init_4 : decode cX9_init 4 = .ok (.aload_n 0, 1) := by decide +kernel
theorem dX9_init_5 : decode cX9_init 5 = .ok (.sipush 700, 3) := by decide +kernel
theorem dX9_init_8 : decode cX9_init 8 = .ok (.newarray .byte, 2) := by decide +kernel
theorem dX9_init_10 : decode cX9_init 10 = .ok (.putfield 11, 3) := by decide +kernel
theorem dX9_init_13 : decode cX9_init 13 = .ok (.aload_n 0, 1) := by decide +kernel
theorem dX9_init_14 : decode cX9_init 14 = .ok (.iconst 0, 1) := by decide +kernel
theorem dX9_init_15 : decode cX9_init 15 = .ok (.putfield 15, 3) := by decide +kernel
theorem dX9_init_18 : decode cX9_init 18 = .ok (.aload_n 0, 1) := by decide +kernel
theorem dX9_init_19 : decode cX9_init 19 = .ok (.new 19, 3) := by decide +kernel
theorem dX9_init_22 : decode cX9_init 22 = .ok (.dup, 1) := by decide +kernel
theorem dX9_init_23 : decode cX9_init 23 = .ok (.aload_n 0, 1) := by decide +kernel
theorem dX9_init_24 : decode cX9_init 24 = .ok (.getfield 11, 3) := by decide +kernel
theorem dX9_init_27 : decode cX9_init 27 = .ok (.invokespecial 21, 3) := by decide +kernel
theorem dX9_init_30 : decode cX9_init 30 = .ok (.putfield 24, 3) := by decide +kernel
theorem dX9_init_33 : decode cX9_init 33 = .ok (.aload_n 0, 1) := by decide +kernel
theorem dX9_init_34 : decode cX9_init 34 = .ok (.new 28, 3) := by decide +kernel
theorem dX9_init_37 : decode cX9_init 37 = .ok (.dup, 1) := by decide +kernel
theorem dX9_init_38 : decode cX9_init 38 = .ok (.invokespecial 30, 3) := by decide +kernel
theorem dX9_init_41 : decode cX9_init 41 = .ok (.putfield 31, 3) := by decide +kernel
theorem dX9_init_44 : decode cX9_init 44 = .ok (.aload_n 0, 1) := by decide +kernel
theorem dX9_init_45 : decode cX9_init 45 = .ok (.new 35, 3) := by decide +kernel
theorem dX9_init_48 : decode cX9_init 48 = .ok (.dup, 1) := by decide +kernel
theorem dX9_init_49 : decode cX9_init 49 = .ok (.invokespecial 37, 3) := by decide +kernel
theorem dX9_init_52 : decode cX9_init 52 = .ok (.putfield 38, 3) := by decide +kernel
theorem dX9_init_55 : decode cX9_init 55 = .ok (.aload_n 0, 1) := by decide +kernel
theorem dX9_init_56 : decode cX9_init 56 = .ok (.new 35, 3) := by decide +kernel
theorem dX9_init_59 : decode cX9_init 59 = .ok (.dup, 1) := by decide +kernel
theorem dX9_init_60 : decode cX9_init 60 = .ok (.invokespecial 37, 3) := by decide +kernel
theorem dX9_init_63 : decode cX9_init 63 = .ok (.putfield 42, 3) := by decide +kernel
theorem dX9_init_66 : decode cX9_init 66 = .ok (.aload_n 0, 1) := by decide +kernel
theorem dX9_init_67 : decode cX9_init 67 = .ok (.new 35, 3) := by decide +kernel
theorem dX9_init_70 : decode cX9_init 70 = .ok (.dup, 1) := by decide +kernel
theorem dX9_init_71 : decode cX9_init 71 = .ok (.invokespecial 37, 3) := by decide +kernel
theorem dX9_init_74 : decode cX9_init 74 = .ok (.putfield 45, 3) := by decide +kernel
theorem dX9_init_77 : decode cX9_init 77 = .ok (.aload_n 0, 1) := by decide +kernel
theorem dX9_init_78 : decode cX9_init 78 = .ok (.iconst 0, 1) := by decide +kernel
theorem dX9_init_79 : decode cX9_init 79 = .ok (.putfield 48, 3) := by decide +kernel
theorem dX9_init_82 : decode cX9_init 82 = .ok (.aload_n 0, 1) := by decide +kernel
theorem dX9_init_83 : decode cX9_init 83 = .ok (.new 52, 3) := by decide +kernel
theorem dX9_init_86 : decode cX9_init 86 = .ok (.dup, 1) := by decide +kernel
theorem dX9_init_87 : decode cX9_init 87 = .ok (.aload_n 0, 1) := by decide +kernel
theorem dX9_init_88 : decode cX9_init 88 = .ok (.getfield 31, 3) := by decide +kernel
theorem dX9_init_91 : decode cX9_init 91 = .ok (.aload_n 0, 1) := by decide +kernel
theorem dX9_init_92 : decode cX9_init 92 = .ok (.getfield 42, 3) := by decide +kernel
theorem dX9_init_95 : decode cX9_init 95 = .ok (.invokespecial 54, 3) := by decide +kernel
theorem dX9_init_98 : decode cX9_init 98 = .ok (.putfield 57, 3) := by decide +kernel
theorem dX9_init_101 : decode cX9_init 101 = .ok (.aload_n 0, 1) := by decide +kernel
theorem dX9_init_102 : decode cX9_init 102 = .ok (.new 61, 3) := by decide +kernel
theorem dX9_init_105 : decode cX9_init 105 = .ok (.dup, 1) := by decide +kernel
theorem dX9_init_106 : decode cX9_init 106 = .ok (.invokespecial 63, 3) := by decide +kernel
theorem dX9_init_109 : decode cX9_init 109 = .ok (.putfield 64, 3) := by decide +kernel
theorem dX9_init_112 : decode cX9_init 112 = .ok (.aload_n 0, 1) := by decide +kernel
theorem dX9_init_113 : decode cX9_init 113 = .ok (.new 68, 3) := by decide +kernel
theorem dX9_init_116 : decode cX9_init 116 = .ok (.dup, 1) := by decide +kernel
theorem dX9_init_117 : decode cX9_init 117 = .ok (.invokespecial 70, 3) := by decide +kernel
theorem dX9_init_120 : decode cX9_init 120 = .ok (.putfield 71, 3) := by decide +kernel
theorem dX9_init_123 : decode cX9_init 123 = .ok (.aload_n 0, 1) := by decide +kernel
theorem dX9_init_124 : decode cX9_init 124 = .ok (.iconst 4, 1) := by decide +kernel
theorem dX9_init_125 : decode cX9_init 125 = .ok (.newarray .int, 2) := by decide +kernel
theorem dX9_init_127 : decode cX9_init 127 = .ok (.putfield 75, 3) := by decide +kernel
theorem dX9_init_130 : decode cX9_init 130 = .ok (.aload_n 0, 1) := by decide +kernel
theorem dX9_init_131 : decode cX9_init 131 = .ok (.iconst 4, 1) := by decide +kernel
theorem dX9_init_132 : decode cX9_init 132 = .ok (.newarray .int, 2) := by decide +kernel
theorem dX9_init_134 : decode cX9_init 134 = .ok (.putfield 79, 3) := by decide +kernel
theorem dX9_init_137 : decode cX9_init 137 = .ok (.aload_n 0, 1) := by decide +kernel
theorem dX9_init_138 : decode cX9_init 138 = .ok (.iconst 4, 1) := by decide +kernel
theorem dX9_init_139 : decode cX9_init 139 = .ok (.newarray .int, 2) := by decide +kernel
theorem dX9_init_141 : decode cX9_init 141 = .ok (.putfield 82, 3) := by decide +kernel
theorem dX9_init_144 : decode cX9_init 144 = .ok (.aload_n 0, 1) := by decide +kernel
theorem dX9_init_145 : decode cX9_init 145 = .ok (.iconst 4, 1) := by decide +kernel
theorem dX9_init_146 : decode cX9_init 146 = .ok (.newarray .int, 2) := by decide +kernel
theorem dX9_init_148 : decode cX9_init 148 = .ok (.putfield 85, 3) := by decide +kernel
theorem dX9_init_151 : decode cX9_init 151 = .ok (.aload_n 0, 1) := by decide +kernel
theorem dX9_init_152 : decode cX9_init 152 = .ok (.getfield 38, 3) := by decide +kernel
theorem dX9_init_155 : decode cX9_init 155 = .ok (.aload_n 0, 1) := by decide +kernel
theorem dX9_init_156 : decode cX9_init 156 = .ok (.getfield 31, 3) := by decide +kernel
theorem dX9_init_159 : decode cX9_init 159 = .ok (.getfield 88, 3) := by decide +kernel
theorem dX9_init_162 : decode cX9_init 162 = .ok (.aload_n 0, 1) := by decide +kernel
theorem dX9_init_163 : decode cX9_init 163 = .ok (.getfield 31, 3) := by decide +kernel
theorem dX9_init_166 : decode cX9_init 166 = .ok (.getfield 91, 3) := by decide +kernel
theorem dX9_init_169 : decode cX9_init 169 = .ok (.invokevirtual 94, 3) := by decide +kernel
theorem dX9_init_172 : decode cX9_init 172 = .ok (.return_, 1) := by decide +kernel
theorem dX9_feed_0 : decode cX9_feed 0 = .ok (.aload_n 0, 1) := by decide +kernel
theorem dX9_feed_1 : decode cX9_feed 1 = .ok (.getfield 15, 3) := by decide +kernel
theorem dX9_feed_4 : decode cX9_feed 4 = .ok (.bipush 20, 2) := by decide +kernel
theorem dX9_feed_6 : decode cX9_feed 6 = .ok (.iadd, 1) := by decide +kernel
theorem dX9_feed_7 : decode cX9_feed 7 = .ok (.sipush 700, 3) := by decide +kernel
theorem dX9_feed_10 : decode cX9_feed 10 = .ok (.if_icmp .le 5, 3) := by decide +kernel
theorem dX9_feed_13 : decode cX9_feed 13 = .ok (.iconst (-1), 1) := by decide +kernel
theorem dX9_feed_14 : decode cX9_feed 14 = .ok (.ireturn, 1) := by decide +kernel
theorem dX9_feed_15 : decode cX9_feed 15 = .ok (.aload_n 0, 1) := by decide +kernel
theorem dX9_feed_16 : decode cX9_feed 16 = .ok (.iload_n 1, 1) := by decide +kernel
theorem dX9_feed_17 : decode cX9_feed 17 = .ok (.invokevirtual 98, 3) := by decide +kernel
theorem dX9_feed_20 : decode cX9_feed 20 = .ok (.aload_n 0, 1) := by decide +kernel
theorem dX9_feed_21 : decode cX9_feed 21 = .ok (.iload_n 2, 1) := by decide +kernel
theorem dX9_feed_22 : decode cX9_feed 22 = .ok (.invokevirtual 98, 3) := by decide +kernel
theorem dX9_feed_25 : decode cX9_feed 25 = .ok (.aload_n 0, 1) := by decide +kernel
theorem dX9_feed_26 : decode cX9_feed 26 = .ok (.iload_n 3, 1) := by decide +kernel
theorem dX9_feed_27 : decode cX9_feed 27 = .ok (.invokevirtual 98, 3) := by decide +kernel
theorem dX9_feed_30 : decode cX9_feed 30 = .ok (.aload_n 0, 1) := by decide +kernel
theorem dX9_feed_31 : decode cX9_feed 31 = .ok (.iload 4, 2) := by decide +kernel
theorem dX9_feed_33 : decode cX9_feed 33 = .ok (.invokevirtual 98, 3) := by decide +kernel
theorem dX9_feed_36 : decode cX9_feed 36 = .ok (.aload_n 0, 1) := by decide +kernel
theorem dX9_feed_37 : decode cX9_feed 37 = .ok (.iload 5, 2) := by decide +kernel
theorem dX9_feed_39 : decode cX9_feed 39 = .ok (.invokevirtual 98, 3) := by decide +kernel
theorem dX9_feed_42 : decode cX9_feed 42 = .ok (.aload_n 0, 1) := by decide +kernel
theorem dX9_feed_43 : decode cX9_feed 43 = .ok (.getfield 15, 3) := by decide +kernel
theorem dX9_feed_46 : decode cX9_feed 46 = .ok (.ireturn, 1) := by decide +kernel
theorem dX9_putNumber_0 : decode cX9_putNumber 0 = .ok (.bipush 24, 2) := by decide +kernel
theorem dX9_putNumber_2 : decode cX9_putNumber 2 = .ok (.istore_n 2, 1) := by decide +kernel
theorem dX9_putNumber_3 : decode cX9_putNumber 3 = .ok (.iload_n 2, 1) := by decide +kernel
theorem dX9_putNumber_4 : decode cX9_putNumber 4 = .ok (.ifCond .lt 42, 3) := by decide +kernel
theorem dX9_putNumber_7 : decode cX9_putNumber 7 = .ok (.aload_n 0, 1) := by decide +kernel
theorem dX9_putNumber_8 : decode cX9_putNumber 8 = .ok (.getfield 15, 3) := by decide +kernel
theorem dX9_putNumber_11 : decode cX9_putNumber 11 = .ok (.sipush 700, 3) := by decide +kernel
theorem dX9_putNumber_14 : decode cX9_putNumber 14 = .ok (.if_icmp .ge 32, 3) := by decide +kernel
theorem dX9_putNumber_17 : decode cX9_putNumber 17 = .ok (.aload_n 0, 1) := by decide +kernel
theorem dX9_putNumber_18 : decode cX9_putNumber 18 = .ok (.getfield 11, 3) := by decide +kernel
theorem dX9_putNumber_21 : decode cX9_putNumber 21 = .ok (.aload_n 0, 1) := by decide +kernel
theorem dX9_putNumber_22 : decode cX9_putNumber 22 = .ok (.getfield 15, 3) := by decide +kernel
theorem dX9_putNumber_25 : decode cX9_putNumber 25 = .ok (.iload_n 1, 1) := by decide +kernel
theorem dX9_putNumber_26 : decode cX9_putNumber 26 = .ok (.iload_n 2, 1) := by decide +kernel
theorem dX9_putNumber_27 : decode cX9_putNumber 27 = .ok (.ishr, 1) := by decide +kernel
theorem dX9_putNumber_28 : decode cX9_putNumber 28 = .ok (.i2b, 1) := by decide +kernel
theorem dX9_putNumber_29 : decode cX9_putNumber 29 = .ok (.bastore, 1) := by decide +kernel
theorem dX9_putNumber_30 : decode cX9_putNumber 30 = .ok (.aload_n 0, 1) := by decide +kernel
theorem dX9_putNumber_31 : decode cX9_putNumber 31 = .ok (.dup, 1) := by decide +kernel
theorem dX9_putNumber_32 : decode cX9_putNumber 32 = .ok (.getfield 15, 3) := by decide +kernel
theorem dX9_putNumber_35 : decode cX9_putNumber 35 = .ok (.iconst 1, 1) := by decide +kernel
theorem dX9_putNumber_36 : decode cX9_putNumber 36 = .ok (.iadd, 1) := by decide +kernel
theorem dX9_putNumber_37 : decode cX9_putNumber 37 = .ok (.putfield 15, 3) := by decide +kernel
theorem dX9_putNumber_40 : decode cX9_putNumber 40 = .ok (.iinc 2 (-8), 3) := by decide +kernel
theorem dX9_putNumber_43 : decode cX9_putNumber 43 = .ok (.goto (-40), 3) := by decide +kernel
theorem dX9_putNumber_46 : decode cX9_putNumber 46 = .ok (.return_, 1) := by decide +kernel
theorem dX9_text_0 : decode cX9_text 0 = .ok (.iload_n 1, 1) := by decide +kernel
theorem dX9_text_1 : decode cX9_text 1 = .ok (.ifCond .lt 11, 3) := by decide +kernel
theorem dX9_text_4 : decode cX9_text 4 = .ok (.iload_n 1, 1) := by decide +kernel
theorem dX9_text_5 : decode cX9_text 5 = .ok (.aload_n 0, 1) := by decide +kernel
theorem dX9_text_6 : decode cX9_text 6 = .ok (.getfield 15, 3) := by decide +kernel
theorem dX9_text_9 : decode cX9_text 9 = .ok (.if_icmp .le 6, 3) := by decide +kernel
theorem dX9_text_12 : decode cX9_text 12 = .ok (.bipush (-2), 2) := by decide +kernel
theorem dX9_text_14 : decode cX9_text 14 = .ok (.ireturn, 1) := by decide +kernel
theorem dX9_text_15 : decode cX9_text 15 = .ok (.aload_n 0, 1) := by decide +kernel
theorem dX9_text_16 : decode cX9_text 16 = .ok (.iconst 0, 1) := by decide +kernel
theorem dX9_text_17 : decode cX9_text 17 = .ok (.putfield 15, 3) := by decide +kernel
theorem dX9_text_20 : decode cX9_text 20 = .ok (.aload_n 0, 1) := by decide +kernel
theorem dX9_text_21 : decode cX9_text 21 = .ok (.getfield 24, 3) := by decide +kernel
theorem dX9_text_24 : decode cX9_text 24 = .ok (.iload_n 1, 1) := by decide +kernel
theorem dX9_text_25 : decode cX9_text 25 = .ok (.invokevirtual 102, 3) := by decide +kernel
theorem dX9_text_28 : decode cX9_text 28 = .ok (.istore_n 2, 1) := by decide +kernel
theorem dX9_text_29 : decode cX9_text 29 = .ok (.iload_n 2, 1) := by decide +kernel
theorem dX9_text_30 : decode cX9_text 30 = .ok (.iconst (-1), 1) := by decide +kernel
theorem dX9_text_31 : decode cX9_text 31 = .ok (.if_icmp .ne 5, 3) := by decide +kernel
theorem dX9_text_34 : decode cX9_text 34 = .ok (.iconst (-1), 1) := by decide +kernel
theorem dX9_text_35 : decode cX9_text 35 = .ok (.ireturn, 1) := by decide +kernel
theorem dX9_text_36 : decode cX9_text 36 = .ok (.aload_n 0, 1) := by decide +kernel
theorem dX9_text_37 : decode cX9_text 37 = .ok (.aload_n 0, 1) := by decide +kernel
theorem dX9_text_38 : decode cX9_text 38 = .ok (.getfield 24, 3) := by decide +kernel
theorem dX9_text_41 : decode cX9_text 41 = .ok (.aload_n 0, 1) := by decide +kernel
theorem dX9_text_42 : decode cX9_text 42 = .ok (.getfield 31, 3) := by decide +kernel
theorem dX9_text_45 : decode cX9_text 45 = .ok (.invokevirtual 106, 3) := by decide +kernel
theorem dX9_text_48 : decode cX9_text 48 = .ok (.putfield 31, 3) := by decide +kernel
theorem dX9_text_51 : decode cX9_text 51 = .ok (.aload_n 0, 1) := by decide +kernel
theorem dX9_text_52 : decode cX9_text 52 = .ok (.getfield 38, 3) := by decide +kernel
theorem dX9_text_55 : decode cX9_text 55 = .ok (.aload_n 0, 1) := by decide +kernel
theorem dX9_text_56 : decode cX9_text 56 = .ok (.getfield 31, 3) := by decide +kernel
theorem dX9_text_59 : decode cX9_text 59 = .ok (.getfield 88, 3) := by decide +kernel
theorem dX9_text_62 : decode cX9_text 62 = .ok (.aload_n 0, 1) := by decide +kernel
theorem dX9_text_63 : decode cX9_text 63 = .ok (.getfield 31, 3) := by decide +kernel
theorem dX9_text_66 : decode cX9_text 66 = .ok (.getfield 91, 3) := by decide +kernel
theorem dX9_text_69 : decode cX9_text 69 = .ok (.invokevirtual 94, 3) := by decide +kernel
theorem dX9_text_72 : decode cX9_text 72 = .ok (.aload_n 0, 1) := by decide +kernel
theorem dX9_text_73 : decode cX9_text 73 = .ok (.iconst 0, 1) := by decide +kernel
theorem dX9_text_74 : decode cX9_text 74 = .ok (.putfield 48, 3) := by decide +kernel
theorem dX9_text_77 : decode cX9_text 77 = .ok (.aload_n 0, 1) := by decide +kernel
theorem dX9_text_78 : decode cX9_text 78 = .ok (.getfield 64, 3) := by decide +kernel
theorem dX9_text_81 : decode cX9_text 81 = .ok (.iconst 0, 1) := by decide +kernel
theorem dX9_text_82 : decode cX9_text 82 = .ok (.putfield 110, 3) := by decide +kernel
theorem dX9_text_85 : decode cX9_text 85 = .ok (.aload_n 0, 1) := by decide +kernel
theorem dX9_text_86 : decode cX9_text 86 = .ok (.getfield 71, 3) := by decide +kernel
theorem dX9_text_89 : decode cX9_text 89 = .ok (.invokevirtual 113, 3) := by decide +kernel
theorem dX9_text_92 : decode cX9_text 92 = .ok (.iload_n 2, 1) := by decide +kernel
theorem dX9_text_93 : decode cX9_text 93 = .ok (.ireturn, 1) := by decide +kernel
theorem dX9_fault_0 : decode cX9_fault 0 = .ok (.iload_n 1, 1) := by decide +kernel
theorem dX9_fault_1 : decode cX9_fault 1 = .ok (.lookupswitch 43 #[(0, 27), (1, 35)], 27) := by decide +kernel
theorem dX9_fault_28 : decode cX9_fault 28 = .ok (.aload_n 0, 1) := by decide +kernel
theorem dX9_fault_29 : decode cX9_fault 29 = .ok (.getfield 24, 3) := by decide +kernel
theorem dX9_fault_32 : decode cX9_fault 32 = .ok (.getfield 116, 3) := by decide +kernel
theorem dX9_fault_35 : decode cX9_fault 35 = .ok (.ireturn, 1) := by decide +kernel
theorem dX9_fault_36 : decode cX9_fault 36 = .ok (.aload_n 0, 1) := by decide +kernel
theorem dX9_fault_37 : decode cX9_fault 37 = .ok (.getfield 24, 3) := by decide +kernel
theorem dX9_fault_40 : decode cX9_fault 40 = .ok (.getfield 119, 3) := by decide +kernel
theorem dX9_fault_43 : decode cX9_fault 43 = .ok (.ireturn, 1) := by decide +kernel
theorem dX9_fault_44 : decode cX9_fault 44 = .ok (.iconst (-1), 1) := by decide +kernel
theorem dX9_fault_45 : decode cX9_fault 45 = .ok (.ireturn, 1) := by decide +kernel
theorem dX9_named_0 : decode cX9_named 0 = .ok (.iload_n 1, 1) := by decide +kernel
theorem dX9_named_1 : decode cX9_named 1 = .ok (.lookupswitch 65 #[(0, 27), (1, 46)], 27) := by decide +kernel
theorem dX9_named_28 : decode cX9_named 28 = .ok (.aload_n 0, 1) := by decide +kernel
theorem dX9_named_29 : decode cX9_named 29 = .ok (.getfield 31, 3) := by decide +kernel
theorem dX9_named_32 : decode cX9_named 32 = .ok (.getfield 122, 3) := by decide +kernel
theorem dX9_named_35 : decode cX9_named 35 = .ok (.aload_n 0, 1) := by decide +kernel
theorem dX9_named_36 : decode cX9_named 36 = .ok (.getfield 31, 3) := by decide +kernel
theorem dX9_named_39 : decode cX9_named 39 = .ok (.getfield 125, 3) := by decide +kernel
theorem dX9_named_42 : decode cX9_named 42 = .ok (.iload_n 2, 1) := by decide +kernel
theorem dX9_named_43 : decode cX9_named 43 = .ok (.invokestatic 128, 3) := by decide +kernel
theorem dX9_named_46 : decode cX9_named 46 = .ok (.ireturn, 1) := by decide +kernel
theorem dX9_named_47 : decode cX9_named 47 = .ok (.aload_n 0, 1) := by decide +kernel
theorem dX9_named_48 : decode cX9_named 48 = .ok (.getfield 31, 3) := by decide +kernel
theorem dX9_named_51 : decode cX9_named 51 = .ok (.getfield 132, 3) := by decide +kernel
theorem dX9_named_54 : decode cX9_named 54 = .ok (.aload_n 0, 1) := by decide +kernel
theorem dX9_named_55 : decode cX9_named 55 = .ok (.getfield 31, 3) := by decide +kernel
theorem dX9_named_58 : decode cX9_named 58 = .ok (.getfield 135, 3) := by decide +kernel
theorem dX9_named_61 : decode cX9_named 61 = .ok (.iload_n 2, 1) := by decide +kernel
theorem dX9_named_62 : decode cX9_named 62 = .ok (.invokestatic 128, 3) := by decide +kernel
theorem dX9_named_65 : decode cX9_named 65 = .ok (.ireturn, 1) := by decide +kernel
theorem dX9_named_66 : decode cX9_named 66 = .ok (.iconst (-1), 1) := by decide +kernel
theorem dX9_named_67 : decode cX9_named 67 = .ok (.ireturn, 1) := by decide +kernel
theorem dX9_find_0 : decode cX9_find 0 = .ok (.iconst 0, 1) := by decide +kernel
theorem dX9_find_1 : decode cX9_find 1 = .ok (.istore_n 3, 1) := by decide +kernel
theorem dX9_find_2 : decode cX9_find 2 = .ok (.iload_n 3, 1) := by decide +kernel
theorem dX9_find_3 : decode cX9_find 3 = .ok (.iload_n 1, 1) := by decide +kernel
theorem dX9_find_4 : decode cX9_find 4 = .ok (.if_icmp .ge 24, 3) := by decide +kernel
theorem dX9_find_7 : decode cX9_find 7 = .ok (.iload_n 3, 1) := by decide +kernel
theorem dX9_find_8 : decode cX9_find 8 = .ok (.aload_n 0, 1) := by decide +kernel
theorem dX9_find_9 : decode cX9_find 9 = .ok (.arraylength, 1) := by decide +kernel
theorem dX9_find_10 : decode cX9_find 10 = .ok (.if_icmp .ge 18, 3) := by decide +kernel
theorem dX9_find_13 : decode cX9_find 13 = .ok (.aload_n 0, 1) := by decide +kernel
theorem dX9_find_14 : decode cX9_find 14 = .ok (.iload_n 3, 1) := by decide +kernel
theorem dX9_find_15 : decode cX9_find 15 = .ok (.iaload, 1) := by decide +kernel
theorem dX9_find_16 : decode cX9_find 16 = .ok (.iload_n 2, 1) := by decide +kernel
theorem dX9_find_17 : decode cX9_find 17 = .ok (.if_icmp .ne 5, 3) := by decide +kernel
theorem dX9_find_20 : decode cX9_find 20 = .ok (.iload_n 3, 1) := by decide +kernel
theorem dX9_find_21 : decode cX9_find 21 = .ok (.ireturn, 1) := by decide +kernel
theorem dX9_find_22 : decode cX9_find 22 = .ok (.iinc 3 1, 3) := by decide +kernel
theorem dX9_find_25 : decode cX9_find 25 = .ok (.goto (-23), 3) := by decide +kernel
theorem dX9_find_28 : decode cX9_find 28 = .ok (.iconst (-1), 1) := by decide +kernel
theorem dX9_find_29 : decode cX9_find 29 = .ok (.ireturn, 1) := by decide +kernel
theorem dX9_isSoul_0 : decode cX9_isSoul 0 = .ok (.iload_n 1, 1) := by decide +kernel
theorem dX9_isSoul_1 : decode cX9_isSoul 1 = .ok (.ifCond .lt 18, 3) := by decide +kernel
theorem dX9_isSoul_4 : decode cX9_isSoul 4 = .ok (.iload_n 1, 1) := by decide +kernel
theorem dX9_isSoul_5 : decode cX9_isSoul 5 = .ok (.aload_n 0, 1) := by decide +kernel
theorem dX9_isSoul_6 : decode cX9_isSoul 6 = .ok (.getfield 31, 3) := by decide +kernel
theorem dX9_isSoul_9 : decode cX9_isSoul 9 = .ok (.getfield 125, 3) := by decide +kernel
theorem dX9_isSoul_12 : decode cX9_isSoul 12 = .ok (.if_icmp .ge 7, 3) := by decide +kernel
theorem dX9_isSoul_15 : decode cX9_isSoul 15 = .ok (.iconst 1, 1) := by decide +kernel
theorem dX9_isSoul_16 : decode cX9_isSoul 16 = .ok (.goto 4, 3) := by decide +kernel
theorem dX9_isSoul_19 : decode cX9_isSoul 19 = .ok (.iconst 0, 1) := by decide +kernel
theorem dX9_isSoul_20 : decode cX9_isSoul 20 = .ok (.ireturn, 1) := by decide +kernel
theorem dX9_isBus_0 : decode cX9_isBus 0 = .ok (.iload_n 1, 1) := by decide +kernel
theorem dX9_isBus_1 : decode cX9_isBus 1 = .ok (.ifCond .lt 18, 3) := by decide +kernel
theorem dX9_isBus_4 : decode cX9_isBus 4 = .ok (.iload_n 1, 1) := by decide +kernel
theorem dX9_isBus_5 : decode cX9_isBus 5 = .ok (.aload_n 0, 1) := by decide +kernel
theorem dX9_isBus_6 : decode cX9_isBus 6 = .ok (.getfield 31, 3) := by decide +kernel
theorem dX9_isBus_9 : decode cX9_isBus 9 = .ok (.getfield 135, 3) := by decide +kernel
theorem dX9_isBus_12 : decode cX9_isBus 12 = .ok (.if_icmp .ge 7, 3) := by decide +kernel
theorem dX9_isBus_15 : decode cX9_isBus 15 = .ok (.iconst 1, 1) := by decide +kernel
theorem dX9_isBus_16 : decode cX9_isBus 16 = .ok (.goto 4, 3) := by decide +kernel
theorem dX9_isBus_19 : decode cX9_isBus 19 = .ok (.iconst 0, 1) := by decide +kernel
theorem dX9_isBus_20 : decode cX9_isBus 20 = .ok (.ireturn, 1) := by decide +kernel
theorem dX9_soul_0 : decode cX9_soul 0 = .ok (.aload_n 0, 1) := by decide +kernel
theorem dX9_soul_1 : decode cX9_soul 1 = .ok (.iload_n 1, 1) := by decide +kernel
theorem dX9_soul_2 : decode cX9_soul 2 = .ok (.invokevirtual 138, 3) := by decide +kernel
theorem dX9_soul_5 : decode cX9_soul 5 = .ok (.ifCond .ne 13, 3) := by decide +kernel
theorem dX9_soul_8 : decode cX9_soul 8 = .ok (.new 142, 3) := by decide +kernel
theorem dX9_soul_11 : decode cX9_soul 11 = .ok (.dup, 1) := by decide +kernel
theorem dX9_soul_12 : decode cX9_soul 12 = .ok (.ldc 144, 2) := by decide +kernel
theorem dX9_soul_14 : decode cX9_soul 14 = .ok (.invokespecial 146, 3) := by decide +kernel
theorem dX9_soul_17 : decode cX9_soul 17 = .ok (.athrow, 1) := by decide +kernel
theorem dX9_soul_18 : decode cX9_soul 18 = .ok (.iload_n 2, 1) := by decide +kernel
theorem dX9_soul_19 : decode cX9_soul 19 = .ok (.tableswitch 138 0 7 #[45, 55, 65, 75, 85, 94, 104, 132], 45) := by decide +kernel
theorem dX9_soul_64 : decode cX9_soul 64 = .ok (.aload_n 0, 1) := by decide +kernel
theorem dX9_soul_65 : decode cX9_soul 65 = .ok (.getfield 38, 3) := by decide +kernel
theorem dX9_soul_68 : decode cX9_soul 68 = .ok (.getfield 149, 3) := by decide +kernel
theorem dX9_soul_71 : decode cX9_soul 71 = .ok (.iload_n 1, 1) := by decide +kernel
theorem dX9_soul_72 : decode cX9_soul 72 = .ok (.iaload, 1) := by decide +kernel
theorem dX9_soul_73 : decode cX9_soul 73 = .ok (.ireturn, 1) := by decide +kernel
theorem dX9_soul_74 : decode cX9_soul 74 = .ok (.aload_n 0, 1) := by decide +kernel
theorem dX9_soul_75 : decode cX9_soul 75 = .ok (.getfield 31, 3) := by decide +kernel
theorem dX9_soul_78 : decode cX9_soul 78 = .ok (.getfield 152, 3) := by decide +kernel
theorem dX9_soul_81 : decode cX9_soul 81 = .ok (.iload_n 1, 1) := by decide +kernel
theorem dX9_soul_82 : decode cX9_soul 82 = .ok (.iaload, 1) := by decide +kernel
theorem dX9_soul_83 : decode cX9_soul 83 = .ok (.ireturn, 1) := by decide +kernel
theorem dX9_soul_84 : decode cX9_soul 84 = .ok (.aload_n 0, 1) := by decide +kernel
theorem dX9_soul_85 : decode cX9_soul 85 = .ok (.getfield 38, 3) := by decide +kernel
theorem dX9_soul_88 : decode cX9_soul 88 = .ok (.getfield 155, 3) := by decide +kernel
theorem dX9_soul_91 : decode cX9_soul 91 = .ok (.iload_n 1, 1) := by decide +kernel
theorem dX9_soul_92 : decode cX9_soul 92 = .ok (.iaload, 1) := by decide +kernel
theorem dX9_soul_93 : decode cX9_soul 93 = .ok (.ireturn, 1) := by decide +kernel
theorem dX9_soul_94 : decode cX9_soul 94 = .ok (.aload_n 0, 1) := by decide +kernel
theorem dX9_soul_95 : decode cX9_soul 95 = .ok (.getfield 38, 3) := by decide +kernel
theorem dX9_soul_98 : decode cX9_soul 98 = .ok (.getfield 156, 3) := by decide +kernel
theorem dX9_soul_101 : decode cX9_soul 101 = .ok (.iload_n 1, 1) := by decide +kernel
theorem dX9_soul_102 : decode cX9_soul 102 = .ok (.iaload, 1) := by decide +kernel
theorem dX9_soul_103 : decode cX9_soul 103 = .ok (.ireturn, 1) := by decide +kernel
theorem dX9_soul_104 : decode cX9_soul 104 = .ok (.aload_n 0, 1) := by decide +kernel
theorem dX9_soul_105 : decode cX9_soul 105 = .ok (.getfield 38, 3) := by decide +kernel
theorem dX9_soul_108 : decode cX9_soul 108 = .ok (.iload_n 1, 1) := by decide +kernel
theorem dX9_soul_109 : decode cX9_soul 109 = .ok (.invokevirtual 159, 3) := by decide +kernel
theorem dX9_soul_112 : decode cX9_soul 112 = .ok (.ireturn, 1) := by decide +kernel
theorem dX9_soul_113 : decode cX9_soul 113 = .ok (.aload_n 0, 1) := by decide +kernel
theorem dX9_soul_114 : decode cX9_soul 114 = .ok (.getfield 38, 3) := by decide +kernel
theorem dX9_soul_117 : decode cX9_soul 117 = .ok (.getfield 162, 3) := by decide +kernel
theorem dX9_soul_120 : decode cX9_soul 120 = .ok (.iload_n 1, 1) := by decide +kernel
theorem dX9_soul_121 : decode cX9_soul 121 = .ok (.iaload, 1) := by decide +kernel
theorem dX9_soul_122 : decode cX9_soul 122 = .ok (.ireturn, 1) := by decide +kernel
theorem dX9_soul_123 : decode cX9_soul 123 = .ok (.aload_n 0, 1) := by decide +kernel
theorem dX9_soul_124 : decode cX9_soul 124 = .ok (.getfield 38, 3) := by decide +kernel
theorem dX9_soul_127 : decode cX9_soul 127 = .ok (.getfield 149, 3) := by decide +kernel
theorem dX9_soul_130 : decode cX9_soul 130 = .ok (.iload_n 1, 1) := by decide +kernel
theorem dX9_soul_131 : decode cX9_soul 131 = .ok (.iaload, 1) := by decide +kernel
theorem dX9_soul_132 : decode cX9_soul 132 = .ok (.iconst 2, 1) := by decide +kernel
theorem dX9_soul_133 : decode cX9_soul 133 = .ok (.if_icmp .ne 15, 3) := by decide +kernel
theorem dX9_soul_136 : decode cX9_soul 136 = .ok (.aload_n 0, 1) := by decide +kernel
theorem dX9_soul_137 : decode cX9_soul 137 = .ok (.getfield 38, 3) := by decide +kernel
theorem dX9_soul_140 : decode cX9_soul 140 = .ok (.getfield 165, 3) := by decide +kernel
theorem dX9_soul_143 : decode cX9_soul 143 = .ok (.iload_n 1, 1) := by decide +kernel
theorem dX9_soul_144 : decode cX9_soul 144 = .ok (.iaload, 1) := by decide +kernel
theorem dX9_soul_145 : decode cX9_soul 145 = .ok (.goto 5, 3) := by decide +kernel
theorem dX9_soul_148 : decode cX9_soul 148 = .ok (.bipush (-2), 2) := by decide +kernel
theorem dX9_soul_150 : decode cX9_soul 150 = .ok (.ireturn, 1) := by decide +kernel
theorem dX9_soul_151 : decode cX9_soul 151 = .ok (.aload_n 0, 1) := by decide +kernel
theorem dX9_soul_152 : decode cX9_soul 152 = .ok (.iload_n 1, 1) := by decide +kernel
theorem dX9_soul_153 : decode cX9_soul 153 = .ok (.invokevirtual 168, 3) := by decide +kernel
theorem dX9_soul_156 : decode cX9_soul 156 = .ok (.ireturn, 1) := by decide +kernel
theorem dX9_soul_157 : decode cX9_soul 157 = .ok (.new 171, 3) := by decide +kernel
theorem dX9_soul_160 : decode cX9_soul 160 = .ok (.dup, 1) := by decide +kernel
theorem dX9_soul_161 : decode cX9_soul 161 = .ok (.ldc 173, 2) := by decide +kernel
theorem dX9_soul_163 : decode cX9_soul 163 = .ok (.invokespecial 175, 3) := by decide +kernel
theorem dX9_soul_166 : decode cX9_soul 166 = .ok (.athrow, 1) := by decide +kernel
theorem dX9_goneWith_0 : decode cX9_goneWith 0 = .ok (.iconst 0, 1) := by decide +kernel
theorem dX9_goneWith_1 : decode cX9_goneWith 1 = .ok (.istore_n 2, 1) := by decide +kernel
theorem dX9_goneWith_2 : decode cX9_goneWith 2 = .ok (.aload_n 0, 1) := by decide +kernel
theorem dX9_goneWith_3 : decode cX9_goneWith 3 = .ok (.getfield 38, 3) := by decide +kernel
theorem dX9_goneWith_6 : decode cX9_goneWith 6 = .ok (.getfield 149, 3) := by decide +kernel
theorem dX9_goneWith_9 : decode cX9_goneWith 9 = .ok (.iload_n 1, 1) := by decide +kernel
theorem dX9_goneWith_10 : decode cX9_goneWith 10 = .ok (.iaload, 1) := by decide +kernel
theorem dX9_goneWith_11 : decode cX9_goneWith 11 = .ok (.iconst 2, 1) := by decide +kernel
theorem dX9_goneWith_12 : decode cX9_goneWith 12 = .ok (.if_icmp .eq 5, 3) := by decide +kernel
theorem dX9_goneWith_15 : decode cX9_goneWith 15 = .ok (.iload_n 2, 1) := by decide +kernel
theorem dX9_goneWith_16 : decode cX9_goneWith 16 = .ok (.ireturn, 1) := by decide +kernel
theorem dX9_goneWith_17 : decode cX9_goneWith 17 = .ok (.iconst 0, 1) := by decide +kernel
theorem dX9_goneWith_18 : decode cX9_goneWith 18 = .ok (.istore_n 3, 1) := by decide +kernel
theorem dX9_goneWith_19 : decode cX9_goneWith 19 = .ok (.iload_n 3, 1) := by decide +kernel
theorem dX9_goneWith_20 : decode cX9_goneWith 20 = .ok (.aload_n 0, 1) := by decide +kernel
theorem dX9_goneWith_21 : decode cX9_goneWith 21 = .ok (.getfield 31, 3) := by decide +kernel
theorem dX9_goneWith_24 : decode cX9_goneWith 24 = .ok (.getfield 125, 3) := by decide +kernel
theorem dX9_goneWith_27 : decode cX9_goneWith 27 = .ok (.if_icmp .ge 70, 3) := by decide +kernel
theorem dX9_goneWith_30 : decode cX9_goneWith 30 = .ok (.aload_n 0, 1) := by decide +kernel
theorem dX9_goneWith_31 : decode cX9_goneWith 31 = .ok (.getfield 38, 3) := by decide +kernel
theorem dX9_goneWith_34 : decode cX9_goneWith 34 = .ok (.getfield 149, 3) := by decide +kernel
theorem dX9_goneWith_37 : decode cX9_goneWith 37 = .ok (.iload_n 3, 1) := by decide +kernel
theorem dX9_goneWith_38 : decode cX9_goneWith 38 = .ok (.iaload, 1) := by decide +kernel
theorem dX9_goneWith_39 : decode cX9_goneWith 39 = .ok (.iconst 2, 1) := by decide +kernel
theorem dX9_goneWith_40 : decode cX9_goneWith 40 = .ok (.if_icmp .ne 51, 3) := by decide +kernel
theorem dX9_goneWith_43 : decode cX9_goneWith 43 = .ok (.aload_n 0, 1) := by decide +kernel
theorem dX9_goneWith_44 : decode cX9_goneWith 44 = .ok (.getfield 38, 3) := by decide +kernel
theorem dX9_goneWith_47 : decode cX9_goneWith 47 = .ok (.getfield 165, 3) := by decide +kernel
theorem dX9_goneWith_50 : decode cX9_goneWith 50 = .ok (.iload_n 3, 1) := by decide +kernel
theorem dX9_goneWith_51 : decode cX9_goneWith 51 = .ok (.iaload, 1) := by decide +kernel
theorem dX9_goneWith_52 : decode cX9_goneWith 52 = .ok (.aload_n 0, 1) := by decide +kernel
theorem dX9_goneWith_53 : decode cX9_goneWith 53 = .ok (.getfield 38, 3) := by decide +kernel
theorem dX9_goneWith_56 : decode cX9_goneWith 56 = .ok (.getfield 165, 3) := by decide +kernel
theorem dX9_goneWith_59 : decode cX9_goneWith 59 = .ok (.iload_n 1, 1) := by decide +kernel
theorem dX9_goneWith_60 : decode cX9_goneWith 60 = .ok (.iaload, 1) := by decide +kernel
theorem dX9_goneWith_61 : decode cX9_goneWith 61 = .ok (.if_icmp .ne 30, 3) := by decide +kernel
theorem dX9_goneWith_64 : decode cX9_goneWith 64 = .ok (.aload_n 0, 1) := by decide +kernel
theorem dX9_goneWith_65 : decode cX9_goneWith 65 = .ok (.getfield 38, 3) := by decide +kernel
theorem dX9_goneWith_68 : decode cX9_goneWith 68 = .ok (.getfield 176, 3) := by decide +kernel
theorem dX9_goneWith_71 : decode cX9_goneWith 71 = .ok (.iload_n 3, 1) := by decide +kernel
theorem dX9_goneWith_72 : decode cX9_goneWith 72 = .ok (.iaload, 1) := by decide +kernel
theorem dX9_goneWith_73 : decode cX9_goneWith 73 = .ok (.aload_n 0, 1) := by decide +kernel
theorem dX9_goneWith_74 : decode cX9_goneWith 74 = .ok (.getfield 38, 3) := by decide +kernel
theorem dX9_goneWith_77 : decode cX9_goneWith 77 = .ok (.getfield 176, 3) := by decide +kernel
theorem dX9_goneWith_80 : decode cX9_goneWith 80 = .ok (.iload_n 1, 1) := by decide +kernel
theorem dX9_goneWith_81 : decode cX9_goneWith 81 = .ok (.iaload, 1) := by decide +kernel
theorem dX9_goneWith_82 : decode cX9_goneWith 82 = .ok (.if_icmp .ne 9, 3) := by decide +kernel
theorem dX9_goneWith_85 : decode cX9_goneWith 85 = .ok (.iload_n 2, 1) := by decide +kernel
theorem dX9_goneWith_86 : decode cX9_goneWith 86 = .ok (.iconst 1, 1) := by decide +kernel
theorem dX9_goneWith_87 : decode cX9_goneWith 87 = .ok (.iload_n 3, 1) := by decide +kernel
theorem dX9_goneWith_88 : decode cX9_goneWith 88 = .ok (.ishl, 1) := by decide +kernel
theorem dX9_goneWith_89 : decode cX9_goneWith 89 = .ok (.ior, 1) := by decide +kernel
theorem dX9_goneWith_90 : decode cX9_goneWith 90 = .ok (.istore_n 2, 1) := by decide +kernel
theorem dX9_goneWith_91 : decode cX9_goneWith 91 = .ok (.iinc 3 1, 3) := by decide +kernel
theorem dX9_goneWith_94 : decode cX9_goneWith 94 = .ok (.goto (-75), 3) := by decide +kernel
theorem dX9_goneWith_97 : decode cX9_goneWith 97 = .ok (.iload_n 2, 1) := by decide +kernel
theorem dX9_goneWith_98 : decode cX9_goneWith 98 = .ok (.ireturn, 1) := by decide +kernel
theorem dX9_bus_0 : decode cX9_bus 0 = .ok (.aload_n 0, 1) := by decide +kernel
theorem dX9_bus_1 : decode cX9_bus 1 = .ok (.iload_n 1, 1) := by decide +kernel
theorem dX9_bus_2 : decode cX9_bus 2 = .ok (.invokevirtual 179, 3) := by decide +kernel
theorem dX9_bus_5 : decode cX9_bus 5 = .ok (.ifCond .ne 5, 3) := by decide +kernel
theorem dX9_bus_8 : decode cX9_bus 8 = .ok (.iconst (-1), 1) := by decide +kernel
theorem dX9_bus_9 : decode cX9_bus 9 = .ok (.ireturn, 1) := by decide +kernel
theorem dX9_bus_10 : decode cX9_bus 10 = .ok (.iload_n 2, 1) := by decide +kernel
theorem dX9_bus_11 : decode cX9_bus 11 = .ok (.tableswitch 79 0 4 #[33, 43, 53, 63, 73], 33) := by decide +kernel
theorem dX9_bus_44 : decode cX9_bus 44 = .ok (.aload_n 0, 1) := by decide +kernel
theorem dX9_bus_45 : decode cX9_bus 45 = .ok (.getfield 31, 3) := by decide +kernel
theorem dX9_bus_48 : decode cX9_bus 48 = .ok (.getfield 182, 3) := by decide +kernel
theorem dX9_bus_51 : decode cX9_bus 51 = .ok (.iload_n 1, 1) := by decide +kernel
theorem dX9_bus_52 : decode cX9_bus 52 = .ok (.iaload, 1) := by decide +kernel
theorem dX9_bus_53 : decode cX9_bus 53 = .ok (.ireturn, 1) := by decide +kernel
theorem dX9_bus_54 : decode cX9_bus 54 = .ok (.aload_n 0, 1) := by decide +kernel
theorem dX9_bus_55 : decode cX9_bus 55 = .ok (.getfield 31, 3) := by decide +kernel
theorem dX9_bus_58 : decode cX9_bus 58 = .ok (.getfield 185, 3) := by decide +kernel
theorem dX9_bus_61 : decode cX9_bus 61 = .ok (.iload_n 1, 1) := by decide +kernel
theorem dX9_bus_62 : decode cX9_bus 62 = .ok (.iaload, 1) := by decide +kernel
theorem dX9_bus_63 : decode cX9_bus 63 = .ok (.ireturn, 1) := by decide +kernel
theorem dX9_bus_64 : decode cX9_bus 64 = .ok (.aload_n 0, 1) := by decide +kernel
theorem dX9_bus_65 : decode cX9_bus 65 = .ok (.getfield 31, 3) := by decide +kernel
theorem dX9_bus_68 : decode cX9_bus 68 = .ok (.getfield 188, 3) := by decide +kernel
theorem dX9_bus_71 : decode cX9_bus 71 = .ok (.iload_n 1, 1) := by decide +kernel
theorem dX9_bus_72 : decode cX9_bus 72 = .ok (.iaload, 1) := by decide +kernel
theorem dX9_bus_73 : decode cX9_bus 73 = .ok (.ireturn, 1) := by decide +kernel
theorem dX9_bus_74 : decode cX9_bus 74 = .ok (.aload_n 0, 1) := by decide +kernel
theorem dX9_bus_75 : decode cX9_bus 75 = .ok (.getfield 31, 3) := by decide +kernel
theorem dX9_bus_78 : decode cX9_bus 78 = .ok (.getfield 191, 3) := by decide +kernel
theorem dX9_bus_81 : decode cX9_bus 81 = .ok (.iload_n 1, 1) := by decide +kernel
theorem dX9_bus_82 : decode cX9_bus 82 = .ok (.iaload, 1) := by decide +kernel
theorem dX9_bus_83 : decode cX9_bus 83 = .ok (.ireturn, 1) := by decide +kernel
theorem dX9_bus_84 : decode cX9_bus 84 = .ok (.aload_n 0, 1) := by decide +kernel
theorem dX9_bus_85 : decode cX9_bus 85 = .ok (.iload_n 1, 1) := by decide +kernel
theorem dX9_bus_86 : decode cX9_bus 86 = .ok (.invokevirtual 194, 3) := by decide +kernel
theorem dX9_bus_89 : decode cX9_bus 89 = .ok (.ireturn, 1) := by decide +kernel
theorem dX9_bus_90 : decode cX9_bus 90 = .ok (.iconst (-1), 1) := by decide +kernel
theorem dX9_bus_91 : decode cX9_bus 91 = .ok (.ireturn, 1) := by decide +kernel
theorem dX9_goneByBus_0 : decode cX9_goneByBus 0 = .ok (.iconst 0, 1) := by decide +kernel
theorem dX9_goneByBus_1 : decode cX9_goneByBus 1 = .ok (.istore_n 2, 1) := by decide +kernel
theorem dX9_goneByBus_2 : decode cX9_goneByBus 2 = .ok (.iconst 0, 1) := by decide +kernel
theorem dX9_goneByBus_3 : decode cX9_goneByBus 3 = .ok (.istore_n 3, 1) := by decide +kernel
theorem dX9_goneByBus_4 : decode cX9_goneByBus 4 = .ok (.iload_n 3, 1) := by decide +kernel
theorem dX9_goneByBus_5 : decode cX9_goneByBus 5 = .ok (.aload_n 0, 1) := by decide +kernel
theorem dX9_goneByBus_6 : decode cX9_goneByBus 6 = .ok (.getfield 31, 3) := by decide +kernel
theorem dX9_goneByBus_9 : decode cX9_goneByBus 9 = .ok (.getfield 125, 3) := by decide +kernel
theorem dX9_goneByBus_12 : decode cX9_goneByBus 12 = .ok (.if_icmp .ge 38, 3) := by decide +kernel
theorem dX9_goneByBus_15 : decode cX9_goneByBus 15 = .ok (.aload_n 0, 1) := by decide +kernel
theorem dX9_goneByBus_16 : decode cX9_goneByBus 16 = .ok (.getfield 38, 3) := by decide +kernel
theorem dX9_goneByBus_19 : decode cX9_goneByBus 19 = .ok (.getfield 149, 3) := by decide +kernel
theorem dX9_goneByBus_22 : decode cX9_goneByBus 22 = .ok (.iload_n 3, 1) := by decide +kernel
theorem dX9_goneByBus_23 : decode cX9_goneByBus 23 = .ok (.iaload, 1) := by decide +kernel
theorem dX9_goneByBus_24 : decode cX9_goneByBus 24 = .ok (.iconst 2, 1) := by decide +kernel
theorem dX9_goneByBus_25 : decode cX9_goneByBus 25 = .ok (.if_icmp .ne 19, 3) := by decide +kernel
theorem dX9_goneByBus_28 : decode cX9_goneByBus 28 = .ok (.aload_n 0, 1) := by decide +kernel
theorem dX9_goneByBus_29 : decode cX9_goneByBus 29 = .ok (.getfield 38, 3) := by decide +kernel
theorem dX9_goneByBus_32 : decode cX9_goneByBus 32 = .ok (.getfield 165, 3) := by decide +kernel
theorem dX9_goneByBus_35 : decode cX9_goneByBus 35 = .ok (.iload_n 3, 1) := by decide +kernel
theorem dX9_goneByBus_36 : decode cX9_goneByBus 36 = .ok (.iaload, 1) := by decide +kernel
theorem dX9_goneByBus_37 : decode cX9_goneByBus 37 = .ok (.iload_n 1, 1) := by decide +kernel
theorem dX9_goneByBus_38 : decode cX9_goneByBus 38 = .ok (.if_icmp .ne 6, 3) := by decide +kernel
theorem dX9_goneByBus_41 : decode cX9_goneByBus 41 = .ok (.iinc 2 1, 3) := by decide +kernel
theorem dX9_goneByBus_44 : decode cX9_goneByBus 44 = .ok (.iinc 3 1, 3) := by decide +kernel
theorem dX9_goneByBus_47 : decode cX9_goneByBus 47 = .ok (.goto (-43), 3) := by decide +kernel
theorem dX9_goneByBus_50 : decode cX9_goneByBus 50 = .ok (.iload_n 2, 1) := by decide +kernel
theorem dX9_goneByBus_51 : decode cX9_goneByBus 51 = .ok (.ireturn, 1) := by decide +kernel
theorem dX9_queue_0 : decode cX9_queue 0 = .ok (.iload_n 1, 1) := by decide +kernel
theorem dX9_queue_1 : decode cX9_queue 1 = .ok (.ifCond .lt 9, 3) := by decide +kernel
theorem dX9_queue_4 : decode cX9_queue 4 = .ok (.iload_n 1, 1) := by decide +kernel
theorem dX9_queue_5 : decode cX9_queue 5 = .ok (.bipush 8, 2) := by decide +kernel
theorem dX9_queue_7 : decode cX9_queue 7 = .ok (.if_icmp .lt 5, 3) := by decide +kernel
theorem dX9_queue_10 : decode cX9_queue 10 = .ok (.iconst (-1), 1) := by decide +kernel
theorem dX9_queue_11 : decode cX9_queue 11 = .ok (.ireturn, 1) := by decide +kernel
theorem dX9_queue_12 : decode cX9_queue 12 = .ok (.iload_n 1, 1) := by decide +kernel
theorem dX9_queue_13 : decode cX9_queue 13 = .ok (.aload_n 0, 1) := by decide +kernel
theorem dX9_queue_14 : decode cX9_queue 14 = .ok (.getfield 38, 3) := by decide +kernel
theorem dX9_queue_17 : decode cX9_queue 17 = .ok (.getfield 197, 3) := by decide +kernel
theorem dX9_queue_20 : decode cX9_queue 20 = .ok (.if_icmp .ge 15, 3) := by decide +kernel
theorem dX9_queue_23 : decode cX9_queue 23 = .ok (.aload_n 0, 1) := by decide +kernel
theorem dX9_queue_24 : decode cX9_queue 24 = .ok (.getfield 38, 3) := by decide +kernel
theorem dX9_queue_27 : decode cX9_queue 27 = .ok (.getfield 200, 3) := by decide +kernel
theorem dX9_queue_30 : decode cX9_queue 30 = .ok (.iload_n 1, 1) := by decide +kernel
theorem dX9_queue_31 : decode cX9_queue 31 = .ok (.iaload, 1) := by decide +kernel
theorem dX9_queue_32 : decode cX9_queue 32 = .ok (.goto 5, 3) := by decide +kernel
theorem dX9_queue_35 : decode cX9_queue 35 = .ok (.bipush (-2), 2) := by decide +kernel
theorem dX9_queue_37 : decode cX9_queue 37 = .ok (.ireturn, 1) := by decide +kernel
theorem dX9_lets_0 : decode cX9_lets 0 = .ok (.aload_n 0, 1) := by decide +kernel
theorem dX9_lets_1 : decode cX9_lets 1 = .ok (.iload_n 1, 1) := by decide +kernel
theorem dX9_lets_2 : decode cX9_lets 2 = .ok (.invokevirtual 138, 3) := by decide +kernel
theorem dX9_lets_5 : decode cX9_lets 5 = .ok (.ifCond .eq 15, 3) := by decide +kernel
theorem dX9_lets_8 : decode cX9_lets 8 = .ok (.aload_n 0, 1) := by decide +kernel
theorem dX9_lets_9 : decode cX9_lets 9 = .ok (.getfield 31, 3) := by decide +kernel
theorem dX9_lets_12 : decode cX9_lets 12 = .ok (.getfield 203, 3) := by decide +kernel
theorem dX9_lets_15 : decode cX9_lets 15 = .ok (.iload_n 1, 1) := by decide +kernel
theorem dX9_lets_16 : decode cX9_lets 16 = .ok (.iaload, 1) := by decide +kernel
theorem dX9_lets_17 : decode cX9_lets 17 = .ok (.goto 4, 3) := by decide +kernel
theorem dX9_lets_20 : decode cX9_lets 20 = .ok (.iconst (-1), 1) := by decide +kernel
theorem dX9_lets_21 : decode cX9_lets 21 = .ok (.ireturn, 1) := by decide +kernel
theorem dX9_law_0 : decode cX9_law 0 = .ok (.iload_n 1, 1) := by decide +kernel
theorem dX9_law_1 : decode cX9_law 1 = .ok (.ifCond .lt 16, 3) := by decide +kernel
theorem dX9_law_4 : decode cX9_law 4 = .ok (.iload_n 1, 1) := by decide +kernel
theorem dX9_law_5 : decode cX9_law 5 = .ok (.iconst 3, 1) := by decide +kernel
theorem dX9_law_6 : decode cX9_law 6 = .ok (.if_icmp .ge 11, 3) := by decide +kernel
theorem dX9_law_9 : decode cX9_law 9 = .ok (.aload_n 0, 1) := by decide +kernel
theorem dX9_law_10 : decode cX9_law 10 = .ok (.iload_n 2, 1) := by decide +kernel
theorem dX9_law_11 : decode cX9_law 11 = .ok (.invokevirtual 138, 3) := by decide +kernel
theorem dX9_law_14 : decode cX9_law 14 = .ok (.ifCond .ne 7, 3) := by decide +kernel
theorem dX9_law_17 : decode cX9_law 17 = .ok (.ldc2_w 206, 3) := by decide +kernel
theorem dX9_law_20 : decode cX9_law 20 = .ok (.lreturn, 1) := by decide +kernel
theorem dX9_law_21 : decode cX9_law 21 = .ok (.iload_n 1, 1) := by decide +kernel
theorem dX9_law_22 : decode cX9_law 22 = .ok (.iconst 2, 1) := by decide +kernel
theorem dX9_law_23 : decode cX9_law 23 = .ok (.if_icmp .eq 15, 3) := by decide +kernel
theorem dX9_law_26 : decode cX9_law 26 = .ok (.aload_n 0, 1) := by decide +kernel
theorem dX9_law_27 : decode cX9_law 27 = .ok (.iload_n 3, 1) := by decide +kernel
theorem dX9_law_28 : decode cX9_law 28 = .ok (.invokevirtual 179, 3) := by decide +kernel
theorem dX9_law_31 : decode cX9_law 31 = .ok (.ifCond .ne 7, 3) := by decide +kernel
theorem dX9_law_34 : decode cX9_law 34 = .ok (.ldc2_w 206, 3) := by decide +kernel
theorem dX9_law_37 : decode cX9_law 37 = .ok (.lreturn, 1) := by decide +kernel
theorem dX9_law_38 : decode cX9_law 38 = .ok (.aload_n 0, 1) := by decide +kernel
theorem dX9_law_39 : decode cX9_law 39 = .ok (.getfield 38, 3) := by decide +kernel
theorem dX9_law_42 : decode cX9_law 42 = .ok (.iload_n 2, 1) := by decide +kernel
theorem dX9_law_43 : decode cX9_law 43 = .ok (.invokevirtual 159, 3) := by decide +kernel
theorem dX9_law_46 : decode cX9_law 46 = .ok (.istore 4, 2) := by decide +kernel
theorem dX9_law_48 : decode cX9_law 48 = .ok (.aload_n 0, 1) := by decide +kernel
theorem dX9_law_49 : decode cX9_law 49 = .ok (.getfield 57, 3) := by decide +kernel
theorem dX9_law_52 : decode cX9_law 52 = .ok (.aload_n 0, 1) := by decide +kernel
theorem dX9_law_53 : decode cX9_law 53 = .ok (.getfield 31, 3) := by decide +kernel
theorem dX9_law_56 : decode cX9_law 56 = .ok (.aload_n 0, 1) := by decide +kernel
theorem dX9_law_57 : decode cX9_law 57 = .ok (.getfield 38, 3) := by decide +kernel
theorem dX9_law_60 : decode cX9_law 60 = .ok (.invokevirtual 208, 3) := by decide +kernel
theorem dX9_law_63 : decode cX9_law 63 = .ok (.aload_n 0, 1) := by decide +kernel
theorem dX9_law_64 : decode cX9_law 64 = .ok (.getfield 57, 3) := by decide +kernel
theorem dX9_law_67 : decode cX9_law 67 = .ok (.iload_n 2, 1) := by decide +kernel
theorem dX9_law_68 : decode cX9_law 68 = .ok (.iload 4, 2) := by decide +kernel
theorem dX9_law_70 : decode cX9_law 70 = .ok (.ifCond .ge 8, 3) := by decide +kernel
theorem dX9_law_73 : decode cX9_law 73 = .ok (.bipush 9, 2) := by decide +kernel
theorem dX9_law_75 : decode cX9_law 75 = .ok (.goto 5, 3) := by decide +kernel
theorem dX9_law_78 : decode cX9_law 78 = .ok (.iload 4, 2) := by decide +kernel
theorem dX9_law_80 : decode cX9_law 80 = .ok (.iload_n 1, 1) := by decide +kernel
theorem dX9_law_81 : decode cX9_law 81 = .ok (.iconst 2, 1) := by decide +kernel
theorem dX9_law_82 : decode cX9_law 82 = .ok (.if_icmp .ne 7, 3) := by decide +kernel
theorem dX9_law_85 : decode cX9_law 85 = .ok (.iconst 0, 1) := by decide +kernel
theorem dX9_law_86 : decode cX9_law 86 = .ok (.goto 12, 3) := by decide +kernel
theorem dX9_law_89 : decode cX9_law 89 = .ok (.aload_n 0, 1) := by decide +kernel
theorem dX9_law_90 : decode cX9_law 90 = .ok (.getfield 31, 3) := by decide +kernel
theorem dX9_law_93 : decode cX9_law 93 = .ok (.getfield 191, 3) := by decide +kernel
theorem dX9_law_96 : decode cX9_law 96 = .ok (.iload_n 3, 1) := by decide +kernel
theorem dX9_law_97 : decode cX9_law 97 = .ok (.iaload, 1) := by decide +kernel
theorem dX9_law_98 : decode cX9_law 98 = .ok (.invokevirtual 211, 3) := by decide +kernel
theorem dX9_law_101 : decode cX9_law 101 = .ok (.aload_n 0, 1) := by decide +kernel
theorem dX9_law_102 : decode cX9_law 102 = .ok (.getfield 31, 3) := by decide +kernel
theorem dX9_law_105 : decode cX9_law 105 = .ok (.getfield 215, 3) := by decide +kernel
theorem dX9_law_108 : decode cX9_law 108 = .ok (.iload_n 1, 1) := by decide +kernel
theorem dX9_law_109 : decode cX9_law 109 = .ok (.aload_n 0, 1) := by decide +kernel
theorem dX9_law_110 : decode cX9_law 110 = .ok (.getfield 57, 3) := by decide +kernel
theorem dX9_law_113 : decode cX9_law 113 = .ok (.getfield 219, 3) := by decide +kernel
theorem dX9_law_116 : decode cX9_law 116 = .ok (.invokevirtual 223, 3) := by decide +kernel
theorem dX9_law_119 : decode cX9_law 119 = .ok (.lreturn, 1) := by decide +kernel
theorem dX9_move_0 : decode cX9_move 0 = .ok (.aload_n 0, 1) := by decide +kernel
theorem dX9_move_1 : decode cX9_move 1 = .ok (.iload_n 1, 1) := by decide +kernel
theorem dX9_move_2 : decode cX9_move 2 = .ok (.invokevirtual 138, 3) := by decide +kernel
theorem dX9_move_5 : decode cX9_move 5 = .ok (.ifCond .eq 18, 3) := by decide +kernel
theorem dX9_move_8 : decode cX9_move 8 = .ok (.iload_n 2, 1) := by decide +kernel
theorem dX9_move_9 : decode cX9_move 9 = .ok (.ifCond .lt 14, 3) := by decide +kernel
theorem dX9_move_12 : decode cX9_move 12 = .ok (.iload_n 2, 1) := by decide +kernel
theorem dX9_move_13 : decode cX9_move 13 = .ok (.aload_n 0, 1) := by decide +kernel
theorem dX9_move_14 : decode cX9_move 14 = .ok (.getfield 38, 3) := by decide +kernel
theorem dX9_move_17 : decode cX9_move 17 = .ok (.getfield 197, 3) := by decide +kernel
theorem dX9_move_20 : decode cX9_move 20 = .ok (.if_icmp .lt 5, 3) := by decide +kernel
theorem dX9_move_23 : decode cX9_move 23 = .ok (.iconst 0, 1) := by decide +kernel
theorem dX9_move_24 : decode cX9_move 24 = .ok (.ireturn, 1) := by decide +kernel
theorem dX9_move_25 : decode cX9_move 25 = .ok (.aload_n 0, 1) := by decide +kernel
theorem dX9_move_26 : decode cX9_move 26 = .ok (.getfield 38, 3) := by decide +kernel
theorem dX9_move_29 : decode cX9_move 29 = .ok (.iload_n 1, 1) := by decide +kernel
theorem dX9_move_30 : decode cX9_move 30 = .ok (.invokevirtual 159, 3) := by decide +kernel
theorem dX9_move_33 : decode cX9_move 33 = .ok (.istore_n 3, 1) := by decide +kernel
theorem dX9_move_34 : decode cX9_move 34 = .ok (.iload_n 3, 1) := by decide +kernel
theorem dX9_move_35 : decode cX9_move 35 = .ok (.ifCond .lt 8, 3) := by decide +kernel
theorem dX9_move_38 : decode cX9_move 38 = .ok (.iload_n 3, 1) := by decide +kernel
theorem dX9_move_39 : decode cX9_move 39 = .ok (.iload_n 2, 1) := by decide +kernel
theorem dX9_move_40 : decode cX9_move 40 = .ok (.if_icmp .ne 5, 3) := by decide +kernel
theorem dX9_move_43 : decode cX9_move 43 = .ok (.iconst 0, 1) := by decide +kernel
theorem dX9_move_44 : decode cX9_move 44 = .ok (.ireturn, 1) := by decide +kernel
theorem dX9_move_45 : decode cX9_move 45 = .ok (.aload_n 0, 1) := by decide +kernel
theorem dX9_move_46 : decode cX9_move 46 = .ok (.getfield 38, 3) := by decide +kernel
theorem dX9_move_49 : decode cX9_move 49 = .ok (.iload_n 3, 1) := by decide +kernel
theorem dX9_move_50 : decode cX9_move 50 = .ok (.invokevirtual 229, 3) := by decide +kernel
theorem dX9_move_53 : decode cX9_move 53 = .ok (.aload_n 0, 1) := by decide +kernel
theorem dX9_move_54 : decode cX9_move 54 = .ok (.getfield 38, 3) := by decide +kernel
theorem dX9_move_57 : decode cX9_move 57 = .ok (.iload_n 1, 1) := by decide +kernel
theorem dX9_move_58 : decode cX9_move 58 = .ok (.iload_n 2, 1) := by decide +kernel
theorem dX9_move_59 : decode cX9_move 59 = .ok (.invokevirtual 232, 3) := by decide +kernel
theorem dX9_move_62 : decode cX9_move 62 = .ok (.aload_n 0, 1) := by decide +kernel
theorem dX9_move_63 : decode cX9_move 63 = .ok (.getfield 64, 3) := by decide +kernel
theorem dX9_move_66 : decode cX9_move 66 = .ok (.iconst 0, 1) := by decide +kernel
theorem dX9_move_67 : decode cX9_move 67 = .ok (.iload_n 1, 1) := by decide +kernel
theorem dX9_move_68 : decode cX9_move 68 = .ok (.iload_n 3, 1) := by decide +kernel
theorem dX9_move_69 : decode cX9_move 69 = .ok (.invokevirtual 236, 3) := by decide +kernel
theorem dX9_move_72 : decode cX9_move 72 = .ok (.iconst 1, 1) := by decide +kernel
theorem dX9_move_73 : decode cX9_move 73 = .ok (.ireturn, 1) := by decide +kernel
theorem dX9_give_0 : decode cX9_give 0 = .ok (.aload_n 0, 1) := by decide +kernel
theorem dX9_give_1 : decode cX9_give 1 = .ok (.iload_n 1, 1) := by decide +kernel
theorem dX9_give_2 : decode cX9_give 2 = .ok (.invokevirtual 138, 3) := by decide +kernel
theorem dX9_give_5 : decode cX9_give 5 = .ok (.ifCond .eq 14, 3) := by decide +kernel
theorem dX9_give_8 : decode cX9_give 8 = .ok (.iload_n 2, 1) := by decide +kernel
theorem dX9_give_9 : decode cX9_give 9 = .ok (.iconst 1, 1) := by decide +kernel
theorem dX9_give_10 : decode cX9_give 10 = .ok (.if_icmp .lt 9, 3) := by decide +kernel
theorem dX9_give_13 : decode cX9_give 13 = .ok (.iload_n 2, 1) := by decide +kernel
theorem dX9_give_14 : decode cX9_give 14 = .ok (.bipush 99, 2) := by decide +kernel
theorem dX9_give_16 : decode cX9_give 16 = .ok (.if_icmp .le 5, 3) := by decide +kernel
theorem dX9_give_19 : decode cX9_give 19 = .ok (.iconst (-1), 1) := by decide +kernel
theorem dX9_give_20 : decode cX9_give 20 = .ok (.ireturn, 1) := by decide +kernel
theorem dX9_give_21 : decode cX9_give 21 = .ok (.aload_n 0, 1) := by decide +kernel
theorem dX9_give_22 : decode cX9_give 22 = .ok (.getfield 38, 3) := by decide +kernel
theorem dX9_give_25 : decode cX9_give 25 = .ok (.getfield 149, 3) := by decide +kernel
theorem dX9_give_28 : decode cX9_give 28 = .ok (.iload_n 1, 1) := by decide +kernel
theorem dX9_give_29 : decode cX9_give 29 = .ok (.iaload, 1) := by decide +kernel
theorem dX9_give_30 : decode cX9_give 30 = .ok (.iconst 2, 1) := by decide +kernel
theorem dX9_give_31 : decode cX9_give 31 = .ok (.if_icmp .eq 16, 3) := by decide +kernel
theorem dX9_give_34 : decode cX9_give 34 = .ok (.aload_n 0, 1) := by decide +kernel
theorem dX9_give_35 : decode cX9_give 35 = .ok (.getfield 38, 3) := by decide +kernel
theorem dX9_give_38 : decode cX9_give 38 = .ok (.getfield 149, 3) := by decide +kernel
theorem dX9_give_41 : decode cX9_give 41 = .ok (.iload_n 1, 1) := by decide +kernel
theorem dX9_give_42 : decode cX9_give 42 = .ok (.iaload, 1) := by decide +kernel
theorem dX9_give_43 : decode cX9_give 43 = .ok (.iconst 3, 1) := by decide +kernel
theorem dX9_give_44 : decode cX9_give 44 = .ok (.if_icmp .ne 5, 3) := by decide +kernel
theorem dX9_give_47 : decode cX9_give 47 = .ok (.iconst (-1), 1) := by decide +kernel
theorem dX9_give_48 : decode cX9_give 48 = .ok (.ireturn, 1) := by decide +kernel
theorem dX9_give_49 : decode cX9_give 49 = .ok (.aload_n 0, 1) := by decide +kernel
theorem dX9_give_50 : decode cX9_give 50 = .ok (.getfield 64, 3) := by decide +kernel
theorem dX9_give_53 : decode cX9_give 53 = .ok (.iconst 1, 1) := by decide +kernel
theorem dX9_give_54 : decode cX9_give 54 = .ok (.iload_n 1, 1) := by decide +kernel
theorem dX9_give_55 : decode cX9_give 55 = .ok (.aload_n 0, 1) := by decide +kernel
theorem dX9_give_56 : decode cX9_give 56 = .ok (.getfield 38, 3) := by decide +kernel
theorem dX9_give_59 : decode cX9_give 59 = .ok (.getfield 155, 3) := by decide +kernel
theorem dX9_give_62 : decode cX9_give 62 = .ok (.iload_n 1, 1) := by decide +kernel
theorem dX9_give_63 : decode cX9_give 63 = .ok (.iaload, 1) := by decide +kernel
theorem dX9_give_64 : decode cX9_give 64 = .ok (.invokevirtual 236, 3) := by decide +kernel
theorem dX9_give_67 : decode cX9_give 67 = .ok (.aload_n 0, 1) := by decide +kernel
theorem dX9_give_68 : decode cX9_give 68 = .ok (.getfield 38, 3) := by decide +kernel
theorem dX9_give_71 : decode cX9_give 71 = .ok (.getfield 155, 3) := by decide +kernel
theorem dX9_give_74 : decode cX9_give 74 = .ok (.iload_n 1, 1) := by decide +kernel
theorem dX9_give_75 : decode cX9_give 75 = .ok (.aload_n 0, 1) := by decide +kernel
theorem dX9_give_76 : decode cX9_give 76 = .ok (.getfield 38, 3) := by decide +kernel
theorem dX9_give_79 : decode cX9_give 79 = .ok (.getfield 155, 3) := by decide +kernel
theorem dX9_give_82 : decode cX9_give 82 = .ok (.iload_n 1, 1) := by decide +kernel
theorem dX9_give_83 : decode cX9_give 83 = .ok (.iaload, 1) := by decide +kernel
theorem dX9_give_84 : decode cX9_give 84 = .ok (.iload_n 2, 1) := by decide +kernel
theorem dX9_give_85 : decode cX9_give 85 = .ok (.iadd, 1) := by decide +kernel
theorem dX9_give_86 : decode cX9_give 86 = .ok (.bipush 99, 2) := by decide +kernel
theorem dX9_give_88 : decode cX9_give 88 = .ok (.invokestatic 239, 3) := by decide +kernel
theorem dX9_give_91 : decode cX9_give 91 = .ok (.iastore, 1) := by decide +kernel
theorem dX9_give_92 : decode cX9_give 92 = .ok (.aload_n 0, 1) := by decide +kernel
theorem dX9_give_93 : decode cX9_give 93 = .ok (.getfield 38, 3) := by decide +kernel
theorem dX9_give_96 : decode cX9_give 96 = .ok (.getfield 155, 3) := by decide +kernel
theorem dX9_give_99 : decode cX9_give 99 = .ok (.iload_n 1, 1) := by decide +kernel
theorem dX9_give_100 : decode cX9_give 100 = .ok (.iaload, 1) := by decide +kernel
theorem dX9_give_101 : decode cX9_give 101 = .ok (.ireturn, 1) := by decide +kernel
theorem dX9_off_0 : decode cX9_off 0 = .ok (.aload_n 0, 1) := by decide +kernel
theorem dX9_off_1 : decode cX9_off 1 = .ok (.iload_n 1, 1) := by decide +kernel
theorem dX9_off_2 : decode cX9_off 2 = .ok (.invokevirtual 138, 3) := by decide +kernel
theorem dX9_off_5 : decode cX9_off 5 = .ok (.ifCond .ne 5, 3) := by decide +kernel
theorem dX9_off_8 : decode cX9_off 8 = .ok (.iconst (-1), 1) := by decide +kernel
theorem dX9_off_9 : decode cX9_off 9 = .ok (.ireturn, 1) := by decide +kernel
theorem dX9_off_10 : decode cX9_off 10 = .ok (.aload_n 0, 1) := by decide +kernel
theorem dX9_off_11 : decode cX9_off 11 = .ok (.getfield 38, 3) := by decide +kernel
theorem dX9_off_14 : decode cX9_off 14 = .ok (.iload_n 1, 1) := by decide +kernel
theorem dX9_off_15 : decode cX9_off 15 = .ok (.invokevirtual 159, 3) := by decide +kernel
theorem dX9_off_18 : decode cX9_off 18 = .ok (.istore_n 2, 1) := by decide +kernel
theorem dX9_off_19 : decode cX9_off 19 = .ok (.iload_n 2, 1) := by decide +kernel
theorem dX9_off_20 : decode cX9_off 20 = .ok (.ifCond .ge 5, 3) := by decide +kernel
theorem dX9_off_23 : decode cX9_off 23 = .ok (.iconst (-1), 1) := by decide +kernel
theorem dX9_off_24 : decode cX9_off 24 = .ok (.ireturn, 1) := by decide +kernel
theorem dX9_off_25 : decode cX9_off 25 = .ok (.aload_n 0, 1) := by decide +kernel
theorem dX9_off_26 : decode cX9_off 26 = .ok (.getfield 38, 3) := by decide +kernel
theorem dX9_off_29 : decode cX9_off 29 = .ok (.iload_n 2, 1) := by decide +kernel
theorem dX9_off_30 : decode cX9_off 30 = .ok (.invokevirtual 229, 3) := by decide +kernel
theorem dX9_off_33 : decode cX9_off 33 = .ok (.aload_n 0, 1) := by decide +kernel
theorem dX9_off_34 : decode cX9_off 34 = .ok (.getfield 38, 3) := by decide +kernel
theorem dX9_off_37 : decode cX9_off 37 = .ok (.getfield 149, 3) := by decide +kernel
theorem dX9_off_40 : decode cX9_off 40 = .ok (.iload_n 1, 1) := by decide +kernel
theorem dX9_off_41 : decode cX9_off 41 = .ok (.iconst 3, 1) := by decide +kernel
theorem dX9_off_42 : decode cX9_off 42 = .ok (.iastore, 1) := by decide +kernel
theorem dX9_off_43 : decode cX9_off 43 = .ok (.aload_n 0, 1) := by decide +kernel
theorem dX9_off_44 : decode cX9_off 44 = .ok (.getfield 64, 3) := by decide +kernel
theorem dX9_off_47 : decode cX9_off 47 = .ok (.iconst 2, 1) := by decide +kernel
theorem dX9_off_48 : decode cX9_off 48 = .ok (.iload_n 1, 1) := by decide +kernel
theorem dX9_off_49 : decode cX9_off 49 = .ok (.iload_n 2, 1) := by decide +kernel
theorem dX9_off_50 : decode cX9_off 50 = .ok (.invokevirtual 236, 3) := by decide +kernel
theorem dX9_off_53 : decode cX9_off 53 = .ok (.aload_n 0, 1) := by decide +kernel
theorem dX9_off_54 : decode cX9_off 54 = .ok (.getfield 38, 3) := by decide +kernel
theorem dX9_off_57 : decode cX9_off 57 = .ok (.getfield 197, 3) := by decide +kernel
theorem dX9_off_60 : decode cX9_off 60 = .ok (.ireturn, 1) := by decide +kernel
theorem dX9_go_0 : decode cX9_go 0 = .ok (.iload_n 1, 1) := by decide +kernel
theorem dX9_go_1 : decode cX9_go 1 = .ok (.ifCond .lt 25, 3) := by decide +kernel
theorem dX9_go_4 : decode cX9_go 4 = .ok (.iload_n 1, 1) := by decide +kernel
theorem dX9_go_5 : decode cX9_go 5 = .ok (.sipush 200, 3) := by decide +kernel
theorem dX9_go_8 : decode cX9_go 8 = .ok (.if_icmp .gt 18, 3) := by decide +kernel
theorem dX9_go_11 : decode cX9_go 11 = .ok (.aload_n 0, 1) := by decide +kernel
theorem dX9_go_12 : decode cX9_go 12 = .ok (.getfield 38, 3) := by decide +kernel
theorem dX9_go_15 : decode cX9_go 15 = .ok (.getfield 245, 3) := by decide +kernel
theorem dX9_go_18 : decode cX9_go 18 = .ok (.iload_n 1, 1) := by decide +kernel
theorem dX9_go_19 : decode cX9_go 19 = .ok (.iadd, 1) := by decide +kernel
theorem dX9_go_20 : decode cX9_go 20 = .ok (.sipush 9800, 3) := by decide +kernel
theorem dX9_go_23 : decode cX9_go 23 = .ok (.if_icmp .le 5, 3) := by decide +kernel
theorem dX9_go_26 : decode cX9_go 26 = .ok (.iconst (-1), 1) := by decide +kernel
theorem dX9_go_27 : decode cX9_go 27 = .ok (.ireturn, 1) := by decide +kernel
theorem dX9_go_28 : decode cX9_go 28 = .ok (.aload_n 0, 1) := by decide +kernel
theorem dX9_go_29 : decode cX9_go 29 = .ok (.getfield 57, 3) := by decide +kernel
theorem dX9_go_32 : decode cX9_go 32 = .ok (.aload_n 0, 1) := by decide +kernel
theorem dX9_go_33 : decode cX9_go 33 = .ok (.getfield 31, 3) := by decide +kernel
theorem dX9_go_36 : decode cX9_go 36 = .ok (.aload_n 0, 1) := by decide +kernel
theorem dX9_go_37 : decode cX9_go 37 = .ok (.getfield 38, 3) := by decide +kernel
theorem dX9_go_40 : decode cX9_go 40 = .ok (.invokevirtual 208, 3) := by decide +kernel
theorem dX9_go_43 : decode cX9_go 43 = .ok (.aload_n 0, 1) := by decide +kernel
theorem dX9_go_44 : decode cX9_go 44 = .ok (.getfield 57, 3) := by decide +kernel
theorem dX9_go_47 : decode cX9_go 47 = .ok (.iconst 1, 1) := by decide +kernel
theorem dX9_go_48 : decode cX9_go 48 = .ok (.putfield 248, 3) := by decide +kernel
theorem dX9_go_51 : decode cX9_go 51 = .ok (.aload_n 0, 1) := by decide +kernel
theorem dX9_go_52 : decode cX9_go 52 = .ok (.getfield 57, 3) := by decide +kernel
theorem dX9_go_55 : decode cX9_go 55 = .ok (.iload_n 1, 1) := by decide +kernel
theorem dX9_go_56 : decode cX9_go 56 = .ok (.invokevirtual 251, 3) := by decide +kernel
theorem dX9_go_59 : decode cX9_go 59 = .ok (.iload_n 1, 1) := by decide +kernel
theorem dX9_go_60 : decode cX9_go 60 = .ok (.ifCond .le 11, 3) := by decide +kernel
theorem dX9_go_63 : decode cX9_go 63 = .ok (.aload_n 0, 1) := by decide +kernel
theorem dX9_go_64 : decode cX9_go 64 = .ok (.getfield 64, 3) := by decide +kernel
theorem dX9_go_67 : decode cX9_go 67 = .ok (.iconst 0, 1) := by decide +kernel
theorem dX9_go_68 : decode cX9_go 68 = .ok (.putfield 110, 3) := by decide +kernel
theorem dX9_go_71 : decode cX9_go 71 = .ok (.aload_n 0, 1) := by decide +kernel
theorem dX9_go_72 : decode cX9_go 72 = .ok (.getfield 38, 3) := by decide +kernel
theorem dX9_go_75 : decode cX9_go 75 = .ok (.getfield 245, 3) := by decide +kernel
theorem dX9_go_78 : decode cX9_go 78 = .ok (.ireturn, 1) := by decide +kernel
theorem dX9_tryFromNow_0 : decode cX9_tryFromNow 0 = .ok (.aload_n 0, 1) := by decide +kernel
theorem dX9_tryFromNow_1 : decode cX9_tryFromNow 1 = .ok (.getfield 42, 3) := by decide +kernel
theorem dX9_tryFromNow_4 : decode cX9_tryFromNow 4 = .ok (.aload_n 0, 1) := by decide +kernel
theorem dX9_tryFromNow_5 : decode cX9_tryFromNow 5 = .ok (.getfield 38, 3) := by decide +kernel
theorem dX9_tryFromNow_8 : decode cX9_tryFromNow 8 = .ok (.invokevirtual 254, 3) := by decide +kernel
theorem dX9_tryFromNow_11 : decode cX9_tryFromNow 11 = .ok (.aload_n 0, 1) := by decide +kernel
theorem dX9_tryFromNow_12 : decode cX9_tryFromNow 12 = .ok (.getfield 57, 3) := by decide +kernel
theorem dX9_tryFromNow_15 : decode cX9_tryFromNow 15 = .ok (.aload_n 0, 1) := by decide +kernel
theorem dX9_tryFromNow_16 : decode cX9_tryFromNow 16 = .ok (.getfield 31, 3) := by decide +kernel
theorem dX9_tryFromNow_19 : decode cX9_tryFromNow 19 = .ok (.aload_n 0, 1) := by decide +kernel
theorem dX9_tryFromNow_20 : decode cX9_tryFromNow 20 = .ok (.getfield 42, 3) := by decide +kernel
theorem dX9_tryFromNow_23 : decode cX9_tryFromNow 23 = .ok (.invokevirtual 208, 3) := by decide +kernel
theorem dX9_tryFromNow_26 : decode cX9_tryFromNow 26 = .ok (.return_, 1) := by decide +kernel
theorem dX9_ahead_0 : decode cX9_ahead 0 = .ok (.iload_n 1, 1) := by decide +kernel
theorem dX9_ahead_1 : decode cX9_ahead 1 = .ok (.ifCond .lt 19, 3) := by decide +kernel
theorem dX9_ahead_4 : decode cX9_ahead 4 = .ok (.iload_n 1, 1) := by decide +kernel
theorem dX9_ahead_5 : decode cX9_ahead 5 = .ok (.sipush 200, 3) := by decide +kernel
theorem dX9_ahead_8 : decode cX9_ahead 8 = .ok (.if_icmp .gt 12, 3) := by decide +kernel
theorem dX9_ahead_11 : decode cX9_ahead 11 = .ok (.iload_n 2, 1) := by decide +kernel
theorem dX9_ahead_12 : decode cX9_ahead 12 = .ok (.ifCond .lt 8, 3) := by decide +kernel
theorem dX9_ahead_15 : decode cX9_ahead 15 = .ok (.iload_n 2, 1) := by decide +kernel
theorem dX9_ahead_16 : decode cX9_ahead 16 = .ok (.iconst 4, 1) := by decide +kernel
theorem dX9_ahead_17 : decode cX9_ahead 17 = .ok (.if_icmp .le 5, 3) := by decide +kernel
theorem dX9_ahead_20 : decode cX9_ahead 20 = .ok (.iconst (-1), 1) := by decide +kernel
theorem dX9_ahead_21 : decode cX9_ahead 21 = .ok (.ireturn, 1) := by decide +kernel
theorem dX9_ahead_22 : decode cX9_ahead 22 = .ok (.iload_n 2, 1) := by decide +kernel
theorem dX9_ahead_23 : decode cX9_ahead 23 = .ok (.iconst 3, 1) := by decide +kernel
theorem dX9_ahead_24 : decode cX9_ahead 24 = .ok (.if_icmp .ne 13, 3) := by decide +kernel
theorem dX9_ahead_27 : decode cX9_ahead 27 = .ok (.aload_n 0, 1) := by decide +kernel
theorem dX9_ahead_28 : decode cX9_ahead 28 = .ok (.iload_n 3, 1) := by decide +kernel
theorem dX9_ahead_29 : decode cX9_ahead 29 = .ok (.invokevirtual 138, 3) := by decide +kernel
theorem dX9_ahead_32 : decode cX9_ahead 32 = .ok (.ifCond .ne 5, 3) := by decide +kernel
theorem dX9_ahead_35 : decode cX9_ahead 35 = .ok (.iconst (-1), 1) := by decide +kernel
theorem dX9_ahead_36 : decode cX9_ahead 36 = .ok (.ireturn, 1) := by decide +kernel
theorem dX9_ahead_37 : decode cX9_ahead 37 = .ok (.aload_n 0, 1) := by decide +kernel
theorem dX9_ahead_38 : decode cX9_ahead 38 = .ok (.invokevirtual 258, 3) := by decide +kernel
theorem dX9_ahead_41 : decode cX9_ahead 41 = .ok (.aload_n 0, 1) := by decide +kernel
theorem dX9_ahead_42 : decode cX9_ahead 42 = .ok (.getfield 57, 3) := by decide +kernel
theorem dX9_ahead_45 : decode cX9_ahead 45 = .ok (.iload_n 1, 1) := by decide +kernel
theorem dX9_ahead_46 : decode cX9_ahead 46 = .ok (.invokevirtual 251, 3) := by decide +kernel
theorem dX9_ahead_49 : decode cX9_ahead 49 = .ok (.iload_n 2, 1) := by decide +kernel
theorem dX9_ahead_50 : decode cX9_ahead 50 = .ok (.tableswitch 89 0 3 #[30, 46, 55, 79], 30) := by decide +kernel
theorem dX9_ahead_80 : decode cX9_ahead 80 = .ok (.aload_n 0, 1) := by decide +kernel
theorem dX9_ahead_81 : decode cX9_ahead 81 = .ok (.getfield 42, 3) := by decide +kernel
theorem dX9_ahead_84 : decode cX9_ahead 84 = .ok (.iconst 2, 1) := by decide +kernel
theorem dX9_ahead_85 : decode cX9_ahead 85 = .ok (.aload_n 0, 1) := by decide +kernel
theorem dX9_ahead_86 : decode cX9_ahead 86 = .ok (.getfield 31, 3) := by decide +kernel
theorem dX9_ahead_89 : decode cX9_ahead 89 = .ok (.getfield 125, 3) := by decide +kernel
theorem dX9_ahead_92 : decode cX9_ahead 92 = .ok (.invokevirtual 261, 3) := by decide +kernel
theorem dX9_ahead_95 : decode cX9_ahead 95 = .ok (.ireturn, 1) := by decide +kernel
theorem dX9_ahead_96 : decode cX9_ahead 96 = .ok (.aload_n 0, 1) := by decide +kernel
theorem dX9_ahead_97 : decode cX9_ahead 97 = .ok (.aload_n 0, 1) := by decide +kernel
theorem dX9_ahead_98 : decode cX9_ahead 98 = .ok (.getfield 42, 3) := by decide +kernel
theorem dX9_ahead_101 : decode cX9_ahead 101 = .ok (.invokevirtual 264, 3) := by decide +kernel
theorem dX9_ahead_104 : decode cX9_ahead 104 = .ok (.ireturn, 1) := by decide +kernel
theorem dX9_ahead_105 : decode cX9_ahead 105 = .ok (.aload_n 0, 1) := by decide +kernel
theorem dX9_ahead_106 : decode cX9_ahead 106 = .ok (.aload_n 0, 1) := by decide +kernel
theorem dX9_ahead_107 : decode cX9_ahead 107 = .ok (.getfield 42, 3) := by decide +kernel
theorem dX9_ahead_110 : decode cX9_ahead 110 = .ok (.getfield 162, 3) := by decide +kernel
theorem dX9_ahead_113 : decode cX9_ahead 113 = .ok (.invokevirtual 268, 3) := by decide +kernel
theorem dX9_ahead_116 : decode cX9_ahead 116 = .ok (.aload_n 0, 1) := by decide +kernel
theorem dX9_ahead_117 : decode cX9_ahead 117 = .ok (.aload_n 0, 1) := by decide +kernel
theorem dX9_ahead_118 : decode cX9_ahead 118 = .ok (.getfield 38, 3) := by decide +kernel
theorem dX9_ahead_121 : decode cX9_ahead 121 = .ok (.getfield 162, 3) := by decide +kernel
theorem dX9_ahead_124 : decode cX9_ahead 124 = .ok (.invokevirtual 268, 3) := by decide +kernel
theorem dX9_ahead_127 : decode cX9_ahead 127 = .ok (.isub, 1) := by decide +kernel
theorem dX9_ahead_128 : decode cX9_ahead 128 = .ok (.ireturn, 1) := by decide +kernel
theorem dX9_ahead_129 : decode cX9_ahead 129 = .ok (.aload_n 0, 1) := by decide +kernel
theorem dX9_ahead_130 : decode cX9_ahead 130 = .ok (.getfield 42, 3) := by decide +kernel
theorem dX9_ahead_133 : decode cX9_ahead 133 = .ok (.getfield 156, 3) := by decide +kernel
theorem dX9_ahead_136 : decode cX9_ahead 136 = .ok (.iload_n 3, 1) := by decide +kernel
theorem dX9_ahead_137 : decode cX9_ahead 137 = .ok (.iaload, 1) := by decide +kernel
theorem dX9_ahead_138 : decode cX9_ahead 138 = .ok (.ireturn, 1) := by decide +kernel
theorem dX9_ahead_139 : decode cX9_ahead 139 = .ok (.aload_n 0, 1) := by decide +kernel
theorem dX9_ahead_140 : decode cX9_ahead 140 = .ok (.getfield 42, 3) := by decide +kernel
theorem dX9_ahead_143 : decode cX9_ahead 143 = .ok (.getfield 197, 3) := by decide +kernel
theorem dX9_ahead_146 : decode cX9_ahead 146 = .ok (.ireturn, 1) := by decide +kernel
theorem dX9_kindnessGone_0 : decode cX9_kindnessGone 0 = .ok (.iconst 0, 1) := by decide +kernel
theorem dX9_kindnessGone_1 : decode cX9_kindnessGone 1 = .ok (.istore_n 2, 1) := by decide +kernel
theorem dX9_kindnessGone_2 : decode cX9_kindnessGone 2 = .ok (.iconst 0, 1) := by decide +kernel
theorem dX9_kindnessGone_3 : decode cX9_kindnessGone 3 = .ok (.istore_n 3, 1) := by decide +kernel
theorem dX9_kindnessGone_4 : decode cX9_kindnessGone 4 = .ok (.iload_n 3, 1) := by decide +kernel
theorem dX9_kindnessGone_5 : decode cX9_kindnessGone 5 = .ok (.aload_n 0, 1) := by decide +kernel
theorem dX9_kindnessGone_6 : decode cX9_kindnessGone 6 = .ok (.getfield 31, 3) := by decide +kernel
theorem dX9_kindnessGone_9 : decode cX9_kindnessGone 9 = .ok (.getfield 125, 3) := by decide +kernel
theorem dX9_kindnessGone_12 : decode cX9_kindnessGone 12 = .ok (.if_icmp .ge 31, 3) := by decide +kernel
theorem dX9_kindnessGone_15 : decode cX9_kindnessGone 15 = .ok (.aload_n 1, 1) := by decide +kernel
theorem dX9_kindnessGone_16 : decode cX9_kindnessGone 16 = .ok (.getfield 149, 3) := by decide +kernel
theorem dX9_kindnessGone_19 : decode cX9_kindnessGone 19 = .ok (.iload_n 3, 1) := by decide +kernel
theorem dX9_kindnessGone_20 : decode cX9_kindnessGone 20 = .ok (.iaload, 1) := by decide +kernel
theorem dX9_kindnessGone_21 : decode cX9_kindnessGone 21 = .ok (.iconst 2, 1) := by decide +kernel
theorem dX9_kindnessGone_22 : decode cX9_kindnessGone 22 = .ok (.if_icmp .ne 15, 3) := by decide +kernel
theorem dX9_kindnessGone_25 : decode cX9_kindnessGone 25 = .ok (.iload_n 2, 1) := by decide +kernel
theorem dX9_kindnessGone_26 : decode cX9_kindnessGone 26 = .ok (.aload_n 0, 1) := by decide +kernel
theorem dX9_kindnessGone_27 : decode cX9_kindnessGone 27 = .ok (.getfield 31, 3) := by decide +kernel
theorem dX9_kindnessGone_30 : decode cX9_kindnessGone 30 = .ok (.getfield 152, 3) := by decide +kernel
theorem dX9_kindnessGone_33 : decode cX9_kindnessGone 33 = .ok (.iload_n 3, 1) := by decide +kernel
theorem dX9_kindnessGone_34 : decode cX9_kindnessGone 34 = .ok (.iaload, 1) := by decide +kernel
theorem dX9_kindnessGone_35 : decode cX9_kindnessGone 35 = .ok (.iadd, 1) := by decide +kernel
theorem dX9_kindnessGone_36 : decode cX9_kindnessGone 36 = .ok (.istore_n 2, 1) := by decide +kernel
theorem dX9_kindnessGone_37 : decode cX9_kindnessGone 37 = .ok (.iinc 3 1, 3) := by decide +kernel
theorem dX9_kindnessGone_40 : decode cX9_kindnessGone 40 = .ok (.goto (-36), 3) := by decide +kernel
theorem dX9_kindnessGone_43 : decode cX9_kindnessGone 43 = .ok (.iload_n 2, 1) := by decide +kernel
theorem dX9_kindnessGone_44 : decode cX9_kindnessGone 44 = .ok (.ireturn, 1) := by decide +kernel
theorem dX9_sum_0 : decode cX9_sum 0 = .ok (.iconst 0, 1) := by decide +kernel
theorem dX9_sum_1 : decode cX9_sum 1 = .ok (.istore_n 2, 1) := by decide +kernel
theorem dX9_sum_2 : decode cX9_sum 2 = .ok (.iconst 0, 1) := by decide +kernel
theorem dX9_sum_3 : decode cX9_sum 3 = .ok (.istore_n 3, 1) := by decide +kernel
theorem dX9_sum_4 : decode cX9_sum 4 = .ok (.iload_n 3, 1) := by decide +kernel
theorem dX9_sum_5 : decode cX9_sum 5 = .ok (.aload_n 0, 1) := by decide +kernel
theorem dX9_sum_6 : decode cX9_sum 6 = .ok (.getfield 31, 3) := by decide +kernel
theorem dX9_sum_9 : decode cX9_sum 9 = .ok (.getfield 125, 3) := by decide +kernel
theorem dX9_sum_12 : decode cX9_sum 12 = .ok (.if_icmp .ge 21, 3) := by decide +kernel
theorem dX9_sum_15 : decode cX9_sum 15 = .ok (.iload_n 3, 1) := by decide +kernel
theorem dX9_sum_16 : decode cX9_sum 16 = .ok (.aload_n 1, 1) := by decide +kernel
theorem dX9_sum_17 : decode cX9_sum 17 = .ok (.arraylength, 1) := by decide +kernel
theorem dX9_sum_18 : decode cX9_sum 18 = .ok (.if_icmp .ge 15, 3) := by decide +kernel
theorem dX9_sum_21 : decode cX9_sum 21 = .ok (.iload_n 2, 1) := by decide +kernel
theorem dX9_sum_22 : decode cX9_sum 22 = .ok (.aload_n 1, 1) := by decide +kernel
theorem dX9_sum_23 : decode cX9_sum 23 = .ok (.iload_n 3, 1) := by decide +kernel
theorem dX9_sum_24 : decode cX9_sum 24 = .ok (.iaload, 1) := by decide +kernel
theorem dX9_sum_25 : decode cX9_sum 25 = .ok (.iadd, 1) := by decide +kernel
theorem dX9_sum_26 : decode cX9_sum 26 = .ok (.istore_n 2, 1) := by decide +kernel
theorem dX9_sum_27 : decode cX9_sum 27 = .ok (.iinc 3 1, 3) := by decide +kernel
theorem dX9_sum_30 : decode cX9_sum 30 = .ok (.goto (-26), 3) := by decide +kernel
theorem dX9_sum_33 : decode cX9_sum 33 = .ok (.iload_n 2, 1) := by decide +kernel
theorem dX9_sum_34 : decode cX9_sum 34 = .ok (.ireturn, 1) := by decide +kernel
theorem dX9_next_0 : decode cX9_next 0 = .ok (.aload_n 0, 1) := by decide +kernel
theorem dX9_next_1 : decode cX9_next 1 = .ok (.iload_n 1, 1) := by decide +kernel
theorem dX9_next_2 : decode cX9_next 2 = .ok (.invokevirtual 179, 3) := by decide +kernel
theorem dX9_next_5 : decode cX9_next 5 = .ok (.ifCond .eq 26, 3) := by decide +kernel
theorem dX9_next_8 : decode cX9_next 8 = .ok (.aload_n 0, 1) := by decide +kernel
theorem dX9_next_9 : decode cX9_next 9 = .ok (.aload_n 0, 1) := by decide +kernel
theorem dX9_next_10 : decode cX9_next 10 = .ok (.getfield 38, 3) := by decide +kernel
theorem dX9_next_13 : decode cX9_next 13 = .ok (.getfield 245, 3) := by decide +kernel
theorem dX9_next_16 : decode cX9_next 16 = .ok (.iload_n 1, 1) := by decide +kernel
theorem dX9_next_17 : decode cX9_next 17 = .ok (.invokevirtual 272, 3) := by decide +kernel
theorem dX9_next_20 : decode cX9_next 20 = .ok (.aload_n 0, 1) := by decide +kernel
theorem dX9_next_21 : decode cX9_next 21 = .ok (.getfield 38, 3) := by decide +kernel
theorem dX9_next_24 : decode cX9_next 24 = .ok (.getfield 245, 3) := by decide +kernel
theorem dX9_next_27 : decode cX9_next 27 = .ok (.isub, 1) := by decide +kernel
theorem dX9_next_28 : decode cX9_next 28 = .ok (.goto 4, 3) := by decide +kernel
theorem dX9_next_31 : decode cX9_next 31 = .ok (.iconst (-1), 1) := by decide +kernel
theorem dX9_next_32 : decode cX9_next 32 = .ok (.ireturn, 1) := by decide +kernel
theorem dX9_firstFrom_0 : decode cX9_firstFrom 0 = .ok (.aload_n 0, 1) := by decide +kernel
theorem dX9_firstFrom_1 : decode cX9_firstFrom 1 = .ok (.getfield 31, 3) := by decide +kernel
theorem dX9_firstFrom_4 : decode cX9_firstFrom 4 = .ok (.getfield 185, 3) := by decide +kernel
theorem dX9_firstFrom_7 : decode cX9_firstFrom 7 = .ok (.iload_n 2, 1) := by decide +kernel
theorem dX9_firstFrom_8 : decode cX9_firstFrom 8 = .ok (.iaload, 1) := by decide +kernel
theorem dX9_firstFrom_9 : decode cX9_firstFrom 9 = .ok (.istore_n 3, 1) := by decide +kernel
theorem dX9_firstFrom_10 : decode cX9_firstFrom 10 = .ok (.iload_n 1, 1) := by decide +kernel
theorem dX9_firstFrom_11 : decode cX9_firstFrom 11 = .ok (.aload_n 0, 1) := by decide +kernel
theorem dX9_firstFrom_12 : decode cX9_firstFrom 12 = .ok (.getfield 31, 3) := by decide +kernel
theorem dX9_firstFrom_15 : decode cX9_firstFrom 15 = .ok (.getfield 182, 3) := by decide +kernel
theorem dX9_firstFrom_18 : decode cX9_firstFrom 18 = .ok (.iload_n 2, 1) := by decide +kernel
theorem dX9_firstFrom_19 : decode cX9_firstFrom 19 = .ok (.iaload, 1) := by decide +kernel
theorem dX9_firstFrom_20 : decode cX9_firstFrom 20 = .ok (.if_icmp .le 8, 3) := by decide +kernel
theorem dX9_firstFrom_23 : decode cX9_firstFrom 23 = .ok (.iload_n 3, 1) := by decide +kernel
theorem dX9_firstFrom_24 : decode cX9_firstFrom 24 = .ok (.iconst 1, 1) := by decide +kernel
theorem dX9_firstFrom_25 : decode cX9_firstFrom 25 = .ok (.if_icmp .ge 13, 3) := by decide +kernel
theorem dX9_firstFrom_28 : decode cX9_firstFrom 28 = .ok (.aload_n 0, 1) := by decide +kernel
theorem dX9_firstFrom_29 : decode cX9_firstFrom 29 = .ok (.getfield 31, 3) := by decide +kernel
theorem dX9_firstFrom_32 : decode cX9_firstFrom 32 = .ok (.getfield 182, 3) := by decide +kernel
theorem dX9_firstFrom_35 : decode cX9_firstFrom 35 = .ok (.iload_n 2, 1) := by decide +kernel
theorem dX9_firstFrom_36 : decode cX9_firstFrom 36 = .ok (.iaload, 1) := by decide +kernel
theorem dX9_firstFrom_37 : decode cX9_firstFrom 37 = .ok (.ireturn, 1) := by decide +kernel
theorem dX9_firstFrom_38 : decode cX9_firstFrom 38 = .ok (.iload_n 1, 1) := by decide +kernel
theorem dX9_firstFrom_39 : decode cX9_firstFrom 39 = .ok (.aload_n 0, 1) := by decide +kernel
theorem dX9_firstFrom_40 : decode cX9_firstFrom 40 = .ok (.getfield 31, 3) := by decide +kernel
theorem dX9_firstFrom_43 : decode cX9_firstFrom 43 = .ok (.getfield 182, 3) := by decide +kernel
theorem dX9_firstFrom_46 : decode cX9_firstFrom 46 = .ok (.iload_n 2, 1) := by decide +kernel
theorem dX9_firstFrom_47 : decode cX9_firstFrom 47 = .ok (.iaload, 1) := by decide +kernel
theorem dX9_firstFrom_48 : decode cX9_firstFrom 48 = .ok (.isub, 1) := by decide +kernel
theorem dX9_firstFrom_49 : decode cX9_firstFrom 49 = .ok (.iload_n 3, 1) := by decide +kernel
theorem dX9_firstFrom_50 : decode cX9_firstFrom 50 = .ok (.irem, 1) := by decide +kernel
theorem dX9_firstFrom_51 : decode cX9_firstFrom 51 = .ok (.istore 4, 2) := by decide +kernel
theorem dX9_firstFrom_53 : decode cX9_firstFrom 53 = .ok (.iload 4, 2) := by decide +kernel
theorem dX9_firstFrom_55 : decode cX9_firstFrom 55 = .ok (.ifCond .ne 7, 3) := by decide +kernel
theorem dX9_firstFrom_58 : decode cX9_firstFrom 58 = .ok (.iload_n 1, 1) := by decide +kernel
theorem dX9_firstFrom_59 : decode cX9_firstFrom 59 = .ok (.goto 9, 3) := by decide +kernel
theorem dX9_firstFrom_62 : decode cX9_firstFrom 62 = .ok (.iload_n 1, 1) := by decide +kernel
theorem dX9_firstFrom_63 : decode cX9_firstFrom 63 = .ok (.iload_n 3, 1) := by decide +kernel
theorem dX9_firstFrom_64 : decode cX9_firstFrom 64 = .ok (.iadd, 1) := by decide +kernel
theorem dX9_firstFrom_65 : decode cX9_firstFrom 65 = .ok (.iload 4, 2) := by decide +kernel
theorem dX9_firstFrom_67 : decode cX9_firstFrom 67 = .ok (.isub, 1) := by decide +kernel
theorem dX9_firstFrom_68 : decode cX9_firstFrom 68 = .ok (.ireturn, 1) := by decide +kernel
theorem dX9_meet_0 : decode cX9_meet 0 = .ok (.aload_n 0, 1) := by decide +kernel
theorem dX9_meet_1 : decode cX9_meet 1 = .ok (.iload_n 1, 1) := by decide +kernel
theorem dX9_meet_2 : decode cX9_meet 2 = .ok (.invokevirtual 179, 3) := by decide +kernel
theorem dX9_meet_5 : decode cX9_meet 5 = .ok (.ifCond .eq 16, 3) := by decide +kernel
theorem dX9_meet_8 : decode cX9_meet 8 = .ok (.aload_n 0, 1) := by decide +kernel
theorem dX9_meet_9 : decode cX9_meet 9 = .ok (.iload_n 2, 1) := by decide +kernel
theorem dX9_meet_10 : decode cX9_meet 10 = .ok (.invokevirtual 179, 3) := by decide +kernel
theorem dX9_meet_13 : decode cX9_meet 13 = .ok (.ifCond .eq 8, 3) := by decide +kernel
theorem dX9_meet_16 : decode cX9_meet 16 = .ok (.iload_n 1, 1) := by decide +kernel
theorem dX9_meet_17 : decode cX9_meet 17 = .ok (.iload_n 2, 1) := by decide +kernel
theorem dX9_meet_18 : decode cX9_meet 18 = .ok (.if_icmp .ne 5, 3) := by decide +kernel
theorem dX9_meet_21 : decode cX9_meet 21 = .ok (.iconst (-1), 1) := by decide +kernel
theorem dX9_meet_22 : decode cX9_meet 22 = .ok (.ireturn, 1) := by decide +kernel
theorem dX9_meet_23 : decode cX9_meet 23 = .ok (.aload_n 0, 1) := by decide +kernel
theorem dX9_meet_24 : decode cX9_meet 24 = .ok (.getfield 38, 3) := by decide +kernel
theorem dX9_meet_27 : decode cX9_meet 27 = .ok (.getfield 245, 3) := by decide +kernel
theorem dX9_meet_30 : decode cX9_meet 30 = .ok (.aload_n 0, 1) := by decide +kernel
theorem dX9_meet_31 : decode cX9_meet 31 = .ok (.getfield 31, 3) := by decide +kernel
theorem dX9_meet_34 : decode cX9_meet 34 = .ok (.getfield 182, 3) := by decide +kernel
theorem dX9_meet_37 : decode cX9_meet 37 = .ok (.iload_n 2, 1) := by decide +kernel
theorem dX9_meet_38 : decode cX9_meet 38 = .ok (.iaload, 1) := by decide +kernel
theorem dX9_meet_39 : decode cX9_meet 39 = .ok (.invokestatic 275, 3) := by decide +kernel
theorem dX9_meet_42 : decode cX9_meet 42 = .ok (.istore_n 3, 1) := by decide +kernel
theorem dX9_meet_43 : decode cX9_meet 43 = .ok (.aload_n 0, 1) := by decide +kernel
theorem dX9_meet_44 : decode cX9_meet 44 = .ok (.iload_n 3, 1) := by decide +kernel
theorem dX9_meet_45 : decode cX9_meet 45 = .ok (.iload_n 1, 1) := by decide +kernel
theorem dX9_meet_46 : decode cX9_meet 46 = .ok (.invokevirtual 272, 3) := by decide +kernel
theorem dX9_meet_49 : decode cX9_meet 49 = .ok (.istore 4, 2) := by decide +kernel
theorem dX9_meet_51 : decode cX9_meet 51 = .ok (.iconst 0, 1) := by decide +kernel
theorem dX9_meet_52 : decode cX9_meet 52 = .ok (.istore 5, 2) := by decide +kernel
theorem dX9_meet_54 : decode cX9_meet 54 = .ok (.iload 5, 2) := by decide +kernel
theorem dX9_meet_56 : decode cX9_meet 56 = .ok (.bipush 30, 2) := by decide +kernel
theorem dX9_meet_58 : decode cX9_meet 58 = .ok (.if_icmp .ge 46, 3) := by decide +kernel
theorem dX9_meet_61 : decode cX9_meet 61 = .ok (.aload_n 0, 1) := by decide +kernel
theorem dX9_meet_62 : decode cX9_meet 62 = .ok (.iload 4, 2) := by decide +kernel
theorem dX9_meet_64 : decode cX9_meet 64 = .ok (.iload_n 2, 1) := by decide +kernel
theorem dX9_meet_65 : decode cX9_meet 65 = .ok (.invokevirtual 272, 3) := by decide +kernel
theorem dX9_meet_68 : decode cX9_meet 68 = .ok (.iload 4, 2) := by decide +kernel
theorem dX9_meet_70 : decode cX9_meet 70 = .ok (.if_icmp .ne 14, 3) := by decide +kernel
theorem dX9_meet_73 : decode cX9_meet 73 = .ok (.iload 4, 2) := by decide +kernel
theorem dX9_meet_75 : decode cX9_meet 75 = .ok (.aload_n 0, 1) := by decide +kernel
theorem dX9_meet_76 : decode cX9_meet 76 = .ok (.getfield 38, 3) := by decide +kernel
theorem dX9_meet_79 : decode cX9_meet 79 = .ok (.getfield 245, 3) := by decide +kernel
theorem dX9_meet_82 : decode cX9_meet 82 = .ok (.isub, 1) := by decide +kernel
theorem dX9_meet_83 : decode cX9_meet 83 = .ok (.ireturn, 1) := by decide +kernel
theorem dX9_meet_84 : decode cX9_meet 84 = .ok (.iload 4, 2) := by decide +kernel
theorem dX9_meet_86 : decode cX9_meet 86 = .ok (.aload_n 0, 1) := by decide +kernel
theorem dX9_meet_87 : decode cX9_meet 87 = .ok (.getfield 31, 3) := by decide +kernel
theorem dX9_meet_90 : decode cX9_meet 90 = .ok (.getfield 185, 3) := by decide +kernel
theorem dX9_meet_93 : decode cX9_meet 93 = .ok (.iload_n 1, 1) := by decide +kernel
theorem dX9_meet_94 : decode cX9_meet 94 = .ok (.iaload, 1) := by decide +kernel
theorem dX9_meet_95 : decode cX9_meet 95 = .ok (.iadd, 1) := by decide +kernel
theorem dX9_meet_96 : decode cX9_meet 96 = .ok (.istore 4, 2) := by decide +kernel
theorem dX9_meet_98 : decode cX9_meet 98 = .ok (.iinc 5 1, 3) := by decide +kernel
theorem dX9_meet_101 : decode cX9_meet 101 = .ok (.goto (-47), 3) := by decide +kernel
theorem dX9_meet_104 : decode cX9_meet 104 = .ok (.bipush (-2), 2) := by decide +kernel
theorem dX9_meet_106 : decode cX9_meet 106 = .ok (.ireturn, 1) := by decide +kernel
theorem dX9_goes_0 : decode cX9_goes 0 = .ok (.aload_n 0, 1) := by decide +kernel
theorem dX9_goes_1 : decode cX9_goes 1 = .ok (.iload_n 1, 1) := by decide +kernel
theorem dX9_goes_2 : decode cX9_goes 2 = .ok (.invokevirtual 138, 3) := by decide +kernel
theorem dX9_goes_5 : decode cX9_goes 5 = .ok (.ifCond .ne 5, 3) := by decide +kernel
theorem dX9_goes_8 : decode cX9_goes 8 = .ok (.iconst (-1), 1) := by decide +kernel
theorem dX9_goes_9 : decode cX9_goes 9 = .ok (.ireturn, 1) := by decide +kernel
theorem dX9_goes_10 : decode cX9_goes 10 = .ok (.aload_n 0, 1) := by decide +kernel
theorem dX9_goes_11 : decode cX9_goes 11 = .ok (.invokevirtual 258, 3) := by decide +kernel
theorem dX9_goes_14 : decode cX9_goes 14 = .ok (.aload_n 0, 1) := by decide +kernel
theorem dX9_goes_15 : decode cX9_goes 15 = .ok (.getfield 57, 3) := by decide +kernel
theorem dX9_goes_18 : decode cX9_goes 18 = .ok (.iload_n 1, 1) := by decide +kernel
theorem dX9_goes_19 : decode cX9_goes 19 = .ok (.sipush 199, 3) := by decide +kernel
theorem dX9_goes_22 : decode cX9_goes 22 = .ok (.invokevirtual 278, 3) := by decide +kernel
theorem dX9_goes_25 : decode cX9_goes 25 = .ok (.ireturn, 1) := by decide +kernel
theorem dX9_empty_0 : decode cX9_empty 0 = .ok (.aload_n 0, 1) := by decide +kernel
theorem dX9_empty_1 : decode cX9_empty 1 = .ok (.invokevirtual 258, 3) := by decide +kernel
theorem dX9_empty_4 : decode cX9_empty 4 = .ok (.iconst 0, 1) := by decide +kernel
theorem dX9_empty_5 : decode cX9_empty 5 = .ok (.istore_n 1, 1) := by decide +kernel
theorem dX9_empty_6 : decode cX9_empty 6 = .ok (.iload_n 1, 1) := by decide +kernel
theorem dX9_empty_7 : decode cX9_empty 7 = .ok (.sipush 199, 3) := by decide +kernel
theorem dX9_empty_10 : decode cX9_empty 10 = .ok (.if_icmp .ge 30, 3) := by decide +kernel
theorem dX9_empty_13 : decode cX9_empty 13 = .ok (.aload_n 0, 1) := by decide +kernel
theorem dX9_empty_14 : decode cX9_empty 14 = .ok (.aload_n 0, 1) := by decide +kernel
theorem dX9_empty_15 : decode cX9_empty 15 = .ok (.getfield 42, 3) := by decide +kernel
theorem dX9_empty_18 : decode cX9_empty 18 = .ok (.invokevirtual 281, 3) := by decide +kernel
theorem dX9_empty_21 : decode cX9_empty 21 = .ok (.ifCond .eq 5, 3) := by decide +kernel
theorem dX9_empty_24 : decode cX9_empty 24 = .ok (.iload_n 1, 1) := by decide +kernel
theorem dX9_empty_25 : decode cX9_empty 25 = .ok (.ireturn, 1) := by decide +kernel
theorem dX9_empty_26 : decode cX9_empty 26 = .ok (.aload_n 0, 1) := by decide +kernel
theorem dX9_empty_27 : decode cX9_empty 27 = .ok (.getfield 57, 3) := by decide +kernel
theorem dX9_empty_30 : decode cX9_empty 30 = .ok (.iconst 1, 1) := by decide +kernel
theorem dX9_empty_31 : decode cX9_empty 31 = .ok (.invokevirtual 251, 3) := by decide +kernel
theorem dX9_empty_34 : decode cX9_empty 34 = .ok (.iinc 1 1, 3) := by decide +kernel
theorem dX9_empty_37 : decode cX9_empty 37 = .ok (.goto (-31), 3) := by decide +kernel
theorem dX9_empty_40 : decode cX9_empty 40 = .ok (.aload_n 0, 1) := by decide +kernel
theorem dX9_empty_41 : decode cX9_empty 41 = .ok (.aload_n 0, 1) := by decide +kernel
theorem dX9_empty_42 : decode cX9_empty 42 = .ok (.getfield 42, 3) := by decide +kernel
theorem dX9_empty_45 : decode cX9_empty 45 = .ok (.invokevirtual 281, 3) := by decide +kernel
theorem dX9_empty_48 : decode cX9_empty 48 = .ok (.ifCond .eq 9, 3) := by decide +kernel
theorem dX9_empty_51 : decode cX9_empty 51 = .ok (.sipush 199, 3) := by decide +kernel
theorem dX9_empty_54 : decode cX9_empty 54 = .ok (.goto 5, 3) := by decide +kernel
theorem dX9_empty_57 : decode cX9_empty 57 = .ok (.bipush (-2), 2) := by decide +kernel
theorem dX9_empty_59 : decode cX9_empty 59 = .ok (.ireturn, 1) := by decide +kernel
theorem dX9_isEmpty_0 : decode cX9_isEmpty 0 = .ok (.aload_n 1, 1) := by decide +kernel
theorem dX9_isEmpty_1 : decode cX9_isEmpty 1 = .ok (.getfield 197, 3) := by decide +kernel
theorem dX9_isEmpty_4 : decode cX9_isEmpty 4 = .ok (.ifCond .ne 22, 3) := by decide +kernel
theorem dX9_isEmpty_7 : decode cX9_isEmpty 7 = .ok (.aload_n 1, 1) := by decide +kernel
theorem dX9_isEmpty_8 : decode cX9_isEmpty 8 = .ok (.iconst 0, 1) := by decide +kernel
theorem dX9_isEmpty_9 : decode cX9_isEmpty 9 = .ok (.aload_n 0, 1) := by decide +kernel
theorem dX9_isEmpty_10 : decode cX9_isEmpty 10 = .ok (.getfield 31, 3) := by decide +kernel
theorem dX9_isEmpty_13 : decode cX9_isEmpty 13 = .ok (.getfield 125, 3) := by decide +kernel
theorem dX9_isEmpty_16 : decode cX9_isEmpty 16 = .ok (.invokevirtual 261, 3) := by decide +kernel
theorem dX9_isEmpty_19 : decode cX9_isEmpty 19 = .ok (.ifCond .ne 7, 3) := by decide +kernel
theorem dX9_isEmpty_22 : decode cX9_isEmpty 22 = .ok (.iconst 1, 1) := by decide +kernel
theorem dX9_isEmpty_23 : decode cX9_isEmpty 23 = .ok (.goto 4, 3) := by decide +kernel
theorem dX9_isEmpty_26 : decode cX9_isEmpty 26 = .ok (.iconst 0, 1) := by decide +kernel
theorem dX9_isEmpty_27 : decode cX9_isEmpty 27 = .ok (.ireturn, 1) := by decide +kernel
theorem dX9_order_0 : decode cX9_order 0 = .ok (.iload_n 1, 1) := by decide +kernel
theorem dX9_order_1 : decode cX9_order 1 = .ok (.ifCond .lt 8, 3) := by decide +kernel
theorem dX9_order_4 : decode cX9_order 4 = .ok (.iload_n 1, 1) := by decide +kernel
theorem dX9_order_5 : decode cX9_order 5 = .ok (.iconst 4, 1) := by decide +kernel
theorem dX9_order_6 : decode cX9_order 6 = .ok (.if_icmp .le 5, 3) := by decide +kernel
theorem dX9_order_9 : decode cX9_order 9 = .ok (.iconst (-1), 1) := by decide +kernel
theorem dX9_order_10 : decode cX9_order 10 = .ok (.ireturn, 1) := by decide +kernel
theorem dX9_order_11 : decode cX9_order 11 = .ok (.aload_n 0, 1) := by decide +kernel
theorem dX9_order_12 : decode cX9_order 12 = .ok (.getfield 38, 3) := by decide +kernel
theorem dX9_order_15 : decode cX9_order 15 = .ok (.getfield 197, 3) := by decide +kernel
theorem dX9_order_18 : decode cX9_order 18 = .ok (.iconst 4, 1) := by decide +kernel
theorem dX9_order_19 : decode cX9_order 19 = .ok (.invokestatic 239, 3) := by decide +kernel
theorem dX9_order_22 : decode cX9_order 22 = .ok (.istore_n 2, 1) := by decide +kernel
theorem dX9_order_23 : decode cX9_order 23 = .ok (.aload_n 0, 1) := by decide +kernel
theorem dX9_order_24 : decode cX9_order 24 = .ok (.iload_n 2, 1) := by decide +kernel
theorem dX9_order_25 : decode cX9_order 25 = .ok (.invokevirtual 285, 3) := by decide +kernel
theorem dX9_order_28 : decode cX9_order 28 = .ok (.istore_n 3, 1) := by decide +kernel
theorem dX9_order_29 : decode cX9_order 29 = .ok (.iload_n 1, 1) := by decide +kernel
theorem dX9_order_30 : decode cX9_order 30 = .ok (.iconst 4, 1) := by decide +kernel
theorem dX9_order_31 : decode cX9_order 31 = .ok (.if_icmp .ne 5, 3) := by decide +kernel
theorem dX9_order_34 : decode cX9_order 34 = .ok (.iload_n 3, 1) := by decide +kernel
theorem dX9_order_35 : decode cX9_order 35 = .ok (.ireturn, 1) := by decide +kernel
theorem dX9_order_36 : decode cX9_order 36 = .ok (.iload_n 1, 1) := by decide +kernel
theorem dX9_order_37 : decode cX9_order 37 = .ok (.iload_n 2, 1) := by decide +kernel
theorem dX9_order_38 : decode cX9_order 38 = .ok (.if_icmp .ge 12, 3) := by decide +kernel
theorem dX9_order_41 : decode cX9_order 41 = .ok (.aload_n 0, 1) := by decide +kernel
theorem dX9_order_42 : decode cX9_order 42 = .ok (.getfield 82, 3) := by decide +kernel
theorem dX9_order_45 : decode cX9_order 45 = .ok (.iload_n 1, 1) := by decide +kernel
theorem dX9_order_46 : decode cX9_order 46 = .ok (.iaload, 1) := by decide +kernel
theorem dX9_order_47 : decode cX9_order 47 = .ok (.goto 5, 3) := by decide +kernel
theorem dX9_order_50 : decode cX9_order 50 = .ok (.bipush (-2), 2) := by decide +kernel
theorem dX9_order_52 : decode cX9_order 52 = .ok (.ireturn, 1) := by decide +kernel
theorem dX9_bestOrder_0 : decode cX9_bestOrder 0 = .ok (.aload_n 0, 1) := by decide +kernel
theorem dX9_bestOrder_1 : decode cX9_bestOrder 1 = .ok (.iload_n 1, 1) := by decide +kernel
theorem dX9_bestOrder_2 : decode cX9_bestOrder 2 = .ok (.invokevirtual 288, 3) := by decide +kernel
theorem dX9_bestOrder_5 : decode cX9_bestOrder 5 = .ok (.iload_n 1, 1) := by decide +kernel
theorem dX9_bestOrder_6 : decode cX9_bestOrder 6 = .ok (.iload_n 1, 1) := by decide +kernel
theorem dX9_bestOrder_7 : decode cX9_bestOrder 7 = .ok (.invokestatic 291, 3) := by decide +kernel
theorem dX9_bestOrder_10 : decode cX9_bestOrder 10 = .ok (.istore_n 2, 1) := by decide +kernel
theorem dX9_bestOrder_11 : decode cX9_bestOrder 11 = .ok (.iconst (-1), 1) := by decide +kernel
theorem dX9_bestOrder_12 : decode cX9_bestOrder 12 = .ok (.istore_n 3, 1) := by decide +kernel
theorem dX9_bestOrder_13 : decode cX9_bestOrder 13 = .ok (.iconst 0, 1) := by decide +kernel
theorem dX9_bestOrder_14 : decode cX9_bestOrder 14 = .ok (.istore 4, 2) := by decide +kernel
theorem dX9_bestOrder_16 : decode cX9_bestOrder 16 = .ok (.iload 4, 2) := by decide +kernel
theorem dX9_bestOrder_18 : decode cX9_bestOrder 18 = .ok (.iload_n 2, 1) := by decide +kernel
theorem dX9_bestOrder_19 : decode cX9_bestOrder 19 = .ok (.if_icmp .ge 49, 3) := by decide +kernel
theorem dX9_bestOrder_22 : decode cX9_bestOrder 22 = .ok (.aload_n 0, 1) := by decide +kernel
theorem dX9_bestOrder_23 : decode cX9_bestOrder 23 = .ok (.iload 4, 2) := by decide +kernel
theorem dX9_bestOrder_25 : decode cX9_bestOrder 25 = .ok (.iload_n 1, 1) := by decide +kernel
theorem dX9_bestOrder_26 : decode cX9_bestOrder 26 = .ok (.invokevirtual 294, 3) := by decide +kernel
theorem dX9_bestOrder_29 : decode cX9_bestOrder 29 = .ok (.ifCond .eq 33, 3) := by decide +kernel
theorem dX9_bestOrder_32 : decode cX9_bestOrder 32 = .ok (.aload_n 0, 1) := by decide +kernel
theorem dX9_bestOrder_33 : decode cX9_bestOrder 33 = .ok (.iload_n 1, 1) := by decide +kernel
theorem dX9_bestOrder_34 : decode cX9_bestOrder 34 = .ok (.invokevirtual 298, 3) := by decide +kernel
theorem dX9_bestOrder_37 : decode cX9_bestOrder 37 = .ok (.istore 5, 2) := by decide +kernel
theorem dX9_bestOrder_39 : decode cX9_bestOrder 39 = .ok (.iload 5, 2) := by decide +kernel
theorem dX9_bestOrder_41 : decode cX9_bestOrder 41 = .ok (.iload_n 3, 1) := by decide +kernel
theorem dX9_bestOrder_42 : decode cX9_bestOrder 42 = .ok (.if_icmp .le 20, 3) := by decide +kernel
theorem dX9_bestOrder_45 : decode cX9_bestOrder 45 = .ok (.iload 5, 2) := by decide +kernel
theorem dX9_bestOrder_47 : decode cX9_bestOrder 47 = .ok (.istore_n 3, 1) := by decide +kernel
theorem dX9_bestOrder_48 : decode cX9_bestOrder 48 = .ok (.aload_n 0, 1) := by decide +kernel
theorem dX9_bestOrder_49 : decode cX9_bestOrder 49 = .ok (.getfield 79, 3) := by decide +kernel
theorem dX9_bestOrder_52 : decode cX9_bestOrder 52 = .ok (.iconst 0, 1) := by decide +kernel
theorem dX9_bestOrder_53 : decode cX9_bestOrder 53 = .ok (.aload_n 0, 1) := by decide +kernel
theorem dX9_bestOrder_54 : decode cX9_bestOrder 54 = .ok (.getfield 82, 3) := by decide +kernel
theorem dX9_bestOrder_57 : decode cX9_bestOrder 57 = .ok (.iconst 0, 1) := by decide +kernel
theorem dX9_bestOrder_58 : decode cX9_bestOrder 58 = .ok (.iconst 4, 1) := by decide +kernel
theorem dX9_bestOrder_59 : decode cX9_bestOrder 59 = .ok (.invokestatic 301, 3) := by decide +kernel
theorem dX9_bestOrder_62 : decode cX9_bestOrder 62 = .ok (.iinc 4 1, 3) := by decide +kernel
theorem dX9_bestOrder_65 : decode cX9_bestOrder 65 = .ok (.goto (-49), 3) := by decide +kernel
theorem dX9_bestOrder_68 : decode cX9_bestOrder 68 = .ok (.iload_n 3, 1) := by decide +kernel
theorem dX9_bestOrder_69 : decode cX9_bestOrder 69 = .ok (.ireturn, 1) := by decide +kernel
theorem dX9_sortFirst_0 : decode cX9_sortFirst 0 = .ok (.iconst 0, 1) := by decide +kernel
theorem dX9_sortFirst_1 : decode cX9_sortFirst 1 = .ok (.istore_n 2, 1) := by decide +kernel
theorem dX9_sortFirst_2 : decode cX9_sortFirst 2 = .ok (.iconst 0, 1) := by decide +kernel
theorem dX9_sortFirst_3 : decode cX9_sortFirst 3 = .ok (.istore_n 3, 1) := by decide +kernel
theorem dX9_sortFirst_4 : decode cX9_sortFirst 4 = .ok (.iload_n 3, 1) := by decide +kernel
theorem dX9_sortFirst_5 : decode cX9_sortFirst 5 = .ok (.iload_n 1, 1) := by decide +kernel
theorem dX9_sortFirst_6 : decode cX9_sortFirst 6 = .ok (.if_icmp .ge 29, 3) := by decide +kernel
theorem dX9_sortFirst_9 : decode cX9_sortFirst 9 = .ok (.iload_n 3, 1) := by decide +kernel
theorem dX9_sortFirst_10 : decode cX9_sortFirst 10 = .ok (.bipush 8, 2) := by decide +kernel
theorem dX9_sortFirst_12 : decode cX9_sortFirst 12 = .ok (.if_icmp .ge 23, 3) := by decide +kernel
theorem dX9_sortFirst_15 : decode cX9_sortFirst 15 = .ok (.iload_n 2, 1) := by decide +kernel
theorem dX9_sortFirst_16 : decode cX9_sortFirst 16 = .ok (.iconst 1, 1) := by decide +kernel
theorem dX9_sortFirst_17 : decode cX9_sortFirst 17 = .ok (.aload_n 0, 1) := by decide +kernel
theorem dX9_sortFirst_18 : decode cX9_sortFirst 18 = .ok (.getfield 38, 3) := by decide +kernel
theorem dX9_sortFirst_21 : decode cX9_sortFirst 21 = .ok (.getfield 200, 3) := by decide +kernel
theorem dX9_sortFirst_24 : decode cX9_sortFirst 24 = .ok (.iload_n 3, 1) := by decide +kernel
theorem dX9_sortFirst_25 : decode cX9_sortFirst 25 = .ok (.iaload, 1) := by decide +kernel
theorem dX9_sortFirst_26 : decode cX9_sortFirst 26 = .ok (.ishl, 1) := by decide +kernel
theorem dX9_sortFirst_27 : decode cX9_sortFirst 27 = .ok (.ior, 1) := by decide +kernel
theorem dX9_sortFirst_28 : decode cX9_sortFirst 28 = .ok (.istore_n 2, 1) := by decide +kernel
theorem dX9_sortFirst_29 : decode cX9_sortFirst 29 = .ok (.iinc 3 1, 3) := by decide +kernel
theorem dX9_sortFirst_32 : decode cX9_sortFirst 32 = .ok (.goto (-28), 3) := by decide +kernel
theorem dX9_sortFirst_35 : decode cX9_sortFirst 35 = .ok (.iconst 0, 1) := by decide +kernel
theorem dX9_sortFirst_36 : decode cX9_sortFirst 36 = .ok (.istore_n 3, 1) := by decide +kernel
theorem dX9_sortFirst_37 : decode cX9_sortFirst 37 = .ok (.iconst 0, 1) := by decide +kernel
theorem dX9_sortFirst_38 : decode cX9_sortFirst 38 = .ok (.istore 4, 2) := by decide +kernel
theorem dX9_sortFirst_40 : decode cX9_sortFirst 40 = .ok (.iload 4, 2) := by decide +kernel
theorem dX9_sortFirst_42 : decode cX9_sortFirst 42 = .ok (.bipush 8, 2) := by decide +kernel
theorem dX9_sortFirst_44 : decode cX9_sortFirst 44 = .ok (.if_icmp .ge 34, 3) := by decide +kernel
theorem dX9_sortFirst_47 : decode cX9_sortFirst 47 = .ok (.iload_n 3, 1) := by decide +kernel
theorem dX9_sortFirst_48 : decode cX9_sortFirst 48 = .ok (.iconst 4, 1) := by decide +kernel
theorem dX9_sortFirst_49 : decode cX9_sortFirst 49 = .ok (.if_icmp .ge 29, 3) := by decide +kernel
theorem dX9_sortFirst_52 : decode cX9_sortFirst 52 = .ok (.iload_n 2, 1) := by decide +kernel
theorem dX9_sortFirst_53 : decode cX9_sortFirst 53 = .ok (.iconst 1, 1) := by decide +kernel
theorem dX9_sortFirst_54 : decode cX9_sortFirst 54 = .ok (.iload 4, 2) := by decide +kernel
theorem dX9_sortFirst_56 : decode cX9_sortFirst 56 = .ok (.ishl, 1) := by decide +kernel
theorem dX9_sortFirst_57 : decode cX9_sortFirst 57 = .ok (.iand, 1) := by decide +kernel
theorem dX9_sortFirst_58 : decode cX9_sortFirst 58 = .ok (.ifCond .eq 14, 3) := by decide +kernel
theorem dX9_sortFirst_61 : decode cX9_sortFirst 61 = .ok (.aload_n 0, 1) := by decide +kernel
theorem dX9_sortFirst_62 : decode cX9_sortFirst 62 = .ok (.getfield 75, 3) := by decide +kernel
theorem dX9_sortFirst_65 : decode cX9_sortFirst 65 = .ok (.iload_n 3, 1) := by decide +kernel
theorem dX9_sortFirst_66 : decode cX9_sortFirst 66 = .ok (.iload 4, 2) := by decide +kernel
theorem dX9_sortFirst_68 : decode cX9_sortFirst 68 = .ok (.iastore, 1) := by decide +kernel
theorem dX9_sortFirst_69 : decode cX9_sortFirst 69 = .ok (.iinc 3 1, 3) := by decide +kernel
theorem dX9_sortFirst_72 : decode cX9_sortFirst 72 = .ok (.iinc 4 1, 3) := by decide +kernel
theorem dX9_sortFirst_75 : decode cX9_sortFirst 75 = .ok (.goto (-35), 3) := by decide +kernel
theorem dX9_sortFirst_78 : decode cX9_sortFirst 78 = .ok (.return_, 1) := by decide +kernel
theorem dX9_power_0 : decode cX9_power 0 = .ok (.iconst 1, 1) := by decide +kernel
theorem dX9_power_1 : decode cX9_power 1 = .ok (.istore_n 2, 1) := by decide +kernel
theorem dX9_power_2 : decode cX9_power 2 = .ok (.iconst 0, 1) := by decide +kernel
theorem dX9_power_3 : decode cX9_power 3 = .ok (.istore_n 3, 1) := by decide +kernel
theorem dX9_power_4 : decode cX9_power 4 = .ok (.iload_n 3, 1) := by decide +kernel
theorem dX9_power_5 : decode cX9_power 5 = .ok (.iload_n 1, 1) := by decide +kernel
theorem dX9_power_6 : decode cX9_power 6 = .ok (.if_icmp .ge 13, 3) := by decide +kernel
theorem dX9_power_9 : decode cX9_power 9 = .ok (.iload_n 2, 1) := by decide +kernel
theorem dX9_power_10 : decode cX9_power 10 = .ok (.iload_n 0, 1) := by decide +kernel
theorem dX9_power_11 : decode cX9_power 11 = .ok (.imul, 1) := by decide +kernel
theorem dX9_power_12 : decode cX9_power 12 = .ok (.istore_n 2, 1) := by decide +kernel
theorem dX9_power_13 : decode cX9_power 13 = .ok (.iinc 3 1, 3) := by decide +kernel
theorem dX9_power_16 : decode cX9_power 16 = .ok (.goto (-12), 3) := by decide +kernel
theorem dX9_power_19 : decode cX9_power 19 = .ok (.iload_n 2, 1) := by decide +kernel
theorem dX9_power_20 : decode cX9_power 20 = .ok (.ireturn, 1) := by decide +kernel
theorem dX9_pickRow_0 : decode cX9_pickRow 0 = .ok (.iload_n 1, 1) := by decide +kernel
theorem dX9_pickRow_1 : decode cX9_pickRow 1 = .ok (.istore_n 3, 1) := by decide +kernel
theorem dX9_pickRow_2 : decode cX9_pickRow 2 = .ok (.iconst 0, 1) := by decide +kernel
theorem dX9_pickRow_3 : decode cX9_pickRow 3 = .ok (.istore 4, 2) := by decide +kernel
theorem dX9_pickRow_5 : decode cX9_pickRow 5 = .ok (.iload_n 2, 1) := by decide +kernel
theorem dX9_pickRow_6 : decode cX9_pickRow 6 = .ok (.iconst 4, 1) := by decide +kernel
theorem dX9_pickRow_7 : decode cX9_pickRow 7 = .ok (.invokestatic 239, 3) := by decide +kernel
theorem dX9_pickRow_10 : decode cX9_pickRow 10 = .ok (.iconst 1, 1) := by decide +kernel
theorem dX9_pickRow_11 : decode cX9_pickRow 11 = .ok (.isub, 1) := by decide +kernel
theorem dX9_pickRow_12 : decode cX9_pickRow 12 = .ok (.istore 5, 2) := by decide +kernel
theorem dX9_pickRow_14 : decode cX9_pickRow 14 = .ok (.iload 5, 2) := by decide +kernel
theorem dX9_pickRow_16 : decode cX9_pickRow 16 = .ok (.ifCond .lt 59, 3) := by decide +kernel
theorem dX9_pickRow_19 : decode cX9_pickRow 19 = .ok (.iload_n 3, 1) := by decide +kernel
theorem dX9_pickRow_20 : decode cX9_pickRow 20 = .ok (.iload_n 2, 1) := by decide +kernel
theorem dX9_pickRow_21 : decode cX9_pickRow 21 = .ok (.irem, 1) := by decide +kernel
theorem dX9_pickRow_22 : decode cX9_pickRow 22 = .ok (.istore 6, 2) := by decide +kernel
theorem dX9_pickRow_24 : decode cX9_pickRow 24 = .ok (.iload_n 3, 1) := by decide +kernel
theorem dX9_pickRow_25 : decode cX9_pickRow 25 = .ok (.iload_n 2, 1) := by decide +kernel
theorem dX9_pickRow_26 : decode cX9_pickRow 26 = .ok (.idiv, 1) := by decide +kernel
theorem dX9_pickRow_27 : decode cX9_pickRow 27 = .ok (.istore_n 3, 1) := by decide +kernel
theorem dX9_pickRow_28 : decode cX9_pickRow 28 = .ok (.iload 4, 2) := by decide +kernel
theorem dX9_pickRow_30 : decode cX9_pickRow 30 = .ok (.iconst 1, 1) := by decide +kernel
theorem dX9_pickRow_31 : decode cX9_pickRow 31 = .ok (.iload 6, 2) := by decide +kernel
theorem dX9_pickRow_33 : decode cX9_pickRow 33 = .ok (.ishl, 1) := by decide +kernel
theorem dX9_pickRow_34 : decode cX9_pickRow 34 = .ok (.iand, 1) := by decide +kernel
theorem dX9_pickRow_35 : decode cX9_pickRow 35 = .ok (.ifCond .ne 9, 3) := by decide +kernel
theorem dX9_pickRow_38 : decode cX9_pickRow 38 = .ok (.iload 6, 2) := by decide +kernel
theorem dX9_pickRow_40 : decode cX9_pickRow 40 = .ok (.iconst 4, 1) := by decide +kernel
theorem dX9_pickRow_41 : decode cX9_pickRow 41 = .ok (.if_icmp .lt 5, 3) := by decide +kernel
theorem dX9_pickRow_44 : decode cX9_pickRow 44 = .ok (.iconst 0, 1) := by decide +kernel
theorem dX9_pickRow_45 : decode cX9_pickRow 45 = .ok (.ireturn, 1) := by decide +kernel
theorem dX9_pickRow_46 : decode cX9_pickRow 46 = .ok (.iload 4, 2) := by decide +kernel
theorem dX9_pickRow_48 : decode cX9_pickRow 48 = .ok (.iconst 1, 1) := by decide +kernel
theorem dX9_pickRow_49 : decode cX9_pickRow 49 = .ok (.iload 6, 2) := by decide +kernel
theorem dX9_pickRow_51 : decode cX9_pickRow 51 = .ok (.ishl, 1) := by decide +kernel
theorem dX9_pickRow_52 : decode cX9_pickRow 52 = .ok (.ior, 1) := by decide +kernel
theorem dX9_pickRow_53 : decode cX9_pickRow 53 = .ok (.istore 4, 2) := by decide +kernel
theorem dX9_pickRow_55 : decode cX9_pickRow 55 = .ok (.aload_n 0, 1) := by decide +kernel
theorem dX9_pickRow_56 : decode cX9_pickRow 56 = .ok (.getfield 79, 3) := by decide +kernel
theorem dX9_pickRow_59 : decode cX9_pickRow 59 = .ok (.iload 5, 2) := by decide +kernel
theorem dX9_pickRow_61 : decode cX9_pickRow 61 = .ok (.aload_n 0, 1) := by decide +kernel
theorem dX9_pickRow_62 : decode cX9_pickRow 62 = .ok (.getfield 75, 3) := by decide +kernel
theorem dX9_pickRow_65 : decode cX9_pickRow 65 = .ok (.iload 6, 2) := by decide +kernel
theorem dX9_pickRow_67 : decode cX9_pickRow 67 = .ok (.iaload, 1) := by decide +kernel
theorem dX9_pickRow_68 : decode cX9_pickRow 68 = .ok (.iastore, 1) := by decide +kernel
theorem dX9_pickRow_69 : decode cX9_pickRow 69 = .ok (.iinc 5 (-1), 3) := by decide +kernel
theorem dX9_pickRow_72 : decode cX9_pickRow 72 = .ok (.goto (-58), 3) := by decide +kernel
theorem dX9_pickRow_75 : decode cX9_pickRow 75 = .ok (.iconst 1, 1) := by decide +kernel
theorem dX9_pickRow_76 : decode cX9_pickRow 76 = .ok (.ireturn, 1) := by decide +kernel
theorem dX9_kindnessBehindRow_0 : decode cX9_kindnessBehindRow 0 = .ok (.aload_n 0, 1) := by decide +kernel
theorem dX9_kindnessBehindRow_1 : decode cX9_kindnessBehindRow 1 = .ok (.invokevirtual 258, 3) := by decide +kernel
theorem dX9_kindnessBehindRow_4 : decode cX9_kindnessBehindRow 4 = .ok (.iconst 0, 1) := by decide +kernel
theorem dX9_kindnessBehindRow_5 : decode cX9_kindnessBehindRow 5 = .ok (.istore_n 2, 1) := by decide +kernel
theorem dX9_kindnessBehindRow_6 : decode cX9_kindnessBehindRow 6 = .ok (.iload_n 2, 1) := by decide +kernel
theorem dX9_kindnessBehindRow_7 : decode cX9_kindnessBehindRow 7 = .ok (.iload_n 1, 1) := by decide +kernel
theorem dX9_kindnessBehindRow_8 : decode cX9_kindnessBehindRow 8 = .ok (.if_icmp .ge 29, 3) := by decide +kernel
theorem dX9_kindnessBehindRow_11 : decode cX9_kindnessBehindRow 11 = .ok (.iload_n 2, 1) := by decide +kernel
theorem dX9_kindnessBehindRow_12 : decode cX9_kindnessBehindRow 12 = .ok (.iconst 4, 1) := by decide +kernel
theorem dX9_kindnessBehindRow_13 : decode cX9_kindnessBehindRow 13 = .ok (.if_icmp .ge 24, 3) := by decide +kernel
theorem dX9_kindnessBehindRow_16 : decode cX9_kindnessBehindRow 16 = .ok (.aload_n 0, 1) := by decide +kernel
theorem dX9_kindnessBehindRow_17 : decode cX9_kindnessBehindRow 17 = .ok (.getfield 42, 3) := by decide +kernel
theorem dX9_kindnessBehindRow_20 : decode cX9_kindnessBehindRow 20 = .ok (.getfield 200, 3) := by decide +kernel
theorem dX9_kindnessBehindRow_23 : decode cX9_kindnessBehindRow 23 = .ok (.iload_n 2, 1) := by decide +kernel
theorem dX9_kindnessBehindRow_24 : decode cX9_kindnessBehindRow 24 = .ok (.aload_n 0, 1) := by decide +kernel
theorem dX9_kindnessBehindRow_25 : decode cX9_kindnessBehindRow 25 = .ok (.getfield 79, 3) := by decide +kernel
theorem dX9_kindnessBehindRow_28 : decode cX9_kindnessBehindRow 28 = .ok (.iload_n 2, 1) := by decide +kernel
theorem dX9_kindnessBehindRow_29 : decode cX9_kindnessBehindRow 29 = .ok (.iaload, 1) := by decide +kernel
theorem dX9_kindnessBehindRow_30 : decode cX9_kindnessBehindRow 30 = .ok (.iastore, 1) := by decide +kernel
theorem dX9_kindnessBehindRow_31 : decode cX9_kindnessBehindRow 31 = .ok (.iinc 2 1, 3) := by decide +kernel
theorem dX9_kindnessBehindRow_34 : decode cX9_kindnessBehindRow 34 = .ok (.goto (-28), 3) := by decide +kernel
theorem dX9_kindnessBehindRow_37 : decode cX9_kindnessBehindRow 37 = .ok (.aload_n 0, 1) := by decide +kernel
theorem dX9_kindnessBehindRow_38 : decode cX9_kindnessBehindRow 38 = .ok (.getfield 57, 3) := by decide +kernel
theorem dX9_kindnessBehindRow_41 : decode cX9_kindnessBehindRow 41 = .ok (.bipush 20, 2) := by decide +kernel
theorem dX9_kindnessBehindRow_43 : decode cX9_kindnessBehindRow 43 = .ok (.invokevirtual 251, 3) := by decide +kernel
theorem dX9_kindnessBehindRow_46 : decode cX9_kindnessBehindRow 46 = .ok (.aload_n 0, 1) := by decide +kernel
theorem dX9_kindnessBehindRow_47 : decode cX9_kindnessBehindRow 47 = .ok (.aload_n 0, 1) := by decide +kernel
theorem dX9_kindnessBehindRow_48 : decode cX9_kindnessBehindRow 48 = .ok (.getfield 42, 3) := by decide +kernel
theorem dX9_kindnessBehindRow_51 : decode cX9_kindnessBehindRow 51 = .ok (.invokevirtual 264, 3) := by decide +kernel
theorem dX9_kindnessBehindRow_54 : decode cX9_kindnessBehindRow 54 = .ok (.ireturn, 1) := by decide +kernel
theorem dX9_trips_0 : decode cX9_trips 0 = .ok (.aload_n 0, 1) := by decide +kernel
theorem dX9_trips_1 : decode cX9_trips 1 = .ok (.iload_n 1, 1) := by decide +kernel
theorem dX9_trips_2 : decode cX9_trips 2 = .ok (.invokevirtual 179, 3) := by decide +kernel
theorem dX9_trips_5 : decode cX9_trips 5 = .ok (.ifCond .ne 5, 3) := by decide +kernel
theorem dX9_trips_8 : decode cX9_trips 8 = .ok (.iconst (-1), 1) := by decide +kernel
theorem dX9_trips_9 : decode cX9_trips 9 = .ok (.ireturn, 1) := by decide +kernel
theorem dX9_trips_10 : decode cX9_trips 10 = .ok (.aload_n 0, 1) := by decide +kernel
theorem dX9_trips_11 : decode cX9_trips 11 = .ok (.getfield 57, 3) := by decide +kernel
theorem dX9_trips_14 : decode cX9_trips 14 = .ok (.aload_n 0, 1) := by decide +kernel
theorem dX9_trips_15 : decode cX9_trips 15 = .ok (.getfield 31, 3) := by decide +kernel
theorem dX9_trips_18 : decode cX9_trips 18 = .ok (.aload_n 0, 1) := by decide +kernel
theorem dX9_trips_19 : decode cX9_trips 19 = .ok (.getfield 38, 3) := by decide +kernel
theorem dX9_trips_22 : decode cX9_trips 22 = .ok (.invokevirtual 208, 3) := by decide +kernel
theorem dX9_trips_25 : decode cX9_trips 25 = .ok (.aload_n 0, 1) := by decide +kernel
theorem dX9_trips_26 : decode cX9_trips 26 = .ok (.getfield 57, 3) := by decide +kernel
theorem dX9_trips_29 : decode cX9_trips 29 = .ok (.iload_n 1, 1) := by decide +kernel
theorem dX9_trips_30 : decode cX9_trips 30 = .ok (.invokevirtual 307, 3) := by decide +kernel
theorem dX9_trips_33 : decode cX9_trips 33 = .ok (.invokestatic 310, 3) := by decide +kernel
theorem dX9_trips_36 : decode cX9_trips 36 = .ok (.istore_n 2, 1) := by decide +kernel
theorem dX9_trips_37 : decode cX9_trips 37 = .ok (.aload_n 0, 1) := by decide +kernel
theorem dX9_trips_38 : decode cX9_trips 38 = .ok (.getfield 31, 3) := by decide +kernel
theorem dX9_trips_41 : decode cX9_trips 41 = .ok (.getfield 188, 3) := by decide +kernel
theorem dX9_trips_44 : decode cX9_trips 44 = .ok (.iload_n 1, 1) := by decide +kernel
theorem dX9_trips_45 : decode cX9_trips 45 = .ok (.iaload, 1) := by decide +kernel
theorem dX9_trips_46 : decode cX9_trips 46 = .ok (.istore_n 3, 1) := by decide +kernel
theorem dX9_trips_47 : decode cX9_trips 47 = .ok (.iload_n 3, 1) := by decide +kernel
theorem dX9_trips_48 : decode cX9_trips 48 = .ok (.iconst 1, 1) := by decide +kernel
theorem dX9_trips_49 : decode cX9_trips 49 = .ok (.if_icmp .ge 7, 3) := by decide +kernel
theorem dX9_trips_52 : decode cX9_trips 52 = .ok (.iconst (-1), 1) := by decide +kernel
theorem dX9_trips_53 : decode cX9_trips 53 = .ok (.goto 10, 3) := by decide +kernel
theorem dX9_trips_56 : decode cX9_trips 56 = .ok (.iload_n 2, 1) := by decide +kernel
theorem dX9_trips_57 : decode cX9_trips 57 = .ok (.iload_n 3, 1) := by decide +kernel
theorem dX9_trips_58 : decode cX9_trips 58 = .ok (.iadd, 1) := by decide +kernel
theorem dX9_trips_59 : decode cX9_trips 59 = .ok (.iconst 1, 1) := by decide +kernel
theorem dX9_trips_60 : decode cX9_trips 60 = .ok (.isub, 1) := by decide +kernel
theorem dX9_trips_61 : decode cX9_trips 61 = .ok (.iload_n 3, 1) := by decide +kernel
theorem dX9_trips_62 : decode cX9_trips 62 = .ok (.idiv, 1) := by decide +kernel
theorem dX9_trips_63 : decode cX9_trips 63 = .ok (.ireturn, 1) := by decide +kernel
theorem dX9_match_0 : decode cX9_match 0 = .ok (.iload_n 1, 1) := by decide +kernel
theorem dX9_match_1 : decode cX9_match 1 = .ok (.ifCond .lt 8, 3) := by decide +kernel
theorem dX9_match_4 : decode cX9_match 4 = .ok (.iload_n 1, 1) := by decide +kernel
theorem dX9_match_5 : decode cX9_match 5 = .ok (.iconst 4, 1) := by decide +kernel
theorem dX9_match_6 : decode cX9_match 6 = .ok (.if_icmp .le 5, 3) := by decide +kernel
theorem dX9_match_9 : decode cX9_match 9 = .ok (.iconst (-1), 1) := by decide +kernel
theorem dX9_match_10 : decode cX9_match 10 = .ok (.ireturn, 1) := by decide +kernel
theorem dX9_match_11 : decode cX9_match 11 = .ok (.aload_n 0, 1) := by decide +kernel
theorem dX9_match_12 : decode cX9_match 12 = .ok (.invokevirtual 315, 3) := by decide +kernel
theorem dX9_match_15 : decode cX9_match 15 = .ok (.istore_n 2, 1) := by decide +kernel
theorem dX9_match_16 : decode cX9_match 16 = .ok (.iload_n 1, 1) := by decide +kernel
theorem dX9_match_17 : decode cX9_match 17 = .ok (.iconst 4, 1) := by decide +kernel
theorem dX9_match_18 : decode cX9_match 18 = .ok (.if_icmp .ne 5, 3) := by decide +kernel
theorem dX9_match_21 : decode cX9_match 21 = .ok (.iload_n 2, 1) := by decide +kernel
theorem dX9_match_22 : decode cX9_match 22 = .ok (.ireturn, 1) := by decide +kernel
theorem dX9_match_23 : decode cX9_match 23 = .ok (.iload_n 1, 1) := by decide +kernel
theorem dX9_match_24 : decode cX9_match 24 = .ok (.aload_n 0, 1) := by decide +kernel
theorem dX9_match_25 : decode cX9_match 25 = .ok (.getfield 31, 3) := by decide +kernel
theorem dX9_match_28 : decode cX9_match 28 = .ok (.getfield 135, 3) := by decide +kernel
theorem dX9_match_31 : decode cX9_match 31 = .ok (.if_icmp .ge 23, 3) := by decide +kernel
theorem dX9_match_34 : decode cX9_match 34 = .ok (.aload_n 0, 1) := by decide +kernel
theorem dX9_match_35 : decode cX9_match 35 = .ok (.getfield 82, 3) := by decide +kernel
theorem dX9_match_38 : decode cX9_match 38 = .ok (.iload_n 1, 1) := by decide +kernel
theorem dX9_match_39 : decode cX9_match 39 = .ok (.iaload, 1) := by decide +kernel
theorem dX9_match_40 : decode cX9_match 40 = .ok (.bipush 8, 2) := by decide +kernel
theorem dX9_match_42 : decode cX9_match 42 = .ok (.if_icmp .ge 12, 3) := by decide +kernel
theorem dX9_match_45 : decode cX9_match 45 = .ok (.aload_n 0, 1) := by decide +kernel
theorem dX9_match_46 : decode cX9_match 46 = .ok (.getfield 82, 3) := by decide +kernel
theorem dX9_match_49 : decode cX9_match 49 = .ok (.iload_n 1, 1) := by decide +kernel
theorem dX9_match_50 : decode cX9_match 50 = .ok (.iaload, 1) := by decide +kernel
theorem dX9_match_51 : decode cX9_match 51 = .ok (.goto 5, 3) := by decide +kernel
theorem dX9_match_54 : decode cX9_match 54 = .ok (.bipush (-2), 2) := by decide +kernel
theorem dX9_match_56 : decode cX9_match 56 = .ok (.ireturn, 1) := by decide +kernel
theorem dX9_bestMatch_0 : decode cX9_bestMatch 0 = .ok (.aload_n 0, 1) := by decide +kernel
theorem dX9_bestMatch_1 : decode cX9_bestMatch 1 = .ok (.getfield 57, 3) := by decide +kernel
theorem dX9_bestMatch_4 : decode cX9_bestMatch 4 = .ok (.aload_n 0, 1) := by decide +kernel
theorem dX9_bestMatch_5 : decode cX9_bestMatch 5 = .ok (.getfield 31, 3) := by decide +kernel
theorem dX9_bestMatch_8 : decode cX9_bestMatch 8 = .ok (.aload_n 0, 1) := by decide +kernel
theorem dX9_bestMatch_9 : decode cX9_bestMatch 9 = .ok (.getfield 38, 3) := by decide +kernel
theorem dX9_bestMatch_12 : decode cX9_bestMatch 12 = .ok (.invokevirtual 208, 3) := by decide +kernel
theorem dX9_bestMatch_15 : decode cX9_bestMatch 15 = .ok (.iconst 0, 1) := by decide +kernel
theorem dX9_bestMatch_16 : decode cX9_bestMatch 16 = .ok (.istore_n 1, 1) := by decide +kernel
theorem dX9_bestMatch_17 : decode cX9_bestMatch 17 = .ok (.iload_n 1, 1) := by decide +kernel
theorem dX9_bestMatch_18 : decode cX9_bestMatch 18 = .ok (.aload_n 0, 1) := by decide +kernel
theorem dX9_bestMatch_19 : decode cX9_bestMatch 19 = .ok (.getfield 31, 3) := by decide +kernel
theorem dX9_bestMatch_22 : decode cX9_bestMatch 22 = .ok (.getfield 135, 3) := by decide +kernel
theorem dX9_bestMatch_25 : decode cX9_bestMatch 25 = .ok (.if_icmp .ge 23, 3) := by decide +kernel
theorem dX9_bestMatch_28 : decode cX9_bestMatch 28 = .ok (.aload_n 0, 1) := by decide +kernel
theorem dX9_bestMatch_29 : decode cX9_bestMatch 29 = .ok (.getfield 85, 3) := by decide +kernel
theorem dX9_bestMatch_32 : decode cX9_bestMatch 32 = .ok (.iload_n 1, 1) := by decide +kernel
theorem dX9_bestMatch_33 : decode cX9_bestMatch 33 = .ok (.aload_n 0, 1) := by decide +kernel
theorem dX9_bestMatch_34 : decode cX9_bestMatch 34 = .ok (.getfield 57, 3) := by decide +kernel
theorem dX9_bestMatch_37 : decode cX9_bestMatch 37 = .ok (.iload_n 1, 1) := by decide +kernel
theorem dX9_bestMatch_38 : decode cX9_bestMatch 38 = .ok (.invokevirtual 307, 3) := by decide +kernel
theorem dX9_bestMatch_41 : decode cX9_bestMatch 41 = .ok (.iastore, 1) := by decide +kernel
theorem dX9_bestMatch_42 : decode cX9_bestMatch 42 = .ok (.iinc 1 1, 3) := by decide +kernel
theorem dX9_bestMatch_45 : decode cX9_bestMatch 45 = .ok (.goto (-28), 3) := by decide +kernel
theorem dX9_bestMatch_48 : decode cX9_bestMatch 48 = .ok (.bipush 9, 2) := by decide +kernel
theorem dX9_bestMatch_50 : decode cX9_bestMatch 50 = .ok (.aload_n 0, 1) := by decide +kernel
theorem dX9_bestMatch_51 : decode cX9_bestMatch 51 = .ok (.getfield 31, 3) := by decide +kernel
theorem dX9_bestMatch_54 : decode cX9_bestMatch 54 = .ok (.getfield 135, 3) := by decide +kernel
theorem dX9_bestMatch_57 : decode cX9_bestMatch 57 = .ok (.invokestatic 291, 3) := by decide +kernel
theorem dX9_bestMatch_60 : decode cX9_bestMatch 60 = .ok (.istore_n 1, 1) := by decide +kernel
theorem dX9_bestMatch_61 : decode cX9_bestMatch 61 = .ok (.iconst (-1), 1) := by decide +kernel
theorem dX9_bestMatch_62 : decode cX9_bestMatch 62 = .ok (.istore_n 2, 1) := by decide +kernel
theorem dX9_bestMatch_63 : decode cX9_bestMatch 63 = .ok (.iconst 0, 1) := by decide +kernel
theorem dX9_bestMatch_64 : decode cX9_bestMatch 64 = .ok (.istore_n 3, 1) := by decide +kernel
theorem dX9_bestMatch_65 : decode cX9_bestMatch 65 = .ok (.iload_n 3, 1) := by decide +kernel
theorem dX9_bestMatch_66 : decode cX9_bestMatch 66 = .ok (.iload_n 1, 1) := by decide +kernel
theorem dX9_bestMatch_67 : decode cX9_bestMatch 67 = .ok (.if_icmp .ge 39, 3) := by decide +kernel
theorem dX9_bestMatch_70 : decode cX9_bestMatch 70 = .ok (.aload_n 0, 1) := by decide +kernel
theorem dX9_bestMatch_71 : decode cX9_bestMatch 71 = .ok (.iload_n 3, 1) := by decide +kernel
theorem dX9_bestMatch_72 : decode cX9_bestMatch 72 = .ok (.invokevirtual 319, 3) := by decide +kernel
theorem dX9_bestMatch_75 : decode cX9_bestMatch 75 = .ok (.istore 4, 2) := by decide +kernel
theorem dX9_bestMatch_77 : decode cX9_bestMatch 77 = .ok (.iload 4, 2) := by decide +kernel
theorem dX9_bestMatch_79 : decode cX9_bestMatch 79 = .ok (.iload_n 2, 1) := by decide +kernel
theorem dX9_bestMatch_80 : decode cX9_bestMatch 80 = .ok (.if_icmp .le 20, 3) := by decide +kernel
theorem dX9_bestMatch_83 : decode cX9_bestMatch 83 = .ok (.iload 4, 2) := by decide +kernel
theorem dX9_bestMatch_85 : decode cX9_bestMatch 85 = .ok (.istore_n 2, 1) := by decide +kernel
theorem dX9_bestMatch_86 : decode cX9_bestMatch 86 = .ok (.aload_n 0, 1) := by decide +kernel
theorem dX9_bestMatch_87 : decode cX9_bestMatch 87 = .ok (.getfield 79, 3) := by decide +kernel
theorem dX9_bestMatch_90 : decode cX9_bestMatch 90 = .ok (.iconst 0, 1) := by decide +kernel
theorem dX9_bestMatch_91 : decode cX9_bestMatch 91 = .ok (.aload_n 0, 1) := by decide +kernel
theorem dX9_bestMatch_92 : decode cX9_bestMatch 92 = .ok (.getfield 82, 3) := by decide +kernel
theorem dX9_bestMatch_95 : decode cX9_bestMatch 95 = .ok (.iconst 0, 1) := by decide +kernel
theorem dX9_bestMatch_96 : decode cX9_bestMatch 96 = .ok (.iconst 4, 1) := by decide +kernel
theorem dX9_bestMatch_97 : decode cX9_bestMatch 97 = .ok (.invokestatic 301, 3) := by decide +kernel
theorem dX9_bestMatch_100 : decode cX9_bestMatch 100 = .ok (.iinc 3 1, 3) := by decide +kernel
theorem dX9_bestMatch_103 : decode cX9_bestMatch 103 = .ok (.goto (-38), 3) := by decide +kernel
theorem dX9_bestMatch_106 : decode cX9_bestMatch 106 = .ok (.iload_n 2, 1) := by decide +kernel
theorem dX9_bestMatch_107 : decode cX9_bestMatch 107 = .ok (.ireturn, 1) := by decide +kernel
theorem dX9_pickMatch_0 : decode cX9_pickMatch 0 = .ok (.iload_n 1, 1) := by decide +kernel
theorem dX9_pickMatch_1 : decode cX9_pickMatch 1 = .ok (.istore_n 2, 1) := by decide +kernel
theorem dX9_pickMatch_2 : decode cX9_pickMatch 2 = .ok (.iconst 0, 1) := by decide +kernel
theorem dX9_pickMatch_3 : decode cX9_pickMatch 3 = .ok (.istore_n 3, 1) := by decide +kernel
theorem dX9_pickMatch_4 : decode cX9_pickMatch 4 = .ok (.iconst 0, 1) := by decide +kernel
theorem dX9_pickMatch_5 : decode cX9_pickMatch 5 = .ok (.istore 4, 2) := by decide +kernel
theorem dX9_pickMatch_7 : decode cX9_pickMatch 7 = .ok (.aload_n 0, 1) := by decide +kernel
theorem dX9_pickMatch_8 : decode cX9_pickMatch 8 = .ok (.getfield 31, 3) := by decide +kernel
theorem dX9_pickMatch_11 : decode cX9_pickMatch 11 = .ok (.getfield 135, 3) := by decide +kernel
theorem dX9_pickMatch_14 : decode cX9_pickMatch 14 = .ok (.iconst 1, 1) := by decide +kernel
theorem dX9_pickMatch_15 : decode cX9_pickMatch 15 = .ok (.isub, 1) := by decide +kernel
theorem dX9_pickMatch_16 : decode cX9_pickMatch 16 = .ok (.istore 5, 2) := by decide +kernel
theorem dX9_pickMatch_18 : decode cX9_pickMatch 18 = .ok (.iload 5, 2) := by decide +kernel
theorem dX9_pickMatch_20 : decode cX9_pickMatch 20 = .ok (.ifCond .lt 84, 3) := by decide +kernel
theorem dX9_pickMatch_23 : decode cX9_pickMatch 23 = .ok (.iload_n 2, 1) := by decide +kernel
theorem dX9_pickMatch_24 : decode cX9_pickMatch 24 = .ok (.bipush 9, 2) := by decide +kernel
theorem dX9_pickMatch_26 : decode cX9_pickMatch 26 = .ok (.irem, 1) := by decide +kernel
theorem dX9_pickMatch_27 : decode cX9_pickMatch 27 = .ok (.istore 6, 2) := by decide +kernel
theorem dX9_pickMatch_29 : decode cX9_pickMatch 29 = .ok (.iload_n 2, 1) := by decide +kernel
theorem dX9_pickMatch_30 : decode cX9_pickMatch 30 = .ok (.bipush 9, 2) := by decide +kernel
theorem dX9_pickMatch_32 : decode cX9_pickMatch 32 = .ok (.idiv, 1) := by decide +kernel
theorem dX9_pickMatch_33 : decode cX9_pickMatch 33 = .ok (.istore_n 2, 1) := by decide +kernel
theorem dX9_pickMatch_34 : decode cX9_pickMatch 34 = .ok (.aload_n 0, 1) := by decide +kernel
theorem dX9_pickMatch_35 : decode cX9_pickMatch 35 = .ok (.getfield 79, 3) := by decide +kernel
theorem dX9_pickMatch_38 : decode cX9_pickMatch 38 = .ok (.iload 5, 2) := by decide +kernel
theorem dX9_pickMatch_40 : decode cX9_pickMatch 40 = .ok (.iload 6, 2) := by decide +kernel
theorem dX9_pickMatch_42 : decode cX9_pickMatch 42 = .ok (.iastore, 1) := by decide +kernel
theorem dX9_pickMatch_43 : decode cX9_pickMatch 43 = .ok (.iload 6, 2) := by decide +kernel
theorem dX9_pickMatch_45 : decode cX9_pickMatch 45 = .ok (.bipush 8, 2) := by decide +kernel
theorem dX9_pickMatch_47 : decode cX9_pickMatch 47 = .ok (.if_icmp .ge 51, 3) := by decide +kernel
theorem dX9_pickMatch_50 : decode cX9_pickMatch 50 = .ok (.iconst 1, 1) := by decide +kernel
theorem dX9_pickMatch_51 : decode cX9_pickMatch 51 = .ok (.iload 6, 2) := by decide +kernel
theorem dX9_pickMatch_53 : decode cX9_pickMatch 53 = .ok (.ishl, 1) := by decide +kernel
theorem dX9_pickMatch_54 : decode cX9_pickMatch 54 = .ok (.istore 7, 2) := by decide +kernel
theorem dX9_pickMatch_56 : decode cX9_pickMatch 56 = .ok (.iload_n 3, 1) := by decide +kernel
theorem dX9_pickMatch_57 : decode cX9_pickMatch 57 = .ok (.iload 7, 2) := by decide +kernel
theorem dX9_pickMatch_59 : decode cX9_pickMatch 59 = .ok (.iand, 1) := by decide +kernel
theorem dX9_pickMatch_60 : decode cX9_pickMatch 60 = .ok (.ifCond .ne 16, 3) := by decide +kernel
theorem dX9_pickMatch_63 : decode cX9_pickMatch 63 = .ok (.aload_n 0, 1) := by decide +kernel
theorem dX9_pickMatch_64 : decode cX9_pickMatch 64 = .ok (.getfield 85, 3) := by decide +kernel
theorem dX9_pickMatch_67 : decode cX9_pickMatch 67 = .ok (.iload 5, 2) := by decide +kernel
theorem dX9_pickMatch_69 : decode cX9_pickMatch 69 = .ok (.iaload, 1) := by decide +kernel
theorem dX9_pickMatch_70 : decode cX9_pickMatch 70 = .ok (.iload 7, 2) := by decide +kernel
theorem dX9_pickMatch_72 : decode cX9_pickMatch 72 = .ok (.iand, 1) := by decide +kernel
theorem dX9_pickMatch_73 : decode cX9_pickMatch 73 = .ok (.ifCond .ne 5, 3) := by decide +kernel
theorem dX9_pickMatch_76 : decode cX9_pickMatch 76 = .ok (.iconst (-1), 1) := by decide +kernel
theorem dX9_pickMatch_77 : decode cX9_pickMatch 77 = .ok (.ireturn, 1) := by decide +kernel
theorem dX9_pickMatch_78 : decode cX9_pickMatch 78 = .ok (.iload_n 3, 1) := by decide +kernel
theorem dX9_pickMatch_79 : decode cX9_pickMatch 79 = .ok (.iload 7, 2) := by decide +kernel
theorem dX9_pickMatch_81 : decode cX9_pickMatch 81 = .ok (.ior, 1) := by decide +kernel
theorem dX9_pickMatch_82 : decode cX9_pickMatch 82 = .ok (.istore_n 3, 1) := by decide +kernel
theorem dX9_pickMatch_83 : decode cX9_pickMatch 83 = .ok (.iload 4, 2) := by decide +kernel
theorem dX9_pickMatch_85 : decode cX9_pickMatch 85 = .ok (.aload_n 0, 1) := by decide +kernel
theorem dX9_pickMatch_86 : decode cX9_pickMatch 86 = .ok (.getfield 31, 3) := by decide +kernel
theorem dX9_pickMatch_89 : decode cX9_pickMatch 89 = .ok (.getfield 152, 3) := by decide +kernel
theorem dX9_pickMatch_92 : decode cX9_pickMatch 92 = .ok (.iload 6, 2) := by decide +kernel
theorem dX9_pickMatch_94 : decode cX9_pickMatch 94 = .ok (.iaload, 1) := by decide +kernel
theorem dX9_pickMatch_95 : decode cX9_pickMatch 95 = .ok (.iadd, 1) := by decide +kernel
theorem dX9_pickMatch_96 : decode cX9_pickMatch 96 = .ok (.istore 4, 2) := by decide +kernel
theorem dX9_pickMatch_98 : decode cX9_pickMatch 98 = .ok (.iinc 5 (-1), 3) := by decide +kernel
theorem dX9_pickMatch_101 : decode cX9_pickMatch 101 = .ok (.goto (-83), 3) := by decide +kernel
theorem dX9_pickMatch_104 : decode cX9_pickMatch 104 = .ok (.iload 4, 2) := by decide +kernel
theorem dX9_pickMatch_106 : decode cX9_pickMatch 106 = .ok (.ireturn, 1) := by decide +kernel
theorem dX9_coins_0 : decode cX9_coins 0 = .ok (.aload_n 0, 1) := by decide +kernel
theorem dX9_coins_1 : decode cX9_coins 1 = .ok (.iload_n 1, 1) := by decide +kernel
theorem dX9_coins_2 : decode cX9_coins 2 = .ok (.invokevirtual 138, 3) := by decide +kernel
theorem dX9_coins_5 : decode cX9_coins 5 = .ok (.ifCond .ne 5, 3) := by decide +kernel
theorem dX9_coins_8 : decode cX9_coins 8 = .ok (.iconst (-1), 1) := by decide +kernel
theorem dX9_coins_9 : decode cX9_coins 9 = .ok (.ireturn, 1) := by decide +kernel
theorem dX9_coins_10 : decode cX9_coins 10 = .ok (.iconst 0, 1) := by decide +kernel
theorem dX9_coins_11 : decode cX9_coins 11 = .ok (.istore_n 2, 1) := by decide +kernel
theorem dX9_coins_12 : decode cX9_coins 12 = .ok (.aload_n 0, 1) := by decide +kernel
theorem dX9_coins_13 : decode cX9_coins 13 = .ok (.getfield 38, 3) := by decide +kernel
theorem dX9_coins_16 : decode cX9_coins 16 = .ok (.getfield 155, 3) := by decide +kernel
theorem dX9_coins_19 : decode cX9_coins 19 = .ok (.iload_n 1, 1) := by decide +kernel
theorem dX9_coins_20 : decode cX9_coins 20 = .ok (.iaload, 1) := by decide +kernel
theorem dX9_coins_21 : decode cX9_coins 21 = .ok (.iload_n 2, 1) := by decide +kernel
theorem dX9_coins_22 : decode cX9_coins 22 = .ok (.iadd, 1) := by decide +kernel
theorem dX9_coins_23 : decode cX9_coins 23 = .ok (.bipush 99, 2) := by decide +kernel
theorem dX9_coins_25 : decode cX9_coins 25 = .ok (.if_icmp .gt 43, 3) := by decide +kernel
theorem dX9_coins_28 : decode cX9_coins 28 = .ok (.aload_n 0, 1) := by decide +kernel
theorem dX9_coins_29 : decode cX9_coins 29 = .ok (.invokevirtual 258, 3) := by decide +kernel
theorem dX9_coins_32 : decode cX9_coins 32 = .ok (.aload_n 0, 1) := by decide +kernel
theorem dX9_coins_33 : decode cX9_coins 33 = .ok (.getfield 42, 3) := by decide +kernel
theorem dX9_coins_36 : decode cX9_coins 36 = .ok (.getfield 155, 3) := by decide +kernel
theorem dX9_coins_39 : decode cX9_coins 39 = .ok (.iload_n 1, 1) := by decide +kernel
theorem dX9_coins_40 : decode cX9_coins 40 = .ok (.dup2, 1) := by decide +kernel
theorem dX9_coins_41 : decode cX9_coins 41 = .ok (.iaload, 1) := by decide +kernel
theorem dX9_coins_42 : decode cX9_coins 42 = .ok (.iload_n 2, 1) := by decide +kernel
theorem dX9_coins_43 : decode cX9_coins 43 = .ok (.iadd, 1) := by decide +kernel
theorem dX9_coins_44 : decode cX9_coins 44 = .ok (.iastore, 1) := by decide +kernel
theorem dX9_coins_45 : decode cX9_coins 45 = .ok (.aload_n 0, 1) := by decide +kernel
theorem dX9_coins_46 : decode cX9_coins 46 = .ok (.getfield 57, 3) := by decide +kernel
theorem dX9_coins_49 : decode cX9_coins 49 = .ok (.iload_n 1, 1) := by decide +kernel
theorem dX9_coins_50 : decode cX9_coins 50 = .ok (.bipush 60, 2) := by decide +kernel
theorem dX9_coins_52 : decode cX9_coins 52 = .ok (.invokevirtual 278, 3) := by decide +kernel
theorem dX9_coins_55 : decode cX9_coins 55 = .ok (.bipush (-2), 2) := by decide +kernel
theorem dX9_coins_57 : decode cX9_coins 57 = .ok (.if_icmp .eq 5, 3) := by decide +kernel
theorem dX9_coins_60 : decode cX9_coins 60 = .ok (.iload_n 2, 1) := by decide +kernel
theorem dX9_coins_61 : decode cX9_coins 61 = .ok (.ireturn, 1) := by decide +kernel
theorem dX9_coins_62 : decode cX9_coins 62 = .ok (.iinc 2 1, 3) := by decide +kernel
theorem dX9_coins_65 : decode cX9_coins 65 = .ok (.goto (-53), 3) := by decide +kernel
theorem dX9_coins_68 : decode cX9_coins 68 = .ok (.bipush (-2), 2) := by decide +kernel
theorem dX9_coins_70 : decode cX9_coins 70 = .ok (.ireturn, 1) := by decide +kernel
theorem dX9_rests_0 : decode cX9_rests 0 = .ok (.aload_n 0, 1) := by decide +kernel
theorem dX9_rests_1 : decode cX9_rests 1 = .ok (.iload_n 1, 1) := by decide +kernel
theorem dX9_rests_2 : decode cX9_rests 2 = .ok (.invokevirtual 138, 3) := by decide +kernel
theorem dX9_rests_5 : decode cX9_rests 5 = .ok (.ifCond .eq 16, 3) := by decide +kernel
theorem dX9_rests_8 : decode cX9_rests 8 = .ok (.aload_n 0, 1) := by decide +kernel
theorem dX9_rests_9 : decode cX9_rests 9 = .ok (.iload_n 2, 1) := by decide +kernel
theorem dX9_rests_10 : decode cX9_rests 10 = .ok (.invokevirtual 138, 3) := by decide +kernel
theorem dX9_rests_13 : decode cX9_rests 13 = .ok (.ifCond .eq 8, 3) := by decide +kernel
theorem dX9_rests_16 : decode cX9_rests 16 = .ok (.iload_n 1, 1) := by decide +kernel
theorem dX9_rests_17 : decode cX9_rests 17 = .ok (.iload_n 2, 1) := by decide +kernel
theorem dX9_rests_18 : decode cX9_rests 18 = .ok (.if_icmp .ne 5, 3) := by decide +kernel
theorem dX9_rests_21 : decode cX9_rests 21 = .ok (.iconst (-1), 1) := by decide +kernel
theorem dX9_rests_22 : decode cX9_rests 22 = .ok (.ireturn, 1) := by decide +kernel
theorem dX9_rests_23 : decode cX9_rests 23 = .ok (.iconst 0, 1) := by decide +kernel
theorem dX9_rests_24 : decode cX9_rests 24 = .ok (.istore_n 3, 1) := by decide +kernel
theorem dX9_rests_25 : decode cX9_rests 25 = .ok (.iconst 0, 1) := by decide +kernel
theorem dX9_rests_26 : decode cX9_rests 26 = .ok (.istore 4, 2) := by decide +kernel
theorem dX9_rests_28 : decode cX9_rests 28 = .ok (.iload 4, 2) := by decide +kernel
theorem dX9_rests_30 : decode cX9_rests 30 = .ok (.iconst 4, 1) := by decide +kernel
theorem dX9_rests_31 : decode cX9_rests 31 = .ok (.if_icmp .ge 29, 3) := by decide +kernel
theorem dX9_rests_34 : decode cX9_rests 34 = .ok (.aload_n 0, 1) := by decide +kernel
theorem dX9_rests_35 : decode cX9_rests 35 = .ok (.iload_n 1, 1) := by decide +kernel
theorem dX9_rests_36 : decode cX9_rests 36 = .ok (.iload_n 2, 1) := by decide +kernel
theorem dX9_rests_37 : decode cX9_rests 37 = .ok (.iload 4, 2) := by decide +kernel
theorem dX9_rests_39 : decode cX9_rests 39 = .ok (.iconst 1, 1) := by decide +kernel
theorem dX9_rests_40 : decode cX9_rests 40 = .ok (.ishr, 1) := by decide +kernel
theorem dX9_rests_41 : decode cX9_rests 41 = .ok (.iload 4, 2) := by decide +kernel
theorem dX9_rests_43 : decode cX9_rests 43 = .ok (.iconst 1, 1) := by decide +kernel
theorem dX9_rests_44 : decode cX9_rests 44 = .ok (.iand, 1) := by decide +kernel
theorem dX9_rests_45 : decode cX9_rests 45 = .ok (.invokevirtual 322, 3) := by decide +kernel
theorem dX9_rests_48 : decode cX9_rests 48 = .ok (.ifCond .eq 6, 3) := by decide +kernel
theorem dX9_rests_51 : decode cX9_rests 51 = .ok (.iinc 3 1, 3) := by decide +kernel
theorem dX9_rests_54 : decode cX9_rests 54 = .ok (.iinc 4 1, 3) := by decide +kernel
theorem dX9_rests_57 : decode cX9_rests 57 = .ok (.goto (-29), 3) := by decide +kernel
theorem dX9_rests_60 : decode cX9_rests 60 = .ok (.iload_n 3, 1) := by decide +kernel
theorem dX9_rests_61 : decode cX9_rests 61 = .ok (.ireturn, 1) := by decide +kernel
theorem dX9_rest_0 : decode cX9_rest 0 = .ok (.aload_n 0, 1) := by decide +kernel
theorem dX9_rest_1 : decode cX9_rest 1 = .ok (.iload_n 1, 1) := by decide +kernel
theorem dX9_rest_2 : decode cX9_rest 2 = .ok (.invokevirtual 138, 3) := by decide +kernel
theorem dX9_rest_5 : decode cX9_rest 5 = .ok (.ifCond .eq 20, 3) := by decide +kernel
theorem dX9_rest_8 : decode cX9_rest 8 = .ok (.aload_n 0, 1) := by decide +kernel
theorem dX9_rest_9 : decode cX9_rest 9 = .ok (.iload_n 2, 1) := by decide +kernel
theorem dX9_rest_10 : decode cX9_rest 10 = .ok (.invokevirtual 138, 3) := by decide +kernel
theorem dX9_rest_13 : decode cX9_rest 13 = .ok (.ifCond .eq 12, 3) := by decide +kernel
theorem dX9_rest_16 : decode cX9_rest 16 = .ok (.iload_n 1, 1) := by decide +kernel
theorem dX9_rest_17 : decode cX9_rest 17 = .ok (.iload_n 2, 1) := by decide +kernel
theorem dX9_rest_18 : decode cX9_rest 18 = .ok (.if_icmp .eq 7, 3) := by decide +kernel
theorem dX9_rest_21 : decode cX9_rest 21 = .ok (.iload_n 3, 1) := by decide +kernel
theorem dX9_rest_22 : decode cX9_rest 22 = .ok (.ifCond .ge 5, 3) := by decide +kernel
theorem dX9_rest_25 : decode cX9_rest 25 = .ok (.iconst (-1), 1) := by decide +kernel
theorem dX9_rest_26 : decode cX9_rest 26 = .ok (.ireturn, 1) := by decide +kernel
theorem dX9_rest_27 : decode cX9_rest 27 = .ok (.iconst 0, 1) := by decide +kernel
theorem dX9_rest_28 : decode cX9_rest 28 = .ok (.istore 4, 2) := by decide +kernel
theorem dX9_rest_30 : decode cX9_rest 30 = .ok (.iconst 0, 1) := by decide +kernel
theorem dX9_rest_31 : decode cX9_rest 31 = .ok (.istore 5, 2) := by decide +kernel
theorem dX9_rest_33 : decode cX9_rest 33 = .ok (.iload 5, 2) := by decide +kernel
theorem dX9_rest_35 : decode cX9_rest 35 = .ok (.iconst 4, 1) := by decide +kernel
theorem dX9_rest_36 : decode cX9_rest 36 = .ok (.if_icmp .ge 48, 3) := by decide +kernel
theorem dX9_rest_39 : decode cX9_rest 39 = .ok (.aload_n 0, 1) := by decide +kernel
theorem dX9_rest_40 : decode cX9_rest 40 = .ok (.iload_n 1, 1) := by decide +kernel
theorem dX9_rest_41 : decode cX9_rest 41 = .ok (.iload_n 2, 1) := by decide +kernel
theorem dX9_rest_42 : decode cX9_rest 42 = .ok (.iload 5, 2) := by decide +kernel
theorem dX9_rest_44 : decode cX9_rest 44 = .ok (.iconst 1, 1) := by decide +kernel
theorem dX9_rest_45 : decode cX9_rest 45 = .ok (.ishr, 1) := by decide +kernel
theorem dX9_rest_46 : decode cX9_rest 46 = .ok (.iload 5, 2) := by decide +kernel
theorem dX9_rest_48 : decode cX9_rest 48 = .ok (.iconst 1, 1) := by decide +kernel
theorem dX9_rest_49 : decode cX9_rest 49 = .ok (.iand, 1) := by decide +kernel
theorem dX9_rest_50 : decode cX9_rest 50 = .ok (.invokevirtual 322, 3) := by decide +kernel
theorem dX9_rest_53 : decode cX9_rest 53 = .ok (.ifCond .eq 25, 3) := by decide +kernel
theorem dX9_rest_56 : decode cX9_rest 56 = .ok (.iload 4, 2) := by decide +kernel
theorem dX9_rest_58 : decode cX9_rest 58 = .ok (.iload_n 3, 1) := by decide +kernel
theorem dX9_rest_59 : decode cX9_rest 59 = .ok (.if_icmp .ne 16, 3) := by decide +kernel
theorem dX9_rest_62 : decode cX9_rest 62 = .ok (.bipush 10, 2) := by decide +kernel
theorem dX9_rest_64 : decode cX9_rest 64 = .ok (.iload 5, 2) := by decide +kernel
theorem dX9_rest_66 : decode cX9_rest 66 = .ok (.iconst 1, 1) := by decide +kernel
theorem dX9_rest_67 : decode cX9_rest 67 = .ok (.ishr, 1) := by decide +kernel
theorem dX9_rest_68 : decode cX9_rest 68 = .ok (.imul, 1) := by decide +kernel
theorem dX9_rest_69 : decode cX9_rest 69 = .ok (.iload 5, 2) := by decide +kernel
theorem dX9_rest_71 : decode cX9_rest 71 = .ok (.iconst 1, 1) := by decide +kernel
theorem dX9_rest_72 : decode cX9_rest 72 = .ok (.iand, 1) := by decide +kernel
theorem dX9_rest_73 : decode cX9_rest 73 = .ok (.iadd, 1) := by decide +kernel
theorem dX9_rest_74 : decode cX9_rest 74 = .ok (.ireturn, 1) := by decide +kernel
theorem dX9_rest_75 : decode cX9_rest 75 = .ok (.iinc 4 1, 3) := by decide +kernel
theorem dX9_rest_78 : decode cX9_rest 78 = .ok (.iinc 5 1, 3) := by decide +kernel
theorem dX9_rest_81 : decode cX9_rest 81 = .ok (.goto (-48), 3) := by decide +kernel
theorem dX9_rest_84 : decode cX9_rest 84 = .ok (.bipush (-2), 2) := by decide +kernel
theorem dX9_rest_86 : decode cX9_rest 86 = .ok (.ireturn, 1) := by decide +kernel
theorem dX9_isRest_0 : decode cX9_isRest 0 = .ok (.aload_n 0, 1) := by decide +kernel
theorem dX9_isRest_1 : decode cX9_isRest 1 = .ok (.iload_n 1, 1) := by decide +kernel
theorem dX9_isRest_2 : decode cX9_isRest 2 = .ok (.iload_n 2, 1) := by decide +kernel
theorem dX9_isRest_3 : decode cX9_isRest 3 = .ok (.iload_n 3, 1) := by decide +kernel
theorem dX9_isRest_4 : decode cX9_isRest 4 = .ok (.iload 4, 2) := by decide +kernel
theorem dX9_isRest_6 : decode cX9_isRest 6 = .ok (.invokevirtual 326, 3) := by decide +kernel
theorem dX9_isRest_9 : decode cX9_isRest 9 = .ok (.aload_n 0, 1) := by decide +kernel
theorem dX9_isRest_10 : decode cX9_isRest 10 = .ok (.iload_n 1, 1) := by decide +kernel
theorem dX9_isRest_11 : decode cX9_isRest 11 = .ok (.iload_n 2, 1) := by decide +kernel
theorem dX9_isRest_12 : decode cX9_isRest 12 = .ok (.iconst 1, 1) := by decide +kernel
theorem dX9_isRest_13 : decode cX9_isRest 13 = .ok (.iload_n 3, 1) := by decide +kernel
theorem dX9_isRest_14 : decode cX9_isRest 14 = .ok (.isub, 1) := by decide +kernel
theorem dX9_isRest_15 : decode cX9_isRest 15 = .ok (.iload 4, 2) := by decide +kernel
theorem dX9_isRest_17 : decode cX9_isRest 17 = .ok (.invokevirtual 326, 3) := by decide +kernel
theorem dX9_isRest_20 : decode cX9_isRest 20 = .ok (.if_icmp .lt 30, 3) := by decide +kernel
theorem dX9_isRest_23 : decode cX9_isRest 23 = .ok (.aload_n 0, 1) := by decide +kernel
theorem dX9_isRest_24 : decode cX9_isRest 24 = .ok (.iload_n 2, 1) := by decide +kernel
theorem dX9_isRest_25 : decode cX9_isRest 25 = .ok (.iload_n 1, 1) := by decide +kernel
theorem dX9_isRest_26 : decode cX9_isRest 26 = .ok (.iload 4, 2) := by decide +kernel
theorem dX9_isRest_28 : decode cX9_isRest 28 = .ok (.iload_n 3, 1) := by decide +kernel
theorem dX9_isRest_29 : decode cX9_isRest 29 = .ok (.invokevirtual 326, 3) := by decide +kernel
theorem dX9_isRest_32 : decode cX9_isRest 32 = .ok (.aload_n 0, 1) := by decide +kernel
theorem dX9_isRest_33 : decode cX9_isRest 33 = .ok (.iload_n 2, 1) := by decide +kernel
theorem dX9_isRest_34 : decode cX9_isRest 34 = .ok (.iload_n 1, 1) := by decide +kernel
theorem dX9_isRest_35 : decode cX9_isRest 35 = .ok (.iconst 1, 1) := by decide +kernel
theorem dX9_isRest_36 : decode cX9_isRest 36 = .ok (.iload 4, 2) := by decide +kernel
theorem dX9_isRest_38 : decode cX9_isRest 38 = .ok (.isub, 1) := by decide +kernel
theorem dX9_isRest_39 : decode cX9_isRest 39 = .ok (.iload_n 3, 1) := by decide +kernel
theorem dX9_isRest_40 : decode cX9_isRest 40 = .ok (.invokevirtual 326, 3) := by decide +kernel
theorem dX9_isRest_43 : decode cX9_isRest 43 = .ok (.if_icmp .lt 7, 3) := by decide +kernel
theorem dX9_isRest_46 : decode cX9_isRest 46 = .ok (.iconst 1, 1) := by decide +kernel
theorem dX9_isRest_47 : decode cX9_isRest 47 = .ok (.goto 4, 3) := by decide +kernel
theorem dX9_isRest_50 : decode cX9_isRest 50 = .ok (.iconst 0, 1) := by decide +kernel
theorem dX9_isRest_51 : decode cX9_isRest 51 = .ok (.ireturn, 1) := by decide +kernel
theorem dX9_windowFor_0 : decode cX9_windowFor 0 = .ok (.iload_n 3, 1) := by decide +kernel
theorem dX9_windowFor_1 : decode cX9_windowFor 1 = .ok (.ifCond .ne 32, 3) := by decide +kernel
theorem dX9_windowFor_4 : decode cX9_windowFor 4 = .ok (.iload 4, 2) := by decide +kernel
theorem dX9_windowFor_6 : decode cX9_windowFor 6 = .ok (.ifCond .ne 17, 3) := by decide +kernel
theorem dX9_windowFor_9 : decode cX9_windowFor 9 = .ok (.aload_n 0, 1) := by decide +kernel
theorem dX9_windowFor_10 : decode cX9_windowFor 10 = .ok (.getfield 31, 3) := by decide +kernel
theorem dX9_windowFor_13 : decode cX9_windowFor 13 = .ok (.getfield 152, 3) := by decide +kernel
theorem dX9_windowFor_16 : decode cX9_windowFor 16 = .ok (.iload_n 1, 1) := by decide +kernel
theorem dX9_windowFor_17 : decode cX9_windowFor 17 = .ok (.iaload, 1) := by decide +kernel
theorem dX9_windowFor_18 : decode cX9_windowFor 18 = .ok (.iconst 2, 1) := by decide +kernel
theorem dX9_windowFor_19 : decode cX9_windowFor 19 = .ok (.idiv, 1) := by decide +kernel
theorem dX9_windowFor_20 : decode cX9_windowFor 20 = .ok (.goto 12, 3) := by decide +kernel
theorem dX9_windowFor_23 : decode cX9_windowFor 23 = .ok (.aload_n 0, 1) := by decide +kernel
theorem dX9_windowFor_24 : decode cX9_windowFor 24 = .ok (.getfield 31, 3) := by decide +kernel
theorem dX9_windowFor_27 : decode cX9_windowFor 27 = .ok (.getfield 152, 3) := by decide +kernel
theorem dX9_windowFor_30 : decode cX9_windowFor 30 = .ok (.iload_n 1, 1) := by decide +kernel
theorem dX9_windowFor_31 : decode cX9_windowFor 31 = .ok (.iaload, 1) := by decide +kernel
theorem dX9_windowFor_32 : decode cX9_windowFor 32 = .ok (.ireturn, 1) := by decide +kernel
theorem dX9_windowFor_33 : decode cX9_windowFor 33 = .ok (.iload 4, 2) := by decide +kernel
theorem dX9_windowFor_35 : decode cX9_windowFor 35 = .ok (.ifCond .ne 25, 3) := by decide +kernel
theorem dX9_windowFor_38 : decode cX9_windowFor 38 = .ok (.aload_n 0, 1) := by decide +kernel
theorem dX9_windowFor_39 : decode cX9_windowFor 39 = .ok (.getfield 31, 3) := by decide +kernel
theorem dX9_windowFor_42 : decode cX9_windowFor 42 = .ok (.getfield 152, 3) := by decide +kernel
theorem dX9_windowFor_45 : decode cX9_windowFor 45 = .ok (.iload_n 1, 1) := by decide +kernel
theorem dX9_windowFor_46 : decode cX9_windowFor 46 = .ok (.iaload, 1) := by decide +kernel
theorem dX9_windowFor_47 : decode cX9_windowFor 47 = .ok (.aload_n 0, 1) := by decide +kernel
theorem dX9_windowFor_48 : decode cX9_windowFor 48 = .ok (.getfield 38, 3) := by decide +kernel
theorem dX9_windowFor_51 : decode cX9_windowFor 51 = .ok (.getfield 155, 3) := by decide +kernel
theorem dX9_windowFor_54 : decode cX9_windowFor 54 = .ok (.iload_n 1, 1) := by decide +kernel
theorem dX9_windowFor_55 : decode cX9_windowFor 55 = .ok (.iaload, 1) := by decide +kernel
theorem dX9_windowFor_56 : decode cX9_windowFor 56 = .ok (.iadd, 1) := by decide +kernel
theorem dX9_windowFor_57 : decode cX9_windowFor 57 = .ok (.goto 22, 3) := by decide +kernel
theorem dX9_windowFor_60 : decode cX9_windowFor 60 = .ok (.aload_n 0, 1) := by decide +kernel
theorem dX9_windowFor_61 : decode cX9_windowFor 61 = .ok (.getfield 38, 3) := by decide +kernel
theorem dX9_windowFor_64 : decode cX9_windowFor 64 = .ok (.getfield 155, 3) := by decide +kernel
theorem dX9_windowFor_67 : decode cX9_windowFor 67 = .ok (.iload_n 1, 1) := by decide +kernel
theorem dX9_windowFor_68 : decode cX9_windowFor 68 = .ok (.iaload, 1) := by decide +kernel
theorem dX9_windowFor_69 : decode cX9_windowFor 69 = .ok (.aload_n 0, 1) := by decide +kernel
theorem dX9_windowFor_70 : decode cX9_windowFor 70 = .ok (.getfield 31, 3) := by decide +kernel
theorem dX9_windowFor_73 : decode cX9_windowFor 73 = .ok (.getfield 152, 3) := by decide +kernel
theorem dX9_windowFor_76 : decode cX9_windowFor 76 = .ok (.iload_n 2, 1) := by decide +kernel
theorem dX9_windowFor_77 : decode cX9_windowFor 77 = .ok (.iaload, 1) := by decide +kernel
theorem dX9_windowFor_78 : decode cX9_windowFor 78 = .ok (.isub, 1) := by decide +kernel
theorem dX9_windowFor_79 : decode cX9_windowFor 79 = .ok (.ireturn, 1) := by decide +kernel
theorem dX9_dry_0 : decode cX9_dry 0 = .ok (.iload_n 1, 1) := by decide +kernel
theorem dX9_dry_1 : decode cX9_dry 1 = .ok (.ifCond .lt 18, 3) := by decide +kernel
theorem dX9_dry_4 : decode cX9_dry 4 = .ok (.iload_n 1, 1) := by decide +kernel
theorem dX9_dry_5 : decode cX9_dry 5 = .ok (.bipush 6, 2) := by decide +kernel
theorem dX9_dry_7 : decode cX9_dry 7 = .ok (.if_icmp .gt 12, 3) := by decide +kernel
theorem dX9_dry_10 : decode cX9_dry 10 = .ok (.iload_n 2, 1) := by decide +kernel
theorem dX9_dry_11 : decode cX9_dry 11 = .ok (.ifCond .lt 8, 3) := by decide +kernel
theorem dX9_dry_14 : decode cX9_dry 14 = .ok (.iload_n 2, 1) := by decide +kernel
theorem dX9_dry_15 : decode cX9_dry 15 = .ok (.iconst 1, 1) := by decide +kernel
theorem dX9_dry_16 : decode cX9_dry 16 = .ok (.if_icmp .le 7, 3) := by decide +kernel
theorem dX9_dry_19 : decode cX9_dry 19 = .ok (.ldc2_w 330, 3) := by decide +kernel
theorem dX9_dry_22 : decode cX9_dry 22 = .ok (.lreturn, 1) := by decide +kernel
theorem dX9_dry_23 : decode cX9_dry 23 = .ok (.bipush 100, 2) := by decide +kernel
theorem dX9_dry_25 : decode cX9_dry 25 = .ok (.aload_n 0, 1) := by decide +kernel
theorem dX9_dry_26 : decode cX9_dry 26 = .ok (.getfield 31, 3) := by decide +kernel
theorem dX9_dry_29 : decode cX9_dry 29 = .ok (.getfield 332, 3) := by decide +kernel
theorem dX9_dry_32 : decode cX9_dry 32 = .ok (.isub, 1) := by decide +kernel
theorem dX9_dry_33 : decode cX9_dry 33 = .ok (.bipush 100, 2) := by decide +kernel
theorem dX9_dry_35 : decode cX9_dry 35 = .ok (.invokestatic 335, 3) := by decide +kernel
theorem dX9_dry_38 : decode cX9_dry 38 = .ok (.istore_n 3, 1) := by decide +kernel
theorem dX9_dry_39 : decode cX9_dry 39 = .ok (.iload_n 3, 1) := by decide +kernel
theorem dX9_dry_40 : decode cX9_dry 40 = .ok (.iconst 1, 1) := by decide +kernel
theorem dX9_dry_41 : decode cX9_dry 41 = .ok (.if_icmp .ge 7, 3) := by decide +kernel
theorem dX9_dry_44 : decode cX9_dry 44 = .ok (.ldc2_w 330, 3) := by decide +kernel
theorem dX9_dry_47 : decode cX9_dry 47 = .ok (.lreturn, 1) := by decide +kernel
theorem dX9_dry_48 : decode cX9_dry 48 = .ok (.iload_n 2, 1) := by decide +kernel
theorem dX9_dry_49 : decode cX9_dry 49 = .ok (.ifCond .ne 16, 3) := by decide +kernel
theorem dX9_dry_52 : decode cX9_dry 52 = .ok (.bipush 100, 2) := by decide +kernel
theorem dX9_dry_54 : decode cX9_dry 54 = .ok (.aload_n 0, 1) := by decide +kernel
theorem dX9_dry_55 : decode cX9_dry 55 = .ok (.getfield 31, 3) := by decide +kernel
theorem dX9_dry_58 : decode cX9_dry 58 = .ok (.getfield 332, 3) := by decide +kernel
theorem dX9_dry_61 : decode cX9_dry 61 = .ok (.isub, 1) := by decide +kernel
theorem dX9_dry_62 : decode cX9_dry 62 = .ok (.goto 5, 3) := by decide +kernel
theorem dX9_dry_65 : decode cX9_dry 65 = .ok (.bipush 100, 2) := by decide +kernel
theorem dX9_dry_67 : decode cX9_dry 67 = .ok (.iload_n 3, 1) := by decide +kernel
theorem dX9_dry_68 : decode cX9_dry 68 = .ok (.idiv, 1) := by decide +kernel
theorem dX9_dry_69 : decode cX9_dry 69 = .ok (.istore 4, 2) := by decide +kernel
theorem dX9_dry_71 : decode cX9_dry 71 = .ok (.lconst 1, 1) := by decide +kernel
theorem dX9_dry_72 : decode cX9_dry 72 = .ok (.lstore 5, 2) := by decide +kernel
theorem dX9_dry_74 : decode cX9_dry 74 = .ok (.iconst 0, 1) := by decide +kernel
theorem dX9_dry_75 : decode cX9_dry 75 = .ok (.istore 7, 2) := by decide +kernel
theorem dX9_dry_77 : decode cX9_dry 77 = .ok (.iload 7, 2) := by decide +kernel
theorem dX9_dry_79 : decode cX9_dry 79 = .ok (.iload_n 1, 1) := by decide +kernel
theorem dX9_dry_80 : decode cX9_dry 80 = .ok (.if_icmp .ge 17, 3) := by decide +kernel
theorem dX9_dry_83 : decode cX9_dry 83 = .ok (.lload 5, 2) := by decide +kernel
theorem dX9_dry_85 : decode cX9_dry 85 = .ok (.iload 4, 2) := by decide +kernel
theorem dX9_dry_87 : decode cX9_dry 87 = .ok (.i2l, 1) := by decide +kernel
theorem dX9_dry_88 : decode cX9_dry 88 = .ok (.lmul, 1) := by decide +kernel
theorem dX9_dry_89 : decode cX9_dry 89 = .ok (.lstore 5, 2) := by decide +kernel
theorem dX9_dry_91 : decode cX9_dry 91 = .ok (.iinc 7 1, 3) := by decide +kernel
theorem dX9_dry_94 : decode cX9_dry 94 = .ok (.goto (-17), 3) := by decide +kernel
theorem dX9_dry_97 : decode cX9_dry 97 = .ok (.lload 5, 2) := by decide +kernel
theorem dX9_dry_99 : decode cX9_dry 99 = .ok (.lreturn, 1) := by decide +kernel
theorem dX9_commonDivisor_0 : decode cX9_commonDivisor 0 = .ok (.iload_n 1, 1) := by decide +kernel
theorem dX9_commonDivisor_1 : decode cX9_commonDivisor 1 = .ok (.istore_n 2, 1) := by decide +kernel
theorem dX9_commonDivisor_2 : decode cX9_commonDivisor 2 = .ok (.iload_n 0, 1) := by decide +kernel
theorem dX9_commonDivisor_3 : decode cX9_commonDivisor 3 = .ok (.istore_n 3, 1) := by decide +kernel
theorem dX9_commonDivisor_4 : decode cX9_commonDivisor 4 = .ok (.iconst 0, 1) := by decide +kernel
theorem dX9_commonDivisor_5 : decode cX9_commonDivisor 5 = .ok (.istore 4, 2) := by decide +kernel
theorem dX9_commonDivisor_7 : decode cX9_commonDivisor 7 = .ok (.iload 4, 2) := by decide +kernel
theorem dX9_commonDivisor_9 : decode cX9_commonDivisor 9 = .ok (.bipush 100, 2) := by decide +kernel
theorem dX9_commonDivisor_11 : decode cX9_commonDivisor 11 = .ok (.if_icmp .ge 23, 3) := by decide +kernel
theorem dX9_commonDivisor_14 : decode cX9_commonDivisor 14 = .ok (.iload_n 3, 1) := by decide +kernel
theorem dX9_commonDivisor_15 : decode cX9_commonDivisor 15 = .ok (.ifCond .eq 19, 3) := by decide +kernel
theorem dX9_commonDivisor_18 : decode cX9_commonDivisor 18 = .ok (.iload_n 2, 1) := by decide +kernel
theorem dX9_commonDivisor_19 : decode cX9_commonDivisor 19 = .ok (.iload_n 3, 1) := by decide +kernel
theorem dX9_commonDivisor_20 : decode cX9_commonDivisor 20 = .ok (.irem, 1) := by decide +kernel
theorem dX9_commonDivisor_21 : decode cX9_commonDivisor 21 = .ok (.istore 5, 2) := by decide +kernel
theorem dX9_commonDivisor_23 : decode cX9_commonDivisor 23 = .ok (.iload_n 3, 1) := by decide +kernel
theorem dX9_commonDivisor_24 : decode cX9_commonDivisor 24 = .ok (.istore_n 2, 1) := by decide +kernel
theorem dX9_commonDivisor_25 : decode cX9_commonDivisor 25 = .ok (.iload 5, 2) := by decide +kernel
theorem dX9_commonDivisor_27 : decode cX9_commonDivisor 27 = .ok (.istore_n 3, 1) := by decide +kernel
theorem dX9_commonDivisor_28 : decode cX9_commonDivisor 28 = .ok (.iinc 4 1, 3) := by decide +kernel
theorem dX9_commonDivisor_31 : decode cX9_commonDivisor 31 = .ok (.goto (-24), 3) := by decide +kernel
theorem dX9_commonDivisor_34 : decode cX9_commonDivisor 34 = .ok (.iload_n 2, 1) := by decide +kernel
theorem dX9_commonDivisor_35 : decode cX9_commonDivisor 35 = .ok (.ireturn, 1) := by decide +kernel
theorem dX9_see_0 : decode cX9_see 0 = .ok (.iload_n 1, 1) := by decide +kernel
theorem dX9_see_1 : decode cX9_see 1 = .ok (.iconst 1, 1) := by decide +kernel
theorem dX9_see_2 : decode cX9_see 2 = .ok (.if_icmp .lt 17, 3) := by decide +kernel
theorem dX9_see_5 : decode cX9_see 5 = .ok (.iload_n 1, 1) := by decide +kernel
theorem dX9_see_6 : decode cX9_see 6 = .ok (.bipush 60, 2) := by decide +kernel
theorem dX9_see_8 : decode cX9_see 8 = .ok (.if_icmp .gt 11, 3) := by decide +kernel
theorem dX9_see_11 : decode cX9_see 11 = .ok (.aload_n 0, 1) := by decide +kernel
theorem dX9_see_12 : decode cX9_see 12 = .ok (.iload_n 2, 1) := by decide +kernel
theorem dX9_see_13 : decode cX9_see 13 = .ok (.invokevirtual 138, 3) := by decide +kernel
theorem dX9_see_16 : decode cX9_see 16 = .ok (.ifCond .ne 5, 3) := by decide +kernel
theorem dX9_see_19 : decode cX9_see 19 = .ok (.iconst (-1), 1) := by decide +kernel
theorem dX9_see_20 : decode cX9_see 20 = .ok (.ireturn, 1) := by decide +kernel
theorem dX9_see_21 : decode cX9_see 21 = .ok (.aload_n 0, 1) := by decide +kernel
theorem dX9_see_22 : decode cX9_see 22 = .ok (.getfield 71, 3) := by decide +kernel
theorem dX9_see_25 : decode cX9_see 25 = .ok (.iload_n 1, 1) := by decide +kernel
theorem dX9_see_26 : decode cX9_see 26 = .ok (.iload_n 2, 1) := by decide +kernel
theorem dX9_see_27 : decode cX9_see 27 = .ok (.iload_n 3, 1) := by decide +kernel
theorem dX9_see_28 : decode cX9_see 28 = .ok (.ifCond .eq 7, 3) := by decide +kernel
theorem dX9_see_31 : decode cX9_see 31 = .ok (.iconst 0, 1) := by decide +kernel
theorem dX9_see_32 : decode cX9_see 32 = .ok (.goto 4, 3) := by decide +kernel
theorem dX9_see_35 : decode cX9_see 35 = .ok (.iconst 1, 1) := by decide +kernel
theorem dX9_see_36 : decode cX9_see 36 = .ok (.invokevirtual 338, 3) := by decide +kernel
theorem dX9_see_39 : decode cX9_see 39 = .ok (.ireturn, 1) := by decide +kernel
theorem dX9_strike_0 : decode cX9_strike 0 = .ok (.iload_n 1, 1) := by decide +kernel
theorem dX9_strike_1 : decode cX9_strike 1 = .ok (.ifCond .lt 14, 3) := by decide +kernel
theorem dX9_strike_4 : decode cX9_strike 4 = .ok (.iload_n 1, 1) := by decide +kernel
theorem dX9_strike_5 : decode cX9_strike 5 = .ok (.aload_n 0, 1) := by decide +kernel
theorem dX9_strike_6 : decode cX9_strike 6 = .ok (.getfield 71, 3) := by decide +kernel
theorem dX9_strike_9 : decode cX9_strike 9 = .ok (.getfield 342, 3) := by decide +kernel
theorem dX9_strike_12 : decode cX9_strike 12 = .ok (.if_icmp .lt 5, 3) := by decide +kernel
theorem dX9_strike_15 : decode cX9_strike 15 = .ok (.iconst (-1), 1) := by decide +kernel
theorem dX9_strike_16 : decode cX9_strike 16 = .ok (.ireturn, 1) := by decide +kernel
theorem dX9_strike_17 : decode cX9_strike 17 = .ok (.aload_n 0, 1) := by decide +kernel
theorem dX9_strike_18 : decode cX9_strike 18 = .ok (.getfield 71, 3) := by decide +kernel
theorem dX9_strike_21 : decode cX9_strike 21 = .ok (.iconst 0, 1) := by decide +kernel
theorem dX9_strike_22 : decode cX9_strike 22 = .ok (.iload_n 1, 1) := by decide +kernel
theorem dX9_strike_23 : decode cX9_strike 23 = .ok (.iconst 2, 1) := by decide +kernel
theorem dX9_strike_24 : decode cX9_strike 24 = .ok (.invokevirtual 338, 3) := by decide +kernel
theorem dX9_strike_27 : decode cX9_strike 27 = .ok (.ireturn, 1) := by decide +kernel
theorem dX9_known_0 : decode cX9_known 0 = .ok (.iload_n 1, 1) := by decide +kernel
theorem dX9_known_1 : decode cX9_known 1 = .ok (.iconst (-1), 1) := by decide +kernel
theorem dX9_known_2 : decode cX9_known 2 = .ok (.if_icmp .lt 14, 3) := by decide +kernel
theorem dX9_known_5 : decode cX9_known 5 = .ok (.iload_n 1, 1) := by decide +kernel
theorem dX9_known_6 : decode cX9_known 6 = .ok (.aload_n 0, 1) := by decide +kernel
theorem dX9_known_7 : decode cX9_known 7 = .ok (.getfield 71, 3) := by decide +kernel
theorem dX9_known_10 : decode cX9_known 10 = .ok (.getfield 342, 3) := by decide +kernel
theorem dX9_known_13 : decode cX9_known 13 = .ok (.if_icmp .le 5, 3) := by decide +kernel
theorem dX9_known_16 : decode cX9_known 16 = .ok (.iconst 0, 1) := by decide +kernel
theorem dX9_known_17 : decode cX9_known 17 = .ok (.ireturn, 1) := by decide +kernel
theorem dX9_known_18 : decode cX9_known 18 = .ok (.aload_n 0, 1) := by decide +kernel
theorem dX9_known_19 : decode cX9_known 19 = .ok (.getfield 71, 3) := by decide +kernel
theorem dX9_known_22 : decode cX9_known 22 = .ok (.iload_n 1, 1) := by decide +kernel
theorem dX9_known_23 : decode cX9_known 23 = .ok (.putfield 343, 3) := by decide +kernel
theorem dX9_known_26 : decode cX9_known 26 = .ok (.iconst 1, 1) := by decide +kernel
theorem dX9_known_27 : decode cX9_known 27 = .ok (.ireturn, 1) := by decide +kernel
theorem dX9_everies_0 : decode cX9_everies 0 = .ok (.aload_n 0, 1) := by decide +kernel
theorem dX9_everies_1 : decode cX9_everies 1 = .ok (.iload_n 1, 1) := by decide +kernel
theorem dX9_everies_2 : decode cX9_everies 2 = .ok (.invokevirtual 179, 3) := by decide +kernel
theorem dX9_everies_5 : decode cX9_everies 5 = .ok (.ifCond .ne 5, 3) := by decide +kernel
theorem dX9_everies_8 : decode cX9_everies 8 = .ok (.iconst (-1), 1) := by decide +kernel
theorem dX9_everies_9 : decode cX9_everies 9 = .ok (.ireturn, 1) := by decide +kernel
theorem dX9_everies_10 : decode cX9_everies 10 = .ok (.aload_n 0, 1) := by decide +kernel
theorem dX9_everies_11 : decode cX9_everies 11 = .ok (.getfield 71, 3) := by decide +kernel
theorem dX9_everies_14 : decode cX9_everies 14 = .ok (.invokevirtual 346, 3) := by decide +kernel
theorem dX9_everies_17 : decode cX9_everies 17 = .ok (.istore_n 2, 1) := by decide +kernel
theorem dX9_everies_18 : decode cX9_everies 18 = .ok (.iconst 0, 1) := by decide +kernel
theorem dX9_everies_19 : decode cX9_everies 19 = .ok (.istore_n 3, 1) := by decide +kernel
theorem dX9_everies_20 : decode cX9_everies 20 = .ok (.iconst 1, 1) := by decide +kernel
theorem dX9_everies_21 : decode cX9_everies 21 = .ok (.istore 4, 2) := by decide +kernel
theorem dX9_everies_23 : decode cX9_everies 23 = .ok (.iload 4, 2) := by decide +kernel
theorem dX9_everies_25 : decode cX9_everies 25 = .ok (.bipush 30, 2) := by decide +kernel
theorem dX9_everies_27 : decode cX9_everies 27 = .ok (.if_icmp .gt 29, 3) := by decide +kernel
theorem dX9_everies_30 : decode cX9_everies 30 = .ok (.aload_n 0, 1) := by decide +kernel
theorem dX9_everies_31 : decode cX9_everies 31 = .ok (.iload_n 2, 1) := by decide +kernel
theorem dX9_everies_32 : decode cX9_everies 32 = .ok (.iload_n 1, 1) := by decide +kernel
theorem dX9_everies_33 : decode cX9_everies 33 = .ok (.iload 4, 2) := by decide +kernel
theorem dX9_everies_35 : decode cX9_everies 35 = .ok (.invokevirtual 349, 3) := by decide +kernel
theorem dX9_everies_38 : decode cX9_everies 38 = .ok (.ifCond .eq 12, 3) := by decide +kernel
theorem dX9_everies_41 : decode cX9_everies 41 = .ok (.iload_n 3, 1) := by decide +kernel
theorem dX9_everies_42 : decode cX9_everies 42 = .ok (.iconst 1, 1) := by decide +kernel
theorem dX9_everies_43 : decode cX9_everies 43 = .ok (.iload 4, 2) := by decide +kernel
theorem dX9_everies_45 : decode cX9_everies 45 = .ok (.iconst 1, 1) := by decide +kernel
theorem dX9_everies_46 : decode cX9_everies 46 = .ok (.isub, 1) := by decide +kernel
theorem dX9_everies_47 : decode cX9_everies 47 = .ok (.ishl, 1) := by decide +kernel
theorem dX9_everies_48 : decode cX9_everies 48 = .ok (.ior, 1) := by decide +kernel
theorem dX9_everies_49 : decode cX9_everies 49 = .ok (.istore_n 3, 1) := by decide +kernel
theorem dX9_everies_50 : decode cX9_everies 50 = .ok (.iinc 4 1, 3) := by decide +kernel
theorem dX9_everies_53 : decode cX9_everies 53 = .ok (.goto (-30), 3) := by decide +kernel
theorem dX9_everies_56 : decode cX9_everies 56 = .ok (.iload_n 3, 1) := by decide +kernel
theorem dX9_everies_57 : decode cX9_everies 57 = .ok (.ireturn, 1) := by decide +kernel
theorem dX9_isAllSo_0 : decode cX9_isAllSo 0 = .ok (.aload_n 0, 1) := by decide +kernel
theorem dX9_isAllSo_1 : decode cX9_isAllSo 1 = .ok (.getfield 42, 3) := by decide +kernel
theorem dX9_isAllSo_4 : decode cX9_isAllSo 4 = .ok (.aload_n 0, 1) := by decide +kernel
theorem dX9_isAllSo_5 : decode cX9_isAllSo 5 = .ok (.getfield 31, 3) := by decide +kernel
theorem dX9_isAllSo_8 : decode cX9_isAllSo 8 = .ok (.getfield 88, 3) := by decide +kernel
theorem dX9_isAllSo_11 : decode cX9_isAllSo 11 = .ok (.aload_n 0, 1) := by decide +kernel
theorem dX9_isAllSo_12 : decode cX9_isAllSo 12 = .ok (.getfield 31, 3) := by decide +kernel
theorem dX9_isAllSo_15 : decode cX9_isAllSo 15 = .ok (.getfield 91, 3) := by decide +kernel
theorem dX9_isAllSo_18 : decode cX9_isAllSo 18 = .ok (.invokevirtual 94, 3) := by decide +kernel
theorem dX9_isAllSo_21 : decode cX9_isAllSo 21 = .ok (.aload_n 0, 1) := by decide +kernel
theorem dX9_isAllSo_22 : decode cX9_isAllSo 22 = .ok (.getfield 57, 3) := by decide +kernel
theorem dX9_isAllSo_25 : decode cX9_isAllSo 25 = .ok (.aload_n 0, 1) := by decide +kernel
theorem dX9_isAllSo_26 : decode cX9_isAllSo 26 = .ok (.getfield 31, 3) := by decide +kernel
theorem dX9_isAllSo_29 : decode cX9_isAllSo 29 = .ok (.aload_n 0, 1) := by decide +kernel
theorem dX9_isAllSo_30 : decode cX9_isAllSo 30 = .ok (.getfield 42, 3) := by decide +kernel
theorem dX9_isAllSo_33 : decode cX9_isAllSo 33 = .ok (.invokevirtual 208, 3) := by decide +kernel
theorem dX9_isAllSo_36 : decode cX9_isAllSo 36 = .ok (.aload_n 0, 1) := by decide +kernel
theorem dX9_isAllSo_37 : decode cX9_isAllSo 37 = .ok (.getfield 57, 3) := by decide +kernel
theorem dX9_isAllSo_40 : decode cX9_isAllSo 40 = .ok (.iload_n 2, 1) := by decide +kernel
theorem dX9_isAllSo_41 : decode cX9_isAllSo 41 = .ok (.putfield 353, 3) := by decide +kernel
theorem dX9_isAllSo_44 : decode cX9_isAllSo 44 = .ok (.aload_n 0, 1) := by decide +kernel
theorem dX9_isAllSo_45 : decode cX9_isAllSo 45 = .ok (.getfield 57, 3) := by decide +kernel
theorem dX9_isAllSo_48 : decode cX9_isAllSo 48 = .ok (.iload_n 3, 1) := by decide +kernel
theorem dX9_isAllSo_49 : decode cX9_isAllSo 49 = .ok (.putfield 356, 3) := by decide +kernel
theorem dX9_isAllSo_52 : decode cX9_isAllSo 52 = .ok (.aload_n 0, 1) := by decide +kernel
theorem dX9_isAllSo_53 : decode cX9_isAllSo 53 = .ok (.getfield 71, 3) := by decide +kernel
theorem dX9_isAllSo_56 : decode cX9_isAllSo 56 = .ok (.iload_n 1, 1) := by decide +kernel
theorem dX9_isAllSo_57 : decode cX9_isAllSo 57 = .ok (.invokevirtual 359, 3) := by decide +kernel
theorem dX9_isAllSo_60 : decode cX9_isAllSo 60 = .ok (.istore 4, 2) := by decide +kernel
theorem dX9_isAllSo_62 : decode cX9_isAllSo 62 = .ok (.iconst 1, 1) := by decide +kernel
theorem dX9_isAllSo_63 : decode cX9_isAllSo 63 = .ok (.istore 5, 2) := by decide +kernel
theorem dX9_isAllSo_65 : decode cX9_isAllSo 65 = .ok (.iload 5, 2) := by decide +kernel
theorem dX9_isAllSo_67 : decode cX9_isAllSo 67 = .ok (.iload 4, 2) := by decide +kernel
theorem dX9_isAllSo_69 : decode cX9_isAllSo 69 = .ok (.if_icmp .gt 39, 3) := by decide +kernel
theorem dX9_isAllSo_72 : decode cX9_isAllSo 72 = .ok (.aload_n 0, 1) := by decide +kernel
theorem dX9_isAllSo_73 : decode cX9_isAllSo 73 = .ok (.getfield 57, 3) := by decide +kernel
theorem dX9_isAllSo_76 : decode cX9_isAllSo 76 = .ok (.iconst 1, 1) := by decide +kernel
theorem dX9_isAllSo_77 : decode cX9_isAllSo 77 = .ok (.invokevirtual 251, 3) := by decide +kernel
theorem dX9_isAllSo_80 : decode cX9_isAllSo 80 = .ok (.aload_n 0, 1) := by decide +kernel
theorem dX9_isAllSo_81 : decode cX9_isAllSo 81 = .ok (.getfield 71, 3) := by decide +kernel
theorem dX9_isAllSo_84 : decode cX9_isAllSo 84 = .ok (.iload_n 1, 1) := by decide +kernel
theorem dX9_isAllSo_85 : decode cX9_isAllSo 85 = .ok (.iload 5, 2) := by decide +kernel
theorem dX9_isAllSo_87 : decode cX9_isAllSo 87 = .ok (.aload_n 0, 1) := by decide +kernel
theorem dX9_isAllSo_88 : decode cX9_isAllSo 88 = .ok (.getfield 42, 3) := by decide +kernel
theorem dX9_isAllSo_91 : decode cX9_isAllSo 91 = .ok (.getfield 149, 3) := by decide +kernel
theorem dX9_isAllSo_94 : decode cX9_isAllSo 94 = .ok (.invokevirtual 362, 3) := by decide +kernel
theorem dX9_isAllSo_97 : decode cX9_isAllSo 97 = .ok (.ifCond .ne 5, 3) := by decide +kernel
theorem dX9_isAllSo_100 : decode cX9_isAllSo 100 = .ok (.iconst 0, 1) := by decide +kernel
theorem dX9_isAllSo_101 : decode cX9_isAllSo 101 = .ok (.ireturn, 1) := by decide +kernel
theorem dX9_isAllSo_102 : decode cX9_isAllSo 102 = .ok (.iinc 5 1, 3) := by decide +kernel
theorem dX9_isAllSo_105 : decode cX9_isAllSo 105 = .ok (.goto (-40), 3) := by decide +kernel
theorem dX9_isAllSo_108 : decode cX9_isAllSo 108 = .ok (.iconst 1, 1) := by decide +kernel
theorem dX9_isAllSo_109 : decode cX9_isAllSo 109 = .ok (.ireturn, 1) := by decide +kernel
theorem dX9_ask_0 : decode cX9_ask 0 = .ok (.aload_n 0, 1) := by decide +kernel
theorem dX9_ask_1 : decode cX9_ask 1 = .ok (.iload_n 1, 1) := by decide +kernel
theorem dX9_ask_2 : decode cX9_ask 2 = .ok (.invokevirtual 179, 3) := by decide +kernel
theorem dX9_ask_5 : decode cX9_ask 5 = .ok (.ifCond .eq 12, 3) := by decide +kernel
theorem dX9_ask_8 : decode cX9_ask 8 = .ok (.iload_n 2, 1) := by decide +kernel
theorem dX9_ask_9 : decode cX9_ask 9 = .ok (.ifCond .lt 8, 3) := by decide +kernel
theorem dX9_ask_12 : decode cX9_ask 12 = .ok (.iload_n 2, 1) := by decide +kernel
theorem dX9_ask_13 : decode cX9_ask 13 = .ok (.iconst 1, 1) := by decide +kernel
theorem dX9_ask_14 : decode cX9_ask 14 = .ok (.if_icmp .le 5, 3) := by decide +kernel
theorem dX9_ask_17 : decode cX9_ask 17 = .ok (.iconst (-1), 1) := by decide +kernel
theorem dX9_ask_18 : decode cX9_ask 18 = .ok (.ireturn, 1) := by decide +kernel
theorem dX9_ask_19 : decode cX9_ask 19 = .ok (.aload_n 0, 1) := by decide +kernel
theorem dX9_ask_20 : decode cX9_ask 20 = .ok (.iload_n 1, 1) := by decide +kernel
theorem dX9_ask_21 : decode cX9_ask 21 = .ok (.invokevirtual 366, 3) := by decide +kernel
theorem dX9_ask_24 : decode cX9_ask 24 = .ok (.istore_n 3, 1) := by decide +kernel
theorem dX9_ask_25 : decode cX9_ask 25 = .ok (.iconst 0, 1) := by decide +kernel
theorem dX9_ask_26 : decode cX9_ask 26 = .ok (.istore 4, 2) := by decide +kernel
theorem dX9_ask_28 : decode cX9_ask 28 = .ok (.bipush 31, 2) := by decide +kernel
theorem dX9_ask_30 : decode cX9_ask 30 = .ok (.istore 5, 2) := by decide +kernel
theorem dX9_ask_32 : decode cX9_ask 32 = .ok (.iconst 0, 1) := by decide +kernel
theorem dX9_ask_33 : decode cX9_ask 33 = .ok (.istore 6, 2) := by decide +kernel
theorem dX9_ask_35 : decode cX9_ask 35 = .ok (.iload 6, 2) := by decide +kernel
theorem dX9_ask_37 : decode cX9_ask 37 = .ok (.bipush 60, 2) := by decide +kernel
theorem dX9_ask_39 : decode cX9_ask 39 = .ok (.if_icmp .gt 42, 3) := by decide +kernel
theorem dX9_ask_42 : decode cX9_ask 42 = .ok (.iload_n 3, 1) := by decide +kernel
theorem dX9_ask_43 : decode cX9_ask 43 = .ok (.iload 6, 2) := by decide +kernel
theorem dX9_ask_45 : decode cX9_ask 45 = .ok (.aload_n 0, 1) := by decide +kernel
theorem dX9_ask_46 : decode cX9_ask 46 = .ok (.getfield 31, 3) := by decide +kernel
theorem dX9_ask_49 : decode cX9_ask 49 = .ok (.getfield 182, 3) := by decide +kernel
theorem dX9_ask_52 : decode cX9_ask 52 = .ok (.iload_n 1, 1) := by decide +kernel
theorem dX9_ask_53 : decode cX9_ask 53 = .ok (.iaload, 1) := by decide +kernel
theorem dX9_ask_54 : decode cX9_ask 54 = .ok (.isub, 1) := by decide +kernel
theorem dX9_ask_55 : decode cX9_ask 55 = .ok (.invokestatic 369, 3) := by decide +kernel
theorem dX9_ask_58 : decode cX9_ask 58 = .ok (.istore 7, 2) := by decide +kernel
theorem dX9_ask_60 : decode cX9_ask 60 = .ok (.iload 7, 2) := by decide +kernel
theorem dX9_ask_62 : decode cX9_ask 62 = .ok (.iload 5, 2) := by decide +kernel
theorem dX9_ask_64 : decode cX9_ask 64 = .ok (.if_icmp .ge 11, 3) := by decide +kernel
theorem dX9_ask_67 : decode cX9_ask 67 = .ok (.iload 7, 2) := by decide +kernel
theorem dX9_ask_69 : decode cX9_ask 69 = .ok (.istore 5, 2) := by decide +kernel
theorem dX9_ask_71 : decode cX9_ask 71 = .ok (.iload 6, 2) := by decide +kernel
theorem dX9_ask_73 : decode cX9_ask 73 = .ok (.istore 4, 2) := by decide +kernel
theorem dX9_ask_75 : decode cX9_ask 75 = .ok (.iinc 6 1, 3) := by decide +kernel
theorem dX9_ask_78 : decode cX9_ask 78 = .ok (.goto (-43), 3) := by decide +kernel
theorem dX9_ask_81 : decode cX9_ask 81 = .ok (.iload_n 2, 1) := by decide +kernel
theorem dX9_ask_82 : decode cX9_ask 82 = .ok (.ifCond .ne 8, 3) := by decide +kernel
theorem dX9_ask_85 : decode cX9_ask 85 = .ok (.iload 4, 2) := by decide +kernel
theorem dX9_ask_87 : decode cX9_ask 87 = .ok (.goto 5, 3) := by decide +kernel
theorem dX9_ask_90 : decode cX9_ask 90 = .ok (.iload 5, 2) := by decide +kernel
theorem dX9_ask_92 : decode cX9_ask 92 = .ok (.ireturn, 1) := by decide +kernel
theorem dX9_leftAtWorst_0 : decode cX9_leftAtWorst 0 = .ok (.iconst 0, 1) := by decide +kernel
theorem dX9_leftAtWorst_1 : decode cX9_leftAtWorst 1 = .ok (.istore_n 2, 1) := by decide +kernel
theorem dX9_leftAtWorst_2 : decode cX9_leftAtWorst 2 = .ok (.iconst 1, 1) := by decide +kernel
theorem dX9_leftAtWorst_3 : decode cX9_leftAtWorst 3 = .ok (.istore_n 3, 1) := by decide +kernel
theorem dX9_leftAtWorst_4 : decode cX9_leftAtWorst 4 = .ok (.iload_n 3, 1) := by decide +kernel
theorem dX9_leftAtWorst_5 : decode cX9_leftAtWorst 5 = .ok (.bipush 30, 2) := by decide +kernel
theorem dX9_leftAtWorst_7 : decode cX9_leftAtWorst 7 = .ok (.if_icmp .gt 32, 3) := by decide +kernel
theorem dX9_leftAtWorst_10 : decode cX9_leftAtWorst 10 = .ok (.iload_n 0, 1) := by decide +kernel
theorem dX9_leftAtWorst_11 : decode cX9_leftAtWorst 11 = .ok (.iconst 1, 1) := by decide +kernel
theorem dX9_leftAtWorst_12 : decode cX9_leftAtWorst 12 = .ok (.iload_n 3, 1) := by decide +kernel
theorem dX9_leftAtWorst_13 : decode cX9_leftAtWorst 13 = .ok (.iconst 1, 1) := by decide +kernel
theorem dX9_leftAtWorst_14 : decode cX9_leftAtWorst 14 = .ok (.isub, 1) := by decide +kernel
theorem dX9_leftAtWorst_15 : decode cX9_leftAtWorst 15 = .ok (.ishl, 1) := by decide +kernel
theorem dX9_leftAtWorst_16 : decode cX9_leftAtWorst 16 = .ok (.iand, 1) := by decide +kernel
theorem dX9_leftAtWorst_17 : decode cX9_leftAtWorst 17 = .ok (.ifCond .eq 16, 3) := by decide +kernel
theorem dX9_leftAtWorst_20 : decode cX9_leftAtWorst 20 = .ok (.iload_n 1, 1) := by decide +kernel
theorem dX9_leftAtWorst_21 : decode cX9_leftAtWorst 21 = .ok (.ifCond .lt 12, 3) := by decide +kernel
theorem dX9_leftAtWorst_24 : decode cX9_leftAtWorst 24 = .ok (.iload_n 1, 1) := by decide +kernel
theorem dX9_leftAtWorst_25 : decode cX9_leftAtWorst 25 = .ok (.iload_n 3, 1) := by decide +kernel
theorem dX9_leftAtWorst_26 : decode cX9_leftAtWorst 26 = .ok (.irem, 1) := by decide +kernel
theorem dX9_leftAtWorst_27 : decode cX9_leftAtWorst 27 = .ok (.ifCond .ne 6, 3) := by decide +kernel
theorem dX9_leftAtWorst_30 : decode cX9_leftAtWorst 30 = .ok (.iinc 2 1, 3) := by decide +kernel
theorem dX9_leftAtWorst_33 : decode cX9_leftAtWorst 33 = .ok (.iinc 3 1, 3) := by decide +kernel
theorem dX9_leftAtWorst_36 : decode cX9_leftAtWorst 36 = .ok (.goto (-32), 3) := by decide +kernel
theorem dX9_leftAtWorst_39 : decode cX9_leftAtWorst 39 = .ok (.iload_n 2, 1) := by decide +kernel
theorem dX9_leftAtWorst_40 : decode cX9_leftAtWorst 40 = .ok (.iload_n 0, 1) := by decide +kernel
theorem dX9_leftAtWorst_41 : decode cX9_leftAtWorst 41 = .ok (.invokestatic 310, 3) := by decide +kernel
theorem dX9_leftAtWorst_44 : decode cX9_leftAtWorst 44 = .ok (.iload_n 2, 1) := by decide +kernel
theorem dX9_leftAtWorst_45 : decode cX9_leftAtWorst 45 = .ok (.isub, 1) := by decide +kernel
theorem dX9_leftAtWorst_46 : decode cX9_leftAtWorst 46 = .ok (.invokestatic 275, 3) := by decide +kernel
theorem dX9_leftAtWorst_49 : decode cX9_leftAtWorst 49 = .ok (.ireturn, 1) := by decide +kernel
theorem dX9_chance_0 : decode cX9_chance 0 = .ok (.iload_n 1, 1) := by decide +kernel
theorem dX9_chance_1 : decode cX9_chance 1 = .ok (.ifCond .lt 35, 3) := by decide +kernel
theorem dX9_chance_4 : decode cX9_chance 4 = .ok (.iload_n 2, 1) := by decide +kernel
theorem dX9_chance_5 : decode cX9_chance 5 = .ok (.iconst 1, 1) := by decide +kernel
theorem dX9_chance_6 : decode cX9_chance 6 = .ok (.if_icmp .lt 30, 3) := by decide +kernel
theorem dX9_chance_9 : decode cX9_chance 9 = .ok (.iload_n 2, 1) := by decide +kernel
theorem dX9_chance_10 : decode cX9_chance 10 = .ok (.bipush 99, 2) := by decide +kernel
theorem dX9_chance_12 : decode cX9_chance 12 = .ok (.if_icmp .gt 24, 3) := by decide +kernel
theorem dX9_chance_15 : decode cX9_chance 15 = .ok (.aload_n 0, 1) := by decide +kernel
theorem dX9_chance_16 : decode cX9_chance 16 = .ok (.iload_n 3, 1) := by decide +kernel
theorem dX9_chance_17 : decode cX9_chance 17 = .ok (.invokevirtual 138, 3) := by decide +kernel
theorem dX9_chance_20 : decode cX9_chance 20 = .ok (.ifCond .eq 16, 3) := by decide +kernel
theorem dX9_chance_23 : decode cX9_chance 23 = .ok (.iload 4, 2) := by decide +kernel
theorem dX9_chance_25 : decode cX9_chance 25 = .ok (.ifCond .lt 11, 3) := by decide +kernel
theorem dX9_chance_28 : decode cX9_chance 28 = .ok (.iload 4, 2) := by decide +kernel
theorem dX9_chance_30 : decode cX9_chance 30 = .ok (.sipush 999, 3) := by decide +kernel
theorem dX9_chance_33 : decode cX9_chance 33 = .ok (.if_icmp .le 5, 3) := by decide +kernel
theorem dX9_chance_36 : decode cX9_chance 36 = .ok (.iconst (-1), 1) := by decide +kernel
theorem dX9_chance_37 : decode cX9_chance 37 = .ok (.ireturn, 1) := by decide +kernel
theorem dX9_chance_38 : decode cX9_chance 38 = .ok (.iload_n 1, 1) := by decide +kernel
theorem dX9_chance_39 : decode cX9_chance 39 = .ok (.istore 5, 2) := by decide +kernel
theorem dX9_chance_41 : decode cX9_chance 41 = .ok (.iconst 0, 1) := by decide +kernel
theorem dX9_chance_42 : decode cX9_chance 42 = .ok (.istore 6, 2) := by decide +kernel
theorem dX9_chance_44 : decode cX9_chance 44 = .ok (.iconst 0, 1) := by decide +kernel
theorem dX9_chance_45 : decode cX9_chance 45 = .ok (.istore 7, 2) := by decide +kernel
theorem dX9_chance_47 : decode cX9_chance 47 = .ok (.iload 7, 2) := by decide +kernel
theorem dX9_chance_49 : decode cX9_chance 49 = .ok (.bipush 10, 2) := by decide +kernel
theorem dX9_chance_51 : decode cX9_chance 51 = .ok (.if_icmp .ge 64, 3) := by decide +kernel
theorem dX9_chance_54 : decode cX9_chance 54 = .ok (.aload_n 0, 1) := by decide +kernel
theorem dX9_chance_55 : decode cX9_chance 55 = .ok (.invokevirtual 258, 3) := by decide +kernel
theorem dX9_chance_58 : decode cX9_chance 58 = .ok (.aload_n 0, 1) := by decide +kernel
theorem dX9_chance_59 : decode cX9_chance 59 = .ok (.getfield 57, 3) := by decide +kernel
theorem dX9_chance_62 : decode cX9_chance 62 = .ok (.iconst 1, 1) := by decide +kernel
theorem dX9_chance_63 : decode cX9_chance 63 = .ok (.putfield 248, 3) := by decide +kernel
theorem dX9_chance_66 : decode cX9_chance 66 = .ok (.aload_n 0, 1) := by decide +kernel
theorem dX9_chance_67 : decode cX9_chance 67 = .ok (.getfield 42, 3) := by decide +kernel
theorem dX9_chance_70 : decode cX9_chance 70 = .ok (.iload 5, 2) := by decide +kernel
theorem dX9_chance_72 : decode cX9_chance 72 = .ok (.putfield 372, 3) := by decide +kernel
theorem dX9_chance_75 : decode cX9_chance 75 = .ok (.aload_n 0, 1) := by decide +kernel
theorem dX9_chance_76 : decode cX9_chance 76 = .ok (.getfield 57, 3) := by decide +kernel
theorem dX9_chance_79 : decode cX9_chance 79 = .ok (.iload_n 2, 1) := by decide +kernel
theorem dX9_chance_80 : decode cX9_chance 80 = .ok (.invokevirtual 251, 3) := by decide +kernel
theorem dX9_chance_83 : decode cX9_chance 83 = .ok (.aload_n 0, 1) := by decide +kernel
theorem dX9_chance_84 : decode cX9_chance 84 = .ok (.getfield 42, 3) := by decide +kernel
theorem dX9_chance_87 : decode cX9_chance 87 = .ok (.getfield 372, 3) := by decide +kernel
theorem dX9_chance_90 : decode cX9_chance 90 = .ok (.istore 5, 2) := by decide +kernel
theorem dX9_chance_92 : decode cX9_chance 92 = .ok (.aload_n 0, 1) := by decide +kernel
theorem dX9_chance_93 : decode cX9_chance 93 = .ok (.getfield 42, 3) := by decide +kernel
theorem dX9_chance_96 : decode cX9_chance 96 = .ok (.getfield 156, 3) := by decide +kernel
theorem dX9_chance_99 : decode cX9_chance 99 = .ok (.iload_n 3, 1) := by decide +kernel
theorem dX9_chance_100 : decode cX9_chance 100 = .ok (.iaload, 1) := by decide +kernel
theorem dX9_chance_101 : decode cX9_chance 101 = .ok (.iload 4, 2) := by decide +kernel
theorem dX9_chance_103 : decode cX9_chance 103 = .ok (.if_icmp .lt 6, 3) := by decide +kernel
theorem dX9_chance_106 : decode cX9_chance 106 = .ok (.iinc 6 1, 3) := by decide +kernel
theorem dX9_chance_109 : decode cX9_chance 109 = .ok (.iinc 7 1, 3) := by decide +kernel
theorem dX9_chance_112 : decode cX9_chance 112 = .ok (.goto (-65), 3) := by decide +kernel
theorem dX9_chance_115 : decode cX9_chance 115 = .ok (.iload 6, 2) := by decide +kernel
theorem dX9_chance_117 : decode cX9_chance 117 = .ok (.ireturn, 1) := by decide +kernel
theorem dX9_tried_0 : decode cX9_tried 0 = .ok (.iload_n 1, 1) := by decide +kernel
theorem dX9_tried_1 : decode cX9_tried 1 = .ok (.ifCond .lt 19, 3) := by decide +kernel
theorem dX9_tried_4 : decode cX9_tried 4 = .ok (.iload_n 1, 1) := by decide +kernel
theorem dX9_tried_5 : decode cX9_tried 5 = .ok (.iconst 5, 1) := by decide +kernel
theorem dX9_tried_6 : decode cX9_tried 6 = .ok (.if_icmp .gt 14, 3) := by decide +kernel
theorem dX9_tried_9 : decode cX9_tried 9 = .ok (.iload_n 3, 1) := by decide +kernel
theorem dX9_tried_10 : decode cX9_tried 10 = .ok (.ifCond .lt 10, 3) := by decide +kernel
theorem dX9_tried_13 : decode cX9_tried 13 = .ok (.iload_n 3, 1) := by decide +kernel
theorem dX9_tried_14 : decode cX9_tried 14 = .ok (.sipush 200, 3) := by decide +kernel
theorem dX9_tried_17 : decode cX9_tried 17 = .ok (.if_icmp .le 5, 3) := by decide +kernel
theorem dX9_tried_20 : decode cX9_tried 20 = .ok (.iconst (-1), 1) := by decide +kernel
theorem dX9_tried_21 : decode cX9_tried 21 = .ok (.ireturn, 1) := by decide +kernel
theorem dX9_tried_22 : decode cX9_tried 22 = .ok (.iload_n 1, 1) := by decide +kernel
theorem dX9_tried_23 : decode cX9_tried 23 = .ok (.iconst 2, 1) := by decide +kernel
theorem dX9_tried_24 : decode cX9_tried 24 = .ok (.if_icmp .ne 14, 3) := by decide +kernel
theorem dX9_tried_27 : decode cX9_tried 27 = .ok (.aload_n 0, 1) := by decide +kernel
theorem dX9_tried_28 : decode cX9_tried 28 = .ok (.iload_n 2, 1) := by decide +kernel
theorem dX9_tried_29 : decode cX9_tried 29 = .ok (.invokevirtual 138, 3) := by decide +kernel
theorem dX9_tried_32 : decode cX9_tried 32 = .ok (.ifCond .ne 12, 3) := by decide +kernel
theorem dX9_tried_35 : decode cX9_tried 35 = .ok (.goto 7, 3) := by decide +kernel
theorem dX9_tried_38 : decode cX9_tried 38 = .ok (.iload_n 2, 1) := by decide +kernel
theorem dX9_tried_39 : decode cX9_tried 39 = .ok (.ifCond .eq 5, 3) := by decide +kernel
theorem dX9_tried_42 : decode cX9_tried 42 = .ok (.iconst (-1), 1) := by decide +kernel
theorem dX9_tried_43 : decode cX9_tried 43 = .ok (.ireturn, 1) := by decide +kernel
theorem dX9_tried_44 : decode cX9_tried 44 = .ok (.aload_n 0, 1) := by decide +kernel
theorem dX9_tried_45 : decode cX9_tried 45 = .ok (.invokevirtual 258, 3) := by decide +kernel
theorem dX9_tried_48 : decode cX9_tried 48 = .ok (.aload_n 0, 1) := by decide +kernel
theorem dX9_tried_49 : decode cX9_tried 49 = .ok (.getfield 57, 3) := by decide +kernel
theorem dX9_tried_52 : decode cX9_tried 52 = .ok (.iload_n 1, 1) := by decide +kernel
theorem dX9_tried_53 : decode cX9_tried 53 = .ok (.putfield 375, 3) := by decide +kernel
theorem dX9_tried_56 : decode cX9_tried 56 = .ok (.iload_n 1, 1) := by decide +kernel
theorem dX9_tried_57 : decode cX9_tried 57 = .ok (.iconst 2, 1) := by decide +kernel
theorem dX9_tried_58 : decode cX9_tried 58 = .ok (.if_icmp .ne 8, 3) := by decide +kernel
theorem dX9_tried_61 : decode cX9_tried 61 = .ok (.aload_n 0, 1) := by decide +kernel
theorem dX9_tried_62 : decode cX9_tried 62 = .ok (.iload_n 2, 1) := by decide +kernel
theorem dX9_tried_63 : decode cX9_tried 63 = .ok (.invokevirtual 378, 3) := by decide +kernel
theorem dX9_tried_66 : decode cX9_tried 66 = .ok (.iload_n 1, 1) := by decide +kernel
theorem dX9_tried_67 : decode cX9_tried 67 = .ok (.iconst 5, 1) := by decide +kernel
theorem dX9_tried_68 : decode cX9_tried 68 = .ok (.if_icmp .ne 36, 3) := by decide +kernel
theorem dX9_tried_71 : decode cX9_tried 71 = .ok (.iconst 0, 1) := by decide +kernel
theorem dX9_tried_72 : decode cX9_tried 72 = .ok (.istore 4, 2) := by decide +kernel
theorem dX9_tried_74 : decode cX9_tried 74 = .ok (.iload 4, 2) := by decide +kernel
theorem dX9_tried_76 : decode cX9_tried 76 = .ok (.aload_n 0, 1) := by decide +kernel
theorem dX9_tried_77 : decode cX9_tried 77 = .ok (.getfield 31, 3) := by decide +kernel
theorem dX9_tried_80 : decode cX9_tried 80 = .ok (.getfield 125, 3) := by decide +kernel
theorem dX9_tried_83 : decode cX9_tried 83 = .ok (.if_icmp .ge 21, 3) := by decide +kernel
theorem dX9_tried_86 : decode cX9_tried 86 = .ok (.aload_n 0, 1) := by decide +kernel
theorem dX9_tried_87 : decode cX9_tried 87 = .ok (.getfield 42, 3) := by decide +kernel
theorem dX9_tried_90 : decode cX9_tried 90 = .ok (.getfield 155, 3) := by decide +kernel
theorem dX9_tried_93 : decode cX9_tried 93 = .ok (.iload 4, 2) := by decide +kernel
theorem dX9_tried_95 : decode cX9_tried 95 = .ok (.bipush 99, 2) := by decide +kernel
theorem dX9_tried_97 : decode cX9_tried 97 = .ok (.iastore, 1) := by decide +kernel
theorem dX9_tried_98 : decode cX9_tried 98 = .ok (.iinc 4 1, 3) := by decide +kernel
theorem dX9_tried_101 : decode cX9_tried 101 = .ok (.goto (-27), 3) := by decide +kernel
theorem dX9_tried_104 : decode cX9_tried 104 = .ok (.aload_n 0, 1) := by decide +kernel
theorem dX9_tried_105 : decode cX9_tried 105 = .ok (.getfield 57, 3) := by decide +kernel
theorem dX9_tried_108 : decode cX9_tried 108 = .ok (.iload_n 3, 1) := by decide +kernel
theorem dX9_tried_109 : decode cX9_tried 109 = .ok (.invokevirtual 251, 3) := by decide +kernel
theorem dX9_tried_112 : decode cX9_tried 112 = .ok (.aload_n 0, 1) := by decide +kernel
theorem dX9_tried_113 : decode cX9_tried 113 = .ok (.getfield 42, 3) := by decide +kernel
theorem dX9_tried_116 : decode cX9_tried 116 = .ok (.iconst 2, 1) := by decide +kernel
theorem dX9_tried_117 : decode cX9_tried 117 = .ok (.aload_n 0, 1) := by decide +kernel
theorem dX9_tried_118 : decode cX9_tried 118 = .ok (.getfield 31, 3) := by decide +kernel
theorem dX9_tried_121 : decode cX9_tried 121 = .ok (.getfield 125, 3) := by decide +kernel
theorem dX9_tried_124 : decode cX9_tried 124 = .ok (.invokevirtual 261, 3) := by decide +kernel
theorem dX9_tried_127 : decode cX9_tried 127 = .ok (.aload_n 0, 1) := by decide +kernel
theorem dX9_tried_128 : decode cX9_tried 128 = .ok (.getfield 38, 3) := by decide +kernel
theorem dX9_tried_131 : decode cX9_tried 131 = .ok (.iconst 2, 1) := by decide +kernel
theorem dX9_tried_132 : decode cX9_tried 132 = .ok (.aload_n 0, 1) := by decide +kernel
theorem dX9_tried_133 : decode cX9_tried 133 = .ok (.getfield 31, 3) := by decide +kernel
theorem dX9_tried_136 : decode cX9_tried 136 = .ok (.getfield 125, 3) := by decide +kernel
theorem dX9_tried_139 : decode cX9_tried 139 = .ok (.invokevirtual 261, 3) := by decide +kernel
theorem dX9_tried_142 : decode cX9_tried 142 = .ok (.isub, 1) := by decide +kernel
theorem dX9_tried_143 : decode cX9_tried 143 = .ok (.ireturn, 1) := by decide +kernel
theorem dX9_sendAway_0 : decode cX9_sendAway 0 = .ok (.aload_n 0, 1) := by decide +kernel
theorem dX9_sendAway_1 : decode cX9_sendAway 1 = .ok (.getfield 42, 3) := by decide +kernel
theorem dX9_sendAway_4 : decode cX9_sendAway 4 = .ok (.getfield 149, 3) := by decide +kernel
theorem dX9_sendAway_7 : decode cX9_sendAway 7 = .ok (.iload_n 1, 1) := by decide +kernel
theorem dX9_sendAway_8 : decode cX9_sendAway 8 = .ok (.iaload, 1) := by decide +kernel
theorem dX9_sendAway_9 : decode cX9_sendAway 9 = .ok (.iconst 2, 1) := by decide +kernel
theorem dX9_sendAway_10 : decode cX9_sendAway 10 = .ok (.if_icmp .ne 4, 3) := by decide +kernel
theorem dX9_sendAway_13 : decode cX9_sendAway 13 = .ok (.return_, 1) := by decide +kernel
theorem dX9_sendAway_14 : decode cX9_sendAway 14 = .ok (.aload_n 0, 1) := by decide +kernel
theorem dX9_sendAway_15 : decode cX9_sendAway 15 = .ok (.getfield 42, 3) := by decide +kernel
theorem dX9_sendAway_18 : decode cX9_sendAway 18 = .ok (.iload_n 1, 1) := by decide +kernel
theorem dX9_sendAway_19 : decode cX9_sendAway 19 = .ok (.invokevirtual 159, 3) := by decide +kernel
theorem dX9_sendAway_22 : decode cX9_sendAway 22 = .ok (.istore_n 2, 1) := by decide +kernel
theorem dX9_sendAway_23 : decode cX9_sendAway 23 = .ok (.iload_n 2, 1) := by decide +kernel
theorem dX9_sendAway_24 : decode cX9_sendAway 24 = .ok (.ifCond .lt 11, 3) := by decide +kernel
theorem dX9_sendAway_27 : decode cX9_sendAway 27 = .ok (.aload_n 0, 1) := by decide +kernel
theorem dX9_sendAway_28 : decode cX9_sendAway 28 = .ok (.getfield 42, 3) := by decide +kernel
theorem dX9_sendAway_31 : decode cX9_sendAway 31 = .ok (.iload_n 2, 1) := by decide +kernel
theorem dX9_sendAway_32 : decode cX9_sendAway 32 = .ok (.invokevirtual 229, 3) := by decide +kernel
theorem dX9_sendAway_35 : decode cX9_sendAway 35 = .ok (.aload_n 0, 1) := by decide +kernel
theorem dX9_sendAway_36 : decode cX9_sendAway 36 = .ok (.getfield 42, 3) := by decide +kernel
theorem dX9_sendAway_39 : decode cX9_sendAway 39 = .ok (.getfield 149, 3) := by decide +kernel
theorem dX9_sendAway_42 : decode cX9_sendAway 42 = .ok (.iload_n 1, 1) := by decide +kernel
theorem dX9_sendAway_43 : decode cX9_sendAway 43 = .ok (.iconst 3, 1) := by decide +kernel
theorem dX9_sendAway_44 : decode cX9_sendAway 44 = .ok (.iastore, 1) := by decide +kernel
theorem dX9_sendAway_45 : decode cX9_sendAway 45 = .ok (.return_, 1) := by decide +kernel
theorem dX9_undo_0 : decode cX9_undo 0 = .ok (.aload_n 0, 1) := by decide +kernel
theorem dX9_undo_1 : decode cX9_undo 1 = .ok (.getfield 64, 3) := by decide +kernel
theorem dX9_undo_4 : decode cX9_undo 4 = .ok (.getfield 110, 3) := by decide +kernel
theorem dX9_undo_7 : decode cX9_undo 7 = .ok (.iconst 1, 1) := by decide +kernel
theorem dX9_undo_8 : decode cX9_undo 8 = .ok (.if_icmp .ge 5, 3) := by decide +kernel
theorem dX9_undo_11 : decode cX9_undo 11 = .ok (.iconst (-1), 1) := by decide +kernel
theorem dX9_undo_12 : decode cX9_undo 12 = .ok (.ireturn, 1) := by decide +kernel
theorem dX9_undo_13 : decode cX9_undo 13 = .ok (.aload_n 0, 1) := by decide +kernel
theorem dX9_undo_14 : decode cX9_undo 14 = .ok (.getfield 64, 3) := by decide +kernel
theorem dX9_undo_17 : decode cX9_undo 17 = .ok (.aload_n 0, 1) := by decide +kernel
theorem dX9_undo_18 : decode cX9_undo 18 = .ok (.getfield 38, 3) := by decide +kernel
theorem dX9_undo_21 : decode cX9_undo 21 = .ok (.invokevirtual 381, 3) := by decide +kernel
theorem dX9_undo_24 : decode cX9_undo 24 = .ok (.aload_n 0, 1) := by decide +kernel
theorem dX9_undo_25 : decode cX9_undo 25 = .ok (.getfield 64, 3) := by decide +kernel
theorem dX9_undo_28 : decode cX9_undo 28 = .ok (.getfield 110, 3) := by decide +kernel
theorem dX9_undo_31 : decode cX9_undo 31 = .ok (.ireturn, 1) := by decide +kernel
theorem dX9_keep_0 : decode cX9_keep 0 = .ok (.aload_n 0, 1) := by decide +kernel
theorem dX9_keep_1 : decode cX9_keep 1 = .ok (.getfield 45, 3) := by decide +kernel
theorem dX9_keep_4 : decode cX9_keep 4 = .ok (.aload_n 0, 1) := by decide +kernel
theorem dX9_keep_5 : decode cX9_keep 5 = .ok (.getfield 38, 3) := by decide +kernel
theorem dX9_keep_8 : decode cX9_keep 8 = .ok (.invokevirtual 254, 3) := by decide +kernel
theorem dX9_keep_11 : decode cX9_keep 11 = .ok (.aload_n 0, 1) := by decide +kernel
theorem dX9_keep_12 : decode cX9_keep 12 = .ok (.iconst 1, 1) := by decide +kernel
theorem dX9_keep_13 : decode cX9_keep 13 = .ok (.putfield 48, 3) := by decide +kernel
theorem dX9_keep_16 : decode cX9_keep 16 = .ok (.aload_n 0, 1) := by decide +kernel
theorem dX9_keep_17 : decode cX9_keep 17 = .ok (.getfield 38, 3) := by decide +kernel
theorem dX9_keep_20 : decode cX9_keep 20 = .ok (.getfield 245, 3) := by decide +kernel
theorem dX9_keep_23 : decode cX9_keep 23 = .ok (.ireturn, 1) := by decide +kernel
theorem dX9_back_0 : decode cX9_back 0 = .ok (.aload_n 0, 1) := by decide +kernel
theorem dX9_back_1 : decode cX9_back 1 = .ok (.getfield 48, 3) := by decide +kernel
theorem dX9_back_4 : decode cX9_back 4 = .ok (.ifCond .ne 5, 3) := by decide +kernel
theorem dX9_back_7 : decode cX9_back 7 = .ok (.iconst (-1), 1) := by decide +kernel
theorem dX9_back_8 : decode cX9_back 8 = .ok (.ireturn, 1) := by decide +kernel
theorem dX9_back_9 : decode cX9_back 9 = .ok (.aload_n 0, 1) := by decide +kernel
theorem dX9_back_10 : decode cX9_back 10 = .ok (.getfield 38, 3) := by decide +kernel
theorem dX9_back_13 : decode cX9_back 13 = .ok (.aload_n 0, 1) := by decide +kernel
theorem dX9_back_14 : decode cX9_back 14 = .ok (.getfield 45, 3) := by decide +kernel
theorem dX9_back_17 : decode cX9_back 17 = .ok (.invokevirtual 254, 3) := by decide +kernel
theorem dX9_back_20 : decode cX9_back 20 = .ok (.aload_n 0, 1) := by decide +kernel
theorem dX9_back_21 : decode cX9_back 21 = .ok (.getfield 64, 3) := by decide +kernel
theorem dX9_back_24 : decode cX9_back 24 = .ok (.iconst 0, 1) := by decide +kernel
theorem dX9_back_25 : decode cX9_back 25 = .ok (.putfield 110, 3) := by decide +kernel
theorem dX9_back_28 : decode cX9_back 28 = .ok (.aload_n 0, 1) := by decide +kernel
theorem dX9_back_29 : decode cX9_back 29 = .ok (.getfield 38, 3) := by decide +kernel
theorem dX9_back_32 : decode cX9_back 32 = .ok (.getfield 245, 3) := by decide +kernel
theorem dX9_back_35 : decode cX9_back 35 = .ok (.ireturn, 1) := by decide +kernel
theorem dX9_count_0 : decode cX9_count 0 = .ok (.iload_n 1, 1) := by decide +kernel
theorem dX9_count_1 : decode cX9_count 1 = .ok (.tableswitch 211 0 13 #[71, 79, 87, 95, 106, 114, 122, 138, 154, 163, 175, 187, 195, 203], 71) := by decide +kernel
theorem dX9_count_72 : decode cX9_count 72 = .ok (.aload_n 0, 1) := by decide +kernel
theorem dX9_count_73 : decode cX9_count 73 = .ok (.getfield 31, 3) := by decide +kernel
theorem dX9_count_76 : decode cX9_count 76 = .ok (.getfield 125, 3) := by decide +kernel
theorem dX9_count_79 : decode cX9_count 79 = .ok (.ireturn, 1) := by decide +kernel
theorem dX9_count_80 : decode cX9_count 80 = .ok (.aload_n 0, 1) := by decide +kernel
theorem dX9_count_81 : decode cX9_count 81 = .ok (.getfield 31, 3) := by decide +kernel
theorem dX9_count_84 : decode cX9_count 84 = .ok (.getfield 135, 3) := by decide +kernel
theorem dX9_count_87 : decode cX9_count 87 = .ok (.ireturn, 1) := by decide +kernel
theorem dX9_count_88 : decode cX9_count 88 = .ok (.aload_n 0, 1) := by decide +kernel
theorem dX9_count_89 : decode cX9_count 89 = .ok (.getfield 31, 3) := by decide +kernel
theorem dX9_count_92 : decode cX9_count 92 = .ok (.getfield 384, 3) := by decide +kernel
theorem dX9_count_95 : decode cX9_count 95 = .ok (.ireturn, 1) := by decide +kernel
theorem dX9_count_96 : decode cX9_count 96 = .ok (.aload_n 0, 1) := by decide +kernel
theorem dX9_count_97 : decode cX9_count 97 = .ok (.getfield 31, 3) := by decide +kernel
theorem dX9_count_100 : decode cX9_count 100 = .ok (.getfield 215, 3) := by decide +kernel
theorem dX9_count_103 : decode cX9_count 103 = .ok (.getfield 387, 3) := by decide +kernel
theorem dX9_count_106 : decode cX9_count 106 = .ok (.ireturn, 1) := by decide +kernel
theorem dX9_count_107 : decode cX9_count 107 = .ok (.aload_n 0, 1) := by decide +kernel
theorem dX9_count_108 : decode cX9_count 108 = .ok (.getfield 38, 3) := by decide +kernel
theorem dX9_count_111 : decode cX9_count 111 = .ok (.getfield 245, 3) := by decide +kernel
theorem dX9_count_114 : decode cX9_count 114 = .ok (.ireturn, 1) := by decide +kernel
theorem dX9_count_115 : decode cX9_count 115 = .ok (.aload_n 0, 1) := by decide +kernel
theorem dX9_count_116 : decode cX9_count 116 = .ok (.getfield 38, 3) := by decide +kernel
theorem dX9_count_119 : decode cX9_count 119 = .ok (.getfield 197, 3) := by decide +kernel
theorem dX9_count_122 : decode cX9_count 122 = .ok (.ireturn, 1) := by decide +kernel
theorem dX9_count_123 : decode cX9_count 123 = .ok (.aload_n 0, 1) := by decide +kernel
theorem dX9_count_124 : decode cX9_count 124 = .ok (.getfield 38, 3) := by decide +kernel
theorem dX9_count_127 : decode cX9_count 127 = .ok (.iconst 2, 1) := by decide +kernel
theorem dX9_count_128 : decode cX9_count 128 = .ok (.aload_n 0, 1) := by decide +kernel
theorem dX9_count_129 : decode cX9_count 129 = .ok (.getfield 31, 3) := by decide +kernel
theorem dX9_count_132 : decode cX9_count 132 = .ok (.getfield 125, 3) := by decide +kernel
theorem dX9_count_135 : decode cX9_count 135 = .ok (.invokevirtual 261, 3) := by decide +kernel
theorem dX9_count_138 : decode cX9_count 138 = .ok (.ireturn, 1) := by decide +kernel
theorem dX9_count_139 : decode cX9_count 139 = .ok (.aload_n 0, 1) := by decide +kernel
theorem dX9_count_140 : decode cX9_count 140 = .ok (.getfield 38, 3) := by decide +kernel
theorem dX9_count_143 : decode cX9_count 143 = .ok (.iconst 3, 1) := by decide +kernel
theorem dX9_count_144 : decode cX9_count 144 = .ok (.aload_n 0, 1) := by decide +kernel
theorem dX9_count_145 : decode cX9_count 145 = .ok (.getfield 31, 3) := by decide +kernel
theorem dX9_count_148 : decode cX9_count 148 = .ok (.getfield 125, 3) := by decide +kernel
theorem dX9_count_151 : decode cX9_count 151 = .ok (.invokevirtual 261, 3) := by decide +kernel
theorem dX9_count_154 : decode cX9_count 154 = .ok (.ireturn, 1) := by decide +kernel
theorem dX9_count_155 : decode cX9_count 155 = .ok (.aload_n 0, 1) := by decide +kernel
theorem dX9_count_156 : decode cX9_count 156 = .ok (.aload_n 0, 1) := by decide +kernel
theorem dX9_count_157 : decode cX9_count 157 = .ok (.getfield 38, 3) := by decide +kernel
theorem dX9_count_160 : decode cX9_count 160 = .ok (.invokevirtual 264, 3) := by decide +kernel
theorem dX9_count_163 : decode cX9_count 163 = .ok (.ireturn, 1) := by decide +kernel
theorem dX9_count_164 : decode cX9_count 164 = .ok (.aload_n 0, 1) := by decide +kernel
theorem dX9_count_165 : decode cX9_count 165 = .ok (.aload_n 0, 1) := by decide +kernel
theorem dX9_count_166 : decode cX9_count 166 = .ok (.getfield 38, 3) := by decide +kernel
theorem dX9_count_169 : decode cX9_count 169 = .ok (.getfield 156, 3) := by decide +kernel
theorem dX9_count_172 : decode cX9_count 172 = .ok (.invokevirtual 268, 3) := by decide +kernel
theorem dX9_count_175 : decode cX9_count 175 = .ok (.ireturn, 1) := by decide +kernel
theorem dX9_count_176 : decode cX9_count 176 = .ok (.aload_n 0, 1) := by decide +kernel
theorem dX9_count_177 : decode cX9_count 177 = .ok (.aload_n 0, 1) := by decide +kernel
theorem dX9_count_178 : decode cX9_count 178 = .ok (.getfield 38, 3) := by decide +kernel
theorem dX9_count_181 : decode cX9_count 181 = .ok (.getfield 162, 3) := by decide +kernel
theorem dX9_count_184 : decode cX9_count 184 = .ok (.invokevirtual 268, 3) := by decide +kernel
theorem dX9_count_187 : decode cX9_count 187 = .ok (.ireturn, 1) := by decide +kernel
theorem dX9_count_188 : decode cX9_count 188 = .ok (.aload_n 0, 1) := by decide +kernel
theorem dX9_count_189 : decode cX9_count 189 = .ok (.getfield 71, 3) := by decide +kernel
theorem dX9_count_192 : decode cX9_count 192 = .ok (.getfield 342, 3) := by decide +kernel
theorem dX9_count_195 : decode cX9_count 195 = .ok (.ireturn, 1) := by decide +kernel
theorem dX9_count_196 : decode cX9_count 196 = .ok (.aload_n 0, 1) := by decide +kernel
theorem dX9_count_197 : decode cX9_count 197 = .ok (.getfield 71, 3) := by decide +kernel
theorem dX9_count_200 : decode cX9_count 200 = .ok (.invokevirtual 390, 3) := by decide +kernel
theorem dX9_count_203 : decode cX9_count 203 = .ok (.ireturn, 1) := by decide +kernel
theorem dX9_count_204 : decode cX9_count 204 = .ok (.aload_n 0, 1) := by decide +kernel
theorem dX9_count_205 : decode cX9_count 205 = .ok (.getfield 64, 3) := by decide +kernel
theorem dX9_count_208 : decode cX9_count 208 = .ok (.getfield 110, 3) := by decide +kernel
theorem dX9_count_211 : decode cX9_count 211 = .ok (.ireturn, 1) := by decide +kernel
theorem dX9_count_212 : decode cX9_count 212 = .ok (.iconst (-1), 1) := by decide +kernel
theorem dX9_count_213 : decode cX9_count 213 = .ok (.ireturn, 1) := by decide +kernel
