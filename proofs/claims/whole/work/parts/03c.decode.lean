theorem dX7_init_0 : decode cX7_init 0 = .ok (.aload_n 0, 1) := by decide +kernel
theorem dX7_init_1 : decode cX7_init 1 = .ok (.invokespecial 3, 3) := by decide +kernel
theorem dX7_init_4 : decode cX7_init 4 = .ok (.aload_n 0, 1) := by decide +kernel
theorem dX7_init_5 : decode cX7_init 5 = .ok (.new 9, 3) := by decide +kernel
theorem dX7_init_8 : decode cX7_init 8 = .ok (.dup, 1) := by decide +kernel
theorem dX7_init_9 : decode cX7_init 9 = .ok (.invokespecial 11, 3) := by decide +kernel
theorem dX7_init_12 : decode cX7_init 12 = .ok (.putfield 12, 3) := by decide +kernel
theorem dX7_init_15 : decode cX7_init 15 = .ok (.aload_n 0, 1) := by decide +kernel
theorem dX7_init_16 : decode cX7_init 16 = .ok (.new 16, 3) := by decide +kernel
theorem dX7_init_19 : decode cX7_init 19 = .ok (.dup, 1) := by decide +kernel
theorem dX7_init_20 : decode cX7_init 20 = .ok (.invokespecial 18, 3) := by decide +kernel
theorem dX7_init_23 : decode cX7_init 23 = .ok (.putfield 19, 3) := by decide +kernel
theorem dX7_init_26 : decode cX7_init 26 = .ok (.aload_n 0, 1) := by decide +kernel
theorem dX7_init_27 : decode cX7_init 27 = .ok (.new 23, 3) := by decide +kernel
theorem dX7_init_30 : decode cX7_init 30 = .ok (.dup, 1) := by decide +kernel
theorem dX7_init_31 : decode cX7_init 31 = .ok (.aload_n 0, 1) := by decide +kernel
theorem dX7_init_32 : decode cX7_init 32 = .ok (.getfield 12, 3) := by decide +kernel
theorem dX7_init_35 : decode cX7_init 35 = .ok (.aload_n 0, 1) := by decide +kernel
theorem dX7_init_36 : decode cX7_init 36 = .ok (.getfield 19, 3) := by decide +kernel
theorem dX7_init_39 : decode cX7_init 39 = .ok (.invokespecial 25, 3) := by decide +kernel
theorem dX7_init_42 : decode cX7_init 42 = .ok (.putfield 28, 3) := by decide +kernel
theorem dX7_init_45 : decode cX7_init 45 = .ok (.aload_n 0, 1) := by decide +kernel
theorem dX7_init_46 : decode cX7_init 46 = .ok (.new 16, 3) := by decide +kernel
theorem dX7_init_49 : decode cX7_init 49 = .ok (.dup, 1) := by decide +kernel
theorem dX7_init_50 : decode cX7_init 50 = .ok (.invokespecial 18, 3) := by decide +kernel
theorem dX7_init_53 : decode cX7_init 53 = .ok (.putfield 32, 3) := by decide +kernel
theorem dX7_init_56 : decode cX7_init 56 = .ok (.aload_n 0, 1) := by decide +kernel
theorem dX7_init_57 : decode cX7_init 57 = .ok (.new 23, 3) := by decide +kernel
theorem dX7_init_60 : decode cX7_init 60 = .ok (.dup, 1) := by decide +kernel
theorem dX7_init_61 : decode cX7_init 61 = .ok (.aload_n 0, 1) := by decide +kernel
theorem dX7_init_62 : decode cX7_init 62 = .ok (.getfield 12, 3) := by decide +kernel
theorem dX7_init_65 : decode cX7_init 65 = .ok (.aload_n 0, 1) := by decide +kernel
theorem dX7_init_66 : decode cX7_init 66 = .ok (.getfield 32, 3) := by decide +kernel
theorem dX7_init_69 : decode cX7_init 69 = .ok (.invokespecial 25, 3) := by decide +kernel
theorem dX7_init_72 : decode cX7_init 72 = .ok (.putfield 35, 3) := by decide +kernel
theorem dX7_init_75 : decode cX7_init 75 = .ok (.aload_n 0, 1) := by decide +kernel
theorem dX7_init_76 : decode cX7_init 76 = .ok (.new 38, 3) := by decide +kernel
theorem dX7_init_79 : decode cX7_init 79 = .ok (.dup, 1) := by decide +kernel
theorem dX7_init_80 : decode cX7_init 80 = .ok (.invokespecial 40, 3) := by decide +kernel
theorem dX7_init_83 : decode cX7_init 83 = .ok (.putfield 41, 3) := by decide +kernel
theorem dX7_init_86 : decode cX7_init 86 = .ok (.aload_n 0, 1) := by decide +kernel
theorem dX7_init_87 : decode cX7_init 87 = .ok (.new 45, 3) := by decide +kernel
theorem dX7_init_90 : decode cX7_init 90 = .ok (.dup, 1) := by decide +kernel
theorem dX7_init_91 : decode cX7_init 91 = .ok (.aload_n 0, 1) := by decide +kernel
theorem dX7_init_92 : decode cX7_init 92 = .ok (.getfield 12, 3) := by decide +kernel
theorem dX7_init_95 : decode cX7_init 95 = .ok (.aload_n 0, 1) := by decide +kernel
theorem dX7_init_96 : decode cX7_init 96 = .ok (.getfield 19, 3) := by decide +kernel
theorem dX7_init_99 : decode cX7_init 99 = .ok (.invokespecial 47, 3) := by decide +kernel
theorem dX7_init_102 : decode cX7_init 102 = .ok (.putfield 48, 3) := by decide +kernel
theorem dX7_init_105 : decode cX7_init 105 = .ok (.aload_n 0, 1) := by decide +kernel
theorem dX7_init_106 : decode cX7_init 106 = .ok (.new 52, 3) := by decide +kernel
theorem dX7_init_109 : decode cX7_init 109 = .ok (.dup, 1) := by decide +kernel
theorem dX7_init_110 : decode cX7_init 110 = .ok (.aload_n 0, 1) := by decide +kernel
theorem dX7_init_111 : decode cX7_init 111 = .ok (.getfield 12, 3) := by decide +kernel
theorem dX7_init_114 : decode cX7_init 114 = .ok (.aload_n 0, 1) := by decide +kernel
theorem dX7_init_115 : decode cX7_init 115 = .ok (.getfield 48, 3) := by decide +kernel
theorem dX7_init_118 : decode cX7_init 118 = .ok (.invokespecial 54, 3) := by decide +kernel
theorem dX7_init_121 : decode cX7_init 121 = .ok (.putfield 57, 3) := by decide +kernel
theorem dX7_init_124 : decode cX7_init 124 = .ok (.aload_n 0, 1) := by decide +kernel
theorem dX7_init_125 : decode cX7_init 125 = .ok (.new 61, 3) := by decide +kernel
theorem dX7_init_128 : decode cX7_init 128 = .ok (.dup, 1) := by decide +kernel
theorem dX7_init_129 : decode cX7_init 129 = .ok (.invokespecial 63, 3) := by decide +kernel
theorem dX7_init_132 : decode cX7_init 132 = .ok (.putfield 64, 3) := by decide +kernel
theorem dX7_init_135 : decode cX7_init 135 = .ok (.aload_n 0, 1) := by decide +kernel
theorem dX7_init_136 : decode cX7_init 136 = .ok (.iconst 2, 1) := by decide +kernel
theorem dX7_init_137 : decode cX7_init 137 = .ok (.anewarray 16, 3) := by decide +kernel
theorem dX7_init_140 : decode cX7_init 140 = .ok (.putfield 68, 3) := by decide +kernel
theorem dX7_init_143 : decode cX7_init 143 = .ok (.iconst 0, 1) := by decide +kernel
theorem dX7_init_144 : decode cX7_init 144 = .ok (.istore_n 1, 1) := by decide +kernel
theorem dX7_init_145 : decode cX7_init 145 = .ok (.iload_n 1, 1) := by decide +kernel
theorem dX7_init_146 : decode cX7_init 146 = .ok (.iconst 2, 1) := by decide +kernel
theorem dX7_init_147 : decode cX7_init 147 = .ok (.if_icmp .ge 22, 3) := by decide +kernel
theorem dX7_init_150 : decode cX7_init 150 = .ok (.aload_n 0, 1) := by decide +kernel
theorem dX7_init_151 : decode cX7_init 151 = .ok (.getfield 68, 3) := by decide +kernel
theorem dX7_init_154 : decode cX7_init 154 = .ok (.iload_n 1, 1) := by decide +kernel
theorem dX7_init_155 : decode cX7_init 155 = .ok (.new 16, 3) := by decide +kernel
theorem dX7_init_158 : decode cX7_init 158 = .ok (.dup, 1) := by decide +kernel
theorem dX7_init_159 : decode cX7_init 159 = .ok (.invokespecial 18, 3) := by decide +kernel
theorem dX7_init_162 : decode cX7_init 162 = .ok (.aastore, 1) := by decide +kernel
theorem dX7_init_163 : decode cX7_init 163 = .ok (.iinc 1 1, 3) := by decide +kernel
theorem dX7_init_166 : decode cX7_init 166 = .ok (.goto (-21), 3) := by decide +kernel
theorem dX7_init_169 : decode cX7_init 169 = .ok (.aload_n 0, 1) := by decide +kernel
theorem dX7_init_170 : decode cX7_init 170 = .ok (.iconst 2, 1) := by decide +kernel
theorem dX7_init_171 : decode cX7_init 171 = .ok (.newarray .boolean, 2) := by decide +kernel
theorem dX7_init_173 : decode cX7_init 173 = .ok (.putfield 72, 3) := by decide +kernel
theorem dX7_init_176 : decode cX7_init 176 = .ok (.aload_n 0, 1) := by decide +kernel
theorem dX7_init_177 : decode cX7_init 177 = .ok (.iconst (-1), 1) := by decide +kernel
theorem dX7_init_178 : decode cX7_init 178 = .ok (.putfield 76, 3) := by decide +kernel
theorem dX7_init_181 : decode cX7_init 181 = .ok (.return_, 1) := by decide +kernel
theorem dX7_feed_0 : decode cX7_feed 0 = .ok (.iload_n 1, 1) := by decide +kernel
theorem dX7_feed_1 : decode cX7_feed 1 = .ok (.iconst 1, 1) := by decide +kernel
theorem dX7_feed_2 : decode cX7_feed 2 = .ok (.if_icmp .lt 9, 3) := by decide +kernel
theorem dX7_feed_5 : decode cX7_feed 5 = .ok (.iload_n 1, 1) := by decide +kernel
theorem dX7_feed_6 : decode cX7_feed 6 = .ok (.bipush 8, 2) := by decide +kernel
theorem dX7_feed_8 : decode cX7_feed 8 = .ok (.if_icmp .le 6, 3) := by decide +kernel
theorem dX7_feed_11 : decode cX7_feed 11 = .ok (.ldc 80, 2) := by decide +kernel
theorem dX7_feed_13 : decode cX7_feed 13 = .ok (.ireturn, 1) := by decide +kernel
theorem dX7_feed_14 : decode cX7_feed 14 = .ok (.aload_n 0, 1) := by decide +kernel
theorem dX7_feed_15 : decode cX7_feed 15 = .ok (.getfield 41, 3) := by decide +kernel
theorem dX7_feed_18 : decode cX7_feed 18 = .ok (.getfield 81, 3) := by decide +kernel
theorem dX7_feed_21 : decode cX7_feed 21 = .ok (.iload_n 1, 1) := by decide +kernel
theorem dX7_feed_22 : decode cX7_feed 22 = .ok (.iadd, 1) := by decide +kernel
theorem dX7_feed_23 : decode cX7_feed 23 = .ok (.sipush 500, 3) := by decide +kernel
theorem dX7_feed_26 : decode cX7_feed 26 = .ok (.if_icmp .le 6, 3) := by decide +kernel
theorem dX7_feed_29 : decode cX7_feed 29 = .ok (.ldc 84, 2) := by decide +kernel
theorem dX7_feed_31 : decode cX7_feed 31 = .ok (.ireturn, 1) := by decide +kernel
theorem dX7_feed_32 : decode cX7_feed 32 = .ok (.aload_n 0, 1) := by decide +kernel
theorem dX7_feed_33 : decode cX7_feed 33 = .ok (.getfield 41, 3) := by decide +kernel
theorem dX7_feed_36 : decode cX7_feed 36 = .ok (.iload_n 1, 1) := by decide +kernel
theorem dX7_feed_37 : decode cX7_feed 37 = .ok (.lload_n 2, 1) := by decide +kernel
theorem dX7_feed_38 : decode cX7_feed 38 = .ok (.invokevirtual 85, 3) := by decide +kernel
theorem dX7_feed_41 : decode cX7_feed 41 = .ok (.aload_n 0, 1) := by decide +kernel
theorem dX7_feed_42 : decode cX7_feed 42 = .ok (.getfield 41, 3) := by decide +kernel
theorem dX7_feed_45 : decode cX7_feed 45 = .ok (.getfield 81, 3) := by decide +kernel
theorem dX7_feed_48 : decode cX7_feed 48 = .ok (.ireturn, 1) := by decide +kernel
theorem dX7_house_0 : decode cX7_house 0 = .ok (.aload_n 0, 1) := by decide +kernel
theorem dX7_house_1 : decode cX7_house 1 = .ok (.getfield 41, 3) := by decide +kernel
theorem dX7_house_4 : decode cX7_house 4 = .ok (.invokevirtual 89, 3) := by decide +kernel
theorem dX7_house_7 : decode cX7_house 7 = .ok (.aload_n 0, 1) := by decide +kernel
theorem dX7_house_8 : decode cX7_house 8 = .ok (.getfield 41, 3) := by decide +kernel
theorem dX7_house_11 : decode cX7_house 11 = .ok (.iconst 0, 1) := by decide +kernel
theorem dX7_house_12 : decode cX7_house 12 = .ok (.putfield 81, 3) := by decide +kernel
theorem dX7_house_15 : decode cX7_house 15 = .ok (.aload_n 0, 1) := by decide +kernel
theorem dX7_house_16 : decode cX7_house 16 = .ok (.aload_n 0, 1) := by decide +kernel
theorem dX7_house_17 : decode cX7_house 17 = .ok (.getfield 41, 3) := by decide +kernel
theorem dX7_house_20 : decode cX7_house 20 = .ok (.getfield 92, 3) := by decide +kernel
theorem dX7_house_23 : decode cX7_house 23 = .ok (.putfield 76, 3) := by decide +kernel
theorem dX7_house_26 : decode cX7_house 26 = .ok (.aload_n 0, 1) := by decide +kernel
theorem dX7_house_27 : decode cX7_house 27 = .ok (.getfield 41, 3) := by decide +kernel
theorem dX7_house_30 : decode cX7_house 30 = .ok (.getfield 93, 3) := by decide +kernel
theorem dX7_house_33 : decode cX7_house 33 = .ok (.ifCond .eq 14, 3) := by decide +kernel
theorem dX7_house_36 : decode cX7_house 36 = .ok (.bipush (-10), 2) := by decide +kernel
theorem dX7_house_38 : decode cX7_house 38 = .ok (.aload_n 0, 1) := by decide +kernel
theorem dX7_house_39 : decode cX7_house 39 = .ok (.getfield 41, 3) := by decide +kernel
theorem dX7_house_42 : decode cX7_house 42 = .ok (.getfield 93, 3) := by decide +kernel
theorem dX7_house_45 : decode cX7_house 45 = .ok (.isub, 1) := by decide +kernel
theorem dX7_house_46 : decode cX7_house 46 = .ok (.ireturn, 1) := by decide +kernel
theorem dX7_house_47 : decode cX7_house 47 = .ok (.aload_n 0, 1) := by decide +kernel
theorem dX7_house_48 : decode cX7_house 48 = .ok (.getfield 12, 3) := by decide +kernel
theorem dX7_house_51 : decode cX7_house 51 = .ok (.aload_n 0, 1) := by decide +kernel
theorem dX7_house_52 : decode cX7_house 52 = .ok (.getfield 41, 3) := by decide +kernel
theorem dX7_house_55 : decode cX7_house 55 = .ok (.getfield 96, 3) := by decide +kernel
theorem dX7_house_58 : decode cX7_house 58 = .ok (.invokevirtual 99, 3) := by decide +kernel
theorem dX7_house_61 : decode cX7_house 61 = .ok (.aload_n 0, 1) := by decide +kernel
theorem dX7_house_62 : decode cX7_house 62 = .ok (.getfield 19, 3) := by decide +kernel
theorem dX7_house_65 : decode cX7_house 65 = .ok (.aload_n 0, 1) := by decide +kernel
theorem dX7_house_66 : decode cX7_house 66 = .ok (.getfield 12, 3) := by decide +kernel
theorem dX7_house_69 : decode cX7_house 69 = .ok (.invokevirtual 103, 3) := by decide +kernel
theorem dX7_house_72 : decode cX7_house 72 = .ok (.aload_n 0, 1) := by decide +kernel
theorem dX7_house_73 : decode cX7_house 73 = .ok (.getfield 48, 3) := by decide +kernel
theorem dX7_house_76 : decode cX7_house 76 = .ok (.invokevirtual 106, 3) := by decide +kernel
theorem dX7_house_79 : decode cX7_house 79 = .ok (.aload_n 0, 1) := by decide +kernel
theorem dX7_house_80 : decode cX7_house 80 = .ok (.getfield 64, 3) := by decide +kernel
theorem dX7_house_83 : decode cX7_house 83 = .ok (.iconst 0, 1) := by decide +kernel
theorem dX7_house_84 : decode cX7_house 84 = .ok (.putfield 109, 3) := by decide +kernel
theorem dX7_house_87 : decode cX7_house 87 = .ok (.iconst 0, 1) := by decide +kernel
theorem dX7_house_88 : decode cX7_house 88 = .ok (.istore_n 1, 1) := by decide +kernel
theorem dX7_house_89 : decode cX7_house 89 = .ok (.iload_n 1, 1) := by decide +kernel
theorem dX7_house_90 : decode cX7_house 90 = .ok (.iconst 2, 1) := by decide +kernel
theorem dX7_house_91 : decode cX7_house 91 = .ok (.if_icmp .ge 16, 3) := by decide +kernel
theorem dX7_house_94 : decode cX7_house 94 = .ok (.aload_n 0, 1) := by decide +kernel
theorem dX7_house_95 : decode cX7_house 95 = .ok (.getfield 72, 3) := by decide +kernel
theorem dX7_house_98 : decode cX7_house 98 = .ok (.iload_n 1, 1) := by decide +kernel
theorem dX7_house_99 : decode cX7_house 99 = .ok (.iconst 0, 1) := by decide +kernel
theorem dX7_house_100 : decode cX7_house 100 = .ok (.bastore, 1) := by decide +kernel
theorem dX7_house_101 : decode cX7_house 101 = .ok (.iinc 1 1, 3) := by decide +kernel
theorem dX7_house_104 : decode cX7_house 104 = .ok (.goto (-15), 3) := by decide +kernel
theorem dX7_house_107 : decode cX7_house 107 = .ok (.aload_n 0, 1) := by decide +kernel
theorem dX7_house_108 : decode cX7_house 108 = .ok (.getfield 12, 3) := by decide +kernel
theorem dX7_house_111 : decode cX7_house 111 = .ok (.getfield 112, 3) := by decide +kernel
theorem dX7_house_114 : decode cX7_house 114 = .ok (.ireturn, 1) := by decide +kernel
theorem dX7_fault_0 : decode cX7_fault 0 = .ok (.aload_n 0, 1) := by decide +kernel
theorem dX7_fault_1 : decode cX7_fault 1 = .ok (.getfield 76, 3) := by decide +kernel
theorem dX7_fault_4 : decode cX7_fault 4 = .ok (.ireturn, 1) := by decide +kernel
theorem dX7_told_0 : decode cX7_told 0 = .ok (.iload_n 1, 1) := by decide +kernel
theorem dX7_told_1 : decode cX7_told 1 = .ok (.tableswitch 99 0 6 #[43, 51, 59, 67, 75, 83, 91], 43) := by decide +kernel
theorem dX7_told_44 : decode cX7_told 44 = .ok (.aload_n 0, 1) := by decide +kernel
theorem dX7_told_45 : decode cX7_told 45 = .ok (.getfield 12, 3) := by decide +kernel
theorem dX7_told_48 : decode cX7_told 48 = .ok (.getfield 115, 3) := by decide +kernel
theorem dX7_told_51 : decode cX7_told 51 = .ok (.ireturn, 1) := by decide +kernel
theorem dX7_told_52 : decode cX7_told 52 = .ok (.aload_n 0, 1) := by decide +kernel
theorem dX7_told_53 : decode cX7_told 53 = .ok (.getfield 12, 3) := by decide +kernel
theorem dX7_told_56 : decode cX7_told 56 = .ok (.getfield 112, 3) := by decide +kernel
theorem dX7_told_59 : decode cX7_told 59 = .ok (.ireturn, 1) := by decide +kernel
theorem dX7_told_60 : decode cX7_told 60 = .ok (.aload_n 0, 1) := by decide +kernel
theorem dX7_told_61 : decode cX7_told 61 = .ok (.getfield 12, 3) := by decide +kernel
theorem dX7_told_64 : decode cX7_told 64 = .ok (.getfield 118, 3) := by decide +kernel
theorem dX7_told_67 : decode cX7_told 67 = .ok (.ireturn, 1) := by decide +kernel
theorem dX7_told_68 : decode cX7_told 68 = .ok (.aload_n 0, 1) := by decide +kernel
theorem dX7_told_69 : decode cX7_told 69 = .ok (.getfield 41, 3) := by decide +kernel
theorem dX7_told_72 : decode cX7_told 72 = .ok (.getfield 81, 3) := by decide +kernel
theorem dX7_told_75 : decode cX7_told 75 = .ok (.ireturn, 1) := by decide +kernel
theorem dX7_told_76 : decode cX7_told 76 = .ok (.aload_n 0, 1) := by decide +kernel
theorem dX7_told_77 : decode cX7_told 77 = .ok (.getfield 19, 3) := by decide +kernel
theorem dX7_told_80 : decode cX7_told 80 = .ok (.getfield 121, 3) := by decide +kernel
theorem dX7_told_83 : decode cX7_told 83 = .ok (.ireturn, 1) := by decide +kernel
theorem dX7_told_84 : decode cX7_told 84 = .ok (.aload_n 0, 1) := by decide +kernel
theorem dX7_told_85 : decode cX7_told 85 = .ok (.getfield 64, 3) := by decide +kernel
theorem dX7_told_88 : decode cX7_told 88 = .ok (.getfield 109, 3) := by decide +kernel
theorem dX7_told_91 : decode cX7_told 91 = .ok (.ireturn, 1) := by decide +kernel
theorem dX7_told_92 : decode cX7_told 92 = .ok (.aload_n 0, 1) := by decide +kernel
theorem dX7_told_93 : decode cX7_told 93 = .ok (.getfield 19, 3) := by decide +kernel
theorem dX7_told_96 : decode cX7_told 96 = .ok (.invokevirtual 124, 3) := by decide +kernel
theorem dX7_told_99 : decode cX7_told 99 = .ok (.ireturn, 1) := by decide +kernel
theorem dX7_told_100 : decode cX7_told 100 = .ok (.ldc 80, 2) := by decide +kernel
theorem dX7_told_102 : decode cX7_told 102 = .ok (.ireturn, 1) := by decide +kernel
theorem dX7_room_0 : decode cX7_room 0 = .ok (.aload_n 0, 1) := by decide +kernel
theorem dX7_room_1 : decode cX7_room 1 = .ok (.getfield 12, 3) := by decide +kernel
theorem dX7_room_4 : decode cX7_room 4 = .ok (.iload_n 1, 1) := by decide +kernel
theorem dX7_room_5 : decode cX7_room 5 = .ok (.invokevirtual 128, 3) := by decide +kernel
theorem dX7_room_8 : decode cX7_room 8 = .ok (.ifCond .ne 6, 3) := by decide +kernel
theorem dX7_room_11 : decode cX7_room 11 = .ok (.ldc 132, 2) := by decide +kernel
theorem dX7_room_13 : decode cX7_room 13 = .ok (.ireturn, 1) := by decide +kernel
theorem dX7_room_14 : decode cX7_room 14 = .ok (.iload_n 2, 1) := by decide +kernel
theorem dX7_room_15 : decode cX7_room 15 = .ok (.iconst (-1), 1) := by decide +kernel
theorem dX7_room_16 : decode cX7_room 16 = .ok (.if_icmp .ne 12, 3) := by decide +kernel
theorem dX7_room_19 : decode cX7_room 19 = .ok (.aload_n 0, 1) := by decide +kernel
theorem dX7_room_20 : decode cX7_room 20 = .ok (.getfield 12, 3) := by decide +kernel
theorem dX7_room_23 : decode cX7_room 23 = .ok (.iload_n 1, 1) := by decide +kernel
theorem dX7_room_24 : decode cX7_room 24 = .ok (.invokevirtual 133, 3) := by decide +kernel
theorem dX7_room_27 : decode cX7_room 27 = .ok (.ireturn, 1) := by decide +kernel
theorem dX7_room_28 : decode cX7_room 28 = .ok (.aload_n 0, 1) := by decide +kernel
theorem dX7_room_29 : decode cX7_room 29 = .ok (.getfield 12, 3) := by decide +kernel
theorem dX7_room_32 : decode cX7_room 32 = .ok (.iload_n 1, 1) := by decide +kernel
theorem dX7_room_33 : decode cX7_room 33 = .ok (.iload_n 2, 1) := by decide +kernel
theorem dX7_room_34 : decode cX7_room 34 = .ok (.invokevirtual 137, 3) := by decide +kernel
theorem dX7_room_37 : decode cX7_room 37 = .ok (.ifCond .ne 6, 3) := by decide +kernel
theorem dX7_room_40 : decode cX7_room 40 = .ok (.ldc 132, 2) := by decide +kernel
theorem dX7_room_42 : decode cX7_room 42 = .ok (.ireturn, 1) := by decide +kernel
theorem dX7_room_43 : decode cX7_room 43 = .ok (.iload_n 3, 1) := by decide +kernel
theorem dX7_room_44 : decode cX7_room 44 = .ok (.ifCond .lt 8, 3) := by decide +kernel
theorem dX7_room_47 : decode cX7_room 47 = .ok (.iload_n 3, 1) := by decide +kernel
theorem dX7_room_48 : decode cX7_room 48 = .ok (.iconst 1, 1) := by decide +kernel
theorem dX7_room_49 : decode cX7_room 49 = .ok (.if_icmp .le 6, 3) := by decide +kernel
theorem dX7_room_52 : decode cX7_room 52 = .ok (.ldc 80, 2) := by decide +kernel
theorem dX7_room_54 : decode cX7_room 54 = .ok (.ireturn, 1) := by decide +kernel
theorem dX7_room_55 : decode cX7_room 55 = .ok (.iload_n 3, 1) := by decide +kernel
theorem dX7_room_56 : decode cX7_room 56 = .ok (.ifCond .ne 15, 3) := by decide +kernel
theorem dX7_room_59 : decode cX7_room 59 = .ok (.aload_n 0, 1) := by decide +kernel
theorem dX7_room_60 : decode cX7_room 60 = .ok (.getfield 12, 3) := by decide +kernel
theorem dX7_room_63 : decode cX7_room 63 = .ok (.iload_n 1, 1) := by decide +kernel
theorem dX7_room_64 : decode cX7_room 64 = .ok (.iload_n 2, 1) := by decide +kernel
theorem dX7_room_65 : decode cX7_room 65 = .ok (.invokevirtual 141, 3) := by decide +kernel
theorem dX7_room_68 : decode cX7_room 68 = .ok (.goto 12, 3) := by decide +kernel
theorem dX7_room_71 : decode cX7_room 71 = .ok (.aload_n 0, 1) := by decide +kernel
theorem dX7_room_72 : decode cX7_room 72 = .ok (.getfield 19, 3) := by decide +kernel
theorem dX7_room_75 : decode cX7_room 75 = .ok (.iload_n 1, 1) := by decide +kernel
theorem dX7_room_76 : decode cX7_room 76 = .ok (.iload_n 2, 1) := by decide +kernel
theorem dX7_room_77 : decode cX7_room 77 = .ok (.invokevirtual 145, 3) := by decide +kernel
theorem dX7_room_80 : decode cX7_room 80 = .ok (.ireturn, 1) := by decide +kernel
theorem dX7_person_0 : decode cX7_person 0 = .ok (.aload_n 0, 1) := by decide +kernel
theorem dX7_person_1 : decode cX7_person 1 = .ok (.getfield 12, 3) := by decide +kernel
theorem dX7_person_4 : decode cX7_person 4 = .ok (.iload_n 1, 1) := by decide +kernel
theorem dX7_person_5 : decode cX7_person 5 = .ok (.invokevirtual 148, 3) := by decide +kernel
theorem dX7_person_8 : decode cX7_person 8 = .ok (.ifCond .ne 6, 3) := by decide +kernel
theorem dX7_person_11 : decode cX7_person 11 = .ok (.ldc 132, 2) := by decide +kernel
theorem dX7_person_13 : decode cX7_person 13 = .ok (.ireturn, 1) := by decide +kernel
theorem dX7_person_14 : decode cX7_person 14 = .ok (.iload_n 2, 1) := by decide +kernel
theorem dX7_person_15 : decode cX7_person 15 = .ok (.tableswitch 141 0 7 #[45, 55, 65, 75, 85, 95, 105, 115], 45) := by decide +kernel
theorem dX7_person_60 : decode cX7_person 60 = .ok (.aload_n 0, 1) := by decide +kernel
theorem dX7_person_61 : decode cX7_person 61 = .ok (.getfield 19, 3) := by decide +kernel
theorem dX7_person_64 : decode cX7_person 64 = .ok (.getfield 151, 3) := by decide +kernel
theorem dX7_person_67 : decode cX7_person 67 = .ok (.iload_n 1, 1) := by decide +kernel
theorem dX7_person_68 : decode cX7_person 68 = .ok (.iaload, 1) := by decide +kernel
theorem dX7_person_69 : decode cX7_person 69 = .ok (.ireturn, 1) := by decide +kernel
theorem dX7_person_70 : decode cX7_person 70 = .ok (.aload_n 0, 1) := by decide +kernel
theorem dX7_person_71 : decode cX7_person 71 = .ok (.getfield 19, 3) := by decide +kernel
theorem dX7_person_74 : decode cX7_person 74 = .ok (.getfield 155, 3) := by decide +kernel
theorem dX7_person_77 : decode cX7_person 77 = .ok (.iload_n 1, 1) := by decide +kernel
theorem dX7_person_78 : decode cX7_person 78 = .ok (.iaload, 1) := by decide +kernel
theorem dX7_person_79 : decode cX7_person 79 = .ok (.ireturn, 1) := by decide +kernel
theorem dX7_person_80 : decode cX7_person 80 = .ok (.aload_n 0, 1) := by decide +kernel
theorem dX7_person_81 : decode cX7_person 81 = .ok (.getfield 12, 3) := by decide +kernel
theorem dX7_person_84 : decode cX7_person 84 = .ok (.getfield 158, 3) := by decide +kernel
theorem dX7_person_87 : decode cX7_person 87 = .ok (.iload_n 1, 1) := by decide +kernel
theorem dX7_person_88 : decode cX7_person 88 = .ok (.iaload, 1) := by decide +kernel
theorem dX7_person_89 : decode cX7_person 89 = .ok (.ireturn, 1) := by decide +kernel
theorem dX7_person_90 : decode cX7_person 90 = .ok (.aload_n 0, 1) := by decide +kernel
theorem dX7_person_91 : decode cX7_person 91 = .ok (.getfield 12, 3) := by decide +kernel
theorem dX7_person_94 : decode cX7_person 94 = .ok (.getfield 161, 3) := by decide +kernel
theorem dX7_person_97 : decode cX7_person 97 = .ok (.iload_n 1, 1) := by decide +kernel
theorem dX7_person_98 : decode cX7_person 98 = .ok (.iaload, 1) := by decide +kernel
theorem dX7_person_99 : decode cX7_person 99 = .ok (.ireturn, 1) := by decide +kernel
theorem dX7_person_100 : decode cX7_person 100 = .ok (.aload_n 0, 1) := by decide +kernel
theorem dX7_person_101 : decode cX7_person 101 = .ok (.getfield 19, 3) := by decide +kernel
theorem dX7_person_104 : decode cX7_person 104 = .ok (.getfield 164, 3) := by decide +kernel
theorem dX7_person_107 : decode cX7_person 107 = .ok (.iload_n 1, 1) := by decide +kernel
theorem dX7_person_108 : decode cX7_person 108 = .ok (.iaload, 1) := by decide +kernel
theorem dX7_person_109 : decode cX7_person 109 = .ok (.ireturn, 1) := by decide +kernel
theorem dX7_person_110 : decode cX7_person 110 = .ok (.aload_n 0, 1) := by decide +kernel
theorem dX7_person_111 : decode cX7_person 111 = .ok (.getfield 19, 3) := by decide +kernel
theorem dX7_person_114 : decode cX7_person 114 = .ok (.getfield 167, 3) := by decide +kernel
theorem dX7_person_117 : decode cX7_person 117 = .ok (.iload_n 1, 1) := by decide +kernel
theorem dX7_person_118 : decode cX7_person 118 = .ok (.iaload, 1) := by decide +kernel
theorem dX7_person_119 : decode cX7_person 119 = .ok (.ireturn, 1) := by decide +kernel
theorem dX7_person_120 : decode cX7_person 120 = .ok (.aload_n 0, 1) := by decide +kernel
theorem dX7_person_121 : decode cX7_person 121 = .ok (.getfield 19, 3) := by decide +kernel
theorem dX7_person_124 : decode cX7_person 124 = .ok (.getfield 170, 3) := by decide +kernel
theorem dX7_person_127 : decode cX7_person 127 = .ok (.iload_n 1, 1) := by decide +kernel
theorem dX7_person_128 : decode cX7_person 128 = .ok (.iaload, 1) := by decide +kernel
theorem dX7_person_129 : decode cX7_person 129 = .ok (.ireturn, 1) := by decide +kernel
theorem dX7_person_130 : decode cX7_person 130 = .ok (.aload_n 0, 1) := by decide +kernel
theorem dX7_person_131 : decode cX7_person 131 = .ok (.getfield 19, 3) := by decide +kernel
theorem dX7_person_134 : decode cX7_person 134 = .ok (.getfield 164, 3) := by decide +kernel
theorem dX7_person_137 : decode cX7_person 137 = .ok (.iload_n 1, 1) := by decide +kernel
theorem dX7_person_138 : decode cX7_person 138 = .ok (.iaload, 1) := by decide +kernel
theorem dX7_person_139 : decode cX7_person 139 = .ok (.iconst (-1), 1) := by decide +kernel
theorem dX7_person_140 : decode cX7_person 140 = .ok (.if_icmp .ne 7, 3) := by decide +kernel
theorem dX7_person_143 : decode cX7_person 143 = .ok (.iconst (-1), 1) := by decide +kernel
theorem dX7_person_144 : decode cX7_person 144 = .ok (.goto 11, 3) := by decide +kernel
theorem dX7_person_147 : decode cX7_person 147 = .ok (.aload_n 0, 1) := by decide +kernel
theorem dX7_person_148 : decode cX7_person 148 = .ok (.getfield 28, 3) := by decide +kernel
theorem dX7_person_151 : decode cX7_person 151 = .ok (.iload_n 1, 1) := by decide +kernel
theorem dX7_person_152 : decode cX7_person 152 = .ok (.invokevirtual 173, 3) := by decide +kernel
theorem dX7_person_155 : decode cX7_person 155 = .ok (.ireturn, 1) := by decide +kernel
theorem dX7_person_156 : decode cX7_person 156 = .ok (.ldc 80, 2) := by decide +kernel
theorem dX7_person_158 : decode cX7_person 158 = .ok (.ireturn, 1) := by decide +kernel
theorem dX7_friends_0 : decode cX7_friends 0 = .ok (.aload_n 0, 1) := by decide +kernel
theorem dX7_friends_1 : decode cX7_friends 1 = .ok (.getfield 12, 3) := by decide +kernel
theorem dX7_friends_4 : decode cX7_friends 4 = .ok (.iload_n 1, 1) := by decide +kernel
theorem dX7_friends_5 : decode cX7_friends 5 = .ok (.invokevirtual 148, 3) := by decide +kernel
theorem dX7_friends_8 : decode cX7_friends 8 = .ok (.ifCond .eq 19, 3) := by decide +kernel
theorem dX7_friends_11 : decode cX7_friends 11 = .ok (.aload_n 0, 1) := by decide +kernel
theorem dX7_friends_12 : decode cX7_friends 12 = .ok (.getfield 12, 3) := by decide +kernel
theorem dX7_friends_15 : decode cX7_friends 15 = .ok (.iload_n 2, 1) := by decide +kernel
theorem dX7_friends_16 : decode cX7_friends 16 = .ok (.invokevirtual 148, 3) := by decide +kernel
theorem dX7_friends_19 : decode cX7_friends 19 = .ok (.ifCond .eq 8, 3) := by decide +kernel
theorem dX7_friends_22 : decode cX7_friends 22 = .ok (.iload_n 1, 1) := by decide +kernel
theorem dX7_friends_23 : decode cX7_friends 23 = .ok (.iload_n 2, 1) := by decide +kernel
theorem dX7_friends_24 : decode cX7_friends 24 = .ok (.if_icmp .ne 6, 3) := by decide +kernel
theorem dX7_friends_27 : decode cX7_friends 27 = .ok (.ldc 132, 2) := by decide +kernel
theorem dX7_friends_29 : decode cX7_friends 29 = .ok (.ireturn, 1) := by decide +kernel
theorem dX7_friends_30 : decode cX7_friends 30 = .ok (.aload_n 0, 1) := by decide +kernel
theorem dX7_friends_31 : decode cX7_friends 31 = .ok (.getfield 12, 3) := by decide +kernel
theorem dX7_friends_34 : decode cX7_friends 34 = .ok (.iload_n 1, 1) := by decide +kernel
theorem dX7_friends_35 : decode cX7_friends 35 = .ok (.iload_n 2, 1) := by decide +kernel
theorem dX7_friends_36 : decode cX7_friends 36 = .ok (.invokevirtual 176, 3) := by decide +kernel
theorem dX7_friends_39 : decode cX7_friends 39 = .ok (.ireturn, 1) := by decide +kernel
theorem dX7_law_0 : decode cX7_law 0 = .ok (.iload_n 1, 1) := by decide +kernel
theorem dX7_law_1 : decode cX7_law 1 = .ok (.ifCond .lt 8, 3) := by decide +kernel
theorem dX7_law_4 : decode cX7_law 4 = .ok (.iload_n 1, 1) := by decide +kernel
theorem dX7_law_5 : decode cX7_law 5 = .ok (.iconst 1, 1) := by decide +kernel
theorem dX7_law_6 : decode cX7_law 6 = .ok (.if_icmp .le 6, 3) := by decide +kernel
theorem dX7_law_9 : decode cX7_law 9 = .ok (.ldc 80, 2) := by decide +kernel
theorem dX7_law_11 : decode cX7_law 11 = .ok (.ireturn, 1) := by decide +kernel
theorem dX7_law_12 : decode cX7_law 12 = .ok (.aload_n 0, 1) := by decide +kernel
theorem dX7_law_13 : decode cX7_law 13 = .ok (.getfield 19, 3) := by decide +kernel
theorem dX7_law_16 : decode cX7_law 16 = .ok (.getfield 121, 3) := by decide +kernel
theorem dX7_law_19 : decode cX7_law 19 = .ok (.istore_n 2, 1) := by decide +kernel
theorem dX7_law_20 : decode cX7_law 20 = .ok (.aload_n 0, 1) := by decide +kernel
theorem dX7_law_21 : decode cX7_law 21 = .ok (.getfield 19, 3) := by decide +kernel
theorem dX7_law_24 : decode cX7_law 24 = .ok (.iload_n 1, 1) := by decide +kernel
theorem dX7_law_25 : decode cX7_law 25 = .ok (.putfield 121, 3) := by decide +kernel
theorem dX7_law_28 : decode cX7_law 28 = .ok (.iload_n 2, 1) := by decide +kernel
theorem dX7_law_29 : decode cX7_law 29 = .ok (.ireturn, 1) := by decide +kernel
theorem dX7_put_0 : decode cX7_put 0 = .ok (.aload_n 0, 1) := by decide +kernel
theorem dX7_put_1 : decode cX7_put 1 = .ok (.iload_n 1, 1) := by decide +kernel
theorem dX7_put_2 : decode cX7_put 2 = .ok (.iload_n 2, 1) := by decide +kernel
theorem dX7_put_3 : decode cX7_put 3 = .ok (.iload_n 3, 1) := by decide +kernel
theorem dX7_put_4 : decode cX7_put 4 = .ok (.invokevirtual 179, 3) := by decide +kernel
theorem dX7_put_7 : decode cX7_put 7 = .ok (.ifCond .ne 6, 3) := by decide +kernel
theorem dX7_put_10 : decode cX7_put 10 = .ok (.ldc 132, 2) := by decide +kernel
theorem dX7_put_12 : decode cX7_put 12 = .ok (.ireturn, 1) := by decide +kernel
theorem dX7_put_13 : decode cX7_put 13 = .ok (.aload_n 0, 1) := by decide +kernel
theorem dX7_put_14 : decode cX7_put 14 = .ok (.getfield 19, 3) := by decide +kernel
theorem dX7_put_17 : decode cX7_put 17 = .ok (.iload_n 1, 1) := by decide +kernel
theorem dX7_put_18 : decode cX7_put 18 = .ok (.iload_n 2, 1) := by decide +kernel
theorem dX7_put_19 : decode cX7_put 19 = .ok (.iload_n 3, 1) := by decide +kernel
theorem dX7_put_20 : decode cX7_put 20 = .ok (.invokevirtual 183, 3) := by decide +kernel
theorem dX7_put_23 : decode cX7_put 23 = .ok (.ifCond .ne 6, 3) := by decide +kernel
theorem dX7_put_26 : decode cX7_put 26 = .ok (.ldc 186, 2) := by decide +kernel
theorem dX7_put_28 : decode cX7_put 28 = .ok (.ireturn, 1) := by decide +kernel
theorem dX7_put_29 : decode cX7_put 29 = .ok (.aload_n 0, 1) := by decide +kernel
theorem dX7_put_30 : decode cX7_put 30 = .ok (.getfield 19, 3) := by decide +kernel
theorem dX7_put_33 : decode cX7_put 33 = .ok (.iload_n 1, 1) := by decide +kernel
theorem dX7_put_34 : decode cX7_put 34 = .ok (.iload_n 2, 1) := by decide +kernel
theorem dX7_put_35 : decode cX7_put 35 = .ok (.iload_n 3, 1) := by decide +kernel
theorem dX7_put_36 : decode cX7_put 36 = .ok (.invokevirtual 187, 3) := by decide +kernel
theorem dX7_put_39 : decode cX7_put 39 = .ok (.aload_n 0, 1) := by decide +kernel
theorem dX7_put_40 : decode cX7_put 40 = .ok (.getfield 19, 3) := by decide +kernel
theorem dX7_put_43 : decode cX7_put 43 = .ok (.iload_n 2, 1) := by decide +kernel
theorem dX7_put_44 : decode cX7_put 44 = .ok (.invokevirtual 191, 3) := by decide +kernel
theorem dX7_put_47 : decode cX7_put 47 = .ok (.ireturn, 1) := by decide +kernel
theorem dX7_leave_0 : decode cX7_leave 0 = .ok (.aload_n 0, 1) := by decide +kernel
theorem dX7_leave_1 : decode cX7_leave 1 = .ok (.getfield 12, 3) := by decide +kernel
theorem dX7_leave_4 : decode cX7_leave 4 = .ok (.iload_n 1, 1) := by decide +kernel
theorem dX7_leave_5 : decode cX7_leave 5 = .ok (.invokevirtual 148, 3) := by decide +kernel
theorem dX7_leave_8 : decode cX7_leave 8 = .ok (.ifCond .ne 6, 3) := by decide +kernel
theorem dX7_leave_11 : decode cX7_leave 11 = .ok (.ldc 132, 2) := by decide +kernel
theorem dX7_leave_13 : decode cX7_leave 13 = .ok (.ireturn, 1) := by decide +kernel
theorem dX7_leave_14 : decode cX7_leave 14 = .ok (.aload_n 0, 1) := by decide +kernel
theorem dX7_leave_15 : decode cX7_leave 15 = .ok (.getfield 19, 3) := by decide +kernel
theorem dX7_leave_18 : decode cX7_leave 18 = .ok (.getfield 164, 3) := by decide +kernel
theorem dX7_leave_21 : decode cX7_leave 21 = .ok (.iload_n 1, 1) := by decide +kernel
theorem dX7_leave_22 : decode cX7_leave 22 = .ok (.iaload, 1) := by decide +kernel
theorem dX7_leave_23 : decode cX7_leave 23 = .ok (.istore_n 2, 1) := by decide +kernel
theorem dX7_leave_24 : decode cX7_leave 24 = .ok (.iload_n 2, 1) := by decide +kernel
theorem dX7_leave_25 : decode cX7_leave 25 = .ok (.iconst (-1), 1) := by decide +kernel
theorem dX7_leave_26 : decode cX7_leave 26 = .ok (.if_icmp .ne 6, 3) := by decide +kernel
theorem dX7_leave_29 : decode cX7_leave 29 = .ok (.ldc 186, 2) := by decide +kernel
theorem dX7_leave_31 : decode cX7_leave 31 = .ok (.ireturn, 1) := by decide +kernel
theorem dX7_leave_32 : decode cX7_leave 32 = .ok (.aload_n 0, 1) := by decide +kernel
theorem dX7_leave_33 : decode cX7_leave 33 = .ok (.getfield 19, 3) := by decide +kernel
theorem dX7_leave_36 : decode cX7_leave 36 = .ok (.iload_n 1, 1) := by decide +kernel
theorem dX7_leave_37 : decode cX7_leave 37 = .ok (.invokevirtual 194, 3) := by decide +kernel
theorem dX7_leave_40 : decode cX7_leave 40 = .ok (.iload_n 2, 1) := by decide +kernel
theorem dX7_leave_41 : decode cX7_leave 41 = .ok (.ireturn, 1) := by decide +kernel
theorem dX7_bend_0 : decode cX7_bend 0 = .ok (.aload_n 0, 1) := by decide +kernel
theorem dX7_bend_1 : decode cX7_bend 1 = .ok (.getfield 12, 3) := by decide +kernel
theorem dX7_bend_4 : decode cX7_bend 4 = .ok (.iload_n 1, 1) := by decide +kernel
theorem dX7_bend_5 : decode cX7_bend 5 = .ok (.invokevirtual 148, 3) := by decide +kernel
theorem dX7_bend_8 : decode cX7_bend 8 = .ok (.ifCond .ne 6, 3) := by decide +kernel
theorem dX7_bend_11 : decode cX7_bend 11 = .ok (.ldc 132, 2) := by decide +kernel
theorem dX7_bend_13 : decode cX7_bend 13 = .ok (.ireturn, 1) := by decide +kernel
theorem dX7_bend_14 : decode cX7_bend 14 = .ok (.iload_n 2, 1) := by decide +kernel
theorem dX7_bend_15 : decode cX7_bend 15 = .ok (.ifCond .lt 16, 3) := by decide +kernel
theorem dX7_bend_18 : decode cX7_bend 18 = .ok (.iload_n 2, 1) := by decide +kernel
theorem dX7_bend_19 : decode cX7_bend 19 = .ok (.aload_n 0, 1) := by decide +kernel
theorem dX7_bend_20 : decode cX7_bend 20 = .ok (.getfield 12, 3) := by decide +kernel
theorem dX7_bend_23 : decode cX7_bend 23 = .ok (.getfield 158, 3) := by decide +kernel
theorem dX7_bend_26 : decode cX7_bend 26 = .ok (.iload_n 1, 1) := by decide +kernel
theorem dX7_bend_27 : decode cX7_bend 27 = .ok (.iaload, 1) := by decide +kernel
theorem dX7_bend_28 : decode cX7_bend 28 = .ok (.if_icmp .le 6, 3) := by decide +kernel
theorem dX7_bend_31 : decode cX7_bend 31 = .ok (.ldc 80, 2) := by decide +kernel
theorem dX7_bend_33 : decode cX7_bend 33 = .ok (.ireturn, 1) := by decide +kernel
theorem dX7_bend_34 : decode cX7_bend 34 = .ok (.aload_n 0, 1) := by decide +kernel
theorem dX7_bend_35 : decode cX7_bend 35 = .ok (.getfield 19, 3) := by decide +kernel
theorem dX7_bend_38 : decode cX7_bend 38 = .ok (.getfield 164, 3) := by decide +kernel
theorem dX7_bend_41 : decode cX7_bend 41 = .ok (.iload_n 1, 1) := by decide +kernel
theorem dX7_bend_42 : decode cX7_bend 42 = .ok (.iaload, 1) := by decide +kernel
theorem dX7_bend_43 : decode cX7_bend 43 = .ok (.iconst (-1), 1) := by decide +kernel
theorem dX7_bend_44 : decode cX7_bend 44 = .ok (.if_icmp .ne 6, 3) := by decide +kernel
theorem dX7_bend_47 : decode cX7_bend 47 = .ok (.ldc 186, 2) := by decide +kernel
theorem dX7_bend_49 : decode cX7_bend 49 = .ok (.ireturn, 1) := by decide +kernel
theorem dX7_bend_50 : decode cX7_bend 50 = .ok (.aload_n 0, 1) := by decide +kernel
theorem dX7_bend_51 : decode cX7_bend 51 = .ok (.getfield 19, 3) := by decide +kernel
theorem dX7_bend_54 : decode cX7_bend 54 = .ok (.getfield 170, 3) := by decide +kernel
theorem dX7_bend_57 : decode cX7_bend 57 = .ok (.iload_n 1, 1) := by decide +kernel
theorem dX7_bend_58 : decode cX7_bend 58 = .ok (.iaload, 1) := by decide +kernel
theorem dX7_bend_59 : decode cX7_bend 59 = .ok (.istore_n 3, 1) := by decide +kernel
theorem dX7_bend_60 : decode cX7_bend 60 = .ok (.aload_n 0, 1) := by decide +kernel
theorem dX7_bend_61 : decode cX7_bend 61 = .ok (.getfield 19, 3) := by decide +kernel
theorem dX7_bend_64 : decode cX7_bend 64 = .ok (.getfield 170, 3) := by decide +kernel
theorem dX7_bend_67 : decode cX7_bend 67 = .ok (.iload_n 1, 1) := by decide +kernel
theorem dX7_bend_68 : decode cX7_bend 68 = .ok (.iload_n 2, 1) := by decide +kernel
theorem dX7_bend_69 : decode cX7_bend 69 = .ok (.iastore, 1) := by decide +kernel
theorem dX7_bend_70 : decode cX7_bend 70 = .ok (.iload_n 3, 1) := by decide +kernel
theorem dX7_bend_71 : decode cX7_bend 71 = .ok (.ireturn, 1) := by decide +kernel
theorem dX7_first_0 : decode cX7_first 0 = .ok (.aload_n 0, 1) := by decide +kernel
theorem dX7_first_1 : decode cX7_first 1 = .ok (.getfield 12, 3) := by decide +kernel
theorem dX7_first_4 : decode cX7_first 4 = .ok (.iload_n 1, 1) := by decide +kernel
theorem dX7_first_5 : decode cX7_first 5 = .ok (.invokevirtual 128, 3) := by decide +kernel
theorem dX7_first_8 : decode cX7_first 8 = .ok (.ifCond .ne 6, 3) := by decide +kernel
theorem dX7_first_11 : decode cX7_first 11 = .ok (.ldc 132, 2) := by decide +kernel
theorem dX7_first_13 : decode cX7_first 13 = .ok (.ireturn, 1) := by decide +kernel
theorem dX7_first_14 : decode cX7_first 14 = .ok (.iload_n 2, 1) := by decide +kernel
theorem dX7_first_15 : decode cX7_first 15 = .ok (.ifCond .lt 8, 3) := by decide +kernel
theorem dX7_first_18 : decode cX7_first 18 = .ok (.iload_n 2, 1) := by decide +kernel
theorem dX7_first_19 : decode cX7_first 19 = .ok (.iconst 1, 1) := by decide +kernel
theorem dX7_first_20 : decode cX7_first 20 = .ok (.if_icmp .le 6, 3) := by decide +kernel
theorem dX7_first_23 : decode cX7_first 23 = .ok (.ldc 80, 2) := by decide +kernel
theorem dX7_first_25 : decode cX7_first 25 = .ok (.ireturn, 1) := by decide +kernel
theorem dX7_first_26 : decode cX7_first 26 = .ok (.aload_n 0, 1) := by decide +kernel
theorem dX7_first_27 : decode cX7_first 27 = .ok (.getfield 28, 3) := by decide +kernel
theorem dX7_first_30 : decode cX7_first 30 = .ok (.iload_n 1, 1) := by decide +kernel
theorem dX7_first_31 : decode cX7_first 31 = .ok (.invokevirtual 198, 3) := by decide +kernel
theorem dX7_first_34 : decode cX7_first 34 = .ok (.istore_n 3, 1) := by decide +kernel
theorem dX7_first_35 : decode cX7_first 35 = .ok (.iload_n 3, 1) := by decide +kernel
theorem dX7_first_36 : decode cX7_first 36 = .ok (.iconst (-1), 1) := by decide +kernel
theorem dX7_first_37 : decode cX7_first 37 = .ok (.if_icmp .eq 7, 3) := by decide +kernel
theorem dX7_first_40 : decode cX7_first 40 = .ok (.iload_n 2, 1) := by decide +kernel
theorem dX7_first_41 : decode cX7_first 41 = .ok (.ifCond .ne 7, 3) := by decide +kernel
theorem dX7_first_44 : decode cX7_first 44 = .ok (.iload_n 3, 1) := by decide +kernel
theorem dX7_first_45 : decode cX7_first 45 = .ok (.goto 12, 3) := by decide +kernel
theorem dX7_first_48 : decode cX7_first 48 = .ok (.aload_n 0, 1) := by decide +kernel
theorem dX7_first_49 : decode cX7_first 49 = .ok (.getfield 28, 3) := by decide +kernel
theorem dX7_first_52 : decode cX7_first 52 = .ok (.iload_n 3, 1) := by decide +kernel
theorem dX7_first_53 : decode cX7_first 53 = .ok (.iload_n 1, 1) := by decide +kernel
theorem dX7_first_54 : decode cX7_first 54 = .ok (.invokevirtual 201, 3) := by decide +kernel
theorem dX7_first_57 : decode cX7_first 57 = .ok (.ireturn, 1) := by decide +kernel
theorem dX7_bow_0 : decode cX7_bow 0 = .ok (.aload_n 0, 1) := by decide +kernel
theorem dX7_bow_1 : decode cX7_bow 1 = .ok (.getfield 12, 3) := by decide +kernel
theorem dX7_bow_4 : decode cX7_bow 4 = .ok (.iload_n 1, 1) := by decide +kernel
theorem dX7_bow_5 : decode cX7_bow 5 = .ok (.invokevirtual 128, 3) := by decide +kernel
theorem dX7_bow_8 : decode cX7_bow 8 = .ok (.ifCond .eq 14, 3) := by decide +kernel
theorem dX7_bow_11 : decode cX7_bow 11 = .ok (.aload_n 0, 1) := by decide +kernel
theorem dX7_bow_12 : decode cX7_bow 12 = .ok (.getfield 28, 3) := by decide +kernel
theorem dX7_bow_15 : decode cX7_bow 15 = .ok (.iload_n 1, 1) := by decide +kernel
theorem dX7_bow_16 : decode cX7_bow 16 = .ok (.invokevirtual 204, 3) := by decide +kernel
theorem dX7_bow_19 : decode cX7_bow 19 = .ok (.goto 5, 3) := by decide +kernel
theorem dX7_bow_22 : decode cX7_bow 22 = .ok (.ldc 132, 2) := by decide +kernel
theorem dX7_bow_24 : decode cX7_bow 24 = .ok (.ireturn, 1) := by decide +kernel
theorem dX7_year_0 : decode cX7_year 0 = .ok (.iload_n 1, 1) := by decide +kernel
theorem dX7_year_1 : decode cX7_year 1 = .ok (.iconst 1, 1) := by decide +kernel
theorem dX7_year_2 : decode cX7_year 2 = .ok (.if_icmp .lt 9, 3) := by decide +kernel
theorem dX7_year_5 : decode cX7_year 5 = .ok (.iload_n 1, 1) := by decide +kernel
theorem dX7_year_6 : decode cX7_year 6 = .ok (.bipush 60, 2) := by decide +kernel
theorem dX7_year_8 : decode cX7_year 8 = .ok (.if_icmp .le 6, 3) := by decide +kernel
theorem dX7_year_11 : decode cX7_year 11 = .ok (.ldc 80, 2) := by decide +kernel
theorem dX7_year_13 : decode cX7_year 13 = .ok (.ireturn, 1) := by decide +kernel
theorem dX7_year_14 : decode cX7_year 14 = .ok (.iconst 0, 1) := by decide +kernel
theorem dX7_year_15 : decode cX7_year 15 = .ok (.istore_n 2, 1) := by decide +kernel
theorem dX7_year_16 : decode cX7_year 16 = .ok (.iload_n 2, 1) := by decide +kernel
theorem dX7_year_17 : decode cX7_year 17 = .ok (.iload_n 1, 1) := by decide +kernel
theorem dX7_year_18 : decode cX7_year 18 = .ok (.if_icmp .ge 16, 3) := by decide +kernel
theorem dX7_year_21 : decode cX7_year 21 = .ok (.aload_n 0, 1) := by decide +kernel
theorem dX7_year_22 : decode cX7_year 22 = .ok (.getfield 28, 3) := by decide +kernel
theorem dX7_year_25 : decode cX7_year 25 = .ok (.invokevirtual 207, 3) := by decide +kernel
theorem dX7_year_28 : decode cX7_year 28 = .ok (.iinc 2 1, 3) := by decide +kernel
theorem dX7_year_31 : decode cX7_year 31 = .ok (.goto (-15), 3) := by decide +kernel
theorem dX7_year_34 : decode cX7_year 34 = .ok (.aload_n 0, 1) := by decide +kernel
theorem dX7_year_35 : decode cX7_year 35 = .ok (.getfield 28, 3) := by decide +kernel
theorem dX7_year_38 : decode cX7_year 38 = .ok (.invokevirtual 210, 3) := by decide +kernel
theorem dX7_year_41 : decode cX7_year 41 = .ok (.ireturn, 1) := by decide +kernel
theorem dX7_come_0 : decode cX7_come 0 = .ok (.aload_n 0, 1) := by decide +kernel
theorem dX7_come_1 : decode cX7_come 1 = .ok (.iload_n 1, 1) := by decide +kernel
theorem dX7_come_2 : decode cX7_come 2 = .ok (.iload_n 2, 1) := by decide +kernel
theorem dX7_come_3 : decode cX7_come 3 = .ok (.iload_n 3, 1) := by decide +kernel
theorem dX7_come_4 : decode cX7_come 4 = .ok (.invokevirtual 179, 3) := by decide +kernel
theorem dX7_come_7 : decode cX7_come 7 = .ok (.ifCond .ne 6, 3) := by decide +kernel
theorem dX7_come_10 : decode cX7_come 10 = .ok (.ldc 132, 2) := by decide +kernel
theorem dX7_come_12 : decode cX7_come 12 = .ok (.ireturn, 1) := by decide +kernel
theorem dX7_come_13 : decode cX7_come 13 = .ok (.aload_n 0, 1) := by decide +kernel
theorem dX7_come_14 : decode cX7_come 14 = .ok (.getfield 19, 3) := by decide +kernel
theorem dX7_come_17 : decode cX7_come 17 = .ok (.iload_n 1, 1) := by decide +kernel
theorem dX7_come_18 : decode cX7_come 18 = .ok (.iload_n 2, 1) := by decide +kernel
theorem dX7_come_19 : decode cX7_come 19 = .ok (.iload_n 3, 1) := by decide +kernel
theorem dX7_come_20 : decode cX7_come 20 = .ok (.invokevirtual 183, 3) := by decide +kernel
theorem dX7_come_23 : decode cX7_come 23 = .ok (.ifCond .ne 6, 3) := by decide +kernel
theorem dX7_come_26 : decode cX7_come 26 = .ok (.ldc 186, 2) := by decide +kernel
theorem dX7_come_28 : decode cX7_come 28 = .ok (.ireturn, 1) := by decide +kernel
theorem dX7_come_29 : decode cX7_come 29 = .ok (.aload_n 0, 1) := by decide +kernel
theorem dX7_come_30 : decode cX7_come 30 = .ok (.getfield 28, 3) := by decide +kernel
theorem dX7_come_33 : decode cX7_come 33 = .ok (.iload_n 1, 1) := by decide +kernel
theorem dX7_come_34 : decode cX7_come 34 = .ok (.iload_n 2, 1) := by decide +kernel
theorem dX7_come_35 : decode cX7_come 35 = .ok (.iload_n 3, 1) := by decide +kernel
theorem dX7_come_36 : decode cX7_come 36 = .ok (.invokevirtual 213, 3) := by decide +kernel
theorem dX7_come_39 : decode cX7_come 39 = .ok (.ireturn, 1) := by decide +kernel
theorem dX7_party_0 : decode cX7_party 0 = .ok (.aload_n 0, 1) := by decide +kernel
theorem dX7_party_1 : decode cX7_party 1 = .ok (.getfield 12, 3) := by decide +kernel
theorem dX7_party_4 : decode cX7_party 4 = .ok (.iload_n 1, 1) := by decide +kernel
theorem dX7_party_5 : decode cX7_party 5 = .ok (.invokevirtual 128, 3) := by decide +kernel
theorem dX7_party_8 : decode cX7_party 8 = .ok (.ifCond .eq 30, 3) := by decide +kernel
theorem dX7_party_11 : decode cX7_party 11 = .ok (.aload_n 0, 1) := by decide +kernel
theorem dX7_party_12 : decode cX7_party 12 = .ok (.getfield 12, 3) := by decide +kernel
theorem dX7_party_15 : decode cX7_party 15 = .ok (.iload_n 2, 1) := by decide +kernel
theorem dX7_party_16 : decode cX7_party 16 = .ok (.invokevirtual 217, 3) := by decide +kernel
theorem dX7_party_19 : decode cX7_party 19 = .ok (.ifCond .eq 19, 3) := by decide +kernel
theorem dX7_party_22 : decode cX7_party 22 = .ok (.iload_n 3, 1) := by decide +kernel
theorem dX7_party_23 : decode cX7_party 23 = .ok (.iconst (-1), 1) := by decide +kernel
theorem dX7_party_24 : decode cX7_party 24 = .ok (.if_icmp .eq 17, 3) := by decide +kernel
theorem dX7_party_27 : decode cX7_party 27 = .ok (.aload_n 0, 1) := by decide +kernel
theorem dX7_party_28 : decode cX7_party 28 = .ok (.getfield 12, 3) := by decide +kernel
theorem dX7_party_31 : decode cX7_party 31 = .ok (.iload_n 3, 1) := by decide +kernel
theorem dX7_party_32 : decode cX7_party 32 = .ok (.invokevirtual 148, 3) := by decide +kernel
theorem dX7_party_35 : decode cX7_party 35 = .ok (.ifCond .ne 6, 3) := by decide +kernel
theorem dX7_party_38 : decode cX7_party 38 = .ok (.ldc 132, 2) := by decide +kernel
theorem dX7_party_40 : decode cX7_party 40 = .ok (.ireturn, 1) := by decide +kernel
theorem dX7_party_41 : decode cX7_party 41 = .ok (.aload_n 0, 1) := by decide +kernel
theorem dX7_party_42 : decode cX7_party 42 = .ok (.getfield 48, 3) := by decide +kernel
theorem dX7_party_45 : decode cX7_party 45 = .ok (.iload_n 1, 1) := by decide +kernel
theorem dX7_party_46 : decode cX7_party 46 = .ok (.iload_n 2, 1) := by decide +kernel
theorem dX7_party_47 : decode cX7_party 47 = .ok (.invokevirtual 220, 3) := by decide +kernel
theorem dX7_party_50 : decode cX7_party 50 = .ok (.ifCond .ne 5, 3) := by decide +kernel
theorem dX7_party_53 : decode cX7_party 53 = .ok (.iconst (-1), 1) := by decide +kernel
theorem dX7_party_54 : decode cX7_party 54 = .ok (.ireturn, 1) := by decide +kernel
theorem dX7_party_55 : decode cX7_party 55 = .ok (.iload_n 3, 1) := by decide +kernel
theorem dX7_party_56 : decode cX7_party 56 = .ok (.iconst (-1), 1) := by decide +kernel
theorem dX7_party_57 : decode cX7_party 57 = .ok (.if_icmp .ne 11, 3) := by decide +kernel
theorem dX7_party_60 : decode cX7_party 60 = .ok (.aload_n 0, 1) := by decide +kernel
theorem dX7_party_61 : decode cX7_party 61 = .ok (.getfield 48, 3) := by decide +kernel
theorem dX7_party_64 : decode cX7_party 64 = .ok (.invokevirtual 223, 3) := by decide +kernel
theorem dX7_party_67 : decode cX7_party 67 = .ok (.ireturn, 1) := by decide +kernel
theorem dX7_party_68 : decode cX7_party 68 = .ok (.iload_n 2, 1) := by decide +kernel
theorem dX7_party_69 : decode cX7_party 69 = .ok (.iload_n 3, 1) := by decide +kernel
theorem dX7_party_70 : decode cX7_party 70 = .ok (.ishr, 1) := by decide +kernel
theorem dX7_party_71 : decode cX7_party 71 = .ok (.iconst 1, 1) := by decide +kernel
theorem dX7_party_72 : decode cX7_party 72 = .ok (.iand, 1) := by decide +kernel
theorem dX7_party_73 : decode cX7_party 73 = .ok (.ifCond .ne 7, 3) := by decide +kernel
theorem dX7_party_76 : decode cX7_party 76 = .ok (.iconst (-1), 1) := by decide +kernel
theorem dX7_party_77 : decode cX7_party 77 = .ok (.goto 11, 3) := by decide +kernel
theorem dX7_party_80 : decode cX7_party 80 = .ok (.aload_n 0, 1) := by decide +kernel
theorem dX7_party_81 : decode cX7_party 81 = .ok (.getfield 48, 3) := by decide +kernel
theorem dX7_party_84 : decode cX7_party 84 = .ok (.iload_n 3, 1) := by decide +kernel
theorem dX7_party_85 : decode cX7_party 85 = .ok (.invokevirtual 226, 3) := by decide +kernel
theorem dX7_party_88 : decode cX7_party 88 = .ok (.ireturn, 1) := by decide +kernel
theorem dX7_feast_0 : decode cX7_feast 0 = .ok (.aload_n 0, 1) := by decide +kernel
theorem dX7_feast_1 : decode cX7_feast 1 = .ok (.getfield 12, 3) := by decide +kernel
theorem dX7_feast_4 : decode cX7_feast 4 = .ok (.iload_n 1, 1) := by decide +kernel
theorem dX7_feast_5 : decode cX7_feast 5 = .ok (.invokevirtual 217, 3) := by decide +kernel
theorem dX7_feast_8 : decode cX7_feast 8 = .ok (.ifCond .eq 25, 3) := by decide +kernel
theorem dX7_feast_11 : decode cX7_feast 11 = .ok (.iload_n 2, 1) := by decide +kernel
theorem dX7_feast_12 : decode cX7_feast 12 = .ok (.iconst (-1), 1) := by decide +kernel
theorem dX7_feast_13 : decode cX7_feast 13 = .ok (.if_icmp .eq 23, 3) := by decide +kernel
theorem dX7_feast_16 : decode cX7_feast 16 = .ok (.iload_n 2, 1) := by decide +kernel
theorem dX7_feast_17 : decode cX7_feast 17 = .ok (.bipush (-2), 2) := by decide +kernel
theorem dX7_feast_19 : decode cX7_feast 19 = .ok (.if_icmp .eq 17, 3) := by decide +kernel
theorem dX7_feast_22 : decode cX7_feast 22 = .ok (.aload_n 0, 1) := by decide +kernel
theorem dX7_feast_23 : decode cX7_feast 23 = .ok (.getfield 12, 3) := by decide +kernel
theorem dX7_feast_26 : decode cX7_feast 26 = .ok (.iload_n 2, 1) := by decide +kernel
theorem dX7_feast_27 : decode cX7_feast 27 = .ok (.invokevirtual 148, 3) := by decide +kernel
theorem dX7_feast_30 : decode cX7_feast 30 = .ok (.ifCond .ne 6, 3) := by decide +kernel
theorem dX7_feast_33 : decode cX7_feast 33 = .ok (.ldc 132, 2) := by decide +kernel
theorem dX7_feast_35 : decode cX7_feast 35 = .ok (.ireturn, 1) := by decide +kernel
theorem dX7_feast_36 : decode cX7_feast 36 = .ok (.aload_n 0, 1) := by decide +kernel
theorem dX7_feast_37 : decode cX7_feast 37 = .ok (.getfield 57, 3) := by decide +kernel
theorem dX7_feast_40 : decode cX7_feast 40 = .ok (.iload_n 1, 1) := by decide +kernel
theorem dX7_feast_41 : decode cX7_feast 41 = .ok (.invokevirtual 228, 3) := by decide +kernel
theorem dX7_feast_44 : decode cX7_feast 44 = .ok (.ifCond .ne 5, 3) := by decide +kernel
theorem dX7_feast_47 : decode cX7_feast 47 = .ok (.iconst (-1), 1) := by decide +kernel
theorem dX7_feast_48 : decode cX7_feast 48 = .ok (.ireturn, 1) := by decide +kernel
theorem dX7_feast_49 : decode cX7_feast 49 = .ok (.iload_n 2, 1) := by decide +kernel
theorem dX7_feast_50 : decode cX7_feast 50 = .ok (.iconst (-1), 1) := by decide +kernel
theorem dX7_feast_51 : decode cX7_feast 51 = .ok (.if_icmp .ne 11, 3) := by decide +kernel
theorem dX7_feast_54 : decode cX7_feast 54 = .ok (.aload_n 0, 1) := by decide +kernel
theorem dX7_feast_55 : decode cX7_feast 55 = .ok (.getfield 57, 3) := by decide +kernel
theorem dX7_feast_58 : decode cX7_feast 58 = .ok (.getfield 231, 3) := by decide +kernel
theorem dX7_feast_61 : decode cX7_feast 61 = .ok (.ireturn, 1) := by decide +kernel
theorem dX7_feast_62 : decode cX7_feast 62 = .ok (.iload_n 2, 1) := by decide +kernel
theorem dX7_feast_63 : decode cX7_feast 63 = .ok (.bipush (-2), 2) := by decide +kernel
theorem dX7_feast_65 : decode cX7_feast 65 = .ok (.if_icmp .ne 13, 3) := by decide +kernel
theorem dX7_feast_68 : decode cX7_feast 68 = .ok (.aload_n 0, 1) := by decide +kernel
theorem dX7_feast_69 : decode cX7_feast 69 = .ok (.getfield 57, 3) := by decide +kernel
theorem dX7_feast_72 : decode cX7_feast 72 = .ok (.getfield 234, 3) := by decide +kernel
theorem dX7_feast_75 : decode cX7_feast 75 = .ok (.goto 11, 3) := by decide +kernel
theorem dX7_feast_78 : decode cX7_feast 78 = .ok (.aload_n 0, 1) := by decide +kernel
theorem dX7_feast_79 : decode cX7_feast 79 = .ok (.getfield 57, 3) := by decide +kernel
theorem dX7_feast_82 : decode cX7_feast 82 = .ok (.iload_n 2, 1) := by decide +kernel
theorem dX7_feast_83 : decode cX7_feast 83 = .ok (.invokevirtual 237, 3) := by decide +kernel
theorem dX7_feast_86 : decode cX7_feast 86 = .ok (.ireturn, 1) := by decide +kernel
theorem dX7_cuts_0 : decode cX7_cuts 0 = .ok (.aload_n 0, 1) := by decide +kernel
theorem dX7_cuts_1 : decode cX7_cuts 1 = .ok (.getfield 12, 3) := by decide +kernel
theorem dX7_cuts_4 : decode cX7_cuts 4 = .ok (.iload_n 1, 1) := by decide +kernel
theorem dX7_cuts_5 : decode cX7_cuts 5 = .ok (.invokevirtual 128, 3) := by decide +kernel
theorem dX7_cuts_8 : decode cX7_cuts 8 = .ok (.ifCond .eq 14, 3) := by decide +kernel
theorem dX7_cuts_11 : decode cX7_cuts 11 = .ok (.aload_n 0, 1) := by decide +kernel
theorem dX7_cuts_12 : decode cX7_cuts 12 = .ok (.getfield 12, 3) := by decide +kernel
theorem dX7_cuts_15 : decode cX7_cuts 15 = .ok (.iload_n 2, 1) := by decide +kernel
theorem dX7_cuts_16 : decode cX7_cuts 16 = .ok (.invokevirtual 217, 3) := by decide +kernel
theorem dX7_cuts_19 : decode cX7_cuts 19 = .ok (.ifCond .ne 6, 3) := by decide +kernel
theorem dX7_cuts_22 : decode cX7_cuts 22 = .ok (.ldc 132, 2) := by decide +kernel
theorem dX7_cuts_24 : decode cX7_cuts 24 = .ok (.ireturn, 1) := by decide +kernel
theorem dX7_cuts_25 : decode cX7_cuts 25 = .ok (.iload_n 2, 1) := by decide +kernel
theorem dX7_cuts_26 : decode cX7_cuts 26 = .ok (.invokestatic 240, 3) := by decide +kernel
theorem dX7_cuts_29 : decode cX7_cuts 29 = .ok (.aload_n 0, 1) := by decide +kernel
theorem dX7_cuts_30 : decode cX7_cuts 30 = .ok (.getfield 12, 3) := by decide +kernel
theorem dX7_cuts_33 : decode cX7_cuts 33 = .ok (.iload_n 1, 1) := by decide +kernel
theorem dX7_cuts_34 : decode cX7_cuts 34 = .ok (.invokevirtual 133, 3) := by decide +kernel
theorem dX7_cuts_37 : decode cX7_cuts 37 = .ok (.if_icmp .le 5, 3) := by decide +kernel
theorem dX7_cuts_40 : decode cX7_cuts 40 = .ok (.iconst (-1), 1) := by decide +kernel
theorem dX7_cuts_41 : decode cX7_cuts 41 = .ok (.ireturn, 1) := by decide +kernel
theorem dX7_cuts_42 : decode cX7_cuts 42 = .ok (.aload_n 0, 1) := by decide +kernel
theorem dX7_cuts_43 : decode cX7_cuts 43 = .ok (.iload_n 1, 1) := by decide +kernel
theorem dX7_cuts_44 : decode cX7_cuts 44 = .ok (.iload_n 2, 1) := by decide +kernel
theorem dX7_cuts_45 : decode cX7_cuts 45 = .ok (.invokevirtual 245, 3) := by decide +kernel
theorem dX7_cuts_48 : decode cX7_cuts 48 = .ok (.aload_n 0, 1) := by decide +kernel
theorem dX7_cuts_49 : decode cX7_cuts 49 = .ok (.getfield 35, 3) := by decide +kernel
theorem dX7_cuts_52 : decode cX7_cuts 52 = .ok (.iload_n 1, 1) := by decide +kernel
theorem dX7_cuts_53 : decode cX7_cuts 53 = .ok (.invokevirtual 249, 3) := by decide +kernel
theorem dX7_cuts_56 : decode cX7_cuts 56 = .ok (.ireturn, 1) := by decide +kernel
theorem dX7_till_0 : decode cX7_till 0 = .ok (.aload_n 0, 1) := by decide +kernel
theorem dX7_till_1 : decode cX7_till 1 = .ok (.getfield 32, 3) := by decide +kernel
theorem dX7_till_4 : decode cX7_till 4 = .ok (.aload_n 0, 1) := by decide +kernel
theorem dX7_till_5 : decode cX7_till 5 = .ok (.getfield 19, 3) := by decide +kernel
theorem dX7_till_8 : decode cX7_till 8 = .ok (.invokevirtual 252, 3) := by decide +kernel
theorem dX7_till_11 : decode cX7_till 11 = .ok (.iconst 0, 1) := by decide +kernel
theorem dX7_till_12 : decode cX7_till 12 = .ok (.istore_n 1, 1) := by decide +kernel
theorem dX7_till_13 : decode cX7_till 13 = .ok (.iload_n 1, 1) := by decide +kernel
theorem dX7_till_14 : decode cX7_till 14 = .ok (.bipush 60, 2) := by decide +kernel
theorem dX7_till_16 : decode cX7_till 16 = .ok (.if_icmp .ge 28, 3) := by decide +kernel
theorem dX7_till_19 : decode cX7_till 19 = .ok (.aload_n 0, 1) := by decide +kernel
theorem dX7_till_20 : decode cX7_till 20 = .ok (.getfield 35, 3) := by decide +kernel
theorem dX7_till_23 : decode cX7_till 23 = .ok (.invokevirtual 210, 3) := by decide +kernel
theorem dX7_till_26 : decode cX7_till 26 = .ok (.ifCond .eq 5, 3) := by decide +kernel
theorem dX7_till_29 : decode cX7_till 29 = .ok (.iload_n 1, 1) := by decide +kernel
theorem dX7_till_30 : decode cX7_till 30 = .ok (.ireturn, 1) := by decide +kernel
theorem dX7_till_31 : decode cX7_till 31 = .ok (.aload_n 0, 1) := by decide +kernel
theorem dX7_till_32 : decode cX7_till 32 = .ok (.getfield 35, 3) := by decide +kernel
theorem dX7_till_35 : decode cX7_till 35 = .ok (.invokevirtual 207, 3) := by decide +kernel
theorem dX7_till_38 : decode cX7_till 38 = .ok (.iinc 1 1, 3) := by decide +kernel
theorem dX7_till_41 : decode cX7_till 41 = .ok (.goto (-28), 3) := by decide +kernel
theorem dX7_till_44 : decode cX7_till 44 = .ok (.bipush 60, 2) := by decide +kernel
theorem dX7_till_46 : decode cX7_till 46 = .ok (.ireturn, 1) := by decide +kernel
theorem dX7_seen_0 : decode cX7_seen 0 = .ok (.aload_n 0, 1) := by decide +kernel
theorem dX7_seen_1 : decode cX7_seen 1 = .ok (.getfield 12, 3) := by decide +kernel
theorem dX7_seen_4 : decode cX7_seen 4 = .ok (.iload_n 1, 1) := by decide +kernel
theorem dX7_seen_5 : decode cX7_seen 5 = .ok (.invokevirtual 128, 3) := by decide +kernel
theorem dX7_seen_8 : decode cX7_seen 8 = .ok (.ifCond .ne 6, 3) := by decide +kernel
theorem dX7_seen_11 : decode cX7_seen 11 = .ok (.ldc 132, 2) := by decide +kernel
theorem dX7_seen_13 : decode cX7_seen 13 = .ok (.ireturn, 1) := by decide +kernel
theorem dX7_seen_14 : decode cX7_seen 14 = .ok (.iload_n 2, 1) := by decide +kernel
theorem dX7_seen_15 : decode cX7_seen 15 = .ok (.ifCond .lt 8, 3) := by decide +kernel
theorem dX7_seen_18 : decode cX7_seen 18 = .ok (.iload_n 2, 1) := by decide +kernel
theorem dX7_seen_19 : decode cX7_seen 19 = .ok (.iconst 1, 1) := by decide +kernel
theorem dX7_seen_20 : decode cX7_seen 20 = .ok (.if_icmp .le 6, 3) := by decide +kernel
theorem dX7_seen_23 : decode cX7_seen 23 = .ok (.ldc 80, 2) := by decide +kernel
theorem dX7_seen_25 : decode cX7_seen 25 = .ok (.ireturn, 1) := by decide +kernel
theorem dX7_seen_26 : decode cX7_seen 26 = .ok (.aload_n 0, 1) := by decide +kernel
theorem dX7_seen_27 : decode cX7_seen 27 = .ok (.getfield 28, 3) := by decide +kernel
theorem dX7_seen_30 : decode cX7_seen 30 = .ok (.iload_n 1, 1) := by decide +kernel
theorem dX7_seen_31 : decode cX7_seen 31 = .ok (.invokevirtual 198, 3) := by decide +kernel
theorem dX7_seen_34 : decode cX7_seen 34 = .ok (.iconst (-1), 1) := by decide +kernel
theorem dX7_seen_35 : decode cX7_seen 35 = .ok (.if_icmp .ne 5, 3) := by decide +kernel
theorem dX7_seen_38 : decode cX7_seen 38 = .ok (.iconst 0, 1) := by decide +kernel
theorem dX7_seen_39 : decode cX7_seen 39 = .ok (.ireturn, 1) := by decide +kernel
theorem dX7_seen_40 : decode cX7_seen 40 = .ok (.aload_n 0, 1) := by decide +kernel
theorem dX7_seen_41 : decode cX7_seen 41 = .ok (.getfield 32, 3) := by decide +kernel
theorem dX7_seen_44 : decode cX7_seen 44 = .ok (.aload_n 0, 1) := by decide +kernel
theorem dX7_seen_45 : decode cX7_seen 45 = .ok (.getfield 19, 3) := by decide +kernel
theorem dX7_seen_48 : decode cX7_seen 48 = .ok (.invokevirtual 252, 3) := by decide +kernel
theorem dX7_seen_51 : decode cX7_seen 51 = .ok (.iload_n 2, 1) := by decide +kernel
theorem dX7_seen_52 : decode cX7_seen 52 = .ok (.ifCond .ne 11, 3) := by decide +kernel
theorem dX7_seen_55 : decode cX7_seen 55 = .ok (.aload_n 0, 1) := by decide +kernel
theorem dX7_seen_56 : decode cX7_seen 56 = .ok (.iload_n 1, 1) := by decide +kernel
theorem dX7_seen_57 : decode cX7_seen 57 = .ok (.invokevirtual 255, 3) := by decide +kernel
theorem dX7_seen_60 : decode cX7_seen 60 = .ok (.goto 8, 3) := by decide +kernel
theorem dX7_seen_63 : decode cX7_seen 63 = .ok (.aload_n 0, 1) := by decide +kernel
theorem dX7_seen_64 : decode cX7_seen 64 = .ok (.iload_n 1, 1) := by decide +kernel
theorem dX7_seen_65 : decode cX7_seen 65 = .ok (.invokevirtual 258, 3) := by decide +kernel
theorem dX7_seen_68 : decode cX7_seen 68 = .ok (.ireturn, 1) := by decide +kernel
theorem dX7_write_0 : decode cX7_write 0 = .ok (.aload_n 0, 1) := by decide +kernel
theorem dX7_write_1 : decode cX7_write 1 = .ok (.iload_n 1, 1) := by decide +kernel
theorem dX7_write_2 : decode cX7_write 2 = .ok (.iload_n 2, 1) := by decide +kernel
theorem dX7_write_3 : decode cX7_write 3 = .ok (.iload_n 3, 1) := by decide +kernel
theorem dX7_write_4 : decode cX7_write 4 = .ok (.invokevirtual 179, 3) := by decide +kernel
theorem dX7_write_7 : decode cX7_write 7 = .ok (.ifCond .ne 6, 3) := by decide +kernel
theorem dX7_write_10 : decode cX7_write 10 = .ok (.ldc 132, 2) := by decide +kernel
theorem dX7_write_12 : decode cX7_write 12 = .ok (.ireturn, 1) := by decide +kernel
theorem dX7_write_13 : decode cX7_write 13 = .ok (.aload_n 0, 1) := by decide +kernel
theorem dX7_write_14 : decode cX7_write 14 = .ok (.getfield 64, 3) := by decide +kernel
theorem dX7_write_17 : decode cX7_write 17 = .ok (.getfield 109, 3) := by decide +kernel
theorem dX7_write_20 : decode cX7_write 20 = .ok (.bipush 20, 2) := by decide +kernel
theorem dX7_write_22 : decode cX7_write 22 = .ok (.if_icmp .lt 6, 3) := by decide +kernel
theorem dX7_write_25 : decode cX7_write 25 = .ok (.ldc 84, 2) := by decide +kernel
theorem dX7_write_27 : decode cX7_write 27 = .ok (.ireturn, 1) := by decide +kernel
theorem dX7_write_28 : decode cX7_write 28 = .ok (.aload_n 0, 1) := by decide +kernel
theorem dX7_write_29 : decode cX7_write 29 = .ok (.getfield 64, 3) := by decide +kernel
theorem dX7_write_32 : decode cX7_write 32 = .ok (.iload_n 1, 1) := by decide +kernel
theorem dX7_write_33 : decode cX7_write 33 = .ok (.iload_n 2, 1) := by decide +kernel
theorem dX7_write_34 : decode cX7_write 34 = .ok (.iload_n 3, 1) := by decide +kernel
theorem dX7_write_35 : decode cX7_write 35 = .ok (.invokevirtual 261, 3) := by decide +kernel
theorem dX7_write_38 : decode cX7_write 38 = .ok (.aload_n 0, 1) := by decide +kernel
theorem dX7_write_39 : decode cX7_write 39 = .ok (.getfield 64, 3) := by decide +kernel
theorem dX7_write_42 : decode cX7_write 42 = .ok (.getfield 109, 3) := by decide +kernel
theorem dX7_write_45 : decode cX7_write 45 = .ok (.ireturn, 1) := by decide +kernel
theorem dX7_tear_0 : decode cX7_tear 0 = .ok (.aload_n 0, 1) := by decide +kernel
theorem dX7_tear_1 : decode cX7_tear 1 = .ok (.getfield 64, 3) := by decide +kernel
theorem dX7_tear_4 : decode cX7_tear 4 = .ok (.getfield 109, 3) := by decide +kernel
theorem dX7_tear_7 : decode cX7_tear 7 = .ok (.istore_n 1, 1) := by decide +kernel
theorem dX7_tear_8 : decode cX7_tear 8 = .ok (.aload_n 0, 1) := by decide +kernel
theorem dX7_tear_9 : decode cX7_tear 9 = .ok (.getfield 64, 3) := by decide +kernel
theorem dX7_tear_12 : decode cX7_tear 12 = .ok (.iconst 0, 1) := by decide +kernel
theorem dX7_tear_13 : decode cX7_tear 13 = .ok (.putfield 109, 3) := by decide +kernel
theorem dX7_tear_16 : decode cX7_tear 16 = .ok (.iload_n 1, 1) := by decide +kernel
theorem dX7_tear_17 : decode cX7_tear 17 = .ok (.ireturn, 1) := by decide +kernel
theorem dX7_judge_0 : decode cX7_judge 0 = .ok (.iload_n 1, 1) := by decide +kernel
theorem dX7_judge_1 : decode cX7_judge 1 = .ok (.ifCond .lt 8, 3) := by decide +kernel
theorem dX7_judge_4 : decode cX7_judge 4 = .ok (.iload_n 1, 1) := by decide +kernel
theorem dX7_judge_5 : decode cX7_judge 5 = .ok (.iconst 1, 1) := by decide +kernel
theorem dX7_judge_6 : decode cX7_judge 6 = .ok (.if_icmp .le 6, 3) := by decide +kernel
theorem dX7_judge_9 : decode cX7_judge 9 = .ok (.ldc 80, 2) := by decide +kernel
theorem dX7_judge_11 : decode cX7_judge 11 = .ok (.ireturn, 1) := by decide +kernel
theorem dX7_judge_12 : decode cX7_judge 12 = .ok (.aload_n 0, 1) := by decide +kernel
theorem dX7_judge_13 : decode cX7_judge 13 = .ok (.getfield 32, 3) := by decide +kernel
theorem dX7_judge_16 : decode cX7_judge 16 = .ok (.aload_n 0, 1) := by decide +kernel
theorem dX7_judge_17 : decode cX7_judge 17 = .ok (.getfield 19, 3) := by decide +kernel
theorem dX7_judge_20 : decode cX7_judge 20 = .ok (.invokevirtual 252, 3) := by decide +kernel
theorem dX7_judge_23 : decode cX7_judge 23 = .ok (.aload_n 0, 1) := by decide +kernel
theorem dX7_judge_24 : decode cX7_judge 24 = .ok (.getfield 32, 3) := by decide +kernel
theorem dX7_judge_27 : decode cX7_judge 27 = .ok (.invokevirtual 264, 3) := by decide +kernel
theorem dX7_judge_30 : decode cX7_judge 30 = .ok (.iconst 0, 1) := by decide +kernel
theorem dX7_judge_31 : decode cX7_judge 31 = .ok (.istore_n 2, 1) := by decide +kernel
theorem dX7_judge_32 : decode cX7_judge 32 = .ok (.iconst 0, 1) := by decide +kernel
theorem dX7_judge_33 : decode cX7_judge 33 = .ok (.istore_n 3, 1) := by decide +kernel
theorem dX7_judge_34 : decode cX7_judge 34 = .ok (.iload_n 3, 1) := by decide +kernel
theorem dX7_judge_35 : decode cX7_judge 35 = .ok (.aload_n 0, 1) := by decide +kernel
theorem dX7_judge_36 : decode cX7_judge 36 = .ok (.getfield 64, 3) := by decide +kernel
theorem dX7_judge_39 : decode cX7_judge 39 = .ok (.getfield 109, 3) := by decide +kernel
theorem dX7_judge_42 : decode cX7_judge 42 = .ok (.if_icmp .ge 99, 3) := by decide +kernel
theorem dX7_judge_45 : decode cX7_judge 45 = .ok (.iload_n 3, 1) := by decide +kernel
theorem dX7_judge_46 : decode cX7_judge 46 = .ok (.bipush 20, 2) := by decide +kernel
theorem dX7_judge_48 : decode cX7_judge 48 = .ok (.if_icmp .ge 93, 3) := by decide +kernel
theorem dX7_judge_51 : decode cX7_judge 51 = .ok (.aload_n 0, 1) := by decide +kernel
theorem dX7_judge_52 : decode cX7_judge 52 = .ok (.getfield 32, 3) := by decide +kernel
theorem dX7_judge_55 : decode cX7_judge 55 = .ok (.aload_n 0, 1) := by decide +kernel
theorem dX7_judge_56 : decode cX7_judge 56 = .ok (.getfield 64, 3) := by decide +kernel
theorem dX7_judge_59 : decode cX7_judge 59 = .ok (.getfield 267, 3) := by decide +kernel
theorem dX7_judge_62 : decode cX7_judge 62 = .ok (.iload_n 3, 1) := by decide +kernel
theorem dX7_judge_63 : decode cX7_judge 63 = .ok (.iaload, 1) := by decide +kernel
theorem dX7_judge_64 : decode cX7_judge 64 = .ok (.aload_n 0, 1) := by decide +kernel
theorem dX7_judge_65 : decode cX7_judge 65 = .ok (.getfield 64, 3) := by decide +kernel
theorem dX7_judge_68 : decode cX7_judge 68 = .ok (.getfield 270, 3) := by decide +kernel
theorem dX7_judge_71 : decode cX7_judge 71 = .ok (.iload_n 3, 1) := by decide +kernel
theorem dX7_judge_72 : decode cX7_judge 72 = .ok (.iaload, 1) := by decide +kernel
theorem dX7_judge_73 : decode cX7_judge 73 = .ok (.aload_n 0, 1) := by decide +kernel
theorem dX7_judge_74 : decode cX7_judge 74 = .ok (.getfield 64, 3) := by decide +kernel
theorem dX7_judge_77 : decode cX7_judge 77 = .ok (.getfield 273, 3) := by decide +kernel
theorem dX7_judge_80 : decode cX7_judge 80 = .ok (.iload_n 3, 1) := by decide +kernel
theorem dX7_judge_81 : decode cX7_judge 81 = .ok (.iaload, 1) := by decide +kernel
theorem dX7_judge_82 : decode cX7_judge 82 = .ok (.invokevirtual 183, 3) := by decide +kernel
theorem dX7_judge_85 : decode cX7_judge 85 = .ok (.ifCond .ne 13, 3) := by decide +kernel
theorem dX7_judge_88 : decode cX7_judge 88 = .ok (.iload_n 1, 1) := by decide +kernel
theorem dX7_judge_89 : decode cX7_judge 89 = .ok (.ifCond .ne 7, 3) := by decide +kernel
theorem dX7_judge_92 : decode cX7_judge 92 = .ok (.iload_n 3, 1) := by decide +kernel
theorem dX7_judge_93 : decode cX7_judge 93 = .ok (.goto 4, 3) := by decide +kernel
theorem dX7_judge_96 : decode cX7_judge 96 = .ok (.iload_n 2, 1) := by decide +kernel
theorem dX7_judge_97 : decode cX7_judge 97 = .ok (.ireturn, 1) := by decide +kernel
theorem dX7_judge_98 : decode cX7_judge 98 = .ok (.iload_n 2, 1) := by decide +kernel
theorem dX7_judge_99 : decode cX7_judge 99 = .ok (.aload_n 0, 1) := by decide +kernel
theorem dX7_judge_100 : decode cX7_judge 100 = .ok (.getfield 35, 3) := by decide +kernel
theorem dX7_judge_103 : decode cX7_judge 103 = .ok (.aload_n 0, 1) := by decide +kernel
theorem dX7_judge_104 : decode cX7_judge 104 = .ok (.getfield 64, 3) := by decide +kernel
theorem dX7_judge_107 : decode cX7_judge 107 = .ok (.getfield 267, 3) := by decide +kernel
theorem dX7_judge_110 : decode cX7_judge 110 = .ok (.iload_n 3, 1) := by decide +kernel
theorem dX7_judge_111 : decode cX7_judge 111 = .ok (.iaload, 1) := by decide +kernel
theorem dX7_judge_112 : decode cX7_judge 112 = .ok (.aload_n 0, 1) := by decide +kernel
theorem dX7_judge_113 : decode cX7_judge 113 = .ok (.getfield 64, 3) := by decide +kernel
theorem dX7_judge_116 : decode cX7_judge 116 = .ok (.getfield 270, 3) := by decide +kernel
theorem dX7_judge_119 : decode cX7_judge 119 = .ok (.iload_n 3, 1) := by decide +kernel
theorem dX7_judge_120 : decode cX7_judge 120 = .ok (.iaload, 1) := by decide +kernel
theorem dX7_judge_121 : decode cX7_judge 121 = .ok (.aload_n 0, 1) := by decide +kernel
theorem dX7_judge_122 : decode cX7_judge 122 = .ok (.getfield 64, 3) := by decide +kernel
theorem dX7_judge_125 : decode cX7_judge 125 = .ok (.getfield 273, 3) := by decide +kernel
theorem dX7_judge_128 : decode cX7_judge 128 = .ok (.iload_n 3, 1) := by decide +kernel
theorem dX7_judge_129 : decode cX7_judge 129 = .ok (.iaload, 1) := by decide +kernel
theorem dX7_judge_130 : decode cX7_judge 130 = .ok (.invokevirtual 213, 3) := by decide +kernel
theorem dX7_judge_133 : decode cX7_judge 133 = .ok (.iadd, 1) := by decide +kernel
theorem dX7_judge_134 : decode cX7_judge 134 = .ok (.istore_n 2, 1) := by decide +kernel
theorem dX7_judge_135 : decode cX7_judge 135 = .ok (.iinc 3 1, 3) := by decide +kernel
theorem dX7_judge_138 : decode cX7_judge 138 = .ok (.goto (-104), 3) := by decide +kernel
theorem dX7_judge_141 : decode cX7_judge 141 = .ok (.iload_n 1, 1) := by decide +kernel
theorem dX7_judge_142 : decode cX7_judge 142 = .ok (.ifCond .ne 7, 3) := by decide +kernel
theorem dX7_judge_145 : decode cX7_judge 145 = .ok (.iconst (-1), 1) := by decide +kernel
theorem dX7_judge_146 : decode cX7_judge 146 = .ok (.goto 4, 3) := by decide +kernel
theorem dX7_judge_149 : decode cX7_judge 149 = .ok (.iload_n 2, 1) := by decide +kernel
theorem dX7_judge_150 : decode cX7_judge 150 = .ok (.ireturn, 1) := by decide +kernel
theorem dX7_drift_0 : decode cX7_drift 0 = .ok (.iload_n 1, 1) := by decide +kernel
theorem dX7_drift_1 : decode cX7_drift 1 = .ok (.iconst 1, 1) := by decide +kernel
theorem dX7_drift_2 : decode cX7_drift 2 = .ok (.if_icmp .lt 9, 3) := by decide +kernel
theorem dX7_drift_5 : decode cX7_drift 5 = .ok (.iload_n 1, 1) := by decide +kernel
theorem dX7_drift_6 : decode cX7_drift 6 = .ok (.bipush 99, 2) := by decide +kernel
theorem dX7_drift_8 : decode cX7_drift 8 = .ok (.if_icmp .le 6, 3) := by decide +kernel
theorem dX7_drift_11 : decode cX7_drift 11 = .ok (.ldc 80, 2) := by decide +kernel
theorem dX7_drift_13 : decode cX7_drift 13 = .ok (.ireturn, 1) := by decide +kernel
theorem dX7_drift_14 : decode cX7_drift 14 = .ok (.aload_n 0, 1) := by decide +kernel
theorem dX7_drift_15 : decode cX7_drift 15 = .ok (.getfield 12, 3) := by decide +kernel
theorem dX7_drift_18 : decode cX7_drift 18 = .ok (.getfield 112, 3) := by decide +kernel
theorem dX7_drift_21 : decode cX7_drift 21 = .ok (.ifCond .eq 13, 3) := by decide +kernel
theorem dX7_drift_24 : decode cX7_drift 24 = .ok (.aload_n 0, 1) := by decide +kernel
theorem dX7_drift_25 : decode cX7_drift 25 = .ok (.getfield 12, 3) := by decide +kernel
theorem dX7_drift_28 : decode cX7_drift 28 = .ok (.getfield 115, 3) := by decide +kernel
theorem dX7_drift_31 : decode cX7_drift 31 = .ok (.ifCond .ne 6, 3) := by decide +kernel
theorem dX7_drift_34 : decode cX7_drift 34 = .ok (.ldc 186, 2) := by decide +kernel
theorem dX7_drift_36 : decode cX7_drift 36 = .ok (.ireturn, 1) := by decide +kernel
theorem dX7_drift_37 : decode cX7_drift 37 = .ok (.iconst 0, 1) := by decide +kernel
theorem dX7_drift_38 : decode cX7_drift 38 = .ok (.istore_n 2, 1) := by decide +kernel
theorem dX7_drift_39 : decode cX7_drift 39 = .ok (.iconst 0, 1) := by decide +kernel
theorem dX7_drift_40 : decode cX7_drift 40 = .ok (.istore_n 3, 1) := by decide +kernel
theorem dX7_drift_41 : decode cX7_drift 41 = .ok (.iload_n 3, 1) := by decide +kernel
theorem dX7_drift_42 : decode cX7_drift 42 = .ok (.iload_n 1, 1) := by decide +kernel
theorem dX7_drift_43 : decode cX7_drift 43 = .ok (.if_icmp .ge 19, 3) := by decide +kernel
theorem dX7_drift_46 : decode cX7_drift 46 = .ok (.iload_n 2, 1) := by decide +kernel
theorem dX7_drift_47 : decode cX7_drift 47 = .ok (.aload_n 0, 1) := by decide +kernel
theorem dX7_drift_48 : decode cX7_drift 48 = .ok (.getfield 28, 3) := by decide +kernel
theorem dX7_drift_51 : decode cX7_drift 51 = .ok (.invokevirtual 276, 3) := by decide +kernel
theorem dX7_drift_54 : decode cX7_drift 54 = .ok (.iadd, 1) := by decide +kernel
theorem dX7_drift_55 : decode cX7_drift 55 = .ok (.istore_n 2, 1) := by decide +kernel
theorem dX7_drift_56 : decode cX7_drift 56 = .ok (.iinc 3 1, 3) := by decide +kernel
theorem dX7_drift_59 : decode cX7_drift 59 = .ok (.goto (-18), 3) := by decide +kernel
theorem dX7_drift_62 : decode cX7_drift 62 = .ok (.iload_n 2, 1) := by decide +kernel
theorem dX7_drift_63 : decode cX7_drift 63 = .ok (.ireturn, 1) := by decide +kernel
theorem dX7_empty_0 : decode cX7_empty 0 = .ok (.aload_n 0, 1) := by decide +kernel
theorem dX7_empty_1 : decode cX7_empty 1 = .ok (.getfield 19, 3) := by decide +kernel
theorem dX7_empty_4 : decode cX7_empty 4 = .ok (.invokevirtual 124, 3) := by decide +kernel
theorem dX7_empty_7 : decode cX7_empty 7 = .ok (.invokestatic 240, 3) := by decide +kernel
theorem dX7_empty_10 : decode cX7_empty 10 = .ok (.istore_n 1, 1) := by decide +kernel
theorem dX7_empty_11 : decode cX7_empty 11 = .ok (.aload_n 0, 1) := by decide +kernel
theorem dX7_empty_12 : decode cX7_empty 12 = .ok (.getfield 19, 3) := by decide +kernel
theorem dX7_empty_15 : decode cX7_empty 15 = .ok (.invokevirtual 264, 3) := by decide +kernel
theorem dX7_empty_18 : decode cX7_empty 18 = .ok (.iload_n 1, 1) := by decide +kernel
theorem dX7_empty_19 : decode cX7_empty 19 = .ok (.ireturn, 1) := by decide +kernel
theorem dX7_seed_0 : decode cX7_seed 0 = .ok (.iload_n 1, 1) := by decide +kernel
theorem dX7_seed_1 : decode cX7_seed 1 = .ok (.ifCond .ge 6, 3) := by decide +kernel
theorem dX7_seed_4 : decode cX7_seed 4 = .ok (.ldc 80, 2) := by decide +kernel
theorem dX7_seed_6 : decode cX7_seed 6 = .ok (.ireturn, 1) := by decide +kernel
theorem dX7_seed_7 : decode cX7_seed 7 = .ok (.aload_n 0, 1) := by decide +kernel
theorem dX7_seed_8 : decode cX7_seed 8 = .ok (.getfield 19, 3) := by decide +kernel
theorem dX7_seed_11 : decode cX7_seed 11 = .ok (.getfield 279, 3) := by decide +kernel
theorem dX7_seed_14 : decode cX7_seed 14 = .ok (.istore_n 2, 1) := by decide +kernel
theorem dX7_seed_15 : decode cX7_seed 15 = .ok (.aload_n 0, 1) := by decide +kernel
theorem dX7_seed_16 : decode cX7_seed 16 = .ok (.getfield 19, 3) := by decide +kernel
theorem dX7_seed_19 : decode cX7_seed 19 = .ok (.iload_n 1, 1) := by decide +kernel
theorem dX7_seed_20 : decode cX7_seed 20 = .ok (.putfield 279, 3) := by decide +kernel
theorem dX7_seed_23 : decode cX7_seed 23 = .ok (.iload_n 2, 1) := by decide +kernel
theorem dX7_seed_24 : decode cX7_seed 24 = .ok (.ireturn, 1) := by decide +kernel
theorem dX7_keep_0 : decode cX7_keep 0 = .ok (.aload_n 0, 1) := by decide +kernel
theorem dX7_keep_1 : decode cX7_keep 1 = .ok (.iload_n 1, 1) := by decide +kernel
theorem dX7_keep_2 : decode cX7_keep 2 = .ok (.invokevirtual 282, 3) := by decide +kernel
theorem dX7_keep_5 : decode cX7_keep 5 = .ok (.ifCond .ne 6, 3) := by decide +kernel
theorem dX7_keep_8 : decode cX7_keep 8 = .ok (.ldc 132, 2) := by decide +kernel
theorem dX7_keep_10 : decode cX7_keep 10 = .ok (.ireturn, 1) := by decide +kernel
theorem dX7_keep_11 : decode cX7_keep 11 = .ok (.aload_n 0, 1) := by decide +kernel
theorem dX7_keep_12 : decode cX7_keep 12 = .ok (.getfield 68, 3) := by decide +kernel
theorem dX7_keep_15 : decode cX7_keep 15 = .ok (.iload_n 1, 1) := by decide +kernel
theorem dX7_keep_16 : decode cX7_keep 16 = .ok (.aaload, 1) := by decide +kernel
theorem dX7_keep_17 : decode cX7_keep 17 = .ok (.aload_n 0, 1) := by decide +kernel
theorem dX7_keep_18 : decode cX7_keep 18 = .ok (.getfield 19, 3) := by decide +kernel
theorem dX7_keep_21 : decode cX7_keep 21 = .ok (.invokevirtual 252, 3) := by decide +kernel
theorem dX7_keep_24 : decode cX7_keep 24 = .ok (.aload_n 0, 1) := by decide +kernel
theorem dX7_keep_25 : decode cX7_keep 25 = .ok (.getfield 72, 3) := by decide +kernel
theorem dX7_keep_28 : decode cX7_keep 28 = .ok (.iload_n 1, 1) := by decide +kernel
theorem dX7_keep_29 : decode cX7_keep 29 = .ok (.iconst 1, 1) := by decide +kernel
theorem dX7_keep_30 : decode cX7_keep 30 = .ok (.bastore, 1) := by decide +kernel
theorem dX7_keep_31 : decode cX7_keep 31 = .ok (.iconst 1, 1) := by decide +kernel
theorem dX7_keep_32 : decode cX7_keep 32 = .ok (.ireturn, 1) := by decide +kernel
theorem dX7_goBack_0 : decode cX7_goBack 0 = .ok (.aload_n 0, 1) := by decide +kernel
theorem dX7_goBack_1 : decode cX7_goBack 1 = .ok (.iload_n 1, 1) := by decide +kernel
theorem dX7_goBack_2 : decode cX7_goBack 2 = .ok (.invokevirtual 282, 3) := by decide +kernel
theorem dX7_goBack_5 : decode cX7_goBack 5 = .ok (.ifCond .ne 6, 3) := by decide +kernel
theorem dX7_goBack_8 : decode cX7_goBack 8 = .ok (.ldc 132, 2) := by decide +kernel
theorem dX7_goBack_10 : decode cX7_goBack 10 = .ok (.ireturn, 1) := by decide +kernel
theorem dX7_goBack_11 : decode cX7_goBack 11 = .ok (.aload_n 0, 1) := by decide +kernel
theorem dX7_goBack_12 : decode cX7_goBack 12 = .ok (.getfield 72, 3) := by decide +kernel
theorem dX7_goBack_15 : decode cX7_goBack 15 = .ok (.iload_n 1, 1) := by decide +kernel
theorem dX7_goBack_16 : decode cX7_goBack 16 = .ok (.baload, 1) := by decide +kernel
theorem dX7_goBack_17 : decode cX7_goBack 17 = .ok (.ifCond .ne 6, 3) := by decide +kernel
theorem dX7_goBack_20 : decode cX7_goBack 20 = .ok (.ldc 186, 2) := by decide +kernel
theorem dX7_goBack_22 : decode cX7_goBack 22 = .ok (.ireturn, 1) := by decide +kernel
theorem dX7_goBack_23 : decode cX7_goBack 23 = .ok (.aload_n 0, 1) := by decide +kernel
theorem dX7_goBack_24 : decode cX7_goBack 24 = .ok (.getfield 19, 3) := by decide +kernel
theorem dX7_goBack_27 : decode cX7_goBack 27 = .ok (.aload_n 0, 1) := by decide +kernel
theorem dX7_goBack_28 : decode cX7_goBack 28 = .ok (.getfield 68, 3) := by decide +kernel
theorem dX7_goBack_31 : decode cX7_goBack 31 = .ok (.iload_n 1, 1) := by decide +kernel
theorem dX7_goBack_32 : decode cX7_goBack 32 = .ok (.aaload, 1) := by decide +kernel
theorem dX7_goBack_33 : decode cX7_goBack 33 = .ok (.invokevirtual 252, 3) := by decide +kernel
theorem dX7_goBack_36 : decode cX7_goBack 36 = .ok (.iconst 1, 1) := by decide +kernel
theorem dX7_goBack_37 : decode cX7_goBack 37 = .ok (.ireturn, 1) := by decide +kernel
theorem dX7_isComing_0 : decode cX7_isComing 0 = .ok (.aload_n 0, 1) := by decide +kernel
theorem dX7_isComing_1 : decode cX7_isComing 1 = .ok (.getfield 12, 3) := by decide +kernel
theorem dX7_isComing_4 : decode cX7_isComing 4 = .ok (.iload_n 1, 1) := by decide +kernel
theorem dX7_isComing_5 : decode cX7_isComing 5 = .ok (.invokevirtual 148, 3) := by decide +kernel
theorem dX7_isComing_8 : decode cX7_isComing 8 = .ok (.ifCond .eq 19, 3) := by decide +kernel
theorem dX7_isComing_11 : decode cX7_isComing 11 = .ok (.aload_n 0, 1) := by decide +kernel
theorem dX7_isComing_12 : decode cX7_isComing 12 = .ok (.getfield 12, 3) := by decide +kernel
theorem dX7_isComing_15 : decode cX7_isComing 15 = .ok (.iload_n 2, 1) := by decide +kernel
theorem dX7_isComing_16 : decode cX7_isComing 16 = .ok (.iload_n 3, 1) := by decide +kernel
theorem dX7_isComing_17 : decode cX7_isComing 17 = .ok (.invokevirtual 137, 3) := by decide +kernel
theorem dX7_isComing_20 : decode cX7_isComing 20 = .ok (.ifCond .eq 7, 3) := by decide +kernel
theorem dX7_isComing_23 : decode cX7_isComing 23 = .ok (.iconst 1, 1) := by decide +kernel
theorem dX7_isComing_24 : decode cX7_isComing 24 = .ok (.goto 4, 3) := by decide +kernel
theorem dX7_isComing_27 : decode cX7_isComing 27 = .ok (.iconst 0, 1) := by decide +kernel
theorem dX7_isComing_28 : decode cX7_isComing 28 = .ok (.ireturn, 1) := by decide +kernel
theorem dX7_isImage_0 : decode cX7_isImage 0 = .ok (.iload_n 1, 1) := by decide +kernel
theorem dX7_isImage_1 : decode cX7_isImage 1 = .ok (.ifCond .lt 12, 3) := by decide +kernel
theorem dX7_isImage_4 : decode cX7_isImage 4 = .ok (.iload_n 1, 1) := by decide +kernel
theorem dX7_isImage_5 : decode cX7_isImage 5 = .ok (.iconst 2, 1) := by decide +kernel
theorem dX7_isImage_6 : decode cX7_isImage 6 = .ok (.if_icmp .ge 7, 3) := by decide +kernel
theorem dX7_isImage_9 : decode cX7_isImage 9 = .ok (.iconst 1, 1) := by decide +kernel
theorem dX7_isImage_10 : decode cX7_isImage 10 = .ok (.goto 4, 3) := by decide +kernel
theorem dX7_isImage_13 : decode cX7_isImage 13 = .ok (.iconst 0, 1) := by decide +kernel
theorem dX7_isImage_14 : decode cX7_isImage 14 = .ok (.ireturn, 1) := by decide +kernel
theorem dX7_placeInRow_0 : decode cX7_placeInRow 0 = .ok (.aload_n 0, 1) := by decide +kernel
theorem dX7_placeInRow_1 : decode cX7_placeInRow 1 = .ok (.getfield 32, 3) := by decide +kernel
theorem dX7_placeInRow_4 : decode cX7_placeInRow 4 = .ok (.aload_n 0, 1) := by decide +kernel
theorem dX7_placeInRow_5 : decode cX7_placeInRow 5 = .ok (.getfield 19, 3) := by decide +kernel
theorem dX7_placeInRow_8 : decode cX7_placeInRow 8 = .ok (.invokevirtual 252, 3) := by decide +kernel
theorem dX7_placeInRow_11 : decode cX7_placeInRow 11 = .ok (.aload_n 0, 1) := by decide +kernel
theorem dX7_placeInRow_12 : decode cX7_placeInRow 12 = .ok (.getfield 32, 3) := by decide +kernel
theorem dX7_placeInRow_15 : decode cX7_placeInRow 15 = .ok (.invokevirtual 264, 3) := by decide +kernel
theorem dX7_placeInRow_18 : decode cX7_placeInRow 18 = .ok (.iconst 0, 1) := by decide +kernel
theorem dX7_placeInRow_19 : decode cX7_placeInRow 19 = .ok (.istore_n 3, 1) := by decide +kernel
theorem dX7_placeInRow_20 : decode cX7_placeInRow 20 = .ok (.iconst 0, 1) := by decide +kernel
theorem dX7_placeInRow_21 : decode cX7_placeInRow 21 = .ok (.istore 4, 2) := by decide +kernel
theorem dX7_placeInRow_23 : decode cX7_placeInRow 23 = .ok (.iload 4, 2) := by decide +kernel
theorem dX7_placeInRow_25 : decode cX7_placeInRow 25 = .ok (.aload_n 0, 1) := by decide +kernel
theorem dX7_placeInRow_26 : decode cX7_placeInRow 26 = .ok (.getfield 12, 3) := by decide +kernel
theorem dX7_placeInRow_29 : decode cX7_placeInRow 29 = .ok (.getfield 112, 3) := by decide +kernel
theorem dX7_placeInRow_32 : decode cX7_placeInRow 32 = .ok (.if_icmp .ge 32, 3) := by decide +kernel
theorem dX7_placeInRow_35 : decode cX7_placeInRow 35 = .ok (.iload_n 2, 1) := by decide +kernel
theorem dX7_placeInRow_36 : decode cX7_placeInRow 36 = .ok (.iload 4, 2) := by decide +kernel
theorem dX7_placeInRow_38 : decode cX7_placeInRow 38 = .ok (.ishr, 1) := by decide +kernel
theorem dX7_placeInRow_39 : decode cX7_placeInRow 39 = .ok (.iconst 1, 1) := by decide +kernel
theorem dX7_placeInRow_40 : decode cX7_placeInRow 40 = .ok (.iand, 1) := by decide +kernel
theorem dX7_placeInRow_41 : decode cX7_placeInRow 41 = .ok (.ifCond .eq 17, 3) := by decide +kernel
theorem dX7_placeInRow_44 : decode cX7_placeInRow 44 = .ok (.aload_n 0, 1) := by decide +kernel
theorem dX7_placeInRow_45 : decode cX7_placeInRow 45 = .ok (.getfield 32, 3) := by decide +kernel
theorem dX7_placeInRow_48 : decode cX7_placeInRow 48 = .ok (.iload 4, 2) := by decide +kernel
theorem dX7_placeInRow_50 : decode cX7_placeInRow 50 = .ok (.iload_n 1, 1) := by decide +kernel
theorem dX7_placeInRow_51 : decode cX7_placeInRow 51 = .ok (.iload_n 3, 1) := by decide +kernel
theorem dX7_placeInRow_52 : decode cX7_placeInRow 52 = .ok (.invokevirtual 187, 3) := by decide +kernel
theorem dX7_placeInRow_55 : decode cX7_placeInRow 55 = .ok (.iinc 3 1, 3) := by decide +kernel
theorem dX7_placeInRow_58 : decode cX7_placeInRow 58 = .ok (.iinc 4 1, 3) := by decide +kernel
theorem dX7_placeInRow_61 : decode cX7_placeInRow 61 = .ok (.goto (-38), 3) := by decide +kernel
theorem dX7_placeInRow_64 : decode cX7_placeInRow 64 = .ok (.return_, 1) := by decide +kernel
theorem dX7_suspectsIn_0 : decode cX7_suspectsIn 0 = .ok (.iconst 0, 1) := by decide +kernel
theorem dX7_suspectsIn_1 : decode cX7_suspectsIn 1 = .ok (.istore_n 2, 1) := by decide +kernel
theorem dX7_suspectsIn_2 : decode cX7_suspectsIn 2 = .ok (.iconst 0, 1) := by decide +kernel
theorem dX7_suspectsIn_3 : decode cX7_suspectsIn 3 = .ok (.istore_n 3, 1) := by decide +kernel
theorem dX7_suspectsIn_4 : decode cX7_suspectsIn 4 = .ok (.iload_n 3, 1) := by decide +kernel
theorem dX7_suspectsIn_5 : decode cX7_suspectsIn 5 = .ok (.aload_n 0, 1) := by decide +kernel
theorem dX7_suspectsIn_6 : decode cX7_suspectsIn 6 = .ok (.getfield 12, 3) := by decide +kernel
theorem dX7_suspectsIn_9 : decode cX7_suspectsIn 9 = .ok (.getfield 112, 3) := by decide +kernel
theorem dX7_suspectsIn_12 : decode cX7_suspectsIn 12 = .ok (.if_icmp .ge 59, 3) := by decide +kernel
theorem dX7_suspectsIn_15 : decode cX7_suspectsIn 15 = .ok (.aload_n 0, 1) := by decide +kernel
theorem dX7_suspectsIn_16 : decode cX7_suspectsIn 16 = .ok (.getfield 32, 3) := by decide +kernel
theorem dX7_suspectsIn_19 : decode cX7_suspectsIn 19 = .ok (.getfield 164, 3) := by decide +kernel
theorem dX7_suspectsIn_22 : decode cX7_suspectsIn 22 = .ok (.iload_n 3, 1) := by decide +kernel
theorem dX7_suspectsIn_23 : decode cX7_suspectsIn 23 = .ok (.iaload, 1) := by decide +kernel
theorem dX7_suspectsIn_24 : decode cX7_suspectsIn 24 = .ok (.iload_n 1, 1) := by decide +kernel
theorem dX7_suspectsIn_25 : decode cX7_suspectsIn 25 = .ok (.if_icmp .ne 40, 3) := by decide +kernel
theorem dX7_suspectsIn_28 : decode cX7_suspectsIn 28 = .ok (.aload_n 0, 1) := by decide +kernel
theorem dX7_suspectsIn_29 : decode cX7_suspectsIn 29 = .ok (.getfield 32, 3) := by decide +kernel
theorem dX7_suspectsIn_32 : decode cX7_suspectsIn 32 = .ok (.getfield 151, 3) := by decide +kernel
theorem dX7_suspectsIn_35 : decode cX7_suspectsIn 35 = .ok (.iload_n 3, 1) := by decide +kernel
theorem dX7_suspectsIn_36 : decode cX7_suspectsIn 36 = .ok (.iaload, 1) := by decide +kernel
theorem dX7_suspectsIn_37 : decode cX7_suspectsIn 37 = .ok (.istore 4, 2) := by decide +kernel
theorem dX7_suspectsIn_39 : decode cX7_suspectsIn 39 = .ok (.aload_n 0, 1) := by decide +kernel
theorem dX7_suspectsIn_40 : decode cX7_suspectsIn 40 = .ok (.iload_n 3, 1) := by decide +kernel
theorem dX7_suspectsIn_41 : decode cX7_suspectsIn 41 = .ok (.iload_n 1, 1) := by decide +kernel
theorem dX7_suspectsIn_42 : decode cX7_suspectsIn 42 = .ok (.invokevirtual 285, 3) := by decide +kernel
theorem dX7_suspectsIn_45 : decode cX7_suspectsIn 45 = .ok (.ifCond .eq 9, 3) := by decide +kernel
theorem dX7_suspectsIn_48 : decode cX7_suspectsIn 48 = .ok (.iload_n 2, 1) := by decide +kernel
theorem dX7_suspectsIn_49 : decode cX7_suspectsIn 49 = .ok (.iconst 1, 1) := by decide +kernel
theorem dX7_suspectsIn_50 : decode cX7_suspectsIn 50 = .ok (.iload_n 3, 1) := by decide +kernel
theorem dX7_suspectsIn_51 : decode cX7_suspectsIn 51 = .ok (.ishl, 1) := by decide +kernel
theorem dX7_suspectsIn_52 : decode cX7_suspectsIn 52 = .ok (.ior, 1) := by decide +kernel
theorem dX7_suspectsIn_53 : decode cX7_suspectsIn 53 = .ok (.istore_n 2, 1) := by decide +kernel
theorem dX7_suspectsIn_54 : decode cX7_suspectsIn 54 = .ok (.aload_n 0, 1) := by decide +kernel
theorem dX7_suspectsIn_55 : decode cX7_suspectsIn 55 = .ok (.getfield 32, 3) := by decide +kernel
theorem dX7_suspectsIn_58 : decode cX7_suspectsIn 58 = .ok (.getfield 151, 3) := by decide +kernel
theorem dX7_suspectsIn_61 : decode cX7_suspectsIn 61 = .ok (.iload_n 3, 1) := by decide +kernel
theorem dX7_suspectsIn_62 : decode cX7_suspectsIn 62 = .ok (.iload 4, 2) := by decide +kernel
theorem dX7_suspectsIn_64 : decode cX7_suspectsIn 64 = .ok (.iastore, 1) := by decide +kernel
theorem dX7_suspectsIn_65 : decode cX7_suspectsIn 65 = .ok (.iinc 3 1, 3) := by decide +kernel
theorem dX7_suspectsIn_68 : decode cX7_suspectsIn 68 = .ok (.goto (-64), 3) := by decide +kernel
theorem dX7_suspectsIn_71 : decode cX7_suspectsIn 71 = .ok (.iload_n 2, 1) := by decide +kernel
theorem dX7_suspectsIn_72 : decode cX7_suspectsIn 72 = .ok (.ireturn, 1) := by decide +kernel
theorem dX7_someAgeIsLawful_0 : decode cX7_someAgeIsLawful 0 = .ok (.aload_n 0, 1) := by decide +kernel
theorem dX7_someAgeIsLawful_1 : decode cX7_someAgeIsLawful 1 = .ok (.getfield 32, 3) := by decide +kernel
theorem dX7_someAgeIsLawful_4 : decode cX7_someAgeIsLawful 4 = .ok (.iload_n 2, 1) := by decide +kernel
theorem dX7_someAgeIsLawful_5 : decode cX7_someAgeIsLawful 5 = .ok (.invokevirtual 191, 3) := by decide +kernel
theorem dX7_someAgeIsLawful_8 : decode cX7_someAgeIsLawful 8 = .ok (.iconst 1, 1) := by decide +kernel
theorem dX7_someAgeIsLawful_9 : decode cX7_someAgeIsLawful 9 = .ok (.iload_n 1, 1) := by decide +kernel
theorem dX7_someAgeIsLawful_10 : decode cX7_someAgeIsLawful 10 = .ok (.ishl, 1) := by decide +kernel
theorem dX7_someAgeIsLawful_11 : decode cX7_someAgeIsLawful 11 = .ok (.iconst (-1), 1) := by decide +kernel
theorem dX7_someAgeIsLawful_12 : decode cX7_someAgeIsLawful 12 = .ok (.ixor, 1) := by decide +kernel
theorem dX7_someAgeIsLawful_13 : decode cX7_someAgeIsLawful 13 = .ok (.iand, 1) := by decide +kernel
theorem dX7_someAgeIsLawful_14 : decode cX7_someAgeIsLawful 14 = .ok (.istore_n 3, 1) := by decide +kernel
theorem dX7_someAgeIsLawful_15 : decode cX7_someAgeIsLawful 15 = .ok (.iconst (-1), 1) := by decide +kernel
theorem dX7_someAgeIsLawful_16 : decode cX7_someAgeIsLawful 16 = .ok (.istore 4, 2) := by decide +kernel
theorem dX7_someAgeIsLawful_18 : decode cX7_someAgeIsLawful 18 = .ok (.iload 4, 2) := by decide +kernel
theorem dX7_someAgeIsLawful_20 : decode cX7_someAgeIsLawful 20 = .ok (.aload_n 0, 1) := by decide +kernel
theorem dX7_someAgeIsLawful_21 : decode cX7_someAgeIsLawful 21 = .ok (.getfield 12, 3) := by decide +kernel
theorem dX7_someAgeIsLawful_24 : decode cX7_someAgeIsLawful 24 = .ok (.getfield 112, 3) := by decide +kernel
theorem dX7_someAgeIsLawful_27 : decode cX7_someAgeIsLawful 27 = .ok (.if_icmp .ge 96, 3) := by decide +kernel
theorem dX7_someAgeIsLawful_30 : decode cX7_someAgeIsLawful 30 = .ok (.iload 4, 2) := by decide +kernel
theorem dX7_someAgeIsLawful_32 : decode cX7_someAgeIsLawful 32 = .ok (.iconst (-1), 1) := by decide +kernel
theorem dX7_someAgeIsLawful_33 : decode cX7_someAgeIsLawful 33 = .ok (.if_icmp .eq 15, 3) := by decide +kernel
theorem dX7_someAgeIsLawful_36 : decode cX7_someAgeIsLawful 36 = .ok (.iload_n 3, 1) := by decide +kernel
theorem dX7_someAgeIsLawful_37 : decode cX7_someAgeIsLawful 37 = .ok (.iload 4, 2) := by decide +kernel
theorem dX7_someAgeIsLawful_39 : decode cX7_someAgeIsLawful 39 = .ok (.ishr, 1) := by decide +kernel
theorem dX7_someAgeIsLawful_40 : decode cX7_someAgeIsLawful 40 = .ok (.iconst 1, 1) := by decide +kernel
theorem dX7_someAgeIsLawful_41 : decode cX7_someAgeIsLawful 41 = .ok (.iand, 1) := by decide +kernel
theorem dX7_someAgeIsLawful_42 : decode cX7_someAgeIsLawful 42 = .ok (.ifCond .ne 6, 3) := by decide +kernel
theorem dX7_someAgeIsLawful_45 : decode cX7_someAgeIsLawful 45 = .ok (.goto 72, 3) := by decide +kernel
theorem dX7_someAgeIsLawful_48 : decode cX7_someAgeIsLawful 48 = .ok (.iload 4, 2) := by decide +kernel
theorem dX7_someAgeIsLawful_50 : decode cX7_someAgeIsLawful 50 = .ok (.iconst (-1), 1) := by decide +kernel
theorem dX7_someAgeIsLawful_51 : decode cX7_someAgeIsLawful 51 = .ok (.if_icmp .ne 7, 3) := by decide +kernel
theorem dX7_someAgeIsLawful_54 : decode cX7_someAgeIsLawful 54 = .ok (.iconst 0, 1) := by decide +kernel
theorem dX7_someAgeIsLawful_55 : decode cX7_someAgeIsLawful 55 = .ok (.goto 15, 3) := by decide +kernel
theorem dX7_someAgeIsLawful_58 : decode cX7_someAgeIsLawful 58 = .ok (.aload_n 0, 1) := by decide +kernel
theorem dX7_someAgeIsLawful_59 : decode cX7_someAgeIsLawful 59 = .ok (.getfield 32, 3) := by decide +kernel
theorem dX7_someAgeIsLawful_62 : decode cX7_someAgeIsLawful 62 = .ok (.getfield 151, 3) := by decide +kernel
theorem dX7_someAgeIsLawful_65 : decode cX7_someAgeIsLawful 65 = .ok (.iload 4, 2) := by decide +kernel
theorem dX7_someAgeIsLawful_67 : decode cX7_someAgeIsLawful 67 = .ok (.iaload, 1) := by decide +kernel
theorem dX7_someAgeIsLawful_68 : decode cX7_someAgeIsLawful 68 = .ok (.iconst 1, 1) := by decide +kernel
theorem dX7_someAgeIsLawful_69 : decode cX7_someAgeIsLawful 69 = .ok (.iadd, 1) := by decide +kernel
theorem dX7_someAgeIsLawful_70 : decode cX7_someAgeIsLawful 70 = .ok (.istore 5, 2) := by decide +kernel
theorem dX7_someAgeIsLawful_72 : decode cX7_someAgeIsLawful 72 = .ok (.iload 5, 2) := by decide +kernel
theorem dX7_someAgeIsLawful_74 : decode cX7_someAgeIsLawful 74 = .ok (.bipush 99, 2) := by decide +kernel
theorem dX7_someAgeIsLawful_76 : decode cX7_someAgeIsLawful 76 = .ok (.if_icmp .gt 41, 3) := by decide +kernel
theorem dX7_someAgeIsLawful_79 : decode cX7_someAgeIsLawful 79 = .ok (.aload_n 0, 1) := by decide +kernel
theorem dX7_someAgeIsLawful_80 : decode cX7_someAgeIsLawful 80 = .ok (.getfield 32, 3) := by decide +kernel
theorem dX7_someAgeIsLawful_83 : decode cX7_someAgeIsLawful 83 = .ok (.iload_n 3, 1) := by decide +kernel
theorem dX7_someAgeIsLawful_84 : decode cX7_someAgeIsLawful 84 = .ok (.iload 5, 2) := by decide +kernel
theorem dX7_someAgeIsLawful_86 : decode cX7_someAgeIsLawful 86 = .ok (.invokevirtual 288, 3) := by decide +kernel
theorem dX7_someAgeIsLawful_89 : decode cX7_someAgeIsLawful 89 = .ok (.ifCond .ne 28, 3) := by decide +kernel
theorem dX7_someAgeIsLawful_92 : decode cX7_someAgeIsLawful 92 = .ok (.aload_n 0, 1) := by decide +kernel
theorem dX7_someAgeIsLawful_93 : decode cX7_someAgeIsLawful 93 = .ok (.getfield 32, 3) := by decide +kernel
theorem dX7_someAgeIsLawful_96 : decode cX7_someAgeIsLawful 96 = .ok (.getfield 151, 3) := by decide +kernel
theorem dX7_someAgeIsLawful_99 : decode cX7_someAgeIsLawful 99 = .ok (.iload_n 1, 1) := by decide +kernel
theorem dX7_someAgeIsLawful_100 : decode cX7_someAgeIsLawful 100 = .ok (.iload 5, 2) := by decide +kernel
theorem dX7_someAgeIsLawful_102 : decode cX7_someAgeIsLawful 102 = .ok (.iastore, 1) := by decide +kernel
theorem dX7_someAgeIsLawful_103 : decode cX7_someAgeIsLawful 103 = .ok (.aload_n 0, 1) := by decide +kernel
theorem dX7_someAgeIsLawful_104 : decode cX7_someAgeIsLawful 104 = .ok (.getfield 35, 3) := by decide +kernel
theorem dX7_someAgeIsLawful_107 : decode cX7_someAgeIsLawful 107 = .ok (.iload_n 2, 1) := by decide +kernel
theorem dX7_someAgeIsLawful_108 : decode cX7_someAgeIsLawful 108 = .ok (.invokevirtual 198, 3) := by decide +kernel
theorem dX7_someAgeIsLawful_111 : decode cX7_someAgeIsLawful 111 = .ok (.iconst (-1), 1) := by decide +kernel
theorem dX7_someAgeIsLawful_112 : decode cX7_someAgeIsLawful 112 = .ok (.if_icmp .ne 5, 3) := by decide +kernel
theorem dX7_someAgeIsLawful_115 : decode cX7_someAgeIsLawful 115 = .ok (.iconst 1, 1) := by decide +kernel
theorem dX7_someAgeIsLawful_116 : decode cX7_someAgeIsLawful 116 = .ok (.ireturn, 1) := by decide +kernel
theorem dX7_someAgeIsLawful_117 : decode cX7_someAgeIsLawful 117 = .ok (.iinc 4 1, 3) := by decide +kernel
theorem dX7_someAgeIsLawful_120 : decode cX7_someAgeIsLawful 120 = .ok (.goto (-102), 3) := by decide +kernel
theorem dX7_someAgeIsLawful_123 : decode cX7_someAgeIsLawful 123 = .ok (.iconst 0, 1) := by decide +kernel
theorem dX7_someAgeIsLawful_124 : decode cX7_someAgeIsLawful 124 = .ok (.ireturn, 1) := by decide +kernel
theorem dX7_heelsIn_0 : decode cX7_heelsIn 0 = .ok (.iconst 0, 1) := by decide +kernel
theorem dX7_heelsIn_1 : decode cX7_heelsIn 1 = .ok (.istore_n 2, 1) := by decide +kernel
theorem dX7_heelsIn_2 : decode cX7_heelsIn 2 = .ok (.iconst 0, 1) := by decide +kernel
theorem dX7_heelsIn_3 : decode cX7_heelsIn 3 = .ok (.istore_n 3, 1) := by decide +kernel
theorem dX7_heelsIn_4 : decode cX7_heelsIn 4 = .ok (.iload_n 3, 1) := by decide +kernel
theorem dX7_heelsIn_5 : decode cX7_heelsIn 5 = .ok (.aload_n 0, 1) := by decide +kernel
theorem dX7_heelsIn_6 : decode cX7_heelsIn 6 = .ok (.getfield 12, 3) := by decide +kernel
theorem dX7_heelsIn_9 : decode cX7_heelsIn 9 = .ok (.getfield 112, 3) := by decide +kernel
theorem dX7_heelsIn_12 : decode cX7_heelsIn 12 = .ok (.if_icmp .ge 66, 3) := by decide +kernel
theorem dX7_heelsIn_15 : decode cX7_heelsIn 15 = .ok (.aload_n 0, 1) := by decide +kernel
theorem dX7_heelsIn_16 : decode cX7_heelsIn 16 = .ok (.getfield 32, 3) := by decide +kernel
theorem dX7_heelsIn_19 : decode cX7_heelsIn 19 = .ok (.getfield 164, 3) := by decide +kernel
theorem dX7_heelsIn_22 : decode cX7_heelsIn 22 = .ok (.iload_n 3, 1) := by decide +kernel
theorem dX7_heelsIn_23 : decode cX7_heelsIn 23 = .ok (.iaload, 1) := by decide +kernel
theorem dX7_heelsIn_24 : decode cX7_heelsIn 24 = .ok (.iload_n 1, 1) := by decide +kernel
theorem dX7_heelsIn_25 : decode cX7_heelsIn 25 = .ok (.if_icmp .ne 47, 3) := by decide +kernel
theorem dX7_heelsIn_28 : decode cX7_heelsIn 28 = .ok (.aload_n 0, 1) := by decide +kernel
theorem dX7_heelsIn_29 : decode cX7_heelsIn 29 = .ok (.getfield 32, 3) := by decide +kernel
theorem dX7_heelsIn_32 : decode cX7_heelsIn 32 = .ok (.getfield 155, 3) := by decide +kernel
theorem dX7_heelsIn_35 : decode cX7_heelsIn 35 = .ok (.iload_n 3, 1) := by decide +kernel
theorem dX7_heelsIn_36 : decode cX7_heelsIn 36 = .ok (.dup2, 1) := by decide +kernel
theorem dX7_heelsIn_37 : decode cX7_heelsIn 37 = .ok (.iaload, 1) := by decide +kernel
theorem dX7_heelsIn_38 : decode cX7_heelsIn 38 = .ok (.iconst 1, 1) := by decide +kernel
theorem dX7_heelsIn_39 : decode cX7_heelsIn 39 = .ok (.isub, 1) := by decide +kernel
theorem dX7_heelsIn_40 : decode cX7_heelsIn 40 = .ok (.iastore, 1) := by decide +kernel
theorem dX7_heelsIn_41 : decode cX7_heelsIn 41 = .ok (.aload_n 0, 1) := by decide +kernel
theorem dX7_heelsIn_42 : decode cX7_heelsIn 42 = .ok (.getfield 35, 3) := by decide +kernel
theorem dX7_heelsIn_45 : decode cX7_heelsIn 45 = .ok (.iload_n 1, 1) := by decide +kernel
theorem dX7_heelsIn_46 : decode cX7_heelsIn 46 = .ok (.invokevirtual 198, 3) := by decide +kernel
theorem dX7_heelsIn_49 : decode cX7_heelsIn 49 = .ok (.iconst (-1), 1) := by decide +kernel
theorem dX7_heelsIn_50 : decode cX7_heelsIn 50 = .ok (.if_icmp .ne 9, 3) := by decide +kernel
theorem dX7_heelsIn_53 : decode cX7_heelsIn 53 = .ok (.iload_n 2, 1) := by decide +kernel
theorem dX7_heelsIn_54 : decode cX7_heelsIn 54 = .ok (.iconst 1, 1) := by decide +kernel
theorem dX7_heelsIn_55 : decode cX7_heelsIn 55 = .ok (.iload_n 3, 1) := by decide +kernel
theorem dX7_heelsIn_56 : decode cX7_heelsIn 56 = .ok (.ishl, 1) := by decide +kernel
theorem dX7_heelsIn_57 : decode cX7_heelsIn 57 = .ok (.ior, 1) := by decide +kernel
theorem dX7_heelsIn_58 : decode cX7_heelsIn 58 = .ok (.istore_n 2, 1) := by decide +kernel
theorem dX7_heelsIn_59 : decode cX7_heelsIn 59 = .ok (.aload_n 0, 1) := by decide +kernel
theorem dX7_heelsIn_60 : decode cX7_heelsIn 60 = .ok (.getfield 32, 3) := by decide +kernel
theorem dX7_heelsIn_63 : decode cX7_heelsIn 63 = .ok (.getfield 155, 3) := by decide +kernel
theorem dX7_heelsIn_66 : decode cX7_heelsIn 66 = .ok (.iload_n 3, 1) := by decide +kernel
theorem dX7_heelsIn_67 : decode cX7_heelsIn 67 = .ok (.dup2, 1) := by decide +kernel
theorem dX7_heelsIn_68 : decode cX7_heelsIn 68 = .ok (.iaload, 1) := by decide +kernel
theorem dX7_heelsIn_69 : decode cX7_heelsIn 69 = .ok (.iconst 1, 1) := by decide +kernel
theorem dX7_heelsIn_70 : decode cX7_heelsIn 70 = .ok (.iadd, 1) := by decide +kernel
theorem dX7_heelsIn_71 : decode cX7_heelsIn 71 = .ok (.iastore, 1) := by decide +kernel
theorem dX7_heelsIn_72 : decode cX7_heelsIn 72 = .ok (.iinc 3 1, 3) := by decide +kernel
theorem dX7_heelsIn_75 : decode cX7_heelsIn 75 = .ok (.goto (-71), 3) := by decide +kernel
theorem dX7_heelsIn_78 : decode cX7_heelsIn 78 = .ok (.iload_n 2, 1) := by decide +kernel
theorem dX7_heelsIn_79 : decode cX7_heelsIn 79 = .ok (.ireturn, 1) := by decide +kernel
theorem dX7_copyRow_0 : decode cX7_copyRow 0 = .ok (.aload_n 0, 1) := by decide +kernel
theorem dX7_copyRow_1 : decode cX7_copyRow 1 = .ok (.iconst 0, 1) := by decide +kernel
theorem dX7_copyRow_2 : decode cX7_copyRow 2 = .ok (.aload_n 1, 1) := by decide +kernel
theorem dX7_copyRow_3 : decode cX7_copyRow 3 = .ok (.iconst 0, 1) := by decide +kernel
theorem dX7_copyRow_4 : decode cX7_copyRow 4 = .ok (.aload_n 0, 1) := by decide +kernel
theorem dX7_copyRow_5 : decode cX7_copyRow 5 = .ok (.arraylength, 1) := by decide +kernel
theorem dX7_copyRow_6 : decode cX7_copyRow 6 = .ok (.aload_n 1, 1) := by decide +kernel
theorem dX7_copyRow_7 : decode cX7_copyRow 7 = .ok (.arraylength, 1) := by decide +kernel
theorem dX7_copyRow_8 : decode cX7_copyRow 8 = .ok (.invokestatic 291, 3) := by decide +kernel
theorem dX7_copyRow_11 : decode cX7_copyRow 11 = .ok (.invokestatic 296, 3) := by decide +kernel
theorem dX7_copyRow_14 : decode cX7_copyRow 14 = .ok (.return_, 1) := by decide +kernel
