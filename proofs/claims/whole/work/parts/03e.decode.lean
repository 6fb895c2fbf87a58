theorem dX8_bowAll_124 : decode cX8_bowAll 124 = .ok (.iaload, 1) := by decide +kernel
theorem dX8_bowAll_125 : decode cX8_bowAll 125 = .ok (.isub, 1) := by decide +kernel
theorem dX8_bowAll_126 : decode cX8_bowAll 126 = .ok (.istore 7, 2) := by decide +kernel
theorem dX8_bowAll_128 : decode cX8_bowAll 128 = .ok (.iload_n 3, 1) := by decide +kernel
theorem dX8_bowAll_129 : decode cX8_bowAll 129 = .ok (.ldc_w 279, 3) := by decide +kernel
theorem dX8_bowAll_132 : decode cX8_bowAll 132 = .ok (.if_icmp .eq 17, 3) := by decide +kernel
theorem dX8_bowAll_135 : decode cX8_bowAll 135 = .ok (.aload_n 0, 1) := by decide +kernel
theorem dX8_bowAll_136 : decode cX8_bowAll 136 = .ok (.getfield 230, 3) := by decide +kernel
theorem dX8_bowAll_139 : decode cX8_bowAll 139 = .ok (.iconst 1, 1) := by decide +kernel
theorem dX8_bowAll_140 : decode cX8_bowAll 140 = .ok (.if_icmp .ne 14, 3) := by decide +kernel
theorem dX8_bowAll_143 : decode cX8_bowAll 143 = .ok (.iload 7, 2) := by decide +kernel
theorem dX8_bowAll_145 : decode cX8_bowAll 145 = .ok (.iload_n 3, 1) := by decide +kernel
theorem dX8_bowAll_146 : decode cX8_bowAll 146 = .ok (.if_icmp .ge 8, 3) := by decide +kernel
theorem dX8_bowAll_149 : decode cX8_bowAll 149 = .ok (.iload 7, 2) := by decide +kernel
theorem dX8_bowAll_151 : decode cX8_bowAll 151 = .ok (.goto 4, 3) := by decide +kernel
theorem dX8_bowAll_154 : decode cX8_bowAll 154 = .ok (.iload_n 3, 1) := by decide +kernel
theorem dX8_bowAll_155 : decode cX8_bowAll 155 = .ok (.istore_n 3, 1) := by decide +kernel
theorem dX8_bowAll_156 : decode cX8_bowAll 156 = .ok (.goto (-147), 3) := by decide +kernel
theorem dX8_bowAll_159 : decode cX8_bowAll 159 = .ok (.iload 4, 2) := by decide +kernel
theorem dX8_bowAll_161 : decode cX8_bowAll 161 = .ok (.ireturn, 1) := by decide +kernel
theorem dX8_takeTall_0 : decode cX8_takeTall 0 = .ok (.iconst 0, 1) := by decide +kernel
theorem dX8_takeTall_1 : decode cX8_takeTall 1 = .ok (.istore_n 2, 1) := by decide +kernel
theorem dX8_takeTall_2 : decode cX8_takeTall 2 = .ok (.iload_n 2, 1) := by decide +kernel
theorem dX8_takeTall_3 : decode cX8_takeTall 3 = .ok (.aload_n 0, 1) := by decide +kernel
theorem dX8_takeTall_4 : decode cX8_takeTall 4 = .ok (.getfield 127, 3) := by decide +kernel
theorem dX8_takeTall_7 : decode cX8_takeTall 7 = .ok (.if_icmp .ge 44, 3) := by decide +kernel
theorem dX8_takeTall_10 : decode cX8_takeTall 10 = .ok (.aload_n 0, 1) := by decide +kernel
theorem dX8_takeTall_11 : decode cX8_takeTall 11 = .ok (.getfield 74, 3) := by decide +kernel
theorem dX8_takeTall_14 : decode cX8_takeTall 14 = .ok (.iload_n 2, 1) := by decide +kernel
theorem dX8_takeTall_15 : decode cX8_takeTall 15 = .ok (.iload_n 1, 1) := by decide +kernel
theorem dX8_takeTall_16 : decode cX8_takeTall 16 = .ok (.iload_n 2, 1) := by decide +kernel
theorem dX8_takeTall_17 : decode cX8_takeTall 17 = .ok (.invokestatic 267, 3) := by decide +kernel
theorem dX8_takeTall_20 : decode cX8_takeTall 20 = .ok (.ifCond .eq 23, 3) := by decide +kernel
theorem dX8_takeTall_23 : decode cX8_takeTall 23 = .ok (.aload_n 0, 1) := by decide +kernel
theorem dX8_takeTall_24 : decode cX8_takeTall 24 = .ok (.iload_n 2, 1) := by decide +kernel
theorem dX8_takeTall_25 : decode cX8_takeTall 25 = .ok (.aload_n 0, 1) := by decide +kernel
theorem dX8_takeTall_26 : decode cX8_takeTall 26 = .ok (.getfield 37, 3) := by decide +kernel
theorem dX8_takeTall_29 : decode cX8_takeTall 29 = .ok (.iload_n 2, 1) := by decide +kernel
theorem dX8_takeTall_30 : decode cX8_takeTall 30 = .ok (.iaload, 1) := by decide +kernel
theorem dX8_takeTall_31 : decode cX8_takeTall 31 = .ok (.aload_n 0, 1) := by decide +kernel
theorem dX8_takeTall_32 : decode cX8_takeTall 32 = .ok (.getfield 40, 3) := by decide +kernel
theorem dX8_takeTall_35 : decode cX8_takeTall 35 = .ok (.iload_n 2, 1) := by decide +kernel
theorem dX8_takeTall_36 : decode cX8_takeTall 36 = .ok (.iaload, 1) := by decide +kernel
theorem dX8_takeTall_37 : decode cX8_takeTall 37 = .ok (.invokevirtual 244, 3) := by decide +kernel
theorem dX8_takeTall_40 : decode cX8_takeTall 40 = .ok (.goto 4, 3) := by decide +kernel
theorem dX8_takeTall_43 : decode cX8_takeTall 43 = .ok (.iconst 0, 1) := by decide +kernel
theorem dX8_takeTall_44 : decode cX8_takeTall 44 = .ok (.iastore, 1) := by decide +kernel
theorem dX8_takeTall_45 : decode cX8_takeTall 45 = .ok (.iinc 2 1, 3) := by decide +kernel
theorem dX8_takeTall_48 : decode cX8_takeTall 48 = .ok (.goto (-46), 3) := by decide +kernel
theorem dX8_takeTall_51 : decode cX8_takeTall 51 = .ok (.return_, 1) := by decide +kernel
theorem dX8_bowNow_0 : decode cX8_bowNow 0 = .ok (.aload_n 0, 1) := by decide +kernel
theorem dX8_bowNow_1 : decode cX8_bowNow 1 = .ok (.iload_n 1, 1) := by decide +kernel
theorem dX8_bowNow_2 : decode cX8_bowNow 2 = .ok (.invokevirtual 260, 3) := by decide +kernel
theorem dX8_bowNow_5 : decode cX8_bowNow 5 = .ok (.istore_n 2, 1) := by decide +kernel
theorem dX8_bowNow_6 : decode cX8_bowNow 6 = .ok (.aload_n 0, 1) := by decide +kernel
theorem dX8_bowNow_7 : decode cX8_bowNow 7 = .ok (.iload_n 2, 1) := by decide +kernel
theorem dX8_bowNow_8 : decode cX8_bowNow 8 = .ok (.invokevirtual 280, 3) := by decide +kernel
theorem dX8_bowNow_11 : decode cX8_bowNow 11 = .ok (.aload_n 0, 1) := by decide +kernel
theorem dX8_bowNow_12 : decode cX8_bowNow 12 = .ok (.iload_n 2, 1) := by decide +kernel
theorem dX8_bowNow_13 : decode cX8_bowNow 13 = .ok (.invokevirtual 283, 3) := by decide +kernel
theorem dX8_bowNow_16 : decode cX8_bowNow 16 = .ok (.istore_n 3, 1) := by decide +kernel
theorem dX8_bowNow_17 : decode cX8_bowNow 17 = .ok (.iconst 0, 1) := by decide +kernel
theorem dX8_bowNow_18 : decode cX8_bowNow 18 = .ok (.istore 4, 2) := by decide +kernel
theorem dX8_bowNow_20 : decode cX8_bowNow 20 = .ok (.iload 4, 2) := by decide +kernel
theorem dX8_bowNow_22 : decode cX8_bowNow 22 = .ok (.aload_n 0, 1) := by decide +kernel
theorem dX8_bowNow_23 : decode cX8_bowNow 23 = .ok (.getfield 127, 3) := by decide +kernel
theorem dX8_bowNow_26 : decode cX8_bowNow 26 = .ok (.if_icmp .ge 42, 3) := by decide +kernel
theorem dX8_bowNow_29 : decode cX8_bowNow 29 = .ok (.aload_n 0, 1) := by decide +kernel
theorem dX8_bowNow_30 : decode cX8_bowNow 30 = .ok (.getfield 43, 3) := by decide +kernel
theorem dX8_bowNow_33 : decode cX8_bowNow 33 = .ok (.iload 4, 2) := by decide +kernel
theorem dX8_bowNow_35 : decode cX8_bowNow 35 = .ok (.iload_n 2, 1) := by decide +kernel
theorem dX8_bowNow_36 : decode cX8_bowNow 36 = .ok (.iload 4, 2) := by decide +kernel
theorem dX8_bowNow_38 : decode cX8_bowNow 38 = .ok (.invokestatic 267, 3) := by decide +kernel
theorem dX8_bowNow_41 : decode cX8_bowNow 41 = .ok (.ifCond .eq 13, 3) := by decide +kernel
theorem dX8_bowNow_44 : decode cX8_bowNow 44 = .ok (.aload_n 0, 1) := by decide +kernel
theorem dX8_bowNow_45 : decode cX8_bowNow 45 = .ok (.getfield 77, 3) := by decide +kernel
theorem dX8_bowNow_48 : decode cX8_bowNow 48 = .ok (.iload 4, 2) := by decide +kernel
theorem dX8_bowNow_50 : decode cX8_bowNow 50 = .ok (.iaload, 1) := by decide +kernel
theorem dX8_bowNow_51 : decode cX8_bowNow 51 = .ok (.goto 10, 3) := by decide +kernel
theorem dX8_bowNow_54 : decode cX8_bowNow 54 = .ok (.aload_n 0, 1) := by decide +kernel
theorem dX8_bowNow_55 : decode cX8_bowNow 55 = .ok (.getfield 43, 3) := by decide +kernel
theorem dX8_bowNow_58 : decode cX8_bowNow 58 = .ok (.iload 4, 2) := by decide +kernel
theorem dX8_bowNow_60 : decode cX8_bowNow 60 = .ok (.iaload, 1) := by decide +kernel
theorem dX8_bowNow_61 : decode cX8_bowNow 61 = .ok (.iastore, 1) := by decide +kernel
theorem dX8_bowNow_62 : decode cX8_bowNow 62 = .ok (.iinc 4 1, 3) := by decide +kernel
theorem dX8_bowNow_65 : decode cX8_bowNow 65 = .ok (.goto (-45), 3) := by decide +kernel
theorem dX8_bowNow_68 : decode cX8_bowNow 68 = .ok (.iload_n 3, 1) := by decide +kernel
theorem dX8_bowNow_69 : decode cX8_bowNow 69 = .ok (.ireturn, 1) := by decide +kernel
theorem dX8_bow_0 : decode cX8_bow 0 = .ok (.aload_n 0, 1) := by decide +kernel
theorem dX8_bow_1 : decode cX8_bow 1 = .ok (.iload_n 1, 1) := by decide +kernel
theorem dX8_bow_2 : decode cX8_bow 2 = .ok (.invokevirtual 130, 3) := by decide +kernel
theorem dX8_bow_5 : decode cX8_bow 5 = .ok (.ifCond .eq 11, 3) := by decide +kernel
theorem dX8_bow_8 : decode cX8_bow 8 = .ok (.aload_n 0, 1) := by decide +kernel
theorem dX8_bow_9 : decode cX8_bow 9 = .ok (.iload_n 1, 1) := by decide +kernel
theorem dX8_bow_10 : decode cX8_bow 10 = .ok (.invokevirtual 286, 3) := by decide +kernel
theorem dX8_bow_13 : decode cX8_bow 13 = .ok (.goto 5, 3) := by decide +kernel
theorem dX8_bow_16 : decode cX8_bow 16 = .ok (.ldc 240, 2) := by decide +kernel
theorem dX8_bow_18 : decode cX8_bow 18 = .ok (.ireturn, 1) := by decide +kernel
theorem dX8_yearNow_0 : decode cX8_yearNow 0 = .ok (.iconst 0, 1) := by decide +kernel
theorem dX8_yearNow_1 : decode cX8_yearNow 1 = .ok (.istore_n 1, 1) := by decide +kernel
theorem dX8_yearNow_2 : decode cX8_yearNow 2 = .ok (.iload_n 1, 1) := by decide +kernel
theorem dX8_yearNow_3 : decode cX8_yearNow 3 = .ok (.aload_n 0, 1) := by decide +kernel
theorem dX8_yearNow_4 : decode cX8_yearNow 4 = .ok (.getfield 127, 3) := by decide +kernel
theorem dX8_yearNow_7 : decode cX8_yearNow 7 = .ok (.if_icmp .ge 66, 3) := by decide +kernel
theorem dX8_yearNow_10 : decode cX8_yearNow 10 = .ok (.aload_n 0, 1) := by decide +kernel
theorem dX8_yearNow_11 : decode cX8_yearNow 11 = .ok (.getfield 34, 3) := by decide +kernel
theorem dX8_yearNow_14 : decode cX8_yearNow 14 = .ok (.iload_n 1, 1) := by decide +kernel
theorem dX8_yearNow_15 : decode cX8_yearNow 15 = .ok (.iaload, 1) := by decide +kernel
theorem dX8_yearNow_16 : decode cX8_yearNow 16 = .ok (.aload_n 0, 1) := by decide +kernel
theorem dX8_yearNow_17 : decode cX8_yearNow 17 = .ok (.getfield 31, 3) := by decide +kernel
theorem dX8_yearNow_20 : decode cX8_yearNow 20 = .ok (.iload_n 1, 1) := by decide +kernel
theorem dX8_yearNow_21 : decode cX8_yearNow 21 = .ok (.iaload, 1) := by decide +kernel
theorem dX8_yearNow_22 : decode cX8_yearNow 22 = .ok (.bipush 20, 2) := by decide +kernel
theorem dX8_yearNow_24 : decode cX8_yearNow 24 = .ok (.if_icmp .ge 12, 3) := by decide +kernel
theorem dX8_yearNow_27 : decode cX8_yearNow 27 = .ok (.aload_n 0, 1) := by decide +kernel
theorem dX8_yearNow_28 : decode cX8_yearNow 28 = .ok (.getfield 25, 3) := by decide +kernel
theorem dX8_yearNow_31 : decode cX8_yearNow 31 = .ok (.iload_n 1, 1) := by decide +kernel
theorem dX8_yearNow_32 : decode cX8_yearNow 32 = .ok (.iaload, 1) := by decide +kernel
theorem dX8_yearNow_33 : decode cX8_yearNow 33 = .ok (.goto 4, 3) := by decide +kernel
theorem dX8_yearNow_36 : decode cX8_yearNow 36 = .ok (.iconst 0, 1) := by decide +kernel
theorem dX8_yearNow_37 : decode cX8_yearNow 37 = .ok (.iadd, 1) := by decide +kernel
theorem dX8_yearNow_38 : decode cX8_yearNow 38 = .ok (.istore_n 2, 1) := by decide +kernel
theorem dX8_yearNow_39 : decode cX8_yearNow 39 = .ok (.aload_n 0, 1) := by decide +kernel
theorem dX8_yearNow_40 : decode cX8_yearNow 40 = .ok (.getfield 34, 3) := by decide +kernel
theorem dX8_yearNow_43 : decode cX8_yearNow 43 = .ok (.iload_n 1, 1) := by decide +kernel
theorem dX8_yearNow_44 : decode cX8_yearNow 44 = .ok (.iload_n 2, 1) := by decide +kernel
theorem dX8_yearNow_45 : decode cX8_yearNow 45 = .ok (.bipush 90, 2) := by decide +kernel
theorem dX8_yearNow_47 : decode cX8_yearNow 47 = .ok (.if_icmp .le 8, 3) := by decide +kernel
theorem dX8_yearNow_50 : decode cX8_yearNow 50 = .ok (.bipush 90, 2) := by decide +kernel
theorem dX8_yearNow_52 : decode cX8_yearNow 52 = .ok (.goto 4, 3) := by decide +kernel
theorem dX8_yearNow_55 : decode cX8_yearNow 55 = .ok (.iload_n 2, 1) := by decide +kernel
theorem dX8_yearNow_56 : decode cX8_yearNow 56 = .ok (.iastore, 1) := by decide +kernel
theorem dX8_yearNow_57 : decode cX8_yearNow 57 = .ok (.aload_n 0, 1) := by decide +kernel
theorem dX8_yearNow_58 : decode cX8_yearNow 58 = .ok (.getfield 31, 3) := by decide +kernel
theorem dX8_yearNow_61 : decode cX8_yearNow 61 = .ok (.iload_n 1, 1) := by decide +kernel
theorem dX8_yearNow_62 : decode cX8_yearNow 62 = .ok (.dup2, 1) := by decide +kernel
theorem dX8_yearNow_63 : decode cX8_yearNow 63 = .ok (.iaload, 1) := by decide +kernel
theorem dX8_yearNow_64 : decode cX8_yearNow 64 = .ok (.iconst 1, 1) := by decide +kernel
theorem dX8_yearNow_65 : decode cX8_yearNow 65 = .ok (.iadd, 1) := by decide +kernel
theorem dX8_yearNow_66 : decode cX8_yearNow 66 = .ok (.iastore, 1) := by decide +kernel
theorem dX8_yearNow_67 : decode cX8_yearNow 67 = .ok (.iinc 1 1, 3) := by decide +kernel
theorem dX8_yearNow_70 : decode cX8_yearNow 70 = .ok (.goto (-68), 3) := by decide +kernel
theorem dX8_yearNow_73 : decode cX8_yearNow 73 = .ok (.return_, 1) := by decide +kernel
theorem dX8_faultRooms_0 : decode cX8_faultRooms 0 = .ok (.iconst 0, 1) := by decide +kernel
theorem dX8_faultRooms_1 : decode cX8_faultRooms 1 = .ok (.istore_n 1, 1) := by decide +kernel
theorem dX8_faultRooms_2 : decode cX8_faultRooms 2 = .ok (.iconst 0, 1) := by decide +kernel
theorem dX8_faultRooms_3 : decode cX8_faultRooms 3 = .ok (.istore_n 2, 1) := by decide +kernel
theorem dX8_faultRooms_4 : decode cX8_faultRooms 4 = .ok (.iload_n 2, 1) := by decide +kernel
theorem dX8_faultRooms_5 : decode cX8_faultRooms 5 = .ok (.aload_n 0, 1) := by decide +kernel
theorem dX8_faultRooms_6 : decode cX8_faultRooms 6 = .ok (.getfield 120, 3) := by decide +kernel
theorem dX8_faultRooms_9 : decode cX8_faultRooms 9 = .ok (.if_icmp .ge 27, 3) := by decide +kernel
theorem dX8_faultRooms_12 : decode cX8_faultRooms 12 = .ok (.iload_n 1, 1) := by decide +kernel
theorem dX8_faultRooms_13 : decode cX8_faultRooms 13 = .ok (.aload_n 0, 1) := by decide +kernel
theorem dX8_faultRooms_14 : decode cX8_faultRooms 14 = .ok (.iload_n 2, 1) := by decide +kernel
theorem dX8_faultRooms_15 : decode cX8_faultRooms 15 = .ok (.invokevirtual 276, 3) := by decide +kernel
theorem dX8_faultRooms_18 : decode cX8_faultRooms 18 = .ok (.ifCond .lt 9, 3) := by decide +kernel
theorem dX8_faultRooms_21 : decode cX8_faultRooms 21 = .ok (.iconst 1, 1) := by decide +kernel
theorem dX8_faultRooms_22 : decode cX8_faultRooms 22 = .ok (.iload_n 2, 1) := by decide +kernel
theorem dX8_faultRooms_23 : decode cX8_faultRooms 23 = .ok (.ishl, 1) := by decide +kernel
theorem dX8_faultRooms_24 : decode cX8_faultRooms 24 = .ok (.goto 4, 3) := by decide +kernel
theorem dX8_faultRooms_27 : decode cX8_faultRooms 27 = .ok (.iconst 0, 1) := by decide +kernel
theorem dX8_faultRooms_28 : decode cX8_faultRooms 28 = .ok (.ior, 1) := by decide +kernel
theorem dX8_faultRooms_29 : decode cX8_faultRooms 29 = .ok (.istore_n 1, 1) := by decide +kernel
theorem dX8_faultRooms_30 : decode cX8_faultRooms 30 = .ok (.iinc 2 1, 3) := by decide +kernel
theorem dX8_faultRooms_33 : decode cX8_faultRooms 33 = .ok (.goto (-29), 3) := by decide +kernel
theorem dX8_faultRooms_36 : decode cX8_faultRooms 36 = .ok (.iload_n 1, 1) := by decide +kernel
theorem dX8_faultRooms_37 : decode cX8_faultRooms 37 = .ok (.ireturn, 1) := by decide +kernel
theorem dX8_year_0 : decode cX8_year 0 = .ok (.iload_n 1, 1) := by decide +kernel
theorem dX8_year_1 : decode cX8_year 1 = .ok (.i2l, 1) := by decide +kernel
theorem dX8_year_2 : decode cX8_year 2 = .ok (.lconst 1, 1) := by decide +kernel
theorem dX8_year_3 : decode cX8_year 3 = .ok (.ldc2_w 289, 3) := by decide +kernel
theorem dX8_year_6 : decode cX8_year 6 = .ok (.invokestatic 123, 3) := by decide +kernel
theorem dX8_year_9 : decode cX8_year 9 = .ok (.ifCond .ne 6, 3) := by decide +kernel
theorem dX8_year_12 : decode cX8_year 12 = .ok (.ldc 136, 2) := by decide +kernel
theorem dX8_year_14 : decode cX8_year 14 = .ok (.ireturn, 1) := by decide +kernel
theorem dX8_year_15 : decode cX8_year 15 = .ok (.iconst 0, 1) := by decide +kernel
theorem dX8_year_16 : decode cX8_year 16 = .ok (.istore_n 2, 1) := by decide +kernel
theorem dX8_year_17 : decode cX8_year 17 = .ok (.iload_n 2, 1) := by decide +kernel
theorem dX8_year_18 : decode cX8_year 18 = .ok (.iload_n 1, 1) := by decide +kernel
theorem dX8_year_19 : decode cX8_year 19 = .ok (.if_icmp .ge 13, 3) := by decide +kernel
theorem dX8_year_22 : decode cX8_year 22 = .ok (.aload_n 0, 1) := by decide +kernel
theorem dX8_year_23 : decode cX8_year 23 = .ok (.invokevirtual 291, 3) := by decide +kernel
theorem dX8_year_26 : decode cX8_year 26 = .ok (.iinc 2 1, 3) := by decide +kernel
theorem dX8_year_29 : decode cX8_year 29 = .ok (.goto (-12), 3) := by decide +kernel
theorem dX8_year_32 : decode cX8_year 32 = .ok (.aload_n 0, 1) := by decide +kernel
theorem dX8_year_33 : decode cX8_year 33 = .ok (.invokevirtual 294, 3) := by decide +kernel
theorem dX8_year_36 : decode cX8_year 36 = .ok (.ireturn, 1) := by decide +kernel
theorem dX8_lowestFree_0 : decode cX8_lowestFree 0 = .ok (.iconst (-1), 1) := by decide +kernel
theorem dX8_lowestFree_1 : decode cX8_lowestFree 1 = .ok (.istore_n 2, 1) := by decide +kernel
theorem dX8_lowestFree_2 : decode cX8_lowestFree 2 = .ok (.iconst 0, 1) := by decide +kernel
theorem dX8_lowestFree_3 : decode cX8_lowestFree 3 = .ok (.istore_n 3, 1) := by decide +kernel
theorem dX8_lowestFree_4 : decode cX8_lowestFree 4 = .ok (.iload_n 3, 1) := by decide +kernel
theorem dX8_lowestFree_5 : decode cX8_lowestFree 5 = .ok (.aload_n 0, 1) := by decide +kernel
theorem dX8_lowestFree_6 : decode cX8_lowestFree 6 = .ok (.getfield 7, 3) := by decide +kernel
theorem dX8_lowestFree_9 : decode cX8_lowestFree 9 = .ok (.iload_n 1, 1) := by decide +kernel
theorem dX8_lowestFree_10 : decode cX8_lowestFree 10 = .ok (.iaload, 1) := by decide +kernel
theorem dX8_lowestFree_11 : decode cX8_lowestFree 11 = .ok (.if_icmp .ge 65, 3) := by decide +kernel
theorem dX8_lowestFree_14 : decode cX8_lowestFree 14 = .ok (.iload_n 2, 1) := by decide +kernel
theorem dX8_lowestFree_15 : decode cX8_lowestFree 15 = .ok (.ifCond .lt 28, 3) := by decide +kernel
theorem dX8_lowestFree_18 : decode cX8_lowestFree 18 = .ok (.aload_n 0, 1) := by decide +kernel
theorem dX8_lowestFree_19 : decode cX8_lowestFree 19 = .ok (.getfield 13, 3) := by decide +kernel
theorem dX8_lowestFree_22 : decode cX8_lowestFree 22 = .ok (.bipush 6, 2) := by decide +kernel
theorem dX8_lowestFree_24 : decode cX8_lowestFree 24 = .ok (.iload_n 1, 1) := by decide +kernel
theorem dX8_lowestFree_25 : decode cX8_lowestFree 25 = .ok (.imul, 1) := by decide +kernel
theorem dX8_lowestFree_26 : decode cX8_lowestFree 26 = .ok (.iload_n 3, 1) := by decide +kernel
theorem dX8_lowestFree_27 : decode cX8_lowestFree 27 = .ok (.iadd, 1) := by decide +kernel
theorem dX8_lowestFree_28 : decode cX8_lowestFree 28 = .ok (.iaload, 1) := by decide +kernel
theorem dX8_lowestFree_29 : decode cX8_lowestFree 29 = .ok (.aload_n 0, 1) := by decide +kernel
theorem dX8_lowestFree_30 : decode cX8_lowestFree 30 = .ok (.getfield 13, 3) := by decide +kernel
theorem dX8_lowestFree_33 : decode cX8_lowestFree 33 = .ok (.bipush 6, 2) := by decide +kernel
theorem dX8_lowestFree_35 : decode cX8_lowestFree 35 = .ok (.iload_n 1, 1) := by decide +kernel
theorem dX8_lowestFree_36 : decode cX8_lowestFree 36 = .ok (.imul, 1) := by decide +kernel
theorem dX8_lowestFree_37 : decode cX8_lowestFree 37 = .ok (.iload_n 2, 1) := by decide +kernel
theorem dX8_lowestFree_38 : decode cX8_lowestFree 38 = .ok (.iadd, 1) := by decide +kernel
theorem dX8_lowestFree_39 : decode cX8_lowestFree 39 = .ok (.iaload, 1) := by decide +kernel
theorem dX8_lowestFree_40 : decode cX8_lowestFree 40 = .ok (.if_icmp .ge 7, 3) := by decide +kernel
theorem dX8_lowestFree_43 : decode cX8_lowestFree 43 = .ok (.iconst 1, 1) := by decide +kernel
theorem dX8_lowestFree_44 : decode cX8_lowestFree 44 = .ok (.goto 4, 3) := by decide +kernel
theorem dX8_lowestFree_47 : decode cX8_lowestFree 47 = .ok (.iconst 0, 1) := by decide +kernel
theorem dX8_lowestFree_48 : decode cX8_lowestFree 48 = .ok (.istore 4, 2) := by decide +kernel
theorem dX8_lowestFree_50 : decode cX8_lowestFree 50 = .ok (.aload_n 0, 1) := by decide +kernel
theorem dX8_lowestFree_51 : decode cX8_lowestFree 51 = .ok (.iload_n 1, 1) := by decide +kernel
theorem dX8_lowestFree_52 : decode cX8_lowestFree 52 = .ok (.iload_n 3, 1) := by decide +kernel
theorem dX8_lowestFree_53 : decode cX8_lowestFree 53 = .ok (.invokevirtual 241, 3) := by decide +kernel
theorem dX8_lowestFree_56 : decode cX8_lowestFree 56 = .ok (.ifCond .ge 12, 3) := by decide +kernel
theorem dX8_lowestFree_59 : decode cX8_lowestFree 59 = .ok (.iload 4, 2) := by decide +kernel
theorem dX8_lowestFree_61 : decode cX8_lowestFree 61 = .ok (.ifCond .eq 7, 3) := by decide +kernel
theorem dX8_lowestFree_64 : decode cX8_lowestFree 64 = .ok (.iload_n 3, 1) := by decide +kernel
theorem dX8_lowestFree_65 : decode cX8_lowestFree 65 = .ok (.goto 4, 3) := by decide +kernel
theorem dX8_lowestFree_68 : decode cX8_lowestFree 68 = .ok (.iload_n 2, 1) := by decide +kernel
theorem dX8_lowestFree_69 : decode cX8_lowestFree 69 = .ok (.istore_n 2, 1) := by decide +kernel
theorem dX8_lowestFree_70 : decode cX8_lowestFree 70 = .ok (.iinc 3 1, 3) := by decide +kernel
theorem dX8_lowestFree_73 : decode cX8_lowestFree 73 = .ok (.goto (-69), 3) := by decide +kernel
theorem dX8_lowestFree_76 : decode cX8_lowestFree 76 = .ok (.iload_n 2, 1) := by decide +kernel
theorem dX8_lowestFree_77 : decode cX8_lowestFree 77 = .ok (.ireturn, 1) := by decide +kernel
theorem dX8_comeNow_0 : decode cX8_comeNow 0 = .ok (.aload_n 0, 1) := by decide +kernel
theorem dX8_comeNow_1 : decode cX8_comeNow 1 = .ok (.getfield 37, 3) := by decide +kernel
theorem dX8_comeNow_4 : decode cX8_comeNow 4 = .ok (.iload_n 1, 1) := by decide +kernel
theorem dX8_comeNow_5 : decode cX8_comeNow 5 = .ok (.iload_n 2, 1) := by decide +kernel
theorem dX8_comeNow_6 : decode cX8_comeNow 6 = .ok (.iastore, 1) := by decide +kernel
theorem dX8_comeNow_7 : decode cX8_comeNow 7 = .ok (.aload_n 0, 1) := by decide +kernel
theorem dX8_comeNow_8 : decode cX8_comeNow 8 = .ok (.getfield 40, 3) := by decide +kernel
theorem dX8_comeNow_11 : decode cX8_comeNow 11 = .ok (.iload_n 1, 1) := by decide +kernel
theorem dX8_comeNow_12 : decode cX8_comeNow 12 = .ok (.iload_n 3, 1) := by decide +kernel
theorem dX8_comeNow_13 : decode cX8_comeNow 13 = .ok (.iastore, 1) := by decide +kernel
theorem dX8_comeNow_14 : decode cX8_comeNow 14 = .ok (.iconst 0, 1) := by decide +kernel
theorem dX8_comeNow_15 : decode cX8_comeNow 15 = .ok (.istore 4, 2) := by decide +kernel
theorem dX8_comeNow_17 : decode cX8_comeNow 17 = .ok (.iconst 1, 1) := by decide +kernel
theorem dX8_comeNow_18 : decode cX8_comeNow 18 = .ok (.istore 5, 2) := by decide +kernel
theorem dX8_comeNow_20 : decode cX8_comeNow 20 = .ok (.iload 5, 2) := by decide +kernel
theorem dX8_comeNow_22 : decode cX8_comeNow 22 = .ok (.ifCond .eq 117, 3) := by decide +kernel
theorem dX8_comeNow_25 : decode cX8_comeNow 25 = .ok (.aload_n 0, 1) := by decide +kernel
theorem dX8_comeNow_26 : decode cX8_comeNow 26 = .ok (.iload_n 2, 1) := by decide +kernel
theorem dX8_comeNow_27 : decode cX8_comeNow 27 = .ok (.invokevirtual 260, 3) := by decide +kernel
theorem dX8_comeNow_30 : decode cX8_comeNow 30 = .ok (.istore 6, 2) := by decide +kernel
theorem dX8_comeNow_32 : decode cX8_comeNow 32 = .ok (.aload_n 0, 1) := by decide +kernel
theorem dX8_comeNow_33 : decode cX8_comeNow 33 = .ok (.iload 6, 2) := by decide +kernel
theorem dX8_comeNow_35 : decode cX8_comeNow 35 = .ok (.invokevirtual 280, 3) := by decide +kernel
theorem dX8_comeNow_38 : decode cX8_comeNow 38 = .ok (.aload_n 0, 1) := by decide +kernel
theorem dX8_comeNow_39 : decode cX8_comeNow 39 = .ok (.iload 6, 2) := by decide +kernel
theorem dX8_comeNow_41 : decode cX8_comeNow 41 = .ok (.invokevirtual 283, 3) := by decide +kernel
theorem dX8_comeNow_44 : decode cX8_comeNow 44 = .ok (.istore 7, 2) := by decide +kernel
theorem dX8_comeNow_46 : decode cX8_comeNow 46 = .ok (.iload 7, 2) := by decide +kernel
theorem dX8_comeNow_48 : decode cX8_comeNow 48 = .ok (.ifCond .eq 7, 3) := by decide +kernel
theorem dX8_comeNow_51 : decode cX8_comeNow 51 = .ok (.iconst 1, 1) := by decide +kernel
theorem dX8_comeNow_52 : decode cX8_comeNow 52 = .ok (.goto 4, 3) := by decide +kernel
theorem dX8_comeNow_55 : decode cX8_comeNow 55 = .ok (.iconst 0, 1) := by decide +kernel
theorem dX8_comeNow_56 : decode cX8_comeNow 56 = .ok (.istore 5, 2) := by decide +kernel
theorem dX8_comeNow_58 : decode cX8_comeNow 58 = .ok (.iload 5, 2) := by decide +kernel
theorem dX8_comeNow_60 : decode cX8_comeNow 60 = .ok (.ifCond .eq 76, 3) := by decide +kernel
theorem dX8_comeNow_63 : decode cX8_comeNow 63 = .ok (.aload_n 0, 1) := by decide +kernel
theorem dX8_comeNow_64 : decode cX8_comeNow 64 = .ok (.iload 7, 2) := by decide +kernel
theorem dX8_comeNow_66 : decode cX8_comeNow 66 = .ok (.invokevirtual 270, 3) := by decide +kernel
theorem dX8_comeNow_69 : decode cX8_comeNow 69 = .ok (.istore 8, 2) := by decide +kernel
theorem dX8_comeNow_71 : decode cX8_comeNow 71 = .ok (.aload_n 0, 1) := by decide +kernel
theorem dX8_comeNow_72 : decode cX8_comeNow 72 = .ok (.iload_n 2, 1) := by decide +kernel
theorem dX8_comeNow_73 : decode cX8_comeNow 73 = .ok (.invokevirtual 297, 3) := by decide +kernel
theorem dX8_comeNow_76 : decode cX8_comeNow 76 = .ok (.istore 9, 2) := by decide +kernel
theorem dX8_comeNow_78 : decode cX8_comeNow 78 = .ok (.iload 9, 2) := by decide +kernel
theorem dX8_comeNow_80 : decode cX8_comeNow 80 = .ok (.ifCond .lt 47, 3) := by decide +kernel
theorem dX8_comeNow_83 : decode cX8_comeNow 83 = .ok (.aload_n 0, 1) := by decide +kernel
theorem dX8_comeNow_84 : decode cX8_comeNow 84 = .ok (.getfield 13, 3) := by decide +kernel
theorem dX8_comeNow_87 : decode cX8_comeNow 87 = .ok (.bipush 6, 2) := by decide +kernel
theorem dX8_comeNow_89 : decode cX8_comeNow 89 = .ok (.iload_n 2, 1) := by decide +kernel
theorem dX8_comeNow_90 : decode cX8_comeNow 90 = .ok (.imul, 1) := by decide +kernel
theorem dX8_comeNow_91 : decode cX8_comeNow 91 = .ok (.iload 9, 2) := by decide +kernel
theorem dX8_comeNow_93 : decode cX8_comeNow 93 = .ok (.iadd, 1) := by decide +kernel
theorem dX8_comeNow_94 : decode cX8_comeNow 94 = .ok (.iaload, 1) := by decide +kernel
theorem dX8_comeNow_95 : decode cX8_comeNow 95 = .ok (.aload_n 0, 1) := by decide +kernel
theorem dX8_comeNow_96 : decode cX8_comeNow 96 = .ok (.getfield 13, 3) := by decide +kernel
theorem dX8_comeNow_99 : decode cX8_comeNow 99 = .ok (.bipush 6, 2) := by decide +kernel
theorem dX8_comeNow_101 : decode cX8_comeNow 101 = .ok (.iload_n 2, 1) := by decide +kernel
theorem dX8_comeNow_102 : decode cX8_comeNow 102 = .ok (.imul, 1) := by decide +kernel
theorem dX8_comeNow_103 : decode cX8_comeNow 103 = .ok (.aload_n 0, 1) := by decide +kernel
theorem dX8_comeNow_104 : decode cX8_comeNow 104 = .ok (.getfield 40, 3) := by decide +kernel
theorem dX8_comeNow_107 : decode cX8_comeNow 107 = .ok (.iload 8, 2) := by decide +kernel
theorem dX8_comeNow_109 : decode cX8_comeNow 109 = .ok (.iaload, 1) := by decide +kernel
theorem dX8_comeNow_110 : decode cX8_comeNow 110 = .ok (.iadd, 1) := by decide +kernel
theorem dX8_comeNow_111 : decode cX8_comeNow 111 = .ok (.iaload, 1) := by decide +kernel
theorem dX8_comeNow_112 : decode cX8_comeNow 112 = .ok (.if_icmp .ge 15, 3) := by decide +kernel
theorem dX8_comeNow_115 : decode cX8_comeNow 115 = .ok (.aload_n 0, 1) := by decide +kernel
theorem dX8_comeNow_116 : decode cX8_comeNow 116 = .ok (.getfield 40, 3) := by decide +kernel
theorem dX8_comeNow_119 : decode cX8_comeNow 119 = .ok (.iload 8, 2) := by decide +kernel
theorem dX8_comeNow_121 : decode cX8_comeNow 121 = .ok (.iload 9, 2) := by decide +kernel
theorem dX8_comeNow_123 : decode cX8_comeNow 123 = .ok (.iastore, 1) := by decide +kernel
theorem dX8_comeNow_124 : decode cX8_comeNow 124 = .ok (.goto 9, 3) := by decide +kernel
theorem dX8_comeNow_127 : decode cX8_comeNow 127 = .ok (.aload_n 0, 1) := by decide +kernel
theorem dX8_comeNow_128 : decode cX8_comeNow 128 = .ok (.iload 8, 2) := by decide +kernel
theorem dX8_comeNow_130 : decode cX8_comeNow 130 = .ok (.invokevirtual 263, 3) := by decide +kernel
theorem dX8_comeNow_133 : decode cX8_comeNow 133 = .ok (.iinc 4 1, 3) := by decide +kernel
theorem dX8_comeNow_136 : decode cX8_comeNow 136 = .ok (.goto (-116), 3) := by decide +kernel
theorem dX8_comeNow_139 : decode cX8_comeNow 139 = .ok (.aload_n 0, 1) := by decide +kernel
theorem dX8_comeNow_140 : decode cX8_comeNow 140 = .ok (.iload_n 2, 1) := by decide +kernel
theorem dX8_comeNow_141 : decode cX8_comeNow 141 = .ok (.invokevirtual 286, 3) := by decide +kernel
theorem dX8_comeNow_144 : decode cX8_comeNow 144 = .ok (.istore 6, 2) := by decide +kernel
theorem dX8_comeNow_146 : decode cX8_comeNow 146 = .ok (.iload 4, 2) := by decide +kernel
theorem dX8_comeNow_148 : decode cX8_comeNow 148 = .ok (.ireturn, 1) := by decide +kernel
theorem dX8_come_0 : decode cX8_come 0 = .ok (.aload_n 0, 1) := by decide +kernel
theorem dX8_come_1 : decode cX8_come 1 = .ok (.iload_n 1, 1) := by decide +kernel
theorem dX8_come_2 : decode cX8_come 2 = .ok (.invokevirtual 248, 3) := by decide +kernel
theorem dX8_come_5 : decode cX8_come 5 = .ok (.ifCond .eq 12, 3) := by decide +kernel
theorem dX8_come_8 : decode cX8_come 8 = .ok (.aload_n 0, 1) := by decide +kernel
theorem dX8_come_9 : decode cX8_come 9 = .ok (.iload_n 2, 1) := by decide +kernel
theorem dX8_come_10 : decode cX8_come 10 = .ok (.iload_n 3, 1) := by decide +kernel
theorem dX8_come_11 : decode cX8_come 11 = .ok (.invokevirtual 236, 3) := by decide +kernel
theorem dX8_come_14 : decode cX8_come 14 = .ok (.ifCond .ne 6, 3) := by decide +kernel
theorem dX8_come_17 : decode cX8_come 17 = .ok (.ldc 240, 2) := by decide +kernel
theorem dX8_come_19 : decode cX8_come 19 = .ok (.ireturn, 1) := by decide +kernel
theorem dX8_come_20 : decode cX8_come 20 = .ok (.aload_n 0, 1) := by decide +kernel
theorem dX8_come_21 : decode cX8_come 21 = .ok (.iload_n 1, 1) := by decide +kernel
theorem dX8_come_22 : decode cX8_come 22 = .ok (.iload_n 2, 1) := by decide +kernel
theorem dX8_come_23 : decode cX8_come 23 = .ok (.iload_n 3, 1) := by decide +kernel
theorem dX8_come_24 : decode cX8_come 24 = .ok (.invokevirtual 255, 3) := by decide +kernel
theorem dX8_come_27 : decode cX8_come 27 = .ok (.ifCond .eq 13, 3) := by decide +kernel
theorem dX8_come_30 : decode cX8_come 30 = .ok (.aload_n 0, 1) := by decide +kernel
theorem dX8_come_31 : decode cX8_come 31 = .ok (.iload_n 1, 1) := by decide +kernel
theorem dX8_come_32 : decode cX8_come 32 = .ok (.iload_n 2, 1) := by decide +kernel
theorem dX8_come_33 : decode cX8_come 33 = .ok (.iload_n 3, 1) := by decide +kernel
theorem dX8_come_34 : decode cX8_come 34 = .ok (.invokevirtual 300, 3) := by decide +kernel
theorem dX8_come_37 : decode cX8_come 37 = .ok (.goto 6, 3) := by decide +kernel
theorem dX8_come_40 : decode cX8_come 40 = .ok (.ldc_w 259, 3) := by decide +kernel
theorem dX8_come_43 : decode cX8_come 43 = .ok (.ireturn, 1) := by decide +kernel
theorem dX8_isParty_0 : decode cX8_isParty 0 = .ok (.iload_n 3, 1) := by decide +kernel
theorem dX8_isParty_1 : decode cX8_isParty 1 = .ok (.istore 4, 2) := by decide +kernel
theorem dX8_isParty_3 : decode cX8_isParty 3 = .ok (.iconst 0, 1) := by decide +kernel
theorem dX8_isParty_4 : decode cX8_isParty 4 = .ok (.istore 5, 2) := by decide +kernel
theorem dX8_isParty_6 : decode cX8_isParty 6 = .ok (.iconst 1, 1) := by decide +kernel
theorem dX8_isParty_7 : decode cX8_isParty 7 = .ok (.istore 6, 2) := by decide +kernel
theorem dX8_isParty_9 : decode cX8_isParty 9 = .ok (.aload_n 0, 1) := by decide +kernel
theorem dX8_isParty_10 : decode cX8_isParty 10 = .ok (.getfield 127, 3) := by decide +kernel
theorem dX8_isParty_13 : decode cX8_isParty 13 = .ok (.iconst 1, 1) := by decide +kernel
theorem dX8_isParty_14 : decode cX8_isParty 14 = .ok (.isub, 1) := by decide +kernel
theorem dX8_isParty_15 : decode cX8_isParty 15 = .ok (.istore 7, 2) := by decide +kernel
theorem dX8_isParty_17 : decode cX8_isParty 17 = .ok (.iload 7, 2) := by decide +kernel
theorem dX8_isParty_19 : decode cX8_isParty 19 = .ok (.ifCond .lt 86, 3) := by decide +kernel
theorem dX8_isParty_22 : decode cX8_isParty 22 = .ok (.iload_n 2, 1) := by decide +kernel
theorem dX8_isParty_23 : decode cX8_isParty 23 = .ok (.iload 7, 2) := by decide +kernel
theorem dX8_isParty_25 : decode cX8_isParty 25 = .ok (.invokestatic 267, 3) := by decide +kernel
theorem dX8_isParty_28 : decode cX8_isParty 28 = .ok (.ifCond .eq 71, 3) := by decide +kernel
theorem dX8_isParty_31 : decode cX8_isParty 31 = .ok (.aload_n 0, 1) := by decide +kernel
theorem dX8_isParty_32 : decode cX8_isParty 32 = .ok (.getfield 80, 3) := by decide +kernel
theorem dX8_isParty_35 : decode cX8_isParty 35 = .ok (.iload 7, 2) := by decide +kernel
theorem dX8_isParty_37 : decode cX8_isParty 37 = .ok (.iload 4, 2) := by decide +kernel
theorem dX8_isParty_39 : decode cX8_isParty 39 = .ok (.aload_n 0, 1) := by decide +kernel
theorem dX8_isParty_40 : decode cX8_isParty 40 = .ok (.getfield 7, 3) := by decide +kernel
theorem dX8_isParty_43 : decode cX8_isParty 43 = .ok (.iload_n 1, 1) := by decide +kernel
theorem dX8_isParty_44 : decode cX8_isParty 44 = .ok (.iaload, 1) := by decide +kernel
theorem dX8_isParty_45 : decode cX8_isParty 45 = .ok (.irem, 1) := by decide +kernel
theorem dX8_isParty_46 : decode cX8_isParty 46 = .ok (.iastore, 1) := by decide +kernel
theorem dX8_isParty_47 : decode cX8_isParty 47 = .ok (.iload 4, 2) := by decide +kernel
theorem dX8_isParty_49 : decode cX8_isParty 49 = .ok (.aload_n 0, 1) := by decide +kernel
theorem dX8_isParty_50 : decode cX8_isParty 50 = .ok (.getfield 7, 3) := by decide +kernel
theorem dX8_isParty_53 : decode cX8_isParty 53 = .ok (.iload_n 1, 1) := by decide +kernel
theorem dX8_isParty_54 : decode cX8_isParty 54 = .ok (.iaload, 1) := by decide +kernel
theorem dX8_isParty_55 : decode cX8_isParty 55 = .ok (.idiv, 1) := by decide +kernel
theorem dX8_isParty_56 : decode cX8_isParty 56 = .ok (.istore 4, 2) := by decide +kernel
theorem dX8_isParty_58 : decode cX8_isParty 58 = .ok (.iload 6, 2) := by decide +kernel
theorem dX8_isParty_60 : decode cX8_isParty 60 = .ok (.ifCond .eq 22, 3) := by decide +kernel
theorem dX8_isParty_63 : decode cX8_isParty 63 = .ok (.iload 5, 2) := by decide +kernel
theorem dX8_isParty_65 : decode cX8_isParty 65 = .ok (.aload_n 0, 1) := by decide +kernel
theorem dX8_isParty_66 : decode cX8_isParty 66 = .ok (.getfield 80, 3) := by decide +kernel
theorem dX8_isParty_69 : decode cX8_isParty 69 = .ok (.iload 7, 2) := by decide +kernel
theorem dX8_isParty_71 : decode cX8_isParty 71 = .ok (.iaload, 1) := by decide +kernel
theorem dX8_isParty_72 : decode cX8_isParty 72 = .ok (.invokestatic 267, 3) := by decide +kernel
theorem dX8_isParty_75 : decode cX8_isParty 75 = .ok (.ifCond .ne 7, 3) := by decide +kernel
theorem dX8_isParty_78 : decode cX8_isParty 78 = .ok (.iconst 1, 1) := by decide +kernel
theorem dX8_isParty_79 : decode cX8_isParty 79 = .ok (.goto 4, 3) := by decide +kernel
theorem dX8_isParty_82 : decode cX8_isParty 82 = .ok (.iconst 0, 1) := by decide +kernel
theorem dX8_isParty_83 : decode cX8_isParty 83 = .ok (.istore 6, 2) := by decide +kernel
theorem dX8_isParty_85 : decode cX8_isParty 85 = .ok (.iload 5, 2) := by decide +kernel
theorem dX8_isParty_87 : decode cX8_isParty 87 = .ok (.iconst 1, 1) := by decide +kernel
theorem dX8_isParty_88 : decode cX8_isParty 88 = .ok (.aload_n 0, 1) := by decide +kernel
theorem dX8_isParty_89 : decode cX8_isParty 89 = .ok (.getfield 80, 3) := by decide +kernel
theorem dX8_isParty_92 : decode cX8_isParty 92 = .ok (.iload 7, 2) := by decide +kernel
theorem dX8_isParty_94 : decode cX8_isParty 94 = .ok (.iaload, 1) := by decide +kernel
theorem dX8_isParty_95 : decode cX8_isParty 95 = .ok (.ishl, 1) := by decide +kernel
theorem dX8_isParty_96 : decode cX8_isParty 96 = .ok (.ior, 1) := by decide +kernel
theorem dX8_isParty_97 : decode cX8_isParty 97 = .ok (.istore 5, 2) := by decide +kernel
theorem dX8_isParty_99 : decode cX8_isParty 99 = .ok (.iinc 7 (-1), 3) := by decide +kernel
theorem dX8_isParty_102 : decode cX8_isParty 102 = .ok (.goto (-85), 3) := by decide +kernel
theorem dX8_isParty_105 : decode cX8_isParty 105 = .ok (.iload 6, 2) := by decide +kernel
theorem dX8_isParty_107 : decode cX8_isParty 107 = .ok (.ireturn, 1) := by decide +kernel
theorem dX8_partyOf_0 : decode cX8_partyOf 0 = .ok (.iload_n 2, 1) := by decide +kernel
theorem dX8_partyOf_1 : decode cX8_partyOf 1 = .ok (.invokestatic 303, 3) := by decide +kernel
theorem dX8_partyOf_4 : decode cX8_partyOf 4 = .ok (.istore_n 3, 1) := by decide +kernel
theorem dX8_partyOf_5 : decode cX8_partyOf 5 = .ok (.iload_n 3, 1) := by decide +kernel
theorem dX8_partyOf_6 : decode cX8_partyOf 6 = .ok (.aload_n 0, 1) := by decide +kernel
theorem dX8_partyOf_7 : decode cX8_partyOf 7 = .ok (.getfield 7, 3) := by decide +kernel
theorem dX8_partyOf_10 : decode cX8_partyOf 10 = .ok (.iload_n 1, 1) := by decide +kernel
theorem dX8_partyOf_11 : decode cX8_partyOf 11 = .ok (.iaload, 1) := by decide +kernel
theorem dX8_partyOf_12 : decode cX8_partyOf 12 = .ok (.if_icmp .le 7, 3) := by decide +kernel
theorem dX8_partyOf_15 : decode cX8_partyOf 15 = .ok (.ldc_w 279, 3) := by decide +kernel
theorem dX8_partyOf_18 : decode cX8_partyOf 18 = .ok (.ireturn, 1) := by decide +kernel
theorem dX8_partyOf_19 : decode cX8_partyOf 19 = .ok (.iconst 1, 1) := by decide +kernel
theorem dX8_partyOf_20 : decode cX8_partyOf 20 = .ok (.istore 4, 2) := by decide +kernel
theorem dX8_partyOf_22 : decode cX8_partyOf 22 = .ok (.iconst 0, 1) := by decide +kernel
theorem dX8_partyOf_23 : decode cX8_partyOf 23 = .ok (.istore 5, 2) := by decide +kernel
theorem dX8_partyOf_25 : decode cX8_partyOf 25 = .ok (.iload 5, 2) := by decide +kernel
theorem dX8_partyOf_27 : decode cX8_partyOf 27 = .ok (.iload_n 3, 1) := by decide +kernel
theorem dX8_partyOf_28 : decode cX8_partyOf 28 = .ok (.if_icmp .ge 20, 3) := by decide +kernel
theorem dX8_partyOf_31 : decode cX8_partyOf 31 = .ok (.iload 4, 2) := by decide +kernel
theorem dX8_partyOf_33 : decode cX8_partyOf 33 = .ok (.aload_n 0, 1) := by decide +kernel
theorem dX8_partyOf_34 : decode cX8_partyOf 34 = .ok (.getfield 7, 3) := by decide +kernel
theorem dX8_partyOf_37 : decode cX8_partyOf 37 = .ok (.iload_n 1, 1) := by decide +kernel
theorem dX8_partyOf_38 : decode cX8_partyOf 38 = .ok (.iaload, 1) := by decide +kernel
theorem dX8_partyOf_39 : decode cX8_partyOf 39 = .ok (.imul, 1) := by decide +kernel
theorem dX8_partyOf_40 : decode cX8_partyOf 40 = .ok (.istore 4, 2) := by decide +kernel
theorem dX8_partyOf_42 : decode cX8_partyOf 42 = .ok (.iinc 5 1, 3) := by decide +kernel
theorem dX8_partyOf_45 : decode cX8_partyOf 45 = .ok (.goto (-20), 3) := by decide +kernel
theorem dX8_partyOf_48 : decode cX8_partyOf 48 = .ok (.ldc_w 279, 3) := by decide +kernel
theorem dX8_partyOf_51 : decode cX8_partyOf 51 = .ok (.istore 5, 2) := by decide +kernel
theorem dX8_partyOf_53 : decode cX8_partyOf 53 = .ok (.iconst 0, 1) := by decide +kernel
theorem dX8_partyOf_54 : decode cX8_partyOf 54 = .ok (.istore 6, 2) := by decide +kernel
theorem dX8_partyOf_56 : decode cX8_partyOf 56 = .ok (.iload 6, 2) := by decide +kernel
theorem dX8_partyOf_58 : decode cX8_partyOf 58 = .ok (.iload 4, 2) := by decide +kernel
theorem dX8_partyOf_60 : decode cX8_partyOf 60 = .ok (.if_icmp .ge 134, 3) := by decide +kernel
theorem dX8_partyOf_63 : decode cX8_partyOf 63 = .ok (.aload_n 0, 1) := by decide +kernel
theorem dX8_partyOf_64 : decode cX8_partyOf 64 = .ok (.iload_n 1, 1) := by decide +kernel
theorem dX8_partyOf_65 : decode cX8_partyOf 65 = .ok (.iload_n 2, 1) := by decide +kernel
theorem dX8_partyOf_66 : decode cX8_partyOf 66 = .ok (.iload 6, 2) := by decide +kernel
theorem dX8_partyOf_68 : decode cX8_partyOf 68 = .ok (.invokevirtual 306, 3) := by decide +kernel
theorem dX8_partyOf_71 : decode cX8_partyOf 71 = .ok (.ifCond .eq 117, 3) := by decide +kernel
theorem dX8_partyOf_74 : decode cX8_partyOf 74 = .ok (.iconst 0, 1) := by decide +kernel
theorem dX8_partyOf_75 : decode cX8_partyOf 75 = .ok (.istore 7, 2) := by decide +kernel
theorem dX8_partyOf_77 : decode cX8_partyOf 77 = .ok (.iload 7, 2) := by decide +kernel
theorem dX8_partyOf_79 : decode cX8_partyOf 79 = .ok (.aload_n 0, 1) := by decide +kernel
theorem dX8_partyOf_80 : decode cX8_partyOf 80 = .ok (.getfield 127, 3) := by decide +kernel
theorem dX8_partyOf_83 : decode cX8_partyOf 83 = .ok (.if_icmp .ge 43, 3) := by decide +kernel
theorem dX8_partyOf_86 : decode cX8_partyOf 86 = .ok (.aload_n 0, 1) := by decide +kernel
theorem dX8_partyOf_87 : decode cX8_partyOf 87 = .ok (.getfield 74, 3) := by decide +kernel
theorem dX8_partyOf_90 : decode cX8_partyOf 90 = .ok (.iload 7, 2) := by decide +kernel
theorem dX8_partyOf_92 : decode cX8_partyOf 92 = .ok (.iload_n 2, 1) := by decide +kernel
theorem dX8_partyOf_93 : decode cX8_partyOf 93 = .ok (.iload 7, 2) := by decide +kernel
theorem dX8_partyOf_95 : decode cX8_partyOf 95 = .ok (.invokestatic 267, 3) := by decide +kernel
theorem dX8_partyOf_98 : decode cX8_partyOf 98 = .ok (.ifCond .eq 20, 3) := by decide +kernel
theorem dX8_partyOf_101 : decode cX8_partyOf 101 = .ok (.aload_n 0, 1) := by decide +kernel
theorem dX8_partyOf_102 : decode cX8_partyOf 102 = .ok (.iload 7, 2) := by decide +kernel
theorem dX8_partyOf_104 : decode cX8_partyOf 104 = .ok (.iload_n 1, 1) := by decide +kernel
theorem dX8_partyOf_105 : decode cX8_partyOf 105 = .ok (.aload_n 0, 1) := by decide +kernel
theorem dX8_partyOf_106 : decode cX8_partyOf 106 = .ok (.getfield 80, 3) := by decide +kernel
theorem dX8_partyOf_109 : decode cX8_partyOf 109 = .ok (.iload 7, 2) := by decide +kernel
theorem dX8_partyOf_111 : decode cX8_partyOf 111 = .ok (.iaload, 1) := by decide +kernel
theorem dX8_partyOf_112 : decode cX8_partyOf 112 = .ok (.invokevirtual 244, 3) := by decide +kernel
theorem dX8_partyOf_115 : decode cX8_partyOf 115 = .ok (.goto 4, 3) := by decide +kernel
theorem dX8_partyOf_118 : decode cX8_partyOf 118 = .ok (.iconst 0, 1) := by decide +kernel
theorem dX8_partyOf_119 : decode cX8_partyOf 119 = .ok (.iastore, 1) := by decide +kernel
theorem dX8_partyOf_120 : decode cX8_partyOf 120 = .ok (.iinc 7 1, 3) := by decide +kernel
theorem dX8_partyOf_123 : decode cX8_partyOf 123 = .ok (.goto (-46), 3) := by decide +kernel
theorem dX8_partyOf_126 : decode cX8_partyOf 126 = .ok (.aload_n 0, 1) := by decide +kernel
theorem dX8_partyOf_127 : decode cX8_partyOf 127 = .ok (.iload_n 2, 1) := by decide +kernel
theorem dX8_partyOf_128 : decode cX8_partyOf 128 = .ok (.invokevirtual 283, 3) := by decide +kernel
theorem dX8_partyOf_131 : decode cX8_partyOf 131 = .ok (.ifCond .eq 9, 3) := by decide +kernel
theorem dX8_partyOf_134 : decode cX8_partyOf 134 = .ok (.ldc_w 279, 3) := by decide +kernel
theorem dX8_partyOf_137 : decode cX8_partyOf 137 = .ok (.goto 8, 3) := by decide +kernel
theorem dX8_partyOf_140 : decode cX8_partyOf 140 = .ok (.aload_n 0, 1) := by decide +kernel
theorem dX8_partyOf_141 : decode cX8_partyOf 141 = .ok (.iload_n 2, 1) := by decide +kernel
theorem dX8_partyOf_142 : decode cX8_partyOf 142 = .ok (.invokevirtual 309, 3) := by decide +kernel
theorem dX8_partyOf_145 : decode cX8_partyOf 145 = .ok (.istore 7, 2) := by decide +kernel
theorem dX8_partyOf_147 : decode cX8_partyOf 147 = .ok (.iload 7, 2) := by decide +kernel
theorem dX8_partyOf_149 : decode cX8_partyOf 149 = .ok (.iload 5, 2) := by decide +kernel
theorem dX8_partyOf_151 : decode cX8_partyOf 151 = .ok (.if_icmp .ge 37, 3) := by decide +kernel
theorem dX8_partyOf_154 : decode cX8_partyOf 154 = .ok (.iload 7, 2) := by decide +kernel
theorem dX8_partyOf_156 : decode cX8_partyOf 156 = .ok (.istore 5, 2) := by decide +kernel
theorem dX8_partyOf_158 : decode cX8_partyOf 158 = .ok (.iconst 0, 1) := by decide +kernel
theorem dX8_partyOf_159 : decode cX8_partyOf 159 = .ok (.istore 8, 2) := by decide +kernel
theorem dX8_partyOf_161 : decode cX8_partyOf 161 = .ok (.iload 8, 2) := by decide +kernel
theorem dX8_partyOf_163 : decode cX8_partyOf 163 = .ok (.bipush 6, 2) := by decide +kernel
theorem dX8_partyOf_165 : decode cX8_partyOf 165 = .ok (.if_icmp .ge 23, 3) := by decide +kernel
theorem dX8_partyOf_168 : decode cX8_partyOf 168 = .ok (.aload_n 0, 1) := by decide +kernel
theorem dX8_partyOf_169 : decode cX8_partyOf 169 = .ok (.getfield 83, 3) := by decide +kernel
theorem dX8_partyOf_172 : decode cX8_partyOf 172 = .ok (.iload 8, 2) := by decide +kernel
theorem dX8_partyOf_174 : decode cX8_partyOf 174 = .ok (.aload_n 0, 1) := by decide +kernel
theorem dX8_partyOf_175 : decode cX8_partyOf 175 = .ok (.getfield 80, 3) := by decide +kernel
theorem dX8_partyOf_178 : decode cX8_partyOf 178 = .ok (.iload 8, 2) := by decide +kernel
theorem dX8_partyOf_180 : decode cX8_partyOf 180 = .ok (.iaload, 1) := by decide +kernel
theorem dX8_partyOf_181 : decode cX8_partyOf 181 = .ok (.iastore, 1) := by decide +kernel
theorem dX8_partyOf_182 : decode cX8_partyOf 182 = .ok (.iinc 8 1, 3) := by decide +kernel
theorem dX8_partyOf_185 : decode cX8_partyOf 185 = .ok (.goto (-24), 3) := by decide +kernel
theorem dX8_partyOf_188 : decode cX8_partyOf 188 = .ok (.iinc 6 1, 3) := by decide +kernel
theorem dX8_partyOf_191 : decode cX8_partyOf 191 = .ok (.goto (-135), 3) := by decide +kernel
theorem dX8_partyOf_194 : decode cX8_partyOf 194 = .ok (.iload 5, 2) := by decide +kernel
theorem dX8_partyOf_196 : decode cX8_partyOf 196 = .ok (.ireturn, 1) := by decide +kernel
theorem dX8_bowsOf_0 : decode cX8_bowsOf 0 = .ok (.iconst 0, 1) := by decide +kernel
theorem dX8_bowsOf_1 : decode cX8_bowsOf 1 = .ok (.istore_n 2, 1) := by decide +kernel
theorem dX8_bowsOf_2 : decode cX8_bowsOf 2 = .ok (.iconst 0, 1) := by decide +kernel
theorem dX8_bowsOf_3 : decode cX8_bowsOf 3 = .ok (.istore_n 3, 1) := by decide +kernel
theorem dX8_bowsOf_4 : decode cX8_bowsOf 4 = .ok (.iload_n 3, 1) := by decide +kernel
theorem dX8_bowsOf_5 : decode cX8_bowsOf 5 = .ok (.aload_n 0, 1) := by decide +kernel
theorem dX8_bowsOf_6 : decode cX8_bowsOf 6 = .ok (.getfield 127, 3) := by decide +kernel
theorem dX8_bowsOf_9 : decode cX8_bowsOf 9 = .ok (.if_icmp .ge 30, 3) := by decide +kernel
theorem dX8_bowsOf_12 : decode cX8_bowsOf 12 = .ok (.iload_n 2, 1) := by decide +kernel
theorem dX8_bowsOf_13 : decode cX8_bowsOf 13 = .ok (.iload_n 1, 1) := by decide +kernel
theorem dX8_bowsOf_14 : decode cX8_bowsOf 14 = .ok (.iload_n 3, 1) := by decide +kernel
theorem dX8_bowsOf_15 : decode cX8_bowsOf 15 = .ok (.invokestatic 267, 3) := by decide +kernel
theorem dX8_bowsOf_18 : decode cX8_bowsOf 18 = .ok (.ifCond .eq 12, 3) := by decide +kernel
theorem dX8_bowsOf_21 : decode cX8_bowsOf 21 = .ok (.aload_n 0, 1) := by decide +kernel
theorem dX8_bowsOf_22 : decode cX8_bowsOf 22 = .ok (.getfield 77, 3) := by decide +kernel
theorem dX8_bowsOf_25 : decode cX8_bowsOf 25 = .ok (.iload_n 3, 1) := by decide +kernel
theorem dX8_bowsOf_26 : decode cX8_bowsOf 26 = .ok (.iaload, 1) := by decide +kernel
theorem dX8_bowsOf_27 : decode cX8_bowsOf 27 = .ok (.goto 4, 3) := by decide +kernel
theorem dX8_bowsOf_30 : decode cX8_bowsOf 30 = .ok (.iconst 0, 1) := by decide +kernel
theorem dX8_bowsOf_31 : decode cX8_bowsOf 31 = .ok (.iadd, 1) := by decide +kernel
theorem dX8_bowsOf_32 : decode cX8_bowsOf 32 = .ok (.istore_n 2, 1) := by decide +kernel
theorem dX8_bowsOf_33 : decode cX8_bowsOf 33 = .ok (.iinc 3 1, 3) := by decide +kernel
theorem dX8_bowsOf_36 : decode cX8_bowsOf 36 = .ok (.goto (-32), 3) := by decide +kernel
theorem dX8_bowsOf_39 : decode cX8_bowsOf 39 = .ok (.iload_n 2, 1) := by decide +kernel
theorem dX8_bowsOf_40 : decode cX8_bowsOf 40 = .ok (.ireturn, 1) := by decide +kernel
theorem dX8_party_0 : decode cX8_party 0 = .ok (.aload_n 0, 1) := by decide +kernel
theorem dX8_party_1 : decode cX8_party 1 = .ok (.iload_n 1, 1) := by decide +kernel
theorem dX8_party_2 : decode cX8_party 2 = .ok (.invokevirtual 130, 3) := by decide +kernel
theorem dX8_party_5 : decode cX8_party 5 = .ok (.ifCond .eq 24, 3) := by decide +kernel
theorem dX8_party_8 : decode cX8_party 8 = .ok (.aload_n 0, 1) := by decide +kernel
theorem dX8_party_9 : decode cX8_party 9 = .ok (.iload_n 2, 1) := by decide +kernel
theorem dX8_party_10 : decode cX8_party 10 = .ok (.invokevirtual 312, 3) := by decide +kernel
theorem dX8_party_13 : decode cX8_party 13 = .ok (.ifCond .eq 16, 3) := by decide +kernel
theorem dX8_party_16 : decode cX8_party 16 = .ok (.iload_n 3, 1) := by decide +kernel
theorem dX8_party_17 : decode cX8_party 17 = .ok (.iconst (-1), 1) := by decide +kernel
theorem dX8_party_18 : decode cX8_party 18 = .ok (.if_icmp .eq 14, 3) := by decide +kernel
theorem dX8_party_21 : decode cX8_party 21 = .ok (.aload_n 0, 1) := by decide +kernel
theorem dX8_party_22 : decode cX8_party 22 = .ok (.iload_n 3, 1) := by decide +kernel
theorem dX8_party_23 : decode cX8_party 23 = .ok (.invokevirtual 248, 3) := by decide +kernel
theorem dX8_party_26 : decode cX8_party 26 = .ok (.ifCond .ne 6, 3) := by decide +kernel
theorem dX8_party_29 : decode cX8_party 29 = .ok (.ldc 240, 2) := by decide +kernel
theorem dX8_party_31 : decode cX8_party 31 = .ok (.ireturn, 1) := by decide +kernel
theorem dX8_party_32 : decode cX8_party 32 = .ok (.aload_n 0, 1) := by decide +kernel
theorem dX8_party_33 : decode cX8_party 33 = .ok (.iload_n 1, 1) := by decide +kernel
theorem dX8_party_34 : decode cX8_party 34 = .ok (.iload_n 2, 1) := by decide +kernel
theorem dX8_party_35 : decode cX8_party 35 = .ok (.invokevirtual 315, 3) := by decide +kernel
theorem dX8_party_38 : decode cX8_party 38 = .ok (.istore 4, 2) := by decide +kernel
theorem dX8_party_40 : decode cX8_party 40 = .ok (.iload 4, 2) := by decide +kernel
theorem dX8_party_42 : decode cX8_party 42 = .ok (.ldc_w 279, 3) := by decide +kernel
theorem dX8_party_45 : decode cX8_party 45 = .ok (.if_icmp .ge 8, 3) := by decide +kernel
theorem dX8_party_48 : decode cX8_party 48 = .ok (.iload_n 3, 1) := by decide +kernel
theorem dX8_party_49 : decode cX8_party 49 = .ok (.iconst (-1), 1) := by decide +kernel
theorem dX8_party_50 : decode cX8_party 50 = .ok (.if_icmp .ne 18, 3) := by decide +kernel
theorem dX8_party_53 : decode cX8_party 53 = .ok (.iload 4, 2) := by decide +kernel
theorem dX8_party_55 : decode cX8_party 55 = .ok (.ldc_w 279, 3) := by decide +kernel
theorem dX8_party_58 : decode cX8_party 58 = .ok (.if_icmp .lt 7, 3) := by decide +kernel
theorem dX8_party_61 : decode cX8_party 61 = .ok (.iconst (-1), 1) := by decide +kernel
theorem dX8_party_62 : decode cX8_party 62 = .ok (.goto 5, 3) := by decide +kernel
theorem dX8_party_65 : decode cX8_party 65 = .ok (.iload 4, 2) := by decide +kernel
theorem dX8_party_67 : decode cX8_party 67 = .ok (.ireturn, 1) := by decide +kernel
theorem dX8_party_68 : decode cX8_party 68 = .ok (.iload_n 2, 1) := by decide +kernel
theorem dX8_party_69 : decode cX8_party 69 = .ok (.iload_n 3, 1) := by decide +kernel
theorem dX8_party_70 : decode cX8_party 70 = .ok (.invokestatic 267, 3) := by decide +kernel
theorem dX8_party_73 : decode cX8_party 73 = .ok (.ifCond .eq 12, 3) := by decide +kernel
theorem dX8_party_76 : decode cX8_party 76 = .ok (.aload_n 0, 1) := by decide +kernel
theorem dX8_party_77 : decode cX8_party 77 = .ok (.getfield 83, 3) := by decide +kernel
theorem dX8_party_80 : decode cX8_party 80 = .ok (.iload_n 3, 1) := by decide +kernel
theorem dX8_party_81 : decode cX8_party 81 = .ok (.iaload, 1) := by decide +kernel
theorem dX8_party_82 : decode cX8_party 82 = .ok (.goto 4, 3) := by decide +kernel
theorem dX8_party_85 : decode cX8_party 85 = .ok (.iconst (-1), 1) := by decide +kernel
theorem dX8_party_86 : decode cX8_party 86 = .ok (.ireturn, 1) := by decide +kernel
theorem dX8_deal_0 : decode cX8_deal 0 = .ok (.iload_n 2, 1) := by decide +kernel
theorem dX8_deal_1 : decode cX8_deal 1 = .ok (.istore_n 3, 1) := by decide +kernel
theorem dX8_deal_2 : decode cX8_deal 2 = .ok (.aload_n 0, 1) := by decide +kernel
theorem dX8_deal_3 : decode cX8_deal 3 = .ok (.getfield 127, 3) := by decide +kernel
theorem dX8_deal_6 : decode cX8_deal 6 = .ok (.iconst 1, 1) := by decide +kernel
theorem dX8_deal_7 : decode cX8_deal 7 = .ok (.isub, 1) := by decide +kernel
theorem dX8_deal_8 : decode cX8_deal 8 = .ok (.istore 4, 2) := by decide +kernel
theorem dX8_deal_10 : decode cX8_deal 10 = .ok (.iload 4, 2) := by decide +kernel
theorem dX8_deal_12 : decode cX8_deal 12 = .ok (.ifCond .lt 55, 3) := by decide +kernel
theorem dX8_deal_15 : decode cX8_deal 15 = .ok (.aload_n 0, 1) := by decide +kernel
theorem dX8_deal_16 : decode cX8_deal 16 = .ok (.getfield 89, 3) := by decide +kernel
theorem dX8_deal_19 : decode cX8_deal 19 = .ok (.iload 4, 2) := by decide +kernel
theorem dX8_deal_21 : decode cX8_deal 21 = .ok (.iload_n 1, 1) := by decide +kernel
theorem dX8_deal_22 : decode cX8_deal 22 = .ok (.iload 4, 2) := by decide +kernel
theorem dX8_deal_24 : decode cX8_deal 24 = .ok (.invokestatic 267, 3) := by decide +kernel
theorem dX8_deal_27 : decode cX8_deal 27 = .ok (.ifCond .eq 12, 3) := by decide +kernel
theorem dX8_deal_30 : decode cX8_deal 30 = .ok (.iload_n 3, 1) := by decide +kernel
theorem dX8_deal_31 : decode cX8_deal 31 = .ok (.aload_n 0, 1) := by decide +kernel
theorem dX8_deal_32 : decode cX8_deal 32 = .ok (.getfield 120, 3) := by decide +kernel
theorem dX8_deal_35 : decode cX8_deal 35 = .ok (.irem, 1) := by decide +kernel
theorem dX8_deal_36 : decode cX8_deal 36 = .ok (.goto 4, 3) := by decide +kernel
theorem dX8_deal_39 : decode cX8_deal 39 = .ok (.iconst (-1), 1) := by decide +kernel
theorem dX8_deal_40 : decode cX8_deal 40 = .ok (.iastore, 1) := by decide +kernel
theorem dX8_deal_41 : decode cX8_deal 41 = .ok (.iload_n 3, 1) := by decide +kernel
theorem dX8_deal_42 : decode cX8_deal 42 = .ok (.iload_n 1, 1) := by decide +kernel
theorem dX8_deal_43 : decode cX8_deal 43 = .ok (.iload 4, 2) := by decide +kernel
theorem dX8_deal_45 : decode cX8_deal 45 = .ok (.invokestatic 267, 3) := by decide +kernel
theorem dX8_deal_48 : decode cX8_deal 48 = .ok (.ifCond .eq 10, 3) := by decide +kernel
theorem dX8_deal_51 : decode cX8_deal 51 = .ok (.aload_n 0, 1) := by decide +kernel
theorem dX8_deal_52 : decode cX8_deal 52 = .ok (.getfield 120, 3) := by decide +kernel
theorem dX8_deal_55 : decode cX8_deal 55 = .ok (.goto 4, 3) := by decide +kernel
theorem dX8_deal_58 : decode cX8_deal 58 = .ok (.iconst 1, 1) := by decide +kernel
theorem dX8_deal_59 : decode cX8_deal 59 = .ok (.idiv, 1) := by decide +kernel
theorem dX8_deal_60 : decode cX8_deal 60 = .ok (.istore_n 3, 1) := by decide +kernel
theorem dX8_deal_61 : decode cX8_deal 61 = .ok (.iinc 4 (-1), 3) := by decide +kernel
theorem dX8_deal_64 : decode cX8_deal 64 = .ok (.goto (-54), 3) := by decide +kernel
theorem dX8_deal_67 : decode cX8_deal 67 = .ok (.return_, 1) := by decide +kernel
theorem dX8_sumOf_0 : decode cX8_sumOf 0 = .ok (.iconst 0, 1) := by decide +kernel
theorem dX8_sumOf_1 : decode cX8_sumOf 1 = .ok (.istore_n 2, 1) := by decide +kernel
theorem dX8_sumOf_2 : decode cX8_sumOf 2 = .ok (.iconst 0, 1) := by decide +kernel
theorem dX8_sumOf_3 : decode cX8_sumOf 3 = .ok (.istore_n 3, 1) := by decide +kernel
theorem dX8_sumOf_4 : decode cX8_sumOf 4 = .ok (.iload_n 3, 1) := by decide +kernel
theorem dX8_sumOf_5 : decode cX8_sumOf 5 = .ok (.aload_n 0, 1) := by decide +kernel
theorem dX8_sumOf_6 : decode cX8_sumOf 6 = .ok (.getfield 120, 3) := by decide +kernel
theorem dX8_sumOf_9 : decode cX8_sumOf 9 = .ok (.if_icmp .ge 78, 3) := by decide +kernel
theorem dX8_sumOf_12 : decode cX8_sumOf 12 = .ok (.iconst 0, 1) := by decide +kernel
theorem dX8_sumOf_13 : decode cX8_sumOf 13 = .ok (.istore 4, 2) := by decide +kernel
theorem dX8_sumOf_15 : decode cX8_sumOf 15 = .ok (.iconst 0, 1) := by decide +kernel
theorem dX8_sumOf_16 : decode cX8_sumOf 16 = .ok (.istore 5, 2) := by decide +kernel
theorem dX8_sumOf_18 : decode cX8_sumOf 18 = .ok (.iload 5, 2) := by decide +kernel
theorem dX8_sumOf_20 : decode cX8_sumOf 20 = .ok (.aload_n 0, 1) := by decide +kernel
theorem dX8_sumOf_21 : decode cX8_sumOf 21 = .ok (.getfield 127, 3) := by decide +kernel
theorem dX8_sumOf_24 : decode cX8_sumOf 24 = .ok (.if_icmp .ge 42, 3) := by decide +kernel
theorem dX8_sumOf_27 : decode cX8_sumOf 27 = .ok (.iload 4, 2) := by decide +kernel
theorem dX8_sumOf_29 : decode cX8_sumOf 29 = .ok (.iload_n 1, 1) := by decide +kernel
theorem dX8_sumOf_30 : decode cX8_sumOf 30 = .ok (.iload 5, 2) := by decide +kernel
theorem dX8_sumOf_32 : decode cX8_sumOf 32 = .ok (.invokestatic 267, 3) := by decide +kernel
theorem dX8_sumOf_35 : decode cX8_sumOf 35 = .ok (.ifCond .eq 21, 3) := by decide +kernel
theorem dX8_sumOf_38 : decode cX8_sumOf 38 = .ok (.aload_n 0, 1) := by decide +kernel
theorem dX8_sumOf_39 : decode cX8_sumOf 39 = .ok (.getfield 89, 3) := by decide +kernel
theorem dX8_sumOf_42 : decode cX8_sumOf 42 = .ok (.iload 5, 2) := by decide +kernel
theorem dX8_sumOf_44 : decode cX8_sumOf 44 = .ok (.iaload, 1) := by decide +kernel
theorem dX8_sumOf_45 : decode cX8_sumOf 45 = .ok (.iload_n 3, 1) := by decide +kernel
theorem dX8_sumOf_46 : decode cX8_sumOf 46 = .ok (.if_icmp .ne 10, 3) := by decide +kernel
theorem dX8_sumOf_49 : decode cX8_sumOf 49 = .ok (.iconst 1, 1) := by decide +kernel
theorem dX8_sumOf_50 : decode cX8_sumOf 50 = .ok (.iload 5, 2) := by decide +kernel
theorem dX8_sumOf_52 : decode cX8_sumOf 52 = .ok (.ishl, 1) := by decide +kernel
theorem dX8_sumOf_53 : decode cX8_sumOf 53 = .ok (.goto 4, 3) := by decide +kernel
theorem dX8_sumOf_56 : decode cX8_sumOf 56 = .ok (.iconst 0, 1) := by decide +kernel
theorem dX8_sumOf_57 : decode cX8_sumOf 57 = .ok (.ior, 1) := by decide +kernel
theorem dX8_sumOf_58 : decode cX8_sumOf 58 = .ok (.istore 4, 2) := by decide +kernel
theorem dX8_sumOf_60 : decode cX8_sumOf 60 = .ok (.iinc 5 1, 3) := by decide +kernel
theorem dX8_sumOf_63 : decode cX8_sumOf 63 = .ok (.goto (-45), 3) := by decide +kernel
theorem dX8_sumOf_66 : decode cX8_sumOf 66 = .ok (.iload_n 2, 1) := by decide +kernel
theorem dX8_sumOf_67 : decode cX8_sumOf 67 = .ok (.aload_n 0, 1) := by decide +kernel
theorem dX8_sumOf_68 : decode cX8_sumOf 68 = .ok (.getfield 86, 3) := by decide +kernel
theorem dX8_sumOf_71 : decode cX8_sumOf 71 = .ok (.bipush 64, 2) := by decide +kernel
theorem dX8_sumOf_73 : decode cX8_sumOf 73 = .ok (.iload_n 3, 1) := by decide +kernel
theorem dX8_sumOf_74 : decode cX8_sumOf 74 = .ok (.imul, 1) := by decide +kernel
theorem dX8_sumOf_75 : decode cX8_sumOf 75 = .ok (.iload 4, 2) := by decide +kernel
theorem dX8_sumOf_77 : decode cX8_sumOf 77 = .ok (.iadd, 1) := by decide +kernel
theorem dX8_sumOf_78 : decode cX8_sumOf 78 = .ok (.iaload, 1) := by decide +kernel
theorem dX8_sumOf_79 : decode cX8_sumOf 79 = .ok (.iadd, 1) := by decide +kernel
theorem dX8_sumOf_80 : decode cX8_sumOf 80 = .ok (.istore_n 2, 1) := by decide +kernel
theorem dX8_sumOf_81 : decode cX8_sumOf 81 = .ok (.iinc 3 1, 3) := by decide +kernel
theorem dX8_sumOf_84 : decode cX8_sumOf 84 = .ok (.goto (-80), 3) := by decide +kernel
theorem dX8_sumOf_87 : decode cX8_sumOf 87 = .ok (.iload_n 2, 1) := by decide +kernel
theorem dX8_sumOf_88 : decode cX8_sumOf 88 = .ok (.ireturn, 1) := by decide +kernel
theorem dX8_weightOf_0 : decode cX8_weightOf 0 = .ok (.iconst 0, 1) := by decide +kernel
theorem dX8_weightOf_1 : decode cX8_weightOf 1 = .ok (.istore_n 2, 1) := by decide +kernel
theorem dX8_weightOf_2 : decode cX8_weightOf 2 = .ok (.iconst 0, 1) := by decide +kernel
theorem dX8_weightOf_3 : decode cX8_weightOf 3 = .ok (.istore_n 3, 1) := by decide +kernel
theorem dX8_weightOf_4 : decode cX8_weightOf 4 = .ok (.iload_n 3, 1) := by decide +kernel
theorem dX8_weightOf_5 : decode cX8_weightOf 5 = .ok (.aload_n 0, 1) := by decide +kernel
theorem dX8_weightOf_6 : decode cX8_weightOf 6 = .ok (.getfield 127, 3) := by decide +kernel
theorem dX8_weightOf_9 : decode cX8_weightOf 9 = .ok (.if_icmp .ge 76, 3) := by decide +kernel
theorem dX8_weightOf_12 : decode cX8_weightOf 12 = .ok (.iconst 0, 1) := by decide +kernel
theorem dX8_weightOf_13 : decode cX8_weightOf 13 = .ok (.istore 4, 2) := by decide +kernel
theorem dX8_weightOf_15 : decode cX8_weightOf 15 = .ok (.iload 4, 2) := by decide +kernel
theorem dX8_weightOf_17 : decode cX8_weightOf 17 = .ok (.iload_n 3, 1) := by decide +kernel
theorem dX8_weightOf_18 : decode cX8_weightOf 18 = .ok (.if_icmp .ge 61, 3) := by decide +kernel
theorem dX8_weightOf_21 : decode cX8_weightOf 21 = .ok (.iload_n 2, 1) := by decide +kernel
theorem dX8_weightOf_22 : decode cX8_weightOf 22 = .ok (.iload_n 1, 1) := by decide +kernel
theorem dX8_weightOf_23 : decode cX8_weightOf 23 = .ok (.iload_n 3, 1) := by decide +kernel
theorem dX8_weightOf_24 : decode cX8_weightOf 24 = .ok (.invokestatic 267, 3) := by decide +kernel
theorem dX8_weightOf_27 : decode cX8_weightOf 27 = .ok (.ifCond .eq 43, 3) := by decide +kernel
theorem dX8_weightOf_30 : decode cX8_weightOf 30 = .ok (.iload_n 1, 1) := by decide +kernel
theorem dX8_weightOf_31 : decode cX8_weightOf 31 = .ok (.iload 4, 2) := by decide +kernel
theorem dX8_weightOf_33 : decode cX8_weightOf 33 = .ok (.invokestatic 267, 3) := by decide +kernel
theorem dX8_weightOf_36 : decode cX8_weightOf 36 = .ok (.ifCond .eq 34, 3) := by decide +kernel
theorem dX8_weightOf_39 : decode cX8_weightOf 39 = .ok (.aload_n 0, 1) := by decide +kernel
theorem dX8_weightOf_40 : decode cX8_weightOf 40 = .ok (.getfield 89, 3) := by decide +kernel
theorem dX8_weightOf_43 : decode cX8_weightOf 43 = .ok (.iload_n 3, 1) := by decide +kernel
theorem dX8_weightOf_44 : decode cX8_weightOf 44 = .ok (.iaload, 1) := by decide +kernel
theorem dX8_weightOf_45 : decode cX8_weightOf 45 = .ok (.aload_n 0, 1) := by decide +kernel
theorem dX8_weightOf_46 : decode cX8_weightOf 46 = .ok (.getfield 89, 3) := by decide +kernel
theorem dX8_weightOf_49 : decode cX8_weightOf 49 = .ok (.iload 4, 2) := by decide +kernel
theorem dX8_weightOf_51 : decode cX8_weightOf 51 = .ok (.iaload, 1) := by decide +kernel
theorem dX8_weightOf_52 : decode cX8_weightOf 52 = .ok (.if_icmp .ne 18, 3) := by decide +kernel
theorem dX8_weightOf_55 : decode cX8_weightOf 55 = .ok (.aload_n 0, 1) := by decide +kernel
theorem dX8_weightOf_56 : decode cX8_weightOf 56 = .ok (.getfield 28, 3) := by decide +kernel
theorem dX8_weightOf_59 : decode cX8_weightOf 59 = .ok (.bipush 6, 2) := by decide +kernel
theorem dX8_weightOf_61 : decode cX8_weightOf 61 = .ok (.iload_n 3, 1) := by decide +kernel
theorem dX8_weightOf_62 : decode cX8_weightOf 62 = .ok (.imul, 1) := by decide +kernel
theorem dX8_weightOf_63 : decode cX8_weightOf 63 = .ok (.iload 4, 2) := by decide +kernel
theorem dX8_weightOf_65 : decode cX8_weightOf 65 = .ok (.iadd, 1) := by decide +kernel
theorem dX8_weightOf_66 : decode cX8_weightOf 66 = .ok (.iaload, 1) := by decide +kernel
theorem dX8_weightOf_67 : decode cX8_weightOf 67 = .ok (.goto 4, 3) := by decide +kernel
theorem dX8_weightOf_70 : decode cX8_weightOf 70 = .ok (.iconst 0, 1) := by decide +kernel
theorem dX8_weightOf_71 : decode cX8_weightOf 71 = .ok (.iadd, 1) := by decide +kernel
theorem dX8_weightOf_72 : decode cX8_weightOf 72 = .ok (.istore_n 2, 1) := by decide +kernel
theorem dX8_weightOf_73 : decode cX8_weightOf 73 = .ok (.iinc 4 1, 3) := by decide +kernel
theorem dX8_weightOf_76 : decode cX8_weightOf 76 = .ok (.goto (-61), 3) := by decide +kernel
theorem dX8_weightOf_79 : decode cX8_weightOf 79 = .ok (.iinc 3 1, 3) := by decide +kernel
theorem dX8_weightOf_82 : decode cX8_weightOf 82 = .ok (.goto (-78), 3) := by decide +kernel
theorem dX8_weightOf_85 : decode cX8_weightOf 85 = .ok (.iload_n 2, 1) := by decide +kernel
theorem dX8_weightOf_86 : decode cX8_weightOf 86 = .ok (.ireturn, 1) := by decide +kernel
theorem dX8_findFeast_0 : decode cX8_findFeast 0 = .ok (.iconst 1, 1) := by decide +kernel
theorem dX8_findFeast_1 : decode cX8_findFeast 1 = .ok (.istore_n 2, 1) := by decide +kernel
theorem dX8_findFeast_2 : decode cX8_findFeast 2 = .ok (.iconst 0, 1) := by decide +kernel
theorem dX8_findFeast_3 : decode cX8_findFeast 3 = .ok (.istore_n 3, 1) := by decide +kernel
theorem dX8_findFeast_4 : decode cX8_findFeast 4 = .ok (.iload_n 3, 1) := by decide +kernel
theorem dX8_findFeast_5 : decode cX8_findFeast 5 = .ok (.aload_n 0, 1) := by decide +kernel
theorem dX8_findFeast_6 : decode cX8_findFeast 6 = .ok (.getfield 127, 3) := by decide +kernel
theorem dX8_findFeast_9 : decode cX8_findFeast 9 = .ok (.if_icmp .ge 28, 3) := by decide +kernel
theorem dX8_findFeast_12 : decode cX8_findFeast 12 = .ok (.iload_n 2, 1) := by decide +kernel
theorem dX8_findFeast_13 : decode cX8_findFeast 13 = .ok (.iload_n 1, 1) := by decide +kernel
theorem dX8_findFeast_14 : decode cX8_findFeast 14 = .ok (.iload_n 3, 1) := by decide +kernel
theorem dX8_findFeast_15 : decode cX8_findFeast 15 = .ok (.invokestatic 267, 3) := by decide +kernel
theorem dX8_findFeast_18 : decode cX8_findFeast 18 = .ok (.ifCond .eq 10, 3) := by decide +kernel
theorem dX8_findFeast_21 : decode cX8_findFeast 21 = .ok (.aload_n 0, 1) := by decide +kernel
theorem dX8_findFeast_22 : decode cX8_findFeast 22 = .ok (.getfield 120, 3) := by decide +kernel
theorem dX8_findFeast_25 : decode cX8_findFeast 25 = .ok (.goto 4, 3) := by decide +kernel
theorem dX8_findFeast_28 : decode cX8_findFeast 28 = .ok (.iconst 1, 1) := by decide +kernel
theorem dX8_findFeast_29 : decode cX8_findFeast 29 = .ok (.imul, 1) := by decide +kernel
theorem dX8_findFeast_30 : decode cX8_findFeast 30 = .ok (.istore_n 2, 1) := by decide +kernel
theorem dX8_findFeast_31 : decode cX8_findFeast 31 = .ok (.iinc 3 1, 3) := by decide +kernel
theorem dX8_findFeast_34 : decode cX8_findFeast 34 = .ok (.goto (-30), 3) := by decide +kernel
theorem dX8_findFeast_37 : decode cX8_findFeast 37 = .ok (.iconst 0, 1) := by decide +kernel
theorem dX8_findFeast_38 : decode cX8_findFeast 38 = .ok (.istore_n 3, 1) := by decide +kernel
theorem dX8_findFeast_39 : decode cX8_findFeast 39 = .ok (.iload_n 3, 1) := by decide +kernel
theorem dX8_findFeast_40 : decode cX8_findFeast 40 = .ok (.aload_n 0, 1) := by decide +kernel
theorem dX8_findFeast_41 : decode cX8_findFeast 41 = .ok (.getfield 120, 3) := by decide +kernel
theorem dX8_findFeast_44 : decode cX8_findFeast 44 = .ok (.if_icmp .ge 63, 3) := by decide +kernel
theorem dX8_findFeast_47 : decode cX8_findFeast 47 = .ok (.iconst 0, 1) := by decide +kernel
theorem dX8_findFeast_48 : decode cX8_findFeast 48 = .ok (.istore 4, 2) := by decide +kernel
theorem dX8_findFeast_50 : decode cX8_findFeast 50 = .ok (.iload 4, 2) := by decide +kernel
theorem dX8_findFeast_52 : decode cX8_findFeast 52 = .ok (.iconst 1, 1) := by decide +kernel
theorem dX8_findFeast_53 : decode cX8_findFeast 53 = .ok (.aload_n 0, 1) := by decide +kernel
theorem dX8_findFeast_54 : decode cX8_findFeast 54 = .ok (.getfield 127, 3) := by decide +kernel
theorem dX8_findFeast_57 : decode cX8_findFeast 57 = .ok (.ishl, 1) := by decide +kernel
theorem dX8_findFeast_58 : decode cX8_findFeast 58 = .ok (.if_icmp .ge 43, 3) := by decide +kernel
theorem dX8_findFeast_61 : decode cX8_findFeast 61 = .ok (.aload_n 0, 1) := by decide +kernel
theorem dX8_findFeast_62 : decode cX8_findFeast 62 = .ok (.getfield 86, 3) := by decide +kernel
theorem dX8_findFeast_65 : decode cX8_findFeast 65 = .ok (.bipush 64, 2) := by decide +kernel
theorem dX8_findFeast_67 : decode cX8_findFeast 67 = .ok (.iload_n 3, 1) := by decide +kernel
theorem dX8_findFeast_68 : decode cX8_findFeast 68 = .ok (.imul, 1) := by decide +kernel
theorem dX8_findFeast_69 : decode cX8_findFeast 69 = .ok (.iload 4, 2) := by decide +kernel
theorem dX8_findFeast_71 : decode cX8_findFeast 71 = .ok (.iadd, 1) := by decide +kernel
theorem dX8_findFeast_72 : decode cX8_findFeast 72 = .ok (.iload 4, 2) := by decide +kernel
theorem dX8_findFeast_74 : decode cX8_findFeast 74 = .ok (.iload_n 1, 1) := by decide +kernel
theorem dX8_findFeast_75 : decode cX8_findFeast 75 = .ok (.iconst (-1), 1) := by decide +kernel
theorem dX8_findFeast_76 : decode cX8_findFeast 76 = .ok (.ixor, 1) := by decide +kernel
theorem dX8_findFeast_77 : decode cX8_findFeast 77 = .ok (.iand, 1) := by decide +kernel
theorem dX8_findFeast_78 : decode cX8_findFeast 78 = .ok (.ifCond .ne 13, 3) := by decide +kernel
theorem dX8_findFeast_81 : decode cX8_findFeast 81 = .ok (.aload_n 0, 1) := by decide +kernel
theorem dX8_findFeast_82 : decode cX8_findFeast 82 = .ok (.iload_n 3, 1) := by decide +kernel
theorem dX8_findFeast_83 : decode cX8_findFeast 83 = .ok (.iload 4, 2) := by decide +kernel
theorem dX8_findFeast_85 : decode cX8_findFeast 85 = .ok (.invokevirtual 315, 3) := by decide +kernel
theorem dX8_findFeast_88 : decode cX8_findFeast 88 = .ok (.goto 6, 3) := by decide +kernel
theorem dX8_findFeast_91 : decode cX8_findFeast 91 = .ok (.ldc_w 279, 3) := by decide +kernel
theorem dX8_findFeast_94 : decode cX8_findFeast 94 = .ok (.iastore, 1) := by decide +kernel
theorem dX8_findFeast_95 : decode cX8_findFeast 95 = .ok (.iinc 4 1, 3) := by decide +kernel
theorem dX8_findFeast_98 : decode cX8_findFeast 98 = .ok (.goto (-48), 3) := by decide +kernel
theorem dX8_findFeast_101 : decode cX8_findFeast 101 = .ok (.iinc 3 1, 3) := by decide +kernel
theorem dX8_findFeast_104 : decode cX8_findFeast 104 = .ok (.goto (-65), 3) := by decide +kernel
theorem dX8_findFeast_107 : decode cX8_findFeast 107 = .ok (.ldc_w 279, 3) := by decide +kernel
theorem dX8_findFeast_110 : decode cX8_findFeast 110 = .ok (.istore_n 3, 1) := by decide +kernel
theorem dX8_findFeast_111 : decode cX8_findFeast 111 = .ok (.aload_n 0, 1) := by decide +kernel
theorem dX8_findFeast_112 : decode cX8_findFeast 112 = .ok (.iconst (-1), 1) := by decide +kernel
theorem dX8_findFeast_113 : decode cX8_findFeast 113 = .ok (.putfield 318, 3) := by decide +kernel
theorem dX8_findFeast_116 : decode cX8_findFeast 116 = .ok (.iconst 0, 1) := by decide +kernel
theorem dX8_findFeast_117 : decode cX8_findFeast 117 = .ok (.istore 4, 2) := by decide +kernel
theorem dX8_findFeast_119 : decode cX8_findFeast 119 = .ok (.iload 4, 2) := by decide +kernel
theorem dX8_findFeast_121 : decode cX8_findFeast 121 = .ok (.iload_n 2, 1) := by decide +kernel
theorem dX8_findFeast_122 : decode cX8_findFeast 122 = .ok (.if_icmp .ge 98, 3) := by decide +kernel
theorem dX8_findFeast_125 : decode cX8_findFeast 125 = .ok (.aload_n 0, 1) := by decide +kernel
theorem dX8_findFeast_126 : decode cX8_findFeast 126 = .ok (.iload_n 1, 1) := by decide +kernel
theorem dX8_findFeast_127 : decode cX8_findFeast 127 = .ok (.iload 4, 2) := by decide +kernel
theorem dX8_findFeast_129 : decode cX8_findFeast 129 = .ok (.invokevirtual 321, 3) := by decide +kernel
theorem dX8_findFeast_132 : decode cX8_findFeast 132 = .ok (.aload_n 0, 1) := by decide +kernel
theorem dX8_findFeast_133 : decode cX8_findFeast 133 = .ok (.iload_n 1, 1) := by decide +kernel
theorem dX8_findFeast_134 : decode cX8_findFeast 134 = .ok (.invokevirtual 325, 3) := by decide +kernel
theorem dX8_findFeast_137 : decode cX8_findFeast 137 = .ok (.istore 5, 2) := by decide +kernel
theorem dX8_findFeast_139 : decode cX8_findFeast 139 = .ok (.aload_n 0, 1) := by decide +kernel
theorem dX8_findFeast_140 : decode cX8_findFeast 140 = .ok (.iload_n 1, 1) := by decide +kernel
theorem dX8_findFeast_141 : decode cX8_findFeast 141 = .ok (.invokevirtual 328, 3) := by decide +kernel
theorem dX8_findFeast_144 : decode cX8_findFeast 144 = .ok (.istore 6, 2) := by decide +kernel
theorem dX8_findFeast_146 : decode cX8_findFeast 146 = .ok (.iload 5, 2) := by decide +kernel
theorem dX8_findFeast_148 : decode cX8_findFeast 148 = .ok (.iload_n 3, 1) := by decide +kernel
theorem dX8_findFeast_149 : decode cX8_findFeast 149 = .ok (.if_icmp .lt 26, 3) := by decide +kernel
theorem dX8_findFeast_152 : decode cX8_findFeast 152 = .ok (.iload 5, 2) := by decide +kernel
theorem dX8_findFeast_154 : decode cX8_findFeast 154 = .ok (.iload_n 3, 1) := by decide +kernel
theorem dX8_findFeast_155 : decode cX8_findFeast 155 = .ok (.if_icmp .ne 59, 3) := by decide +kernel
theorem dX8_findFeast_158 : decode cX8_findFeast 158 = .ok (.iload 5, 2) := by decide +kernel
theorem dX8_findFeast_160 : decode cX8_findFeast 160 = .ok (.ldc_w 279, 3) := by decide +kernel
theorem dX8_findFeast_163 : decode cX8_findFeast 163 = .ok (.if_icmp .ge 51, 3) := by decide +kernel
theorem dX8_findFeast_166 : decode cX8_findFeast 166 = .ok (.iload 6, 2) := by decide +kernel
theorem dX8_findFeast_168 : decode cX8_findFeast 168 = .ok (.aload_n 0, 1) := by decide +kernel
theorem dX8_findFeast_169 : decode cX8_findFeast 169 = .ok (.getfield 318, 3) := by decide +kernel
theorem dX8_findFeast_172 : decode cX8_findFeast 172 = .ok (.if_icmp .le 42, 3) := by decide +kernel
theorem dX8_findFeast_175 : decode cX8_findFeast 175 = .ok (.iload 5, 2) := by decide +kernel
theorem dX8_findFeast_177 : decode cX8_findFeast 177 = .ok (.istore_n 3, 1) := by decide +kernel
theorem dX8_findFeast_178 : decode cX8_findFeast 178 = .ok (.aload_n 0, 1) := by decide +kernel
theorem dX8_findFeast_179 : decode cX8_findFeast 179 = .ok (.iload 6, 2) := by decide +kernel
theorem dX8_findFeast_181 : decode cX8_findFeast 181 = .ok (.putfield 318, 3) := by decide +kernel
theorem dX8_findFeast_184 : decode cX8_findFeast 184 = .ok (.iconst 0, 1) := by decide +kernel
theorem dX8_findFeast_185 : decode cX8_findFeast 185 = .ok (.istore 7, 2) := by decide +kernel
theorem dX8_findFeast_187 : decode cX8_findFeast 187 = .ok (.iload 7, 2) := by decide +kernel
theorem dX8_findFeast_189 : decode cX8_findFeast 189 = .ok (.bipush 6, 2) := by decide +kernel
theorem dX8_findFeast_191 : decode cX8_findFeast 191 = .ok (.if_icmp .ge 23, 3) := by decide +kernel
theorem dX8_findFeast_194 : decode cX8_findFeast 194 = .ok (.aload_n 0, 1) := by decide +kernel
theorem dX8_findFeast_195 : decode cX8_findFeast 195 = .ok (.getfield 92, 3) := by decide +kernel
theorem dX8_findFeast_198 : decode cX8_findFeast 198 = .ok (.iload 7, 2) := by decide +kernel
theorem dX8_findFeast_200 : decode cX8_findFeast 200 = .ok (.aload_n 0, 1) := by decide +kernel
theorem dX8_findFeast_201 : decode cX8_findFeast 201 = .ok (.getfield 89, 3) := by decide +kernel
theorem dX8_findFeast_204 : decode cX8_findFeast 204 = .ok (.iload 7, 2) := by decide +kernel
theorem dX8_findFeast_206 : decode cX8_findFeast 206 = .ok (.iaload, 1) := by decide +kernel
theorem dX8_findFeast_207 : decode cX8_findFeast 207 = .ok (.iastore, 1) := by decide +kernel
theorem dX8_findFeast_208 : decode cX8_findFeast 208 = .ok (.iinc 7 1, 3) := by decide +kernel
theorem dX8_findFeast_211 : decode cX8_findFeast 211 = .ok (.goto (-24), 3) := by decide +kernel
theorem dX8_findFeast_214 : decode cX8_findFeast 214 = .ok (.iinc 4 1, 3) := by decide +kernel
theorem dX8_findFeast_217 : decode cX8_findFeast 217 = .ok (.goto (-98), 3) := by decide +kernel
theorem dX8_findFeast_220 : decode cX8_findFeast 220 = .ok (.iload_n 3, 1) := by decide +kernel
theorem dX8_findFeast_221 : decode cX8_findFeast 221 = .ok (.ireturn, 1) := by decide +kernel
theorem dX8_feast_0 : decode cX8_feast 0 = .ok (.aload_n 0, 1) := by decide +kernel
theorem dX8_feast_1 : decode cX8_feast 1 = .ok (.iload_n 1, 1) := by decide +kernel
theorem dX8_feast_2 : decode cX8_feast 2 = .ok (.invokevirtual 312, 3) := by decide +kernel
theorem dX8_feast_5 : decode cX8_feast 5 = .ok (.ifCond .eq 22, 3) := by decide +kernel
theorem dX8_feast_8 : decode cX8_feast 8 = .ok (.iload_n 2, 1) := by decide +kernel
theorem dX8_feast_9 : decode cX8_feast 9 = .ok (.iconst (-1), 1) := by decide +kernel
theorem dX8_feast_10 : decode cX8_feast 10 = .ok (.if_icmp .eq 20, 3) := by decide +kernel
theorem dX8_feast_13 : decode cX8_feast 13 = .ok (.iload_n 2, 1) := by decide +kernel
theorem dX8_feast_14 : decode cX8_feast 14 = .ok (.bipush (-2), 2) := by decide +kernel
theorem dX8_feast_16 : decode cX8_feast 16 = .ok (.if_icmp .eq 14, 3) := by decide +kernel
theorem dX8_feast_19 : decode cX8_feast 19 = .ok (.aload_n 0, 1) := by decide +kernel
theorem dX8_feast_20 : decode cX8_feast 20 = .ok (.iload_n 2, 1) := by decide +kernel
theorem dX8_feast_21 : decode cX8_feast 21 = .ok (.invokevirtual 248, 3) := by decide +kernel
theorem dX8_feast_24 : decode cX8_feast 24 = .ok (.ifCond .ne 6, 3) := by decide +kernel
theorem dX8_feast_27 : decode cX8_feast 27 = .ok (.ldc 240, 2) := by decide +kernel
theorem dX8_feast_29 : decode cX8_feast 29 = .ok (.ireturn, 1) := by decide +kernel
theorem dX8_feast_30 : decode cX8_feast 30 = .ok (.aload_n 0, 1) := by decide +kernel
theorem dX8_feast_31 : decode cX8_feast 31 = .ok (.iload_n 1, 1) := by decide +kernel
theorem dX8_feast_32 : decode cX8_feast 32 = .ok (.invokevirtual 331, 3) := by decide +kernel
theorem dX8_feast_35 : decode cX8_feast 35 = .ok (.istore_n 3, 1) := by decide +kernel
theorem dX8_feast_36 : decode cX8_feast 36 = .ok (.iload_n 3, 1) := by decide +kernel
theorem dX8_feast_37 : decode cX8_feast 37 = .ok (.ldc_w 279, 3) := by decide +kernel
theorem dX8_feast_40 : decode cX8_feast 40 = .ok (.if_icmp .lt 5, 3) := by decide +kernel
theorem dX8_feast_43 : decode cX8_feast 43 = .ok (.iconst (-1), 1) := by decide +kernel
theorem dX8_feast_44 : decode cX8_feast 44 = .ok (.ireturn, 1) := by decide +kernel
theorem dX8_feast_45 : decode cX8_feast 45 = .ok (.iload_n 2, 1) := by decide +kernel
theorem dX8_feast_46 : decode cX8_feast 46 = .ok (.iconst (-1), 1) := by decide +kernel
theorem dX8_feast_47 : decode cX8_feast 47 = .ok (.if_icmp .ne 7, 3) := by decide +kernel
theorem dX8_feast_50 : decode cX8_feast 50 = .ok (.iload_n 3, 1) := by decide +kernel
theorem dX8_feast_51 : decode cX8_feast 51 = .ok (.goto 34, 3) := by decide +kernel
theorem dX8_feast_54 : decode cX8_feast 54 = .ok (.iload_n 2, 1) := by decide +kernel
theorem dX8_feast_55 : decode cX8_feast 55 = .ok (.bipush (-2), 2) := by decide +kernel
theorem dX8_feast_57 : decode cX8_feast 57 = .ok (.if_icmp .ne 10, 3) := by decide +kernel
theorem dX8_feast_60 : decode cX8_feast 60 = .ok (.aload_n 0, 1) := by decide +kernel
theorem dX8_feast_61 : decode cX8_feast 61 = .ok (.getfield 318, 3) := by decide +kernel
theorem dX8_feast_64 : decode cX8_feast 64 = .ok (.goto 21, 3) := by decide +kernel
theorem dX8_feast_67 : decode cX8_feast 67 = .ok (.iload_n 1, 1) := by decide +kernel
theorem dX8_feast_68 : decode cX8_feast 68 = .ok (.iload_n 2, 1) := by decide +kernel
theorem dX8_feast_69 : decode cX8_feast 69 = .ok (.invokestatic 267, 3) := by decide +kernel
theorem dX8_feast_72 : decode cX8_feast 72 = .ok (.ifCond .eq 12, 3) := by decide +kernel
theorem dX8_feast_75 : decode cX8_feast 75 = .ok (.aload_n 0, 1) := by decide +kernel
theorem dX8_feast_76 : decode cX8_feast 76 = .ok (.getfield 92, 3) := by decide +kernel
theorem dX8_feast_79 : decode cX8_feast 79 = .ok (.iload_n 2, 1) := by decide +kernel
theorem dX8_feast_80 : decode cX8_feast 80 = .ok (.iaload, 1) := by decide +kernel
theorem dX8_feast_81 : decode cX8_feast 81 = .ok (.goto 4, 3) := by decide +kernel
theorem dX8_feast_84 : decode cX8_feast 84 = .ok (.iconst (-1), 1) := by decide +kernel
theorem dX8_feast_85 : decode cX8_feast 85 = .ok (.ireturn, 1) := by decide +kernel
theorem dX8_cuts_0 : decode cX8_cuts 0 = .ok (.aload_n 0, 1) := by decide +kernel
theorem dX8_cuts_1 : decode cX8_cuts 1 = .ok (.iload_n 1, 1) := by decide +kernel
theorem dX8_cuts_2 : decode cX8_cuts 2 = .ok (.invokevirtual 130, 3) := by decide +kernel
theorem dX8_cuts_5 : decode cX8_cuts 5 = .ok (.ifCond .eq 11, 3) := by decide +kernel
theorem dX8_cuts_8 : decode cX8_cuts 8 = .ok (.aload_n 0, 1) := by decide +kernel
theorem dX8_cuts_9 : decode cX8_cuts 9 = .ok (.iload_n 2, 1) := by decide +kernel
theorem dX8_cuts_10 : decode cX8_cuts 10 = .ok (.invokevirtual 312, 3) := by decide +kernel
theorem dX8_cuts_13 : decode cX8_cuts 13 = .ok (.ifCond .ne 6, 3) := by decide +kernel
theorem dX8_cuts_16 : decode cX8_cuts 16 = .ok (.ldc 240, 2) := by decide +kernel
theorem dX8_cuts_18 : decode cX8_cuts 18 = .ok (.ireturn, 1) := by decide +kernel
theorem dX8_cuts_19 : decode cX8_cuts 19 = .ok (.iload_n 2, 1) := by decide +kernel
theorem dX8_cuts_20 : decode cX8_cuts 20 = .ok (.invokestatic 303, 3) := by decide +kernel
theorem dX8_cuts_23 : decode cX8_cuts 23 = .ok (.aload_n 0, 1) := by decide +kernel
theorem dX8_cuts_24 : decode cX8_cuts 24 = .ok (.getfield 7, 3) := by decide +kernel
theorem dX8_cuts_27 : decode cX8_cuts 27 = .ok (.iload_n 1, 1) := by decide +kernel
theorem dX8_cuts_28 : decode cX8_cuts 28 = .ok (.iaload, 1) := by decide +kernel
theorem dX8_cuts_29 : decode cX8_cuts 29 = .ok (.if_icmp .le 5, 3) := by decide +kernel
theorem dX8_cuts_32 : decode cX8_cuts 32 = .ok (.iconst (-1), 1) := by decide +kernel
theorem dX8_cuts_33 : decode cX8_cuts 33 = .ok (.ireturn, 1) := by decide +kernel
theorem dX8_cuts_34 : decode cX8_cuts 34 = .ok (.iconst 0, 1) := by decide +kernel
theorem dX8_cuts_35 : decode cX8_cuts 35 = .ok (.istore_n 3, 1) := by decide +kernel
theorem dX8_cuts_36 : decode cX8_cuts 36 = .ok (.iconst 0, 1) := by decide +kernel
theorem dX8_cuts_37 : decode cX8_cuts 37 = .ok (.istore 4, 2) := by decide +kernel
theorem dX8_cuts_39 : decode cX8_cuts 39 = .ok (.iload 4, 2) := by decide +kernel
theorem dX8_cuts_41 : decode cX8_cuts 41 = .ok (.aload_n 0, 1) := by decide +kernel
theorem dX8_cuts_42 : decode cX8_cuts 42 = .ok (.getfield 127, 3) := by decide +kernel
theorem dX8_cuts_45 : decode cX8_cuts 45 = .ok (.if_icmp .ge 54, 3) := by decide +kernel
theorem dX8_cuts_48 : decode cX8_cuts 48 = .ok (.aload_n 0, 1) := by decide +kernel
theorem dX8_cuts_49 : decode cX8_cuts 49 = .ok (.getfield 74, 3) := by decide +kernel
theorem dX8_cuts_52 : decode cX8_cuts 52 = .ok (.iload 4, 2) := by decide +kernel
theorem dX8_cuts_54 : decode cX8_cuts 54 = .ok (.iload_n 2, 1) := by decide +kernel
theorem dX8_cuts_55 : decode cX8_cuts 55 = .ok (.iload 4, 2) := by decide +kernel
theorem dX8_cuts_57 : decode cX8_cuts 57 = .ok (.invokestatic 267, 3) := by decide +kernel
theorem dX8_cuts_60 : decode cX8_cuts 60 = .ok (.ifCond .eq 14, 3) := by decide +kernel
theorem dX8_cuts_63 : decode cX8_cuts 63 = .ok (.aload_n 0, 1) := by decide +kernel
theorem dX8_cuts_64 : decode cX8_cuts 64 = .ok (.iload 4, 2) := by decide +kernel
theorem dX8_cuts_66 : decode cX8_cuts 66 = .ok (.iload_n 1, 1) := by decide +kernel
theorem dX8_cuts_67 : decode cX8_cuts 67 = .ok (.iload_n 3, 1) := by decide +kernel
theorem dX8_cuts_68 : decode cX8_cuts 68 = .ok (.invokevirtual 244, 3) := by decide +kernel
theorem dX8_cuts_71 : decode cX8_cuts 71 = .ok (.goto 4, 3) := by decide +kernel
theorem dX8_cuts_74 : decode cX8_cuts 74 = .ok (.iconst 0, 1) := by decide +kernel
theorem dX8_cuts_75 : decode cX8_cuts 75 = .ok (.iastore, 1) := by decide +kernel
theorem dX8_cuts_76 : decode cX8_cuts 76 = .ok (.iload_n 3, 1) := by decide +kernel
theorem dX8_cuts_77 : decode cX8_cuts 77 = .ok (.iload_n 2, 1) := by decide +kernel
theorem dX8_cuts_78 : decode cX8_cuts 78 = .ok (.iload 4, 2) := by decide +kernel
theorem dX8_cuts_80 : decode cX8_cuts 80 = .ok (.invokestatic 267, 3) := by decide +kernel
theorem dX8_cuts_83 : decode cX8_cuts 83 = .ok (.ifCond .eq 7, 3) := by decide +kernel
theorem dX8_cuts_86 : decode cX8_cuts 86 = .ok (.iconst 1, 1) := by decide +kernel
theorem dX8_cuts_87 : decode cX8_cuts 87 = .ok (.goto 4, 3) := by decide +kernel
theorem dX8_cuts_90 : decode cX8_cuts 90 = .ok (.iconst 0, 1) := by decide +kernel
theorem dX8_cuts_91 : decode cX8_cuts 91 = .ok (.iadd, 1) := by decide +kernel
theorem dX8_cuts_92 : decode cX8_cuts 92 = .ok (.istore_n 3, 1) := by decide +kernel
theorem dX8_cuts_93 : decode cX8_cuts 93 = .ok (.iinc 4 1, 3) := by decide +kernel
theorem dX8_cuts_96 : decode cX8_cuts 96 = .ok (.goto (-57), 3) := by decide +kernel
theorem dX8_cuts_99 : decode cX8_cuts 99 = .ok (.iload_n 2, 1) := by decide +kernel
theorem dX8_cuts_100 : decode cX8_cuts 100 = .ok (.istore 4, 2) := by decide +kernel
theorem dX8_cuts_102 : decode cX8_cuts 102 = .ok (.ldc_w 279, 3) := by decide +kernel
theorem dX8_cuts_105 : decode cX8_cuts 105 = .ok (.istore 5, 2) := by decide +kernel
theorem dX8_cuts_107 : decode cX8_cuts 107 = .ok (.iconst 0, 1) := by decide +kernel
theorem dX8_cuts_108 : decode cX8_cuts 108 = .ok (.istore 6, 2) := by decide +kernel
theorem dX8_cuts_110 : decode cX8_cuts 110 = .ok (.iload 4, 2) := by decide +kernel
theorem dX8_cuts_112 : decode cX8_cuts 112 = .ok (.ifCond .eq 112, 3) := by decide +kernel
theorem dX8_cuts_115 : decode cX8_cuts 115 = .ok (.aload_n 0, 1) := by decide +kernel
theorem dX8_cuts_116 : decode cX8_cuts 116 = .ok (.iload 4, 2) := by decide +kernel
theorem dX8_cuts_118 : decode cX8_cuts 118 = .ok (.invokevirtual 270, 3) := by decide +kernel
theorem dX8_cuts_121 : decode cX8_cuts 121 = .ok (.istore 7, 2) := by decide +kernel
theorem dX8_cuts_123 : decode cX8_cuts 123 = .ok (.iload 4, 2) := by decide +kernel
theorem dX8_cuts_125 : decode cX8_cuts 125 = .ok (.iconst 1, 1) := by decide +kernel
theorem dX8_cuts_126 : decode cX8_cuts 126 = .ok (.iload 7, 2) := by decide +kernel
theorem dX8_cuts_128 : decode cX8_cuts 128 = .ok (.ishl, 1) := by decide +kernel
theorem dX8_cuts_129 : decode cX8_cuts 129 = .ok (.iconst (-1), 1) := by decide +kernel
theorem dX8_cuts_130 : decode cX8_cuts 130 = .ok (.ixor, 1) := by decide +kernel
theorem dX8_cuts_131 : decode cX8_cuts 131 = .ok (.iand, 1) := by decide +kernel
theorem dX8_cuts_132 : decode cX8_cuts 132 = .ok (.istore 4, 2) := by decide +kernel
theorem dX8_cuts_134 : decode cX8_cuts 134 = .ok (.aload_n 0, 1) := by decide +kernel
theorem dX8_cuts_135 : decode cX8_cuts 135 = .ok (.getfield 74, 3) := by decide +kernel
theorem dX8_cuts_138 : decode cX8_cuts 138 = .ok (.iload 7, 2) := by decide +kernel
theorem dX8_cuts_140 : decode cX8_cuts 140 = .ok (.iaload, 1) := by decide +kernel
theorem dX8_cuts_141 : decode cX8_cuts 141 = .ok (.aload_n 0, 1) := by decide +kernel
theorem dX8_cuts_142 : decode cX8_cuts 142 = .ok (.getfield 22, 3) := by decide +kernel
theorem dX8_cuts_145 : decode cX8_cuts 145 = .ok (.iload 7, 2) := by decide +kernel
theorem dX8_cuts_147 : decode cX8_cuts 147 = .ok (.iaload, 1) := by decide +kernel
theorem dX8_cuts_148 : decode cX8_cuts 148 = .ok (.isub, 1) := by decide +kernel
theorem dX8_cuts_149 : decode cX8_cuts 149 = .ok (.iload 5, 2) := by decide +kernel
theorem dX8_cuts_151 : decode cX8_cuts 151 = .ok (.isub, 1) := by decide +kernel
theorem dX8_cuts_152 : decode cX8_cuts 152 = .ok (.istore 8, 2) := by decide +kernel
theorem dX8_cuts_154 : decode cX8_cuts 154 = .ok (.iload 6, 2) := by decide +kernel
theorem dX8_cuts_156 : decode cX8_cuts 156 = .ok (.iload 8, 2) := by decide +kernel
theorem dX8_cuts_158 : decode cX8_cuts 158 = .ok (.ifCond .le 8, 3) := by decide +kernel
theorem dX8_cuts_161 : decode cX8_cuts 161 = .ok (.iload 8, 2) := by decide +kernel
theorem dX8_cuts_163 : decode cX8_cuts 163 = .ok (.goto 4, 3) := by decide +kernel
theorem dX8_cuts_166 : decode cX8_cuts 166 = .ok (.iconst 0, 1) := by decide +kernel
theorem dX8_cuts_167 : decode cX8_cuts 167 = .ok (.iadd, 1) := by decide +kernel
theorem dX8_cuts_168 : decode cX8_cuts 168 = .ok (.istore 6, 2) := by decide +kernel
theorem dX8_cuts_170 : decode cX8_cuts 170 = .ok (.aload_n 0, 1) := by decide +kernel
theorem dX8_cuts_171 : decode cX8_cuts 171 = .ok (.getfield 74, 3) := by decide +kernel
theorem dX8_cuts_174 : decode cX8_cuts 174 = .ok (.iload 7, 2) := by decide +kernel
theorem dX8_cuts_176 : decode cX8_cuts 176 = .ok (.iaload, 1) := by decide +kernel
theorem dX8_cuts_177 : decode cX8_cuts 177 = .ok (.iload 5, 2) := by decide +kernel
theorem dX8_cuts_179 : decode cX8_cuts 179 = .ok (.if_icmp .ge 13, 3) := by decide +kernel
theorem dX8_cuts_182 : decode cX8_cuts 182 = .ok (.aload_n 0, 1) := by decide +kernel
theorem dX8_cuts_183 : decode cX8_cuts 183 = .ok (.getfield 74, 3) := by decide +kernel
theorem dX8_cuts_186 : decode cX8_cuts 186 = .ok (.iload 7, 2) := by decide +kernel
theorem dX8_cuts_188 : decode cX8_cuts 188 = .ok (.iaload, 1) := by decide +kernel
theorem dX8_cuts_189 : decode cX8_cuts 189 = .ok (.goto 5, 3) := by decide +kernel
theorem dX8_cuts_192 : decode cX8_cuts 192 = .ok (.iload 5, 2) := by decide +kernel
theorem dX8_cuts_194 : decode cX8_cuts 194 = .ok (.istore 9, 2) := by decide +kernel
theorem dX8_cuts_196 : decode cX8_cuts 196 = .ok (.iload 5, 2) := by decide +kernel
theorem dX8_cuts_198 : decode cX8_cuts 198 = .ok (.ldc_w 279, 3) := by decide +kernel
theorem dX8_cuts_201 : decode cX8_cuts 201 = .ok (.if_icmp .eq 11, 3) := by decide +kernel
theorem dX8_cuts_204 : decode cX8_cuts 204 = .ok (.aload_n 0, 1) := by decide +kernel
theorem dX8_cuts_205 : decode cX8_cuts 205 = .ok (.getfield 230, 3) := by decide +kernel
theorem dX8_cuts_208 : decode cX8_cuts 208 = .ok (.iconst 1, 1) := by decide +kernel
theorem dX8_cuts_209 : decode cX8_cuts 209 = .ok (.if_icmp .ne 8, 3) := by decide +kernel
theorem dX8_cuts_212 : decode cX8_cuts 212 = .ok (.iload 9, 2) := by decide +kernel
theorem dX8_cuts_214 : decode cX8_cuts 214 = .ok (.goto 5, 3) := by decide +kernel
theorem dX8_cuts_217 : decode cX8_cuts 217 = .ok (.iload 5, 2) := by decide +kernel
theorem dX8_cuts_219 : decode cX8_cuts 219 = .ok (.istore 5, 2) := by decide +kernel
theorem dX8_cuts_221 : decode cX8_cuts 221 = .ok (.goto (-111), 3) := by decide +kernel
theorem dX8_cuts_224 : decode cX8_cuts 224 = .ok (.iload 6, 2) := by decide +kernel
theorem dX8_cuts_226 : decode cX8_cuts 226 = .ok (.ireturn, 1) := by decide +kernel
theorem dX8_till_0 : decode cX8_till 0 = .ok (.iconst 0, 1) := by decide +kernel
theorem dX8_till_1 : decode cX8_till 1 = .ok (.istore_n 1, 1) := by decide +kernel
theorem dX8_till_2 : decode cX8_till 2 = .ok (.iload_n 1, 1) := by decide +kernel
theorem dX8_till_3 : decode cX8_till 3 = .ok (.bipush 6, 2) := by decide +kernel
theorem dX8_till_5 : decode cX8_till 5 = .ok (.if_icmp .ge 33, 3) := by decide +kernel
theorem dX8_till_8 : decode cX8_till 8 = .ok (.aload_n 0, 1) := by decide +kernel
theorem dX8_till_9 : decode cX8_till 9 = .ok (.getfield 95, 3) := by decide +kernel
theorem dX8_till_12 : decode cX8_till 12 = .ok (.iload_n 1, 1) := by decide +kernel
theorem dX8_till_13 : decode cX8_till 13 = .ok (.aload_n 0, 1) := by decide +kernel
theorem dX8_till_14 : decode cX8_till 14 = .ok (.getfield 31, 3) := by decide +kernel
theorem dX8_till_17 : decode cX8_till 17 = .ok (.iload_n 1, 1) := by decide +kernel
theorem dX8_till_18 : decode cX8_till 18 = .ok (.iaload, 1) := by decide +kernel
theorem dX8_till_19 : decode cX8_till 19 = .ok (.iastore, 1) := by decide +kernel
theorem dX8_till_20 : decode cX8_till 20 = .ok (.aload_n 0, 1) := by decide +kernel
theorem dX8_till_21 : decode cX8_till 21 = .ok (.getfield 98, 3) := by decide +kernel
theorem dX8_till_24 : decode cX8_till 24 = .ok (.iload_n 1, 1) := by decide +kernel
theorem dX8_till_25 : decode cX8_till 25 = .ok (.aload_n 0, 1) := by decide +kernel
theorem dX8_till_26 : decode cX8_till 26 = .ok (.getfield 34, 3) := by decide +kernel
theorem dX8_till_29 : decode cX8_till 29 = .ok (.iload_n 1, 1) := by decide +kernel
theorem dX8_till_30 : decode cX8_till 30 = .ok (.iaload, 1) := by decide +kernel
theorem dX8_till_31 : decode cX8_till 31 = .ok (.iastore, 1) := by decide +kernel
theorem dX8_till_32 : decode cX8_till 32 = .ok (.iinc 1 1, 3) := by decide +kernel
theorem dX8_till_35 : decode cX8_till 35 = .ok (.goto (-33), 3) := by decide +kernel
theorem dX8_till_38 : decode cX8_till 38 = .ok (.iconst 0, 1) := by decide +kernel
theorem dX8_till_39 : decode cX8_till 39 = .ok (.istore_n 1, 1) := by decide +kernel
theorem dX8_till_40 : decode cX8_till 40 = .ok (.iload_n 1, 1) := by decide +kernel
theorem dX8_till_41 : decode cX8_till 41 = .ok (.bipush 60, 2) := by decide +kernel
theorem dX8_till_43 : decode cX8_till 43 = .ok (.if_icmp .ge 20, 3) := by decide +kernel
theorem dX8_till_46 : decode cX8_till 46 = .ok (.aload_n 0, 1) := by decide +kernel
theorem dX8_till_47 : decode cX8_till 47 = .ok (.invokevirtual 294, 3) := by decide +kernel
theorem dX8_till_50 : decode cX8_till 50 = .ok (.ifCond .ne 13, 3) := by decide +kernel
theorem dX8_till_53 : decode cX8_till 53 = .ok (.aload_n 0, 1) := by decide +kernel
theorem dX8_till_54 : decode cX8_till 54 = .ok (.invokevirtual 291, 3) := by decide +kernel
theorem dX8_till_57 : decode cX8_till 57 = .ok (.iinc 1 1, 3) := by decide +kernel
theorem dX8_till_60 : decode cX8_till 60 = .ok (.goto (-20), 3) := by decide +kernel
theorem dX8_till_63 : decode cX8_till 63 = .ok (.iconst 0, 1) := by decide +kernel
theorem dX8_till_64 : decode cX8_till 64 = .ok (.istore_n 2, 1) := by decide +kernel
theorem dX8_till_65 : decode cX8_till 65 = .ok (.iload_n 2, 1) := by decide +kernel
theorem dX8_till_66 : decode cX8_till 66 = .ok (.bipush 6, 2) := by decide +kernel
theorem dX8_till_68 : decode cX8_till 68 = .ok (.if_icmp .ge 33, 3) := by decide +kernel
theorem dX8_till_71 : decode cX8_till 71 = .ok (.aload_n 0, 1) := by decide +kernel
theorem dX8_till_72 : decode cX8_till 72 = .ok (.getfield 31, 3) := by decide +kernel
theorem dX8_till_75 : decode cX8_till 75 = .ok (.iload_n 2, 1) := by decide +kernel
theorem dX8_till_76 : decode cX8_till 76 = .ok (.aload_n 0, 1) := by decide +kernel
theorem dX8_till_77 : decode cX8_till 77 = .ok (.getfield 95, 3) := by decide +kernel
theorem dX8_till_80 : decode cX8_till 80 = .ok (.iload_n 2, 1) := by decide +kernel
theorem dX8_till_81 : decode cX8_till 81 = .ok (.iaload, 1) := by decide +kernel
theorem dX8_till_82 : decode cX8_till 82 = .ok (.iastore, 1) := by decide +kernel
theorem dX8_till_83 : decode cX8_till 83 = .ok (.aload_n 0, 1) := by decide +kernel
theorem dX8_till_84 : decode cX8_till 84 = .ok (.getfield 34, 3) := by decide +kernel
theorem dX8_till_87 : decode cX8_till 87 = .ok (.iload_n 2, 1) := by decide +kernel
theorem dX8_till_88 : decode cX8_till 88 = .ok (.aload_n 0, 1) := by decide +kernel
theorem dX8_till_89 : decode cX8_till 89 = .ok (.getfield 98, 3) := by decide +kernel
theorem dX8_till_92 : decode cX8_till 92 = .ok (.iload_n 2, 1) := by decide +kernel
theorem dX8_till_93 : decode cX8_till 93 = .ok (.iaload, 1) := by decide +kernel
theorem dX8_till_94 : decode cX8_till 94 = .ok (.iastore, 1) := by decide +kernel
theorem dX8_till_95 : decode cX8_till 95 = .ok (.iinc 2 1, 3) := by decide +kernel
theorem dX8_till_98 : decode cX8_till 98 = .ok (.goto (-33), 3) := by decide +kernel
theorem dX8_till_101 : decode cX8_till 101 = .ok (.iload_n 1, 1) := by decide +kernel
theorem dX8_till_102 : decode cX8_till 102 = .ok (.ireturn, 1) := by decide +kernel
theorem dX8_isAged_0 : decode cX8_isAged 0 = .ok (.iconst 0, 1) := by decide +kernel
theorem dX8_isAged_1 : decode cX8_isAged 1 = .ok (.istore_n 3, 1) := by decide +kernel
theorem dX8_isAged_2 : decode cX8_isAged 2 = .ok (.iconst 0, 1) := by decide +kernel
theorem dX8_isAged_3 : decode cX8_isAged 3 = .ok (.istore 4, 2) := by decide +kernel
theorem dX8_isAged_5 : decode cX8_isAged 5 = .ok (.iload 4, 2) := by decide +kernel
theorem dX8_isAged_7 : decode cX8_isAged 7 = .ok (.aload_n 0, 1) := by decide +kernel
theorem dX8_isAged_8 : decode cX8_isAged 8 = .ok (.getfield 127, 3) := by decide +kernel
theorem dX8_isAged_11 : decode cX8_isAged 11 = .ok (.if_icmp .ge 41, 3) := by decide +kernel
theorem dX8_isAged_14 : decode cX8_isAged 14 = .ok (.iload_n 3, 1) := by decide +kernel
theorem dX8_isAged_15 : decode cX8_isAged 15 = .ok (.ifCond .ne 25, 3) := by decide +kernel
theorem dX8_isAged_18 : decode cX8_isAged 18 = .ok (.aload_n 0, 1) := by decide +kernel
theorem dX8_isAged_19 : decode cX8_isAged 19 = .ok (.getfield 37, 3) := by decide +kernel
theorem dX8_isAged_22 : decode cX8_isAged 22 = .ok (.iload 4, 2) := by decide +kernel
theorem dX8_isAged_24 : decode cX8_isAged 24 = .ok (.iaload, 1) := by decide +kernel
theorem dX8_isAged_25 : decode cX8_isAged 25 = .ok (.iload_n 1, 1) := by decide +kernel
theorem dX8_isAged_26 : decode cX8_isAged 26 = .ok (.if_icmp .ne 18, 3) := by decide +kernel
theorem dX8_isAged_29 : decode cX8_isAged 29 = .ok (.aload_n 0, 1) := by decide +kernel
theorem dX8_isAged_30 : decode cX8_isAged 30 = .ok (.getfield 31, 3) := by decide +kernel
theorem dX8_isAged_33 : decode cX8_isAged 33 = .ok (.iload 4, 2) := by decide +kernel
theorem dX8_isAged_35 : decode cX8_isAged 35 = .ok (.iaload, 1) := by decide +kernel
theorem dX8_isAged_36 : decode cX8_isAged 36 = .ok (.iload_n 2, 1) := by decide +kernel
theorem dX8_isAged_37 : decode cX8_isAged 37 = .ok (.if_icmp .ne 7, 3) := by decide +kernel
theorem dX8_isAged_40 : decode cX8_isAged 40 = .ok (.iconst 1, 1) := by decide +kernel
theorem dX8_isAged_41 : decode cX8_isAged 41 = .ok (.goto 4, 3) := by decide +kernel
theorem dX8_isAged_44 : decode cX8_isAged 44 = .ok (.iconst 0, 1) := by decide +kernel
theorem dX8_isAged_45 : decode cX8_isAged 45 = .ok (.istore_n 3, 1) := by decide +kernel
theorem dX8_isAged_46 : decode cX8_isAged 46 = .ok (.iinc 4 1, 3) := by decide +kernel
theorem dX8_isAged_49 : decode cX8_isAged 49 = .ok (.goto (-44), 3) := by decide +kernel
theorem dX8_isAged_52 : decode cX8_isAged 52 = .ok (.iload_n 3, 1) := by decide +kernel
theorem dX8_isAged_53 : decode cX8_isAged 53 = .ok (.ireturn, 1) := by decide +kernel
theorem dX8_isSuspect_0 : decode cX8_isSuspect 0 = .ok (.aload_n 0, 1) := by decide +kernel
theorem dX8_isSuspect_1 : decode cX8_isSuspect 1 = .ok (.getfield 31, 3) := by decide +kernel
theorem dX8_isSuspect_4 : decode cX8_isSuspect 4 = .ok (.iload_n 1, 1) := by decide +kernel
theorem dX8_isSuspect_5 : decode cX8_isSuspect 5 = .ok (.iaload, 1) := by decide +kernel
theorem dX8_isSuspect_6 : decode cX8_isSuspect 6 = .ok (.istore_n 3, 1) := by decide +kernel
theorem dX8_isSuspect_7 : decode cX8_isSuspect 7 = .ok (.iconst 0, 1) := by decide +kernel
theorem dX8_isSuspect_8 : decode cX8_isSuspect 8 = .ok (.istore 4, 2) := by decide +kernel
theorem dX8_isSuspect_10 : decode cX8_isSuspect 10 = .ok (.iconst 0, 1) := by decide +kernel
theorem dX8_isSuspect_11 : decode cX8_isSuspect 11 = .ok (.istore 5, 2) := by decide +kernel
theorem dX8_isSuspect_13 : decode cX8_isSuspect 13 = .ok (.iload 5, 2) := by decide +kernel
theorem dX8_isSuspect_15 : decode cX8_isSuspect 15 = .ok (.bipush 100, 2) := by decide +kernel
theorem dX8_isSuspect_17 : decode cX8_isSuspect 17 = .ok (.if_icmp .ge 54, 3) := by decide +kernel
theorem dX8_isSuspect_20 : decode cX8_isSuspect 20 = .ok (.iload 4, 2) := by decide +kernel
theorem dX8_isSuspect_22 : decode cX8_isSuspect 22 = .ok (.ifCond .ne 49, 3) := by decide +kernel
theorem dX8_isSuspect_25 : decode cX8_isSuspect 25 = .ok (.aload_n 0, 1) := by decide +kernel
theorem dX8_isSuspect_26 : decode cX8_isSuspect 26 = .ok (.iload_n 2, 1) := by decide +kernel
theorem dX8_isSuspect_27 : decode cX8_isSuspect 27 = .ok (.iload 5, 2) := by decide +kernel
theorem dX8_isSuspect_29 : decode cX8_isSuspect 29 = .ok (.invokevirtual 334, 3) := by decide +kernel
theorem dX8_isSuspect_32 : decode cX8_isSuspect 32 = .ok (.ifCond .ne 33, 3) := by decide +kernel
theorem dX8_isSuspect_35 : decode cX8_isSuspect 35 = .ok (.aload_n 0, 1) := by decide +kernel
theorem dX8_isSuspect_36 : decode cX8_isSuspect 36 = .ok (.getfield 31, 3) := by decide +kernel
theorem dX8_isSuspect_39 : decode cX8_isSuspect 39 = .ok (.iload_n 1, 1) := by decide +kernel
theorem dX8_isSuspect_40 : decode cX8_isSuspect 40 = .ok (.iload 5, 2) := by decide +kernel
theorem dX8_isSuspect_42 : decode cX8_isSuspect 42 = .ok (.iastore, 1) := by decide +kernel
theorem dX8_isSuspect_43 : decode cX8_isSuspect 43 = .ok (.aload_n 0, 1) := by decide +kernel
theorem dX8_isSuspect_44 : decode cX8_isSuspect 44 = .ok (.iload_n 2, 1) := by decide +kernel
theorem dX8_isSuspect_45 : decode cX8_isSuspect 45 = .ok (.invokevirtual 276, 3) := by decide +kernel
theorem dX8_isSuspect_48 : decode cX8_isSuspect 48 = .ok (.ifCond .ge 7, 3) := by decide +kernel
theorem dX8_isSuspect_51 : decode cX8_isSuspect 51 = .ok (.iconst 1, 1) := by decide +kernel
theorem dX8_isSuspect_52 : decode cX8_isSuspect 52 = .ok (.goto 4, 3) := by decide +kernel
theorem dX8_isSuspect_55 : decode cX8_isSuspect 55 = .ok (.iconst 0, 1) := by decide +kernel
theorem dX8_isSuspect_56 : decode cX8_isSuspect 56 = .ok (.istore 4, 2) := by decide +kernel
theorem dX8_isSuspect_58 : decode cX8_isSuspect 58 = .ok (.aload_n 0, 1) := by decide +kernel
theorem dX8_isSuspect_59 : decode cX8_isSuspect 59 = .ok (.getfield 31, 3) := by decide +kernel
theorem dX8_isSuspect_62 : decode cX8_isSuspect 62 = .ok (.iload_n 1, 1) := by decide +kernel
theorem dX8_isSuspect_63 : decode cX8_isSuspect 63 = .ok (.iload_n 3, 1) := by decide +kernel
theorem dX8_isSuspect_64 : decode cX8_isSuspect 64 = .ok (.iastore, 1) := by decide +kernel
theorem dX8_isSuspect_65 : decode cX8_isSuspect 65 = .ok (.iinc 5 1, 3) := by decide +kernel
theorem dX8_isSuspect_68 : decode cX8_isSuspect 68 = .ok (.goto (-55), 3) := by decide +kernel
theorem dX8_isSuspect_71 : decode cX8_isSuspect 71 = .ok (.iload 4, 2) := by decide +kernel
theorem dX8_isSuspect_73 : decode cX8_isSuspect 73 = .ok (.ireturn, 1) := by decide +kernel
theorem dX8_isHeeled_0 : decode cX8_isHeeled 0 = .ok (.aload_n 0, 1) := by decide +kernel
theorem dX8_isHeeled_1 : decode cX8_isHeeled 1 = .ok (.getfield 34, 3) := by decide +kernel
theorem dX8_isHeeled_4 : decode cX8_isHeeled 4 = .ok (.iload_n 1, 1) := by decide +kernel
theorem dX8_isHeeled_5 : decode cX8_isHeeled 5 = .ok (.dup2, 1) := by decide +kernel
theorem dX8_isHeeled_6 : decode cX8_isHeeled 6 = .ok (.iaload, 1) := by decide +kernel
theorem dX8_isHeeled_7 : decode cX8_isHeeled 7 = .ok (.iconst 1, 1) := by decide +kernel
theorem dX8_isHeeled_8 : decode cX8_isHeeled 8 = .ok (.isub, 1) := by decide +kernel
theorem dX8_isHeeled_9 : decode cX8_isHeeled 9 = .ok (.iastore, 1) := by decide +kernel
theorem dX8_isHeeled_10 : decode cX8_isHeeled 10 = .ok (.aload_n 0, 1) := by decide +kernel
theorem dX8_isHeeled_11 : decode cX8_isHeeled 11 = .ok (.iload_n 2, 1) := by decide +kernel
theorem dX8_isHeeled_12 : decode cX8_isHeeled 12 = .ok (.invokevirtual 276, 3) := by decide +kernel
theorem dX8_isHeeled_15 : decode cX8_isHeeled 15 = .ok (.ifCond .ge 7, 3) := by decide +kernel
theorem dX8_isHeeled_18 : decode cX8_isHeeled 18 = .ok (.iconst 1, 1) := by decide +kernel
theorem dX8_isHeeled_19 : decode cX8_isHeeled 19 = .ok (.goto 4, 3) := by decide +kernel
theorem dX8_isHeeled_22 : decode cX8_isHeeled 22 = .ok (.iconst 0, 1) := by decide +kernel
theorem dX8_isHeeled_23 : decode cX8_isHeeled 23 = .ok (.istore_n 3, 1) := by decide +kernel
theorem dX8_isHeeled_24 : decode cX8_isHeeled 24 = .ok (.aload_n 0, 1) := by decide +kernel
theorem dX8_isHeeled_25 : decode cX8_isHeeled 25 = .ok (.getfield 34, 3) := by decide +kernel
theorem dX8_isHeeled_28 : decode cX8_isHeeled 28 = .ok (.iload_n 1, 1) := by decide +kernel
theorem dX8_isHeeled_29 : decode cX8_isHeeled 29 = .ok (.dup2, 1) := by decide +kernel
theorem dX8_isHeeled_30 : decode cX8_isHeeled 30 = .ok (.iaload, 1) := by decide +kernel
theorem dX8_isHeeled_31 : decode cX8_isHeeled 31 = .ok (.iconst 1, 1) := by decide +kernel
theorem dX8_isHeeled_32 : decode cX8_isHeeled 32 = .ok (.iadd, 1) := by decide +kernel
theorem dX8_isHeeled_33 : decode cX8_isHeeled 33 = .ok (.iastore, 1) := by decide +kernel
theorem dX8_isHeeled_34 : decode cX8_isHeeled 34 = .ok (.iload_n 3, 1) := by decide +kernel
theorem dX8_isHeeled_35 : decode cX8_isHeeled 35 = .ok (.ireturn, 1) := by decide +kernel
theorem dX8_seen_0 : decode cX8_seen 0 = .ok (.aload_n 0, 1) := by decide +kernel
theorem dX8_seen_1 : decode cX8_seen 1 = .ok (.iload_n 1, 1) := by decide +kernel
theorem dX8_seen_2 : decode cX8_seen 2 = .ok (.invokevirtual 130, 3) := by decide +kernel
theorem dX8_seen_5 : decode cX8_seen 5 = .ok (.ifCond .ne 6, 3) := by decide +kernel
theorem dX8_seen_8 : decode cX8_seen 8 = .ok (.ldc 240, 2) := by decide +kernel
theorem dX8_seen_10 : decode cX8_seen 10 = .ok (.ireturn, 1) := by decide +kernel
theorem dX8_seen_11 : decode cX8_seen 11 = .ok (.iload_n 2, 1) := by decide +kernel
theorem dX8_seen_12 : decode cX8_seen 12 = .ok (.i2l, 1) := by decide +kernel
theorem dX8_seen_13 : decode cX8_seen 13 = .ok (.lconst 0, 1) := by decide +kernel
theorem dX8_seen_14 : decode cX8_seen 14 = .ok (.lconst 1, 1) := by decide +kernel
theorem dX8_seen_15 : decode cX8_seen 15 = .ok (.invokestatic 123, 3) := by decide +kernel
theorem dX8_seen_18 : decode cX8_seen 18 = .ok (.ifCond .ne 6, 3) := by decide +kernel
theorem dX8_seen_21 : decode cX8_seen 21 = .ok (.ldc 136, 2) := by decide +kernel
theorem dX8_seen_23 : decode cX8_seen 23 = .ok (.ireturn, 1) := by decide +kernel
theorem dX8_seen_24 : decode cX8_seen 24 = .ok (.aload_n 0, 1) := by decide +kernel
theorem dX8_seen_25 : decode cX8_seen 25 = .ok (.iload_n 1, 1) := by decide +kernel
theorem dX8_seen_26 : decode cX8_seen 26 = .ok (.invokevirtual 276, 3) := by decide +kernel
theorem dX8_seen_29 : decode cX8_seen 29 = .ok (.ifCond .ge 5, 3) := by decide +kernel
theorem dX8_seen_32 : decode cX8_seen 32 = .ok (.iconst 0, 1) := by decide +kernel
theorem dX8_seen_33 : decode cX8_seen 33 = .ok (.ireturn, 1) := by decide +kernel
theorem dX8_seen_34 : decode cX8_seen 34 = .ok (.iconst 0, 1) := by decide +kernel
theorem dX8_seen_35 : decode cX8_seen 35 = .ok (.istore_n 3, 1) := by decide +kernel
theorem dX8_seen_36 : decode cX8_seen 36 = .ok (.iconst 0, 1) := by decide +kernel
theorem dX8_seen_37 : decode cX8_seen 37 = .ok (.istore 4, 2) := by decide +kernel
theorem dX8_seen_39 : decode cX8_seen 39 = .ok (.iload 4, 2) := by decide +kernel
theorem dX8_seen_41 : decode cX8_seen 41 = .ok (.aload_n 0, 1) := by decide +kernel
theorem dX8_seen_42 : decode cX8_seen 42 = .ok (.getfield 127, 3) := by decide +kernel
theorem dX8_seen_45 : decode cX8_seen 45 = .ok (.if_icmp .ge 70, 3) := by decide +kernel
theorem dX8_seen_48 : decode cX8_seen 48 = .ok (.aload_n 0, 1) := by decide +kernel
theorem dX8_seen_49 : decode cX8_seen 49 = .ok (.getfield 37, 3) := by decide +kernel
theorem dX8_seen_52 : decode cX8_seen 52 = .ok (.iload 4, 2) := by decide +kernel
theorem dX8_seen_54 : decode cX8_seen 54 = .ok (.iaload, 1) := by decide +kernel
theorem dX8_seen_55 : decode cX8_seen 55 = .ok (.iload_n 1, 1) := by decide +kernel
theorem dX8_seen_56 : decode cX8_seen 56 = .ok (.if_icmp .ne 34, 3) := by decide +kernel
theorem dX8_seen_59 : decode cX8_seen 59 = .ok (.iload_n 2, 1) := by decide +kernel
theorem dX8_seen_60 : decode cX8_seen 60 = .ok (.ifCond .ne 16, 3) := by decide +kernel
theorem dX8_seen_63 : decode cX8_seen 63 = .ok (.aload_n 0, 1) := by decide +kernel
theorem dX8_seen_64 : decode cX8_seen 64 = .ok (.iload 4, 2) := by decide +kernel
theorem dX8_seen_66 : decode cX8_seen 66 = .ok (.iload_n 1, 1) := by decide +kernel
theorem dX8_seen_67 : decode cX8_seen 67 = .ok (.invokevirtual 337, 3) := by decide +kernel
theorem dX8_seen_70 : decode cX8_seen 70 = .ok (.ifCond .eq 20, 3) := by decide +kernel
theorem dX8_seen_73 : decode cX8_seen 73 = .ok (.goto 13, 3) := by decide +kernel
theorem dX8_seen_76 : decode cX8_seen 76 = .ok (.aload_n 0, 1) := by decide +kernel
theorem dX8_seen_77 : decode cX8_seen 77 = .ok (.iload 4, 2) := by decide +kernel
theorem dX8_seen_79 : decode cX8_seen 79 = .ok (.iload_n 1, 1) := by decide +kernel
theorem dX8_seen_80 : decode cX8_seen 80 = .ok (.invokevirtual 340, 3) := by decide +kernel
theorem dX8_seen_83 : decode cX8_seen 83 = .ok (.ifCond .eq 7, 3) := by decide +kernel
theorem dX8_seen_86 : decode cX8_seen 86 = .ok (.iconst 1, 1) := by decide +kernel
theorem dX8_seen_87 : decode cX8_seen 87 = .ok (.goto 4, 3) := by decide +kernel
theorem dX8_seen_90 : decode cX8_seen 90 = .ok (.iconst 0, 1) := by decide +kernel
theorem dX8_seen_91 : decode cX8_seen 91 = .ok (.istore 5, 2) := by decide +kernel
theorem dX8_seen_93 : decode cX8_seen 93 = .ok (.iload_n 3, 1) := by decide +kernel
theorem dX8_seen_94 : decode cX8_seen 94 = .ok (.iload 5, 2) := by decide +kernel
theorem dX8_seen_96 : decode cX8_seen 96 = .ok (.ifCond .eq 10, 3) := by decide +kernel
theorem dX8_seen_99 : decode cX8_seen 99 = .ok (.iconst 1, 1) := by decide +kernel
theorem dX8_seen_100 : decode cX8_seen 100 = .ok (.iload 4, 2) := by decide +kernel
theorem dX8_seen_102 : decode cX8_seen 102 = .ok (.ishl, 1) := by decide +kernel
theorem dX8_seen_103 : decode cX8_seen 103 = .ok (.goto 4, 3) := by decide +kernel
theorem dX8_seen_106 : decode cX8_seen 106 = .ok (.iconst 0, 1) := by decide +kernel
theorem dX8_seen_107 : decode cX8_seen 107 = .ok (.ior, 1) := by decide +kernel
theorem dX8_seen_108 : decode cX8_seen 108 = .ok (.istore_n 3, 1) := by decide +kernel
theorem dX8_seen_109 : decode cX8_seen 109 = .ok (.iinc 4 1, 3) := by decide +kernel
theorem dX8_seen_112 : decode cX8_seen 112 = .ok (.goto (-73), 3) := by decide +kernel
theorem dX8_seen_115 : decode cX8_seen 115 = .ok (.iload_n 3, 1) := by decide +kernel
theorem dX8_seen_116 : decode cX8_seen 116 = .ok (.ireturn, 1) := by decide +kernel
theorem dX8_write_0 : decode cX8_write 0 = .ok (.aload_n 0, 1) := by decide +kernel
theorem dX8_write_1 : decode cX8_write 1 = .ok (.iload_n 1, 1) := by decide +kernel
theorem dX8_write_2 : decode cX8_write 2 = .ok (.invokevirtual 248, 3) := by decide +kernel
theorem dX8_write_5 : decode cX8_write 5 = .ok (.ifCond .eq 12, 3) := by decide +kernel
theorem dX8_write_8 : decode cX8_write 8 = .ok (.aload_n 0, 1) := by decide +kernel
theorem dX8_write_9 : decode cX8_write 9 = .ok (.iload_n 2, 1) := by decide +kernel
theorem dX8_write_10 : decode cX8_write 10 = .ok (.iload_n 3, 1) := by decide +kernel
theorem dX8_write_11 : decode cX8_write 11 = .ok (.invokevirtual 236, 3) := by decide +kernel
theorem dX8_write_14 : decode cX8_write 14 = .ok (.ifCond .ne 6, 3) := by decide +kernel
theorem dX8_write_17 : decode cX8_write 17 = .ok (.ldc 240, 2) := by decide +kernel
theorem dX8_write_19 : decode cX8_write 19 = .ok (.ireturn, 1) := by decide +kernel
theorem dX8_write_20 : decode cX8_write 20 = .ok (.aload_n 0, 1) := by decide +kernel
theorem dX8_write_21 : decode cX8_write 21 = .ok (.getfield 227, 3) := by decide +kernel
theorem dX8_write_24 : decode cX8_write 24 = .ok (.bipush 20, 2) := by decide +kernel
theorem dX8_write_26 : decode cX8_write 26 = .ok (.if_icmp .ne 6, 3) := by decide +kernel
theorem dX8_write_29 : decode cX8_write 29 = .ok (.ldc 140, 2) := by decide +kernel
theorem dX8_write_31 : decode cX8_write 31 = .ok (.ireturn, 1) := by decide +kernel
theorem dX8_write_32 : decode cX8_write 32 = .ok (.aload_n 0, 1) := by decide +kernel
theorem dX8_write_33 : decode cX8_write 33 = .ok (.getfield 101, 3) := by decide +kernel
theorem dX8_write_36 : decode cX8_write 36 = .ok (.aload_n 0, 1) := by decide +kernel
theorem dX8_write_37 : decode cX8_write 37 = .ok (.getfield 227, 3) := by decide +kernel
theorem dX8_write_40 : decode cX8_write 40 = .ok (.iload_n 1, 1) := by decide +kernel
theorem dX8_write_41 : decode cX8_write 41 = .ok (.iastore, 1) := by decide +kernel
theorem dX8_write_42 : decode cX8_write 42 = .ok (.aload_n 0, 1) := by decide +kernel
theorem dX8_write_43 : decode cX8_write 43 = .ok (.getfield 104, 3) := by decide +kernel
theorem dX8_write_46 : decode cX8_write 46 = .ok (.aload_n 0, 1) := by decide +kernel
theorem dX8_write_47 : decode cX8_write 47 = .ok (.getfield 227, 3) := by decide +kernel
theorem dX8_write_50 : decode cX8_write 50 = .ok (.iload_n 2, 1) := by decide +kernel
theorem dX8_write_51 : decode cX8_write 51 = .ok (.iastore, 1) := by decide +kernel
theorem dX8_write_52 : decode cX8_write 52 = .ok (.aload_n 0, 1) := by decide +kernel
theorem dX8_write_53 : decode cX8_write 53 = .ok (.getfield 107, 3) := by decide +kernel
theorem dX8_write_56 : decode cX8_write 56 = .ok (.aload_n 0, 1) := by decide +kernel
theorem dX8_write_57 : decode cX8_write 57 = .ok (.getfield 227, 3) := by decide +kernel
theorem dX8_write_60 : decode cX8_write 60 = .ok (.iload_n 3, 1) := by decide +kernel
theorem dX8_write_61 : decode cX8_write 61 = .ok (.iastore, 1) := by decide +kernel
theorem dX8_write_62 : decode cX8_write 62 = .ok (.aload_n 0, 1) := by decide +kernel
theorem dX8_write_63 : decode cX8_write 63 = .ok (.dup, 1) := by decide +kernel
theorem dX8_write_64 : decode cX8_write 64 = .ok (.getfield 227, 3) := by decide +kernel
theorem dX8_write_67 : decode cX8_write 67 = .ok (.iconst 1, 1) := by decide +kernel
theorem dX8_write_68 : decode cX8_write 68 = .ok (.iadd, 1) := by decide +kernel
theorem dX8_write_69 : decode cX8_write 69 = .ok (.putfield 227, 3) := by decide +kernel
theorem dX8_write_72 : decode cX8_write 72 = .ok (.aload_n 0, 1) := by decide +kernel
theorem dX8_write_73 : decode cX8_write 73 = .ok (.getfield 227, 3) := by decide +kernel
theorem dX8_write_76 : decode cX8_write 76 = .ok (.ireturn, 1) := by decide +kernel
theorem dX8_tear_0 : decode cX8_tear 0 = .ok (.aload_n 0, 1) := by decide +kernel
theorem dX8_tear_1 : decode cX8_tear 1 = .ok (.getfield 227, 3) := by decide +kernel
theorem dX8_tear_4 : decode cX8_tear 4 = .ok (.istore_n 1, 1) := by decide +kernel
theorem dX8_tear_5 : decode cX8_tear 5 = .ok (.aload_n 0, 1) := by decide +kernel
theorem dX8_tear_6 : decode cX8_tear 6 = .ok (.iconst 0, 1) := by decide +kernel
theorem dX8_tear_7 : decode cX8_tear 7 = .ok (.putfield 227, 3) := by decide +kernel
theorem dX8_tear_10 : decode cX8_tear 10 = .ok (.iload_n 1, 1) := by decide +kernel
theorem dX8_tear_11 : decode cX8_tear 11 = .ok (.ireturn, 1) := by decide +kernel
theorem dX8_judge_0 : decode cX8_judge 0 = .ok (.iload_n 1, 1) := by decide +kernel
theorem dX8_judge_1 : decode cX8_judge 1 = .ok (.i2l, 1) := by decide +kernel
theorem dX8_judge_2 : decode cX8_judge 2 = .ok (.lconst 0, 1) := by decide +kernel
theorem dX8_judge_3 : decode cX8_judge 3 = .ok (.lconst 1, 1) := by decide +kernel
theorem dX8_judge_4 : decode cX8_judge 4 = .ok (.invokestatic 123, 3) := by decide +kernel
theorem dX8_judge_7 : decode cX8_judge 7 = .ok (.ifCond .ne 6, 3) := by decide +kernel
theorem dX8_judge_10 : decode cX8_judge 10 = .ok (.ldc 136, 2) := by decide +kernel
theorem dX8_judge_12 : decode cX8_judge 12 = .ok (.ireturn, 1) := by decide +kernel
theorem dX8_judge_13 : decode cX8_judge 13 = .ok (.aload_n 0, 1) := by decide +kernel
theorem dX8_judge_14 : decode cX8_judge 14 = .ok (.iconst 2, 1) := by decide +kernel
theorem dX8_judge_15 : decode cX8_judge 15 = .ok (.invokevirtual 343, 3) := by decide +kernel
theorem dX8_judge_18 : decode cX8_judge 18 = .ok (.iconst 0, 1) := by decide +kernel
theorem dX8_judge_19 : decode cX8_judge 19 = .ok (.istore_n 2, 1) := by decide +kernel
theorem dX8_judge_20 : decode cX8_judge 20 = .ok (.iload_n 2, 1) := by decide +kernel
theorem dX8_judge_21 : decode cX8_judge 21 = .ok (.bipush 6, 2) := by decide +kernel
theorem dX8_judge_23 : decode cX8_judge 23 = .ok (.if_icmp .ge 14, 3) := by decide +kernel
theorem dX8_judge_26 : decode cX8_judge 26 = .ok (.aload_n 0, 1) := by decide +kernel
theorem dX8_judge_27 : decode cX8_judge 27 = .ok (.iload_n 2, 1) := by decide +kernel
theorem dX8_judge_28 : decode cX8_judge 28 = .ok (.invokevirtual 263, 3) := by decide +kernel
theorem dX8_judge_31 : decode cX8_judge 31 = .ok (.iinc 2 1, 3) := by decide +kernel
theorem dX8_judge_34 : decode cX8_judge 34 = .ok (.goto (-14), 3) := by decide +kernel
theorem dX8_judge_37 : decode cX8_judge 37 = .ok (.iconst (-1), 1) := by decide +kernel
theorem dX8_judge_38 : decode cX8_judge 38 = .ok (.istore_n 2, 1) := by decide +kernel
theorem dX8_judge_39 : decode cX8_judge 39 = .ok (.iconst 0, 1) := by decide +kernel
theorem dX8_judge_40 : decode cX8_judge 40 = .ok (.istore_n 3, 1) := by decide +kernel
theorem dX8_judge_41 : decode cX8_judge 41 = .ok (.iconst 0, 1) := by decide +kernel
theorem dX8_judge_42 : decode cX8_judge 42 = .ok (.istore 4, 2) := by decide +kernel
theorem dX8_judge_44 : decode cX8_judge 44 = .ok (.iload 4, 2) := by decide +kernel
theorem dX8_judge_46 : decode cX8_judge 46 = .ok (.aload_n 0, 1) := by decide +kernel
theorem dX8_judge_47 : decode cX8_judge 47 = .ok (.getfield 227, 3) := by decide +kernel
theorem dX8_judge_50 : decode cX8_judge 50 = .ok (.if_icmp .ge 75, 3) := by decide +kernel
theorem dX8_judge_53 : decode cX8_judge 53 = .ok (.iload_n 2, 1) := by decide +kernel
theorem dX8_judge_54 : decode cX8_judge 54 = .ok (.ifCond .ge 71, 3) := by decide +kernel
theorem dX8_judge_57 : decode cX8_judge 57 = .ok (.aload_n 0, 1) := by decide +kernel
theorem dX8_judge_58 : decode cX8_judge 58 = .ok (.aload_n 0, 1) := by decide +kernel
theorem dX8_judge_59 : decode cX8_judge 59 = .ok (.getfield 101, 3) := by decide +kernel
theorem dX8_judge_62 : decode cX8_judge 62 = .ok (.iload 4, 2) := by decide +kernel
theorem dX8_judge_64 : decode cX8_judge 64 = .ok (.iaload, 1) := by decide +kernel
theorem dX8_judge_65 : decode cX8_judge 65 = .ok (.aload_n 0, 1) := by decide +kernel
theorem dX8_judge_66 : decode cX8_judge 66 = .ok (.getfield 104, 3) := by decide +kernel
theorem dX8_judge_69 : decode cX8_judge 69 = .ok (.iload 4, 2) := by decide +kernel
theorem dX8_judge_71 : decode cX8_judge 71 = .ok (.iaload, 1) := by decide +kernel
theorem dX8_judge_72 : decode cX8_judge 72 = .ok (.aload_n 0, 1) := by decide +kernel
theorem dX8_judge_73 : decode cX8_judge 73 = .ok (.getfield 107, 3) := by decide +kernel
theorem dX8_judge_76 : decode cX8_judge 76 = .ok (.iload 4, 2) := by decide +kernel
theorem dX8_judge_78 : decode cX8_judge 78 = .ok (.iaload, 1) := by decide +kernel
theorem dX8_judge_79 : decode cX8_judge 79 = .ok (.invokevirtual 255, 3) := by decide +kernel
theorem dX8_judge_82 : decode cX8_judge 82 = .ok (.ifCond .eq 34, 3) := by decide +kernel
theorem dX8_judge_85 : decode cX8_judge 85 = .ok (.iload_n 3, 1) := by decide +kernel
theorem dX8_judge_86 : decode cX8_judge 86 = .ok (.aload_n 0, 1) := by decide +kernel
theorem dX8_judge_87 : decode cX8_judge 87 = .ok (.aload_n 0, 1) := by decide +kernel
theorem dX8_judge_88 : decode cX8_judge 88 = .ok (.getfield 101, 3) := by decide +kernel
theorem dX8_judge_91 : decode cX8_judge 91 = .ok (.iload 4, 2) := by decide +kernel
theorem dX8_judge_93 : decode cX8_judge 93 = .ok (.iaload, 1) := by decide +kernel
theorem dX8_judge_94 : decode cX8_judge 94 = .ok (.aload_n 0, 1) := by decide +kernel
theorem dX8_judge_95 : decode cX8_judge 95 = .ok (.getfield 104, 3) := by decide +kernel
theorem dX8_judge_98 : decode cX8_judge 98 = .ok (.iload 4, 2) := by decide +kernel
theorem dX8_judge_100 : decode cX8_judge 100 = .ok (.iaload, 1) := by decide +kernel
theorem dX8_judge_101 : decode cX8_judge 101 = .ok (.aload_n 0, 1) := by decide +kernel
theorem dX8_judge_102 : decode cX8_judge 102 = .ok (.getfield 107, 3) := by decide +kernel
theorem dX8_judge_105 : decode cX8_judge 105 = .ok (.iload 4, 2) := by decide +kernel
theorem dX8_judge_107 : decode cX8_judge 107 = .ok (.iaload, 1) := by decide +kernel
theorem dX8_judge_108 : decode cX8_judge 108 = .ok (.invokevirtual 300, 3) := by decide +kernel
theorem dX8_judge_111 : decode cX8_judge 111 = .ok (.iadd, 1) := by decide +kernel
theorem dX8_judge_112 : decode cX8_judge 112 = .ok (.istore_n 3, 1) := by decide +kernel
theorem dX8_judge_113 : decode cX8_judge 113 = .ok (.goto 6, 3) := by decide +kernel
theorem dX8_judge_116 : decode cX8_judge 116 = .ok (.iload 4, 2) := by decide +kernel
theorem dX8_judge_118 : decode cX8_judge 118 = .ok (.istore_n 2, 1) := by decide +kernel
theorem dX8_judge_119 : decode cX8_judge 119 = .ok (.iinc 4 1, 3) := by decide +kernel
theorem dX8_judge_122 : decode cX8_judge 122 = .ok (.goto (-78), 3) := by decide +kernel
theorem dX8_judge_125 : decode cX8_judge 125 = .ok (.aload_n 0, 1) := by decide +kernel
theorem dX8_judge_126 : decode cX8_judge 126 = .ok (.iconst 2, 1) := by decide +kernel
theorem dX8_judge_127 : decode cX8_judge 127 = .ok (.invokevirtual 346, 3) := by decide +kernel
theorem dX8_judge_130 : decode cX8_judge 130 = .ok (.iload_n 1, 1) := by decide +kernel
theorem dX8_judge_131 : decode cX8_judge 131 = .ok (.ifCond .ne 7, 3) := by decide +kernel
theorem dX8_judge_134 : decode cX8_judge 134 = .ok (.iload_n 2, 1) := by decide +kernel
theorem dX8_judge_135 : decode cX8_judge 135 = .ok (.goto 4, 3) := by decide +kernel
theorem dX8_judge_138 : decode cX8_judge 138 = .ok (.iload_n 3, 1) := by decide +kernel
theorem dX8_judge_139 : decode cX8_judge 139 = .ok (.ireturn, 1) := by decide +kernel
theorem dX8_draw_0 : decode cX8_draw 0 = .ok (.aload_n 0, 1) := by decide +kernel
theorem dX8_draw_1 : decode cX8_draw 1 = .ok (.aload_n 0, 1) := by decide +kernel
theorem dX8_draw_2 : decode cX8_draw 2 = .ok (.getfield 349, 3) := by decide +kernel
theorem dX8_draw_5 : decode cX8_draw 5 = .ok (.i2l, 1) := by decide +kernel
theorem dX8_draw_6 : decode cX8_draw 6 = .ok (.ldc2_w 352, 3) := by decide +kernel
theorem dX8_draw_9 : decode cX8_draw 9 = .ok (.lmul, 1) := by decide +kernel
theorem dX8_draw_10 : decode cX8_draw 10 = .ok (.ldc2_w 354, 3) := by decide +kernel
theorem dX8_draw_13 : decode cX8_draw 13 = .ok (.ladd, 1) := by decide +kernel
theorem dX8_draw_14 : decode cX8_draw 14 = .ok (.ldc2_w 356, 3) := by decide +kernel
theorem dX8_draw_17 : decode cX8_draw 17 = .ok (.lrem, 1) := by decide +kernel
theorem dX8_draw_18 : decode cX8_draw 18 = .ok (.l2i, 1) := by decide +kernel
theorem dX8_draw_19 : decode cX8_draw 19 = .ok (.putfield 349, 3) := by decide +kernel
theorem dX8_draw_22 : decode cX8_draw 22 = .ok (.aload_n 0, 1) := by decide +kernel
theorem dX8_draw_23 : decode cX8_draw 23 = .ok (.getfield 349, 3) := by decide +kernel
theorem dX8_draw_26 : decode cX8_draw 26 = .ok (.ldc_w 358, 3) := by decide +kernel
theorem dX8_draw_29 : decode cX8_draw 29 = .ok (.idiv, 1) := by decide +kernel
theorem dX8_draw_30 : decode cX8_draw 30 = .ok (.iload_n 1, 1) := by decide +kernel
theorem dX8_draw_31 : decode cX8_draw 31 = .ok (.irem, 1) := by decide +kernel
theorem dX8_draw_32 : decode cX8_draw 32 = .ok (.ireturn, 1) := by decide +kernel
theorem dX8_drift_0 : decode cX8_drift 0 = .ok (.iload_n 1, 1) := by decide +kernel
theorem dX8_drift_1 : decode cX8_drift 1 = .ok (.i2l, 1) := by decide +kernel
theorem dX8_drift_2 : decode cX8_drift 2 = .ok (.lconst 1, 1) := by decide +kernel
theorem dX8_drift_3 : decode cX8_drift 3 = .ok (.ldc2_w 359, 3) := by decide +kernel
theorem dX8_drift_6 : decode cX8_drift 6 = .ok (.invokestatic 123, 3) := by decide +kernel
theorem dX8_drift_9 : decode cX8_drift 9 = .ok (.ifCond .ne 6, 3) := by decide +kernel
theorem dX8_drift_12 : decode cX8_drift 12 = .ok (.ldc 136, 2) := by decide +kernel
theorem dX8_drift_14 : decode cX8_drift 14 = .ok (.ireturn, 1) := by decide +kernel
theorem dX8_drift_15 : decode cX8_drift 15 = .ok (.aload_n 0, 1) := by decide +kernel
theorem dX8_drift_16 : decode cX8_drift 16 = .ok (.getfield 120, 3) := by decide +kernel
theorem dX8_drift_19 : decode cX8_drift 19 = .ok (.ifCond .eq 10, 3) := by decide +kernel
theorem dX8_drift_22 : decode cX8_drift 22 = .ok (.aload_n 0, 1) := by decide +kernel
theorem dX8_drift_23 : decode cX8_drift 23 = .ok (.getfield 127, 3) := by decide +kernel
theorem dX8_drift_26 : decode cX8_drift 26 = .ok (.ifCond .ne 7, 3) := by decide +kernel
theorem dX8_drift_29 : decode cX8_drift 29 = .ok (.ldc_w 259, 3) := by decide +kernel
theorem dX8_drift_32 : decode cX8_drift 32 = .ok (.ireturn, 1) := by decide +kernel
theorem dX8_drift_33 : decode cX8_drift 33 = .ok (.iconst 0, 1) := by decide +kernel
theorem dX8_drift_34 : decode cX8_drift 34 = .ok (.istore_n 2, 1) := by decide +kernel
theorem dX8_drift_35 : decode cX8_drift 35 = .ok (.iconst 0, 1) := by decide +kernel
theorem dX8_drift_36 : decode cX8_drift 36 = .ok (.istore_n 3, 1) := by decide +kernel
theorem dX8_drift_37 : decode cX8_drift 37 = .ok (.iload_n 3, 1) := by decide +kernel
theorem dX8_drift_38 : decode cX8_drift 38 = .ok (.iload_n 1, 1) := by decide +kernel
theorem dX8_drift_39 : decode cX8_drift 39 = .ok (.if_icmp .ge 108, 3) := by decide +kernel
theorem dX8_drift_42 : decode cX8_drift 42 = .ok (.aload_n 0, 1) := by decide +kernel
theorem dX8_drift_43 : decode cX8_drift 43 = .ok (.aload_n 0, 1) := by decide +kernel
theorem dX8_drift_44 : decode cX8_drift 44 = .ok (.getfield 127, 3) := by decide +kernel
theorem dX8_drift_47 : decode cX8_drift 47 = .ok (.invokevirtual 361, 3) := by decide +kernel
theorem dX8_drift_50 : decode cX8_drift 50 = .ok (.istore 4, 2) := by decide +kernel
theorem dX8_drift_52 : decode cX8_drift 52 = .ok (.aload_n 0, 1) := by decide +kernel
theorem dX8_drift_53 : decode cX8_drift 53 = .ok (.getfield 37, 3) := by decide +kernel
theorem dX8_drift_56 : decode cX8_drift 56 = .ok (.iload 4, 2) := by decide +kernel
theorem dX8_drift_58 : decode cX8_drift 58 = .ok (.iaload, 1) := by decide +kernel
theorem dX8_drift_59 : decode cX8_drift 59 = .ok (.ifCond .lt 29, 3) := by decide +kernel
theorem dX8_drift_62 : decode cX8_drift 62 = .ok (.aload_n 0, 1) := by decide +kernel
theorem dX8_drift_63 : decode cX8_drift 63 = .ok (.getfield 37, 3) := by decide +kernel
theorem dX8_drift_66 : decode cX8_drift 66 = .ok (.iload 4, 2) := by decide +kernel
theorem dX8_drift_68 : decode cX8_drift 68 = .ok (.iaload, 1) := by decide +kernel
theorem dX8_drift_69 : decode cX8_drift 69 = .ok (.istore 5, 2) := by decide +kernel
theorem dX8_drift_71 : decode cX8_drift 71 = .ok (.aload_n 0, 1) := by decide +kernel
theorem dX8_drift_72 : decode cX8_drift 72 = .ok (.iload 4, 2) := by decide +kernel
theorem dX8_drift_74 : decode cX8_drift 74 = .ok (.invokevirtual 263, 3) := by decide +kernel
theorem dX8_drift_77 : decode cX8_drift 77 = .ok (.aload_n 0, 1) := by decide +kernel
theorem dX8_drift_78 : decode cX8_drift 78 = .ok (.iload 5, 2) := by decide +kernel
theorem dX8_drift_80 : decode cX8_drift 80 = .ok (.invokevirtual 286, 3) := by decide +kernel
theorem dX8_drift_83 : decode cX8_drift 83 = .ok (.istore 6, 2) := by decide +kernel
theorem dX8_drift_85 : decode cX8_drift 85 = .ok (.goto 56, 3) := by decide +kernel
theorem dX8_drift_88 : decode cX8_drift 88 = .ok (.aload_n 0, 1) := by decide +kernel
theorem dX8_drift_89 : decode cX8_drift 89 = .ok (.aload_n 0, 1) := by decide +kernel
theorem dX8_drift_90 : decode cX8_drift 90 = .ok (.getfield 120, 3) := by decide +kernel
theorem dX8_drift_93 : decode cX8_drift 93 = .ok (.invokevirtual 361, 3) := by decide +kernel
theorem dX8_drift_96 : decode cX8_drift 96 = .ok (.istore 5, 2) := by decide +kernel
theorem dX8_drift_98 : decode cX8_drift 98 = .ok (.aload_n 0, 1) := by decide +kernel
theorem dX8_drift_99 : decode cX8_drift 99 = .ok (.aload_n 0, 1) := by decide +kernel
theorem dX8_drift_100 : decode cX8_drift 100 = .ok (.getfield 7, 3) := by decide +kernel
theorem dX8_drift_103 : decode cX8_drift 103 = .ok (.iload 5, 2) := by decide +kernel
theorem dX8_drift_105 : decode cX8_drift 105 = .ok (.iaload, 1) := by decide +kernel
theorem dX8_drift_106 : decode cX8_drift 106 = .ok (.invokevirtual 361, 3) := by decide +kernel
theorem dX8_drift_109 : decode cX8_drift 109 = .ok (.istore 6, 2) := by decide +kernel
theorem dX8_drift_111 : decode cX8_drift 111 = .ok (.iload_n 2, 1) := by decide +kernel
theorem dX8_drift_112 : decode cX8_drift 112 = .ok (.aload_n 0, 1) := by decide +kernel
theorem dX8_drift_113 : decode cX8_drift 113 = .ok (.iload 4, 2) := by decide +kernel
theorem dX8_drift_115 : decode cX8_drift 115 = .ok (.iload 5, 2) := by decide +kernel
theorem dX8_drift_117 : decode cX8_drift 117 = .ok (.iload 6, 2) := by decide +kernel
theorem dX8_drift_119 : decode cX8_drift 119 = .ok (.invokevirtual 255, 3) := by decide +kernel
theorem dX8_drift_122 : decode cX8_drift 122 = .ok (.ifCond .eq 16, 3) := by decide +kernel
theorem dX8_drift_125 : decode cX8_drift 125 = .ok (.aload_n 0, 1) := by decide +kernel
theorem dX8_drift_126 : decode cX8_drift 126 = .ok (.iload 4, 2) := by decide +kernel
theorem dX8_drift_128 : decode cX8_drift 128 = .ok (.iload 5, 2) := by decide +kernel
theorem dX8_drift_130 : decode cX8_drift 130 = .ok (.iload 6, 2) := by decide +kernel
theorem dX8_drift_132 : decode cX8_drift 132 = .ok (.invokevirtual 300, 3) := by decide +kernel
theorem dX8_drift_135 : decode cX8_drift 135 = .ok (.goto 4, 3) := by decide +kernel
theorem dX8_drift_138 : decode cX8_drift 138 = .ok (.iconst 0, 1) := by decide +kernel
theorem dX8_drift_139 : decode cX8_drift 139 = .ok (.iadd, 1) := by decide +kernel
theorem dX8_drift_140 : decode cX8_drift 140 = .ok (.istore_n 2, 1) := by decide +kernel
theorem dX8_drift_141 : decode cX8_drift 141 = .ok (.iinc 3 1, 3) := by decide +kernel
theorem dX8_drift_144 : decode cX8_drift 144 = .ok (.goto (-107), 3) := by decide +kernel
theorem dX8_drift_147 : decode cX8_drift 147 = .ok (.iload_n 2, 1) := by decide +kernel
theorem dX8_drift_148 : decode cX8_drift 148 = .ok (.ireturn, 1) := by decide +kernel
theorem dX8_empty_0 : decode cX8_empty 0 = .ok (.aload_n 0, 1) := by decide +kernel
theorem dX8_empty_1 : decode cX8_empty 1 = .ok (.invokevirtual 233, 3) := by decide +kernel
theorem dX8_empty_4 : decode cX8_empty 4 = .ok (.invokestatic 303, 3) := by decide +kernel
theorem dX8_empty_7 : decode cX8_empty 7 = .ok (.istore_n 1, 1) := by decide +kernel
theorem dX8_empty_8 : decode cX8_empty 8 = .ok (.iconst 0, 1) := by decide +kernel
theorem dX8_empty_9 : decode cX8_empty 9 = .ok (.istore_n 2, 1) := by decide +kernel
theorem dX8_empty_10 : decode cX8_empty 10 = .ok (.iload_n 2, 1) := by decide +kernel
theorem dX8_empty_11 : decode cX8_empty 11 = .ok (.bipush 6, 2) := by decide +kernel
theorem dX8_empty_13 : decode cX8_empty 13 = .ok (.if_icmp .ge 14, 3) := by decide +kernel
theorem dX8_empty_16 : decode cX8_empty 16 = .ok (.aload_n 0, 1) := by decide +kernel
theorem dX8_empty_17 : decode cX8_empty 17 = .ok (.iload_n 2, 1) := by decide +kernel
theorem dX8_empty_18 : decode cX8_empty 18 = .ok (.invokevirtual 263, 3) := by decide +kernel
theorem dX8_empty_21 : decode cX8_empty 21 = .ok (.iinc 2 1, 3) := by decide +kernel
theorem dX8_empty_24 : decode cX8_empty 24 = .ok (.goto (-14), 3) := by decide +kernel
theorem dX8_empty_27 : decode cX8_empty 27 = .ok (.iload_n 1, 1) := by decide +kernel
theorem dX8_empty_28 : decode cX8_empty 28 = .ok (.ireturn, 1) := by decide +kernel
theorem dX8_seed_0 : decode cX8_seed 0 = .ok (.iload_n 1, 1) := by decide +kernel
theorem dX8_seed_1 : decode cX8_seed 1 = .ok (.ifCond .ge 6, 3) := by decide +kernel
theorem dX8_seed_4 : decode cX8_seed 4 = .ok (.ldc 136, 2) := by decide +kernel
theorem dX8_seed_6 : decode cX8_seed 6 = .ok (.ireturn, 1) := by decide +kernel
theorem dX8_seed_7 : decode cX8_seed 7 = .ok (.aload_n 0, 1) := by decide +kernel
theorem dX8_seed_8 : decode cX8_seed 8 = .ok (.getfield 349, 3) := by decide +kernel
theorem dX8_seed_11 : decode cX8_seed 11 = .ok (.istore_n 2, 1) := by decide +kernel
theorem dX8_seed_12 : decode cX8_seed 12 = .ok (.aload_n 0, 1) := by decide +kernel
theorem dX8_seed_13 : decode cX8_seed 13 = .ok (.iload_n 1, 1) := by decide +kernel
theorem dX8_seed_14 : decode cX8_seed 14 = .ok (.putfield 349, 3) := by decide +kernel
theorem dX8_seed_17 : decode cX8_seed 17 = .ok (.iload_n 2, 1) := by decide +kernel
theorem dX8_seed_18 : decode cX8_seed 18 = .ok (.ireturn, 1) := by decide +kernel
theorem dX8_save_0 : decode cX8_save 0 = .ok (.bipush 40, 2) := by decide +kernel
theorem dX8_save_2 : decode cX8_save 2 = .ok (.iload_n 1, 1) := by decide +kernel
theorem dX8_save_3 : decode cX8_save 3 = .ok (.imul, 1) := by decide +kernel
theorem dX8_save_4 : decode cX8_save 4 = .ok (.istore_n 2, 1) := by decide +kernel
theorem dX8_save_5 : decode cX8_save 5 = .ok (.iconst 0, 1) := by decide +kernel
theorem dX8_save_6 : decode cX8_save 6 = .ok (.istore_n 3, 1) := by decide +kernel
theorem dX8_save_7 : decode cX8_save 7 = .ok (.iload_n 3, 1) := by decide +kernel
theorem dX8_save_8 : decode cX8_save 8 = .ok (.bipush 6, 2) := by decide +kernel
theorem dX8_save_10 : decode cX8_save 10 = .ok (.if_icmp .ge 91, 3) := by decide +kernel
theorem dX8_save_13 : decode cX8_save 13 = .ok (.aload_n 0, 1) := by decide +kernel
theorem dX8_save_14 : decode cX8_save 14 = .ok (.getfield 110, 3) := by decide +kernel
theorem dX8_save_17 : decode cX8_save 17 = .ok (.iload_n 2, 1) := by decide +kernel
theorem dX8_save_18 : decode cX8_save 18 = .ok (.iload_n 3, 1) := by decide +kernel
theorem dX8_save_19 : decode cX8_save 19 = .ok (.iadd, 1) := by decide +kernel
theorem dX8_save_20 : decode cX8_save 20 = .ok (.aload_n 0, 1) := by decide +kernel
theorem dX8_save_21 : decode cX8_save 21 = .ok (.getfield 37, 3) := by decide +kernel
theorem dX8_save_24 : decode cX8_save 24 = .ok (.iload_n 3, 1) := by decide +kernel
theorem dX8_save_25 : decode cX8_save 25 = .ok (.iaload, 1) := by decide +kernel
theorem dX8_save_26 : decode cX8_save 26 = .ok (.iastore, 1) := by decide +kernel
theorem dX8_save_27 : decode cX8_save 27 = .ok (.aload_n 0, 1) := by decide +kernel
theorem dX8_save_28 : decode cX8_save 28 = .ok (.getfield 110, 3) := by decide +kernel
theorem dX8_save_31 : decode cX8_save 31 = .ok (.iload_n 2, 1) := by decide +kernel
theorem dX8_save_32 : decode cX8_save 32 = .ok (.bipush 6, 2) := by decide +kernel
theorem dX8_save_34 : decode cX8_save 34 = .ok (.iadd, 1) := by decide +kernel
theorem dX8_save_35 : decode cX8_save 35 = .ok (.iload_n 3, 1) := by decide +kernel
theorem dX8_save_36 : decode cX8_save 36 = .ok (.iadd, 1) := by decide +kernel
theorem dX8_save_37 : decode cX8_save 37 = .ok (.aload_n 0, 1) := by decide +kernel
theorem dX8_save_38 : decode cX8_save 38 = .ok (.getfield 40, 3) := by decide +kernel
theorem dX8_save_41 : decode cX8_save 41 = .ok (.iload_n 3, 1) := by decide +kernel
theorem dX8_save_42 : decode cX8_save 42 = .ok (.iaload, 1) := by decide +kernel
theorem dX8_save_43 : decode cX8_save 43 = .ok (.iastore, 1) := by decide +kernel
theorem dX8_save_44 : decode cX8_save 44 = .ok (.aload_n 0, 1) := by decide +kernel
theorem dX8_save_45 : decode cX8_save 45 = .ok (.getfield 110, 3) := by decide +kernel
theorem dX8_save_48 : decode cX8_save 48 = .ok (.iload_n 2, 1) := by decide +kernel
theorem dX8_save_49 : decode cX8_save 49 = .ok (.bipush 12, 2) := by decide +kernel
theorem dX8_save_51 : decode cX8_save 51 = .ok (.iadd, 1) := by decide +kernel
theorem dX8_save_52 : decode cX8_save 52 = .ok (.iload_n 3, 1) := by decide +kernel
theorem dX8_save_53 : decode cX8_save 53 = .ok (.iadd, 1) := by decide +kernel
theorem dX8_save_54 : decode cX8_save 54 = .ok (.aload_n 0, 1) := by decide +kernel
theorem dX8_save_55 : decode cX8_save 55 = .ok (.getfield 43, 3) := by decide +kernel
theorem dX8_save_58 : decode cX8_save 58 = .ok (.iload_n 3, 1) := by decide +kernel
theorem dX8_save_59 : decode cX8_save 59 = .ok (.iaload, 1) := by decide +kernel
theorem dX8_save_60 : decode cX8_save 60 = .ok (.iastore, 1) := by decide +kernel
theorem dX8_save_61 : decode cX8_save 61 = .ok (.aload_n 0, 1) := by decide +kernel
theorem dX8_save_62 : decode cX8_save 62 = .ok (.getfield 110, 3) := by decide +kernel
theorem dX8_save_65 : decode cX8_save 65 = .ok (.iload_n 2, 1) := by decide +kernel
theorem dX8_save_66 : decode cX8_save 66 = .ok (.bipush 18, 2) := by decide +kernel
theorem dX8_save_68 : decode cX8_save 68 = .ok (.iadd, 1) := by decide +kernel
theorem dX8_save_69 : decode cX8_save 69 = .ok (.iload_n 3, 1) := by decide +kernel
theorem dX8_save_70 : decode cX8_save 70 = .ok (.iadd, 1) := by decide +kernel
theorem dX8_save_71 : decode cX8_save 71 = .ok (.aload_n 0, 1) := by decide +kernel
theorem dX8_save_72 : decode cX8_save 72 = .ok (.getfield 31, 3) := by decide +kernel
theorem dX8_save_75 : decode cX8_save 75 = .ok (.iload_n 3, 1) := by decide +kernel
theorem dX8_save_76 : decode cX8_save 76 = .ok (.iaload, 1) := by decide +kernel
theorem dX8_save_77 : decode cX8_save 77 = .ok (.iastore, 1) := by decide +kernel
theorem dX8_save_78 : decode cX8_save 78 = .ok (.aload_n 0, 1) := by decide +kernel
theorem dX8_save_79 : decode cX8_save 79 = .ok (.getfield 110, 3) := by decide +kernel
theorem dX8_save_82 : decode cX8_save 82 = .ok (.iload_n 2, 1) := by decide +kernel
theorem dX8_save_83 : decode cX8_save 83 = .ok (.bipush 24, 2) := by decide +kernel
theorem dX8_save_85 : decode cX8_save 85 = .ok (.iadd, 1) := by decide +kernel
theorem dX8_save_86 : decode cX8_save 86 = .ok (.iload_n 3, 1) := by decide +kernel
theorem dX8_save_87 : decode cX8_save 87 = .ok (.iadd, 1) := by decide +kernel
theorem dX8_save_88 : decode cX8_save 88 = .ok (.aload_n 0, 1) := by decide +kernel
theorem dX8_save_89 : decode cX8_save 89 = .ok (.getfield 34, 3) := by decide +kernel
theorem dX8_save_92 : decode cX8_save 92 = .ok (.iload_n 3, 1) := by decide +kernel
theorem dX8_save_93 : decode cX8_save 93 = .ok (.iaload, 1) := by decide +kernel
theorem dX8_save_94 : decode cX8_save 94 = .ok (.iastore, 1) := by decide +kernel
theorem dX8_save_95 : decode cX8_save 95 = .ok (.iinc 3 1, 3) := by decide +kernel
theorem dX8_save_98 : decode cX8_save 98 = .ok (.goto (-91), 3) := by decide +kernel
theorem dX8_save_101 : decode cX8_save 101 = .ok (.aload_n 0, 1) := by decide +kernel
theorem dX8_save_102 : decode cX8_save 102 = .ok (.getfield 110, 3) := by decide +kernel
theorem dX8_save_105 : decode cX8_save 105 = .ok (.iload_n 2, 1) := by decide +kernel
theorem dX8_save_106 : decode cX8_save 106 = .ok (.bipush 30, 2) := by decide +kernel
theorem dX8_save_108 : decode cX8_save 108 = .ok (.iadd, 1) := by decide +kernel
theorem dX8_save_109 : decode cX8_save 109 = .ok (.aload_n 0, 1) := by decide +kernel
theorem dX8_save_110 : decode cX8_save 110 = .ok (.getfield 230, 3) := by decide +kernel
theorem dX8_save_113 : decode cX8_save 113 = .ok (.iastore, 1) := by decide +kernel
theorem dX8_save_114 : decode cX8_save 114 = .ok (.aload_n 0, 1) := by decide +kernel
theorem dX8_save_115 : decode cX8_save 115 = .ok (.getfield 110, 3) := by decide +kernel
theorem dX8_save_118 : decode cX8_save 118 = .ok (.iload_n 2, 1) := by decide +kernel
theorem dX8_save_119 : decode cX8_save 119 = .ok (.bipush 31, 2) := by decide +kernel
theorem dX8_save_121 : decode cX8_save 121 = .ok (.iadd, 1) := by decide +kernel
theorem dX8_save_122 : decode cX8_save 122 = .ok (.aload_n 0, 1) := by decide +kernel
theorem dX8_save_123 : decode cX8_save 123 = .ok (.getfield 349, 3) := by decide +kernel
theorem dX8_save_126 : decode cX8_save 126 = .ok (.iastore, 1) := by decide +kernel
theorem dX8_save_127 : decode cX8_save 127 = .ok (.return_, 1) := by decide +kernel
theorem dX8_load_0 : decode cX8_load 0 = .ok (.bipush 40, 2) := by decide +kernel
theorem dX8_load_2 : decode cX8_load 2 = .ok (.iload_n 1, 1) := by decide +kernel
theorem dX8_load_3 : decode cX8_load 3 = .ok (.imul, 1) := by decide +kernel
theorem dX8_load_4 : decode cX8_load 4 = .ok (.istore_n 2, 1) := by decide +kernel
theorem dX8_load_5 : decode cX8_load 5 = .ok (.iconst 0, 1) := by decide +kernel
theorem dX8_load_6 : decode cX8_load 6 = .ok (.istore_n 3, 1) := by decide +kernel
theorem dX8_load_7 : decode cX8_load 7 = .ok (.iload_n 3, 1) := by decide +kernel
theorem dX8_load_8 : decode cX8_load 8 = .ok (.bipush 6, 2) := by decide +kernel
theorem dX8_load_10 : decode cX8_load 10 = .ok (.if_icmp .ge 91, 3) := by decide +kernel
theorem dX8_load_13 : decode cX8_load 13 = .ok (.aload_n 0, 1) := by decide +kernel
theorem dX8_load_14 : decode cX8_load 14 = .ok (.getfield 37, 3) := by decide +kernel
theorem dX8_load_17 : decode cX8_load 17 = .ok (.iload_n 3, 1) := by decide +kernel
theorem dX8_load_18 : decode cX8_load 18 = .ok (.aload_n 0, 1) := by decide +kernel
theorem dX8_load_19 : decode cX8_load 19 = .ok (.getfield 110, 3) := by decide +kernel
theorem dX8_load_22 : decode cX8_load 22 = .ok (.iload_n 2, 1) := by decide +kernel
theorem dX8_load_23 : decode cX8_load 23 = .ok (.iload_n 3, 1) := by decide +kernel
theorem dX8_load_24 : decode cX8_load 24 = .ok (.iadd, 1) := by decide +kernel
theorem dX8_load_25 : decode cX8_load 25 = .ok (.iaload, 1) := by decide +kernel
theorem dX8_load_26 : decode cX8_load 26 = .ok (.iastore, 1) := by decide +kernel
theorem dX8_load_27 : decode cX8_load 27 = .ok (.aload_n 0, 1) := by decide +kernel
theorem dX8_load_28 : decode cX8_load 28 = .ok (.getfield 40, 3) := by decide +kernel
theorem dX8_load_31 : decode cX8_load 31 = .ok (.iload_n 3, 1) := by decide +kernel
theorem dX8_load_32 : decode cX8_load 32 = .ok (.aload_n 0, 1) := by decide +kernel
theorem dX8_load_33 : decode cX8_load 33 = .ok (.getfield 110, 3) := by decide +kernel
theorem dX8_load_36 : decode cX8_load 36 = .ok (.iload_n 2, 1) := by decide +kernel
theorem dX8_load_37 : decode cX8_load 37 = .ok (.bipush 6, 2) := by decide +kernel
theorem dX8_load_39 : decode cX8_load 39 = .ok (.iadd, 1) := by decide +kernel
theorem dX8_load_40 : decode cX8_load 40 = .ok (.iload_n 3, 1) := by decide +kernel
theorem dX8_load_41 : decode cX8_load 41 = .ok (.iadd, 1) := by decide +kernel
theorem dX8_load_42 : decode cX8_load 42 = .ok (.iaload, 1) := by decide +kernel
theorem dX8_load_43 : decode cX8_load 43 = .ok (.iastore, 1) := by decide +kernel
theorem dX8_load_44 : decode cX8_load 44 = .ok (.aload_n 0, 1) := by decide +kernel
theorem dX8_load_45 : decode cX8_load 45 = .ok (.getfield 43, 3) := by decide +kernel
theorem dX8_load_48 : decode cX8_load 48 = .ok (.iload_n 3, 1) := by decide +kernel
theorem dX8_load_49 : decode cX8_load 49 = .ok (.aload_n 0, 1) := by decide +kernel
theorem dX8_load_50 : decode cX8_load 50 = .ok (.getfield 110, 3) := by decide +kernel
theorem dX8_load_53 : decode cX8_load 53 = .ok (.iload_n 2, 1) := by decide +kernel
theorem dX8_load_54 : decode cX8_load 54 = .ok (.bipush 12, 2) := by decide +kernel
theorem dX8_load_56 : decode cX8_load 56 = .ok (.iadd, 1) := by decide +kernel
theorem dX8_load_57 : decode cX8_load 57 = .ok (.iload_n 3, 1) := by decide +kernel
theorem dX8_load_58 : decode cX8_load 58 = .ok (.iadd, 1) := by decide +kernel
theorem dX8_load_59 : decode cX8_load 59 = .ok (.iaload, 1) := by decide +kernel
theorem dX8_load_60 : decode cX8_load 60 = .ok (.iastore, 1) := by decide +kernel
theorem dX8_load_61 : decode cX8_load 61 = .ok (.aload_n 0, 1) := by decide +kernel
theorem dX8_load_62 : decode cX8_load 62 = .ok (.getfield 31, 3) := by decide +kernel
theorem dX8_load_65 : decode cX8_load 65 = .ok (.iload_n 3, 1) := by decide +kernel
theorem dX8_load_66 : decode cX8_load 66 = .ok (.aload_n 0, 1) := by decide +kernel
theorem dX8_load_67 : decode cX8_load 67 = .ok (.getfield 110, 3) := by decide +kernel
theorem dX8_load_70 : decode cX8_load 70 = .ok (.iload_n 2, 1) := by decide +kernel
theorem dX8_load_71 : decode cX8_load 71 = .ok (.bipush 18, 2) := by decide +kernel
theorem dX8_load_73 : decode cX8_load 73 = .ok (.iadd, 1) := by decide +kernel
theorem dX8_load_74 : decode cX8_load 74 = .ok (.iload_n 3, 1) := by decide +kernel
theorem dX8_load_75 : decode cX8_load 75 = .ok (.iadd, 1) := by decide +kernel
theorem dX8_load_76 : decode cX8_load 76 = .ok (.iaload, 1) := by decide +kernel
theorem dX8_load_77 : decode cX8_load 77 = .ok (.iastore, 1) := by decide +kernel
theorem dX8_load_78 : decode cX8_load 78 = .ok (.aload_n 0, 1) := by decide +kernel
theorem dX8_load_79 : decode cX8_load 79 = .ok (.getfield 34, 3) := by decide +kernel
theorem dX8_load_82 : decode cX8_load 82 = .ok (.iload_n 3, 1) := by decide +kernel
theorem dX8_load_83 : decode cX8_load 83 = .ok (.aload_n 0, 1) := by decide +kernel
theorem dX8_load_84 : decode cX8_load 84 = .ok (.getfield 110, 3) := by decide +kernel
theorem dX8_load_87 : decode cX8_load 87 = .ok (.iload_n 2, 1) := by decide +kernel
theorem dX8_load_88 : decode cX8_load 88 = .ok (.bipush 24, 2) := by decide +kernel
theorem dX8_load_90 : decode cX8_load 90 = .ok (.iadd, 1) := by decide +kernel
theorem dX8_load_91 : decode cX8_load 91 = .ok (.iload_n 3, 1) := by decide +kernel
theorem dX8_load_92 : decode cX8_load 92 = .ok (.iadd, 1) := by decide +kernel
theorem dX8_load_93 : decode cX8_load 93 = .ok (.iaload, 1) := by decide +kernel
theorem dX8_load_94 : decode cX8_load 94 = .ok (.iastore, 1) := by decide +kernel
theorem dX8_load_95 : decode cX8_load 95 = .ok (.iinc 3 1, 3) := by decide +kernel
theorem dX8_load_98 : decode cX8_load 98 = .ok (.goto (-91), 3) := by decide +kernel
theorem dX8_load_101 : decode cX8_load 101 = .ok (.aload_n 0, 1) := by decide +kernel
theorem dX8_load_102 : decode cX8_load 102 = .ok (.aload_n 0, 1) := by decide +kernel
theorem dX8_load_103 : decode cX8_load 103 = .ok (.getfield 110, 3) := by decide +kernel
theorem dX8_load_106 : decode cX8_load 106 = .ok (.iload_n 2, 1) := by decide +kernel
theorem dX8_load_107 : decode cX8_load 107 = .ok (.bipush 30, 2) := by decide +kernel
theorem dX8_load_109 : decode cX8_load 109 = .ok (.iadd, 1) := by decide +kernel
theorem dX8_load_110 : decode cX8_load 110 = .ok (.iaload, 1) := by decide +kernel
theorem dX8_load_111 : decode cX8_load 111 = .ok (.putfield 230, 3) := by decide +kernel
theorem dX8_load_114 : decode cX8_load 114 = .ok (.aload_n 0, 1) := by decide +kernel
theorem dX8_load_115 : decode cX8_load 115 = .ok (.aload_n 0, 1) := by decide +kernel
theorem dX8_load_116 : decode cX8_load 116 = .ok (.getfield 110, 3) := by decide +kernel
theorem dX8_load_119 : decode cX8_load 119 = .ok (.iload_n 2, 1) := by decide +kernel
theorem dX8_load_120 : decode cX8_load 120 = .ok (.bipush 31, 2) := by decide +kernel
theorem dX8_load_122 : decode cX8_load 122 = .ok (.iadd, 1) := by decide +kernel
theorem dX8_load_123 : decode cX8_load 123 = .ok (.iaload, 1) := by decide +kernel
theorem dX8_load_124 : decode cX8_load 124 = .ok (.putfield 349, 3) := by decide +kernel
theorem dX8_load_127 : decode cX8_load 127 = .ok (.return_, 1) := by decide +kernel
theorem dX8_keep_0 : decode cX8_keep 0 = .ok (.iload_n 1, 1) := by decide +kernel
theorem dX8_keep_1 : decode cX8_keep 1 = .ok (.i2l, 1) := by decide +kernel
theorem dX8_keep_2 : decode cX8_keep 2 = .ok (.lconst 0, 1) := by decide +kernel
theorem dX8_keep_3 : decode cX8_keep 3 = .ok (.lconst 1, 1) := by decide +kernel
theorem dX8_keep_4 : decode cX8_keep 4 = .ok (.invokestatic 123, 3) := by decide +kernel
theorem dX8_keep_7 : decode cX8_keep 7 = .ok (.ifCond .ne 6, 3) := by decide +kernel
theorem dX8_keep_10 : decode cX8_keep 10 = .ok (.ldc 240, 2) := by decide +kernel
theorem dX8_keep_12 : decode cX8_keep 12 = .ok (.ireturn, 1) := by decide +kernel
theorem dX8_keep_13 : decode cX8_keep 13 = .ok (.aload_n 0, 1) := by decide +kernel
theorem dX8_keep_14 : decode cX8_keep 14 = .ok (.iload_n 1, 1) := by decide +kernel
theorem dX8_keep_15 : decode cX8_keep 15 = .ok (.invokevirtual 343, 3) := by decide +kernel
theorem dX8_keep_18 : decode cX8_keep 18 = .ok (.aload_n 0, 1) := by decide +kernel
theorem dX8_keep_19 : decode cX8_keep 19 = .ok (.getfield 113, 3) := by decide +kernel
theorem dX8_keep_22 : decode cX8_keep 22 = .ok (.iload_n 1, 1) := by decide +kernel
theorem dX8_keep_23 : decode cX8_keep 23 = .ok (.iconst 1, 1) := by decide +kernel
theorem dX8_keep_24 : decode cX8_keep 24 = .ok (.bastore, 1) := by decide +kernel
theorem dX8_keep_25 : decode cX8_keep 25 = .ok (.iconst 1, 1) := by decide +kernel
theorem dX8_keep_26 : decode cX8_keep 26 = .ok (.ireturn, 1) := by decide +kernel
theorem dX8_goBack_0 : decode cX8_goBack 0 = .ok (.iload_n 1, 1) := by decide +kernel
theorem dX8_goBack_1 : decode cX8_goBack 1 = .ok (.i2l, 1) := by decide +kernel
theorem dX8_goBack_2 : decode cX8_goBack 2 = .ok (.lconst 0, 1) := by decide +kernel
theorem dX8_goBack_3 : decode cX8_goBack 3 = .ok (.lconst 1, 1) := by decide +kernel
theorem dX8_goBack_4 : decode cX8_goBack 4 = .ok (.invokestatic 123, 3) := by decide +kernel
theorem dX8_goBack_7 : decode cX8_goBack 7 = .ok (.ifCond .ne 6, 3) := by decide +kernel
theorem dX8_goBack_10 : decode cX8_goBack 10 = .ok (.ldc 240, 2) := by decide +kernel
theorem dX8_goBack_12 : decode cX8_goBack 12 = .ok (.ireturn, 1) := by decide +kernel
theorem dX8_goBack_13 : decode cX8_goBack 13 = .ok (.aload_n 0, 1) := by decide +kernel
theorem dX8_goBack_14 : decode cX8_goBack 14 = .ok (.getfield 113, 3) := by decide +kernel
theorem dX8_goBack_17 : decode cX8_goBack 17 = .ok (.iload_n 1, 1) := by decide +kernel
theorem dX8_goBack_18 : decode cX8_goBack 18 = .ok (.baload, 1) := by decide +kernel
theorem dX8_goBack_19 : decode cX8_goBack 19 = .ok (.ifCond .ne 7, 3) := by decide +kernel
theorem dX8_goBack_22 : decode cX8_goBack 22 = .ok (.ldc_w 259, 3) := by decide +kernel
theorem dX8_goBack_25 : decode cX8_goBack 25 = .ok (.ireturn, 1) := by decide +kernel
theorem dX8_goBack_26 : decode cX8_goBack 26 = .ok (.aload_n 0, 1) := by decide +kernel
theorem dX8_goBack_27 : decode cX8_goBack 27 = .ok (.iload_n 1, 1) := by decide +kernel
theorem dX8_goBack_28 : decode cX8_goBack 28 = .ok (.invokevirtual 346, 3) := by decide +kernel
theorem dX8_goBack_31 : decode cX8_goBack 31 = .ok (.iconst 1, 1) := by decide +kernel
theorem dX8_goBack_32 : decode cX8_goBack 32 = .ok (.ireturn, 1) := by decide +kernel
