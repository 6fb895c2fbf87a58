theorem dX3_init_0 : decode cX3_init 0 = .ok (.aload_n 0, 1) := by decide +kernel
theorem dX3_init_1 : decode cX3_init 1 = .ok (.invokespecial 3, 3) := by decide +kernel
theorem dX3_init_4 : decode cX3_init 4 = .ok (.aload_n 0, 1) := by decide +kernel
theorem dX3_init_5 : decode cX3_init 5 = .ok (.iconst 3, 1) := by decide +kernel
theorem dX3_init_6 : decode cX3_init 6 = .ok (.newarray .int, 2) := by decide +kernel
theorem dX3_init_8 : decode cX3_init 8 = .ok (.putfield 9, 3) := by decide +kernel
theorem dX3_init_11 : decode cX3_init 11 = .ok (.aload_n 0, 1) := by decide +kernel
theorem dX3_init_12 : decode cX3_init 12 = .ok (.bipush 18, 2) := by decide +kernel
theorem dX3_init_14 : decode cX3_init 14 = .ok (.newarray .int, 2) := by decide +kernel
theorem dX3_init_16 : decode cX3_init 16 = .ok (.putfield 15, 3) := by decide +kernel
theorem dX3_init_19 : decode cX3_init 19 = .ok (.aload_n 0, 1) := by decide +kernel
theorem dX3_init_20 : decode cX3_init 20 = .ok (.bipush 6, 2) := by decide +kernel
theorem dX3_init_22 : decode cX3_init 22 = .ok (.newarray .int, 2) := by decide +kernel
theorem dX3_init_24 : decode cX3_init 24 = .ok (.putfield 18, 3) := by decide +kernel
theorem dX3_init_27 : decode cX3_init 27 = .ok (.aload_n 0, 1) := by decide +kernel
theorem dX3_init_28 : decode cX3_init 28 = .ok (.bipush 6, 2) := by decide +kernel
theorem dX3_init_30 : decode cX3_init 30 = .ok (.newarray .int, 2) := by decide +kernel
theorem dX3_init_32 : decode cX3_init 32 = .ok (.putfield 21, 3) := by decide +kernel
theorem dX3_init_35 : decode cX3_init 35 = .ok (.aload_n 0, 1) := by decide +kernel
theorem dX3_init_36 : decode cX3_init 36 = .ok (.bipush 6, 2) := by decide +kernel
theorem dX3_init_38 : decode cX3_init 38 = .ok (.newarray .int, 2) := by decide +kernel
theorem dX3_init_40 : decode cX3_init 40 = .ok (.putfield 24, 3) := by decide +kernel
theorem dX3_init_43 : decode cX3_init 43 = .ok (.aload_n 0, 1) := by decide +kernel
theorem dX3_init_44 : decode cX3_init 44 = .ok (.bipush 6, 2) := by decide +kernel
theorem dX3_init_46 : decode cX3_init 46 = .ok (.newarray .int, 2) := by decide +kernel
theorem dX3_init_48 : decode cX3_init 48 = .ok (.putfield 27, 3) := by decide +kernel
theorem dX3_init_51 : decode cX3_init 51 = .ok (.aload_n 0, 1) := by decide +kernel
theorem dX3_init_52 : decode cX3_init 52 = .ok (.bipush 36, 2) := by decide +kernel
theorem dX3_init_54 : decode cX3_init 54 = .ok (.newarray .int, 2) := by decide +kernel
theorem dX3_init_56 : decode cX3_init 56 = .ok (.putfield 30, 3) := by decide +kernel
theorem dX3_init_59 : decode cX3_init 59 = .ok (.return_, 1) := by decide +kernel
theorem dX3_clearAll_0 : decode cX3_clearAll 0 = .ok (.aload_n 0, 1) := by decide +kernel
theorem dX3_clearAll_1 : decode cX3_clearAll 1 = .ok (.iconst 0, 1) := by decide +kernel
theorem dX3_clearAll_2 : decode cX3_clearAll 2 = .ok (.putfield 33, 3) := by decide +kernel
theorem dX3_clearAll_5 : decode cX3_clearAll 5 = .ok (.aload_n 0, 1) := by decide +kernel
theorem dX3_clearAll_6 : decode cX3_clearAll 6 = .ok (.iconst 0, 1) := by decide +kernel
theorem dX3_clearAll_7 : decode cX3_clearAll 7 = .ok (.putfield 37, 3) := by decide +kernel
theorem dX3_clearAll_10 : decode cX3_clearAll 10 = .ok (.aload_n 0, 1) := by decide +kernel
theorem dX3_clearAll_11 : decode cX3_clearAll 11 = .ok (.iconst 0, 1) := by decide +kernel
theorem dX3_clearAll_12 : decode cX3_clearAll 12 = .ok (.putfield 40, 3) := by decide +kernel
theorem dX3_clearAll_15 : decode cX3_clearAll 15 = .ok (.iconst 0, 1) := by decide +kernel
theorem dX3_clearAll_16 : decode cX3_clearAll 16 = .ok (.istore_n 1, 1) := by decide +kernel
theorem dX3_clearAll_17 : decode cX3_clearAll 17 = .ok (.iload_n 1, 1) := by decide +kernel
theorem dX3_clearAll_18 : decode cX3_clearAll 18 = .ok (.aload_n 0, 1) := by decide +kernel
theorem dX3_clearAll_19 : decode cX3_clearAll 19 = .ok (.getfield 30, 3) := by decide +kernel
theorem dX3_clearAll_22 : decode cX3_clearAll 22 = .ok (.arraylength, 1) := by decide +kernel
theorem dX3_clearAll_23 : decode cX3_clearAll 23 = .ok (.if_icmp .ge 16, 3) := by decide +kernel
theorem dX3_clearAll_26 : decode cX3_clearAll 26 = .ok (.aload_n 0, 1) := by decide +kernel
theorem dX3_clearAll_27 : decode cX3_clearAll 27 = .ok (.getfield 30, 3) := by decide +kernel
theorem dX3_clearAll_30 : decode cX3_clearAll 30 = .ok (.iload_n 1, 1) := by decide +kernel
theorem dX3_clearAll_31 : decode cX3_clearAll 31 = .ok (.iconst 0, 1) := by decide +kernel
theorem dX3_clearAll_32 : decode cX3_clearAll 32 = .ok (.iastore, 1) := by decide +kernel
theorem dX3_clearAll_33 : decode cX3_clearAll 33 = .ok (.iinc 1 1, 3) := by decide +kernel
theorem dX3_clearAll_36 : decode cX3_clearAll 36 = .ok (.goto (-19), 3) := by decide +kernel
theorem dX3_clearAll_39 : decode cX3_clearAll 39 = .ok (.return_, 1) := by decide +kernel
theorem dX3_copyFrom_0 : decode cX3_copyFrom 0 = .ok (.aload_n 0, 1) := by decide +kernel
theorem dX3_copyFrom_1 : decode cX3_copyFrom 1 = .ok (.aload_n 1, 1) := by decide +kernel
theorem dX3_copyFrom_2 : decode cX3_copyFrom 2 = .ok (.getfield 33, 3) := by decide +kernel
theorem dX3_copyFrom_5 : decode cX3_copyFrom 5 = .ok (.putfield 33, 3) := by decide +kernel
theorem dX3_copyFrom_8 : decode cX3_copyFrom 8 = .ok (.aload_n 0, 1) := by decide +kernel
theorem dX3_copyFrom_9 : decode cX3_copyFrom 9 = .ok (.aload_n 1, 1) := by decide +kernel
theorem dX3_copyFrom_10 : decode cX3_copyFrom 10 = .ok (.getfield 37, 3) := by decide +kernel
theorem dX3_copyFrom_13 : decode cX3_copyFrom 13 = .ok (.putfield 37, 3) := by decide +kernel
theorem dX3_copyFrom_16 : decode cX3_copyFrom 16 = .ok (.aload_n 0, 1) := by decide +kernel
theorem dX3_copyFrom_17 : decode cX3_copyFrom 17 = .ok (.aload_n 1, 1) := by decide +kernel
theorem dX3_copyFrom_18 : decode cX3_copyFrom 18 = .ok (.getfield 40, 3) := by decide +kernel
theorem dX3_copyFrom_21 : decode cX3_copyFrom 21 = .ok (.putfield 40, 3) := by decide +kernel
theorem dX3_copyFrom_24 : decode cX3_copyFrom 24 = .ok (.aload_n 1, 1) := by decide +kernel
theorem dX3_copyFrom_25 : decode cX3_copyFrom 25 = .ok (.getfield 9, 3) := by decide +kernel
theorem dX3_copyFrom_28 : decode cX3_copyFrom 28 = .ok (.aload_n 0, 1) := by decide +kernel
theorem dX3_copyFrom_29 : decode cX3_copyFrom 29 = .ok (.getfield 9, 3) := by decide +kernel
theorem dX3_copyFrom_32 : decode cX3_copyFrom 32 = .ok (.invokestatic 43, 3) := by decide +kernel
theorem dX3_copyFrom_35 : decode cX3_copyFrom 35 = .ok (.aload_n 1, 1) := by decide +kernel
theorem dX3_copyFrom_36 : decode cX3_copyFrom 36 = .ok (.getfield 15, 3) := by decide +kernel
theorem dX3_copyFrom_39 : decode cX3_copyFrom 39 = .ok (.aload_n 0, 1) := by decide +kernel
theorem dX3_copyFrom_40 : decode cX3_copyFrom 40 = .ok (.getfield 15, 3) := by decide +kernel
theorem dX3_copyFrom_43 : decode cX3_copyFrom 43 = .ok (.invokestatic 43, 3) := by decide +kernel
theorem dX3_copyFrom_46 : decode cX3_copyFrom 46 = .ok (.aload_n 1, 1) := by decide +kernel
theorem dX3_copyFrom_47 : decode cX3_copyFrom 47 = .ok (.getfield 18, 3) := by decide +kernel
theorem dX3_copyFrom_50 : decode cX3_copyFrom 50 = .ok (.aload_n 0, 1) := by decide +kernel
theorem dX3_copyFrom_51 : decode cX3_copyFrom 51 = .ok (.getfield 18, 3) := by decide +kernel
theorem dX3_copyFrom_54 : decode cX3_copyFrom 54 = .ok (.invokestatic 43, 3) := by decide +kernel
theorem dX3_copyFrom_57 : decode cX3_copyFrom 57 = .ok (.aload_n 1, 1) := by decide +kernel
theorem dX3_copyFrom_58 : decode cX3_copyFrom 58 = .ok (.getfield 21, 3) := by decide +kernel
theorem dX3_copyFrom_61 : decode cX3_copyFrom 61 = .ok (.aload_n 0, 1) := by decide +kernel
theorem dX3_copyFrom_62 : decode cX3_copyFrom 62 = .ok (.getfield 21, 3) := by decide +kernel
theorem dX3_copyFrom_65 : decode cX3_copyFrom 65 = .ok (.invokestatic 43, 3) := by decide +kernel
theorem dX3_copyFrom_68 : decode cX3_copyFrom 68 = .ok (.aload_n 1, 1) := by decide +kernel
theorem dX3_copyFrom_69 : decode cX3_copyFrom 69 = .ok (.getfield 24, 3) := by decide +kernel
theorem dX3_copyFrom_72 : decode cX3_copyFrom 72 = .ok (.aload_n 0, 1) := by decide +kernel
theorem dX3_copyFrom_73 : decode cX3_copyFrom 73 = .ok (.getfield 24, 3) := by decide +kernel
theorem dX3_copyFrom_76 : decode cX3_copyFrom 76 = .ok (.invokestatic 43, 3) := by decide +kernel
theorem dX3_copyFrom_79 : decode cX3_copyFrom 79 = .ok (.aload_n 1, 1) := by decide +kernel
theorem dX3_copyFrom_80 : decode cX3_copyFrom 80 = .ok (.getfield 27, 3) := by decide +kernel
theorem dX3_copyFrom_83 : decode cX3_copyFrom 83 = .ok (.aload_n 0, 1) := by decide +kernel
theorem dX3_copyFrom_84 : decode cX3_copyFrom 84 = .ok (.getfield 27, 3) := by decide +kernel
theorem dX3_copyFrom_87 : decode cX3_copyFrom 87 = .ok (.invokestatic 43, 3) := by decide +kernel
theorem dX3_copyFrom_90 : decode cX3_copyFrom 90 = .ok (.aload_n 1, 1) := by decide +kernel
theorem dX3_copyFrom_91 : decode cX3_copyFrom 91 = .ok (.getfield 30, 3) := by decide +kernel
theorem dX3_copyFrom_94 : decode cX3_copyFrom 94 = .ok (.aload_n 0, 1) := by decide +kernel
theorem dX3_copyFrom_95 : decode cX3_copyFrom 95 = .ok (.getfield 30, 3) := by decide +kernel
theorem dX3_copyFrom_98 : decode cX3_copyFrom 98 = .ok (.invokestatic 43, 3) := by decide +kernel
theorem dX3_copyFrom_101 : decode cX3_copyFrom 101 = .ok (.return_, 1) := by decide +kernel
theorem dX3_hasRoom_0 : decode cX3_hasRoom 0 = .ok (.iload_n 1, 1) := by decide +kernel
theorem dX3_hasRoom_1 : decode cX3_hasRoom 1 = .ok (.ifCond .lt 15, 3) := by decide +kernel
theorem dX3_hasRoom_4 : decode cX3_hasRoom 4 = .ok (.iload_n 1, 1) := by decide +kernel
theorem dX3_hasRoom_5 : decode cX3_hasRoom 5 = .ok (.aload_n 0, 1) := by decide +kernel
theorem dX3_hasRoom_6 : decode cX3_hasRoom 6 = .ok (.getfield 33, 3) := by decide +kernel
theorem dX3_hasRoom_9 : decode cX3_hasRoom 9 = .ok (.if_icmp .ge 7, 3) := by decide +kernel
theorem dX3_hasRoom_12 : decode cX3_hasRoom 12 = .ok (.iconst 1, 1) := by decide +kernel
theorem dX3_hasRoom_13 : decode cX3_hasRoom 13 = .ok (.goto 4, 3) := by decide +kernel
theorem dX3_hasRoom_16 : decode cX3_hasRoom 16 = .ok (.iconst 0, 1) := by decide +kernel
theorem dX3_hasRoom_17 : decode cX3_hasRoom 17 = .ok (.ireturn, 1) := by decide +kernel
theorem dX3_hasPlace_0 : decode cX3_hasPlace 0 = .ok (.iload_n 1, 1) := by decide +kernel
theorem dX3_hasPlace_1 : decode cX3_hasPlace 1 = .ok (.ifCond .lt 29, 3) := by decide +kernel
theorem dX3_hasPlace_4 : decode cX3_hasPlace 4 = .ok (.iload_n 1, 1) := by decide +kernel
theorem dX3_hasPlace_5 : decode cX3_hasPlace 5 = .ok (.aload_n 0, 1) := by decide +kernel
theorem dX3_hasPlace_6 : decode cX3_hasPlace 6 = .ok (.getfield 33, 3) := by decide +kernel
theorem dX3_hasPlace_9 : decode cX3_hasPlace 9 = .ok (.if_icmp .ge 21, 3) := by decide +kernel
theorem dX3_hasPlace_12 : decode cX3_hasPlace 12 = .ok (.iload_n 2, 1) := by decide +kernel
theorem dX3_hasPlace_13 : decode cX3_hasPlace 13 = .ok (.ifCond .lt 17, 3) := by decide +kernel
theorem dX3_hasPlace_16 : decode cX3_hasPlace 16 = .ok (.iload_n 2, 1) := by decide +kernel
theorem dX3_hasPlace_17 : decode cX3_hasPlace 17 = .ok (.aload_n 0, 1) := by decide +kernel
theorem dX3_hasPlace_18 : decode cX3_hasPlace 18 = .ok (.getfield 9, 3) := by decide +kernel
theorem dX3_hasPlace_21 : decode cX3_hasPlace 21 = .ok (.iload_n 1, 1) := by decide +kernel
theorem dX3_hasPlace_22 : decode cX3_hasPlace 22 = .ok (.iaload, 1) := by decide +kernel
theorem dX3_hasPlace_23 : decode cX3_hasPlace 23 = .ok (.if_icmp .ge 7, 3) := by decide +kernel
theorem dX3_hasPlace_26 : decode cX3_hasPlace 26 = .ok (.iconst 1, 1) := by decide +kernel
theorem dX3_hasPlace_27 : decode cX3_hasPlace 27 = .ok (.goto 4, 3) := by decide +kernel
theorem dX3_hasPlace_30 : decode cX3_hasPlace 30 = .ok (.iconst 0, 1) := by decide +kernel
theorem dX3_hasPlace_31 : decode cX3_hasPlace 31 = .ok (.ireturn, 1) := by decide +kernel
theorem dX3_hasPerson_0 : decode cX3_hasPerson 0 = .ok (.iload_n 1, 1) := by decide +kernel
theorem dX3_hasPerson_1 : decode cX3_hasPerson 1 = .ok (.ifCond .lt 15, 3) := by decide +kernel
theorem dX3_hasPerson_4 : decode cX3_hasPerson 4 = .ok (.iload_n 1, 1) := by decide +kernel
theorem dX3_hasPerson_5 : decode cX3_hasPerson 5 = .ok (.aload_n 0, 1) := by decide +kernel
theorem dX3_hasPerson_6 : decode cX3_hasPerson 6 = .ok (.getfield 37, 3) := by decide +kernel
theorem dX3_hasPerson_9 : decode cX3_hasPerson 9 = .ok (.if_icmp .ge 7, 3) := by decide +kernel
theorem dX3_hasPerson_12 : decode cX3_hasPerson 12 = .ok (.iconst 1, 1) := by decide +kernel
theorem dX3_hasPerson_13 : decode cX3_hasPerson 13 = .ok (.goto 4, 3) := by decide +kernel
theorem dX3_hasPerson_16 : decode cX3_hasPerson 16 = .ok (.iconst 0, 1) := by decide +kernel
theorem dX3_hasPerson_17 : decode cX3_hasPerson 17 = .ok (.ireturn, 1) := by decide +kernel
theorem dX3_hasAll_0 : decode cX3_hasAll 0 = .ok (.iload_n 1, 1) := by decide +kernel
theorem dX3_hasAll_1 : decode cX3_hasAll 1 = .ok (.aload_n 0, 1) := by decide +kernel
theorem dX3_hasAll_2 : decode cX3_hasAll 2 = .ok (.getfield 37, 3) := by decide +kernel
theorem dX3_hasAll_5 : decode cX3_hasAll 5 = .ok (.iushr, 1) := by decide +kernel
theorem dX3_hasAll_6 : decode cX3_hasAll 6 = .ok (.ifCond .ne 7, 3) := by decide +kernel
theorem dX3_hasAll_9 : decode cX3_hasAll 9 = .ok (.iconst 1, 1) := by decide +kernel
theorem dX3_hasAll_10 : decode cX3_hasAll 10 = .ok (.goto 4, 3) := by decide +kernel
theorem dX3_hasAll_13 : decode cX3_hasAll 13 = .ok (.iconst 0, 1) := by decide +kernel
theorem dX3_hasAll_14 : decode cX3_hasAll 14 = .ok (.ireturn, 1) := by decide +kernel
theorem dX3_placesOf_0 : decode cX3_placesOf 0 = .ok (.iload_n 1, 1) := by decide +kernel
theorem dX3_placesOf_1 : decode cX3_placesOf 1 = .ok (.ifCond .lt 20, 3) := by decide +kernel
theorem dX3_placesOf_4 : decode cX3_placesOf 4 = .ok (.iload_n 1, 1) := by decide +kernel
theorem dX3_placesOf_5 : decode cX3_placesOf 5 = .ok (.aload_n 0, 1) := by decide +kernel
theorem dX3_placesOf_6 : decode cX3_placesOf 6 = .ok (.getfield 33, 3) := by decide +kernel
theorem dX3_placesOf_9 : decode cX3_placesOf 9 = .ok (.if_icmp .ge 12, 3) := by decide +kernel
theorem dX3_placesOf_12 : decode cX3_placesOf 12 = .ok (.aload_n 0, 1) := by decide +kernel
theorem dX3_placesOf_13 : decode cX3_placesOf 13 = .ok (.getfield 9, 3) := by decide +kernel
theorem dX3_placesOf_16 : decode cX3_placesOf 16 = .ok (.iload_n 1, 1) := by decide +kernel
theorem dX3_placesOf_17 : decode cX3_placesOf 17 = .ok (.iaload, 1) := by decide +kernel
theorem dX3_placesOf_18 : decode cX3_placesOf 18 = .ok (.goto 4, 3) := by decide +kernel
theorem dX3_placesOf_21 : decode cX3_placesOf 21 = .ok (.iconst 0, 1) := by decide +kernel
theorem dX3_placesOf_22 : decode cX3_placesOf 22 = .ok (.ireturn, 1) := by decide +kernel
theorem dX3_floorAt_0 : decode cX3_floorAt 0 = .ok (.iload_n 1, 1) := by decide +kernel
theorem dX3_floorAt_1 : decode cX3_floorAt 1 = .ok (.ifCond .lt 29, 3) := by decide +kernel
theorem dX3_floorAt_4 : decode cX3_floorAt 4 = .ok (.iload_n 1, 1) := by decide +kernel
theorem dX3_floorAt_5 : decode cX3_floorAt 5 = .ok (.aload_n 0, 1) := by decide +kernel
theorem dX3_floorAt_6 : decode cX3_floorAt 6 = .ok (.getfield 33, 3) := by decide +kernel
theorem dX3_floorAt_9 : decode cX3_floorAt 9 = .ok (.if_icmp .ge 21, 3) := by decide +kernel
theorem dX3_floorAt_12 : decode cX3_floorAt 12 = .ok (.iload_n 2, 1) := by decide +kernel
theorem dX3_floorAt_13 : decode cX3_floorAt 13 = .ok (.ifCond .lt 17, 3) := by decide +kernel
theorem dX3_floorAt_16 : decode cX3_floorAt 16 = .ok (.iload_n 2, 1) := by decide +kernel
theorem dX3_floorAt_17 : decode cX3_floorAt 17 = .ok (.aload_n 0, 1) := by decide +kernel
theorem dX3_floorAt_18 : decode cX3_floorAt 18 = .ok (.getfield 9, 3) := by decide +kernel
theorem dX3_floorAt_21 : decode cX3_floorAt 21 = .ok (.iload_n 1, 1) := by decide +kernel
theorem dX3_floorAt_22 : decode cX3_floorAt 22 = .ok (.iaload, 1) := by decide +kernel
theorem dX3_floorAt_23 : decode cX3_floorAt 23 = .ok (.if_icmp .ge 7, 3) := by decide +kernel
theorem dX3_floorAt_26 : decode cX3_floorAt 26 = .ok (.iconst 1, 1) := by decide +kernel
theorem dX3_floorAt_27 : decode cX3_floorAt 27 = .ok (.goto 4, 3) := by decide +kernel
theorem dX3_floorAt_30 : decode cX3_floorAt 30 = .ok (.iconst 0, 1) := by decide +kernel
theorem dX3_floorAt_31 : decode cX3_floorAt 31 = .ok (.istore_n 3, 1) := by decide +kernel
theorem dX3_floorAt_32 : decode cX3_floorAt 32 = .ok (.iload_n 3, 1) := by decide +kernel
theorem dX3_floorAt_33 : decode cX3_floorAt 33 = .ok (.ifCond .eq 17, 3) := by decide +kernel
theorem dX3_floorAt_36 : decode cX3_floorAt 36 = .ok (.aload_n 0, 1) := by decide +kernel
theorem dX3_floorAt_37 : decode cX3_floorAt 37 = .ok (.getfield 15, 3) := by decide +kernel
theorem dX3_floorAt_40 : decode cX3_floorAt 40 = .ok (.iload_n 1, 1) := by decide +kernel
theorem dX3_floorAt_41 : decode cX3_floorAt 41 = .ok (.bipush 6, 2) := by decide +kernel
theorem dX3_floorAt_43 : decode cX3_floorAt 43 = .ok (.imul, 1) := by decide +kernel
theorem dX3_floorAt_44 : decode cX3_floorAt 44 = .ok (.iload_n 2, 1) := by decide +kernel
theorem dX3_floorAt_45 : decode cX3_floorAt 45 = .ok (.iadd, 1) := by decide +kernel
theorem dX3_floorAt_46 : decode cX3_floorAt 46 = .ok (.iaload, 1) := by decide +kernel
theorem dX3_floorAt_47 : decode cX3_floorAt 47 = .ok (.goto 4, 3) := by decide +kernel
theorem dX3_floorAt_50 : decode cX3_floorAt 50 = .ok (.iconst 0, 1) := by decide +kernel
theorem dX3_floorAt_51 : decode cX3_floorAt 51 = .ok (.ireturn, 1) := by decide +kernel
theorem dX3_friendship_0 : decode cX3_friendship 0 = .ok (.aload_n 0, 1) := by decide +kernel
theorem dX3_friendship_1 : decode cX3_friendship 1 = .ok (.iload_n 1, 1) := by decide +kernel
theorem dX3_friendship_2 : decode cX3_friendship 2 = .ok (.invokevirtual 47, 3) := by decide +kernel
theorem dX3_friendship_5 : decode cX3_friendship 5 = .ok (.ifCond .eq 25, 3) := by decide +kernel
theorem dX3_friendship_8 : decode cX3_friendship 8 = .ok (.aload_n 0, 1) := by decide +kernel
theorem dX3_friendship_9 : decode cX3_friendship 9 = .ok (.iload_n 2, 1) := by decide +kernel
theorem dX3_friendship_10 : decode cX3_friendship 10 = .ok (.invokevirtual 47, 3) := by decide +kernel
theorem dX3_friendship_13 : decode cX3_friendship 13 = .ok (.ifCond .eq 17, 3) := by decide +kernel
theorem dX3_friendship_16 : decode cX3_friendship 16 = .ok (.aload_n 0, 1) := by decide +kernel
theorem dX3_friendship_17 : decode cX3_friendship 17 = .ok (.getfield 30, 3) := by decide +kernel
theorem dX3_friendship_20 : decode cX3_friendship 20 = .ok (.iload_n 1, 1) := by decide +kernel
theorem dX3_friendship_21 : decode cX3_friendship 21 = .ok (.bipush 6, 2) := by decide +kernel
theorem dX3_friendship_23 : decode cX3_friendship 23 = .ok (.imul, 1) := by decide +kernel
theorem dX3_friendship_24 : decode cX3_friendship 24 = .ok (.iload_n 2, 1) := by decide +kernel
theorem dX3_friendship_25 : decode cX3_friendship 25 = .ok (.iadd, 1) := by decide +kernel
theorem dX3_friendship_26 : decode cX3_friendship 26 = .ok (.iaload, 1) := by decide +kernel
theorem dX3_friendship_27 : decode cX3_friendship 27 = .ok (.goto 4, 3) := by decide +kernel
theorem dX3_friendship_30 : decode cX3_friendship 30 = .ok (.iconst 0, 1) := by decide +kernel
theorem dX3_friendship_31 : decode cX3_friendship 31 = .ok (.ireturn, 1) := by decide +kernel
theorem dX3_friendshipWithAll_0 : decode cX3_friendshipWithAll 0 = .ok (.iconst 0, 1) := by decide +kernel
theorem dX3_friendshipWithAll_1 : decode cX3_friendshipWithAll 1 = .ok (.istore_n 3, 1) := by decide +kernel
theorem dX3_friendshipWithAll_2 : decode cX3_friendshipWithAll 2 = .ok (.iconst 0, 1) := by decide +kernel
theorem dX3_friendshipWithAll_3 : decode cX3_friendshipWithAll 3 = .ok (.istore 4, 2) := by decide +kernel
theorem dX3_friendshipWithAll_5 : decode cX3_friendshipWithAll 5 = .ok (.iload 4, 2) := by decide +kernel
theorem dX3_friendshipWithAll_7 : decode cX3_friendshipWithAll 7 = .ok (.aload_n 0, 1) := by decide +kernel
theorem dX3_friendshipWithAll_8 : decode cX3_friendshipWithAll 8 = .ok (.getfield 37, 3) := by decide +kernel
theorem dX3_friendshipWithAll_11 : decode cX3_friendshipWithAll 11 = .ok (.if_icmp .ge 28, 3) := by decide +kernel
theorem dX3_friendshipWithAll_14 : decode cX3_friendshipWithAll 14 = .ok (.iload_n 2, 1) := by decide +kernel
theorem dX3_friendshipWithAll_15 : decode cX3_friendshipWithAll 15 = .ok (.iload 4, 2) := by decide +kernel
theorem dX3_friendshipWithAll_17 : decode cX3_friendshipWithAll 17 = .ok (.ishr, 1) := by decide +kernel
theorem dX3_friendshipWithAll_18 : decode cX3_friendshipWithAll 18 = .ok (.iconst 1, 1) := by decide +kernel
theorem dX3_friendshipWithAll_19 : decode cX3_friendshipWithAll 19 = .ok (.iand, 1) := by decide +kernel
theorem dX3_friendshipWithAll_20 : decode cX3_friendshipWithAll 20 = .ok (.ifCond .eq 13, 3) := by decide +kernel
theorem dX3_friendshipWithAll_23 : decode cX3_friendshipWithAll 23 = .ok (.iload_n 3, 1) := by decide +kernel
theorem dX3_friendshipWithAll_24 : decode cX3_friendshipWithAll 24 = .ok (.aload_n 0, 1) := by decide +kernel
theorem dX3_friendshipWithAll_25 : decode cX3_friendshipWithAll 25 = .ok (.iload_n 1, 1) := by decide +kernel
theorem dX3_friendshipWithAll_26 : decode cX3_friendshipWithAll 26 = .ok (.iload 4, 2) := by decide +kernel
theorem dX3_friendshipWithAll_28 : decode cX3_friendshipWithAll 28 = .ok (.invokevirtual 51, 3) := by decide +kernel
theorem dX3_friendshipWithAll_31 : decode cX3_friendshipWithAll 31 = .ok (.iadd, 1) := by decide +kernel
theorem dX3_friendshipWithAll_32 : decode cX3_friendshipWithAll 32 = .ok (.istore_n 3, 1) := by decide +kernel
theorem dX3_friendshipWithAll_33 : decode cX3_friendshipWithAll 33 = .ok (.iinc 4 1, 3) := by decide +kernel
theorem dX3_friendshipWithAll_36 : decode cX3_friendshipWithAll 36 = .ok (.goto (-31), 3) := by decide +kernel
theorem dX3_friendshipWithAll_39 : decode cX3_friendshipWithAll 39 = .ok (.iload_n 3, 1) := by decide +kernel
theorem dX3_friendshipWithAll_40 : decode cX3_friendshipWithAll 40 = .ok (.ireturn, 1) := by decide +kernel
theorem dX4_init_0 : decode cX4_init 0 = .ok (.aload_n 0, 1) := by decide +kernel
theorem dX4_init_1 : decode cX4_init 1 = .ok (.invokespecial 5, 3) := by decide +kernel
theorem dX4_init_4 : decode cX4_init 4 = .ok (.aload_n 0, 1) := by decide +kernel
theorem dX4_init_5 : decode cX4_init 5 = .ok (.bipush 6, 2) := by decide +kernel
theorem dX4_init_7 : decode cX4_init 7 = .ok (.newarray .int, 2) := by decide +kernel
theorem dX4_init_9 : decode cX4_init 9 = .ok (.putfield 11, 3) := by decide +kernel
theorem dX4_init_12 : decode cX4_init 12 = .ok (.aload_n 0, 1) := by decide +kernel
theorem dX4_init_13 : decode cX4_init 13 = .ok (.bipush 6, 2) := by decide +kernel
theorem dX4_init_15 : decode cX4_init 15 = .ok (.newarray .int, 2) := by decide +kernel
theorem dX4_init_17 : decode cX4_init 17 = .ok (.putfield 15, 3) := by decide +kernel
theorem dX4_init_20 : decode cX4_init 20 = .ok (.aload_n 0, 1) := by decide +kernel
theorem dX4_init_21 : decode cX4_init 21 = .ok (.sipush 384, 3) := by decide +kernel
theorem dX4_init_24 : decode cX4_init 24 = .ok (.newarray .int, 2) := by decide +kernel
theorem dX4_init_26 : decode cX4_init 26 = .ok (.putfield 18, 3) := by decide +kernel
theorem dX4_init_29 : decode cX4_init 29 = .ok (.aload_n 0, 1) := by decide +kernel
theorem dX4_init_30 : decode cX4_init 30 = .ok (.bipush 6, 2) := by decide +kernel
theorem dX4_init_32 : decode cX4_init 32 = .ok (.newarray .int, 2) := by decide +kernel
theorem dX4_init_34 : decode cX4_init 34 = .ok (.putfield 21, 3) := by decide +kernel
theorem dX4_init_37 : decode cX4_init 37 = .ok (.aload_n 0, 1) := by decide +kernel
theorem dX4_init_38 : decode cX4_init 38 = .ok (.aload_n 1, 1) := by decide +kernel
theorem dX4_init_39 : decode cX4_init 39 = .ok (.putfield 24, 3) := by decide +kernel
theorem dX4_init_42 : decode cX4_init 42 = .ok (.aload_n 0, 1) := by decide +kernel
theorem dX4_init_43 : decode cX4_init 43 = .ok (.aload_n 2, 1) := by decide +kernel
theorem dX4_init_44 : decode cX4_init 44 = .ok (.putfield 28, 3) := by decide +kernel
theorem dX4_init_47 : decode cX4_init 47 = .ok (.return_, 1) := by decide +kernel
theorem dX4_forget_0 : decode cX4_forget 0 = .ok (.iconst 0, 1) := by decide +kernel
theorem dX4_forget_1 : decode cX4_forget 1 = .ok (.istore_n 1, 1) := by decide +kernel
theorem dX4_forget_2 : decode cX4_forget 2 = .ok (.iload_n 1, 1) := by decide +kernel
theorem dX4_forget_3 : decode cX4_forget 3 = .ok (.aload_n 0, 1) := by decide +kernel
theorem dX4_forget_4 : decode cX4_forget 4 = .ok (.getfield 18, 3) := by decide +kernel
theorem dX4_forget_7 : decode cX4_forget 7 = .ok (.arraylength, 1) := by decide +kernel
theorem dX4_forget_8 : decode cX4_forget 8 = .ok (.if_icmp .ge 17, 3) := by decide +kernel
theorem dX4_forget_11 : decode cX4_forget 11 = .ok (.aload_n 0, 1) := by decide +kernel
theorem dX4_forget_12 : decode cX4_forget 12 = .ok (.getfield 18, 3) := by decide +kernel
theorem dX4_forget_15 : decode cX4_forget 15 = .ok (.iload_n 1, 1) := by decide +kernel
theorem dX4_forget_16 : decode cX4_forget 16 = .ok (.bipush (-2), 2) := by decide +kernel
theorem dX4_forget_18 : decode cX4_forget 18 = .ok (.iastore, 1) := by decide +kernel
theorem dX4_forget_19 : decode cX4_forget 19 = .ok (.iinc 1 1, 3) := by decide +kernel
theorem dX4_forget_22 : decode cX4_forget 22 = .ok (.goto (-20), 3) := by decide +kernel
theorem dX4_forget_25 : decode cX4_forget 25 = .ok (.aload_n 0, 1) := by decide +kernel
theorem dX4_forget_26 : decode cX4_forget 26 = .ok (.getfield 28, 3) := by decide +kernel
theorem dX4_forget_29 : decode cX4_forget 29 = .ok (.getfield 32, 3) := by decide +kernel
theorem dX4_forget_32 : decode cX4_forget 32 = .ok (.aload_n 0, 1) := by decide +kernel
theorem dX4_forget_33 : decode cX4_forget 33 = .ok (.getfield 21, 3) := by decide +kernel
theorem dX4_forget_36 : decode cX4_forget 36 = .ok (.invokestatic 37, 3) := by decide +kernel
theorem dX4_forget_39 : decode cX4_forget 39 = .ok (.return_, 1) := by decide +kernel
theorem dX4_forgetIfGrown_0 : decode cX4_forgetIfGrown 0 = .ok (.iconst 0, 1) := by decide +kernel
theorem dX4_forgetIfGrown_1 : decode cX4_forgetIfGrown 1 = .ok (.istore_n 1, 1) := by decide +kernel
theorem dX4_forgetIfGrown_2 : decode cX4_forgetIfGrown 2 = .ok (.iload_n 1, 1) := by decide +kernel
theorem dX4_forgetIfGrown_3 : decode cX4_forgetIfGrown 3 = .ok (.bipush 6, 2) := by decide +kernel
theorem dX4_forgetIfGrown_5 : decode cX4_forgetIfGrown 5 = .ok (.if_icmp .ge 32, 3) := by decide +kernel
theorem dX4_forgetIfGrown_8 : decode cX4_forgetIfGrown 8 = .ok (.aload_n 0, 1) := by decide +kernel
theorem dX4_forgetIfGrown_9 : decode cX4_forgetIfGrown 9 = .ok (.getfield 28, 3) := by decide +kernel
theorem dX4_forgetIfGrown_12 : decode cX4_forgetIfGrown 12 = .ok (.getfield 32, 3) := by decide +kernel
theorem dX4_forgetIfGrown_15 : decode cX4_forgetIfGrown 15 = .ok (.iload_n 1, 1) := by decide +kernel
theorem dX4_forgetIfGrown_16 : decode cX4_forgetIfGrown 16 = .ok (.iaload, 1) := by decide +kernel
theorem dX4_forgetIfGrown_17 : decode cX4_forgetIfGrown 17 = .ok (.aload_n 0, 1) := by decide +kernel
theorem dX4_forgetIfGrown_18 : decode cX4_forgetIfGrown 18 = .ok (.getfield 21, 3) := by decide +kernel
theorem dX4_forgetIfGrown_21 : decode cX4_forgetIfGrown 21 = .ok (.iload_n 1, 1) := by decide +kernel
theorem dX4_forgetIfGrown_22 : decode cX4_forgetIfGrown 22 = .ok (.iaload, 1) := by decide +kernel
theorem dX4_forgetIfGrown_23 : decode cX4_forgetIfGrown 23 = .ok (.if_icmp .eq 8, 3) := by decide +kernel
theorem dX4_forgetIfGrown_26 : decode cX4_forgetIfGrown 26 = .ok (.aload_n 0, 1) := by decide +kernel
theorem dX4_forgetIfGrown_27 : decode cX4_forgetIfGrown 27 = .ok (.invokevirtual 41, 3) := by decide +kernel
theorem dX4_forgetIfGrown_30 : decode cX4_forgetIfGrown 30 = .ok (.return_, 1) := by decide +kernel
theorem dX4_forgetIfGrown_31 : decode cX4_forgetIfGrown 31 = .ok (.iinc 1 1, 3) := by decide +kernel
theorem dX4_forgetIfGrown_34 : decode cX4_forgetIfGrown 34 = .ok (.goto (-32), 3) := by decide +kernel
theorem dX4_forgetIfGrown_37 : decode cX4_forgetIfGrown 37 = .ok (.return_, 1) := by decide +kernel
theorem dX4_findSums_0 : decode cX4_findSums 0 = .ok (.aload_n 0, 1) := by decide +kernel
theorem dX4_findSums_1 : decode cX4_findSums 1 = .ok (.invokevirtual 44, 3) := by decide +kernel
theorem dX4_findSums_4 : decode cX4_findSums 4 = .ok (.aload_n 0, 1) := by decide +kernel
theorem dX4_findSums_5 : decode cX4_findSums 5 = .ok (.iconst 0, 1) := by decide +kernel
theorem dX4_findSums_6 : decode cX4_findSums 6 = .ok (.putfield 47, 3) := by decide +kernel
theorem dX4_findSums_9 : decode cX4_findSums 9 = .ok (.iconst 0, 1) := by decide +kernel
theorem dX4_findSums_10 : decode cX4_findSums 10 = .ok (.istore_n 2, 1) := by decide +kernel
theorem dX4_findSums_11 : decode cX4_findSums 11 = .ok (.iload_n 2, 1) := by decide +kernel
theorem dX4_findSums_12 : decode cX4_findSums 12 = .ok (.aload_n 0, 1) := by decide +kernel
theorem dX4_findSums_13 : decode cX4_findSums 13 = .ok (.getfield 24, 3) := by decide +kernel
theorem dX4_findSums_16 : decode cX4_findSums 16 = .ok (.getfield 51, 3) := by decide +kernel
theorem dX4_findSums_19 : decode cX4_findSums 19 = .ok (.if_icmp .ge 75, 3) := by decide +kernel
theorem dX4_findSums_22 : decode cX4_findSums 22 = .ok (.iconst 0, 1) := by decide +kernel
theorem dX4_findSums_23 : decode cX4_findSums 23 = .ok (.istore_n 3, 1) := by decide +kernel
theorem dX4_findSums_24 : decode cX4_findSums 24 = .ok (.iload_n 3, 1) := by decide +kernel
theorem dX4_findSums_25 : decode cX4_findSums 25 = .ok (.bipush 64, 2) := by decide +kernel
theorem dX4_findSums_27 : decode cX4_findSums 27 = .ok (.if_icmp .ge 61, 3) := by decide +kernel
theorem dX4_findSums_30 : decode cX4_findSums 30 = .ok (.aload_n 0, 1) := by decide +kernel
theorem dX4_findSums_31 : decode cX4_findSums 31 = .ok (.iload_n 2, 1) := by decide +kernel
theorem dX4_findSums_32 : decode cX4_findSums 32 = .ok (.iload_n 3, 1) := by decide +kernel
theorem dX4_findSums_33 : decode cX4_findSums 33 = .ok (.invokevirtual 57, 3) := by decide +kernel
theorem dX4_findSums_36 : decode cX4_findSums 36 = .ok (.istore 4, 2) := by decide +kernel
theorem dX4_findSums_38 : decode cX4_findSums 38 = .ok (.iload_n 3, 1) := by decide +kernel
theorem dX4_findSums_39 : decode cX4_findSums 39 = .ok (.iload_n 1, 1) := by decide +kernel
theorem dX4_findSums_40 : decode cX4_findSums 40 = .ok (.iconst (-1), 1) := by decide +kernel
theorem dX4_findSums_41 : decode cX4_findSums 41 = .ok (.ixor, 1) := by decide +kernel
theorem dX4_findSums_42 : decode cX4_findSums 42 = .ok (.iand, 1) := by decide +kernel
theorem dX4_findSums_43 : decode cX4_findSums 43 = .ok (.ifCond .ne 39, 3) := by decide +kernel
theorem dX4_findSums_46 : decode cX4_findSums 46 = .ok (.aload_n 0, 1) := by decide +kernel
theorem dX4_findSums_47 : decode cX4_findSums 47 = .ok (.getfield 18, 3) := by decide +kernel
theorem dX4_findSums_50 : decode cX4_findSums 50 = .ok (.iload 4, 2) := by decide +kernel
theorem dX4_findSums_52 : decode cX4_findSums 52 = .ok (.iaload, 1) := by decide +kernel
theorem dX4_findSums_53 : decode cX4_findSums 53 = .ok (.bipush (-2), 2) := by decide +kernel
theorem dX4_findSums_55 : decode cX4_findSums 55 = .ok (.if_icmp .ne 27, 3) := by decide +kernel
theorem dX4_findSums_58 : decode cX4_findSums 58 = .ok (.aload_n 0, 1) := by decide +kernel
theorem dX4_findSums_59 : decode cX4_findSums 59 = .ok (.getfield 18, 3) := by decide +kernel
theorem dX4_findSums_62 : decode cX4_findSums 62 = .ok (.iload 4, 2) := by decide +kernel
theorem dX4_findSums_64 : decode cX4_findSums 64 = .ok (.aload_n 0, 1) := by decide +kernel
theorem dX4_findSums_65 : decode cX4_findSums 65 = .ok (.iload_n 2, 1) := by decide +kernel
theorem dX4_findSums_66 : decode cX4_findSums 66 = .ok (.iload_n 3, 1) := by decide +kernel
theorem dX4_findSums_67 : decode cX4_findSums 67 = .ok (.invokevirtual 61, 3) := by decide +kernel
theorem dX4_findSums_70 : decode cX4_findSums 70 = .ok (.ifCond .eq 10, 3) := by decide +kernel
theorem dX4_findSums_73 : decode cX4_findSums 73 = .ok (.aload_n 0, 1) := by decide +kernel
theorem dX4_findSums_74 : decode cX4_findSums 74 = .ok (.invokevirtual 65, 3) := by decide +kernel
theorem dX4_findSums_77 : decode cX4_findSums 77 = .ok (.goto 4, 3) := by decide +kernel
theorem dX4_findSums_80 : decode cX4_findSums 80 = .ok (.iconst (-1), 1) := by decide +kernel
theorem dX4_findSums_81 : decode cX4_findSums 81 = .ok (.iastore, 1) := by decide +kernel
theorem dX4_findSums_82 : decode cX4_findSums 82 = .ok (.iinc 3 1, 3) := by decide +kernel
theorem dX4_findSums_85 : decode cX4_findSums 85 = .ok (.goto (-61), 3) := by decide +kernel
theorem dX4_findSums_88 : decode cX4_findSums 88 = .ok (.iinc 2 1, 3) := by decide +kernel
theorem dX4_findSums_91 : decode cX4_findSums 91 = .ok (.goto (-80), 3) := by decide +kernel
theorem dX4_findSums_94 : decode cX4_findSums 94 = .ok (.return_, 1) := by decide +kernel
theorem dX4_sumOf_0 : decode cX4_sumOf 0 = .ok (.aload_n 0, 1) := by decide +kernel
theorem dX4_sumOf_1 : decode cX4_sumOf 1 = .ok (.getfield 24, 3) := by decide +kernel
theorem dX4_sumOf_4 : decode cX4_sumOf 4 = .ok (.iload_n 1, 1) := by decide +kernel
theorem dX4_sumOf_5 : decode cX4_sumOf 5 = .ok (.invokevirtual 69, 3) := by decide +kernel
theorem dX4_sumOf_8 : decode cX4_sumOf 8 = .ok (.ifCond .eq 28, 3) := by decide +kernel
theorem dX4_sumOf_11 : decode cX4_sumOf 11 = .ok (.aload_n 0, 1) := by decide +kernel
theorem dX4_sumOf_12 : decode cX4_sumOf 12 = .ok (.getfield 24, 3) := by decide +kernel
theorem dX4_sumOf_15 : decode cX4_sumOf 15 = .ok (.iload_n 2, 1) := by decide +kernel
theorem dX4_sumOf_16 : decode cX4_sumOf 16 = .ok (.invokevirtual 73, 3) := by decide +kernel
theorem dX4_sumOf_19 : decode cX4_sumOf 19 = .ok (.ifCond .eq 17, 3) := by decide +kernel
theorem dX4_sumOf_22 : decode cX4_sumOf 22 = .ok (.aload_n 0, 1) := by decide +kernel
theorem dX4_sumOf_23 : decode cX4_sumOf 23 = .ok (.getfield 18, 3) := by decide +kernel
theorem dX4_sumOf_26 : decode cX4_sumOf 26 = .ok (.aload_n 0, 1) := by decide +kernel
theorem dX4_sumOf_27 : decode cX4_sumOf 27 = .ok (.iload_n 1, 1) := by decide +kernel
theorem dX4_sumOf_28 : decode cX4_sumOf 28 = .ok (.iload_n 2, 1) := by decide +kernel
theorem dX4_sumOf_29 : decode cX4_sumOf 29 = .ok (.invokevirtual 57, 3) := by decide +kernel
theorem dX4_sumOf_32 : decode cX4_sumOf 32 = .ok (.iaload, 1) := by decide +kernel
theorem dX4_sumOf_33 : decode cX4_sumOf 33 = .ok (.goto 4, 3) := by decide +kernel
theorem dX4_sumOf_36 : decode cX4_sumOf 36 = .ok (.iconst (-1), 1) := by decide +kernel
theorem dX4_sumOf_37 : decode cX4_sumOf 37 = .ok (.ireturn, 1) := by decide +kernel
theorem dX4_indexOf_0 : decode cX4_indexOf 0 = .ok (.aload_n 0, 1) := by decide +kernel
theorem dX4_indexOf_1 : decode cX4_indexOf 1 = .ok (.getfield 28, 3) := by decide +kernel
theorem dX4_indexOf_4 : decode cX4_indexOf 4 = .ok (.getfield 76, 3) := by decide +kernel
theorem dX4_indexOf_7 : decode cX4_indexOf 7 = .ok (.iconst 3, 1) := by decide +kernel
theorem dX4_indexOf_8 : decode cX4_indexOf 8 = .ok (.imul, 1) := by decide +kernel
theorem dX4_indexOf_9 : decode cX4_indexOf 9 = .ok (.iload_n 1, 1) := by decide +kernel
theorem dX4_indexOf_10 : decode cX4_indexOf 10 = .ok (.iadd, 1) := by decide +kernel
theorem dX4_indexOf_11 : decode cX4_indexOf 11 = .ok (.bipush 64, 2) := by decide +kernel
theorem dX4_indexOf_13 : decode cX4_indexOf 13 = .ok (.imul, 1) := by decide +kernel
theorem dX4_indexOf_14 : decode cX4_indexOf 14 = .ok (.iload_n 2, 1) := by decide +kernel
theorem dX4_indexOf_15 : decode cX4_indexOf 15 = .ok (.iadd, 1) := by decide +kernel
theorem dX4_indexOf_16 : decode cX4_indexOf 16 = .ok (.ireturn, 1) := by decide +kernel
theorem dX4_findPlaces_0 : decode cX4_findPlaces 0 = .ok (.aload_n 0, 1) := by decide +kernel
theorem dX4_findPlaces_1 : decode cX4_findPlaces 1 = .ok (.iconst 1, 1) := by decide +kernel
theorem dX4_findPlaces_2 : decode cX4_findPlaces 2 = .ok (.putfield 47, 3) := by decide +kernel
theorem dX4_findPlaces_5 : decode cX4_findPlaces 5 = .ok (.aload_n 0, 1) := by decide +kernel
theorem dX4_findPlaces_6 : decode cX4_findPlaces 6 = .ok (.iload_n 1, 1) := by decide +kernel
theorem dX4_findPlaces_7 : decode cX4_findPlaces 7 = .ok (.iload_n 2, 1) := by decide +kernel
theorem dX4_findPlaces_8 : decode cX4_findPlaces 8 = .ok (.invokevirtual 61, 3) := by decide +kernel
theorem dX4_findPlaces_11 : decode cX4_findPlaces 11 = .ok (.ireturn, 1) := by decide +kernel
theorem dX4_leastSum_0 : decode cX4_leastSum 0 = .ok (.aload_n 0, 1) := by decide +kernel
theorem dX4_leastSum_1 : decode cX4_leastSum 1 = .ok (.getfield 79, 3) := by decide +kernel
theorem dX4_leastSum_4 : decode cX4_leastSum 4 = .ok (.bipush 18, 2) := by decide +kernel
theorem dX4_leastSum_6 : decode cX4_leastSum 6 = .ok (.ishr, 1) := by decide +kernel
theorem dX4_leastSum_7 : decode cX4_leastSum 7 = .ok (.ireturn, 1) := by decide +kernel
theorem dX4_placeOf_0 : decode cX4_placeOf 0 = .ok (.aload_n 0, 1) := by decide +kernel
theorem dX4_placeOf_1 : decode cX4_placeOf 1 = .ok (.getfield 79, 3) := by decide +kernel
theorem dX4_placeOf_4 : decode cX4_placeOf 4 = .ok (.iload_n 1, 1) := by decide +kernel
theorem dX4_placeOf_5 : decode cX4_placeOf 5 = .ok (.invokestatic 82, 3) := by decide +kernel
theorem dX4_placeOf_8 : decode cX4_placeOf 8 = .ok (.ishr, 1) := by decide +kernel
theorem dX4_placeOf_9 : decode cX4_placeOf 9 = .ok (.bipush 7, 2) := by decide +kernel
theorem dX4_placeOf_11 : decode cX4_placeOf 11 = .ok (.iand, 1) := by decide +kernel
theorem dX4_placeOf_12 : decode cX4_placeOf 12 = .ok (.ireturn, 1) := by decide +kernel
theorem dX4_shiftOf_0 : decode cX4_shiftOf 0 = .ok (.iconst 3, 1) := by decide +kernel
theorem dX4_shiftOf_1 : decode cX4_shiftOf 1 = .ok (.iconst 5, 1) := by decide +kernel
theorem dX4_shiftOf_2 : decode cX4_shiftOf 2 = .ok (.iload_n 0, 1) := by decide +kernel
theorem dX4_shiftOf_3 : decode cX4_shiftOf 3 = .ok (.isub, 1) := by decide +kernel
theorem dX4_shiftOf_4 : decode cX4_shiftOf 4 = .ok (.imul, 1) := by decide +kernel
theorem dX4_shiftOf_5 : decode cX4_shiftOf 5 = .ok (.ireturn, 1) := by decide +kernel
theorem dX4_findBest_0 : decode cX4_findBest 0 = .ok (.aload_n 0, 1) := by decide +kernel
theorem dX4_findBest_1 : decode cX4_findBest 1 = .ok (.ldc 86, 2) := by decide +kernel
theorem dX4_findBest_3 : decode cX4_findBest 3 = .ok (.putfield 79, 3) := by decide +kernel
theorem dX4_findBest_6 : decode cX4_findBest 6 = .ok (.aload_n 0, 1) := by decide +kernel
theorem dX4_findBest_7 : decode cX4_findBest 7 = .ok (.iload_n 1, 1) := by decide +kernel
theorem dX4_findBest_8 : decode cX4_findBest 8 = .ok (.putfield 87, 3) := by decide +kernel
theorem dX4_findBest_11 : decode cX4_findBest 11 = .ok (.aload_n 0, 1) := by decide +kernel
theorem dX4_findBest_12 : decode cX4_findBest 12 = .ok (.iload_n 2, 1) := by decide +kernel
theorem dX4_findBest_13 : decode cX4_findBest 13 = .ok (.invokevirtual 90, 3) := by decide +kernel
theorem dX4_findBest_16 : decode cX4_findBest 16 = .ok (.aload_n 0, 1) := by decide +kernel
theorem dX4_findBest_17 : decode cX4_findBest 17 = .ok (.invokevirtual 94, 3) := by decide +kernel
theorem dX4_findBest_20 : decode cX4_findBest 20 = .ok (.aload_n 0, 1) := by decide +kernel
theorem dX4_findBest_21 : decode cX4_findBest 21 = .ok (.getfield 97, 3) := by decide +kernel
theorem dX4_findBest_24 : decode cX4_findBest 24 = .ok (.aload_n 0, 1) := by decide +kernel
theorem dX4_findBest_25 : decode cX4_findBest 25 = .ok (.getfield 24, 3) := by decide +kernel
theorem dX4_findBest_28 : decode cX4_findBest 28 = .ok (.iload_n 1, 1) := by decide +kernel
theorem dX4_findBest_29 : decode cX4_findBest 29 = .ok (.invokevirtual 100, 3) := by decide +kernel
theorem dX4_findBest_32 : decode cX4_findBest 32 = .ok (.if_icmp .le 5, 3) := by decide +kernel
theorem dX4_findBest_35 : decode cX4_findBest 35 = .ok (.iconst 0, 1) := by decide +kernel
theorem dX4_findBest_36 : decode cX4_findBest 36 = .ok (.ireturn, 1) := by decide +kernel
theorem dX4_findBest_37 : decode cX4_findBest 37 = .ok (.aload_n 0, 1) := by decide +kernel
theorem dX4_findBest_38 : decode cX4_findBest 38 = .ok (.iconst 0, 1) := by decide +kernel
theorem dX4_findBest_39 : decode cX4_findBest 39 = .ok (.iconst 0, 1) := by decide +kernel
theorem dX4_findBest_40 : decode cX4_findBest 40 = .ok (.iconst 0, 1) := by decide +kernel
theorem dX4_findBest_41 : decode cX4_findBest 41 = .ok (.iconst 0, 1) := by decide +kernel
theorem dX4_findBest_42 : decode cX4_findBest 42 = .ok (.invokevirtual 103, 3) := by decide +kernel
theorem dX4_findBest_45 : decode cX4_findBest 45 = .ok (.aload_n 0, 1) := by decide +kernel
theorem dX4_findBest_46 : decode cX4_findBest 46 = .ok (.getfield 79, 3) := by decide +kernel
theorem dX4_findBest_49 : decode cX4_findBest 49 = .ok (.ldc 86, 2) := by decide +kernel
theorem dX4_findBest_51 : decode cX4_findBest 51 = .ok (.if_icmp .eq 7, 3) := by decide +kernel
theorem dX4_findBest_54 : decode cX4_findBest 54 = .ok (.iconst 1, 1) := by decide +kernel
theorem dX4_findBest_55 : decode cX4_findBest 55 = .ok (.goto 4, 3) := by decide +kernel
theorem dX4_findBest_58 : decode cX4_findBest 58 = .ok (.iconst 0, 1) := by decide +kernel
theorem dX4_findBest_59 : decode cX4_findBest 59 = .ok (.ireturn, 1) := by decide +kernel
theorem dX4_orderByAge_0 : decode cX4_orderByAge 0 = .ok (.iload_n 1, 1) := by decide +kernel
theorem dX4_orderByAge_1 : decode cX4_orderByAge 1 = .ok (.istore_n 2, 1) := by decide +kernel
theorem dX4_orderByAge_2 : decode cX4_orderByAge 2 = .ok (.aload_n 0, 1) := by decide +kernel
theorem dX4_orderByAge_3 : decode cX4_orderByAge 3 = .ok (.iconst 0, 1) := by decide +kernel
theorem dX4_orderByAge_4 : decode cX4_orderByAge 4 = .ok (.putfield 97, 3) := by decide +kernel
theorem dX4_orderByAge_7 : decode cX4_orderByAge 7 = .ok (.iconst 0, 1) := by decide +kernel
theorem dX4_orderByAge_8 : decode cX4_orderByAge 8 = .ok (.istore_n 3, 1) := by decide +kernel
theorem dX4_orderByAge_9 : decode cX4_orderByAge 9 = .ok (.iload_n 3, 1) := by decide +kernel
theorem dX4_orderByAge_10 : decode cX4_orderByAge 10 = .ok (.bipush 6, 2) := by decide +kernel
theorem dX4_orderByAge_12 : decode cX4_orderByAge 12 = .ok (.if_icmp .ge 55, 3) := by decide +kernel
theorem dX4_orderByAge_15 : decode cX4_orderByAge 15 = .ok (.aload_n 0, 1) := by decide +kernel
theorem dX4_orderByAge_16 : decode cX4_orderByAge 16 = .ok (.getfield 28, 3) := by decide +kernel
theorem dX4_orderByAge_19 : decode cX4_orderByAge 19 = .ok (.iload_n 2, 1) := by decide +kernel
theorem dX4_orderByAge_20 : decode cX4_orderByAge 20 = .ok (.invokevirtual 107, 3) := by decide +kernel
theorem dX4_orderByAge_23 : decode cX4_orderByAge 23 = .ok (.istore 4, 2) := by decide +kernel
theorem dX4_orderByAge_25 : decode cX4_orderByAge 25 = .ok (.iload 4, 2) := by decide +kernel
theorem dX4_orderByAge_27 : decode cX4_orderByAge 27 = .ok (.iconst (-1), 1) := by decide +kernel
theorem dX4_orderByAge_28 : decode cX4_orderByAge 28 = .ok (.if_icmp .ne 6, 3) := by decide +kernel
theorem dX4_orderByAge_31 : decode cX4_orderByAge 31 = .ok (.goto 36, 3) := by decide +kernel
theorem dX4_orderByAge_34 : decode cX4_orderByAge 34 = .ok (.aload_n 0, 1) := by decide +kernel
theorem dX4_orderByAge_35 : decode cX4_orderByAge 35 = .ok (.getfield 11, 3) := by decide +kernel
theorem dX4_orderByAge_38 : decode cX4_orderByAge 38 = .ok (.iload_n 3, 1) := by decide +kernel
theorem dX4_orderByAge_39 : decode cX4_orderByAge 39 = .ok (.iload 4, 2) := by decide +kernel
theorem dX4_orderByAge_41 : decode cX4_orderByAge 41 = .ok (.iastore, 1) := by decide +kernel
theorem dX4_orderByAge_42 : decode cX4_orderByAge 42 = .ok (.aload_n 0, 1) := by decide +kernel
theorem dX4_orderByAge_43 : decode cX4_orderByAge 43 = .ok (.dup, 1) := by decide +kernel
theorem dX4_orderByAge_44 : decode cX4_orderByAge 44 = .ok (.getfield 97, 3) := by decide +kernel
theorem dX4_orderByAge_47 : decode cX4_orderByAge 47 = .ok (.iconst 1, 1) := by decide +kernel
theorem dX4_orderByAge_48 : decode cX4_orderByAge 48 = .ok (.iadd, 1) := by decide +kernel
theorem dX4_orderByAge_49 : decode cX4_orderByAge 49 = .ok (.putfield 97, 3) := by decide +kernel
theorem dX4_orderByAge_52 : decode cX4_orderByAge 52 = .ok (.iload_n 2, 1) := by decide +kernel
theorem dX4_orderByAge_53 : decode cX4_orderByAge 53 = .ok (.iconst 1, 1) := by decide +kernel
theorem dX4_orderByAge_54 : decode cX4_orderByAge 54 = .ok (.iload 4, 2) := by decide +kernel
theorem dX4_orderByAge_56 : decode cX4_orderByAge 56 = .ok (.ishl, 1) := by decide +kernel
theorem dX4_orderByAge_57 : decode cX4_orderByAge 57 = .ok (.iconst (-1), 1) := by decide +kernel
theorem dX4_orderByAge_58 : decode cX4_orderByAge 58 = .ok (.ixor, 1) := by decide +kernel
theorem dX4_orderByAge_59 : decode cX4_orderByAge 59 = .ok (.iand, 1) := by decide +kernel
theorem dX4_orderByAge_60 : decode cX4_orderByAge 60 = .ok (.istore_n 2, 1) := by decide +kernel
theorem dX4_orderByAge_61 : decode cX4_orderByAge 61 = .ok (.iinc 3 1, 3) := by decide +kernel
theorem dX4_orderByAge_64 : decode cX4_orderByAge 64 = .ok (.goto (-55), 3) := by decide +kernel
theorem dX4_orderByAge_67 : decode cX4_orderByAge 67 = .ok (.return_, 1) := by decide +kernel
theorem dX4_lookAtFloors_0 : decode cX4_lookAtFloors 0 = .ok (.aload_n 0, 1) := by decide +kernel
theorem dX4_lookAtFloors_1 : decode cX4_lookAtFloors 1 = .ok (.aload_n 0, 1) := by decide +kernel
theorem dX4_lookAtFloors_2 : decode cX4_lookAtFloors 2 = .ok (.getfield 24, 3) := by decide +kernel
theorem dX4_lookAtFloors_5 : decode cX4_lookAtFloors 5 = .ok (.aload_n 0, 1) := by decide +kernel
theorem dX4_lookAtFloors_6 : decode cX4_lookAtFloors 6 = .ok (.getfield 87, 3) := by decide +kernel
theorem dX4_lookAtFloors_9 : decode cX4_lookAtFloors 9 = .ok (.iconst 0, 1) := by decide +kernel
theorem dX4_lookAtFloors_10 : decode cX4_lookAtFloors 10 = .ok (.invokevirtual 110, 3) := by decide +kernel
theorem dX4_lookAtFloors_13 : decode cX4_lookAtFloors 13 = .ok (.putfield 113, 3) := by decide +kernel
theorem dX4_lookAtFloors_16 : decode cX4_lookAtFloors 16 = .ok (.iconst 0, 1) := by decide +kernel
theorem dX4_lookAtFloors_17 : decode cX4_lookAtFloors 17 = .ok (.istore_n 1, 1) := by decide +kernel
theorem dX4_lookAtFloors_18 : decode cX4_lookAtFloors 18 = .ok (.iload_n 1, 1) := by decide +kernel
theorem dX4_lookAtFloors_19 : decode cX4_lookAtFloors 19 = .ok (.aload_n 0, 1) := by decide +kernel
theorem dX4_lookAtFloors_20 : decode cX4_lookAtFloors 20 = .ok (.getfield 24, 3) := by decide +kernel
theorem dX4_lookAtFloors_23 : decode cX4_lookAtFloors 23 = .ok (.aload_n 0, 1) := by decide +kernel
theorem dX4_lookAtFloors_24 : decode cX4_lookAtFloors 24 = .ok (.getfield 87, 3) := by decide +kernel
theorem dX4_lookAtFloors_27 : decode cX4_lookAtFloors 27 = .ok (.invokevirtual 100, 3) := by decide +kernel
theorem dX4_lookAtFloors_30 : decode cX4_lookAtFloors 30 = .ok (.if_icmp .ge 104, 3) := by decide +kernel
theorem dX4_lookAtFloors_33 : decode cX4_lookAtFloors 33 = .ok (.iload_n 1, 1) := by decide +kernel
theorem dX4_lookAtFloors_34 : decode cX4_lookAtFloors 34 = .ok (.bipush 6, 2) := by decide +kernel
theorem dX4_lookAtFloors_36 : decode cX4_lookAtFloors 36 = .ok (.if_icmp .ge 98, 3) := by decide +kernel
theorem dX4_lookAtFloors_39 : decode cX4_lookAtFloors 39 = .ok (.aload_n 0, 1) := by decide +kernel
theorem dX4_lookAtFloors_40 : decode cX4_lookAtFloors 40 = .ok (.aload_n 0, 1) := by decide +kernel
theorem dX4_lookAtFloors_41 : decode cX4_lookAtFloors 41 = .ok (.getfield 113, 3) := by decide +kernel
theorem dX4_lookAtFloors_44 : decode cX4_lookAtFloors 44 = .ok (.aload_n 0, 1) := by decide +kernel
theorem dX4_lookAtFloors_45 : decode cX4_lookAtFloors 45 = .ok (.getfield 24, 3) := by decide +kernel
theorem dX4_lookAtFloors_48 : decode cX4_lookAtFloors 48 = .ok (.aload_n 0, 1) := by decide +kernel
theorem dX4_lookAtFloors_49 : decode cX4_lookAtFloors 49 = .ok (.getfield 87, 3) := by decide +kernel
theorem dX4_lookAtFloors_52 : decode cX4_lookAtFloors 52 = .ok (.iload_n 1, 1) := by decide +kernel
theorem dX4_lookAtFloors_53 : decode cX4_lookAtFloors 53 = .ok (.invokevirtual 110, 3) := by decide +kernel
theorem dX4_lookAtFloors_56 : decode cX4_lookAtFloors 56 = .ok (.invokestatic 116, 3) := by decide +kernel
theorem dX4_lookAtFloors_59 : decode cX4_lookAtFloors 59 = .ok (.putfield 113, 3) := by decide +kernel
theorem dX4_lookAtFloors_62 : decode cX4_lookAtFloors 62 = .ok (.aload_n 0, 1) := by decide +kernel
theorem dX4_lookAtFloors_63 : decode cX4_lookAtFloors 63 = .ok (.getfield 15, 3) := by decide +kernel
theorem dX4_lookAtFloors_66 : decode cX4_lookAtFloors 66 = .ok (.iload_n 1, 1) := by decide +kernel
theorem dX4_lookAtFloors_67 : decode cX4_lookAtFloors 67 = .ok (.iconst 0, 1) := by decide +kernel
theorem dX4_lookAtFloors_68 : decode cX4_lookAtFloors 68 = .ok (.iastore, 1) := by decide +kernel
theorem dX4_lookAtFloors_69 : decode cX4_lookAtFloors 69 = .ok (.iconst 0, 1) := by decide +kernel
theorem dX4_lookAtFloors_70 : decode cX4_lookAtFloors 70 = .ok (.istore_n 2, 1) := by decide +kernel
theorem dX4_lookAtFloors_71 : decode cX4_lookAtFloors 71 = .ok (.iload_n 2, 1) := by decide +kernel
theorem dX4_lookAtFloors_72 : decode cX4_lookAtFloors 72 = .ok (.iload_n 1, 1) := by decide +kernel
theorem dX4_lookAtFloors_73 : decode cX4_lookAtFloors 73 = .ok (.if_icmp .ge 55, 3) := by decide +kernel
theorem dX4_lookAtFloors_76 : decode cX4_lookAtFloors 76 = .ok (.aload_n 0, 1) := by decide +kernel
theorem dX4_lookAtFloors_77 : decode cX4_lookAtFloors 77 = .ok (.getfield 47, 3) := by decide +kernel
theorem dX4_lookAtFloors_80 : decode cX4_lookAtFloors 80 = .ok (.ifCond .ne 48, 3) := by decide +kernel
theorem dX4_lookAtFloors_83 : decode cX4_lookAtFloors 83 = .ok (.aload_n 0, 1) := by decide +kernel
theorem dX4_lookAtFloors_84 : decode cX4_lookAtFloors 84 = .ok (.getfield 24, 3) := by decide +kernel
theorem dX4_lookAtFloors_87 : decode cX4_lookAtFloors 87 = .ok (.aload_n 0, 1) := by decide +kernel
theorem dX4_lookAtFloors_88 : decode cX4_lookAtFloors 88 = .ok (.getfield 87, 3) := by decide +kernel
theorem dX4_lookAtFloors_91 : decode cX4_lookAtFloors 91 = .ok (.iload_n 2, 1) := by decide +kernel
theorem dX4_lookAtFloors_92 : decode cX4_lookAtFloors 92 = .ok (.invokevirtual 110, 3) := by decide +kernel
theorem dX4_lookAtFloors_95 : decode cX4_lookAtFloors 95 = .ok (.aload_n 0, 1) := by decide +kernel
theorem dX4_lookAtFloors_96 : decode cX4_lookAtFloors 96 = .ok (.getfield 24, 3) := by decide +kernel
theorem dX4_lookAtFloors_99 : decode cX4_lookAtFloors 99 = .ok (.aload_n 0, 1) := by decide +kernel
theorem dX4_lookAtFloors_100 : decode cX4_lookAtFloors 100 = .ok (.getfield 87, 3) := by decide +kernel
theorem dX4_lookAtFloors_103 : decode cX4_lookAtFloors 103 = .ok (.iload_n 1, 1) := by decide +kernel
theorem dX4_lookAtFloors_104 : decode cX4_lookAtFloors 104 = .ok (.invokevirtual 110, 3) := by decide +kernel
theorem dX4_lookAtFloors_107 : decode cX4_lookAtFloors 107 = .ok (.if_icmp .ne 15, 3) := by decide +kernel
theorem dX4_lookAtFloors_110 : decode cX4_lookAtFloors 110 = .ok (.aload_n 0, 1) := by decide +kernel
theorem dX4_lookAtFloors_111 : decode cX4_lookAtFloors 111 = .ok (.getfield 15, 3) := by decide +kernel
theorem dX4_lookAtFloors_114 : decode cX4_lookAtFloors 114 = .ok (.iload_n 1, 1) := by decide +kernel
theorem dX4_lookAtFloors_115 : decode cX4_lookAtFloors 115 = .ok (.dup2, 1) := by decide +kernel
theorem dX4_lookAtFloors_116 : decode cX4_lookAtFloors 116 = .ok (.iaload, 1) := by decide +kernel
theorem dX4_lookAtFloors_117 : decode cX4_lookAtFloors 117 = .ok (.iconst 1, 1) := by decide +kernel
theorem dX4_lookAtFloors_118 : decode cX4_lookAtFloors 118 = .ok (.iload_n 2, 1) := by decide +kernel
theorem dX4_lookAtFloors_119 : decode cX4_lookAtFloors 119 = .ok (.ishl, 1) := by decide +kernel
theorem dX4_lookAtFloors_120 : decode cX4_lookAtFloors 120 = .ok (.ior, 1) := by decide +kernel
theorem dX4_lookAtFloors_121 : decode cX4_lookAtFloors 121 = .ok (.iastore, 1) := by decide +kernel
theorem dX4_lookAtFloors_122 : decode cX4_lookAtFloors 122 = .ok (.iinc 2 1, 3) := by decide +kernel
theorem dX4_lookAtFloors_125 : decode cX4_lookAtFloors 125 = .ok (.goto (-54), 3) := by decide +kernel
theorem dX4_lookAtFloors_128 : decode cX4_lookAtFloors 128 = .ok (.iinc 1 1, 3) := by decide +kernel
theorem dX4_lookAtFloors_131 : decode cX4_lookAtFloors 131 = .ok (.goto (-113), 3) := by decide +kernel
theorem dX4_lookAtFloors_134 : decode cX4_lookAtFloors 134 = .ok (.return_, 1) := by decide +kernel
theorem dX4_placeFrom_0 : decode cX4_placeFrom 0 = .ok (.iload_n 1, 1) := by decide +kernel
theorem dX4_placeFrom_1 : decode cX4_placeFrom 1 = .ok (.aload_n 0, 1) := by decide +kernel
theorem dX4_placeFrom_2 : decode cX4_placeFrom 2 = .ok (.getfield 97, 3) := by decide +kernel
theorem dX4_placeFrom_5 : decode cX4_placeFrom 5 = .ok (.if_icmp .ge 9, 3) := by decide +kernel
theorem dX4_placeFrom_8 : decode cX4_placeFrom 8 = .ok (.iload_n 1, 1) := by decide +kernel
theorem dX4_placeFrom_9 : decode cX4_placeFrom 9 = .ok (.bipush 6, 2) := by decide +kernel
theorem dX4_placeFrom_11 : decode cX4_placeFrom 11 = .ok (.if_icmp .lt 10, 3) := by decide +kernel
theorem dX4_placeFrom_14 : decode cX4_placeFrom 14 = .ok (.aload_n 0, 1) := by decide +kernel
theorem dX4_placeFrom_15 : decode cX4_placeFrom 15 = .ok (.iload 4, 2) := by decide +kernel
theorem dX4_placeFrom_17 : decode cX4_placeFrom 17 = .ok (.putfield 79, 3) := by decide +kernel
theorem dX4_placeFrom_20 : decode cX4_placeFrom 20 = .ok (.return_, 1) := by decide +kernel
theorem dX4_placeFrom_21 : decode cX4_placeFrom 21 = .ok (.aload_n 0, 1) := by decide +kernel
theorem dX4_placeFrom_22 : decode cX4_placeFrom 22 = .ok (.getfield 11, 3) := by decide +kernel
theorem dX4_placeFrom_25 : decode cX4_placeFrom 25 = .ok (.iload_n 1, 1) := by decide +kernel
theorem dX4_placeFrom_26 : decode cX4_placeFrom 26 = .ok (.iaload, 1) := by decide +kernel
theorem dX4_placeFrom_27 : decode cX4_placeFrom 27 = .ok (.istore 5, 2) := by decide +kernel
theorem dX4_placeFrom_29 : decode cX4_placeFrom 29 = .ok (.iconst 0, 1) := by decide +kernel
theorem dX4_placeFrom_30 : decode cX4_placeFrom 30 = .ok (.istore 6, 2) := by decide +kernel
theorem dX4_placeFrom_32 : decode cX4_placeFrom 32 = .ok (.iload 6, 2) := by decide +kernel
theorem dX4_placeFrom_34 : decode cX4_placeFrom 34 = .ok (.aload_n 0, 1) := by decide +kernel
theorem dX4_placeFrom_35 : decode cX4_placeFrom 35 = .ok (.getfield 24, 3) := by decide +kernel
theorem dX4_placeFrom_38 : decode cX4_placeFrom 38 = .ok (.aload_n 0, 1) := by decide +kernel
theorem dX4_placeFrom_39 : decode cX4_placeFrom 39 = .ok (.getfield 87, 3) := by decide +kernel
theorem dX4_placeFrom_42 : decode cX4_placeFrom 42 = .ok (.invokevirtual 100, 3) := by decide +kernel
theorem dX4_placeFrom_45 : decode cX4_placeFrom 45 = .ok (.if_icmp .ge 201, 3) := by decide +kernel
theorem dX4_placeFrom_48 : decode cX4_placeFrom 48 = .ok (.iload 6, 2) := by decide +kernel
theorem dX4_placeFrom_50 : decode cX4_placeFrom 50 = .ok (.bipush 6, 2) := by decide +kernel
theorem dX4_placeFrom_52 : decode cX4_placeFrom 52 = .ok (.if_icmp .ge 194, 3) := by decide +kernel
theorem dX4_placeFrom_55 : decode cX4_placeFrom 55 = .ok (.iload_n 3, 1) := by decide +kernel
theorem dX4_placeFrom_56 : decode cX4_placeFrom 56 = .ok (.iload 6, 2) := by decide +kernel
theorem dX4_placeFrom_58 : decode cX4_placeFrom 58 = .ok (.ishr, 1) := by decide +kernel
theorem dX4_placeFrom_59 : decode cX4_placeFrom 59 = .ok (.iconst 1, 1) := by decide +kernel
theorem dX4_placeFrom_60 : decode cX4_placeFrom 60 = .ok (.iand, 1) := by decide +kernel
theorem dX4_placeFrom_61 : decode cX4_placeFrom 61 = .ok (.ifCond .ne 179, 3) := by decide +kernel
theorem dX4_placeFrom_64 : decode cX4_placeFrom 64 = .ok (.aload_n 0, 1) := by decide +kernel
theorem dX4_placeFrom_65 : decode cX4_placeFrom 65 = .ok (.getfield 15, 3) := by decide +kernel
theorem dX4_placeFrom_68 : decode cX4_placeFrom 68 = .ok (.iload 6, 2) := by decide +kernel
theorem dX4_placeFrom_70 : decode cX4_placeFrom 70 = .ok (.iaload, 1) := by decide +kernel
theorem dX4_placeFrom_71 : decode cX4_placeFrom 71 = .ok (.iload_n 3, 1) := by decide +kernel
theorem dX4_placeFrom_72 : decode cX4_placeFrom 72 = .ok (.iconst (-1), 1) := by decide +kernel
theorem dX4_placeFrom_73 : decode cX4_placeFrom 73 = .ok (.ixor, 1) := by decide +kernel
theorem dX4_placeFrom_74 : decode cX4_placeFrom 74 = .ok (.iand, 1) := by decide +kernel
theorem dX4_placeFrom_75 : decode cX4_placeFrom 75 = .ok (.ifCond .eq 6, 3) := by decide +kernel
theorem dX4_placeFrom_78 : decode cX4_placeFrom 78 = .ok (.goto 162, 3) := by decide +kernel
theorem dX4_placeFrom_81 : decode cX4_placeFrom 81 = .ok (.aload_n 0, 1) := by decide +kernel
theorem dX4_placeFrom_82 : decode cX4_placeFrom 82 = .ok (.getfield 24, 3) := by decide +kernel
theorem dX4_placeFrom_85 : decode cX4_placeFrom 85 = .ok (.aload_n 0, 1) := by decide +kernel
theorem dX4_placeFrom_86 : decode cX4_placeFrom 86 = .ok (.getfield 87, 3) := by decide +kernel
theorem dX4_placeFrom_89 : decode cX4_placeFrom 89 = .ok (.iload 6, 2) := by decide +kernel
theorem dX4_placeFrom_91 : decode cX4_placeFrom 91 = .ok (.invokevirtual 110, 3) := by decide +kernel
theorem dX4_placeFrom_94 : decode cX4_placeFrom 94 = .ok (.aload_n 0, 1) := by decide +kernel
theorem dX4_placeFrom_95 : decode cX4_placeFrom 95 = .ok (.getfield 28, 3) := by decide +kernel
theorem dX4_placeFrom_98 : decode cX4_placeFrom 98 = .ok (.getfield 32, 3) := by decide +kernel
theorem dX4_placeFrom_101 : decode cX4_placeFrom 101 = .ok (.iload 5, 2) := by decide +kernel
theorem dX4_placeFrom_103 : decode cX4_placeFrom 103 = .ok (.iaload, 1) := by decide +kernel
theorem dX4_placeFrom_104 : decode cX4_placeFrom 104 = .ok (.iadd, 1) := by decide +kernel
theorem dX4_placeFrom_105 : decode cX4_placeFrom 105 = .ok (.istore 7, 2) := by decide +kernel
theorem dX4_placeFrom_107 : decode cX4_placeFrom 107 = .ok (.iload_n 1, 1) := by decide +kernel
theorem dX4_placeFrom_108 : decode cX4_placeFrom 108 = .ok (.ifCond .ne 7, 3) := by decide +kernel
theorem dX4_placeFrom_111 : decode cX4_placeFrom 111 = .ok (.iconst 0, 1) := by decide +kernel
theorem dX4_placeFrom_112 : decode cX4_placeFrom 112 = .ok (.goto 11, 3) := by decide +kernel
theorem dX4_placeFrom_115 : decode cX4_placeFrom 115 = .ok (.iconst 0, 1) := by decide +kernel
theorem dX4_placeFrom_116 : decode cX4_placeFrom 116 = .ok (.iload 7, 2) := by decide +kernel
theorem dX4_placeFrom_118 : decode cX4_placeFrom 118 = .ok (.iload_n 2, 1) := by decide +kernel
theorem dX4_placeFrom_119 : decode cX4_placeFrom 119 = .ok (.isub, 1) := by decide +kernel
theorem dX4_placeFrom_120 : decode cX4_placeFrom 120 = .ok (.invokestatic 121, 3) := by decide +kernel
theorem dX4_placeFrom_123 : decode cX4_placeFrom 123 = .ok (.istore 8, 2) := by decide +kernel
theorem dX4_placeFrom_125 : decode cX4_placeFrom 125 = .ok (.iload 8, 2) := by decide +kernel
theorem dX4_placeFrom_127 : decode cX4_placeFrom 127 = .ok (.aload_n 0, 1) := by decide +kernel
theorem dX4_placeFrom_128 : decode cX4_placeFrom 128 = .ok (.getfield 24, 3) := by decide +kernel
theorem dX4_placeFrom_131 : decode cX4_placeFrom 131 = .ok (.getfield 124, 3) := by decide +kernel
theorem dX4_placeFrom_134 : decode cX4_placeFrom 134 = .ok (.iload 5, 2) := by decide +kernel
theorem dX4_placeFrom_136 : decode cX4_placeFrom 136 = .ok (.iaload, 1) := by decide +kernel
theorem dX4_placeFrom_137 : decode cX4_placeFrom 137 = .ok (.if_icmp .le 6, 3) := by decide +kernel
theorem dX4_placeFrom_140 : decode cX4_placeFrom 140 = .ok (.goto 100, 3) := by decide +kernel
theorem dX4_placeFrom_143 : decode cX4_placeFrom 143 = .ok (.iload 4, 2) := by decide +kernel
theorem dX4_placeFrom_145 : decode cX4_placeFrom 145 = .ok (.iload 8, 2) := by decide +kernel
theorem dX4_placeFrom_147 : decode cX4_placeFrom 147 = .ok (.bipush 18, 2) := by decide +kernel
theorem dX4_placeFrom_149 : decode cX4_placeFrom 149 = .ok (.ishl, 1) := by decide +kernel
theorem dX4_placeFrom_150 : decode cX4_placeFrom 150 = .ok (.iadd, 1) := by decide +kernel
theorem dX4_placeFrom_151 : decode cX4_placeFrom 151 = .ok (.aload_n 0, 1) := by decide +kernel
theorem dX4_placeFrom_152 : decode cX4_placeFrom 152 = .ok (.getfield 47, 3) := by decide +kernel
theorem dX4_placeFrom_155 : decode cX4_placeFrom 155 = .ok (.ifCond .eq 14, 3) := by decide +kernel
theorem dX4_placeFrom_158 : decode cX4_placeFrom 158 = .ok (.iload 6, 2) := by decide +kernel
theorem dX4_placeFrom_160 : decode cX4_placeFrom 160 = .ok (.iload 5, 2) := by decide +kernel
theorem dX4_placeFrom_162 : decode cX4_placeFrom 162 = .ok (.invokestatic 82, 3) := by decide +kernel
theorem dX4_placeFrom_165 : decode cX4_placeFrom 165 = .ok (.ishl, 1) := by decide +kernel
theorem dX4_placeFrom_166 : decode cX4_placeFrom 166 = .ok (.goto 4, 3) := by decide +kernel
theorem dX4_placeFrom_169 : decode cX4_placeFrom 169 = .ok (.iconst 0, 1) := by decide +kernel
theorem dX4_placeFrom_170 : decode cX4_placeFrom 170 = .ok (.iadd, 1) := by decide +kernel
theorem dX4_placeFrom_171 : decode cX4_placeFrom 171 = .ok (.istore 9, 2) := by decide +kernel
theorem dX4_placeFrom_173 : decode cX4_placeFrom 173 = .ok (.iload_n 1, 1) := by decide +kernel
theorem dX4_placeFrom_174 : decode cX4_placeFrom 174 = .ok (.ifCond .ne 8, 3) := by decide +kernel
theorem dX4_placeFrom_177 : decode cX4_placeFrom 177 = .ok (.iload 7, 2) := by decide +kernel
theorem dX4_placeFrom_179 : decode cX4_placeFrom 179 = .ok (.goto 10, 3) := by decide +kernel
theorem dX4_placeFrom_182 : decode cX4_placeFrom 182 = .ok (.aload_n 0, 1) := by decide +kernel
theorem dX4_placeFrom_183 : decode cX4_placeFrom 183 = .ok (.iload_n 2, 1) := by decide +kernel
theorem dX4_placeFrom_184 : decode cX4_placeFrom 184 = .ok (.iload 7, 2) := by decide +kernel
theorem dX4_placeFrom_186 : decode cX4_placeFrom 186 = .ok (.invokevirtual 127, 3) := by decide +kernel
theorem dX4_placeFrom_189 : decode cX4_placeFrom 189 = .ok (.istore 10, 2) := by decide +kernel
theorem dX4_placeFrom_191 : decode cX4_placeFrom 191 = .ok (.aload_n 0, 1) := by decide +kernel
theorem dX4_placeFrom_192 : decode cX4_placeFrom 192 = .ok (.iload_n 1, 1) := by decide +kernel
theorem dX4_placeFrom_193 : decode cX4_placeFrom 193 = .ok (.iconst 1, 1) := by decide +kernel
theorem dX4_placeFrom_194 : decode cX4_placeFrom 194 = .ok (.iadd, 1) := by decide +kernel
theorem dX4_placeFrom_195 : decode cX4_placeFrom 195 = .ok (.iload 10, 2) := by decide +kernel
theorem dX4_placeFrom_197 : decode cX4_placeFrom 197 = .ok (.invokevirtual 130, 3) := by decide +kernel
theorem dX4_placeFrom_200 : decode cX4_placeFrom 200 = .ok (.istore 11, 2) := by decide +kernel
theorem dX4_placeFrom_202 : decode cX4_placeFrom 202 = .ok (.iload 11, 2) := by decide +kernel
theorem dX4_placeFrom_204 : decode cX4_placeFrom 204 = .ok (.iconst (-1), 1) := by decide +kernel
theorem dX4_placeFrom_205 : decode cX4_placeFrom 205 = .ok (.if_icmp .eq 35, 3) := by decide +kernel
theorem dX4_placeFrom_208 : decode cX4_placeFrom 208 = .ok (.iload 9, 2) := by decide +kernel
theorem dX4_placeFrom_210 : decode cX4_placeFrom 210 = .ok (.iload 11, 2) := by decide +kernel
theorem dX4_placeFrom_212 : decode cX4_placeFrom 212 = .ok (.bipush 18, 2) := by decide +kernel
theorem dX4_placeFrom_214 : decode cX4_placeFrom 214 = .ok (.ishl, 1) := by decide +kernel
theorem dX4_placeFrom_215 : decode cX4_placeFrom 215 = .ok (.iadd, 1) := by decide +kernel
theorem dX4_placeFrom_216 : decode cX4_placeFrom 216 = .ok (.aload_n 0, 1) := by decide +kernel
theorem dX4_placeFrom_217 : decode cX4_placeFrom 217 = .ok (.getfield 79, 3) := by decide +kernel
theorem dX4_placeFrom_220 : decode cX4_placeFrom 220 = .ok (.if_icmp .ge 20, 3) := by decide +kernel
theorem dX4_placeFrom_223 : decode cX4_placeFrom 223 = .ok (.aload_n 0, 1) := by decide +kernel
theorem dX4_placeFrom_224 : decode cX4_placeFrom 224 = .ok (.iload_n 1, 1) := by decide +kernel
theorem dX4_placeFrom_225 : decode cX4_placeFrom 225 = .ok (.iconst 1, 1) := by decide +kernel
theorem dX4_placeFrom_226 : decode cX4_placeFrom 226 = .ok (.iadd, 1) := by decide +kernel
theorem dX4_placeFrom_227 : decode cX4_placeFrom 227 = .ok (.iload 10, 2) := by decide +kernel
theorem dX4_placeFrom_229 : decode cX4_placeFrom 229 = .ok (.iload_n 3, 1) := by decide +kernel
theorem dX4_placeFrom_230 : decode cX4_placeFrom 230 = .ok (.iconst 1, 1) := by decide +kernel
theorem dX4_placeFrom_231 : decode cX4_placeFrom 231 = .ok (.iload 6, 2) := by decide +kernel
theorem dX4_placeFrom_233 : decode cX4_placeFrom 233 = .ok (.ishl, 1) := by decide +kernel
theorem dX4_placeFrom_234 : decode cX4_placeFrom 234 = .ok (.ior, 1) := by decide +kernel
theorem dX4_placeFrom_235 : decode cX4_placeFrom 235 = .ok (.iload 9, 2) := by decide +kernel
theorem dX4_placeFrom_237 : decode cX4_placeFrom 237 = .ok (.invokevirtual 103, 3) := by decide +kernel
theorem dX4_placeFrom_240 : decode cX4_placeFrom 240 = .ok (.iinc 6 1, 3) := by decide +kernel
theorem dX4_placeFrom_243 : decode cX4_placeFrom 243 = .ok (.goto (-211), 3) := by decide +kernel
theorem dX4_placeFrom_246 : decode cX4_placeFrom 246 = .ok (.return_, 1) := by decide +kernel
theorem dX4_leastOfRest_0 : decode cX4_leastOfRest 0 = .ok (.iconst 0, 1) := by decide +kernel
theorem dX4_leastOfRest_1 : decode cX4_leastOfRest 1 = .ok (.istore_n 3, 1) := by decide +kernel
theorem dX4_leastOfRest_2 : decode cX4_leastOfRest 2 = .ok (.iload_n 1, 1) := by decide +kernel
theorem dX4_leastOfRest_3 : decode cX4_leastOfRest 3 = .ok (.istore 4, 2) := by decide +kernel
theorem dX4_leastOfRest_5 : decode cX4_leastOfRest 5 = .ok (.iload 4, 2) := by decide +kernel
theorem dX4_leastOfRest_7 : decode cX4_leastOfRest 7 = .ok (.aload_n 0, 1) := by decide +kernel
theorem dX4_leastOfRest_8 : decode cX4_leastOfRest 8 = .ok (.getfield 97, 3) := by decide +kernel
theorem dX4_leastOfRest_11 : decode cX4_leastOfRest 11 = .ok (.if_icmp .ge 70, 3) := by decide +kernel
theorem dX4_leastOfRest_14 : decode cX4_leastOfRest 14 = .ok (.iload 4, 2) := by decide +kernel
theorem dX4_leastOfRest_16 : decode cX4_leastOfRest 16 = .ok (.bipush 6, 2) := by decide +kernel
theorem dX4_leastOfRest_18 : decode cX4_leastOfRest 18 = .ok (.if_icmp .ge 63, 3) := by decide +kernel
theorem dX4_leastOfRest_21 : decode cX4_leastOfRest 21 = .ok (.aload_n 0, 1) := by decide +kernel
theorem dX4_leastOfRest_22 : decode cX4_leastOfRest 22 = .ok (.getfield 11, 3) := by decide +kernel
theorem dX4_leastOfRest_25 : decode cX4_leastOfRest 25 = .ok (.iload 4, 2) := by decide +kernel
theorem dX4_leastOfRest_27 : decode cX4_leastOfRest 27 = .ok (.iaload, 1) := by decide +kernel
theorem dX4_leastOfRest_28 : decode cX4_leastOfRest 28 = .ok (.istore 5, 2) := by decide +kernel
theorem dX4_leastOfRest_30 : decode cX4_leastOfRest 30 = .ok (.iconst 0, 1) := by decide +kernel
theorem dX4_leastOfRest_31 : decode cX4_leastOfRest 31 = .ok (.aload_n 0, 1) := by decide +kernel
theorem dX4_leastOfRest_32 : decode cX4_leastOfRest 32 = .ok (.getfield 113, 3) := by decide +kernel
theorem dX4_leastOfRest_35 : decode cX4_leastOfRest 35 = .ok (.aload_n 0, 1) := by decide +kernel
theorem dX4_leastOfRest_36 : decode cX4_leastOfRest 36 = .ok (.getfield 28, 3) := by decide +kernel
theorem dX4_leastOfRest_39 : decode cX4_leastOfRest 39 = .ok (.getfield 32, 3) := by decide +kernel
theorem dX4_leastOfRest_42 : decode cX4_leastOfRest 42 = .ok (.iload 5, 2) := by decide +kernel
theorem dX4_leastOfRest_44 : decode cX4_leastOfRest 44 = .ok (.iaload, 1) := by decide +kernel
theorem dX4_leastOfRest_45 : decode cX4_leastOfRest 45 = .ok (.iadd, 1) := by decide +kernel
theorem dX4_leastOfRest_46 : decode cX4_leastOfRest 46 = .ok (.iload_n 2, 1) := by decide +kernel
theorem dX4_leastOfRest_47 : decode cX4_leastOfRest 47 = .ok (.isub, 1) := by decide +kernel
theorem dX4_leastOfRest_48 : decode cX4_leastOfRest 48 = .ok (.invokestatic 121, 3) := by decide +kernel
theorem dX4_leastOfRest_51 : decode cX4_leastOfRest 51 = .ok (.istore 6, 2) := by decide +kernel
theorem dX4_leastOfRest_53 : decode cX4_leastOfRest 53 = .ok (.iload 6, 2) := by decide +kernel
theorem dX4_leastOfRest_55 : decode cX4_leastOfRest 55 = .ok (.aload_n 0, 1) := by decide +kernel
theorem dX4_leastOfRest_56 : decode cX4_leastOfRest 56 = .ok (.getfield 24, 3) := by decide +kernel
theorem dX4_leastOfRest_59 : decode cX4_leastOfRest 59 = .ok (.getfield 124, 3) := by decide +kernel
theorem dX4_leastOfRest_62 : decode cX4_leastOfRest 62 = .ok (.iload 5, 2) := by decide +kernel
theorem dX4_leastOfRest_64 : decode cX4_leastOfRest 64 = .ok (.iaload, 1) := by decide +kernel
theorem dX4_leastOfRest_65 : decode cX4_leastOfRest 65 = .ok (.if_icmp .le 5, 3) := by decide +kernel
theorem dX4_leastOfRest_68 : decode cX4_leastOfRest 68 = .ok (.iconst (-1), 1) := by decide +kernel
theorem dX4_leastOfRest_69 : decode cX4_leastOfRest 69 = .ok (.ireturn, 1) := by decide +kernel
theorem dX4_leastOfRest_70 : decode cX4_leastOfRest 70 = .ok (.iload_n 3, 1) := by decide +kernel
theorem dX4_leastOfRest_71 : decode cX4_leastOfRest 71 = .ok (.iload 6, 2) := by decide +kernel
theorem dX4_leastOfRest_73 : decode cX4_leastOfRest 73 = .ok (.iadd, 1) := by decide +kernel
theorem dX4_leastOfRest_74 : decode cX4_leastOfRest 74 = .ok (.istore_n 3, 1) := by decide +kernel
theorem dX4_leastOfRest_75 : decode cX4_leastOfRest 75 = .ok (.iinc 4 1, 3) := by decide +kernel
theorem dX4_leastOfRest_78 : decode cX4_leastOfRest 78 = .ok (.goto (-73), 3) := by decide +kernel
theorem dX4_leastOfRest_81 : decode cX4_leastOfRest 81 = .ok (.iload_n 3, 1) := by decide +kernel
theorem dX4_leastOfRest_82 : decode cX4_leastOfRest 82 = .ok (.ireturn, 1) := by decide +kernel
theorem dX4_limitBehind_0 : decode cX4_limitBehind 0 = .ok (.aload_n 0, 1) := by decide +kernel
theorem dX4_limitBehind_1 : decode cX4_limitBehind 1 = .ok (.getfield 28, 3) := by decide +kernel
theorem dX4_limitBehind_4 : decode cX4_limitBehind 4 = .ok (.getfield 76, 3) := by decide +kernel
theorem dX4_limitBehind_7 : decode cX4_limitBehind 7 = .ok (.iconst 1, 1) := by decide +kernel
theorem dX4_limitBehind_8 : decode cX4_limitBehind 8 = .ok (.if_icmp .ne 11, 3) := by decide +kernel
theorem dX4_limitBehind_11 : decode cX4_limitBehind 11 = .ok (.iload_n 1, 1) := by decide +kernel
theorem dX4_limitBehind_12 : decode cX4_limitBehind 12 = .ok (.iload_n 2, 1) := by decide +kernel
theorem dX4_limitBehind_13 : decode cX4_limitBehind 13 = .ok (.invokestatic 116, 3) := by decide +kernel
theorem dX4_limitBehind_16 : decode cX4_limitBehind 16 = .ok (.goto 4, 3) := by decide +kernel
theorem dX4_limitBehind_19 : decode cX4_limitBehind 19 = .ok (.iload_n 1, 1) := by decide +kernel
theorem dX4_limitBehind_20 : decode cX4_limitBehind 20 = .ok (.ireturn, 1) := by decide +kernel
theorem dX5_init_0 : decode cX5_init 0 = .ok (.aload_n 0, 1) := by decide +kernel
theorem dX5_init_1 : decode cX5_init 1 = .ok (.invokespecial 3, 3) := by decide +kernel
theorem dX5_init_4 : decode cX5_init 4 = .ok (.aload_n 0, 1) := by decide +kernel
theorem dX5_init_5 : decode cX5_init 5 = .ok (.new 9, 3) := by decide +kernel
theorem dX5_init_8 : decode cX5_init 8 = .ok (.dup, 1) := by decide +kernel
theorem dX5_init_9 : decode cX5_init 9 = .ok (.invokespecial 11, 3) := by decide +kernel
theorem dX5_init_12 : decode cX5_init 12 = .ok (.putfield 12, 3) := by decide +kernel
theorem dX5_init_15 : decode cX5_init 15 = .ok (.aload_n 0, 1) := by decide +kernel
theorem dX5_init_16 : decode cX5_init 16 = .ok (.sipush 500, 3) := by decide +kernel
theorem dX5_init_19 : decode cX5_init 19 = .ok (.newarray .byte, 2) := by decide +kernel
theorem dX5_init_21 : decode cX5_init 21 = .ok (.putfield 18, 3) := by decide +kernel
theorem dX5_init_24 : decode cX5_init 24 = .ok (.return_, 1) := by decide +kernel
theorem dX5_takeBytes_0 : decode cX5_takeBytes 0 = .ok (.iload_n 1, 1) := by decide +kernel
theorem dX5_takeBytes_1 : decode cX5_takeBytes 1 = .ok (.iconst 1, 1) := by decide +kernel
theorem dX5_takeBytes_2 : decode cX5_takeBytes 2 = .ok (.isub, 1) := by decide +kernel
theorem dX5_takeBytes_3 : decode cX5_takeBytes 3 = .ok (.istore 4, 2) := by decide +kernel
theorem dX5_takeBytes_5 : decode cX5_takeBytes 5 = .ok (.iload 4, 2) := by decide +kernel
theorem dX5_takeBytes_7 : decode cX5_takeBytes 7 = .ok (.ifCond .lt 47, 3) := by decide +kernel
theorem dX5_takeBytes_10 : decode cX5_takeBytes 10 = .ok (.aload_n 0, 1) := by decide +kernel
theorem dX5_takeBytes_11 : decode cX5_takeBytes 11 = .ok (.getfield 22, 3) := by decide +kernel
theorem dX5_takeBytes_14 : decode cX5_takeBytes 14 = .ok (.sipush 500, 3) := by decide +kernel
theorem dX5_takeBytes_17 : decode cX5_takeBytes 17 = .ok (.if_icmp .ge 37, 3) := by decide +kernel
theorem dX5_takeBytes_20 : decode cX5_takeBytes 20 = .ok (.aload_n 0, 1) := by decide +kernel
theorem dX5_takeBytes_21 : decode cX5_takeBytes 21 = .ok (.getfield 18, 3) := by decide +kernel
theorem dX5_takeBytes_24 : decode cX5_takeBytes 24 = .ok (.aload_n 0, 1) := by decide +kernel
theorem dX5_takeBytes_25 : decode cX5_takeBytes 25 = .ok (.getfield 22, 3) := by decide +kernel
theorem dX5_takeBytes_28 : decode cX5_takeBytes 28 = .ok (.lload_n 2, 1) := by decide +kernel
theorem dX5_takeBytes_29 : decode cX5_takeBytes 29 = .ok (.bipush 8, 2) := by decide +kernel
theorem dX5_takeBytes_31 : decode cX5_takeBytes 31 = .ok (.iload 4, 2) := by decide +kernel
theorem dX5_takeBytes_33 : decode cX5_takeBytes 33 = .ok (.imul, 1) := by decide +kernel
theorem dX5_takeBytes_34 : decode cX5_takeBytes 34 = .ok (.lshr, 1) := by decide +kernel
theorem dX5_takeBytes_35 : decode cX5_takeBytes 35 = .ok (.l2i, 1) := by decide +kernel
theorem dX5_takeBytes_36 : decode cX5_takeBytes 36 = .ok (.i2b, 1) := by decide +kernel
theorem dX5_takeBytes_37 : decode cX5_takeBytes 37 = .ok (.bastore, 1) := by decide +kernel
theorem dX5_takeBytes_38 : decode cX5_takeBytes 38 = .ok (.aload_n 0, 1) := by decide +kernel
theorem dX5_takeBytes_39 : decode cX5_takeBytes 39 = .ok (.dup, 1) := by decide +kernel
theorem dX5_takeBytes_40 : decode cX5_takeBytes 40 = .ok (.getfield 22, 3) := by decide +kernel
theorem dX5_takeBytes_43 : decode cX5_takeBytes 43 = .ok (.iconst 1, 1) := by decide +kernel
theorem dX5_takeBytes_44 : decode cX5_takeBytes 44 = .ok (.iadd, 1) := by decide +kernel
theorem dX5_takeBytes_45 : decode cX5_takeBytes 45 = .ok (.putfield 22, 3) := by decide +kernel
theorem dX5_takeBytes_48 : decode cX5_takeBytes 48 = .ok (.iinc 4 (-1), 3) := by decide +kernel
theorem dX5_takeBytes_51 : decode cX5_takeBytes 51 = .ok (.goto (-46), 3) := by decide +kernel
theorem dX5_takeBytes_54 : decode cX5_takeBytes 54 = .ok (.return_, 1) := by decide +kernel
theorem dX5_readAll_0 : decode cX5_readAll 0 = .ok (.aload_n 0, 1) := by decide +kernel
theorem dX5_readAll_1 : decode cX5_readAll 1 = .ok (.getfield 12, 3) := by decide +kernel
theorem dX5_readAll_4 : decode cX5_readAll 4 = .ok (.invokevirtual 26, 3) := by decide +kernel
theorem dX5_readAll_7 : decode cX5_readAll 7 = .ok (.aload_n 0, 1) := by decide +kernel
theorem dX5_readAll_8 : decode cX5_readAll 8 = .ok (.iconst 0, 1) := by decide +kernel
theorem dX5_readAll_9 : decode cX5_readAll 9 = .ok (.putfield 29, 3) := by decide +kernel
theorem dX5_readAll_12 : decode cX5_readAll 12 = .ok (.aload_n 0, 1) := by decide +kernel
theorem dX5_readAll_13 : decode cX5_readAll 13 = .ok (.iconst (-1), 1) := by decide +kernel
theorem dX5_readAll_14 : decode cX5_readAll 14 = .ok (.putfield 32, 3) := by decide +kernel
theorem dX5_readAll_17 : decode cX5_readAll 17 = .ok (.aload_n 0, 1) := by decide +kernel
theorem dX5_readAll_18 : decode cX5_readAll 18 = .ok (.iconst 0, 1) := by decide +kernel
theorem dX5_readAll_19 : decode cX5_readAll 19 = .ok (.putfield 35, 3) := by decide +kernel
theorem dX5_readAll_22 : decode cX5_readAll 22 = .ok (.iconst 1, 1) := by decide +kernel
theorem dX5_readAll_23 : decode cX5_readAll 23 = .ok (.istore_n 1, 1) := by decide +kernel
theorem dX5_readAll_24 : decode cX5_readAll 24 = .ok (.iconst 0, 1) := by decide +kernel
theorem dX5_readAll_25 : decode cX5_readAll 25 = .ok (.istore_n 2, 1) := by decide +kernel
theorem dX5_readAll_26 : decode cX5_readAll 26 = .ok (.iload_n 2, 1) := by decide +kernel
theorem dX5_readAll_27 : decode cX5_readAll 27 = .ok (.sipush 500, 3) := by decide +kernel
theorem dX5_readAll_30 : decode cX5_readAll 30 = .ok (.if_icmp .ge 41, 3) := by decide +kernel
theorem dX5_readAll_33 : decode cX5_readAll 33 = .ok (.iload_n 1, 1) := by decide +kernel
theorem dX5_readAll_34 : decode cX5_readAll 34 = .ok (.ifCond .eq 37, 3) := by decide +kernel
theorem dX5_readAll_37 : decode cX5_readAll 37 = .ok (.aload_n 0, 1) := by decide +kernel
theorem dX5_readAll_38 : decode cX5_readAll 38 = .ok (.invokevirtual 38, 3) := by decide +kernel
theorem dX5_readAll_41 : decode cX5_readAll 41 = .ok (.aload_n 0, 1) := by decide +kernel
theorem dX5_readAll_42 : decode cX5_readAll 42 = .ok (.getfield 35, 3) := by decide +kernel
theorem dX5_readAll_45 : decode cX5_readAll 45 = .ok (.aload_n 0, 1) := by decide +kernel
theorem dX5_readAll_46 : decode cX5_readAll 46 = .ok (.getfield 22, 3) := by decide +kernel
theorem dX5_readAll_49 : decode cX5_readAll 49 = .ok (.if_icmp .ge 14, 3) := by decide +kernel
theorem dX5_readAll_52 : decode cX5_readAll 52 = .ok (.aload_n 0, 1) := by decide +kernel
theorem dX5_readAll_53 : decode cX5_readAll 53 = .ok (.invokevirtual 41, 3) := by decide +kernel
theorem dX5_readAll_56 : decode cX5_readAll 56 = .ok (.ifCond .eq 7, 3) := by decide +kernel
theorem dX5_readAll_59 : decode cX5_readAll 59 = .ok (.iconst 1, 1) := by decide +kernel
theorem dX5_readAll_60 : decode cX5_readAll 60 = .ok (.goto 4, 3) := by decide +kernel
theorem dX5_readAll_63 : decode cX5_readAll 63 = .ok (.iconst 0, 1) := by decide +kernel
theorem dX5_readAll_64 : decode cX5_readAll 64 = .ok (.istore_n 1, 1) := by decide +kernel
theorem dX5_readAll_65 : decode cX5_readAll 65 = .ok (.iinc 2 1, 3) := by decide +kernel
theorem dX5_readAll_68 : decode cX5_readAll 68 = .ok (.goto (-42), 3) := by decide +kernel
theorem dX5_readAll_71 : decode cX5_readAll 71 = .ok (.return_, 1) := by decide +kernel
theorem dX5_readClause_0 : decode cX5_readClause 0 = .ok (.aload_n 0, 1) := by decide +kernel
theorem dX5_readClause_1 : decode cX5_readClause 1 = .ok (.aload_n 0, 1) := by decide +kernel
theorem dX5_readClause_2 : decode cX5_readClause 2 = .ok (.getfield 35, 3) := by decide +kernel
theorem dX5_readClause_5 : decode cX5_readClause 5 = .ok (.putfield 45, 3) := by decide +kernel
theorem dX5_readClause_8 : decode cX5_readClause 8 = .ok (.aload_n 0, 1) := by decide +kernel
theorem dX5_readClause_9 : decode cX5_readClause 9 = .ok (.ldc 48, 2) := by decide +kernel
theorem dX5_readClause_11 : decode cX5_readClause 11 = .ok (.invokevirtual 50, 3) := by decide +kernel
theorem dX5_readClause_14 : decode cX5_readClause 14 = .ok (.ifCond .eq 31, 3) := by decide +kernel
theorem dX5_readClause_17 : decode cX5_readClause 17 = .ok (.aload_n 0, 1) := by decide +kernel
theorem dX5_readClause_18 : decode cX5_readClause 18 = .ok (.getfield 12, 3) := by decide +kernel
theorem dX5_readClause_21 : decode cX5_readClause 21 = .ok (.getfield 54, 3) := by decide +kernel
theorem dX5_readClause_24 : decode cX5_readClause 24 = .ok (.iconst 3, 1) := by decide +kernel
theorem dX5_readClause_25 : decode cX5_readClause 25 = .ok (.if_icmp .ge 10, 3) := by decide +kernel
theorem dX5_readClause_28 : decode cX5_readClause 28 = .ok (.aload_n 0, 1) := by decide +kernel
theorem dX5_readClause_29 : decode cX5_readClause 29 = .ok (.invokevirtual 57, 3) := by decide +kernel
theorem dX5_readClause_32 : decode cX5_readClause 32 = .ok (.goto 12, 3) := by decide +kernel
theorem dX5_readClause_35 : decode cX5_readClause 35 = .ok (.aload_n 0, 1) := by decide +kernel
theorem dX5_readClause_36 : decode cX5_readClause 36 = .ok (.iconst 3, 1) := by decide +kernel
theorem dX5_readClause_37 : decode cX5_readClause 37 = .ok (.aload_n 0, 1) := by decide +kernel
theorem dX5_readClause_38 : decode cX5_readClause 38 = .ok (.getfield 45, 3) := by decide +kernel
theorem dX5_readClause_41 : decode cX5_readClause 41 = .ok (.invokevirtual 60, 3) := by decide +kernel
theorem dX5_readClause_44 : decode cX5_readClause 44 = .ok (.ireturn, 1) := by decide +kernel
theorem dX5_readClause_45 : decode cX5_readClause 45 = .ok (.aload_n 0, 1) := by decide +kernel
theorem dX5_readClause_46 : decode cX5_readClause 46 = .ok (.ldc 64, 2) := by decide +kernel
theorem dX5_readClause_48 : decode cX5_readClause 48 = .ok (.invokevirtual 50, 3) := by decide +kernel
theorem dX5_readClause_51 : decode cX5_readClause 51 = .ok (.ifCond .eq 32, 3) := by decide +kernel
theorem dX5_readClause_54 : decode cX5_readClause 54 = .ok (.aload_n 0, 1) := by decide +kernel
theorem dX5_readClause_55 : decode cX5_readClause 55 = .ok (.getfield 12, 3) := by decide +kernel
theorem dX5_readClause_58 : decode cX5_readClause 58 = .ok (.getfield 66, 3) := by decide +kernel
theorem dX5_readClause_61 : decode cX5_readClause 61 = .ok (.bipush 6, 2) := by decide +kernel
theorem dX5_readClause_63 : decode cX5_readClause 63 = .ok (.if_icmp .ge 10, 3) := by decide +kernel
theorem dX5_readClause_66 : decode cX5_readClause 66 = .ok (.aload_n 0, 1) := by decide +kernel
theorem dX5_readClause_67 : decode cX5_readClause 67 = .ok (.invokevirtual 69, 3) := by decide +kernel
theorem dX5_readClause_70 : decode cX5_readClause 70 = .ok (.goto 12, 3) := by decide +kernel
theorem dX5_readClause_73 : decode cX5_readClause 73 = .ok (.aload_n 0, 1) := by decide +kernel
theorem dX5_readClause_74 : decode cX5_readClause 74 = .ok (.iconst 3, 1) := by decide +kernel
theorem dX5_readClause_75 : decode cX5_readClause 75 = .ok (.aload_n 0, 1) := by decide +kernel
theorem dX5_readClause_76 : decode cX5_readClause 76 = .ok (.getfield 45, 3) := by decide +kernel
theorem dX5_readClause_79 : decode cX5_readClause 79 = .ok (.invokevirtual 60, 3) := by decide +kernel
theorem dX5_readClause_82 : decode cX5_readClause 82 = .ok (.ireturn, 1) := by decide +kernel
theorem dX5_readClause_83 : decode cX5_readClause 83 = .ok (.aload_n 0, 1) := by decide +kernel
theorem dX5_readClause_84 : decode cX5_readClause 84 = .ok (.ldc 72, 2) := by decide +kernel
theorem dX5_readClause_86 : decode cX5_readClause 86 = .ok (.invokevirtual 50, 3) := by decide +kernel
theorem dX5_readClause_89 : decode cX5_readClause 89 = .ok (.ifCond .eq 32, 3) := by decide +kernel
theorem dX5_readClause_92 : decode cX5_readClause 92 = .ok (.aload_n 0, 1) := by decide +kernel
theorem dX5_readClause_93 : decode cX5_readClause 93 = .ok (.getfield 12, 3) := by decide +kernel
theorem dX5_readClause_96 : decode cX5_readClause 96 = .ok (.getfield 74, 3) := by decide +kernel
theorem dX5_readClause_99 : decode cX5_readClause 99 = .ok (.bipush 15, 2) := by decide +kernel
theorem dX5_readClause_101 : decode cX5_readClause 101 = .ok (.if_icmp .ge 10, 3) := by decide +kernel
theorem dX5_readClause_104 : decode cX5_readClause 104 = .ok (.aload_n 0, 1) := by decide +kernel
theorem dX5_readClause_105 : decode cX5_readClause 105 = .ok (.invokevirtual 77, 3) := by decide +kernel
theorem dX5_readClause_108 : decode cX5_readClause 108 = .ok (.goto 12, 3) := by decide +kernel
theorem dX5_readClause_111 : decode cX5_readClause 111 = .ok (.aload_n 0, 1) := by decide +kernel
theorem dX5_readClause_112 : decode cX5_readClause 112 = .ok (.iconst 3, 1) := by decide +kernel
theorem dX5_readClause_113 : decode cX5_readClause 113 = .ok (.aload_n 0, 1) := by decide +kernel
theorem dX5_readClause_114 : decode cX5_readClause 114 = .ok (.getfield 45, 3) := by decide +kernel
theorem dX5_readClause_117 : decode cX5_readClause 117 = .ok (.invokevirtual 60, 3) := by decide +kernel
theorem dX5_readClause_120 : decode cX5_readClause 120 = .ok (.ireturn, 1) := by decide +kernel
theorem dX5_readClause_121 : decode cX5_readClause 121 = .ok (.aload_n 0, 1) := by decide +kernel
theorem dX5_readClause_122 : decode cX5_readClause 122 = .ok (.iconst 1, 1) := by decide +kernel
theorem dX5_readClause_123 : decode cX5_readClause 123 = .ok (.aload_n 0, 1) := by decide +kernel
theorem dX5_readClause_124 : decode cX5_readClause 124 = .ok (.getfield 45, 3) := by decide +kernel
theorem dX5_readClause_127 : decode cX5_readClause 127 = .ok (.invokevirtual 60, 3) := by decide +kernel
theorem dX5_readClause_130 : decode cX5_readClause 130 = .ok (.ireturn, 1) := by decide +kernel
theorem dX5_readRoom_0 : decode cX5_readRoom 0 = .ok (.aload_n 0, 1) := by decide +kernel
theorem dX5_readRoom_1 : decode cX5_readRoom 1 = .ok (.getfield 12, 3) := by decide +kernel
theorem dX5_readRoom_4 : decode cX5_readRoom 4 = .ok (.getfield 54, 3) := by decide +kernel
theorem dX5_readRoom_7 : decode cX5_readRoom 7 = .ok (.istore_n 1, 1) := by decide +kernel
theorem dX5_readRoom_8 : decode cX5_readRoom 8 = .ok (.iconst 0, 1) := by decide +kernel
theorem dX5_readRoom_9 : decode cX5_readRoom 9 = .ok (.istore_n 2, 1) := by decide +kernel
theorem dX5_readRoom_10 : decode cX5_readRoom 10 = .ok (.iconst 1, 1) := by decide +kernel
theorem dX5_readRoom_11 : decode cX5_readRoom 11 = .ok (.istore_n 3, 1) := by decide +kernel
theorem dX5_readRoom_12 : decode cX5_readRoom 12 = .ok (.iconst 0, 1) := by decide +kernel
theorem dX5_readRoom_13 : decode cX5_readRoom 13 = .ok (.istore 4, 2) := by decide +kernel
theorem dX5_readRoom_15 : decode cX5_readRoom 15 = .ok (.iload 4, 2) := by decide +kernel
theorem dX5_readRoom_17 : decode cX5_readRoom 17 = .ok (.bipush 6, 2) := by decide +kernel
theorem dX5_readRoom_19 : decode cX5_readRoom 19 = .ok (.if_icmp .gt 69, 3) := by decide +kernel
theorem dX5_readRoom_22 : decode cX5_readRoom 22 = .ok (.iload_n 3, 1) := by decide +kernel
theorem dX5_readRoom_23 : decode cX5_readRoom 23 = .ok (.ifCond .eq 65, 3) := by decide +kernel
theorem dX5_readRoom_26 : decode cX5_readRoom 26 = .ok (.aload_n 0, 1) := by decide +kernel
theorem dX5_readRoom_27 : decode cX5_readRoom 27 = .ok (.iconst 0, 1) := by decide +kernel
theorem dX5_readRoom_28 : decode cX5_readRoom 28 = .ok (.bipush 40, 2) := by decide +kernel
theorem dX5_readRoom_30 : decode cX5_readRoom 30 = .ok (.invokevirtual 80, 3) := by decide +kernel
theorem dX5_readRoom_33 : decode cX5_readRoom 33 = .ok (.ifCond .ne 5, 3) := by decide +kernel
theorem dX5_readRoom_36 : decode cX5_readRoom 36 = .ok (.iconst 0, 1) := by decide +kernel
theorem dX5_readRoom_37 : decode cX5_readRoom 37 = .ok (.ireturn, 1) := by decide +kernel
theorem dX5_readRoom_38 : decode cX5_readRoom 38 = .ok (.iload_n 2, 1) := by decide +kernel
theorem dX5_readRoom_39 : decode cX5_readRoom 39 = .ok (.bipush 6, 2) := by decide +kernel
theorem dX5_readRoom_41 : decode cX5_readRoom 41 = .ok (.if_icmp .lt 13, 3) := by decide +kernel
theorem dX5_readRoom_44 : decode cX5_readRoom 44 = .ok (.aload_n 0, 1) := by decide +kernel
theorem dX5_readRoom_45 : decode cX5_readRoom 45 = .ok (.iconst 4, 1) := by decide +kernel
theorem dX5_readRoom_46 : decode cX5_readRoom 46 = .ok (.aload_n 0, 1) := by decide +kernel
theorem dX5_readRoom_47 : decode cX5_readRoom 47 = .ok (.getfield 45, 3) := by decide +kernel
theorem dX5_readRoom_50 : decode cX5_readRoom 50 = .ok (.invokevirtual 60, 3) := by decide +kernel
theorem dX5_readRoom_53 : decode cX5_readRoom 53 = .ok (.ireturn, 1) := by decide +kernel
theorem dX5_readRoom_54 : decode cX5_readRoom 54 = .ok (.aload_n 0, 1) := by decide +kernel
theorem dX5_readRoom_55 : decode cX5_readRoom 55 = .ok (.getfield 12, 3) := by decide +kernel
theorem dX5_readRoom_58 : decode cX5_readRoom 58 = .ok (.getfield 83, 3) := by decide +kernel
theorem dX5_readRoom_61 : decode cX5_readRoom 61 = .ok (.iload_n 1, 1) := by decide +kernel
theorem dX5_readRoom_62 : decode cX5_readRoom 62 = .ok (.bipush 6, 2) := by decide +kernel
theorem dX5_readRoom_64 : decode cX5_readRoom 64 = .ok (.imul, 1) := by decide +kernel
theorem dX5_readRoom_65 : decode cX5_readRoom 65 = .ok (.iload_n 2, 1) := by decide +kernel
theorem dX5_readRoom_66 : decode cX5_readRoom 66 = .ok (.iadd, 1) := by decide +kernel
theorem dX5_readRoom_67 : decode cX5_readRoom 67 = .ok (.aload_n 0, 1) := by decide +kernel
theorem dX5_readRoom_68 : decode cX5_readRoom 68 = .ok (.getfield 87, 3) := by decide +kernel
theorem dX5_readRoom_71 : decode cX5_readRoom 71 = .ok (.iastore, 1) := by decide +kernel
theorem dX5_readRoom_72 : decode cX5_readRoom 72 = .ok (.iinc 2 1, 3) := by decide +kernel
theorem dX5_readRoom_75 : decode cX5_readRoom 75 = .ok (.aload_n 0, 1) := by decide +kernel
theorem dX5_readRoom_76 : decode cX5_readRoom 76 = .ok (.bipush 44, 2) := by decide +kernel
theorem dX5_readRoom_78 : decode cX5_readRoom 78 = .ok (.invokevirtual 90, 3) := by decide +kernel
theorem dX5_readRoom_81 : decode cX5_readRoom 81 = .ok (.istore_n 3, 1) := by decide +kernel
theorem dX5_readRoom_82 : decode cX5_readRoom 82 = .ok (.iinc 4 1, 3) := by decide +kernel
theorem dX5_readRoom_85 : decode cX5_readRoom 85 = .ok (.goto (-70), 3) := by decide +kernel
theorem dX5_readRoom_88 : decode cX5_readRoom 88 = .ok (.aload_n 0, 1) := by decide +kernel
theorem dX5_readRoom_89 : decode cX5_readRoom 89 = .ok (.getfield 12, 3) := by decide +kernel
theorem dX5_readRoom_92 : decode cX5_readRoom 92 = .ok (.getfield 94, 3) := by decide +kernel
theorem dX5_readRoom_95 : decode cX5_readRoom 95 = .ok (.iload_n 1, 1) := by decide +kernel
theorem dX5_readRoom_96 : decode cX5_readRoom 96 = .ok (.iload_n 2, 1) := by decide +kernel
theorem dX5_readRoom_97 : decode cX5_readRoom 97 = .ok (.iastore, 1) := by decide +kernel
theorem dX5_readRoom_98 : decode cX5_readRoom 98 = .ok (.aload_n 0, 1) := by decide +kernel
theorem dX5_readRoom_99 : decode cX5_readRoom 99 = .ok (.getfield 12, 3) := by decide +kernel
theorem dX5_readRoom_102 : decode cX5_readRoom 102 = .ok (.dup, 1) := by decide +kernel
theorem dX5_readRoom_103 : decode cX5_readRoom 103 = .ok (.getfield 54, 3) := by decide +kernel
theorem dX5_readRoom_106 : decode cX5_readRoom 106 = .ok (.iconst 1, 1) := by decide +kernel
theorem dX5_readRoom_107 : decode cX5_readRoom 107 = .ok (.iadd, 1) := by decide +kernel
theorem dX5_readRoom_108 : decode cX5_readRoom 108 = .ok (.putfield 54, 3) := by decide +kernel
theorem dX5_readRoom_111 : decode cX5_readRoom 111 = .ok (.aload_n 0, 1) := by decide +kernel
theorem dX5_readRoom_112 : decode cX5_readRoom 112 = .ok (.invokevirtual 97, 3) := by decide +kernel
theorem dX5_readRoom_115 : decode cX5_readRoom 115 = .ok (.ireturn, 1) := by decide +kernel
theorem dX5_readPerson_0 : decode cX5_readPerson 0 = .ok (.aload_n 0, 1) := by decide +kernel
theorem dX5_readPerson_1 : decode cX5_readPerson 1 = .ok (.getfield 12, 3) := by decide +kernel
theorem dX5_readPerson_4 : decode cX5_readPerson 4 = .ok (.getfield 66, 3) := by decide +kernel
theorem dX5_readPerson_7 : decode cX5_readPerson 7 = .ok (.istore_n 1, 1) := by decide +kernel
theorem dX5_readPerson_8 : decode cX5_readPerson 8 = .ok (.aload_n 0, 1) := by decide +kernel
theorem dX5_readPerson_9 : decode cX5_readPerson 9 = .ok (.iconst 0, 1) := by decide +kernel
theorem dX5_readPerson_10 : decode cX5_readPerson 10 = .ok (.bipush 99, 2) := by decide +kernel
theorem dX5_readPerson_12 : decode cX5_readPerson 12 = .ok (.invokevirtual 80, 3) := by decide +kernel
theorem dX5_readPerson_15 : decode cX5_readPerson 15 = .ok (.ifCond .ne 5, 3) := by decide +kernel
theorem dX5_readPerson_18 : decode cX5_readPerson 18 = .ok (.iconst 0, 1) := by decide +kernel
theorem dX5_readPerson_19 : decode cX5_readPerson 19 = .ok (.ireturn, 1) := by decide +kernel
theorem dX5_readPerson_20 : decode cX5_readPerson 20 = .ok (.iconst 0, 1) := by decide +kernel
theorem dX5_readPerson_21 : decode cX5_readPerson 21 = .ok (.istore_n 2, 1) := by decide +kernel
theorem dX5_readPerson_22 : decode cX5_readPerson 22 = .ok (.iload_n 2, 1) := by decide +kernel
theorem dX5_readPerson_23 : decode cX5_readPerson 23 = .ok (.iload_n 1, 1) := by decide +kernel
theorem dX5_readPerson_24 : decode cX5_readPerson 24 = .ok (.if_icmp .ge 35, 3) := by decide +kernel
theorem dX5_readPerson_27 : decode cX5_readPerson 27 = .ok (.aload_n 0, 1) := by decide +kernel
theorem dX5_readPerson_28 : decode cX5_readPerson 28 = .ok (.getfield 12, 3) := by decide +kernel
theorem dX5_readPerson_31 : decode cX5_readPerson 31 = .ok (.getfield 100, 3) := by decide +kernel
theorem dX5_readPerson_34 : decode cX5_readPerson 34 = .ok (.iload_n 2, 1) := by decide +kernel
theorem dX5_readPerson_35 : decode cX5_readPerson 35 = .ok (.iaload, 1) := by decide +kernel
theorem dX5_readPerson_36 : decode cX5_readPerson 36 = .ok (.aload_n 0, 1) := by decide +kernel
theorem dX5_readPerson_37 : decode cX5_readPerson 37 = .ok (.getfield 87, 3) := by decide +kernel
theorem dX5_readPerson_40 : decode cX5_readPerson 40 = .ok (.if_icmp .ne 13, 3) := by decide +kernel
theorem dX5_readPerson_43 : decode cX5_readPerson 43 = .ok (.aload_n 0, 1) := by decide +kernel
theorem dX5_readPerson_44 : decode cX5_readPerson 44 = .ok (.iconst 4, 1) := by decide +kernel
theorem dX5_readPerson_45 : decode cX5_readPerson 45 = .ok (.aload_n 0, 1) := by decide +kernel
theorem dX5_readPerson_46 : decode cX5_readPerson 46 = .ok (.getfield 45, 3) := by decide +kernel
theorem dX5_readPerson_49 : decode cX5_readPerson 49 = .ok (.invokevirtual 60, 3) := by decide +kernel
theorem dX5_readPerson_52 : decode cX5_readPerson 52 = .ok (.ireturn, 1) := by decide +kernel
theorem dX5_readPerson_53 : decode cX5_readPerson 53 = .ok (.iinc 2 1, 3) := by decide +kernel
theorem dX5_readPerson_56 : decode cX5_readPerson 56 = .ok (.goto (-34), 3) := by decide +kernel
theorem dX5_readPerson_59 : decode cX5_readPerson 59 = .ok (.aload_n 0, 1) := by decide +kernel
theorem dX5_readPerson_60 : decode cX5_readPerson 60 = .ok (.getfield 12, 3) := by decide +kernel
theorem dX5_readPerson_63 : decode cX5_readPerson 63 = .ok (.getfield 100, 3) := by decide +kernel
theorem dX5_readPerson_66 : decode cX5_readPerson 66 = .ok (.iload_n 1, 1) := by decide +kernel
theorem dX5_readPerson_67 : decode cX5_readPerson 67 = .ok (.aload_n 0, 1) := by decide +kernel
theorem dX5_readPerson_68 : decode cX5_readPerson 68 = .ok (.getfield 87, 3) := by decide +kernel
theorem dX5_readPerson_71 : decode cX5_readPerson 71 = .ok (.iastore, 1) := by decide +kernel
theorem dX5_readPerson_72 : decode cX5_readPerson 72 = .ok (.aload_n 0, 1) := by decide +kernel
theorem dX5_readPerson_73 : decode cX5_readPerson 73 = .ok (.bipush 20, 2) := by decide +kernel
theorem dX5_readPerson_75 : decode cX5_readPerson 75 = .ok (.bipush 90, 2) := by decide +kernel
theorem dX5_readPerson_77 : decode cX5_readPerson 77 = .ok (.invokevirtual 80, 3) := by decide +kernel
theorem dX5_readPerson_80 : decode cX5_readPerson 80 = .ok (.ifCond .ne 5, 3) := by decide +kernel
theorem dX5_readPerson_83 : decode cX5_readPerson 83 = .ok (.iconst 0, 1) := by decide +kernel
theorem dX5_readPerson_84 : decode cX5_readPerson 84 = .ok (.ireturn, 1) := by decide +kernel
theorem dX5_readPerson_85 : decode cX5_readPerson 85 = .ok (.aload_n 0, 1) := by decide +kernel
theorem dX5_readPerson_86 : decode cX5_readPerson 86 = .ok (.getfield 12, 3) := by decide +kernel
theorem dX5_readPerson_89 : decode cX5_readPerson 89 = .ok (.getfield 103, 3) := by decide +kernel
theorem dX5_readPerson_92 : decode cX5_readPerson 92 = .ok (.iload_n 1, 1) := by decide +kernel
theorem dX5_readPerson_93 : decode cX5_readPerson 93 = .ok (.aload_n 0, 1) := by decide +kernel
theorem dX5_readPerson_94 : decode cX5_readPerson 94 = .ok (.getfield 87, 3) := by decide +kernel
theorem dX5_readPerson_97 : decode cX5_readPerson 97 = .ok (.iastore, 1) := by decide +kernel
theorem dX5_readPerson_98 : decode cX5_readPerson 98 = .ok (.aload_n 0, 1) := by decide +kernel
theorem dX5_readPerson_99 : decode cX5_readPerson 99 = .ok (.iconst 0, 1) := by decide +kernel
theorem dX5_readPerson_100 : decode cX5_readPerson 100 = .ok (.bipush 40, 2) := by decide +kernel
theorem dX5_readPerson_102 : decode cX5_readPerson 102 = .ok (.invokevirtual 80, 3) := by decide +kernel
theorem dX5_readPerson_105 : decode cX5_readPerson 105 = .ok (.ifCond .ne 5, 3) := by decide +kernel
theorem dX5_readPerson_108 : decode cX5_readPerson 108 = .ok (.iconst 0, 1) := by decide +kernel
theorem dX5_readPerson_109 : decode cX5_readPerson 109 = .ok (.ireturn, 1) := by decide +kernel
theorem dX5_readPerson_110 : decode cX5_readPerson 110 = .ok (.aload_n 0, 1) := by decide +kernel
theorem dX5_readPerson_111 : decode cX5_readPerson 111 = .ok (.getfield 12, 3) := by decide +kernel
theorem dX5_readPerson_114 : decode cX5_readPerson 114 = .ok (.getfield 106, 3) := by decide +kernel
theorem dX5_readPerson_117 : decode cX5_readPerson 117 = .ok (.iload_n 1, 1) := by decide +kernel
theorem dX5_readPerson_118 : decode cX5_readPerson 118 = .ok (.aload_n 0, 1) := by decide +kernel
theorem dX5_readPerson_119 : decode cX5_readPerson 119 = .ok (.getfield 87, 3) := by decide +kernel
theorem dX5_readPerson_122 : decode cX5_readPerson 122 = .ok (.iastore, 1) := by decide +kernel
theorem dX5_readPerson_123 : decode cX5_readPerson 123 = .ok (.aload_n 0, 1) := by decide +kernel
theorem dX5_readPerson_124 : decode cX5_readPerson 124 = .ok (.iconst 0, 1) := by decide +kernel
theorem dX5_readPerson_125 : decode cX5_readPerson 125 = .ok (.bipush 9, 2) := by decide +kernel
theorem dX5_readPerson_127 : decode cX5_readPerson 127 = .ok (.invokevirtual 80, 3) := by decide +kernel
theorem dX5_readPerson_130 : decode cX5_readPerson 130 = .ok (.ifCond .ne 5, 3) := by decide +kernel
theorem dX5_readPerson_133 : decode cX5_readPerson 133 = .ok (.iconst 0, 1) := by decide +kernel
theorem dX5_readPerson_134 : decode cX5_readPerson 134 = .ok (.ireturn, 1) := by decide +kernel
theorem dX5_readPerson_135 : decode cX5_readPerson 135 = .ok (.aload_n 0, 1) := by decide +kernel
theorem dX5_readPerson_136 : decode cX5_readPerson 136 = .ok (.getfield 12, 3) := by decide +kernel
theorem dX5_readPerson_139 : decode cX5_readPerson 139 = .ok (.getfield 109, 3) := by decide +kernel
theorem dX5_readPerson_142 : decode cX5_readPerson 142 = .ok (.iload_n 1, 1) := by decide +kernel
theorem dX5_readPerson_143 : decode cX5_readPerson 143 = .ok (.aload_n 0, 1) := by decide +kernel
theorem dX5_readPerson_144 : decode cX5_readPerson 144 = .ok (.getfield 87, 3) := by decide +kernel
theorem dX5_readPerson_147 : decode cX5_readPerson 147 = .ok (.iastore, 1) := by decide +kernel
theorem dX5_readPerson_148 : decode cX5_readPerson 148 = .ok (.aload_n 0, 1) := by decide +kernel
theorem dX5_readPerson_149 : decode cX5_readPerson 149 = .ok (.getfield 12, 3) := by decide +kernel
theorem dX5_readPerson_152 : decode cX5_readPerson 152 = .ok (.dup, 1) := by decide +kernel
theorem dX5_readPerson_153 : decode cX5_readPerson 153 = .ok (.getfield 66, 3) := by decide +kernel
theorem dX5_readPerson_156 : decode cX5_readPerson 156 = .ok (.iconst 1, 1) := by decide +kernel
theorem dX5_readPerson_157 : decode cX5_readPerson 157 = .ok (.iadd, 1) := by decide +kernel
theorem dX5_readPerson_158 : decode cX5_readPerson 158 = .ok (.putfield 66, 3) := by decide +kernel
theorem dX5_readPerson_161 : decode cX5_readPerson 161 = .ok (.aload_n 0, 1) := by decide +kernel
theorem dX5_readPerson_162 : decode cX5_readPerson 162 = .ok (.invokevirtual 97, 3) := by decide +kernel
theorem dX5_readPerson_165 : decode cX5_readPerson 165 = .ok (.ireturn, 1) := by decide +kernel
theorem dX5_readFriends_0 : decode cX5_readFriends 0 = .ok (.aload_n 0, 1) := by decide +kernel
theorem dX5_readFriends_1 : decode cX5_readFriends 1 = .ok (.iconst 0, 1) := by decide +kernel
theorem dX5_readFriends_2 : decode cX5_readFriends 2 = .ok (.aload_n 0, 1) := by decide +kernel
theorem dX5_readFriends_3 : decode cX5_readFriends 3 = .ok (.getfield 12, 3) := by decide +kernel
theorem dX5_readFriends_6 : decode cX5_readFriends 6 = .ok (.getfield 66, 3) := by decide +kernel
theorem dX5_readFriends_9 : decode cX5_readFriends 9 = .ok (.iconst 1, 1) := by decide +kernel
theorem dX5_readFriends_10 : decode cX5_readFriends 10 = .ok (.isub, 1) := by decide +kernel
theorem dX5_readFriends_11 : decode cX5_readFriends 11 = .ok (.invokevirtual 80, 3) := by decide +kernel
theorem dX5_readFriends_14 : decode cX5_readFriends 14 = .ok (.ifCond .ne 5, 3) := by decide +kernel
theorem dX5_readFriends_17 : decode cX5_readFriends 17 = .ok (.iconst 0, 1) := by decide +kernel
theorem dX5_readFriends_18 : decode cX5_readFriends 18 = .ok (.ireturn, 1) := by decide +kernel
theorem dX5_readFriends_19 : decode cX5_readFriends 19 = .ok (.aload_n 0, 1) := by decide +kernel
theorem dX5_readFriends_20 : decode cX5_readFriends 20 = .ok (.getfield 87, 3) := by decide +kernel
theorem dX5_readFriends_23 : decode cX5_readFriends 23 = .ok (.istore_n 1, 1) := by decide +kernel
theorem dX5_readFriends_24 : decode cX5_readFriends 24 = .ok (.aload_n 0, 1) := by decide +kernel
theorem dX5_readFriends_25 : decode cX5_readFriends 25 = .ok (.iconst 0, 1) := by decide +kernel
theorem dX5_readFriends_26 : decode cX5_readFriends 26 = .ok (.aload_n 0, 1) := by decide +kernel
theorem dX5_readFriends_27 : decode cX5_readFriends 27 = .ok (.getfield 12, 3) := by decide +kernel
theorem dX5_readFriends_30 : decode cX5_readFriends 30 = .ok (.getfield 66, 3) := by decide +kernel
theorem dX5_readFriends_33 : decode cX5_readFriends 33 = .ok (.iconst 1, 1) := by decide +kernel
theorem dX5_readFriends_34 : decode cX5_readFriends 34 = .ok (.isub, 1) := by decide +kernel
theorem dX5_readFriends_35 : decode cX5_readFriends 35 = .ok (.invokevirtual 80, 3) := by decide +kernel
theorem dX5_readFriends_38 : decode cX5_readFriends 38 = .ok (.ifCond .ne 5, 3) := by decide +kernel
theorem dX5_readFriends_41 : decode cX5_readFriends 41 = .ok (.iconst 0, 1) := by decide +kernel
theorem dX5_readFriends_42 : decode cX5_readFriends 42 = .ok (.ireturn, 1) := by decide +kernel
theorem dX5_readFriends_43 : decode cX5_readFriends 43 = .ok (.aload_n 0, 1) := by decide +kernel
theorem dX5_readFriends_44 : decode cX5_readFriends 44 = .ok (.getfield 87, 3) := by decide +kernel
theorem dX5_readFriends_47 : decode cX5_readFriends 47 = .ok (.istore_n 2, 1) := by decide +kernel
theorem dX5_readFriends_48 : decode cX5_readFriends 48 = .ok (.iload_n 1, 1) := by decide +kernel
theorem dX5_readFriends_49 : decode cX5_readFriends 49 = .ok (.iload_n 2, 1) := by decide +kernel
theorem dX5_readFriends_50 : decode cX5_readFriends 50 = .ok (.if_icmp .eq 15, 3) := by decide +kernel
theorem dX5_readFriends_53 : decode cX5_readFriends 53 = .ok (.aload_n 0, 1) := by decide +kernel
theorem dX5_readFriends_54 : decode cX5_readFriends 54 = .ok (.getfield 12, 3) := by decide +kernel
theorem dX5_readFriends_57 : decode cX5_readFriends 57 = .ok (.iload_n 1, 1) := by decide +kernel
theorem dX5_readFriends_58 : decode cX5_readFriends 58 = .ok (.iload_n 2, 1) := by decide +kernel
theorem dX5_readFriends_59 : decode cX5_readFriends 59 = .ok (.invokevirtual 112, 3) := by decide +kernel
theorem dX5_readFriends_62 : decode cX5_readFriends 62 = .ok (.ifCond .eq 13, 3) := by decide +kernel
theorem dX5_readFriends_65 : decode cX5_readFriends 65 = .ok (.aload_n 0, 1) := by decide +kernel
theorem dX5_readFriends_66 : decode cX5_readFriends 66 = .ok (.iconst 4, 1) := by decide +kernel
theorem dX5_readFriends_67 : decode cX5_readFriends 67 = .ok (.aload_n 0, 1) := by decide +kernel
theorem dX5_readFriends_68 : decode cX5_readFriends 68 = .ok (.getfield 45, 3) := by decide +kernel
theorem dX5_readFriends_71 : decode cX5_readFriends 71 = .ok (.invokevirtual 60, 3) := by decide +kernel
theorem dX5_readFriends_74 : decode cX5_readFriends 74 = .ok (.ireturn, 1) := by decide +kernel
theorem dX5_readFriends_75 : decode cX5_readFriends 75 = .ok (.aload_n 0, 1) := by decide +kernel
theorem dX5_readFriends_76 : decode cX5_readFriends 76 = .ok (.iconst 1, 1) := by decide +kernel
theorem dX5_readFriends_77 : decode cX5_readFriends 77 = .ok (.bipush 99, 2) := by decide +kernel
theorem dX5_readFriends_79 : decode cX5_readFriends 79 = .ok (.invokevirtual 80, 3) := by decide +kernel
theorem dX5_readFriends_82 : decode cX5_readFriends 82 = .ok (.ifCond .ne 5, 3) := by decide +kernel
theorem dX5_readFriends_85 : decode cX5_readFriends 85 = .ok (.iconst 0, 1) := by decide +kernel
theorem dX5_readFriends_86 : decode cX5_readFriends 86 = .ok (.ireturn, 1) := by decide +kernel
theorem dX5_readFriends_87 : decode cX5_readFriends 87 = .ok (.aload_n 0, 1) := by decide +kernel
theorem dX5_readFriends_88 : decode cX5_readFriends 88 = .ok (.getfield 12, 3) := by decide +kernel
theorem dX5_readFriends_91 : decode cX5_readFriends 91 = .ok (.getfield 116, 3) := by decide +kernel
theorem dX5_readFriends_94 : decode cX5_readFriends 94 = .ok (.iload_n 1, 1) := by decide +kernel
theorem dX5_readFriends_95 : decode cX5_readFriends 95 = .ok (.bipush 6, 2) := by decide +kernel
theorem dX5_readFriends_97 : decode cX5_readFriends 97 = .ok (.imul, 1) := by decide +kernel
theorem dX5_readFriends_98 : decode cX5_readFriends 98 = .ok (.iload_n 2, 1) := by decide +kernel
theorem dX5_readFriends_99 : decode cX5_readFriends 99 = .ok (.iadd, 1) := by decide +kernel
theorem dX5_readFriends_100 : decode cX5_readFriends 100 = .ok (.aload_n 0, 1) := by decide +kernel
theorem dX5_readFriends_101 : decode cX5_readFriends 101 = .ok (.getfield 87, 3) := by decide +kernel
theorem dX5_readFriends_104 : decode cX5_readFriends 104 = .ok (.iastore, 1) := by decide +kernel
theorem dX5_readFriends_105 : decode cX5_readFriends 105 = .ok (.aload_n 0, 1) := by decide +kernel
theorem dX5_readFriends_106 : decode cX5_readFriends 106 = .ok (.getfield 12, 3) := by decide +kernel
theorem dX5_readFriends_109 : decode cX5_readFriends 109 = .ok (.getfield 116, 3) := by decide +kernel
theorem dX5_readFriends_112 : decode cX5_readFriends 112 = .ok (.iload_n 2, 1) := by decide +kernel
theorem dX5_readFriends_113 : decode cX5_readFriends 113 = .ok (.bipush 6, 2) := by decide +kernel
theorem dX5_readFriends_115 : decode cX5_readFriends 115 = .ok (.imul, 1) := by decide +kernel
theorem dX5_readFriends_116 : decode cX5_readFriends 116 = .ok (.iload_n 1, 1) := by decide +kernel
theorem dX5_readFriends_117 : decode cX5_readFriends 117 = .ok (.iadd, 1) := by decide +kernel
theorem dX5_readFriends_118 : decode cX5_readFriends 118 = .ok (.aload_n 0, 1) := by decide +kernel
theorem dX5_readFriends_119 : decode cX5_readFriends 119 = .ok (.getfield 87, 3) := by decide +kernel
theorem dX5_readFriends_122 : decode cX5_readFriends 122 = .ok (.iastore, 1) := by decide +kernel
theorem dX5_readFriends_123 : decode cX5_readFriends 123 = .ok (.aload_n 0, 1) := by decide +kernel
theorem dX5_readFriends_124 : decode cX5_readFriends 124 = .ok (.getfield 12, 3) := by decide +kernel
theorem dX5_readFriends_127 : decode cX5_readFriends 127 = .ok (.dup, 1) := by decide +kernel
theorem dX5_readFriends_128 : decode cX5_readFriends 128 = .ok (.getfield 74, 3) := by decide +kernel
theorem dX5_readFriends_131 : decode cX5_readFriends 131 = .ok (.iconst 1, 1) := by decide +kernel
theorem dX5_readFriends_132 : decode cX5_readFriends 132 = .ok (.iadd, 1) := by decide +kernel
theorem dX5_readFriends_133 : decode cX5_readFriends 133 = .ok (.putfield 74, 3) := by decide +kernel
theorem dX5_readFriends_136 : decode cX5_readFriends 136 = .ok (.aload_n 0, 1) := by decide +kernel
theorem dX5_readFriends_137 : decode cX5_readFriends 137 = .ok (.invokevirtual 97, 3) := by decide +kernel
theorem dX5_readFriends_140 : decode cX5_readFriends 140 = .ok (.ireturn, 1) := by decide +kernel
theorem dX5_readEnd_0 : decode cX5_readEnd 0 = .ok (.aload_n 0, 1) := by decide +kernel
theorem dX5_readEnd_1 : decode cX5_readEnd 1 = .ok (.bipush 59, 2) := by decide +kernel
theorem dX5_readEnd_3 : decode cX5_readEnd 3 = .ok (.invokevirtual 90, 3) := by decide +kernel
theorem dX5_readEnd_6 : decode cX5_readEnd 6 = .ok (.ifCond .ne 15, 3) := by decide +kernel
theorem dX5_readEnd_9 : decode cX5_readEnd 9 = .ok (.aload_n 0, 1) := by decide +kernel
theorem dX5_readEnd_10 : decode cX5_readEnd 10 = .ok (.iconst 1, 1) := by decide +kernel
theorem dX5_readEnd_11 : decode cX5_readEnd 11 = .ok (.aload_n 0, 1) := by decide +kernel
theorem dX5_readEnd_12 : decode cX5_readEnd 12 = .ok (.getfield 35, 3) := by decide +kernel
theorem dX5_readEnd_15 : decode cX5_readEnd 15 = .ok (.invokevirtual 60, 3) := by decide +kernel
theorem dX5_readEnd_18 : decode cX5_readEnd 18 = .ok (.ifCond .eq 7, 3) := by decide +kernel
theorem dX5_readEnd_21 : decode cX5_readEnd 21 = .ok (.iconst 1, 1) := by decide +kernel
theorem dX5_readEnd_22 : decode cX5_readEnd 22 = .ok (.goto 4, 3) := by decide +kernel
theorem dX5_readEnd_25 : decode cX5_readEnd 25 = .ok (.iconst 0, 1) := by decide +kernel
theorem dX5_readEnd_26 : decode cX5_readEnd 26 = .ok (.ireturn, 1) := by decide +kernel
theorem dX5_isFault_0 : decode cX5_isFault 0 = .ok (.aload_n 0, 1) := by decide +kernel
theorem dX5_isFault_1 : decode cX5_isFault 1 = .ok (.iload_n 1, 1) := by decide +kernel
theorem dX5_isFault_2 : decode cX5_isFault 2 = .ok (.putfield 29, 3) := by decide +kernel
theorem dX5_isFault_5 : decode cX5_isFault 5 = .ok (.aload_n 0, 1) := by decide +kernel
theorem dX5_isFault_6 : decode cX5_isFault 6 = .ok (.iload_n 2, 1) := by decide +kernel
theorem dX5_isFault_7 : decode cX5_isFault 7 = .ok (.putfield 32, 3) := by decide +kernel
theorem dX5_isFault_10 : decode cX5_isFault 10 = .ok (.iconst 0, 1) := by decide +kernel
theorem dX5_isFault_11 : decode cX5_isFault 11 = .ok (.ireturn, 1) := by decide +kernel
theorem dX5_skipBlanks_0 : decode cX5_skipBlanks 0 = .ok (.aload_n 0, 1) := by decide +kernel
theorem dX5_skipBlanks_1 : decode cX5_skipBlanks 1 = .ok (.getfield 35, 3) := by decide +kernel
theorem dX5_skipBlanks_4 : decode cX5_skipBlanks 4 = .ok (.aload_n 0, 1) := by decide +kernel
theorem dX5_skipBlanks_5 : decode cX5_skipBlanks 5 = .ok (.getfield 22, 3) := by decide +kernel
theorem dX5_skipBlanks_8 : decode cX5_skipBlanks 8 = .ok (.if_icmp .ge 30, 3) := by decide +kernel
theorem dX5_skipBlanks_11 : decode cX5_skipBlanks 11 = .ok (.aload_n 0, 1) := by decide +kernel
theorem dX5_skipBlanks_12 : decode cX5_skipBlanks 12 = .ok (.getfield 18, 3) := by decide +kernel
theorem dX5_skipBlanks_15 : decode cX5_skipBlanks 15 = .ok (.aload_n 0, 1) := by decide +kernel
theorem dX5_skipBlanks_16 : decode cX5_skipBlanks 16 = .ok (.getfield 35, 3) := by decide +kernel
theorem dX5_skipBlanks_19 : decode cX5_skipBlanks 19 = .ok (.baload, 1) := by decide +kernel
theorem dX5_skipBlanks_20 : decode cX5_skipBlanks 20 = .ok (.bipush 32, 2) := by decide +kernel
theorem dX5_skipBlanks_22 : decode cX5_skipBlanks 22 = .ok (.if_icmp .ne 16, 3) := by decide +kernel
theorem dX5_skipBlanks_25 : decode cX5_skipBlanks 25 = .ok (.aload_n 0, 1) := by decide +kernel
theorem dX5_skipBlanks_26 : decode cX5_skipBlanks 26 = .ok (.dup, 1) := by decide +kernel
theorem dX5_skipBlanks_27 : decode cX5_skipBlanks 27 = .ok (.getfield 35, 3) := by decide +kernel
theorem dX5_skipBlanks_30 : decode cX5_skipBlanks 30 = .ok (.iconst 1, 1) := by decide +kernel
theorem dX5_skipBlanks_31 : decode cX5_skipBlanks 31 = .ok (.iadd, 1) := by decide +kernel
theorem dX5_skipBlanks_32 : decode cX5_skipBlanks 32 = .ok (.putfield 35, 3) := by decide +kernel
theorem dX5_skipBlanks_35 : decode cX5_skipBlanks 35 = .ok (.goto (-35), 3) := by decide +kernel
theorem dX5_skipBlanks_38 : decode cX5_skipBlanks 38 = .ok (.return_, 1) := by decide +kernel
theorem dX5_takeSign_0 : decode cX5_takeSign 0 = .ok (.aload_n 0, 1) := by decide +kernel
theorem dX5_takeSign_1 : decode cX5_takeSign 1 = .ok (.invokevirtual 38, 3) := by decide +kernel
theorem dX5_takeSign_4 : decode cX5_takeSign 4 = .ok (.aload_n 0, 1) := by decide +kernel
theorem dX5_takeSign_5 : decode cX5_takeSign 5 = .ok (.getfield 35, 3) := by decide +kernel
theorem dX5_takeSign_8 : decode cX5_takeSign 8 = .ok (.aload_n 0, 1) := by decide +kernel
theorem dX5_takeSign_9 : decode cX5_takeSign 9 = .ok (.getfield 22, 3) := by decide +kernel
theorem dX5_takeSign_12 : decode cX5_takeSign 12 = .ok (.if_icmp .ge 28, 3) := by decide +kernel
theorem dX5_takeSign_15 : decode cX5_takeSign 15 = .ok (.aload_n 0, 1) := by decide +kernel
theorem dX5_takeSign_16 : decode cX5_takeSign 16 = .ok (.getfield 18, 3) := by decide +kernel
theorem dX5_takeSign_19 : decode cX5_takeSign 19 = .ok (.aload_n 0, 1) := by decide +kernel
theorem dX5_takeSign_20 : decode cX5_takeSign 20 = .ok (.getfield 35, 3) := by decide +kernel
theorem dX5_takeSign_23 : decode cX5_takeSign 23 = .ok (.baload, 1) := by decide +kernel
theorem dX5_takeSign_24 : decode cX5_takeSign 24 = .ok (.iload_n 1, 1) := by decide +kernel
theorem dX5_takeSign_25 : decode cX5_takeSign 25 = .ok (.if_icmp .ne 15, 3) := by decide +kernel
theorem dX5_takeSign_28 : decode cX5_takeSign 28 = .ok (.aload_n 0, 1) := by decide +kernel
theorem dX5_takeSign_29 : decode cX5_takeSign 29 = .ok (.dup, 1) := by decide +kernel
theorem dX5_takeSign_30 : decode cX5_takeSign 30 = .ok (.getfield 35, 3) := by decide +kernel
theorem dX5_takeSign_33 : decode cX5_takeSign 33 = .ok (.iconst 1, 1) := by decide +kernel
theorem dX5_takeSign_34 : decode cX5_takeSign 34 = .ok (.iadd, 1) := by decide +kernel
theorem dX5_takeSign_35 : decode cX5_takeSign 35 = .ok (.putfield 35, 3) := by decide +kernel
theorem dX5_takeSign_38 : decode cX5_takeSign 38 = .ok (.iconst 1, 1) := by decide +kernel
theorem dX5_takeSign_39 : decode cX5_takeSign 39 = .ok (.ireturn, 1) := by decide +kernel
theorem dX5_takeSign_40 : decode cX5_takeSign 40 = .ok (.iconst 0, 1) := by decide +kernel
theorem dX5_takeSign_41 : decode cX5_takeSign 41 = .ok (.ireturn, 1) := by decide +kernel
theorem dX5_isWord_0 : decode cX5_isWord 0 = .ok (.aload_n 0, 1) := by decide +kernel
theorem dX5_isWord_1 : decode cX5_isWord 1 = .ok (.getfield 35, 3) := by decide +kernel
theorem dX5_isWord_4 : decode cX5_isWord 4 = .ok (.aload_n 1, 1) := by decide +kernel
theorem dX5_isWord_5 : decode cX5_isWord 5 = .ok (.invokevirtual 119, 3) := by decide +kernel
theorem dX5_isWord_8 : decode cX5_isWord 8 = .ok (.iadd, 1) := by decide +kernel
theorem dX5_isWord_9 : decode cX5_isWord 9 = .ok (.istore_n 2, 1) := by decide +kernel
theorem dX5_isWord_10 : decode cX5_isWord 10 = .ok (.iload_n 2, 1) := by decide +kernel
theorem dX5_isWord_11 : decode cX5_isWord 11 = .ok (.aload_n 0, 1) := by decide +kernel
theorem dX5_isWord_12 : decode cX5_isWord 12 = .ok (.getfield 22, 3) := by decide +kernel
theorem dX5_isWord_15 : decode cX5_isWord 15 = .ok (.if_icmp .gt 33, 3) := by decide +kernel
theorem dX5_isWord_18 : decode cX5_isWord 18 = .ok (.iload_n 2, 1) := by decide +kernel
theorem dX5_isWord_19 : decode cX5_isWord 19 = .ok (.aload_n 0, 1) := by decide +kernel
theorem dX5_isWord_20 : decode cX5_isWord 20 = .ok (.getfield 22, 3) := by decide +kernel
theorem dX5_isWord_23 : decode cX5_isWord 23 = .ok (.if_icmp .ge 27, 3) := by decide +kernel
theorem dX5_isWord_26 : decode cX5_isWord 26 = .ok (.aload_n 0, 1) := by decide +kernel
theorem dX5_isWord_27 : decode cX5_isWord 27 = .ok (.getfield 18, 3) := by decide +kernel
theorem dX5_isWord_30 : decode cX5_isWord 30 = .ok (.iload_n 2, 1) := by decide +kernel
theorem dX5_isWord_31 : decode cX5_isWord 31 = .ok (.baload, 1) := by decide +kernel
theorem dX5_isWord_32 : decode cX5_isWord 32 = .ok (.bipush 97, 2) := by decide +kernel
theorem dX5_isWord_34 : decode cX5_isWord 34 = .ok (.if_icmp .lt 16, 3) := by decide +kernel
theorem dX5_isWord_37 : decode cX5_isWord 37 = .ok (.aload_n 0, 1) := by decide +kernel
theorem dX5_isWord_38 : decode cX5_isWord 38 = .ok (.getfield 18, 3) := by decide +kernel
theorem dX5_isWord_41 : decode cX5_isWord 41 = .ok (.iload_n 2, 1) := by decide +kernel
theorem dX5_isWord_42 : decode cX5_isWord 42 = .ok (.baload, 1) := by decide +kernel
theorem dX5_isWord_43 : decode cX5_isWord 43 = .ok (.bipush 122, 2) := by decide +kernel
theorem dX5_isWord_45 : decode cX5_isWord 45 = .ok (.if_icmp .gt 5, 3) := by decide +kernel
theorem dX5_isWord_48 : decode cX5_isWord 48 = .ok (.iconst 0, 1) := by decide +kernel
theorem dX5_isWord_49 : decode cX5_isWord 49 = .ok (.ireturn, 1) := by decide +kernel
theorem dX5_isWord_50 : decode cX5_isWord 50 = .ok (.iconst 0, 1) := by decide +kernel
theorem dX5_isWord_51 : decode cX5_isWord 51 = .ok (.istore_n 3, 1) := by decide +kernel
theorem dX5_isWord_52 : decode cX5_isWord 52 = .ok (.iload_n 3, 1) := by decide +kernel
theorem dX5_isWord_53 : decode cX5_isWord 53 = .ok (.aload_n 1, 1) := by decide +kernel
theorem dX5_isWord_54 : decode cX5_isWord 54 = .ok (.invokevirtual 119, 3) := by decide +kernel
theorem dX5_isWord_57 : decode cX5_isWord 57 = .ok (.if_icmp .ge 30, 3) := by decide +kernel
theorem dX5_isWord_60 : decode cX5_isWord 60 = .ok (.aload_n 0, 1) := by decide +kernel
theorem dX5_isWord_61 : decode cX5_isWord 61 = .ok (.getfield 18, 3) := by decide +kernel
theorem dX5_isWord_64 : decode cX5_isWord 64 = .ok (.aload_n 0, 1) := by decide +kernel
theorem dX5_isWord_65 : decode cX5_isWord 65 = .ok (.getfield 35, 3) := by decide +kernel
theorem dX5_isWord_68 : decode cX5_isWord 68 = .ok (.iload_n 3, 1) := by decide +kernel
theorem dX5_isWord_69 : decode cX5_isWord 69 = .ok (.iadd, 1) := by decide +kernel
theorem dX5_isWord_70 : decode cX5_isWord 70 = .ok (.baload, 1) := by decide +kernel
theorem dX5_isWord_71 : decode cX5_isWord 71 = .ok (.aload_n 1, 1) := by decide +kernel
theorem dX5_isWord_72 : decode cX5_isWord 72 = .ok (.iload_n 3, 1) := by decide +kernel
theorem dX5_isWord_73 : decode cX5_isWord 73 = .ok (.invokevirtual 124, 3) := by decide +kernel
theorem dX5_isWord_76 : decode cX5_isWord 76 = .ok (.if_icmp .eq 5, 3) := by decide +kernel
theorem dX5_isWord_79 : decode cX5_isWord 79 = .ok (.iconst 0, 1) := by decide +kernel
theorem dX5_isWord_80 : decode cX5_isWord 80 = .ok (.ireturn, 1) := by decide +kernel
theorem dX5_isWord_81 : decode cX5_isWord 81 = .ok (.iinc 3 1, 3) := by decide +kernel
theorem dX5_isWord_84 : decode cX5_isWord 84 = .ok (.goto (-32), 3) := by decide +kernel
theorem dX5_isWord_87 : decode cX5_isWord 87 = .ok (.aload_n 0, 1) := by decide +kernel
theorem dX5_isWord_88 : decode cX5_isWord 88 = .ok (.iload_n 2, 1) := by decide +kernel
theorem dX5_isWord_89 : decode cX5_isWord 89 = .ok (.putfield 35, 3) := by decide +kernel
theorem dX5_isWord_92 : decode cX5_isWord 92 = .ok (.iconst 1, 1) := by decide +kernel
theorem dX5_isWord_93 : decode cX5_isWord 93 = .ok (.ireturn, 1) := by decide +kernel
theorem dX5_readNumber_0 : decode cX5_readNumber 0 = .ok (.aload_n 0, 1) := by decide +kernel
theorem dX5_readNumber_1 : decode cX5_readNumber 1 = .ok (.invokevirtual 38, 3) := by decide +kernel
theorem dX5_readNumber_4 : decode cX5_readNumber 4 = .ok (.aload_n 0, 1) := by decide +kernel
theorem dX5_readNumber_5 : decode cX5_readNumber 5 = .ok (.aload_n 0, 1) := by decide +kernel
theorem dX5_readNumber_6 : decode cX5_readNumber 6 = .ok (.getfield 35, 3) := by decide +kernel
theorem dX5_readNumber_9 : decode cX5_readNumber 9 = .ok (.putfield 45, 3) := by decide +kernel
theorem dX5_readNumber_12 : decode cX5_readNumber 12 = .ok (.aload_n 0, 1) := by decide +kernel
theorem dX5_readNumber_13 : decode cX5_readNumber 13 = .ok (.iconst 0, 1) := by decide +kernel
theorem dX5_readNumber_14 : decode cX5_readNumber 14 = .ok (.putfield 87, 3) := by decide +kernel
theorem dX5_readNumber_17 : decode cX5_readNumber 17 = .ok (.aload_n 0, 1) := by decide +kernel
theorem dX5_readNumber_18 : decode cX5_readNumber 18 = .ok (.getfield 35, 3) := by decide +kernel
theorem dX5_readNumber_21 : decode cX5_readNumber 21 = .ok (.aload_n 0, 1) := by decide +kernel
theorem dX5_readNumber_22 : decode cX5_readNumber 22 = .ok (.getfield 22, 3) := by decide +kernel
theorem dX5_readNumber_25 : decode cX5_readNumber 25 = .ok (.if_icmp .ge 81, 3) := by decide +kernel
theorem dX5_readNumber_28 : decode cX5_readNumber 28 = .ok (.aload_n 0, 1) := by decide +kernel
theorem dX5_readNumber_29 : decode cX5_readNumber 29 = .ok (.getfield 18, 3) := by decide +kernel
theorem dX5_readNumber_32 : decode cX5_readNumber 32 = .ok (.aload_n 0, 1) := by decide +kernel
theorem dX5_readNumber_33 : decode cX5_readNumber 33 = .ok (.getfield 35, 3) := by decide +kernel
theorem dX5_readNumber_36 : decode cX5_readNumber 36 = .ok (.baload, 1) := by decide +kernel
theorem dX5_readNumber_37 : decode cX5_readNumber 37 = .ok (.bipush 48, 2) := by decide +kernel
theorem dX5_readNumber_39 : decode cX5_readNumber 39 = .ok (.if_icmp .lt 67, 3) := by decide +kernel
theorem dX5_readNumber_42 : decode cX5_readNumber 42 = .ok (.aload_n 0, 1) := by decide +kernel
theorem dX5_readNumber_43 : decode cX5_readNumber 43 = .ok (.getfield 18, 3) := by decide +kernel
theorem dX5_readNumber_46 : decode cX5_readNumber 46 = .ok (.aload_n 0, 1) := by decide +kernel
theorem dX5_readNumber_47 : decode cX5_readNumber 47 = .ok (.getfield 35, 3) := by decide +kernel
theorem dX5_readNumber_50 : decode cX5_readNumber 50 = .ok (.baload, 1) := by decide +kernel
theorem dX5_readNumber_51 : decode cX5_readNumber 51 = .ok (.bipush 57, 2) := by decide +kernel
theorem dX5_readNumber_53 : decode cX5_readNumber 53 = .ok (.if_icmp .gt 53, 3) := by decide +kernel
theorem dX5_readNumber_56 : decode cX5_readNumber 56 = .ok (.aload_n 0, 1) := by decide +kernel
theorem dX5_readNumber_57 : decode cX5_readNumber 57 = .ok (.getfield 35, 3) := by decide +kernel
theorem dX5_readNumber_60 : decode cX5_readNumber 60 = .ok (.aload_n 0, 1) := by decide +kernel
theorem dX5_readNumber_61 : decode cX5_readNumber 61 = .ok (.getfield 45, 3) := by decide +kernel
theorem dX5_readNumber_64 : decode cX5_readNumber 64 = .ok (.isub, 1) := by decide +kernel
theorem dX5_readNumber_65 : decode cX5_readNumber 65 = .ok (.iconst 3, 1) := by decide +kernel
theorem dX5_readNumber_66 : decode cX5_readNumber 66 = .ok (.if_icmp .ge 27, 3) := by decide +kernel
theorem dX5_readNumber_69 : decode cX5_readNumber 69 = .ok (.aload_n 0, 1) := by decide +kernel
theorem dX5_readNumber_70 : decode cX5_readNumber 70 = .ok (.aload_n 0, 1) := by decide +kernel
theorem dX5_readNumber_71 : decode cX5_readNumber 71 = .ok (.getfield 87, 3) := by decide +kernel
theorem dX5_readNumber_74 : decode cX5_readNumber 74 = .ok (.bipush 10, 2) := by decide +kernel
theorem dX5_readNumber_76 : decode cX5_readNumber 76 = .ok (.imul, 1) := by decide +kernel
theorem dX5_readNumber_77 : decode cX5_readNumber 77 = .ok (.aload_n 0, 1) := by decide +kernel
theorem dX5_readNumber_78 : decode cX5_readNumber 78 = .ok (.getfield 18, 3) := by decide +kernel
theorem dX5_readNumber_81 : decode cX5_readNumber 81 = .ok (.aload_n 0, 1) := by decide +kernel
theorem dX5_readNumber_82 : decode cX5_readNumber 82 = .ok (.getfield 35, 3) := by decide +kernel
theorem dX5_readNumber_85 : decode cX5_readNumber 85 = .ok (.baload, 1) := by decide +kernel
theorem dX5_readNumber_86 : decode cX5_readNumber 86 = .ok (.iadd, 1) := by decide +kernel
theorem dX5_readNumber_87 : decode cX5_readNumber 87 = .ok (.bipush 48, 2) := by decide +kernel
theorem dX5_readNumber_89 : decode cX5_readNumber 89 = .ok (.isub, 1) := by decide +kernel
theorem dX5_readNumber_90 : decode cX5_readNumber 90 = .ok (.putfield 87, 3) := by decide +kernel
theorem dX5_readNumber_93 : decode cX5_readNumber 93 = .ok (.aload_n 0, 1) := by decide +kernel
theorem dX5_readNumber_94 : decode cX5_readNumber 94 = .ok (.dup, 1) := by decide +kernel
theorem dX5_readNumber_95 : decode cX5_readNumber 95 = .ok (.getfield 35, 3) := by decide +kernel
theorem dX5_readNumber_98 : decode cX5_readNumber 98 = .ok (.iconst 1, 1) := by decide +kernel
theorem dX5_readNumber_99 : decode cX5_readNumber 99 = .ok (.iadd, 1) := by decide +kernel
theorem dX5_readNumber_100 : decode cX5_readNumber 100 = .ok (.putfield 35, 3) := by decide +kernel
theorem dX5_readNumber_103 : decode cX5_readNumber 103 = .ok (.goto (-86), 3) := by decide +kernel
theorem dX5_readNumber_106 : decode cX5_readNumber 106 = .ok (.aload_n 0, 1) := by decide +kernel
theorem dX5_readNumber_107 : decode cX5_readNumber 107 = .ok (.getfield 35, 3) := by decide +kernel
theorem dX5_readNumber_110 : decode cX5_readNumber 110 = .ok (.aload_n 0, 1) := by decide +kernel
theorem dX5_readNumber_111 : decode cX5_readNumber 111 = .ok (.getfield 45, 3) := by decide +kernel
theorem dX5_readNumber_114 : decode cX5_readNumber 114 = .ok (.if_icmp .ne 13, 3) := by decide +kernel
theorem dX5_readNumber_117 : decode cX5_readNumber 117 = .ok (.aload_n 0, 1) := by decide +kernel
theorem dX5_readNumber_118 : decode cX5_readNumber 118 = .ok (.iconst 1, 1) := by decide +kernel
theorem dX5_readNumber_119 : decode cX5_readNumber 119 = .ok (.aload_n 0, 1) := by decide +kernel
theorem dX5_readNumber_120 : decode cX5_readNumber 120 = .ok (.getfield 35, 3) := by decide +kernel
theorem dX5_readNumber_123 : decode cX5_readNumber 123 = .ok (.invokevirtual 60, 3) := by decide +kernel
theorem dX5_readNumber_126 : decode cX5_readNumber 126 = .ok (.ireturn, 1) := by decide +kernel
theorem dX5_readNumber_127 : decode cX5_readNumber 127 = .ok (.aload_n 0, 1) := by decide +kernel
theorem dX5_readNumber_128 : decode cX5_readNumber 128 = .ok (.getfield 35, 3) := by decide +kernel
theorem dX5_readNumber_131 : decode cX5_readNumber 131 = .ok (.aload_n 0, 1) := by decide +kernel
theorem dX5_readNumber_132 : decode cX5_readNumber 132 = .ok (.getfield 45, 3) := by decide +kernel
theorem dX5_readNumber_135 : decode cX5_readNumber 135 = .ok (.isub, 1) := by decide +kernel
theorem dX5_readNumber_136 : decode cX5_readNumber 136 = .ok (.iconst 3, 1) := by decide +kernel
theorem dX5_readNumber_137 : decode cX5_readNumber 137 = .ok (.if_icmp .gt 19, 3) := by decide +kernel
theorem dX5_readNumber_140 : decode cX5_readNumber 140 = .ok (.aload_n 0, 1) := by decide +kernel
theorem dX5_readNumber_141 : decode cX5_readNumber 141 = .ok (.getfield 87, 3) := by decide +kernel
theorem dX5_readNumber_144 : decode cX5_readNumber 144 = .ok (.iload_n 1, 1) := by decide +kernel
theorem dX5_readNumber_145 : decode cX5_readNumber 145 = .ok (.if_icmp .lt 11, 3) := by decide +kernel
theorem dX5_readNumber_148 : decode cX5_readNumber 148 = .ok (.aload_n 0, 1) := by decide +kernel
theorem dX5_readNumber_149 : decode cX5_readNumber 149 = .ok (.getfield 87, 3) := by decide +kernel
theorem dX5_readNumber_152 : decode cX5_readNumber 152 = .ok (.iload_n 2, 1) := by decide +kernel
theorem dX5_readNumber_153 : decode cX5_readNumber 153 = .ok (.if_icmp .le 13, 3) := by decide +kernel
theorem dX5_readNumber_156 : decode cX5_readNumber 156 = .ok (.aload_n 0, 1) := by decide +kernel
theorem dX5_readNumber_157 : decode cX5_readNumber 157 = .ok (.iconst 2, 1) := by decide +kernel
theorem dX5_readNumber_158 : decode cX5_readNumber 158 = .ok (.aload_n 0, 1) := by decide +kernel
theorem dX5_readNumber_159 : decode cX5_readNumber 159 = .ok (.getfield 45, 3) := by decide +kernel
theorem dX5_readNumber_162 : decode cX5_readNumber 162 = .ok (.invokevirtual 60, 3) := by decide +kernel
theorem dX5_readNumber_165 : decode cX5_readNumber 165 = .ok (.ireturn, 1) := by decide +kernel
theorem dX5_readNumber_166 : decode cX5_readNumber 166 = .ok (.iconst 1, 1) := by decide +kernel
theorem dX5_readNumber_167 : decode cX5_readNumber 167 = .ok (.ireturn, 1) := by decide +kernel
theorem dX6_init_0 : decode cX6_init 0 = .ok (.aload_n 0, 1) := by decide +kernel
theorem dX6_init_1 : decode cX6_init 1 = .ok (.invokespecial 3, 3) := by decide +kernel
theorem dX6_init_4 : decode cX6_init 4 = .ok (.aload_n 0, 1) := by decide +kernel
theorem dX6_init_5 : decode cX6_init 5 = .ok (.bipush 6, 2) := by decide +kernel
theorem dX6_init_7 : decode cX6_init 7 = .ok (.newarray .int, 2) := by decide +kernel
theorem dX6_init_9 : decode cX6_init 9 = .ok (.putfield 9, 3) := by decide +kernel
theorem dX6_init_12 : decode cX6_init 12 = .ok (.aload_n 0, 1) := by decide +kernel
theorem dX6_init_13 : decode cX6_init 13 = .ok (.bipush 6, 2) := by decide +kernel
theorem dX6_init_15 : decode cX6_init 15 = .ok (.newarray .int, 2) := by decide +kernel
theorem dX6_init_17 : decode cX6_init 17 = .ok (.putfield 15, 3) := by decide +kernel
theorem dX6_init_20 : decode cX6_init 20 = .ok (.aload_n 0, 1) := by decide +kernel
theorem dX6_init_21 : decode cX6_init 21 = .ok (.bipush 6, 2) := by decide +kernel
theorem dX6_init_23 : decode cX6_init 23 = .ok (.newarray .int, 2) := by decide +kernel
theorem dX6_init_25 : decode cX6_init 25 = .ok (.putfield 18, 3) := by decide +kernel
theorem dX6_init_28 : decode cX6_init 28 = .ok (.aload_n 0, 1) := by decide +kernel
theorem dX6_init_29 : decode cX6_init 29 = .ok (.bipush 6, 2) := by decide +kernel
theorem dX6_init_31 : decode cX6_init 31 = .ok (.newarray .int, 2) := by decide +kernel
theorem dX6_init_33 : decode cX6_init 33 = .ok (.putfield 21, 3) := by decide +kernel
theorem dX6_init_36 : decode cX6_init 36 = .ok (.aload_n 0, 1) := by decide +kernel
theorem dX6_init_37 : decode cX6_init 37 = .ok (.bipush 6, 2) := by decide +kernel
theorem dX6_init_39 : decode cX6_init 39 = .ok (.newarray .int, 2) := by decide +kernel
theorem dX6_init_41 : decode cX6_init 41 = .ok (.putfield 24, 3) := by decide +kernel
theorem dX6_init_44 : decode cX6_init 44 = .ok (.iconst 0, 1) := by decide +kernel
theorem dX6_init_45 : decode cX6_init 45 = .ok (.istore_n 1, 1) := by decide +kernel
theorem dX6_init_46 : decode cX6_init 46 = .ok (.iload_n 1, 1) := by decide +kernel
theorem dX6_init_47 : decode cX6_init 47 = .ok (.bipush 6, 2) := by decide +kernel
theorem dX6_init_49 : decode cX6_init 49 = .ok (.if_icmp .ge 23, 3) := by decide +kernel
theorem dX6_init_52 : decode cX6_init 52 = .ok (.aload_n 0, 1) := by decide +kernel
theorem dX6_init_53 : decode cX6_init 53 = .ok (.getfield 9, 3) := by decide +kernel
theorem dX6_init_56 : decode cX6_init 56 = .ok (.iload_n 1, 1) := by decide +kernel
theorem dX6_init_57 : decode cX6_init 57 = .ok (.iconst (-1), 1) := by decide +kernel
theorem dX6_init_58 : decode cX6_init 58 = .ok (.iastore, 1) := by decide +kernel
theorem dX6_init_59 : decode cX6_init 59 = .ok (.aload_n 0, 1) := by decide +kernel
theorem dX6_init_60 : decode cX6_init 60 = .ok (.getfield 15, 3) := by decide +kernel
theorem dX6_init_63 : decode cX6_init 63 = .ok (.iload_n 1, 1) := by decide +kernel
theorem dX6_init_64 : decode cX6_init 64 = .ok (.iconst (-1), 1) := by decide +kernel
theorem dX6_init_65 : decode cX6_init 65 = .ok (.iastore, 1) := by decide +kernel
theorem dX6_init_66 : decode cX6_init 66 = .ok (.iinc 1 1, 3) := by decide +kernel
theorem dX6_init_69 : decode cX6_init 69 = .ok (.goto (-23), 3) := by decide +kernel
theorem dX6_init_72 : decode cX6_init 72 = .ok (.return_, 1) := by decide +kernel
theorem dX6_begin_0 : decode cX6_begin 0 = .ok (.aload_n 0, 1) := by decide +kernel
theorem dX6_begin_1 : decode cX6_begin 1 = .ok (.invokevirtual 27, 3) := by decide +kernel
theorem dX6_begin_4 : decode cX6_begin 4 = .ok (.aload_n 1, 1) := by decide +kernel
theorem dX6_begin_5 : decode cX6_begin 5 = .ok (.getfield 30, 3) := by decide +kernel
theorem dX6_begin_8 : decode cX6_begin 8 = .ok (.aload_n 0, 1) := by decide +kernel
theorem dX6_begin_9 : decode cX6_begin 9 = .ok (.getfield 21, 3) := by decide +kernel
theorem dX6_begin_12 : decode cX6_begin 12 = .ok (.invokestatic 35, 3) := by decide +kernel
theorem dX6_begin_15 : decode cX6_begin 15 = .ok (.aload_n 1, 1) := by decide +kernel
theorem dX6_begin_16 : decode cX6_begin 16 = .ok (.getfield 39, 3) := by decide +kernel
theorem dX6_begin_19 : decode cX6_begin 19 = .ok (.aload_n 0, 1) := by decide +kernel
theorem dX6_begin_20 : decode cX6_begin 20 = .ok (.getfield 24, 3) := by decide +kernel
theorem dX6_begin_23 : decode cX6_begin 23 = .ok (.invokestatic 35, 3) := by decide +kernel
theorem dX6_begin_26 : decode cX6_begin 26 = .ok (.return_, 1) := by decide +kernel
theorem dX6_copyFrom_0 : decode cX6_copyFrom 0 = .ok (.aload_n 1, 1) := by decide +kernel
theorem dX6_copyFrom_1 : decode cX6_copyFrom 1 = .ok (.getfield 9, 3) := by decide +kernel
theorem dX6_copyFrom_4 : decode cX6_copyFrom 4 = .ok (.aload_n 0, 1) := by decide +kernel
theorem dX6_copyFrom_5 : decode cX6_copyFrom 5 = .ok (.getfield 9, 3) := by decide +kernel
theorem dX6_copyFrom_8 : decode cX6_copyFrom 8 = .ok (.invokestatic 35, 3) := by decide +kernel
theorem dX6_copyFrom_11 : decode cX6_copyFrom 11 = .ok (.aload_n 1, 1) := by decide +kernel
theorem dX6_copyFrom_12 : decode cX6_copyFrom 12 = .ok (.getfield 15, 3) := by decide +kernel
theorem dX6_copyFrom_15 : decode cX6_copyFrom 15 = .ok (.aload_n 0, 1) := by decide +kernel
theorem dX6_copyFrom_16 : decode cX6_copyFrom 16 = .ok (.getfield 15, 3) := by decide +kernel
theorem dX6_copyFrom_19 : decode cX6_copyFrom 19 = .ok (.invokestatic 35, 3) := by decide +kernel
theorem dX6_copyFrom_22 : decode cX6_copyFrom 22 = .ok (.aload_n 1, 1) := by decide +kernel
theorem dX6_copyFrom_23 : decode cX6_copyFrom 23 = .ok (.getfield 18, 3) := by decide +kernel
theorem dX6_copyFrom_26 : decode cX6_copyFrom 26 = .ok (.aload_n 0, 1) := by decide +kernel
theorem dX6_copyFrom_27 : decode cX6_copyFrom 27 = .ok (.getfield 18, 3) := by decide +kernel
theorem dX6_copyFrom_30 : decode cX6_copyFrom 30 = .ok (.invokestatic 35, 3) := by decide +kernel
theorem dX6_copyFrom_33 : decode cX6_copyFrom 33 = .ok (.aload_n 1, 1) := by decide +kernel
theorem dX6_copyFrom_34 : decode cX6_copyFrom 34 = .ok (.getfield 21, 3) := by decide +kernel
theorem dX6_copyFrom_37 : decode cX6_copyFrom 37 = .ok (.aload_n 0, 1) := by decide +kernel
theorem dX6_copyFrom_38 : decode cX6_copyFrom 38 = .ok (.getfield 21, 3) := by decide +kernel
theorem dX6_copyFrom_41 : decode cX6_copyFrom 41 = .ok (.invokestatic 35, 3) := by decide +kernel
theorem dX6_copyFrom_44 : decode cX6_copyFrom 44 = .ok (.aload_n 1, 1) := by decide +kernel
theorem dX6_copyFrom_45 : decode cX6_copyFrom 45 = .ok (.getfield 24, 3) := by decide +kernel
theorem dX6_copyFrom_48 : decode cX6_copyFrom 48 = .ok (.aload_n 0, 1) := by decide +kernel
theorem dX6_copyFrom_49 : decode cX6_copyFrom 49 = .ok (.getfield 24, 3) := by decide +kernel
theorem dX6_copyFrom_52 : decode cX6_copyFrom 52 = .ok (.invokestatic 35, 3) := by decide +kernel
theorem dX6_copyFrom_55 : decode cX6_copyFrom 55 = .ok (.aload_n 0, 1) := by decide +kernel
theorem dX6_copyFrom_56 : decode cX6_copyFrom 56 = .ok (.aload_n 1, 1) := by decide +kernel
theorem dX6_copyFrom_57 : decode cX6_copyFrom 57 = .ok (.getfield 42, 3) := by decide +kernel
theorem dX6_copyFrom_60 : decode cX6_copyFrom 60 = .ok (.putfield 42, 3) := by decide +kernel
theorem dX6_copyFrom_63 : decode cX6_copyFrom 63 = .ok (.aload_n 0, 1) := by decide +kernel
theorem dX6_copyFrom_64 : decode cX6_copyFrom 64 = .ok (.aload_n 1, 1) := by decide +kernel
theorem dX6_copyFrom_65 : decode cX6_copyFrom 65 = .ok (.getfield 46, 3) := by decide +kernel
theorem dX6_copyFrom_68 : decode cX6_copyFrom 68 = .ok (.putfield 46, 3) := by decide +kernel
theorem dX6_copyFrom_71 : decode cX6_copyFrom 71 = .ok (.return_, 1) := by decide +kernel
theorem dX6_standAt_0 : decode cX6_standAt 0 = .ok (.aload_n 0, 1) := by decide +kernel
theorem dX6_standAt_1 : decode cX6_standAt 1 = .ok (.getfield 9, 3) := by decide +kernel
theorem dX6_standAt_4 : decode cX6_standAt 4 = .ok (.iload_n 1, 1) := by decide +kernel
theorem dX6_standAt_5 : decode cX6_standAt 5 = .ok (.iload_n 2, 1) := by decide +kernel
theorem dX6_standAt_6 : decode cX6_standAt 6 = .ok (.iastore, 1) := by decide +kernel
theorem dX6_standAt_7 : decode cX6_standAt 7 = .ok (.aload_n 0, 1) := by decide +kernel
theorem dX6_standAt_8 : decode cX6_standAt 8 = .ok (.getfield 15, 3) := by decide +kernel
theorem dX6_standAt_11 : decode cX6_standAt 11 = .ok (.iload_n 1, 1) := by decide +kernel
theorem dX6_standAt_12 : decode cX6_standAt 12 = .ok (.iload_n 3, 1) := by decide +kernel
theorem dX6_standAt_13 : decode cX6_standAt 13 = .ok (.iastore, 1) := by decide +kernel
theorem dX6_standAt_14 : decode cX6_standAt 14 = .ok (.aload_n 0, 1) := by decide +kernel
theorem dX6_standAt_15 : decode cX6_standAt 15 = .ok (.getfield 18, 3) := by decide +kernel
theorem dX6_standAt_18 : decode cX6_standAt 18 = .ok (.iload_n 1, 1) := by decide +kernel
theorem dX6_standAt_19 : decode cX6_standAt 19 = .ok (.iconst 0, 1) := by decide +kernel
theorem dX6_standAt_20 : decode cX6_standAt 20 = .ok (.iastore, 1) := by decide +kernel
theorem dX6_standAt_21 : decode cX6_standAt 21 = .ok (.return_, 1) := by decide +kernel
theorem dX6_goOut_0 : decode cX6_goOut 0 = .ok (.aload_n 0, 1) := by decide +kernel
theorem dX6_goOut_1 : decode cX6_goOut 1 = .ok (.iload_n 1, 1) := by decide +kernel
theorem dX6_goOut_2 : decode cX6_goOut 2 = .ok (.iconst (-1), 1) := by decide +kernel
theorem dX6_goOut_3 : decode cX6_goOut 3 = .ok (.iconst (-1), 1) := by decide +kernel
theorem dX6_goOut_4 : decode cX6_goOut 4 = .ok (.invokevirtual 49, 3) := by decide +kernel
theorem dX6_goOut_7 : decode cX6_goOut 7 = .ok (.return_, 1) := by decide +kernel
theorem dX6_sendAllOut_0 : decode cX6_sendAllOut 0 = .ok (.iconst 0, 1) := by decide +kernel
theorem dX6_sendAllOut_1 : decode cX6_sendAllOut 1 = .ok (.istore_n 1, 1) := by decide +kernel
theorem dX6_sendAllOut_2 : decode cX6_sendAllOut 2 = .ok (.iload_n 1, 1) := by decide +kernel
theorem dX6_sendAllOut_3 : decode cX6_sendAllOut 3 = .ok (.bipush 6, 2) := by decide +kernel
theorem dX6_sendAllOut_5 : decode cX6_sendAllOut 5 = .ok (.if_icmp .ge 14, 3) := by decide +kernel
theorem dX6_sendAllOut_8 : decode cX6_sendAllOut 8 = .ok (.aload_n 0, 1) := by decide +kernel
theorem dX6_sendAllOut_9 : decode cX6_sendAllOut 9 = .ok (.iload_n 1, 1) := by decide +kernel
theorem dX6_sendAllOut_10 : decode cX6_sendAllOut 10 = .ok (.invokevirtual 53, 3) := by decide +kernel
theorem dX6_sendAllOut_13 : decode cX6_sendAllOut 13 = .ok (.iinc 1 1, 3) := by decide +kernel
theorem dX6_sendAllOut_16 : decode cX6_sendAllOut 16 = .ok (.goto (-14), 3) := by decide +kernel
theorem dX6_sendAllOut_19 : decode cX6_sendAllOut 19 = .ok (.return_, 1) := by decide +kernel
theorem dX6_whoIsAt_0 : decode cX6_whoIsAt 0 = .ok (.iconst 0, 1) := by decide +kernel
theorem dX6_whoIsAt_1 : decode cX6_whoIsAt 1 = .ok (.istore_n 3, 1) := by decide +kernel
theorem dX6_whoIsAt_2 : decode cX6_whoIsAt 2 = .ok (.iload_n 3, 1) := by decide +kernel
theorem dX6_whoIsAt_3 : decode cX6_whoIsAt 3 = .ok (.bipush 6, 2) := by decide +kernel
theorem dX6_whoIsAt_5 : decode cX6_whoIsAt 5 = .ok (.if_icmp .ge 31, 3) := by decide +kernel
theorem dX6_whoIsAt_8 : decode cX6_whoIsAt 8 = .ok (.aload_n 0, 1) := by decide +kernel
theorem dX6_whoIsAt_9 : decode cX6_whoIsAt 9 = .ok (.getfield 9, 3) := by decide +kernel
theorem dX6_whoIsAt_12 : decode cX6_whoIsAt 12 = .ok (.iload_n 3, 1) := by decide +kernel
theorem dX6_whoIsAt_13 : decode cX6_whoIsAt 13 = .ok (.iaload, 1) := by decide +kernel
theorem dX6_whoIsAt_14 : decode cX6_whoIsAt 14 = .ok (.iload_n 1, 1) := by decide +kernel
theorem dX6_whoIsAt_15 : decode cX6_whoIsAt 15 = .ok (.if_icmp .ne 15, 3) := by decide +kernel
theorem dX6_whoIsAt_18 : decode cX6_whoIsAt 18 = .ok (.aload_n 0, 1) := by decide +kernel
theorem dX6_whoIsAt_19 : decode cX6_whoIsAt 19 = .ok (.getfield 15, 3) := by decide +kernel
theorem dX6_whoIsAt_22 : decode cX6_whoIsAt 22 = .ok (.iload_n 3, 1) := by decide +kernel
theorem dX6_whoIsAt_23 : decode cX6_whoIsAt 23 = .ok (.iaload, 1) := by decide +kernel
theorem dX6_whoIsAt_24 : decode cX6_whoIsAt 24 = .ok (.iload_n 2, 1) := by decide +kernel
theorem dX6_whoIsAt_25 : decode cX6_whoIsAt 25 = .ok (.if_icmp .ne 5, 3) := by decide +kernel
theorem dX6_whoIsAt_28 : decode cX6_whoIsAt 28 = .ok (.iload_n 3, 1) := by decide +kernel
theorem dX6_whoIsAt_29 : decode cX6_whoIsAt 29 = .ok (.ireturn, 1) := by decide +kernel
theorem dX6_whoIsAt_30 : decode cX6_whoIsAt 30 = .ok (.iinc 3 1, 3) := by decide +kernel
theorem dX6_whoIsAt_33 : decode cX6_whoIsAt 33 = .ok (.goto (-31), 3) := by decide +kernel
theorem dX6_whoIsAt_36 : decode cX6_whoIsAt 36 = .ok (.iconst (-1), 1) := by decide +kernel
theorem dX6_whoIsAt_37 : decode cX6_whoIsAt 37 = .ok (.ireturn, 1) := by decide +kernel
theorem dX6_whoIsIn_0 : decode cX6_whoIsIn 0 = .ok (.iconst 0, 1) := by decide +kernel
theorem dX6_whoIsIn_1 : decode cX6_whoIsIn 1 = .ok (.istore_n 2, 1) := by decide +kernel
theorem dX6_whoIsIn_2 : decode cX6_whoIsIn 2 = .ok (.iconst 0, 1) := by decide +kernel
theorem dX6_whoIsIn_3 : decode cX6_whoIsIn 3 = .ok (.istore_n 3, 1) := by decide +kernel
theorem dX6_whoIsIn_4 : decode cX6_whoIsIn 4 = .ok (.iload_n 3, 1) := by decide +kernel
theorem dX6_whoIsIn_5 : decode cX6_whoIsIn 5 = .ok (.bipush 6, 2) := by decide +kernel
theorem dX6_whoIsIn_7 : decode cX6_whoIsIn 7 = .ok (.if_icmp .ge 25, 3) := by decide +kernel
theorem dX6_whoIsIn_10 : decode cX6_whoIsIn 10 = .ok (.aload_n 0, 1) := by decide +kernel
theorem dX6_whoIsIn_11 : decode cX6_whoIsIn 11 = .ok (.getfield 9, 3) := by decide +kernel
theorem dX6_whoIsIn_14 : decode cX6_whoIsIn 14 = .ok (.iload_n 3, 1) := by decide +kernel
theorem dX6_whoIsIn_15 : decode cX6_whoIsIn 15 = .ok (.iaload, 1) := by decide +kernel
theorem dX6_whoIsIn_16 : decode cX6_whoIsIn 16 = .ok (.iload_n 1, 1) := by decide +kernel
theorem dX6_whoIsIn_17 : decode cX6_whoIsIn 17 = .ok (.if_icmp .ne 9, 3) := by decide +kernel
theorem dX6_whoIsIn_20 : decode cX6_whoIsIn 20 = .ok (.iload_n 2, 1) := by decide +kernel
theorem dX6_whoIsIn_21 : decode cX6_whoIsIn 21 = .ok (.iconst 1, 1) := by decide +kernel
theorem dX6_whoIsIn_22 : decode cX6_whoIsIn 22 = .ok (.iload_n 3, 1) := by decide +kernel
theorem dX6_whoIsIn_23 : decode cX6_whoIsIn 23 = .ok (.ishl, 1) := by decide +kernel
theorem dX6_whoIsIn_24 : decode cX6_whoIsIn 24 = .ok (.ior, 1) := by decide +kernel
theorem dX6_whoIsIn_25 : decode cX6_whoIsIn 25 = .ok (.istore_n 2, 1) := by decide +kernel
theorem dX6_whoIsIn_26 : decode cX6_whoIsIn 26 = .ok (.iinc 3 1, 3) := by decide +kernel
theorem dX6_whoIsIn_29 : decode cX6_whoIsIn 29 = .ok (.goto (-25), 3) := by decide +kernel
theorem dX6_whoIsIn_32 : decode cX6_whoIsIn 32 = .ok (.iload_n 2, 1) := by decide +kernel
theorem dX6_whoIsIn_33 : decode cX6_whoIsIn 33 = .ok (.ireturn, 1) := by decide +kernel
theorem dX6_whoIsOlderIn_0 : decode cX6_whoIsOlderIn 0 = .ok (.iconst 0, 1) := by decide +kernel
theorem dX6_whoIsOlderIn_1 : decode cX6_whoIsOlderIn 1 = .ok (.istore_n 3, 1) := by decide +kernel
theorem dX6_whoIsOlderIn_2 : decode cX6_whoIsOlderIn 2 = .ok (.iconst 0, 1) := by decide +kernel
theorem dX6_whoIsOlderIn_3 : decode cX6_whoIsOlderIn 3 = .ok (.istore 4, 2) := by decide +kernel
theorem dX6_whoIsOlderIn_5 : decode cX6_whoIsOlderIn 5 = .ok (.iload 4, 2) := by decide +kernel
theorem dX6_whoIsOlderIn_7 : decode cX6_whoIsOlderIn 7 = .ok (.bipush 6, 2) := by decide +kernel
theorem dX6_whoIsOlderIn_9 : decode cX6_whoIsOlderIn 9 = .ok (.if_icmp .ge 38, 3) := by decide +kernel
theorem dX6_whoIsOlderIn_12 : decode cX6_whoIsOlderIn 12 = .ok (.aload_n 0, 1) := by decide +kernel
theorem dX6_whoIsOlderIn_13 : decode cX6_whoIsOlderIn 13 = .ok (.getfield 9, 3) := by decide +kernel
theorem dX6_whoIsOlderIn_16 : decode cX6_whoIsOlderIn 16 = .ok (.iload 4, 2) := by decide +kernel
theorem dX6_whoIsOlderIn_18 : decode cX6_whoIsOlderIn 18 = .ok (.iaload, 1) := by decide +kernel
theorem dX6_whoIsOlderIn_19 : decode cX6_whoIsOlderIn 19 = .ok (.iload_n 1, 1) := by decide +kernel
theorem dX6_whoIsOlderIn_20 : decode cX6_whoIsOlderIn 20 = .ok (.if_icmp .ne 21, 3) := by decide +kernel
theorem dX6_whoIsOlderIn_23 : decode cX6_whoIsOlderIn 23 = .ok (.aload_n 0, 1) := by decide +kernel
theorem dX6_whoIsOlderIn_24 : decode cX6_whoIsOlderIn 24 = .ok (.getfield 21, 3) := by decide +kernel
theorem dX6_whoIsOlderIn_27 : decode cX6_whoIsOlderIn 27 = .ok (.iload 4, 2) := by decide +kernel
theorem dX6_whoIsOlderIn_29 : decode cX6_whoIsOlderIn 29 = .ok (.iaload, 1) := by decide +kernel
theorem dX6_whoIsOlderIn_30 : decode cX6_whoIsOlderIn 30 = .ok (.iload_n 2, 1) := by decide +kernel
theorem dX6_whoIsOlderIn_31 : decode cX6_whoIsOlderIn 31 = .ok (.if_icmp .le 10, 3) := by decide +kernel
theorem dX6_whoIsOlderIn_34 : decode cX6_whoIsOlderIn 34 = .ok (.iload_n 3, 1) := by decide +kernel
theorem dX6_whoIsOlderIn_35 : decode cX6_whoIsOlderIn 35 = .ok (.iconst 1, 1) := by decide +kernel
theorem dX6_whoIsOlderIn_36 : decode cX6_whoIsOlderIn 36 = .ok (.iload 4, 2) := by decide +kernel
theorem dX6_whoIsOlderIn_38 : decode cX6_whoIsOlderIn 38 = .ok (.ishl, 1) := by decide +kernel
theorem dX6_whoIsOlderIn_39 : decode cX6_whoIsOlderIn 39 = .ok (.ior, 1) := by decide +kernel
theorem dX6_whoIsOlderIn_40 : decode cX6_whoIsOlderIn 40 = .ok (.istore_n 3, 1) := by decide +kernel
theorem dX6_whoIsOlderIn_41 : decode cX6_whoIsOlderIn 41 = .ok (.iinc 4 1, 3) := by decide +kernel
theorem dX6_whoIsOlderIn_44 : decode cX6_whoIsOlderIn 44 = .ok (.goto (-39), 3) := by decide +kernel
theorem dX6_whoIsOlderIn_47 : decode cX6_whoIsOlderIn 47 = .ok (.iload_n 3, 1) := by decide +kernel
theorem dX6_whoIsOlderIn_48 : decode cX6_whoIsOlderIn 48 = .ok (.ireturn, 1) := by decide +kernel
theorem dX6_somewhere_0 : decode cX6_somewhere 0 = .ok (.bipush 63, 2) := by decide +kernel
theorem dX6_somewhere_2 : decode cX6_somewhere 2 = .ok (.aload_n 0, 1) := by decide +kernel
theorem dX6_somewhere_3 : decode cX6_somewhere 3 = .ok (.iconst (-1), 1) := by decide +kernel
theorem dX6_somewhere_4 : decode cX6_somewhere 4 = .ok (.invokevirtual 57, 3) := by decide +kernel
theorem dX6_somewhere_7 : decode cX6_somewhere 7 = .ok (.iconst (-1), 1) := by decide +kernel
theorem dX6_somewhere_8 : decode cX6_somewhere 8 = .ok (.ixor, 1) := by decide +kernel
theorem dX6_somewhere_9 : decode cX6_somewhere 9 = .ok (.iand, 1) := by decide +kernel
theorem dX6_somewhere_10 : decode cX6_somewhere 10 = .ok (.ireturn, 1) := by decide +kernel
theorem dX6_canStandAt_0 : decode cX6_canStandAt 0 = .ok (.aload_n 0, 1) := by decide +kernel
theorem dX6_canStandAt_1 : decode cX6_canStandAt 1 = .ok (.getfield 9, 3) := by decide +kernel
theorem dX6_canStandAt_4 : decode cX6_canStandAt 4 = .ok (.iload_n 1, 1) := by decide +kernel
theorem dX6_canStandAt_5 : decode cX6_canStandAt 5 = .ok (.iaload, 1) := by decide +kernel
theorem dX6_canStandAt_6 : decode cX6_canStandAt 6 = .ok (.iconst (-1), 1) := by decide +kernel
theorem dX6_canStandAt_7 : decode cX6_canStandAt 7 = .ok (.if_icmp .ne 17, 3) := by decide +kernel
theorem dX6_canStandAt_10 : decode cX6_canStandAt 10 = .ok (.aload_n 0, 1) := by decide +kernel
theorem dX6_canStandAt_11 : decode cX6_canStandAt 11 = .ok (.iload_n 2, 1) := by decide +kernel
theorem dX6_canStandAt_12 : decode cX6_canStandAt 12 = .ok (.iload_n 3, 1) := by decide +kernel
theorem dX6_canStandAt_13 : decode cX6_canStandAt 13 = .ok (.invokevirtual 61, 3) := by decide +kernel
theorem dX6_canStandAt_16 : decode cX6_canStandAt 16 = .ok (.iconst (-1), 1) := by decide +kernel
theorem dX6_canStandAt_17 : decode cX6_canStandAt 17 = .ok (.if_icmp .ne 7, 3) := by decide +kernel
theorem dX6_canStandAt_20 : decode cX6_canStandAt 20 = .ok (.iconst 1, 1) := by decide +kernel
theorem dX6_canStandAt_21 : decode cX6_canStandAt 21 = .ok (.goto 4, 3) := by decide +kernel
theorem dX6_canStandAt_24 : decode cX6_canStandAt 24 = .ok (.iconst 0, 1) := by decide +kernel
theorem dX6_canStandAt_25 : decode cX6_canStandAt 25 = .ok (.ireturn, 1) := by decide +kernel
theorem dX6_someoneHasAge_0 : decode cX6_someoneHasAge 0 = .ok (.iconst 0, 1) := by decide +kernel
theorem dX6_someoneHasAge_1 : decode cX6_someoneHasAge 1 = .ok (.istore_n 3, 1) := by decide +kernel
theorem dX6_someoneHasAge_2 : decode cX6_someoneHasAge 2 = .ok (.iload_n 3, 1) := by decide +kernel
theorem dX6_someoneHasAge_3 : decode cX6_someoneHasAge 3 = .ok (.bipush 6, 2) := by decide +kernel
theorem dX6_someoneHasAge_5 : decode cX6_someoneHasAge 5 = .ok (.if_icmp .ge 29, 3) := by decide +kernel
theorem dX6_someoneHasAge_8 : decode cX6_someoneHasAge 8 = .ok (.iload_n 1, 1) := by decide +kernel
theorem dX6_someoneHasAge_9 : decode cX6_someoneHasAge 9 = .ok (.iload_n 3, 1) := by decide +kernel
theorem dX6_someoneHasAge_10 : decode cX6_someoneHasAge 10 = .ok (.ishr, 1) := by decide +kernel
theorem dX6_someoneHasAge_11 : decode cX6_someoneHasAge 11 = .ok (.iconst 1, 1) := by decide +kernel
theorem dX6_someoneHasAge_12 : decode cX6_someoneHasAge 12 = .ok (.iand, 1) := by decide +kernel
theorem dX6_someoneHasAge_13 : decode cX6_someoneHasAge 13 = .ok (.ifCond .eq 15, 3) := by decide +kernel
theorem dX6_someoneHasAge_16 : decode cX6_someoneHasAge 16 = .ok (.aload_n 0, 1) := by decide +kernel
theorem dX6_someoneHasAge_17 : decode cX6_someoneHasAge 17 = .ok (.getfield 21, 3) := by decide +kernel
theorem dX6_someoneHasAge_20 : decode cX6_someoneHasAge 20 = .ok (.iload_n 3, 1) := by decide +kernel
theorem dX6_someoneHasAge_21 : decode cX6_someoneHasAge 21 = .ok (.iaload, 1) := by decide +kernel
theorem dX6_someoneHasAge_22 : decode cX6_someoneHasAge 22 = .ok (.iload_n 2, 1) := by decide +kernel
theorem dX6_someoneHasAge_23 : decode cX6_someoneHasAge 23 = .ok (.if_icmp .ne 5, 3) := by decide +kernel
theorem dX6_someoneHasAge_26 : decode cX6_someoneHasAge 26 = .ok (.iconst 1, 1) := by decide +kernel
theorem dX6_someoneHasAge_27 : decode cX6_someoneHasAge 27 = .ok (.ireturn, 1) := by decide +kernel
theorem dX6_someoneHasAge_28 : decode cX6_someoneHasAge 28 = .ok (.iinc 3 1, 3) := by decide +kernel
theorem dX6_someoneHasAge_31 : decode cX6_someoneHasAge 31 = .ok (.goto (-29), 3) := by decide +kernel
theorem dX6_someoneHasAge_34 : decode cX6_someoneHasAge 34 = .ok (.iconst 0, 1) := by decide +kernel
theorem dX6_someoneHasAge_35 : decode cX6_someoneHasAge 35 = .ok (.ireturn, 1) := by decide +kernel
theorem dX6_eldestOf_0 : decode cX6_eldestOf 0 = .ok (.iconst (-1), 1) := by decide +kernel
theorem dX6_eldestOf_1 : decode cX6_eldestOf 1 = .ok (.istore_n 2, 1) := by decide +kernel
theorem dX6_eldestOf_2 : decode cX6_eldestOf 2 = .ok (.iconst 0, 1) := by decide +kernel
theorem dX6_eldestOf_3 : decode cX6_eldestOf 3 = .ok (.istore_n 3, 1) := by decide +kernel
theorem dX6_eldestOf_4 : decode cX6_eldestOf 4 = .ok (.iload_n 3, 1) := by decide +kernel
theorem dX6_eldestOf_5 : decode cX6_eldestOf 5 = .ok (.bipush 6, 2) := by decide +kernel
theorem dX6_eldestOf_7 : decode cX6_eldestOf 7 = .ok (.if_icmp .ge 39, 3) := by decide +kernel
theorem dX6_eldestOf_10 : decode cX6_eldestOf 10 = .ok (.iload_n 1, 1) := by decide +kernel
theorem dX6_eldestOf_11 : decode cX6_eldestOf 11 = .ok (.iload_n 3, 1) := by decide +kernel
theorem dX6_eldestOf_12 : decode cX6_eldestOf 12 = .ok (.ishr, 1) := by decide +kernel
theorem dX6_eldestOf_13 : decode cX6_eldestOf 13 = .ok (.iconst 1, 1) := by decide +kernel
theorem dX6_eldestOf_14 : decode cX6_eldestOf 14 = .ok (.iand, 1) := by decide +kernel
theorem dX6_eldestOf_15 : decode cX6_eldestOf 15 = .ok (.ifCond .eq 25, 3) := by decide +kernel
theorem dX6_eldestOf_18 : decode cX6_eldestOf 18 = .ok (.iload_n 2, 1) := by decide +kernel
theorem dX6_eldestOf_19 : decode cX6_eldestOf 19 = .ok (.iconst (-1), 1) := by decide +kernel
theorem dX6_eldestOf_20 : decode cX6_eldestOf 20 = .ok (.if_icmp .eq 18, 3) := by decide +kernel
theorem dX6_eldestOf_23 : decode cX6_eldestOf 23 = .ok (.aload_n 0, 1) := by decide +kernel
theorem dX6_eldestOf_24 : decode cX6_eldestOf 24 = .ok (.getfield 21, 3) := by decide +kernel
theorem dX6_eldestOf_27 : decode cX6_eldestOf 27 = .ok (.iload_n 3, 1) := by decide +kernel
theorem dX6_eldestOf_28 : decode cX6_eldestOf 28 = .ok (.iaload, 1) := by decide +kernel
theorem dX6_eldestOf_29 : decode cX6_eldestOf 29 = .ok (.aload_n 0, 1) := by decide +kernel
theorem dX6_eldestOf_30 : decode cX6_eldestOf 30 = .ok (.getfield 21, 3) := by decide +kernel
theorem dX6_eldestOf_33 : decode cX6_eldestOf 33 = .ok (.iload_n 2, 1) := by decide +kernel
theorem dX6_eldestOf_34 : decode cX6_eldestOf 34 = .ok (.iaload, 1) := by decide +kernel
theorem dX6_eldestOf_35 : decode cX6_eldestOf 35 = .ok (.if_icmp .le 5, 3) := by decide +kernel
theorem dX6_eldestOf_38 : decode cX6_eldestOf 38 = .ok (.iload_n 3, 1) := by decide +kernel
theorem dX6_eldestOf_39 : decode cX6_eldestOf 39 = .ok (.istore_n 2, 1) := by decide +kernel
theorem dX6_eldestOf_40 : decode cX6_eldestOf 40 = .ok (.iinc 3 1, 3) := by decide +kernel
theorem dX6_eldestOf_43 : decode cX6_eldestOf 43 = .ok (.goto (-39), 3) := by decide +kernel
theorem dX6_eldestOf_46 : decode cX6_eldestOf 46 = .ok (.iload_n 2, 1) := by decide +kernel
theorem dX6_eldestOf_47 : decode cX6_eldestOf 47 = .ok (.ireturn, 1) := by decide +kernel
