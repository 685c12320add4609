theorem dX0_init_0 : decode cX0_init 0 = .ok (.aload_n 0, 1) := by decide +kernel
theorem dX0_init_1 : decode cX0_init 1 = .ok (.invokespecial 3, 3) := by decide +kernel
theorem dX0_init_4 : decode cX0_init 4 = .ok (.aload_n 0, 1) := by decide +kernel
theorem dX0_init_5 : decode cX0_init 5 = .ok (.bipush 60, 2) := by decide +kernel
theorem dX0_init_7 : decode cX0_init 7 = .ok (.newarray .int, 2) := by decide +kernel
theorem dX0_init_9 : decode cX0_init 9 = .ok (.putfield 11, 3) := by decide +kernel
theorem dX0_init_12 : decode cX0_init 12 = .ok (.aload_n 0, 1) := by decide +kernel
theorem dX0_init_13 : decode cX0_init 13 = .ok (.bipush 60, 2) := by decide +kernel
theorem dX0_init_15 : decode cX0_init 15 = .ok (.newarray .int, 2) := by decide +kernel
theorem dX0_init_17 : decode cX0_init 17 = .ok (.putfield 15, 3) := by decide +kernel
theorem dX0_init_20 : decode cX0_init 20 = .ok (.aload_n 0, 1) := by decide +kernel
theorem dX0_init_21 : decode cX0_init 21 = .ok (.bipush 60, 2) := by decide +kernel
theorem dX0_init_23 : decode cX0_init 23 = .ok (.newarray .int, 2) := by decide +kernel
theorem dX0_init_25 : decode cX0_init 25 = .ok (.putfield 18, 3) := by decide +kernel
theorem dX0_init_28 : decode cX0_init 28 = .ok (.aload_n 0, 1) := by decide +kernel
theorem dX0_init_29 : decode cX0_init 29 = .ok (.bipush 60, 2) := by decide +kernel
theorem dX0_init_31 : decode cX0_init 31 = .ok (.newarray .int, 2) := by decide +kernel
theorem dX0_init_33 : decode cX0_init 33 = .ok (.putfield 21, 3) := by decide +kernel
theorem dX0_init_36 : decode cX0_init 36 = .ok (.aload_n 0, 1) := by decide +kernel
theorem dX0_init_37 : decode cX0_init 37 = .ok (.bipush 60, 2) := by decide +kernel
theorem dX0_init_39 : decode cX0_init 39 = .ok (.newarray .int, 2) := by decide +kernel
theorem dX0_init_41 : decode cX0_init 41 = .ok (.putfield 24, 3) := by decide +kernel
theorem dX0_init_44 : decode cX0_init 44 = .ok (.aload_n 0, 1) := by decide +kernel
theorem dX0_init_45 : decode cX0_init 45 = .ok (.bipush 60, 2) := by decide +kernel
theorem dX0_init_47 : decode cX0_init 47 = .ok (.newarray .long, 2) := by decide +kernel
theorem dX0_init_49 : decode cX0_init 49 = .ok (.putfield 27, 3) := by decide +kernel
theorem dX0_init_52 : decode cX0_init 52 = .ok (.return_, 1) := by decide +kernel
theorem dX0_greatest_0 : decode cX0_greatest 0 = .ok (.iload_n 0, 1) := by decide +kernel
theorem dX0_greatest_1 : decode cX0_greatest 1 = .ok (.tableswitch 37 0 2 #[27, 30, 34], 27) := by decide +kernel
theorem dX0_greatest_28 : decode cX0_greatest 28 = .ok (.bipush 15, 2) := by decide +kernel
theorem dX0_greatest_30 : decode cX0_greatest 30 = .ok (.ireturn, 1) := by decide +kernel
theorem dX0_greatest_31 : decode cX0_greatest 31 = .ok (.sipush 9999, 3) := by decide +kernel
theorem dX0_greatest_34 : decode cX0_greatest 34 = .ok (.ireturn, 1) := by decide +kernel
theorem dX0_greatest_35 : decode cX0_greatest 35 = .ok (.bipush 9, 2) := by decide +kernel
theorem dX0_greatest_37 : decode cX0_greatest 37 = .ok (.ireturn, 1) := by decide +kernel
theorem dX0_greatest_38 : decode cX0_greatest 38 = .ok (.iconst 2, 1) := by decide +kernel
theorem dX0_greatest_39 : decode cX0_greatest 39 = .ok (.ireturn, 1) := by decide +kernel
theorem dX0_has_0 : decode cX0_has 0 = .ok (.iload_n 1, 1) := by decide +kernel
theorem dX0_has_1 : decode cX0_has 1 = .ok (.ifCond .lt 15, 3) := by decide +kernel
theorem dX0_has_4 : decode cX0_has 4 = .ok (.iload_n 1, 1) := by decide +kernel
theorem dX0_has_5 : decode cX0_has 5 = .ok (.aload_n 0, 1) := by decide +kernel
theorem dX0_has_6 : decode cX0_has 6 = .ok (.getfield 31, 3) := by decide +kernel
theorem dX0_has_9 : decode cX0_has 9 = .ok (.if_icmp .ge 7, 3) := by decide +kernel
theorem dX0_has_12 : decode cX0_has 12 = .ok (.iconst 1, 1) := by decide +kernel
theorem dX0_has_13 : decode cX0_has 13 = .ok (.goto 4, 3) := by decide +kernel
theorem dX0_has_16 : decode cX0_has 16 = .ok (.iconst 0, 1) := by decide +kernel
theorem dX0_has_17 : decode cX0_has 17 = .ok (.ireturn, 1) := by decide +kernel
theorem dX0_room_0 : decode cX0_room 0 = .ok (.bipush 60, 2) := by decide +kernel
theorem dX0_room_2 : decode cX0_room 2 = .ok (.aload_n 0, 1) := by decide +kernel
theorem dX0_room_3 : decode cX0_room 3 = .ok (.getfield 31, 3) := by decide +kernel
theorem dX0_room_6 : decode cX0_room 6 = .ok (.isub, 1) := by decide +kernel
theorem dX0_room_7 : decode cX0_room 7 = .ok (.ireturn, 1) := by decide +kernel
theorem dX0_start_0 : decode cX0_start 0 = .ok (.aload_n 0, 1) := by decide +kernel
theorem dX0_start_1 : decode cX0_start 1 = .ok (.getfield 31, 3) := by decide +kernel
theorem dX0_start_4 : decode cX0_start 4 = .ok (.bipush 60, 2) := by decide +kernel
theorem dX0_start_6 : decode cX0_start 6 = .ok (.if_icmp .lt 5, 3) := by decide +kernel
theorem dX0_start_9 : decode cX0_start 9 = .ok (.iconst (-1), 1) := by decide +kernel
theorem dX0_start_10 : decode cX0_start 10 = .ok (.ireturn, 1) := by decide +kernel
theorem dX0_start_11 : decode cX0_start 11 = .ok (.aload_n 0, 1) := by decide +kernel
theorem dX0_start_12 : decode cX0_start 12 = .ok (.getfield 11, 3) := by decide +kernel
theorem dX0_start_15 : decode cX0_start 15 = .ok (.aload_n 0, 1) := by decide +kernel
theorem dX0_start_16 : decode cX0_start 16 = .ok (.getfield 31, 3) := by decide +kernel
theorem dX0_start_19 : decode cX0_start 19 = .ok (.iload_n 1, 1) := by decide +kernel
theorem dX0_start_20 : decode cX0_start 20 = .ok (.iastore, 1) := by decide +kernel
theorem dX0_start_21 : decode cX0_start 21 = .ok (.aload_n 0, 1) := by decide +kernel
theorem dX0_start_22 : decode cX0_start 22 = .ok (.getfield 15, 3) := by decide +kernel
theorem dX0_start_25 : decode cX0_start 25 = .ok (.aload_n 0, 1) := by decide +kernel
theorem dX0_start_26 : decode cX0_start 26 = .ok (.getfield 31, 3) := by decide +kernel
theorem dX0_start_29 : decode cX0_start 29 = .ok (.iload_n 2, 1) := by decide +kernel
theorem dX0_start_30 : decode cX0_start 30 = .ok (.iastore, 1) := by decide +kernel
theorem dX0_start_31 : decode cX0_start 31 = .ok (.aload_n 0, 1) := by decide +kernel
theorem dX0_start_32 : decode cX0_start 32 = .ok (.getfield 18, 3) := by decide +kernel
theorem dX0_start_35 : decode cX0_start 35 = .ok (.aload_n 0, 1) := by decide +kernel
theorem dX0_start_36 : decode cX0_start 36 = .ok (.getfield 31, 3) := by decide +kernel
theorem dX0_start_39 : decode cX0_start 39 = .ok (.iload_n 3, 1) := by decide +kernel
theorem dX0_start_40 : decode cX0_start 40 = .ok (.iastore, 1) := by decide +kernel
theorem dX0_start_41 : decode cX0_start 41 = .ok (.aload_n 0, 1) := by decide +kernel
theorem dX0_start_42 : decode cX0_start 42 = .ok (.dup, 1) := by decide +kernel
theorem dX0_start_43 : decode cX0_start 43 = .ok (.getfield 31, 3) := by decide +kernel
theorem dX0_start_46 : decode cX0_start 46 = .ok (.dup_x1, 1) := by decide +kernel
theorem dX0_start_47 : decode cX0_start 47 = .ok (.iconst 1, 1) := by decide +kernel
theorem dX0_start_48 : decode cX0_start 48 = .ok (.iadd, 1) := by decide +kernel
theorem dX0_start_49 : decode cX0_start 49 = .ok (.putfield 31, 3) := by decide +kernel
theorem dX0_start_52 : decode cX0_start 52 = .ok (.ireturn, 1) := by decide +kernel
theorem dX0_hear_0 : decode cX0_hear 0 = .ok (.aload_n 0, 1) := by decide +kernel
theorem dX0_hear_1 : decode cX0_hear 1 = .ok (.iload_n 1, 1) := by decide +kernel
theorem dX0_hear_2 : decode cX0_hear 2 = .ok (.invokevirtual 35, 3) := by decide +kernel
theorem dX0_hear_5 : decode cX0_hear 5 = .ok (.ifCond .ne 4, 3) := by decide +kernel
theorem dX0_hear_8 : decode cX0_hear 8 = .ok (.return_, 1) := by decide +kernel
theorem dX0_hear_9 : decode cX0_hear 9 = .ok (.aload_n 0, 1) := by decide +kernel
theorem dX0_hear_10 : decode cX0_hear 10 = .ok (.getfield 21, 3) := by decide +kernel
theorem dX0_hear_13 : decode cX0_hear 13 = .ok (.iload_n 1, 1) := by decide +kernel
theorem dX0_hear_14 : decode cX0_hear 14 = .ok (.iload_n 2, 1) := by decide +kernel
theorem dX0_hear_15 : decode cX0_hear 15 = .ok (.iastore, 1) := by decide +kernel
theorem dX0_hear_16 : decode cX0_hear 16 = .ok (.aload_n 0, 1) := by decide +kernel
theorem dX0_hear_17 : decode cX0_hear 17 = .ok (.getfield 24, 3) := by decide +kernel
theorem dX0_hear_20 : decode cX0_hear 20 = .ok (.iload_n 1, 1) := by decide +kernel
theorem dX0_hear_21 : decode cX0_hear 21 = .ok (.iload_n 3, 1) := by decide +kernel
theorem dX0_hear_22 : decode cX0_hear 22 = .ok (.iastore, 1) := by decide +kernel
theorem dX0_hear_23 : decode cX0_hear 23 = .ok (.aload_n 0, 1) := by decide +kernel
theorem dX0_hear_24 : decode cX0_hear 24 = .ok (.getfield 27, 3) := by decide +kernel
theorem dX0_hear_27 : decode cX0_hear 27 = .ok (.iload_n 1, 1) := by decide +kernel
theorem dX0_hear_28 : decode cX0_hear 28 = .ok (.lload 4, 2) := by decide +kernel
theorem dX0_hear_30 : decode cX0_hear 30 = .ok (.lastore, 1) := by decide +kernel
theorem dX0_hear_31 : decode cX0_hear 31 = .ok (.return_, 1) := by decide +kernel
theorem dX0_heard_0 : decode cX0_heard 0 = .ok (.aload_n 0, 1) := by decide +kernel
theorem dX0_heard_1 : decode cX0_heard 1 = .ok (.iload_n 1, 1) := by decide +kernel
theorem dX0_heard_2 : decode cX0_heard 2 = .ok (.invokevirtual 35, 3) := by decide +kernel
theorem dX0_heard_5 : decode cX0_heard 5 = .ok (.ifCond .ne 5, 3) := by decide +kernel
theorem dX0_heard_8 : decode cX0_heard 8 = .ok (.iconst 2, 1) := by decide +kernel
theorem dX0_heard_9 : decode cX0_heard 9 = .ok (.ireturn, 1) := by decide +kernel
theorem dX0_heard_10 : decode cX0_heard 10 = .ok (.iload_n 2, 1) := by decide +kernel
theorem dX0_heard_11 : decode cX0_heard 11 = .ok (.ifCond .ne 12, 3) := by decide +kernel
theorem dX0_heard_14 : decode cX0_heard 14 = .ok (.aload_n 0, 1) := by decide +kernel
theorem dX0_heard_15 : decode cX0_heard 15 = .ok (.getfield 21, 3) := by decide +kernel
theorem dX0_heard_18 : decode cX0_heard 18 = .ok (.iload_n 1, 1) := by decide +kernel
theorem dX0_heard_19 : decode cX0_heard 19 = .ok (.iaload, 1) := by decide +kernel
theorem dX0_heard_20 : decode cX0_heard 20 = .ok (.goto 9, 3) := by decide +kernel
theorem dX0_heard_23 : decode cX0_heard 23 = .ok (.aload_n 0, 1) := by decide +kernel
theorem dX0_heard_24 : decode cX0_heard 24 = .ok (.getfield 24, 3) := by decide +kernel
theorem dX0_heard_27 : decode cX0_heard 27 = .ok (.iload_n 1, 1) := by decide +kernel
theorem dX0_heard_28 : decode cX0_heard 28 = .ok (.iaload, 1) := by decide +kernel
theorem dX0_heard_29 : decode cX0_heard 29 = .ok (.ireturn, 1) := by decide +kernel
theorem dX0_copy_0 : decode cX0_copy 0 = .ok (.aload_n 0, 1) := by decide +kernel
theorem dX0_copy_1 : decode cX0_copy 1 = .ok (.aload_n 1, 1) := by decide +kernel
theorem dX0_copy_2 : decode cX0_copy 2 = .ok (.getfield 31, 3) := by decide +kernel
theorem dX0_copy_5 : decode cX0_copy 5 = .ok (.putfield 31, 3) := by decide +kernel
theorem dX0_copy_8 : decode cX0_copy 8 = .ok (.aload_n 1, 1) := by decide +kernel
theorem dX0_copy_9 : decode cX0_copy 9 = .ok (.getfield 11, 3) := by decide +kernel
theorem dX0_copy_12 : decode cX0_copy 12 = .ok (.iconst 0, 1) := by decide +kernel
theorem dX0_copy_13 : decode cX0_copy 13 = .ok (.aload_n 0, 1) := by decide +kernel
theorem dX0_copy_14 : decode cX0_copy 14 = .ok (.getfield 11, 3) := by decide +kernel
theorem dX0_copy_17 : decode cX0_copy 17 = .ok (.iconst 0, 1) := by decide +kernel
theorem dX0_copy_18 : decode cX0_copy 18 = .ok (.bipush 60, 2) := by decide +kernel
theorem dX0_copy_20 : decode cX0_copy 20 = .ok (.invokestatic 39, 3) := by decide +kernel
theorem dX0_copy_23 : decode cX0_copy 23 = .ok (.aload_n 1, 1) := by decide +kernel
theorem dX0_copy_24 : decode cX0_copy 24 = .ok (.getfield 15, 3) := by decide +kernel
theorem dX0_copy_27 : decode cX0_copy 27 = .ok (.iconst 0, 1) := by decide +kernel
theorem dX0_copy_28 : decode cX0_copy 28 = .ok (.aload_n 0, 1) := by decide +kernel
theorem dX0_copy_29 : decode cX0_copy 29 = .ok (.getfield 15, 3) := by decide +kernel
theorem dX0_copy_32 : decode cX0_copy 32 = .ok (.iconst 0, 1) := by decide +kernel
theorem dX0_copy_33 : decode cX0_copy 33 = .ok (.bipush 60, 2) := by decide +kernel
theorem dX0_copy_35 : decode cX0_copy 35 = .ok (.invokestatic 39, 3) := by decide +kernel
theorem dX0_copy_38 : decode cX0_copy 38 = .ok (.aload_n 1, 1) := by decide +kernel
theorem dX0_copy_39 : decode cX0_copy 39 = .ok (.getfield 18, 3) := by decide +kernel
theorem dX0_copy_42 : decode cX0_copy 42 = .ok (.iconst 0, 1) := by decide +kernel
theorem dX0_copy_43 : decode cX0_copy 43 = .ok (.aload_n 0, 1) := by decide +kernel
theorem dX0_copy_44 : decode cX0_copy 44 = .ok (.getfield 18, 3) := by decide +kernel
theorem dX0_copy_47 : decode cX0_copy 47 = .ok (.iconst 0, 1) := by decide +kernel
theorem dX0_copy_48 : decode cX0_copy 48 = .ok (.bipush 60, 2) := by decide +kernel
theorem dX0_copy_50 : decode cX0_copy 50 = .ok (.invokestatic 39, 3) := by decide +kernel
theorem dX0_copy_53 : decode cX0_copy 53 = .ok (.aload_n 1, 1) := by decide +kernel
theorem dX0_copy_54 : decode cX0_copy 54 = .ok (.getfield 21, 3) := by decide +kernel
theorem dX0_copy_57 : decode cX0_copy 57 = .ok (.iconst 0, 1) := by decide +kernel
theorem dX0_copy_58 : decode cX0_copy 58 = .ok (.aload_n 0, 1) := by decide +kernel
theorem dX0_copy_59 : decode cX0_copy 59 = .ok (.getfield 21, 3) := by decide +kernel
theorem dX0_copy_62 : decode cX0_copy 62 = .ok (.iconst 0, 1) := by decide +kernel
theorem dX0_copy_63 : decode cX0_copy 63 = .ok (.bipush 60, 2) := by decide +kernel
theorem dX0_copy_65 : decode cX0_copy 65 = .ok (.invokestatic 39, 3) := by decide +kernel
theorem dX0_copy_68 : decode cX0_copy 68 = .ok (.aload_n 1, 1) := by decide +kernel
theorem dX0_copy_69 : decode cX0_copy 69 = .ok (.getfield 24, 3) := by decide +kernel
theorem dX0_copy_72 : decode cX0_copy 72 = .ok (.iconst 0, 1) := by decide +kernel
theorem dX0_copy_73 : decode cX0_copy 73 = .ok (.aload_n 0, 1) := by decide +kernel
theorem dX0_copy_74 : decode cX0_copy 74 = .ok (.getfield 24, 3) := by decide +kernel
theorem dX0_copy_77 : decode cX0_copy 77 = .ok (.iconst 0, 1) := by decide +kernel
theorem dX0_copy_78 : decode cX0_copy 78 = .ok (.bipush 60, 2) := by decide +kernel
theorem dX0_copy_80 : decode cX0_copy 80 = .ok (.invokestatic 39, 3) := by decide +kernel
theorem dX0_copy_83 : decode cX0_copy 83 = .ok (.aload_n 1, 1) := by decide +kernel
theorem dX0_copy_84 : decode cX0_copy 84 = .ok (.getfield 27, 3) := by decide +kernel
theorem dX0_copy_87 : decode cX0_copy 87 = .ok (.iconst 0, 1) := by decide +kernel
theorem dX0_copy_88 : decode cX0_copy 88 = .ok (.aload_n 0, 1) := by decide +kernel
theorem dX0_copy_89 : decode cX0_copy 89 = .ok (.getfield 27, 3) := by decide +kernel
theorem dX0_copy_92 : decode cX0_copy 92 = .ok (.iconst 0, 1) := by decide +kernel
theorem dX0_copy_93 : decode cX0_copy 93 = .ok (.bipush 60, 2) := by decide +kernel
theorem dX0_copy_95 : decode cX0_copy 95 = .ok (.invokestatic 39, 3) := by decide +kernel
theorem dX0_copy_98 : decode cX0_copy 98 = .ok (.return_, 1) := by decide +kernel
theorem dX1_init_0 : decode cX1_init 0 = .ok (.aload_n 0, 1) := by decide +kernel
theorem dX1_init_1 : decode cX1_init 1 = .ok (.invokespecial 3, 3) := by decide +kernel
theorem dX1_init_4 : decode cX1_init 4 = .ok (.aload_n 0, 1) := by decide +kernel
theorem dX1_init_5 : decode cX1_init 5 = .ok (.bipush 12, 2) := by decide +kernel
theorem dX1_init_7 : decode cX1_init 7 = .ok (.newarray .long, 2) := by decide +kernel
theorem dX1_init_9 : decode cX1_init 9 = .ok (.putfield 11, 3) := by decide +kernel
theorem dX1_init_12 : decode cX1_init 12 = .ok (.aload_n 0, 1) := by decide +kernel
theorem dX1_init_13 : decode cX1_init 13 = .ok (.bipush 12, 2) := by decide +kernel
theorem dX1_init_15 : decode cX1_init 15 = .ok (.newarray .long, 2) := by decide +kernel
theorem dX1_init_17 : decode cX1_init 17 = .ok (.putfield 15, 3) := by decide +kernel
theorem dX1_init_20 : decode cX1_init 20 = .ok (.aload_n 0, 1) := by decide +kernel
theorem dX1_init_21 : decode cX1_init 21 = .ok (.bipush 12, 2) := by decide +kernel
theorem dX1_init_23 : decode cX1_init 23 = .ok (.newarray .int, 2) := by decide +kernel
theorem dX1_init_25 : decode cX1_init 25 = .ok (.putfield 18, 3) := by decide +kernel
theorem dX1_init_28 : decode cX1_init 28 = .ok (.aload_n 0, 1) := by decide +kernel
theorem dX1_init_29 : decode cX1_init 29 = .ok (.bipush 12, 2) := by decide +kernel
theorem dX1_init_31 : decode cX1_init 31 = .ok (.newarray .int, 2) := by decide +kernel
theorem dX1_init_33 : decode cX1_init 33 = .ok (.putfield 22, 3) := by decide +kernel
theorem dX1_init_36 : decode cX1_init 36 = .ok (.aload_n 0, 1) := by decide +kernel
theorem dX1_init_37 : decode cX1_init 37 = .ok (.sipush 200, 3) := by decide +kernel
theorem dX1_init_40 : decode cX1_init 40 = .ok (.newarray .int, 2) := by decide +kernel
theorem dX1_init_42 : decode cX1_init 42 = .ok (.putfield 25, 3) := by decide +kernel
theorem dX1_init_45 : decode cX1_init 45 = .ok (.aload_n 0, 1) := by decide +kernel
theorem dX1_init_46 : decode cX1_init 46 = .ok (.sipush 200, 3) := by decide +kernel
theorem dX1_init_49 : decode cX1_init 49 = .ok (.newarray .int, 2) := by decide +kernel
theorem dX1_init_51 : decode cX1_init 51 = .ok (.putfield 28, 3) := by decide +kernel
theorem dX1_init_54 : decode cX1_init 54 = .ok (.return_, 1) := by decide +kernel
theorem dX1_copy_0 : decode cX1_copy 0 = .ok (.aload_n 0, 1) := by decide +kernel
theorem dX1_copy_1 : decode cX1_copy 1 = .ok (.aload_n 1, 1) := by decide +kernel
theorem dX1_copy_2 : decode cX1_copy 2 = .ok (.getfield 31, 3) := by decide +kernel
theorem dX1_copy_5 : decode cX1_copy 5 = .ok (.putfield 31, 3) := by decide +kernel
theorem dX1_copy_8 : decode cX1_copy 8 = .ok (.aload_n 0, 1) := by decide +kernel
theorem dX1_copy_9 : decode cX1_copy 9 = .ok (.aload_n 1, 1) := by decide +kernel
theorem dX1_copy_10 : decode cX1_copy 10 = .ok (.getfield 35, 3) := by decide +kernel
theorem dX1_copy_13 : decode cX1_copy 13 = .ok (.putfield 35, 3) := by decide +kernel
theorem dX1_copy_16 : decode cX1_copy 16 = .ok (.aload_n 1, 1) := by decide +kernel
theorem dX1_copy_17 : decode cX1_copy 17 = .ok (.getfield 11, 3) := by decide +kernel
theorem dX1_copy_20 : decode cX1_copy 20 = .ok (.iconst 0, 1) := by decide +kernel
theorem dX1_copy_21 : decode cX1_copy 21 = .ok (.aload_n 0, 1) := by decide +kernel
theorem dX1_copy_22 : decode cX1_copy 22 = .ok (.getfield 11, 3) := by decide +kernel
theorem dX1_copy_25 : decode cX1_copy 25 = .ok (.iconst 0, 1) := by decide +kernel
theorem dX1_copy_26 : decode cX1_copy 26 = .ok (.bipush 12, 2) := by decide +kernel
theorem dX1_copy_28 : decode cX1_copy 28 = .ok (.invokestatic 38, 3) := by decide +kernel
theorem dX1_copy_31 : decode cX1_copy 31 = .ok (.aload_n 1, 1) := by decide +kernel
theorem dX1_copy_32 : decode cX1_copy 32 = .ok (.getfield 15, 3) := by decide +kernel
theorem dX1_copy_35 : decode cX1_copy 35 = .ok (.iconst 0, 1) := by decide +kernel
theorem dX1_copy_36 : decode cX1_copy 36 = .ok (.aload_n 0, 1) := by decide +kernel
theorem dX1_copy_37 : decode cX1_copy 37 = .ok (.getfield 15, 3) := by decide +kernel
theorem dX1_copy_40 : decode cX1_copy 40 = .ok (.iconst 0, 1) := by decide +kernel
theorem dX1_copy_41 : decode cX1_copy 41 = .ok (.bipush 12, 2) := by decide +kernel
theorem dX1_copy_43 : decode cX1_copy 43 = .ok (.invokestatic 38, 3) := by decide +kernel
theorem dX1_copy_46 : decode cX1_copy 46 = .ok (.aload_n 1, 1) := by decide +kernel
theorem dX1_copy_47 : decode cX1_copy 47 = .ok (.getfield 18, 3) := by decide +kernel
theorem dX1_copy_50 : decode cX1_copy 50 = .ok (.iconst 0, 1) := by decide +kernel
theorem dX1_copy_51 : decode cX1_copy 51 = .ok (.aload_n 0, 1) := by decide +kernel
theorem dX1_copy_52 : decode cX1_copy 52 = .ok (.getfield 18, 3) := by decide +kernel
theorem dX1_copy_55 : decode cX1_copy 55 = .ok (.iconst 0, 1) := by decide +kernel
theorem dX1_copy_56 : decode cX1_copy 56 = .ok (.bipush 12, 2) := by decide +kernel
theorem dX1_copy_58 : decode cX1_copy 58 = .ok (.invokestatic 38, 3) := by decide +kernel
theorem dX1_copy_61 : decode cX1_copy 61 = .ok (.aload_n 1, 1) := by decide +kernel
theorem dX1_copy_62 : decode cX1_copy 62 = .ok (.getfield 22, 3) := by decide +kernel
theorem dX1_copy_65 : decode cX1_copy 65 = .ok (.iconst 0, 1) := by decide +kernel
theorem dX1_copy_66 : decode cX1_copy 66 = .ok (.aload_n 0, 1) := by decide +kernel
theorem dX1_copy_67 : decode cX1_copy 67 = .ok (.getfield 22, 3) := by decide +kernel
theorem dX1_copy_70 : decode cX1_copy 70 = .ok (.iconst 0, 1) := by decide +kernel
theorem dX1_copy_71 : decode cX1_copy 71 = .ok (.bipush 12, 2) := by decide +kernel
theorem dX1_copy_73 : decode cX1_copy 73 = .ok (.invokestatic 38, 3) := by decide +kernel
theorem dX1_copy_76 : decode cX1_copy 76 = .ok (.aload_n 1, 1) := by decide +kernel
theorem dX1_copy_77 : decode cX1_copy 77 = .ok (.getfield 25, 3) := by decide +kernel
theorem dX1_copy_80 : decode cX1_copy 80 = .ok (.iconst 0, 1) := by decide +kernel
theorem dX1_copy_81 : decode cX1_copy 81 = .ok (.aload_n 0, 1) := by decide +kernel
theorem dX1_copy_82 : decode cX1_copy 82 = .ok (.getfield 25, 3) := by decide +kernel
theorem dX1_copy_85 : decode cX1_copy 85 = .ok (.iconst 0, 1) := by decide +kernel
theorem dX1_copy_86 : decode cX1_copy 86 = .ok (.sipush 200, 3) := by decide +kernel
theorem dX1_copy_89 : decode cX1_copy 89 = .ok (.invokestatic 38, 3) := by decide +kernel
theorem dX1_copy_92 : decode cX1_copy 92 = .ok (.aload_n 1, 1) := by decide +kernel
theorem dX1_copy_93 : decode cX1_copy 93 = .ok (.getfield 28, 3) := by decide +kernel
theorem dX1_copy_96 : decode cX1_copy 96 = .ok (.iconst 0, 1) := by decide +kernel
theorem dX1_copy_97 : decode cX1_copy 97 = .ok (.aload_n 0, 1) := by decide +kernel
theorem dX1_copy_98 : decode cX1_copy 98 = .ok (.getfield 28, 3) := by decide +kernel
theorem dX1_copy_101 : decode cX1_copy 101 = .ok (.iconst 0, 1) := by decide +kernel
theorem dX1_copy_102 : decode cX1_copy 102 = .ok (.sipush 200, 3) := by decide +kernel
theorem dX1_copy_105 : decode cX1_copy 105 = .ok (.invokestatic 38, 3) := by decide +kernel
theorem dX1_copy_108 : decode cX1_copy 108 = .ok (.return_, 1) := by decide +kernel
theorem dX1_clear_0 : decode cX1_clear 0 = .ok (.aload_n 0, 1) := by decide +kernel
theorem dX1_clear_1 : decode cX1_clear 1 = .ok (.iconst 0, 1) := by decide +kernel
theorem dX1_clear_2 : decode cX1_clear 2 = .ok (.putfield 31, 3) := by decide +kernel
theorem dX1_clear_5 : decode cX1_clear 5 = .ok (.aload_n 0, 1) := by decide +kernel
theorem dX1_clear_6 : decode cX1_clear 6 = .ok (.iconst 0, 1) := by decide +kernel
theorem dX1_clear_7 : decode cX1_clear 7 = .ok (.putfield 35, 3) := by decide +kernel
theorem dX1_clear_10 : decode cX1_clear 10 = .ok (.return_, 1) := by decide +kernel
theorem dX1_emit_0 : decode cX1_emit 0 = .ok (.aload_n 0, 1) := by decide +kernel
theorem dX1_emit_1 : decode cX1_emit 1 = .ok (.getfield 35, 3) := by decide +kernel
theorem dX1_emit_4 : decode cX1_emit 4 = .ok (.sipush 200, 3) := by decide +kernel
theorem dX1_emit_7 : decode cX1_emit 7 = .ok (.if_icmp .lt 4, 3) := by decide +kernel
theorem dX1_emit_10 : decode cX1_emit 10 = .ok (.return_, 1) := by decide +kernel
theorem dX1_emit_11 : decode cX1_emit 11 = .ok (.aload_n 0, 1) := by decide +kernel
theorem dX1_emit_12 : decode cX1_emit 12 = .ok (.getfield 25, 3) := by decide +kernel
theorem dX1_emit_15 : decode cX1_emit 15 = .ok (.aload_n 0, 1) := by decide +kernel
theorem dX1_emit_16 : decode cX1_emit 16 = .ok (.getfield 35, 3) := by decide +kernel
theorem dX1_emit_19 : decode cX1_emit 19 = .ok (.iload_n 1, 1) := by decide +kernel
theorem dX1_emit_20 : decode cX1_emit 20 = .ok (.iastore, 1) := by decide +kernel
theorem dX1_emit_21 : decode cX1_emit 21 = .ok (.aload_n 0, 1) := by decide +kernel
theorem dX1_emit_22 : decode cX1_emit 22 = .ok (.getfield 28, 3) := by decide +kernel
theorem dX1_emit_25 : decode cX1_emit 25 = .ok (.aload_n 0, 1) := by decide +kernel
theorem dX1_emit_26 : decode cX1_emit 26 = .ok (.getfield 35, 3) := by decide +kernel
theorem dX1_emit_29 : decode cX1_emit 29 = .ok (.iload_n 2, 1) := by decide +kernel
theorem dX1_emit_30 : decode cX1_emit 30 = .ok (.iastore, 1) := by decide +kernel
theorem dX1_emit_31 : decode cX1_emit 31 = .ok (.aload_n 0, 1) := by decide +kernel
theorem dX1_emit_32 : decode cX1_emit 32 = .ok (.dup, 1) := by decide +kernel
theorem dX1_emit_33 : decode cX1_emit 33 = .ok (.getfield 35, 3) := by decide +kernel
theorem dX1_emit_36 : decode cX1_emit 36 = .ok (.iconst 1, 1) := by decide +kernel
theorem dX1_emit_37 : decode cX1_emit 37 = .ok (.iadd, 1) := by decide +kernel
theorem dX1_emit_38 : decode cX1_emit 38 = .ok (.putfield 35, 3) := by decide +kernel
theorem dX1_emit_41 : decode cX1_emit 41 = .ok (.return_, 1) := by decide +kernel
theorem dX1_put_0 : decode cX1_put 0 = .ok (.aload_n 0, 1) := by decide +kernel
theorem dX1_put_1 : decode cX1_put 1 = .ok (.getfield 31, 3) := by decide +kernel
theorem dX1_put_4 : decode cX1_put 4 = .ok (.bipush 12, 2) := by decide +kernel
theorem dX1_put_6 : decode cX1_put 6 = .ok (.if_icmp .lt 4, 3) := by decide +kernel
theorem dX1_put_9 : decode cX1_put 9 = .ok (.return_, 1) := by decide +kernel
theorem dX1_put_10 : decode cX1_put 10 = .ok (.aload_n 0, 1) := by decide +kernel
theorem dX1_put_11 : decode cX1_put 11 = .ok (.getfield 11, 3) := by decide +kernel
theorem dX1_put_14 : decode cX1_put 14 = .ok (.aload_n 0, 1) := by decide +kernel
theorem dX1_put_15 : decode cX1_put 15 = .ok (.getfield 31, 3) := by decide +kernel
theorem dX1_put_18 : decode cX1_put 18 = .ok (.lload_n 1, 1) := by decide +kernel
theorem dX1_put_19 : decode cX1_put 19 = .ok (.lastore, 1) := by decide +kernel
theorem dX1_put_20 : decode cX1_put 20 = .ok (.aload_n 0, 1) := by decide +kernel
theorem dX1_put_21 : decode cX1_put 21 = .ok (.getfield 15, 3) := by decide +kernel
theorem dX1_put_24 : decode cX1_put 24 = .ok (.aload_n 0, 1) := by decide +kernel
theorem dX1_put_25 : decode cX1_put 25 = .ok (.getfield 31, 3) := by decide +kernel
theorem dX1_put_28 : decode cX1_put 28 = .ok (.lload_n 3, 1) := by decide +kernel
theorem dX1_put_29 : decode cX1_put 29 = .ok (.lastore, 1) := by decide +kernel
theorem dX1_put_30 : decode cX1_put 30 = .ok (.aload_n 0, 1) := by decide +kernel
theorem dX1_put_31 : decode cX1_put 31 = .ok (.getfield 18, 3) := by decide +kernel
theorem dX1_put_34 : decode cX1_put 34 = .ok (.aload_n 0, 1) := by decide +kernel
theorem dX1_put_35 : decode cX1_put 35 = .ok (.getfield 31, 3) := by decide +kernel
theorem dX1_put_38 : decode cX1_put 38 = .ok (.iload 5, 2) := by decide +kernel
theorem dX1_put_40 : decode cX1_put 40 = .ok (.iastore, 1) := by decide +kernel
theorem dX1_put_41 : decode cX1_put 41 = .ok (.aload_n 0, 1) := by decide +kernel
theorem dX1_put_42 : decode cX1_put 42 = .ok (.getfield 22, 3) := by decide +kernel
theorem dX1_put_45 : decode cX1_put 45 = .ok (.aload_n 0, 1) := by decide +kernel
theorem dX1_put_46 : decode cX1_put 46 = .ok (.getfield 31, 3) := by decide +kernel
theorem dX1_put_49 : decode cX1_put 49 = .ok (.aload_n 0, 1) := by decide +kernel
theorem dX1_put_50 : decode cX1_put 50 = .ok (.getfield 35, 3) := by decide +kernel
theorem dX1_put_53 : decode cX1_put 53 = .ok (.iastore, 1) := by decide +kernel
theorem dX1_put_54 : decode cX1_put 54 = .ok (.aload_n 0, 1) := by decide +kernel
theorem dX1_put_55 : decode cX1_put 55 = .ok (.dup, 1) := by decide +kernel
theorem dX1_put_56 : decode cX1_put 56 = .ok (.getfield 31, 3) := by decide +kernel
theorem dX1_put_59 : decode cX1_put 59 = .ok (.iconst 1, 1) := by decide +kernel
theorem dX1_put_60 : decode cX1_put 60 = .ok (.iadd, 1) := by decide +kernel
theorem dX1_put_61 : decode cX1_put 61 = .ok (.putfield 31, 3) := by decide +kernel
theorem dX1_put_64 : decode cX1_put 64 = .ok (.return_, 1) := by decide +kernel
theorem dX1_smooth_0 : decode cX1_smooth 0 = .ok (.lload_n 1, 1) := by decide +kernel
theorem dX1_smooth_1 : decode cX1_smooth 1 = .ok (.lstore 4, 2) := by decide +kernel
theorem dX1_smooth_3 : decode cX1_smooth 3 = .ok (.iconst 0, 1) := by decide +kernel
theorem dX1_smooth_4 : decode cX1_smooth 4 = .ok (.istore 6, 2) := by decide +kernel
theorem dX1_smooth_6 : decode cX1_smooth 6 = .ok (.iload 6, 2) := by decide +kernel
theorem dX1_smooth_8 : decode cX1_smooth 8 = .ok (.bipush 12, 2) := by decide +kernel
theorem dX1_smooth_10 : decode cX1_smooth 10 = .ok (.if_icmp .ge 33, 3) := by decide +kernel
theorem dX1_smooth_13 : decode cX1_smooth 13 = .ok (.aload_n 0, 1) := by decide +kernel
theorem dX1_smooth_14 : decode cX1_smooth 14 = .ok (.lload 4, 2) := by decide +kernel
theorem dX1_smooth_16 : decode cX1_smooth 16 = .ok (.iload_n 3, 1) := by decide +kernel
theorem dX1_smooth_17 : decode cX1_smooth 17 = .ok (.invokevirtual 44, 3) := by decide +kernel
theorem dX1_smooth_20 : decode cX1_smooth 20 = .ok (.lstore 7, 2) := by decide +kernel
theorem dX1_smooth_22 : decode cX1_smooth 22 = .ok (.lload 7, 2) := by decide +kernel
theorem dX1_smooth_24 : decode cX1_smooth 24 = .ok (.lload 4, 2) := by decide +kernel
theorem dX1_smooth_26 : decode cX1_smooth 26 = .ok (.lcmp, 1) := by decide +kernel
theorem dX1_smooth_27 : decode cX1_smooth 27 = .ok (.ifCond .ne 6, 3) := by decide +kernel
theorem dX1_smooth_30 : decode cX1_smooth 30 = .ok (.lload 4, 2) := by decide +kernel
theorem dX1_smooth_32 : decode cX1_smooth 32 = .ok (.lreturn, 1) := by decide +kernel
theorem dX1_smooth_33 : decode cX1_smooth 33 = .ok (.lload 7, 2) := by decide +kernel
theorem dX1_smooth_35 : decode cX1_smooth 35 = .ok (.lstore 4, 2) := by decide +kernel
theorem dX1_smooth_37 : decode cX1_smooth 37 = .ok (.iinc 6 1, 3) := by decide +kernel
theorem dX1_smooth_40 : decode cX1_smooth 40 = .ok (.goto (-34), 3) := by decide +kernel
theorem dX1_smooth_43 : decode cX1_smooth 43 = .ok (.lload 4, 2) := by decide +kernel
theorem dX1_smooth_45 : decode cX1_smooth 45 = .ok (.lreturn, 1) := by decide +kernel
theorem dX1_step_0 : decode cX1_step 0 = .ok (.iconst 0, 1) := by decide +kernel
theorem dX1_step_1 : decode cX1_step 1 = .ok (.istore 4, 2) := by decide +kernel
theorem dX1_step_3 : decode cX1_step 3 = .ok (.iload 4, 2) := by decide +kernel
theorem dX1_step_5 : decode cX1_step 5 = .ok (.aload_n 0, 1) := by decide +kernel
theorem dX1_step_6 : decode cX1_step 6 = .ok (.getfield 31, 3) := by decide +kernel
theorem dX1_step_9 : decode cX1_step 9 = .ok (.if_icmp .ge 49, 3) := by decide +kernel
theorem dX1_step_12 : decode cX1_step 12 = .ok (.iload 4, 2) := by decide +kernel
theorem dX1_step_14 : decode cX1_step 14 = .ok (.bipush 12, 2) := by decide +kernel
theorem dX1_step_16 : decode cX1_step 16 = .ok (.if_icmp .ge 42, 3) := by decide +kernel
theorem dX1_step_19 : decode cX1_step 19 = .ok (.aload_n 0, 1) := by decide +kernel
theorem dX1_step_20 : decode cX1_step 20 = .ok (.iload 4, 2) := by decide +kernel
theorem dX1_step_22 : decode cX1_step 22 = .ok (.lload_n 1, 1) := by decide +kernel
theorem dX1_step_23 : decode cX1_step 23 = .ok (.iload_n 3, 1) := by decide +kernel
theorem dX1_step_24 : decode cX1_step 24 = .ok (.invokevirtual 48, 3) := by decide +kernel
theorem dX1_step_27 : decode cX1_step 27 = .ok (.ifCond .ne 6, 3) := by decide +kernel
theorem dX1_step_30 : decode cX1_step 30 = .ok (.goto 22, 3) := by decide +kernel
theorem dX1_step_33 : decode cX1_step 33 = .ok (.aload_n 0, 1) := by decide +kernel
theorem dX1_step_34 : decode cX1_step 34 = .ok (.iload 4, 2) := by decide +kernel
theorem dX1_step_36 : decode cX1_step 36 = .ok (.lload_n 1, 1) := by decide +kernel
theorem dX1_step_37 : decode cX1_step 37 = .ok (.invokevirtual 52, 3) := by decide +kernel
theorem dX1_step_40 : decode cX1_step 40 = .ok (.lstore 5, 2) := by decide +kernel
theorem dX1_step_42 : decode cX1_step 42 = .ok (.lload 5, 2) := by decide +kernel
theorem dX1_step_44 : decode cX1_step 44 = .ok (.lload_n 1, 1) := by decide +kernel
theorem dX1_step_45 : decode cX1_step 45 = .ok (.lcmp, 1) := by decide +kernel
theorem dX1_step_46 : decode cX1_step 46 = .ok (.ifCond .eq 6, 3) := by decide +kernel
theorem dX1_step_49 : decode cX1_step 49 = .ok (.lload 5, 2) := by decide +kernel
theorem dX1_step_51 : decode cX1_step 51 = .ok (.lreturn, 1) := by decide +kernel
theorem dX1_step_52 : decode cX1_step 52 = .ok (.iinc 4 1, 3) := by decide +kernel
theorem dX1_step_55 : decode cX1_step 55 = .ok (.goto (-52), 3) := by decide +kernel
theorem dX1_step_58 : decode cX1_step 58 = .ok (.lload_n 1, 1) := by decide +kernel
theorem dX1_step_59 : decode cX1_step 59 = .ok (.lreturn, 1) := by decide +kernel
theorem dX1_replaced_0 : decode cX1_replaced 0 = .ok (.aload_n 0, 1) := by decide +kernel
theorem dX1_replaced_1 : decode cX1_replaced 1 = .ok (.getfield 11, 3) := by decide +kernel
theorem dX1_replaced_4 : decode cX1_replaced 4 = .ok (.iload_n 1, 1) := by decide +kernel
theorem dX1_replaced_5 : decode cX1_replaced 5 = .ok (.laload, 1) := by decide +kernel
theorem dX1_replaced_6 : decode cX1_replaced 6 = .ok (.invokestatic 56, 3) := by decide +kernel
theorem dX1_replaced_9 : decode cX1_replaced 9 = .ok (.istore 4, 2) := by decide +kernel
theorem dX1_replaced_11 : decode cX1_replaced 11 = .ok (.aload_n 0, 1) := by decide +kernel
theorem dX1_replaced_12 : decode cX1_replaced 12 = .ok (.getfield 15, 3) := by decide +kernel
theorem dX1_replaced_15 : decode cX1_replaced 15 = .ok (.iload_n 1, 1) := by decide +kernel
theorem dX1_replaced_16 : decode cX1_replaced 16 = .ok (.laload, 1) := by decide +kernel
theorem dX1_replaced_17 : decode cX1_replaced 17 = .ok (.invokestatic 56, 3) := by decide +kernel
theorem dX1_replaced_20 : decode cX1_replaced 20 = .ok (.istore 5, 2) := by decide +kernel
theorem dX1_replaced_22 : decode cX1_replaced 22 = .ok (.lload_n 2, 1) := by decide +kernel
theorem dX1_replaced_23 : decode cX1_replaced 23 = .ok (.invokestatic 56, 3) := by decide +kernel
theorem dX1_replaced_26 : decode cX1_replaced 26 = .ok (.istore 6, 2) := by decide +kernel
theorem dX1_replaced_28 : decode cX1_replaced 28 = .ok (.iload 6, 2) := by decide +kernel
theorem dX1_replaced_30 : decode cX1_replaced 30 = .ok (.iload 4, 2) := by decide +kernel
theorem dX1_replaced_32 : decode cX1_replaced 32 = .ok (.isub, 1) := by decide +kernel
theorem dX1_replaced_33 : decode cX1_replaced 33 = .ok (.iload 5, 2) := by decide +kernel
theorem dX1_replaced_35 : decode cX1_replaced 35 = .ok (.iadd, 1) := by decide +kernel
theorem dX1_replaced_36 : decode cX1_replaced 36 = .ok (.bipush 8, 2) := by decide +kernel
theorem dX1_replaced_38 : decode cX1_replaced 38 = .ok (.if_icmp .le 5, 3) := by decide +kernel
theorem dX1_replaced_41 : decode cX1_replaced 41 = .ok (.lload_n 2, 1) := by decide +kernel
theorem dX1_replaced_42 : decode cX1_replaced 42 = .ok (.lreturn, 1) := by decide +kernel
theorem dX1_replaced_43 : decode cX1_replaced 43 = .ok (.iconst 0, 1) := by decide +kernel
theorem dX1_replaced_44 : decode cX1_replaced 44 = .ok (.istore 7, 2) := by decide +kernel
theorem dX1_replaced_46 : decode cX1_replaced 46 = .ok (.iload 7, 2) := by decide +kernel
theorem dX1_replaced_48 : decode cX1_replaced 48 = .ok (.iload 4, 2) := by decide +kernel
theorem dX1_replaced_50 : decode cX1_replaced 50 = .ok (.iadd, 1) := by decide +kernel
theorem dX1_replaced_51 : decode cX1_replaced 51 = .ok (.iload 6, 2) := by decide +kernel
theorem dX1_replaced_53 : decode cX1_replaced 53 = .ok (.if_icmp .gt 71, 3) := by decide +kernel
theorem dX1_replaced_56 : decode cX1_replaced 56 = .ok (.lload_n 2, 1) := by decide +kernel
theorem dX1_replaced_57 : decode cX1_replaced 57 = .ok (.iload 7, 2) := by decide +kernel
theorem dX1_replaced_59 : decode cX1_replaced 59 = .ok (.invokestatic 62, 3) := by decide +kernel
theorem dX1_replaced_62 : decode cX1_replaced 62 = .ok (.iload 4, 2) := by decide +kernel
theorem dX1_replaced_64 : decode cX1_replaced 64 = .ok (.invokestatic 65, 3) := by decide +kernel
theorem dX1_replaced_67 : decode cX1_replaced 67 = .ok (.aload_n 0, 1) := by decide +kernel
theorem dX1_replaced_68 : decode cX1_replaced 68 = .ok (.getfield 11, 3) := by decide +kernel
theorem dX1_replaced_71 : decode cX1_replaced 71 = .ok (.iload_n 1, 1) := by decide +kernel
theorem dX1_replaced_72 : decode cX1_replaced 72 = .ok (.laload, 1) := by decide +kernel
theorem dX1_replaced_73 : decode cX1_replaced 73 = .ok (.lcmp, 1) := by decide +kernel
theorem dX1_replaced_74 : decode cX1_replaced 74 = .ok (.ifCond .ne 44, 3) := by decide +kernel
theorem dX1_replaced_77 : decode cX1_replaced 77 = .ok (.lload_n 2, 1) := by decide +kernel
theorem dX1_replaced_78 : decode cX1_replaced 78 = .ok (.iload 7, 2) := by decide +kernel
theorem dX1_replaced_80 : decode cX1_replaced 80 = .ok (.iload 4, 2) := by decide +kernel
theorem dX1_replaced_82 : decode cX1_replaced 82 = .ok (.iadd, 1) := by decide +kernel
theorem dX1_replaced_83 : decode cX1_replaced 83 = .ok (.invokestatic 62, 3) := by decide +kernel
theorem dX1_replaced_86 : decode cX1_replaced 86 = .ok (.lstore 8, 2) := by decide +kernel
theorem dX1_replaced_88 : decode cX1_replaced 88 = .ok (.lload_n 2, 1) := by decide +kernel
theorem dX1_replaced_89 : decode cX1_replaced 89 = .ok (.iload 7, 2) := by decide +kernel
theorem dX1_replaced_91 : decode cX1_replaced 91 = .ok (.invokestatic 65, 3) := by decide +kernel
theorem dX1_replaced_94 : decode cX1_replaced 94 = .ok (.aload_n 0, 1) := by decide +kernel
theorem dX1_replaced_95 : decode cX1_replaced 95 = .ok (.getfield 15, 3) := by decide +kernel
theorem dX1_replaced_98 : decode cX1_replaced 98 = .ok (.iload_n 1, 1) := by decide +kernel
theorem dX1_replaced_99 : decode cX1_replaced 99 = .ok (.laload, 1) := by decide +kernel
theorem dX1_replaced_100 : decode cX1_replaced 100 = .ok (.iload 7, 2) := by decide +kernel
theorem dX1_replaced_102 : decode cX1_replaced 102 = .ok (.invokestatic 68, 3) := by decide +kernel
theorem dX1_replaced_105 : decode cX1_replaced 105 = .ok (.lor, 1) := by decide +kernel
theorem dX1_replaced_106 : decode cX1_replaced 106 = .ok (.lload 8, 2) := by decide +kernel
theorem dX1_replaced_108 : decode cX1_replaced 108 = .ok (.iload 7, 2) := by decide +kernel
theorem dX1_replaced_110 : decode cX1_replaced 110 = .ok (.iload 5, 2) := by decide +kernel
theorem dX1_replaced_112 : decode cX1_replaced 112 = .ok (.iadd, 1) := by decide +kernel
theorem dX1_replaced_113 : decode cX1_replaced 113 = .ok (.invokestatic 68, 3) := by decide +kernel
theorem dX1_replaced_116 : decode cX1_replaced 116 = .ok (.lor, 1) := by decide +kernel
theorem dX1_replaced_117 : decode cX1_replaced 117 = .ok (.lreturn, 1) := by decide +kernel
theorem dX1_replaced_118 : decode cX1_replaced 118 = .ok (.iinc 7 1, 3) := by decide +kernel
theorem dX1_replaced_121 : decode cX1_replaced 121 = .ok (.goto (-75), 3) := by decide +kernel
theorem dX1_replaced_124 : decode cX1_replaced 124 = .ok (.lload_n 2, 1) := by decide +kernel
theorem dX1_replaced_125 : decode cX1_replaced 125 = .ok (.lreturn, 1) := by decide +kernel
theorem dX1_holds_0 : decode cX1_holds 0 = .ok (.aload_n 0, 1) := by decide +kernel
theorem dX1_holds_1 : decode cX1_holds 1 = .ok (.getfield 18, 3) := by decide +kernel
theorem dX1_holds_4 : decode cX1_holds 4 = .ok (.iload_n 1, 1) := by decide +kernel
theorem dX1_holds_5 : decode cX1_holds 5 = .ok (.iaload, 1) := by decide +kernel
theorem dX1_holds_6 : decode cX1_holds 6 = .ok (.aload_n 0, 1) := by decide +kernel
theorem dX1_holds_7 : decode cX1_holds 7 = .ok (.getfield 22, 3) := by decide +kernel
theorem dX1_holds_10 : decode cX1_holds 10 = .ok (.iload_n 1, 1) := by decide +kernel
theorem dX1_holds_11 : decode cX1_holds 11 = .ok (.iaload, 1) := by decide +kernel
theorem dX1_holds_12 : decode cX1_holds 12 = .ok (.if_icmp .lt 5, 3) := by decide +kernel
theorem dX1_holds_15 : decode cX1_holds 15 = .ok (.iconst 1, 1) := by decide +kernel
theorem dX1_holds_16 : decode cX1_holds 16 = .ok (.ireturn, 1) := by decide +kernel
theorem dX1_holds_17 : decode cX1_holds 17 = .ok (.lconst 0, 1) := by decide +kernel
theorem dX1_holds_18 : decode cX1_holds 18 = .ok (.lstore 5, 2) := by decide +kernel
theorem dX1_holds_20 : decode cX1_holds 20 = .ok (.aload_n 0, 1) := by decide +kernel
theorem dX1_holds_21 : decode cX1_holds 21 = .ok (.getfield 18, 3) := by decide +kernel
theorem dX1_holds_24 : decode cX1_holds 24 = .ok (.iload_n 1, 1) := by decide +kernel
theorem dX1_holds_25 : decode cX1_holds 25 = .ok (.iaload, 1) := by decide +kernel
theorem dX1_holds_26 : decode cX1_holds 26 = .ok (.istore 7, 2) := by decide +kernel
theorem dX1_holds_28 : decode cX1_holds 28 = .ok (.iload 7, 2) := by decide +kernel
theorem dX1_holds_30 : decode cX1_holds 30 = .ok (.aload_n 0, 1) := by decide +kernel
theorem dX1_holds_31 : decode cX1_holds 31 = .ok (.getfield 22, 3) := by decide +kernel
theorem dX1_holds_34 : decode cX1_holds 34 = .ok (.iload_n 1, 1) := by decide +kernel
theorem dX1_holds_35 : decode cX1_holds 35 = .ok (.iaload, 1) := by decide +kernel
theorem dX1_holds_36 : decode cX1_holds 36 = .ok (.if_icmp .ge 30, 3) := by decide +kernel
theorem dX1_holds_39 : decode cX1_holds 39 = .ok (.iload 7, 2) := by decide +kernel
theorem dX1_holds_41 : decode cX1_holds 41 = .ok (.sipush 200, 3) := by decide +kernel
theorem dX1_holds_44 : decode cX1_holds 44 = .ok (.if_icmp .ge 22, 3) := by decide +kernel
theorem dX1_holds_47 : decode cX1_holds 47 = .ok (.aload_n 0, 1) := by decide +kernel
theorem dX1_holds_48 : decode cX1_holds 48 = .ok (.lload 5, 2) := by decide +kernel
theorem dX1_holds_50 : decode cX1_holds 50 = .ok (.iload 7, 2) := by decide +kernel
theorem dX1_holds_52 : decode cX1_holds 52 = .ok (.lload_n 2, 1) := by decide +kernel
theorem dX1_holds_53 : decode cX1_holds 53 = .ok (.iload 4, 2) := by decide +kernel
theorem dX1_holds_55 : decode cX1_holds 55 = .ok (.invokevirtual 71, 3) := by decide +kernel
theorem dX1_holds_58 : decode cX1_holds 58 = .ok (.lstore 5, 2) := by decide +kernel
theorem dX1_holds_60 : decode cX1_holds 60 = .ok (.iinc 7 1, 3) := by decide +kernel
theorem dX1_holds_63 : decode cX1_holds 63 = .ok (.goto (-35), 3) := by decide +kernel
theorem dX1_holds_66 : decode cX1_holds 66 = .ok (.lload 5, 2) := by decide +kernel
theorem dX1_holds_68 : decode cX1_holds 68 = .ok (.lconst 1, 1) := by decide +kernel
theorem dX1_holds_69 : decode cX1_holds 69 = .ok (.land, 1) := by decide +kernel
theorem dX1_holds_70 : decode cX1_holds 70 = .ok (.lconst 1, 1) := by decide +kernel
theorem dX1_holds_71 : decode cX1_holds 71 = .ok (.lcmp, 1) := by decide +kernel
theorem dX1_holds_72 : decode cX1_holds 72 = .ok (.ifCond .ne 7, 3) := by decide +kernel
theorem dX1_holds_75 : decode cX1_holds 75 = .ok (.iconst 1, 1) := by decide +kernel
theorem dX1_holds_76 : decode cX1_holds 76 = .ok (.goto 4, 3) := by decide +kernel
theorem dX1_holds_79 : decode cX1_holds 79 = .ok (.iconst 0, 1) := by decide +kernel
theorem dX1_holds_80 : decode cX1_holds 80 = .ok (.ireturn, 1) := by decide +kernel
theorem dX1_taken_0 : decode cX1_taken 0 = .ok (.aload_n 0, 1) := by decide +kernel
theorem dX1_taken_1 : decode cX1_taken 1 = .ok (.getfield 25, 3) := by decide +kernel
theorem dX1_taken_4 : decode cX1_taken 4 = .ok (.iload_n 3, 1) := by decide +kernel
theorem dX1_taken_5 : decode cX1_taken 5 = .ok (.iaload, 1) := by decide +kernel
theorem dX1_taken_6 : decode cX1_taken 6 = .ok (.tableswitch 106 8 12 #[48, 38, 34, 56, 81], 34) := by decide +kernel
theorem dX1_taken_40 : decode cX1_taken 40 = .ok (.lload_n 1, 1) := by decide +kernel
theorem dX1_taken_41 : decode cX1_taken 41 = .ok (.lconst 1, 1) := by decide +kernel
theorem dX1_taken_42 : decode cX1_taken 42 = .ok (.lxor, 1) := by decide +kernel
theorem dX1_taken_43 : decode cX1_taken 43 = .ok (.lreturn, 1) := by decide +kernel
theorem dX1_taken_44 : decode cX1_taken 44 = .ok (.lload_n 1, 1) := by decide +kernel
theorem dX1_taken_45 : decode cX1_taken 45 = .ok (.iconst 1, 1) := by decide +kernel
theorem dX1_taken_46 : decode cX1_taken 46 = .ok (.lushr, 1) := by decide +kernel
theorem dX1_taken_47 : decode cX1_taken 47 = .ok (.lload_n 1, 1) := by decide +kernel
theorem dX1_taken_48 : decode cX1_taken 48 = .ok (.ldc2_w 75, 3) := by decide +kernel
theorem dX1_taken_51 : decode cX1_taken 51 = .ok (.lor, 1) := by decide +kernel
theorem dX1_taken_52 : decode cX1_taken 52 = .ok (.land, 1) := by decide +kernel
theorem dX1_taken_53 : decode cX1_taken 53 = .ok (.lreturn, 1) := by decide +kernel
theorem dX1_taken_54 : decode cX1_taken 54 = .ok (.lload_n 1, 1) := by decide +kernel
theorem dX1_taken_55 : decode cX1_taken 55 = .ok (.iconst 1, 1) := by decide +kernel
theorem dX1_taken_56 : decode cX1_taken 56 = .ok (.lushr, 1) := by decide +kernel
theorem dX1_taken_57 : decode cX1_taken 57 = .ok (.lload_n 1, 1) := by decide +kernel
theorem dX1_taken_58 : decode cX1_taken 58 = .ok (.lconst 1, 1) := by decide +kernel
theorem dX1_taken_59 : decode cX1_taken 59 = .ok (.land, 1) := by decide +kernel
theorem dX1_taken_60 : decode cX1_taken 60 = .ok (.lor, 1) := by decide +kernel
theorem dX1_taken_61 : decode cX1_taken 61 = .ok (.lreturn, 1) := by decide +kernel
theorem dX1_taken_62 : decode cX1_taken 62 = .ok (.lload_n 1, 1) := by decide +kernel
theorem dX1_taken_63 : decode cX1_taken 63 = .ok (.iconst 1, 1) := by decide +kernel
theorem dX1_taken_64 : decode cX1_taken 64 = .ok (.lshl, 1) := by decide +kernel
theorem dX1_taken_65 : decode cX1_taken 65 = .ok (.lload 4, 2) := by decide +kernel
theorem dX1_taken_67 : decode cX1_taken 67 = .ok (.aload_n 0, 1) := by decide +kernel
theorem dX1_taken_68 : decode cX1_taken 68 = .ok (.getfield 28, 3) := by decide +kernel
theorem dX1_taken_71 : decode cX1_taken 71 = .ok (.iload_n 3, 1) := by decide +kernel
theorem dX1_taken_72 : decode cX1_taken 72 = .ok (.iaload, 1) := by decide +kernel
theorem dX1_taken_73 : decode cX1_taken 73 = .ok (.invokestatic 77, 3) := by decide +kernel
theorem dX1_taken_76 : decode cX1_taken 76 = .ok (.ifCond .eq 7, 3) := by decide +kernel
theorem dX1_taken_79 : decode cX1_taken 79 = .ok (.iconst 1, 1) := by decide +kernel
theorem dX1_taken_80 : decode cX1_taken 80 = .ok (.goto 4, 3) := by decide +kernel
theorem dX1_taken_83 : decode cX1_taken 83 = .ok (.iconst 0, 1) := by decide +kernel
theorem dX1_taken_84 : decode cX1_taken 84 = .ok (.i2l, 1) := by decide +kernel
theorem dX1_taken_85 : decode cX1_taken 85 = .ok (.lor, 1) := by decide +kernel
theorem dX1_taken_86 : decode cX1_taken 86 = .ok (.lreturn, 1) := by decide +kernel
theorem dX1_taken_87 : decode cX1_taken 87 = .ok (.lload_n 1, 1) := by decide +kernel
theorem dX1_taken_88 : decode cX1_taken 88 = .ok (.iconst 1, 1) := by decide +kernel
theorem dX1_taken_89 : decode cX1_taken 89 = .ok (.lshl, 1) := by decide +kernel
theorem dX1_taken_90 : decode cX1_taken 90 = .ok (.lload 4, 2) := by decide +kernel
theorem dX1_taken_92 : decode cX1_taken 92 = .ok (.invokestatic 56, 3) := by decide +kernel
theorem dX1_taken_95 : decode cX1_taken 95 = .ok (.aload_n 0, 1) := by decide +kernel
theorem dX1_taken_96 : decode cX1_taken 96 = .ok (.getfield 28, 3) := by decide +kernel
theorem dX1_taken_99 : decode cX1_taken 99 = .ok (.iload_n 3, 1) := by decide +kernel
theorem dX1_taken_100 : decode cX1_taken 100 = .ok (.iaload, 1) := by decide +kernel
theorem dX1_taken_101 : decode cX1_taken 101 = .ok (.if_icmp .lt 7, 3) := by decide +kernel
theorem dX1_taken_104 : decode cX1_taken 104 = .ok (.iconst 1, 1) := by decide +kernel
theorem dX1_taken_105 : decode cX1_taken 105 = .ok (.goto 4, 3) := by decide +kernel
theorem dX1_taken_108 : decode cX1_taken 108 = .ok (.iconst 0, 1) := by decide +kernel
theorem dX1_taken_109 : decode cX1_taken 109 = .ok (.i2l, 1) := by decide +kernel
theorem dX1_taken_110 : decode cX1_taken 110 = .ok (.lor, 1) := by decide +kernel
theorem dX1_taken_111 : decode cX1_taken 111 = .ok (.lreturn, 1) := by decide +kernel
theorem dX1_taken_112 : decode cX1_taken 112 = .ok (.lload_n 1, 1) := by decide +kernel
theorem dX1_taken_113 : decode cX1_taken 113 = .ok (.iconst 1, 1) := by decide +kernel
theorem dX1_taken_114 : decode cX1_taken 114 = .ok (.lshl, 1) := by decide +kernel
theorem dX1_taken_115 : decode cX1_taken 115 = .ok (.iload 6, 2) := by decide +kernel
theorem dX1_taken_117 : decode cX1_taken 117 = .ok (.aload_n 0, 1) := by decide +kernel
theorem dX1_taken_118 : decode cX1_taken 118 = .ok (.getfield 28, 3) := by decide +kernel
theorem dX1_taken_121 : decode cX1_taken 121 = .ok (.iload_n 3, 1) := by decide +kernel
theorem dX1_taken_122 : decode cX1_taken 122 = .ok (.iaload, 1) := by decide +kernel
theorem dX1_taken_123 : decode cX1_taken 123 = .ok (.if_icmp .ne 7, 3) := by decide +kernel
theorem dX1_taken_126 : decode cX1_taken 126 = .ok (.iconst 1, 1) := by decide +kernel
theorem dX1_taken_127 : decode cX1_taken 127 = .ok (.goto 4, 3) := by decide +kernel
theorem dX1_taken_130 : decode cX1_taken 130 = .ok (.iconst 0, 1) := by decide +kernel
theorem dX1_taken_131 : decode cX1_taken 131 = .ok (.i2l, 1) := by decide +kernel
theorem dX1_taken_132 : decode cX1_taken 132 = .ok (.lor, 1) := by decide +kernel
theorem dX1_taken_133 : decode cX1_taken 133 = .ok (.lreturn, 1) := by decide +kernel
theorem dX2_init_0 : decode cX2_init 0 = .ok (.aload_n 0, 1) := by decide +kernel
theorem dX2_init_1 : decode cX2_init 1 = .ok (.invokespecial 3, 3) := by decide +kernel
theorem dX2_init_4 : decode cX2_init 4 = .ok (.aload_n 0, 1) := by decide +kernel
theorem dX2_init_5 : decode cX2_init 5 = .ok (.bipush 12, 2) := by decide +kernel
theorem dX2_init_7 : decode cX2_init 7 = .ok (.newarray .long, 2) := by decide +kernel
theorem dX2_init_9 : decode cX2_init 9 = .ok (.putfield 11, 3) := by decide +kernel
theorem dX2_init_12 : decode cX2_init 12 = .ok (.aload_n 0, 1) := by decide +kernel
theorem dX2_init_13 : decode cX2_init 13 = .ok (.bipush 6, 2) := by decide +kernel
theorem dX2_init_15 : decode cX2_init 15 = .ok (.newarray .int, 2) := by decide +kernel
theorem dX2_init_17 : decode cX2_init 17 = .ok (.putfield 17, 3) := by decide +kernel
theorem dX2_init_20 : decode cX2_init 20 = .ok (.aload_n 0, 1) := by decide +kernel
theorem dX2_init_21 : decode cX2_init 21 = .ok (.aload_n 1, 1) := by decide +kernel
theorem dX2_init_22 : decode cX2_init 22 = .ok (.putfield 21, 3) := by decide +kernel
theorem dX2_init_25 : decode cX2_init 25 = .ok (.return_, 1) := by decide +kernel
theorem dX2_pileOf_0 : decode cX2_pileOf 0 = .ok (.iload_n 1, 1) := by decide +kernel
theorem dX2_pileOf_1 : decode cX2_pileOf 1 = .ok (.bipush 8, 2) := by decide +kernel
theorem dX2_pileOf_3 : decode cX2_pileOf 3 = .ok (.if_icmp .ne 11, 3) := by decide +kernel
theorem dX2_pileOf_6 : decode cX2_pileOf 6 = .ok (.aload_n 0, 1) := by decide +kernel
theorem dX2_pileOf_7 : decode cX2_pileOf 7 = .ok (.getfield 21, 3) := by decide +kernel
theorem dX2_pileOf_10 : decode cX2_pileOf 10 = .ok (.getfield 25, 3) := by decide +kernel
theorem dX2_pileOf_13 : decode cX2_pileOf 13 = .ok (.areturn, 1) := by decide +kernel
theorem dX2_pileOf_14 : decode cX2_pileOf 14 = .ok (.iload_n 1, 1) := by decide +kernel
theorem dX2_pileOf_15 : decode cX2_pileOf 15 = .ok (.iconst 3, 1) := by decide +kernel
theorem dX2_pileOf_16 : decode cX2_pileOf 16 = .ok (.if_icmp .eq 9, 3) := by decide +kernel
theorem dX2_pileOf_19 : decode cX2_pileOf 19 = .ok (.iload_n 1, 1) := by decide +kernel
theorem dX2_pileOf_20 : decode cX2_pileOf 20 = .ok (.bipush 9, 2) := by decide +kernel
theorem dX2_pileOf_22 : decode cX2_pileOf 22 = .ok (.if_icmp .ne 13, 3) := by decide +kernel
theorem dX2_pileOf_25 : decode cX2_pileOf 25 = .ok (.aload_n 0, 1) := by decide +kernel
theorem dX2_pileOf_26 : decode cX2_pileOf 26 = .ok (.getfield 21, 3) := by decide +kernel
theorem dX2_pileOf_29 : decode cX2_pileOf 29 = .ok (.getfield 29, 3) := by decide +kernel
theorem dX2_pileOf_32 : decode cX2_pileOf 32 = .ok (.goto 10, 3) := by decide +kernel
theorem dX2_pileOf_35 : decode cX2_pileOf 35 = .ok (.aload_n 0, 1) := by decide +kernel
theorem dX2_pileOf_36 : decode cX2_pileOf 36 = .ok (.getfield 21, 3) := by decide +kernel
theorem dX2_pileOf_39 : decode cX2_pileOf 39 = .ok (.getfield 32, 3) := by decide +kernel
theorem dX2_pileOf_42 : decode cX2_pileOf 42 = .ok (.areturn, 1) := by decide +kernel
theorem dX2_isAmong_0 : decode cX2_isAmong 0 = .ok (.iload_n 1, 1) := by decide +kernel
theorem dX2_isAmong_1 : decode cX2_isAmong 1 = .ok (.tableswitch 182 0 9 #[55, 88, 121, 182, 182, 182, 121, 130, 182, 147], 55) := by decide +kernel
theorem dX2_isAmong_56 : decode cX2_isAmong 56 = .ok (.aload_n 0, 1) := by decide +kernel
theorem dX2_isAmong_57 : decode cX2_isAmong 57 = .ok (.getfield 21, 3) := by decide +kernel
theorem dX2_isAmong_60 : decode cX2_isAmong 60 = .ok (.iload_n 2, 1) := by decide +kernel
theorem dX2_isAmong_61 : decode cX2_isAmong 61 = .ok (.invokevirtual 35, 3) := by decide +kernel
theorem dX2_isAmong_64 : decode cX2_isAmong 64 = .ok (.ifCond .eq 23, 3) := by decide +kernel
theorem dX2_isAmong_67 : decode cX2_isAmong 67 = .ok (.aload_n 0, 1) := by decide +kernel
theorem dX2_isAmong_68 : decode cX2_isAmong 68 = .ok (.getfield 21, 3) := by decide +kernel
theorem dX2_isAmong_71 : decode cX2_isAmong 71 = .ok (.getfield 32, 3) := by decide +kernel
theorem dX2_isAmong_74 : decode cX2_isAmong 74 = .ok (.getfield 39, 3) := by decide +kernel
theorem dX2_isAmong_77 : decode cX2_isAmong 77 = .ok (.iload_n 2, 1) := by decide +kernel
theorem dX2_isAmong_78 : decode cX2_isAmong 78 = .ok (.iaload, 1) := by decide +kernel
theorem dX2_isAmong_79 : decode cX2_isAmong 79 = .ok (.iload_n 3, 1) := by decide +kernel
theorem dX2_isAmong_80 : decode cX2_isAmong 80 = .ok (.if_icmp .ne 7, 3) := by decide +kernel
theorem dX2_isAmong_83 : decode cX2_isAmong 83 = .ok (.iconst 1, 1) := by decide +kernel
theorem dX2_isAmong_84 : decode cX2_isAmong 84 = .ok (.goto 4, 3) := by decide +kernel
theorem dX2_isAmong_87 : decode cX2_isAmong 87 = .ok (.iconst 0, 1) := by decide +kernel
theorem dX2_isAmong_88 : decode cX2_isAmong 88 = .ok (.ireturn, 1) := by decide +kernel
theorem dX2_isAmong_89 : decode cX2_isAmong 89 = .ok (.aload_n 0, 1) := by decide +kernel
theorem dX2_isAmong_90 : decode cX2_isAmong 90 = .ok (.getfield 21, 3) := by decide +kernel
theorem dX2_isAmong_93 : decode cX2_isAmong 93 = .ok (.iload_n 2, 1) := by decide +kernel
theorem dX2_isAmong_94 : decode cX2_isAmong 94 = .ok (.invokevirtual 35, 3) := by decide +kernel
theorem dX2_isAmong_97 : decode cX2_isAmong 97 = .ok (.ifCond .eq 23, 3) := by decide +kernel
theorem dX2_isAmong_100 : decode cX2_isAmong 100 = .ok (.aload_n 0, 1) := by decide +kernel
theorem dX2_isAmong_101 : decode cX2_isAmong 101 = .ok (.getfield 21, 3) := by decide +kernel
theorem dX2_isAmong_104 : decode cX2_isAmong 104 = .ok (.getfield 32, 3) := by decide +kernel
theorem dX2_isAmong_107 : decode cX2_isAmong 107 = .ok (.getfield 39, 3) := by decide +kernel
theorem dX2_isAmong_110 : decode cX2_isAmong 110 = .ok (.iload_n 2, 1) := by decide +kernel
theorem dX2_isAmong_111 : decode cX2_isAmong 111 = .ok (.iaload, 1) := by decide +kernel
theorem dX2_isAmong_112 : decode cX2_isAmong 112 = .ok (.iload_n 3, 1) := by decide +kernel
theorem dX2_isAmong_113 : decode cX2_isAmong 113 = .ok (.if_icmp .eq 7, 3) := by decide +kernel
theorem dX2_isAmong_116 : decode cX2_isAmong 116 = .ok (.iconst 1, 1) := by decide +kernel
theorem dX2_isAmong_117 : decode cX2_isAmong 117 = .ok (.goto 4, 3) := by decide +kernel
theorem dX2_isAmong_120 : decode cX2_isAmong 120 = .ok (.iconst 0, 1) := by decide +kernel
theorem dX2_isAmong_121 : decode cX2_isAmong 121 = .ok (.ireturn, 1) := by decide +kernel
theorem dX2_isAmong_122 : decode cX2_isAmong 122 = .ok (.aload_n 0, 1) := by decide +kernel
theorem dX2_isAmong_123 : decode cX2_isAmong 123 = .ok (.getfield 21, 3) := by decide +kernel
theorem dX2_isAmong_126 : decode cX2_isAmong 126 = .ok (.iload_n 2, 1) := by decide +kernel
theorem dX2_isAmong_127 : decode cX2_isAmong 127 = .ok (.invokevirtual 35, 3) := by decide +kernel
theorem dX2_isAmong_130 : decode cX2_isAmong 130 = .ok (.ireturn, 1) := by decide +kernel
theorem dX2_isAmong_131 : decode cX2_isAmong 131 = .ok (.aload_n 0, 1) := by decide +kernel
theorem dX2_isAmong_132 : decode cX2_isAmong 132 = .ok (.getfield 21, 3) := by decide +kernel
theorem dX2_isAmong_135 : decode cX2_isAmong 135 = .ok (.iload_n 2, 1) := by decide +kernel
theorem dX2_isAmong_136 : decode cX2_isAmong 136 = .ok (.invokevirtual 35, 3) := by decide +kernel
theorem dX2_isAmong_139 : decode cX2_isAmong 139 = .ok (.ifCond .ne 7, 3) := by decide +kernel
theorem dX2_isAmong_142 : decode cX2_isAmong 142 = .ok (.iconst 1, 1) := by decide +kernel
theorem dX2_isAmong_143 : decode cX2_isAmong 143 = .ok (.goto 4, 3) := by decide +kernel
theorem dX2_isAmong_146 : decode cX2_isAmong 146 = .ok (.iconst 0, 1) := by decide +kernel
theorem dX2_isAmong_147 : decode cX2_isAmong 147 = .ok (.ireturn, 1) := by decide +kernel
theorem dX2_isAmong_148 : decode cX2_isAmong 148 = .ok (.aload_n 0, 1) := by decide +kernel
theorem dX2_isAmong_149 : decode cX2_isAmong 149 = .ok (.getfield 21, 3) := by decide +kernel
theorem dX2_isAmong_152 : decode cX2_isAmong 152 = .ok (.getfield 29, 3) := by decide +kernel
theorem dX2_isAmong_155 : decode cX2_isAmong 155 = .ok (.iload_n 2, 1) := by decide +kernel
theorem dX2_isAmong_156 : decode cX2_isAmong 156 = .ok (.invokevirtual 44, 3) := by decide +kernel
theorem dX2_isAmong_159 : decode cX2_isAmong 159 = .ok (.ifCond .eq 22, 3) := by decide +kernel
theorem dX2_isAmong_162 : decode cX2_isAmong 162 = .ok (.aload_n 0, 1) := by decide +kernel
theorem dX2_isAmong_163 : decode cX2_isAmong 163 = .ok (.getfield 21, 3) := by decide +kernel
theorem dX2_isAmong_166 : decode cX2_isAmong 166 = .ok (.getfield 29, 3) := by decide +kernel
theorem dX2_isAmong_169 : decode cX2_isAmong 169 = .ok (.getfield 39, 3) := by decide +kernel
theorem dX2_isAmong_172 : decode cX2_isAmong 172 = .ok (.iload_n 2, 1) := by decide +kernel
theorem dX2_isAmong_173 : decode cX2_isAmong 173 = .ok (.iaload, 1) := by decide +kernel
theorem dX2_isAmong_174 : decode cX2_isAmong 174 = .ok (.ifCond .eq 7, 3) := by decide +kernel
theorem dX2_isAmong_177 : decode cX2_isAmong 177 = .ok (.iconst 1, 1) := by decide +kernel
theorem dX2_isAmong_178 : decode cX2_isAmong 178 = .ok (.goto 4, 3) := by decide +kernel
theorem dX2_isAmong_181 : decode cX2_isAmong 181 = .ok (.iconst 0, 1) := by decide +kernel
theorem dX2_isAmong_182 : decode cX2_isAmong 182 = .ok (.ireturn, 1) := by decide +kernel
theorem dX2_isAmong_183 : decode cX2_isAmong 183 = .ok (.iconst 1, 1) := by decide +kernel
theorem dX2_isAmong_184 : decode cX2_isAmong 184 = .ok (.ireturn, 1) := by decide +kernel
theorem dX2_fraction_0 : decode cX2_fraction 0 = .ok (.iload 4, 2) := by decide +kernel
theorem dX2_fraction_2 : decode cX2_fraction 2 = .ok (.ifCond .ne 7, 3) := by decide +kernel
theorem dX2_fraction_5 : decode cX2_fraction 5 = .ok (.lload_n 0, 1) := by decide +kernel
theorem dX2_fraction_6 : decode cX2_fraction 6 = .ok (.goto 4, 3) := by decide +kernel
theorem dX2_fraction_9 : decode cX2_fraction 9 = .ok (.lload_n 2, 1) := by decide +kernel
theorem dX2_fraction_10 : decode cX2_fraction 10 = .ok (.lstore 5, 2) := by decide +kernel
theorem dX2_fraction_12 : decode cX2_fraction 12 = .ok (.lload_n 0, 1) := by decide +kernel
theorem dX2_fraction_13 : decode cX2_fraction 13 = .ok (.lconst 0, 1) := by decide +kernel
theorem dX2_fraction_14 : decode cX2_fraction 14 = .ok (.lcmp, 1) := by decide +kernel
theorem dX2_fraction_15 : decode cX2_fraction 15 = .ok (.ifCond .eq 9, 3) := by decide +kernel
theorem dX2_fraction_18 : decode cX2_fraction 18 = .ok (.lload_n 2, 1) := by decide +kernel
theorem dX2_fraction_19 : decode cX2_fraction 19 = .ok (.lconst 0, 1) := by decide +kernel
theorem dX2_fraction_20 : decode cX2_fraction 20 = .ok (.lcmp, 1) := by decide +kernel
theorem dX2_fraction_21 : decode cX2_fraction 21 = .ok (.ifCond .ne 16, 3) := by decide +kernel
theorem dX2_fraction_24 : decode cX2_fraction 24 = .ok (.lload 5, 2) := by decide +kernel
theorem dX2_fraction_26 : decode cX2_fraction 26 = .ok (.lconst 0, 1) := by decide +kernel
theorem dX2_fraction_27 : decode cX2_fraction 27 = .ok (.lcmp, 1) := by decide +kernel
theorem dX2_fraction_28 : decode cX2_fraction 28 = .ok (.ifCond .ne 7, 3) := by decide +kernel
theorem dX2_fraction_31 : decode cX2_fraction 31 = .ok (.lconst 0, 1) := by decide +kernel
theorem dX2_fraction_32 : decode cX2_fraction 32 = .ok (.goto 4, 3) := by decide +kernel
theorem dX2_fraction_35 : decode cX2_fraction 35 = .ok (.lconst 1, 1) := by decide +kernel
theorem dX2_fraction_36 : decode cX2_fraction 36 = .ok (.lreturn, 1) := by decide +kernel
theorem dX2_fraction_37 : decode cX2_fraction 37 = .ok (.lload 5, 2) := by decide +kernel
theorem dX2_fraction_39 : decode cX2_fraction 39 = .ok (.lconst 1, 1) := by decide +kernel
theorem dX2_fraction_40 : decode cX2_fraction 40 = .ok (.lload_n 0, 1) := by decide +kernel
theorem dX2_fraction_41 : decode cX2_fraction 41 = .ok (.lload_n 2, 1) := by decide +kernel
theorem dX2_fraction_42 : decode cX2_fraction 42 = .ok (.invokestatic 47, 3) := by decide +kernel
theorem dX2_fraction_45 : decode cX2_fraction 45 = .ok (.invokestatic 51, 3) := by decide +kernel
theorem dX2_fraction_48 : decode cX2_fraction 48 = .ok (.ldiv, 1) := by decide +kernel
theorem dX2_fraction_49 : decode cX2_fraction 49 = .ok (.lreturn, 1) := by decide +kernel
theorem dX2_greatestCommon_0 : decode cX2_greatestCommon 0 = .ok (.lload_n 0, 1) := by decide +kernel
theorem dX2_greatestCommon_1 : decode cX2_greatestCommon 1 = .ok (.lstore 4, 2) := by decide +kernel
theorem dX2_greatestCommon_3 : decode cX2_greatestCommon 3 = .ok (.lload_n 2, 1) := by decide +kernel
theorem dX2_greatestCommon_4 : decode cX2_greatestCommon 4 = .ok (.lstore 6, 2) := by decide +kernel
theorem dX2_greatestCommon_6 : decode cX2_greatestCommon 6 = .ok (.iconst 0, 1) := by decide +kernel
theorem dX2_greatestCommon_7 : decode cX2_greatestCommon 7 = .ok (.istore 8, 2) := by decide +kernel
theorem dX2_greatestCommon_9 : decode cX2_greatestCommon 9 = .ok (.iload 8, 2) := by decide +kernel
theorem dX2_greatestCommon_11 : decode cX2_greatestCommon 11 = .ok (.sipush 200, 3) := by decide +kernel
theorem dX2_greatestCommon_14 : decode cX2_greatestCommon 14 = .ok (.if_icmp .ge 31, 3) := by decide +kernel
theorem dX2_greatestCommon_17 : decode cX2_greatestCommon 17 = .ok (.lload 6, 2) := by decide +kernel
theorem dX2_greatestCommon_19 : decode cX2_greatestCommon 19 = .ok (.lconst 0, 1) := by decide +kernel
theorem dX2_greatestCommon_20 : decode cX2_greatestCommon 20 = .ok (.lcmp, 1) := by decide +kernel
theorem dX2_greatestCommon_21 : decode cX2_greatestCommon 21 = .ok (.ifCond .eq 24, 3) := by decide +kernel
theorem dX2_greatestCommon_24 : decode cX2_greatestCommon 24 = .ok (.lload 4, 2) := by decide +kernel
theorem dX2_greatestCommon_26 : decode cX2_greatestCommon 26 = .ok (.lload 6, 2) := by decide +kernel
theorem dX2_greatestCommon_28 : decode cX2_greatestCommon 28 = .ok (.lrem, 1) := by decide +kernel
theorem dX2_greatestCommon_29 : decode cX2_greatestCommon 29 = .ok (.lstore 9, 2) := by decide +kernel
theorem dX2_greatestCommon_31 : decode cX2_greatestCommon 31 = .ok (.lload 6, 2) := by decide +kernel
theorem dX2_greatestCommon_33 : decode cX2_greatestCommon 33 = .ok (.lstore 4, 2) := by decide +kernel
theorem dX2_greatestCommon_35 : decode cX2_greatestCommon 35 = .ok (.lload 9, 2) := by decide +kernel
theorem dX2_greatestCommon_37 : decode cX2_greatestCommon 37 = .ok (.lstore 6, 2) := by decide +kernel
theorem dX2_greatestCommon_39 : decode cX2_greatestCommon 39 = .ok (.iinc 8 1, 3) := by decide +kernel
theorem dX2_greatestCommon_42 : decode cX2_greatestCommon 42 = .ok (.goto (-33), 3) := by decide +kernel
theorem dX2_greatestCommon_45 : decode cX2_greatestCommon 45 = .ok (.lload 4, 2) := by decide +kernel
theorem dX2_greatestCommon_47 : decode cX2_greatestCommon 47 = .ok (.lreturn, 1) := by decide +kernel
theorem dX2_nearest_0 : decode cX2_nearest 0 = .ok (.aload_n 0, 1) := by decide +kernel
theorem dX2_nearest_1 : decode cX2_nearest 1 = .ok (.iload_n 1, 1) := by decide +kernel
theorem dX2_nearest_2 : decode cX2_nearest 2 = .ok (.invokevirtual 56, 3) := by decide +kernel
theorem dX2_nearest_5 : decode cX2_nearest 5 = .ok (.astore 5, 2) := by decide +kernel
theorem dX2_nearest_7 : decode cX2_nearest 7 = .ok (.iconst 0, 1) := by decide +kernel
theorem dX2_nearest_8 : decode cX2_nearest 8 = .ok (.istore 6, 2) := by decide +kernel
theorem dX2_nearest_10 : decode cX2_nearest 10 = .ok (.aload_n 0, 1) := by decide +kernel
theorem dX2_nearest_11 : decode cX2_nearest 11 = .ok (.iconst (-1), 1) := by decide +kernel
theorem dX2_nearest_12 : decode cX2_nearest 12 = .ok (.putfield 60, 3) := by decide +kernel
theorem dX2_nearest_15 : decode cX2_nearest 15 = .ok (.iconst 0, 1) := by decide +kernel
theorem dX2_nearest_16 : decode cX2_nearest 16 = .ok (.istore 7, 2) := by decide +kernel
theorem dX2_nearest_18 : decode cX2_nearest 18 = .ok (.iload 7, 2) := by decide +kernel
theorem dX2_nearest_20 : decode cX2_nearest 20 = .ok (.aload 5, 2) := by decide +kernel
theorem dX2_nearest_22 : decode cX2_nearest 22 = .ok (.getfield 64, 3) := by decide +kernel
theorem dX2_nearest_25 : decode cX2_nearest 25 = .ok (.if_icmp .ge 114, 3) := by decide +kernel
theorem dX2_nearest_28 : decode cX2_nearest 28 = .ok (.aload_n 0, 1) := by decide +kernel
theorem dX2_nearest_29 : decode cX2_nearest 29 = .ok (.iload_n 1, 1) := by decide +kernel
theorem dX2_nearest_30 : decode cX2_nearest 30 = .ok (.iload 7, 2) := by decide +kernel
theorem dX2_nearest_32 : decode cX2_nearest 32 = .ok (.iload 4, 2) := by decide +kernel
theorem dX2_nearest_34 : decode cX2_nearest 34 = .ok (.invokevirtual 67, 3) := by decide +kernel
theorem dX2_nearest_37 : decode cX2_nearest 37 = .ok (.ifCond .ne 6, 3) := by decide +kernel
theorem dX2_nearest_40 : decode cX2_nearest 40 = .ok (.goto 93, 3) := by decide +kernel
theorem dX2_nearest_43 : decode cX2_nearest 43 = .ok (.iconst 0, 1) := by decide +kernel
theorem dX2_nearest_44 : decode cX2_nearest 44 = .ok (.istore 8, 2) := by decide +kernel
theorem dX2_nearest_46 : decode cX2_nearest 46 = .ok (.iload 8, 2) := by decide +kernel
theorem dX2_nearest_48 : decode cX2_nearest 48 = .ok (.aload 5, 2) := by decide +kernel
theorem dX2_nearest_50 : decode cX2_nearest 50 = .ok (.getfield 71, 3) := by decide +kernel
theorem dX2_nearest_53 : decode cX2_nearest 53 = .ok (.iload 7, 2) := by decide +kernel
theorem dX2_nearest_55 : decode cX2_nearest 55 = .ok (.iaload, 1) := by decide +kernel
theorem dX2_nearest_56 : decode cX2_nearest 56 = .ok (.if_icmp .ge 77, 3) := by decide +kernel
theorem dX2_nearest_59 : decode cX2_nearest 59 = .ok (.iload 7, 2) := by decide +kernel
theorem dX2_nearest_61 : decode cX2_nearest 61 = .ok (.aload 5, 2) := by decide +kernel
theorem dX2_nearest_63 : decode cX2_nearest 63 = .ok (.getfield 74, 3) := by decide +kernel
theorem dX2_nearest_66 : decode cX2_nearest 66 = .ok (.imul, 1) := by decide +kernel
theorem dX2_nearest_67 : decode cX2_nearest 67 = .ok (.iload 8, 2) := by decide +kernel
theorem dX2_nearest_69 : decode cX2_nearest 69 = .ok (.iadd, 1) := by decide +kernel
theorem dX2_nearest_70 : decode cX2_nearest 70 = .ok (.istore 9, 2) := by decide +kernel
theorem dX2_nearest_72 : decode cX2_nearest 72 = .ok (.lload_n 2, 1) := by decide +kernel
theorem dX2_nearest_73 : decode cX2_nearest 73 = .ok (.iload_n 1, 1) := by decide +kernel
theorem dX2_nearest_74 : decode cX2_nearest 74 = .ok (.iconst 2, 1) := by decide +kernel
theorem dX2_nearest_75 : decode cX2_nearest 75 = .ok (.if_icmp .ne 16, 3) := by decide +kernel
theorem dX2_nearest_78 : decode cX2_nearest 78 = .ok (.aload_n 0, 1) := by decide +kernel
theorem dX2_nearest_79 : decode cX2_nearest 79 = .ok (.getfield 21, 3) := by decide +kernel
theorem dX2_nearest_82 : decode cX2_nearest 82 = .ok (.getfield 77, 3) := by decide +kernel
theorem dX2_nearest_85 : decode cX2_nearest 85 = .ok (.iload 9, 2) := by decide +kernel
theorem dX2_nearest_87 : decode cX2_nearest 87 = .ok (.laload, 1) := by decide +kernel
theorem dX2_nearest_88 : decode cX2_nearest 88 = .ok (.goto 11, 3) := by decide +kernel
theorem dX2_nearest_91 : decode cX2_nearest 91 = .ok (.aload 5, 2) := by decide +kernel
theorem dX2_nearest_93 : decode cX2_nearest 93 = .ok (.getfield 80, 3) := by decide +kernel
theorem dX2_nearest_96 : decode cX2_nearest 96 = .ok (.iload 9, 2) := by decide +kernel
theorem dX2_nearest_98 : decode cX2_nearest 98 = .ok (.laload, 1) := by decide +kernel
theorem dX2_nearest_99 : decode cX2_nearest 99 = .ok (.invokestatic 83, 3) := by decide +kernel
theorem dX2_nearest_102 : decode cX2_nearest 102 = .ok (.istore 10, 2) := by decide +kernel
theorem dX2_nearest_104 : decode cX2_nearest 104 = .ok (.iload 10, 2) := by decide +kernel
theorem dX2_nearest_106 : decode cX2_nearest 106 = .ok (.iload 6, 2) := by decide +kernel
theorem dX2_nearest_108 : decode cX2_nearest 108 = .ok (.if_icmp .le 19, 3) := by decide +kernel
theorem dX2_nearest_111 : decode cX2_nearest 111 = .ok (.iload 10, 2) := by decide +kernel
theorem dX2_nearest_113 : decode cX2_nearest 113 = .ok (.istore 6, 2) := by decide +kernel
theorem dX2_nearest_115 : decode cX2_nearest 115 = .ok (.aload_n 0, 1) := by decide +kernel
theorem dX2_nearest_116 : decode cX2_nearest 116 = .ok (.bipush 100, 2) := by decide +kernel
theorem dX2_nearest_118 : decode cX2_nearest 118 = .ok (.iload 7, 2) := by decide +kernel
theorem dX2_nearest_120 : decode cX2_nearest 120 = .ok (.imul, 1) := by decide +kernel
theorem dX2_nearest_121 : decode cX2_nearest 121 = .ok (.iload 8, 2) := by decide +kernel
theorem dX2_nearest_123 : decode cX2_nearest 123 = .ok (.iadd, 1) := by decide +kernel
theorem dX2_nearest_124 : decode cX2_nearest 124 = .ok (.putfield 60, 3) := by decide +kernel
theorem dX2_nearest_127 : decode cX2_nearest 127 = .ok (.iinc 8 1, 3) := by decide +kernel
theorem dX2_nearest_130 : decode cX2_nearest 130 = .ok (.goto (-84), 3) := by decide +kernel
theorem dX2_nearest_133 : decode cX2_nearest 133 = .ok (.iinc 7 1, 3) := by decide +kernel
theorem dX2_nearest_136 : decode cX2_nearest 136 = .ok (.goto (-118), 3) := by decide +kernel
theorem dX2_nearest_139 : decode cX2_nearest 139 = .ok (.iload 6, 2) := by decide +kernel
theorem dX2_nearest_141 : decode cX2_nearest 141 = .ok (.ireturn, 1) := by decide +kernel
theorem dX2_look_0 : decode cX2_look 0 = .ok (.aload_n 0, 1) := by decide +kernel
theorem dX2_look_1 : decode cX2_look 1 = .ok (.getfield 21, 3) := by decide +kernel
theorem dX2_look_4 : decode cX2_look 4 = .ok (.getfield 25, 3) := by decide +kernel
theorem dX2_look_7 : decode cX2_look 7 = .ok (.iconst 0, 1) := by decide +kernel
theorem dX2_look_8 : decode cX2_look 8 = .ok (.iload_n 1, 1) := by decide +kernel
theorem dX2_look_9 : decode cX2_look 9 = .ok (.invokevirtual 89, 3) := by decide +kernel
theorem dX2_look_12 : decode cX2_look 12 = .ok (.lstore_n 2, 1) := by decide +kernel
theorem dX2_look_13 : decode cX2_look 13 = .ok (.aload_n 0, 1) := by decide +kernel
theorem dX2_look_14 : decode cX2_look 14 = .ok (.getfield 21, 3) := by decide +kernel
theorem dX2_look_17 : decode cX2_look 17 = .ok (.getfield 25, 3) := by decide +kernel
theorem dX2_look_20 : decode cX2_look 20 = .ok (.iconst 0, 1) := by decide +kernel
theorem dX2_look_21 : decode cX2_look 21 = .ok (.iload_n 1, 1) := by decide +kernel
theorem dX2_look_22 : decode cX2_look 22 = .ok (.invokevirtual 93, 3) := by decide +kernel
theorem dX2_look_25 : decode cX2_look 25 = .ok (.ifCond .eq 18, 3) := by decide +kernel
theorem dX2_look_28 : decode cX2_look 28 = .ok (.aload_n 0, 1) := by decide +kernel
theorem dX2_look_29 : decode cX2_look 29 = .ok (.getfield 21, 3) := by decide +kernel
theorem dX2_look_32 : decode cX2_look 32 = .ok (.getfield 25, 3) := by decide +kernel
theorem dX2_look_35 : decode cX2_look 35 = .ok (.getfield 96, 3) := by decide +kernel
theorem dX2_look_38 : decode cX2_look 38 = .ok (.iload_n 1, 1) := by decide +kernel
theorem dX2_look_39 : decode cX2_look 39 = .ok (.iaload, 1) := by decide +kernel
theorem dX2_look_40 : decode cX2_look 40 = .ok (.goto 4, 3) := by decide +kernel
theorem dX2_look_43 : decode cX2_look 43 = .ok (.iconst 0, 1) := by decide +kernel
theorem dX2_look_44 : decode cX2_look 44 = .ok (.istore 4, 2) := by decide +kernel
theorem dX2_look_46 : decode cX2_look 46 = .ok (.iconst 0, 1) := by decide +kernel
theorem dX2_look_47 : decode cX2_look 47 = .ok (.istore 5, 2) := by decide +kernel
theorem dX2_look_49 : decode cX2_look 49 = .ok (.iconst 0, 1) := by decide +kernel
theorem dX2_look_50 : decode cX2_look 50 = .ok (.istore 6, 2) := by decide +kernel
theorem dX2_look_52 : decode cX2_look 52 = .ok (.iload 6, 2) := by decide +kernel
theorem dX2_look_54 : decode cX2_look 54 = .ok (.iconst 3, 1) := by decide +kernel
theorem dX2_look_55 : decode cX2_look 55 = .ok (.if_icmp .gt 56, 3) := by decide +kernel
theorem dX2_look_58 : decode cX2_look 58 = .ok (.aload_n 0, 1) := by decide +kernel
theorem dX2_look_59 : decode cX2_look 59 = .ok (.iload 6, 2) := by decide +kernel
theorem dX2_look_61 : decode cX2_look 61 = .ok (.lload_n 2, 1) := by decide +kernel
theorem dX2_look_62 : decode cX2_look 62 = .ok (.iload 4, 2) := by decide +kernel
theorem dX2_look_64 : decode cX2_look 64 = .ok (.invokevirtual 99, 3) := by decide +kernel
theorem dX2_look_67 : decode cX2_look 67 = .ok (.istore 7, 2) := by decide +kernel
theorem dX2_look_69 : decode cX2_look 69 = .ok (.iload 7, 2) := by decide +kernel
theorem dX2_look_71 : decode cX2_look 71 = .ok (.aload_n 0, 1) := by decide +kernel
theorem dX2_look_72 : decode cX2_look 72 = .ok (.getfield 21, 3) := by decide +kernel
theorem dX2_look_75 : decode cX2_look 75 = .ok (.getfield 103, 3) := by decide +kernel
theorem dX2_look_78 : decode cX2_look 78 = .ok (.if_icmp .lt 18, 3) := by decide +kernel
theorem dX2_look_81 : decode cX2_look 81 = .ok (.aload_n 0, 1) := by decide +kernel
theorem dX2_look_82 : decode cX2_look 82 = .ok (.iload 6, 2) := by decide +kernel
theorem dX2_look_84 : decode cX2_look 84 = .ok (.putfield 106, 3) := by decide +kernel
theorem dX2_look_87 : decode cX2_look 87 = .ok (.aload_n 0, 1) := by decide +kernel
theorem dX2_look_88 : decode cX2_look 88 = .ok (.aload_n 0, 1) := by decide +kernel
theorem dX2_look_89 : decode cX2_look 89 = .ok (.getfield 60, 3) := by decide +kernel
theorem dX2_look_92 : decode cX2_look 92 = .ok (.putfield 109, 3) := by decide +kernel
theorem dX2_look_95 : decode cX2_look 95 = .ok (.return_, 1) := by decide +kernel
theorem dX2_look_96 : decode cX2_look 96 = .ok (.iload 5, 2) := by decide +kernel
theorem dX2_look_98 : decode cX2_look 98 = .ok (.iload 7, 2) := by decide +kernel
theorem dX2_look_100 : decode cX2_look 100 = .ok (.invokestatic 112, 3) := by decide +kernel
theorem dX2_look_103 : decode cX2_look 103 = .ok (.istore 5, 2) := by decide +kernel
theorem dX2_look_105 : decode cX2_look 105 = .ok (.iinc 6 1, 3) := by decide +kernel
theorem dX2_look_108 : decode cX2_look 108 = .ok (.goto (-56), 3) := by decide +kernel
theorem dX2_look_111 : decode cX2_look 111 = .ok (.aload_n 0, 1) := by decide +kernel
theorem dX2_look_112 : decode cX2_look 112 = .ok (.iload 5, 2) := by decide +kernel
theorem dX2_look_114 : decode cX2_look 114 = .ok (.aload_n 0, 1) := by decide +kernel
theorem dX2_look_115 : decode cX2_look 115 = .ok (.getfield 21, 3) := by decide +kernel
theorem dX2_look_118 : decode cX2_look 118 = .ok (.getfield 115, 3) := by decide +kernel
theorem dX2_look_121 : decode cX2_look 121 = .ok (.if_icmp .lt 7, 3) := by decide +kernel
theorem dX2_look_124 : decode cX2_look 124 = .ok (.iconst 4, 1) := by decide +kernel
theorem dX2_look_125 : decode cX2_look 125 = .ok (.goto 4, 3) := by decide +kernel
theorem dX2_look_128 : decode cX2_look 128 = .ok (.iconst 5, 1) := by decide +kernel
theorem dX2_look_129 : decode cX2_look 129 = .ok (.putfield 106, 3) := by decide +kernel
theorem dX2_look_132 : decode cX2_look 132 = .ok (.aload_n 0, 1) := by decide +kernel
theorem dX2_look_133 : decode cX2_look 133 = .ok (.iconst (-1), 1) := by decide +kernel
theorem dX2_look_134 : decode cX2_look 134 = .ok (.putfield 109, 3) := by decide +kernel
theorem dX2_look_137 : decode cX2_look 137 = .ok (.return_, 1) := by decide +kernel
theorem dX2_countKinds_0 : decode cX2_countKinds 0 = .ok (.aload_n 0, 1) := by decide +kernel
theorem dX2_countKinds_1 : decode cX2_countKinds 1 = .ok (.getfield 17, 3) := by decide +kernel
theorem dX2_countKinds_4 : decode cX2_countKinds 4 = .ok (.iconst 0, 1) := by decide +kernel
theorem dX2_countKinds_5 : decode cX2_countKinds 5 = .ok (.invokestatic 118, 3) := by decide +kernel
theorem dX2_countKinds_8 : decode cX2_countKinds 8 = .ok (.iconst 0, 1) := by decide +kernel
theorem dX2_countKinds_9 : decode cX2_countKinds 9 = .ok (.istore_n 1, 1) := by decide +kernel
theorem dX2_countKinds_10 : decode cX2_countKinds 10 = .ok (.iload_n 1, 1) := by decide +kernel
theorem dX2_countKinds_11 : decode cX2_countKinds 11 = .ok (.aload_n 0, 1) := by decide +kernel
theorem dX2_countKinds_12 : decode cX2_countKinds 12 = .ok (.getfield 21, 3) := by decide +kernel
theorem dX2_countKinds_15 : decode cX2_countKinds 15 = .ok (.getfield 25, 3) := by decide +kernel
theorem dX2_countKinds_18 : decode cX2_countKinds 18 = .ok (.getfield 71, 3) := by decide +kernel
theorem dX2_countKinds_21 : decode cX2_countKinds 21 = .ok (.iconst 0, 1) := by decide +kernel
theorem dX2_countKinds_22 : decode cX2_countKinds 22 = .ok (.iaload, 1) := by decide +kernel
theorem dX2_countKinds_23 : decode cX2_countKinds 23 = .ok (.if_icmp .ge 46, 3) := by decide +kernel
theorem dX2_countKinds_26 : decode cX2_countKinds 26 = .ok (.aload_n 0, 1) := by decide +kernel
theorem dX2_countKinds_27 : decode cX2_countKinds 27 = .ok (.iload_n 1, 1) := by decide +kernel
theorem dX2_countKinds_28 : decode cX2_countKinds 28 = .ok (.invokevirtual 124, 3) := by decide +kernel
theorem dX2_countKinds_31 : decode cX2_countKinds 31 = .ok (.aload_n 0, 1) := by decide +kernel
theorem dX2_countKinds_32 : decode cX2_countKinds 32 = .ok (.getfield 106, 3) := by decide +kernel
theorem dX2_countKinds_35 : decode cX2_countKinds 35 = .ok (.ifCond .lt 28, 3) := by decide +kernel
theorem dX2_countKinds_38 : decode cX2_countKinds 38 = .ok (.aload_n 0, 1) := by decide +kernel
theorem dX2_countKinds_39 : decode cX2_countKinds 39 = .ok (.getfield 106, 3) := by decide +kernel
theorem dX2_countKinds_42 : decode cX2_countKinds 42 = .ok (.aload_n 0, 1) := by decide +kernel
theorem dX2_countKinds_43 : decode cX2_countKinds 43 = .ok (.getfield 17, 3) := by decide +kernel
theorem dX2_countKinds_46 : decode cX2_countKinds 46 = .ok (.arraylength, 1) := by decide +kernel
theorem dX2_countKinds_47 : decode cX2_countKinds 47 = .ok (.if_icmp .ge 16, 3) := by decide +kernel
theorem dX2_countKinds_50 : decode cX2_countKinds 50 = .ok (.aload_n 0, 1) := by decide +kernel
theorem dX2_countKinds_51 : decode cX2_countKinds 51 = .ok (.getfield 17, 3) := by decide +kernel
theorem dX2_countKinds_54 : decode cX2_countKinds 54 = .ok (.aload_n 0, 1) := by decide +kernel
theorem dX2_countKinds_55 : decode cX2_countKinds 55 = .ok (.getfield 106, 3) := by decide +kernel
theorem dX2_countKinds_58 : decode cX2_countKinds 58 = .ok (.dup2, 1) := by decide +kernel
theorem dX2_countKinds_59 : decode cX2_countKinds 59 = .ok (.iaload, 1) := by decide +kernel
theorem dX2_countKinds_60 : decode cX2_countKinds 60 = .ok (.iconst 1, 1) := by decide +kernel
theorem dX2_countKinds_61 : decode cX2_countKinds 61 = .ok (.iadd, 1) := by decide +kernel
theorem dX2_countKinds_62 : decode cX2_countKinds 62 = .ok (.iastore, 1) := by decide +kernel
theorem dX2_countKinds_63 : decode cX2_countKinds 63 = .ok (.iinc 1 1, 3) := by decide +kernel
theorem dX2_countKinds_66 : decode cX2_countKinds 66 = .ok (.goto (-56), 3) := by decide +kernel
theorem dX2_countKinds_69 : decode cX2_countKinds 69 = .ok (.return_, 1) := by decide +kernel
theorem dX2_pairs_0 : decode cX2_pairs 0 = .ok (.aload_n 0, 1) := by decide +kernel
theorem dX2_pairs_1 : decode cX2_pairs 1 = .ok (.iload_n 1, 1) := by decide +kernel
theorem dX2_pairs_2 : decode cX2_pairs 2 = .ok (.invokevirtual 56, 3) := by decide +kernel
theorem dX2_pairs_5 : decode cX2_pairs 5 = .ok (.astore_n 2, 1) := by decide +kernel
theorem dX2_pairs_6 : decode cX2_pairs 6 = .ok (.iconst 0, 1) := by decide +kernel
theorem dX2_pairs_7 : decode cX2_pairs 7 = .ok (.istore_n 3, 1) := by decide +kernel
theorem dX2_pairs_8 : decode cX2_pairs 8 = .ok (.iconst 0, 1) := by decide +kernel
theorem dX2_pairs_9 : decode cX2_pairs 9 = .ok (.istore 4, 2) := by decide +kernel
theorem dX2_pairs_11 : decode cX2_pairs 11 = .ok (.iload 4, 2) := by decide +kernel
theorem dX2_pairs_13 : decode cX2_pairs 13 = .ok (.aload_n 2, 1) := by decide +kernel
theorem dX2_pairs_14 : decode cX2_pairs 14 = .ok (.getfield 64, 3) := by decide +kernel
theorem dX2_pairs_17 : decode cX2_pairs 17 = .ok (.if_icmp .ge 30, 3) := by decide +kernel
theorem dX2_pairs_20 : decode cX2_pairs 20 = .ok (.aload_n 0, 1) := by decide +kernel
theorem dX2_pairs_21 : decode cX2_pairs 21 = .ok (.iload_n 1, 1) := by decide +kernel
theorem dX2_pairs_22 : decode cX2_pairs 22 = .ok (.iload 4, 2) := by decide +kernel
theorem dX2_pairs_24 : decode cX2_pairs 24 = .ok (.iconst (-1), 1) := by decide +kernel
theorem dX2_pairs_25 : decode cX2_pairs 25 = .ok (.invokevirtual 67, 3) := by decide +kernel
theorem dX2_pairs_28 : decode cX2_pairs 28 = .ok (.ifCond .eq 13, 3) := by decide +kernel
theorem dX2_pairs_31 : decode cX2_pairs 31 = .ok (.iload_n 3, 1) := by decide +kernel
theorem dX2_pairs_32 : decode cX2_pairs 32 = .ok (.aload_n 2, 1) := by decide +kernel
theorem dX2_pairs_33 : decode cX2_pairs 33 = .ok (.getfield 71, 3) := by decide +kernel
theorem dX2_pairs_36 : decode cX2_pairs 36 = .ok (.iload 4, 2) := by decide +kernel
theorem dX2_pairs_38 : decode cX2_pairs 38 = .ok (.iaload, 1) := by decide +kernel
theorem dX2_pairs_39 : decode cX2_pairs 39 = .ok (.iadd, 1) := by decide +kernel
theorem dX2_pairs_40 : decode cX2_pairs 40 = .ok (.istore_n 3, 1) := by decide +kernel
theorem dX2_pairs_41 : decode cX2_pairs 41 = .ok (.iinc 4 1, 3) := by decide +kernel
theorem dX2_pairs_44 : decode cX2_pairs 44 = .ok (.goto (-33), 3) := by decide +kernel
theorem dX2_pairs_47 : decode cX2_pairs 47 = .ok (.iload_n 3, 1) := by decide +kernel
theorem dX2_pairs_48 : decode cX2_pairs 48 = .ok (.aload_n 0, 1) := by decide +kernel
theorem dX2_pairs_49 : decode cX2_pairs 49 = .ok (.getfield 21, 3) := by decide +kernel
theorem dX2_pairs_52 : decode cX2_pairs 52 = .ok (.getfield 25, 3) := by decide +kernel
theorem dX2_pairs_55 : decode cX2_pairs 55 = .ok (.getfield 71, 3) := by decide +kernel
theorem dX2_pairs_58 : decode cX2_pairs 58 = .ok (.iconst 0, 1) := by decide +kernel
theorem dX2_pairs_59 : decode cX2_pairs 59 = .ok (.iaload, 1) := by decide +kernel
theorem dX2_pairs_60 : decode cX2_pairs 60 = .ok (.imul, 1) := by decide +kernel
theorem dX2_pairs_61 : decode cX2_pairs 61 = .ok (.ireturn, 1) := by decide +kernel
theorem dX2_pairsBy_0 : decode cX2_pairsBy 0 = .ok (.aload_n 0, 1) := by decide +kernel
theorem dX2_pairsBy_1 : decode cX2_pairsBy 1 = .ok (.iload_n 1, 1) := by decide +kernel
theorem dX2_pairsBy_2 : decode cX2_pairsBy 2 = .ok (.invokevirtual 56, 3) := by decide +kernel
theorem dX2_pairsBy_5 : decode cX2_pairsBy 5 = .ok (.astore_n 3, 1) := by decide +kernel
theorem dX2_pairsBy_6 : decode cX2_pairsBy 6 = .ok (.iconst 0, 1) := by decide +kernel
theorem dX2_pairsBy_7 : decode cX2_pairsBy 7 = .ok (.istore 4, 2) := by decide +kernel
theorem dX2_pairsBy_9 : decode cX2_pairsBy 9 = .ok (.iconst 0, 1) := by decide +kernel
theorem dX2_pairsBy_10 : decode cX2_pairsBy 10 = .ok (.istore 5, 2) := by decide +kernel
theorem dX2_pairsBy_12 : decode cX2_pairsBy 12 = .ok (.iload 5, 2) := by decide +kernel
theorem dX2_pairsBy_14 : decode cX2_pairsBy 14 = .ok (.aload_n 3, 1) := by decide +kernel
theorem dX2_pairsBy_15 : decode cX2_pairsBy 15 = .ok (.getfield 64, 3) := by decide +kernel
theorem dX2_pairsBy_18 : decode cX2_pairsBy 18 = .ok (.if_icmp .ge 62, 3) := by decide +kernel
theorem dX2_pairsBy_21 : decode cX2_pairsBy 21 = .ok (.aload_n 0, 1) := by decide +kernel
theorem dX2_pairsBy_22 : decode cX2_pairsBy 22 = .ok (.iload_n 1, 1) := by decide +kernel
theorem dX2_pairsBy_23 : decode cX2_pairsBy 23 = .ok (.iload 5, 2) := by decide +kernel
theorem dX2_pairsBy_25 : decode cX2_pairsBy 25 = .ok (.iconst (-1), 1) := by decide +kernel
theorem dX2_pairsBy_26 : decode cX2_pairsBy 26 = .ok (.invokevirtual 67, 3) := by decide +kernel
theorem dX2_pairsBy_29 : decode cX2_pairsBy 29 = .ok (.ifCond .ne 6, 3) := by decide +kernel
theorem dX2_pairsBy_32 : decode cX2_pairsBy 32 = .ok (.goto 42, 3) := by decide +kernel
theorem dX2_pairsBy_35 : decode cX2_pairsBy 35 = .ok (.iconst 0, 1) := by decide +kernel
theorem dX2_pairsBy_36 : decode cX2_pairsBy 36 = .ok (.istore 6, 2) := by decide +kernel
theorem dX2_pairsBy_38 : decode cX2_pairsBy 38 = .ok (.iload 6, 2) := by decide +kernel
theorem dX2_pairsBy_40 : decode cX2_pairsBy 40 = .ok (.aload_n 3, 1) := by decide +kernel
theorem dX2_pairsBy_41 : decode cX2_pairsBy 41 = .ok (.getfield 71, 3) := by decide +kernel
theorem dX2_pairsBy_44 : decode cX2_pairsBy 44 = .ok (.iload 5, 2) := by decide +kernel
theorem dX2_pairsBy_46 : decode cX2_pairsBy 46 = .ok (.iaload, 1) := by decide +kernel
theorem dX2_pairsBy_47 : decode cX2_pairsBy 47 = .ok (.if_icmp .ge 27, 3) := by decide +kernel
theorem dX2_pairsBy_50 : decode cX2_pairsBy 50 = .ok (.iload 4, 2) := by decide +kernel
theorem dX2_pairsBy_52 : decode cX2_pairsBy 52 = .ok (.aload_n 0, 1) := by decide +kernel
theorem dX2_pairsBy_53 : decode cX2_pairsBy 53 = .ok (.aload_n 3, 1) := by decide +kernel
theorem dX2_pairsBy_54 : decode cX2_pairsBy 54 = .ok (.iload 5, 2) := by decide +kernel
theorem dX2_pairsBy_56 : decode cX2_pairsBy 56 = .ok (.iload 6, 2) := by decide +kernel
theorem dX2_pairsBy_58 : decode cX2_pairsBy 58 = .ok (.invokevirtual 89, 3) := by decide +kernel
theorem dX2_pairsBy_61 : decode cX2_pairsBy 61 = .ok (.iload_n 2, 1) := by decide +kernel
theorem dX2_pairsBy_62 : decode cX2_pairsBy 62 = .ok (.invokevirtual 128, 3) := by decide +kernel
theorem dX2_pairsBy_65 : decode cX2_pairsBy 65 = .ok (.iadd, 1) := by decide +kernel
theorem dX2_pairsBy_66 : decode cX2_pairsBy 66 = .ok (.istore 4, 2) := by decide +kernel
theorem dX2_pairsBy_68 : decode cX2_pairsBy 68 = .ok (.iinc 6 1, 3) := by decide +kernel
theorem dX2_pairsBy_71 : decode cX2_pairsBy 71 = .ok (.goto (-33), 3) := by decide +kernel
theorem dX2_pairsBy_74 : decode cX2_pairsBy 74 = .ok (.iinc 5 1, 3) := by decide +kernel
theorem dX2_pairsBy_77 : decode cX2_pairsBy 77 = .ok (.goto (-65), 3) := by decide +kernel
theorem dX2_pairsBy_80 : decode cX2_pairsBy 80 = .ok (.iload 4, 2) := by decide +kernel
theorem dX2_pairsBy_82 : decode cX2_pairsBy 82 = .ok (.ireturn, 1) := by decide +kernel
theorem dX2_printedLike_0 : decode cX2_printedLike 0 = .ok (.iconst 0, 1) := by decide +kernel
theorem dX2_printedLike_1 : decode cX2_printedLike 1 = .ok (.istore 4, 2) := by decide +kernel
theorem dX2_printedLike_3 : decode cX2_printedLike 3 = .ok (.iconst 0, 1) := by decide +kernel
theorem dX2_printedLike_4 : decode cX2_printedLike 4 = .ok (.istore 5, 2) := by decide +kernel
theorem dX2_printedLike_6 : decode cX2_printedLike 6 = .ok (.iload 5, 2) := by decide +kernel
theorem dX2_printedLike_8 : decode cX2_printedLike 8 = .ok (.aload_n 0, 1) := by decide +kernel
theorem dX2_printedLike_9 : decode cX2_printedLike 9 = .ok (.getfield 21, 3) := by decide +kernel
theorem dX2_printedLike_12 : decode cX2_printedLike 12 = .ok (.getfield 25, 3) := by decide +kernel
theorem dX2_printedLike_15 : decode cX2_printedLike 15 = .ok (.getfield 71, 3) := by decide +kernel
theorem dX2_printedLike_18 : decode cX2_printedLike 18 = .ok (.iconst 0, 1) := by decide +kernel
theorem dX2_printedLike_19 : decode cX2_printedLike 19 = .ok (.iaload, 1) := by decide +kernel
theorem dX2_printedLike_20 : decode cX2_printedLike 20 = .ok (.if_icmp .ge 33, 3) := by decide +kernel
theorem dX2_printedLike_23 : decode cX2_printedLike 23 = .ok (.lload_n 1, 1) := by decide +kernel
theorem dX2_printedLike_24 : decode cX2_printedLike 24 = .ok (.aload_n 0, 1) := by decide +kernel
theorem dX2_printedLike_25 : decode cX2_printedLike 25 = .ok (.getfield 21, 3) := by decide +kernel
theorem dX2_printedLike_28 : decode cX2_printedLike 28 = .ok (.getfield 25, 3) := by decide +kernel
theorem dX2_printedLike_31 : decode cX2_printedLike 31 = .ok (.iconst 0, 1) := by decide +kernel
theorem dX2_printedLike_32 : decode cX2_printedLike 32 = .ok (.iload 5, 2) := by decide +kernel
theorem dX2_printedLike_34 : decode cX2_printedLike 34 = .ok (.invokevirtual 89, 3) := by decide +kernel
theorem dX2_printedLike_37 : decode cX2_printedLike 37 = .ok (.invokestatic 83, 3) := by decide +kernel
theorem dX2_printedLike_40 : decode cX2_printedLike 40 = .ok (.iload_n 3, 1) := by decide +kernel
theorem dX2_printedLike_41 : decode cX2_printedLike 41 = .ok (.if_icmp .lt 6, 3) := by decide +kernel
theorem dX2_printedLike_44 : decode cX2_printedLike 44 = .ok (.iinc 4 1, 3) := by decide +kernel
theorem dX2_printedLike_47 : decode cX2_printedLike 47 = .ok (.iinc 5 1, 3) := by decide +kernel
theorem dX2_printedLike_50 : decode cX2_printedLike 50 = .ok (.goto (-44), 3) := by decide +kernel
theorem dX2_printedLike_53 : decode cX2_printedLike 53 = .ok (.iload 4, 2) := by decide +kernel
theorem dX2_printedLike_55 : decode cX2_printedLike 55 = .ok (.ireturn, 1) := by decide +kernel
theorem dX2_matchesOf_0 : decode cX2_matchesOf 0 = .ok (.iconst 0, 1) := by decide +kernel
theorem dX2_matchesOf_1 : decode cX2_matchesOf 1 = .ok (.istore_n 3, 1) := by decide +kernel
theorem dX2_matchesOf_2 : decode cX2_matchesOf 2 = .ok (.iconst 0, 1) := by decide +kernel
theorem dX2_matchesOf_3 : decode cX2_matchesOf 3 = .ok (.istore 4, 2) := by decide +kernel
theorem dX2_matchesOf_5 : decode cX2_matchesOf 5 = .ok (.iload 4, 2) := by decide +kernel
theorem dX2_matchesOf_7 : decode cX2_matchesOf 7 = .ok (.aload_n 0, 1) := by decide +kernel
theorem dX2_matchesOf_8 : decode cX2_matchesOf 8 = .ok (.getfield 21, 3) := by decide +kernel
theorem dX2_matchesOf_11 : decode cX2_matchesOf 11 = .ok (.getfield 25, 3) := by decide +kernel
theorem dX2_matchesOf_14 : decode cX2_matchesOf 14 = .ok (.getfield 71, 3) := by decide +kernel
theorem dX2_matchesOf_17 : decode cX2_matchesOf 17 = .ok (.iconst 0, 1) := by decide +kernel
theorem dX2_matchesOf_18 : decode cX2_matchesOf 18 = .ok (.iaload, 1) := by decide +kernel
theorem dX2_matchesOf_19 : decode cX2_matchesOf 19 = .ok (.if_icmp .ge 34, 3) := by decide +kernel
theorem dX2_matchesOf_22 : decode cX2_matchesOf 22 = .ok (.aload_n 0, 1) := by decide +kernel
theorem dX2_matchesOf_23 : decode cX2_matchesOf 23 = .ok (.iload_n 1, 1) := by decide +kernel
theorem dX2_matchesOf_24 : decode cX2_matchesOf 24 = .ok (.aload_n 0, 1) := by decide +kernel
theorem dX2_matchesOf_25 : decode cX2_matchesOf 25 = .ok (.getfield 21, 3) := by decide +kernel
theorem dX2_matchesOf_28 : decode cX2_matchesOf 28 = .ok (.getfield 25, 3) := by decide +kernel
theorem dX2_matchesOf_31 : decode cX2_matchesOf 31 = .ok (.iconst 0, 1) := by decide +kernel
theorem dX2_matchesOf_32 : decode cX2_matchesOf 32 = .ok (.iload 4, 2) := by decide +kernel
theorem dX2_matchesOf_34 : decode cX2_matchesOf 34 = .ok (.invokevirtual 89, 3) := by decide +kernel
theorem dX2_matchesOf_37 : decode cX2_matchesOf 37 = .ok (.iload_n 2, 1) := by decide +kernel
theorem dX2_matchesOf_38 : decode cX2_matchesOf 38 = .ok (.invokevirtual 132, 3) := by decide +kernel
theorem dX2_matchesOf_41 : decode cX2_matchesOf 41 = .ok (.ifCond .eq 6, 3) := by decide +kernel
theorem dX2_matchesOf_44 : decode cX2_matchesOf 44 = .ok (.iinc 3 1, 3) := by decide +kernel
theorem dX2_matchesOf_47 : decode cX2_matchesOf 47 = .ok (.iinc 4 1, 3) := by decide +kernel
theorem dX2_matchesOf_50 : decode cX2_matchesOf 50 = .ok (.goto (-45), 3) := by decide +kernel
theorem dX2_matchesOf_53 : decode cX2_matchesOf 53 = .ok (.iload_n 3, 1) := by decide +kernel
theorem dX2_matchesOf_54 : decode cX2_matchesOf 54 = .ok (.ireturn, 1) := by decide +kernel
theorem dX2_bookHasLike_0 : decode cX2_bookHasLike 0 = .ok (.aload_n 0, 1) := by decide +kernel
theorem dX2_bookHasLike_1 : decode cX2_bookHasLike 1 = .ok (.getfield 21, 3) := by decide +kernel
theorem dX2_bookHasLike_4 : decode cX2_bookHasLike 4 = .ok (.getfield 29, 3) := by decide +kernel
theorem dX2_bookHasLike_7 : decode cX2_bookHasLike 7 = .ok (.iload_n 1, 1) := by decide +kernel
theorem dX2_bookHasLike_8 : decode cX2_bookHasLike 8 = .ok (.invokevirtual 44, 3) := by decide +kernel
theorem dX2_bookHasLike_11 : decode cX2_bookHasLike 11 = .ok (.ifCond .ne 5, 3) := by decide +kernel
theorem dX2_bookHasLike_14 : decode cX2_bookHasLike 14 = .ok (.iconst 0, 1) := by decide +kernel
theorem dX2_bookHasLike_15 : decode cX2_bookHasLike 15 = .ok (.ireturn, 1) := by decide +kernel
theorem dX2_bookHasLike_16 : decode cX2_bookHasLike 16 = .ok (.iconst 0, 1) := by decide +kernel
theorem dX2_bookHasLike_17 : decode cX2_bookHasLike 17 = .ok (.istore 5, 2) := by decide +kernel
theorem dX2_bookHasLike_19 : decode cX2_bookHasLike 19 = .ok (.iload 5, 2) := by decide +kernel
theorem dX2_bookHasLike_21 : decode cX2_bookHasLike 21 = .ok (.aload_n 0, 1) := by decide +kernel
theorem dX2_bookHasLike_22 : decode cX2_bookHasLike 22 = .ok (.getfield 21, 3) := by decide +kernel
theorem dX2_bookHasLike_25 : decode cX2_bookHasLike 25 = .ok (.getfield 29, 3) := by decide +kernel
theorem dX2_bookHasLike_28 : decode cX2_bookHasLike 28 = .ok (.getfield 71, 3) := by decide +kernel
theorem dX2_bookHasLike_31 : decode cX2_bookHasLike 31 = .ok (.iload_n 1, 1) := by decide +kernel
theorem dX2_bookHasLike_32 : decode cX2_bookHasLike 32 = .ok (.iaload, 1) := by decide +kernel
theorem dX2_bookHasLike_33 : decode cX2_bookHasLike 33 = .ok (.if_icmp .ge 33, 3) := by decide +kernel
theorem dX2_bookHasLike_36 : decode cX2_bookHasLike 36 = .ok (.aload_n 0, 1) := by decide +kernel
theorem dX2_bookHasLike_37 : decode cX2_bookHasLike 37 = .ok (.getfield 21, 3) := by decide +kernel
theorem dX2_bookHasLike_40 : decode cX2_bookHasLike 40 = .ok (.getfield 29, 3) := by decide +kernel
theorem dX2_bookHasLike_43 : decode cX2_bookHasLike 43 = .ok (.iload_n 1, 1) := by decide +kernel
theorem dX2_bookHasLike_44 : decode cX2_bookHasLike 44 = .ok (.iload 5, 2) := by decide +kernel
theorem dX2_bookHasLike_46 : decode cX2_bookHasLike 46 = .ok (.invokevirtual 89, 3) := by decide +kernel
theorem dX2_bookHasLike_49 : decode cX2_bookHasLike 49 = .ok (.lload_n 2, 1) := by decide +kernel
theorem dX2_bookHasLike_50 : decode cX2_bookHasLike 50 = .ok (.invokestatic 83, 3) := by decide +kernel
theorem dX2_bookHasLike_53 : decode cX2_bookHasLike 53 = .ok (.iload 4, 2) := by decide +kernel
theorem dX2_bookHasLike_55 : decode cX2_bookHasLike 55 = .ok (.if_icmp .lt 5, 3) := by decide +kernel
theorem dX2_bookHasLike_58 : decode cX2_bookHasLike 58 = .ok (.iconst 1, 1) := by decide +kernel
theorem dX2_bookHasLike_59 : decode cX2_bookHasLike 59 = .ok (.ireturn, 1) := by decide +kernel
theorem dX2_bookHasLike_60 : decode cX2_bookHasLike 60 = .ok (.iinc 5 1, 3) := by decide +kernel
theorem dX2_bookHasLike_63 : decode cX2_bookHasLike 63 = .ok (.goto (-44), 3) := by decide +kernel
theorem dX2_bookHasLike_66 : decode cX2_bookHasLike 66 = .ok (.iconst 0, 1) := by decide +kernel
theorem dX2_bookHasLike_67 : decode cX2_bookHasLike 67 = .ok (.ireturn, 1) := by decide +kernel
theorem dX2_addsOf_0 : decode cX2_addsOf 0 = .ok (.aload_n 0, 1) := by decide +kernel
theorem dX2_addsOf_1 : decode cX2_addsOf 1 = .ok (.getfield 21, 3) := by decide +kernel
theorem dX2_addsOf_4 : decode cX2_addsOf 4 = .ok (.getfield 29, 3) := by decide +kernel
theorem dX2_addsOf_7 : decode cX2_addsOf 7 = .ok (.iload_n 1, 1) := by decide +kernel
theorem dX2_addsOf_8 : decode cX2_addsOf 8 = .ok (.invokevirtual 44, 3) := by decide +kernel
theorem dX2_addsOf_11 : decode cX2_addsOf 11 = .ok (.ifCond .ne 5, 3) := by decide +kernel
theorem dX2_addsOf_14 : decode cX2_addsOf 14 = .ok (.iconst (-1), 1) := by decide +kernel
theorem dX2_addsOf_15 : decode cX2_addsOf 15 = .ok (.ireturn, 1) := by decide +kernel
theorem dX2_addsOf_16 : decode cX2_addsOf 16 = .ok (.iconst 0, 1) := by decide +kernel
theorem dX2_addsOf_17 : decode cX2_addsOf 17 = .ok (.istore 4, 2) := by decide +kernel
theorem dX2_addsOf_19 : decode cX2_addsOf 19 = .ok (.iload 4, 2) := by decide +kernel
theorem dX2_addsOf_21 : decode cX2_addsOf 21 = .ok (.aload_n 0, 1) := by decide +kernel
theorem dX2_addsOf_22 : decode cX2_addsOf 22 = .ok (.getfield 21, 3) := by decide +kernel
theorem dX2_addsOf_25 : decode cX2_addsOf 25 = .ok (.getfield 29, 3) := by decide +kernel
theorem dX2_addsOf_28 : decode cX2_addsOf 28 = .ok (.getfield 71, 3) := by decide +kernel
theorem dX2_addsOf_31 : decode cX2_addsOf 31 = .ok (.iload_n 1, 1) := by decide +kernel
theorem dX2_addsOf_32 : decode cX2_addsOf 32 = .ok (.iaload, 1) := by decide +kernel
theorem dX2_addsOf_33 : decode cX2_addsOf 33 = .ok (.if_icmp .ge 50, 3) := by decide +kernel
theorem dX2_addsOf_36 : decode cX2_addsOf 36 = .ok (.iload 4, 2) := by decide +kernel
theorem dX2_addsOf_38 : decode cX2_addsOf 38 = .ok (.aload_n 0, 1) := by decide +kernel
theorem dX2_addsOf_39 : decode cX2_addsOf 39 = .ok (.getfield 11, 3) := by decide +kernel
theorem dX2_addsOf_42 : decode cX2_addsOf 42 = .ok (.arraylength, 1) := by decide +kernel
theorem dX2_addsOf_43 : decode cX2_addsOf 43 = .ok (.if_icmp .ge 40, 3) := by decide +kernel
theorem dX2_addsOf_46 : decode cX2_addsOf 46 = .ok (.aload_n 0, 1) := by decide +kernel
theorem dX2_addsOf_47 : decode cX2_addsOf 47 = .ok (.getfield 11, 3) := by decide +kernel
theorem dX2_addsOf_50 : decode cX2_addsOf 50 = .ok (.iload 4, 2) := by decide +kernel
theorem dX2_addsOf_52 : decode cX2_addsOf 52 = .ok (.aload_n 0, 1) := by decide +kernel
theorem dX2_addsOf_53 : decode cX2_addsOf 53 = .ok (.getfield 21, 3) := by decide +kernel
theorem dX2_addsOf_56 : decode cX2_addsOf 56 = .ok (.getfield 136, 3) := by decide +kernel
theorem dX2_addsOf_59 : decode cX2_addsOf 59 = .ok (.aload_n 0, 1) := by decide +kernel
theorem dX2_addsOf_60 : decode cX2_addsOf 60 = .ok (.getfield 21, 3) := by decide +kernel
theorem dX2_addsOf_63 : decode cX2_addsOf 63 = .ok (.getfield 29, 3) := by decide +kernel
theorem dX2_addsOf_66 : decode cX2_addsOf 66 = .ok (.iload_n 1, 1) := by decide +kernel
theorem dX2_addsOf_67 : decode cX2_addsOf 67 = .ok (.iload 4, 2) := by decide +kernel
theorem dX2_addsOf_69 : decode cX2_addsOf 69 = .ok (.invokevirtual 89, 3) := by decide +kernel
theorem dX2_addsOf_72 : decode cX2_addsOf 72 = .ok (.iload_n 2, 1) := by decide +kernel
theorem dX2_addsOf_73 : decode cX2_addsOf 73 = .ok (.invokevirtual 140, 3) := by decide +kernel
theorem dX2_addsOf_76 : decode cX2_addsOf 76 = .ok (.lastore, 1) := by decide +kernel
theorem dX2_addsOf_77 : decode cX2_addsOf 77 = .ok (.iinc 4 1, 3) := by decide +kernel
theorem dX2_addsOf_80 : decode cX2_addsOf 80 = .ok (.goto (-61), 3) := by decide +kernel
theorem dX2_addsOf_83 : decode cX2_addsOf 83 = .ok (.iconst 0, 1) := by decide +kernel
theorem dX2_addsOf_84 : decode cX2_addsOf 84 = .ok (.istore 4, 2) := by decide +kernel
theorem dX2_addsOf_86 : decode cX2_addsOf 86 = .ok (.iconst 0, 1) := by decide +kernel
theorem dX2_addsOf_87 : decode cX2_addsOf 87 = .ok (.istore 5, 2) := by decide +kernel
theorem dX2_addsOf_89 : decode cX2_addsOf 89 = .ok (.iload 5, 2) := by decide +kernel
theorem dX2_addsOf_91 : decode cX2_addsOf 91 = .ok (.aload_n 0, 1) := by decide +kernel
theorem dX2_addsOf_92 : decode cX2_addsOf 92 = .ok (.getfield 21, 3) := by decide +kernel
theorem dX2_addsOf_95 : decode cX2_addsOf 95 = .ok (.getfield 25, 3) := by decide +kernel
theorem dX2_addsOf_98 : decode cX2_addsOf 98 = .ok (.getfield 71, 3) := by decide +kernel
theorem dX2_addsOf_101 : decode cX2_addsOf 101 = .ok (.iconst 0, 1) := by decide +kernel
theorem dX2_addsOf_102 : decode cX2_addsOf 102 = .ok (.iaload, 1) := by decide +kernel
theorem dX2_addsOf_103 : decode cX2_addsOf 103 = .ok (.if_icmp .ge 59, 3) := by decide +kernel
theorem dX2_addsOf_106 : decode cX2_addsOf 106 = .ok (.aload_n 0, 1) := by decide +kernel
theorem dX2_addsOf_107 : decode cX2_addsOf 107 = .ok (.iload 5, 2) := by decide +kernel
theorem dX2_addsOf_109 : decode cX2_addsOf 109 = .ok (.invokevirtual 124, 3) := by decide +kernel
theorem dX2_addsOf_112 : decode cX2_addsOf 112 = .ok (.aload_n 0, 1) := by decide +kernel
theorem dX2_addsOf_113 : decode cX2_addsOf 113 = .ok (.getfield 106, 3) := by decide +kernel
theorem dX2_addsOf_116 : decode cX2_addsOf 116 = .ok (.iconst 3, 1) := by decide +kernel
theorem dX2_addsOf_117 : decode cX2_addsOf 117 = .ok (.if_icmp .lt 39, 3) := by decide +kernel
theorem dX2_addsOf_120 : decode cX2_addsOf 120 = .ok (.aload_n 0, 1) := by decide +kernel
theorem dX2_addsOf_121 : decode cX2_addsOf 121 = .ok (.iload_n 1, 1) := by decide +kernel
theorem dX2_addsOf_122 : decode cX2_addsOf 122 = .ok (.aload_n 0, 1) := by decide +kernel
theorem dX2_addsOf_123 : decode cX2_addsOf 123 = .ok (.getfield 21, 3) := by decide +kernel
theorem dX2_addsOf_126 : decode cX2_addsOf 126 = .ok (.getfield 25, 3) := by decide +kernel
theorem dX2_addsOf_129 : decode cX2_addsOf 129 = .ok (.iconst 0, 1) := by decide +kernel
theorem dX2_addsOf_130 : decode cX2_addsOf 130 = .ok (.iload 5, 2) := by decide +kernel
theorem dX2_addsOf_132 : decode cX2_addsOf 132 = .ok (.invokevirtual 89, 3) := by decide +kernel
theorem dX2_addsOf_135 : decode cX2_addsOf 135 = .ok (.invokevirtual 146, 3) := by decide +kernel
theorem dX2_addsOf_138 : decode cX2_addsOf 138 = .ok (.ifCond .ne 6, 3) := by decide +kernel
theorem dX2_addsOf_141 : decode cX2_addsOf 141 = .ok (.goto 15, 3) := by decide +kernel
theorem dX2_addsOf_144 : decode cX2_addsOf 144 = .ok (.iload 4, 2) := by decide +kernel
theorem dX2_addsOf_146 : decode cX2_addsOf 146 = .ok (.iload_n 3, 1) := by decide +kernel
theorem dX2_addsOf_147 : decode cX2_addsOf 147 = .ok (.if_icmp .ne 6, 3) := by decide +kernel
theorem dX2_addsOf_150 : decode cX2_addsOf 150 = .ok (.iload 5, 2) := by decide +kernel
theorem dX2_addsOf_152 : decode cX2_addsOf 152 = .ok (.ireturn, 1) := by decide +kernel
theorem dX2_addsOf_153 : decode cX2_addsOf 153 = .ok (.iinc 4 1, 3) := by decide +kernel
theorem dX2_addsOf_156 : decode cX2_addsOf 156 = .ok (.iinc 5 1, 3) := by decide +kernel
theorem dX2_addsOf_159 : decode cX2_addsOf 159 = .ok (.goto (-70), 3) := by decide +kernel
theorem dX2_addsOf_162 : decode cX2_addsOf 162 = .ok (.iload_n 3, 1) := by decide +kernel
theorem dX2_addsOf_163 : decode cX2_addsOf 163 = .ok (.iconst (-1), 1) := by decide +kernel
theorem dX2_addsOf_164 : decode cX2_addsOf 164 = .ok (.if_icmp .ne 8, 3) := by decide +kernel
theorem dX2_addsOf_167 : decode cX2_addsOf 167 = .ok (.iload 4, 2) := by decide +kernel
theorem dX2_addsOf_169 : decode cX2_addsOf 169 = .ok (.goto 4, 3) := by decide +kernel
theorem dX2_addsOf_172 : decode cX2_addsOf 172 = .ok (.iconst (-1), 1) := by decide +kernel
theorem dX2_addsOf_173 : decode cX2_addsOf 173 = .ok (.ireturn, 1) := by decide +kernel
theorem dX2_wouldBeTheirs_0 : decode cX2_wouldBeTheirs 0 = .ok (.aload_n 0, 1) := by decide +kernel
theorem dX2_wouldBeTheirs_1 : decode cX2_wouldBeTheirs 1 = .ok (.getfield 21, 3) := by decide +kernel
theorem dX2_wouldBeTheirs_4 : decode cX2_wouldBeTheirs 4 = .ok (.getfield 29, 3) := by decide +kernel
theorem dX2_wouldBeTheirs_7 : decode cX2_wouldBeTheirs 7 = .ok (.iload_n 1, 1) := by decide +kernel
theorem dX2_wouldBeTheirs_8 : decode cX2_wouldBeTheirs 8 = .ok (.invokevirtual 44, 3) := by decide +kernel
theorem dX2_wouldBeTheirs_11 : decode cX2_wouldBeTheirs 11 = .ok (.ifCond .ne 5, 3) := by decide +kernel
theorem dX2_wouldBeTheirs_14 : decode cX2_wouldBeTheirs 14 = .ok (.iconst 0, 1) := by decide +kernel
theorem dX2_wouldBeTheirs_15 : decode cX2_wouldBeTheirs 15 = .ok (.ireturn, 1) := by decide +kernel
theorem dX2_wouldBeTheirs_16 : decode cX2_wouldBeTheirs 16 = .ok (.aload_n 0, 1) := by decide +kernel
theorem dX2_wouldBeTheirs_17 : decode cX2_wouldBeTheirs 17 = .ok (.iload_n 1, 1) := by decide +kernel
theorem dX2_wouldBeTheirs_18 : decode cX2_wouldBeTheirs 18 = .ok (.lload_n 2, 1) := by decide +kernel
theorem dX2_wouldBeTheirs_19 : decode cX2_wouldBeTheirs 19 = .ok (.aload_n 0, 1) := by decide +kernel
theorem dX2_wouldBeTheirs_20 : decode cX2_wouldBeTheirs 20 = .ok (.getfield 21, 3) := by decide +kernel
theorem dX2_wouldBeTheirs_23 : decode cX2_wouldBeTheirs 23 = .ok (.getfield 103, 3) := by decide +kernel
theorem dX2_wouldBeTheirs_26 : decode cX2_wouldBeTheirs 26 = .ok (.invokevirtual 132, 3) := by decide +kernel
theorem dX2_wouldBeTheirs_29 : decode cX2_wouldBeTheirs 29 = .ok (.ifCond .eq 5, 3) := by decide +kernel
theorem dX2_wouldBeTheirs_32 : decode cX2_wouldBeTheirs 32 = .ok (.iconst 1, 1) := by decide +kernel
theorem dX2_wouldBeTheirs_33 : decode cX2_wouldBeTheirs 33 = .ok (.ireturn, 1) := by decide +kernel
theorem dX2_wouldBeTheirs_34 : decode cX2_wouldBeTheirs 34 = .ok (.iconst 0, 1) := by decide +kernel
theorem dX2_wouldBeTheirs_35 : decode cX2_wouldBeTheirs 35 = .ok (.istore 4, 2) := by decide +kernel
theorem dX2_wouldBeTheirs_37 : decode cX2_wouldBeTheirs 37 = .ok (.iload 4, 2) := by decide +kernel
theorem dX2_wouldBeTheirs_39 : decode cX2_wouldBeTheirs 39 = .ok (.aload_n 0, 1) := by decide +kernel
theorem dX2_wouldBeTheirs_40 : decode cX2_wouldBeTheirs 40 = .ok (.getfield 21, 3) := by decide +kernel
theorem dX2_wouldBeTheirs_43 : decode cX2_wouldBeTheirs 43 = .ok (.getfield 29, 3) := by decide +kernel
theorem dX2_wouldBeTheirs_46 : decode cX2_wouldBeTheirs 46 = .ok (.getfield 71, 3) := by decide +kernel
theorem dX2_wouldBeTheirs_49 : decode cX2_wouldBeTheirs 49 = .ok (.iload_n 1, 1) := by decide +kernel
theorem dX2_wouldBeTheirs_50 : decode cX2_wouldBeTheirs 50 = .ok (.iaload, 1) := by decide +kernel
theorem dX2_wouldBeTheirs_51 : decode cX2_wouldBeTheirs 51 = .ok (.if_icmp .ge 42, 3) := by decide +kernel
theorem dX2_wouldBeTheirs_54 : decode cX2_wouldBeTheirs 54 = .ok (.iload 4, 2) := by decide +kernel
theorem dX2_wouldBeTheirs_56 : decode cX2_wouldBeTheirs 56 = .ok (.aload_n 0, 1) := by decide +kernel
theorem dX2_wouldBeTheirs_57 : decode cX2_wouldBeTheirs 57 = .ok (.getfield 11, 3) := by decide +kernel
theorem dX2_wouldBeTheirs_60 : decode cX2_wouldBeTheirs 60 = .ok (.arraylength, 1) := by decide +kernel
theorem dX2_wouldBeTheirs_61 : decode cX2_wouldBeTheirs 61 = .ok (.if_icmp .ge 32, 3) := by decide +kernel
theorem dX2_wouldBeTheirs_64 : decode cX2_wouldBeTheirs 64 = .ok (.aload_n 0, 1) := by decide +kernel
theorem dX2_wouldBeTheirs_65 : decode cX2_wouldBeTheirs 65 = .ok (.getfield 11, 3) := by decide +kernel
theorem dX2_wouldBeTheirs_68 : decode cX2_wouldBeTheirs 68 = .ok (.iload 4, 2) := by decide +kernel
theorem dX2_wouldBeTheirs_70 : decode cX2_wouldBeTheirs 70 = .ok (.laload, 1) := by decide +kernel
theorem dX2_wouldBeTheirs_71 : decode cX2_wouldBeTheirs 71 = .ok (.lload_n 2, 1) := by decide +kernel
theorem dX2_wouldBeTheirs_72 : decode cX2_wouldBeTheirs 72 = .ok (.invokestatic 83, 3) := by decide +kernel
theorem dX2_wouldBeTheirs_75 : decode cX2_wouldBeTheirs 75 = .ok (.aload_n 0, 1) := by decide +kernel
theorem dX2_wouldBeTheirs_76 : decode cX2_wouldBeTheirs 76 = .ok (.getfield 21, 3) := by decide +kernel
theorem dX2_wouldBeTheirs_79 : decode cX2_wouldBeTheirs 79 = .ok (.getfield 103, 3) := by decide +kernel
theorem dX2_wouldBeTheirs_82 : decode cX2_wouldBeTheirs 82 = .ok (.if_icmp .lt 5, 3) := by decide +kernel
theorem dX2_wouldBeTheirs_85 : decode cX2_wouldBeTheirs 85 = .ok (.iconst 1, 1) := by decide +kernel
theorem dX2_wouldBeTheirs_86 : decode cX2_wouldBeTheirs 86 = .ok (.ireturn, 1) := by decide +kernel
theorem dX2_wouldBeTheirs_87 : decode cX2_wouldBeTheirs 87 = .ok (.iinc 4 1, 3) := by decide +kernel
theorem dX2_wouldBeTheirs_90 : decode cX2_wouldBeTheirs 90 = .ok (.goto (-53), 3) := by decide +kernel
theorem dX2_wouldBeTheirs_93 : decode cX2_wouldBeTheirs 93 = .ok (.iconst 0, 1) := by decide +kernel
theorem dX2_wouldBeTheirs_94 : decode cX2_wouldBeTheirs 94 = .ok (.ireturn, 1) := by decide +kernel
theorem dX2_isBack_0 : decode cX2_isBack 0 = .ok (.aload_n 0, 1) := by decide +kernel
theorem dX2_isBack_1 : decode cX2_isBack 1 = .ok (.getfield 21, 3) := by decide +kernel
theorem dX2_isBack_4 : decode cX2_isBack 4 = .ok (.getfield 150, 3) := by decide +kernel
theorem dX2_isBack_7 : decode cX2_isBack 7 = .ok (.iload_n 1, 1) := by decide +kernel
theorem dX2_isBack_8 : decode cX2_isBack 8 = .ok (.invokevirtual 154, 3) := by decide +kernel
theorem dX2_isBack_11 : decode cX2_isBack 11 = .ok (.ifCond .ne 5, 3) := by decide +kernel
theorem dX2_isBack_14 : decode cX2_isBack 14 = .ok (.iconst 0, 1) := by decide +kernel
theorem dX2_isBack_15 : decode cX2_isBack 15 = .ok (.ireturn, 1) := by decide +kernel
theorem dX2_isBack_16 : decode cX2_isBack 16 = .ok (.aload_n 0, 1) := by decide +kernel
theorem dX2_isBack_17 : decode cX2_isBack 17 = .ok (.getfield 21, 3) := by decide +kernel
theorem dX2_isBack_20 : decode cX2_isBack 20 = .ok (.getfield 150, 3) := by decide +kernel
theorem dX2_isBack_23 : decode cX2_isBack 23 = .ok (.getfield 157, 3) := by decide +kernel
theorem dX2_isBack_26 : decode cX2_isBack 26 = .ok (.iload_n 1, 1) := by decide +kernel
theorem dX2_isBack_27 : decode cX2_isBack 27 = .ok (.laload, 1) := by decide +kernel
theorem dX2_isBack_28 : decode cX2_isBack 28 = .ok (.lstore_n 2, 1) := by decide +kernel
theorem dX2_isBack_29 : decode cX2_isBack 29 = .ok (.lload_n 2, 1) := by decide +kernel
theorem dX2_isBack_30 : decode cX2_isBack 30 = .ok (.lconst 0, 1) := by decide +kernel
theorem dX2_isBack_31 : decode cX2_isBack 31 = .ok (.lcmp, 1) := by decide +kernel
theorem dX2_isBack_32 : decode cX2_isBack 32 = .ok (.ifCond .eq 30, 3) := by decide +kernel
theorem dX2_isBack_35 : decode cX2_isBack 35 = .ok (.aload_n 0, 1) := by decide +kernel
theorem dX2_isBack_36 : decode cX2_isBack 36 = .ok (.getfield 21, 3) := by decide +kernel
theorem dX2_isBack_39 : decode cX2_isBack 39 = .ok (.getfield 150, 3) := by decide +kernel
theorem dX2_isBack_42 : decode cX2_isBack 42 = .ok (.getfield 158, 3) := by decide +kernel
theorem dX2_isBack_45 : decode cX2_isBack 45 = .ok (.iload_n 1, 1) := by decide +kernel
theorem dX2_isBack_46 : decode cX2_isBack 46 = .ok (.iaload, 1) := by decide +kernel
theorem dX2_isBack_47 : decode cX2_isBack 47 = .ok (.aload_n 0, 1) := by decide +kernel
theorem dX2_isBack_48 : decode cX2_isBack 48 = .ok (.getfield 21, 3) := by decide +kernel
theorem dX2_isBack_51 : decode cX2_isBack 51 = .ok (.getfield 25, 3) := by decide +kernel
theorem dX2_isBack_54 : decode cX2_isBack 54 = .ok (.getfield 161, 3) := by decide +kernel
theorem dX2_isBack_57 : decode cX2_isBack 57 = .ok (.iconst 0, 1) := by decide +kernel
theorem dX2_isBack_58 : decode cX2_isBack 58 = .ok (.iaload, 1) := by decide +kernel
theorem dX2_isBack_59 : decode cX2_isBack 59 = .ok (.if_icmp .gt 5, 3) := by decide +kernel
theorem dX2_isBack_62 : decode cX2_isBack 62 = .ok (.iconst 0, 1) := by decide +kernel
theorem dX2_isBack_63 : decode cX2_isBack 63 = .ok (.ireturn, 1) := by decide +kernel
theorem dX2_isBack_64 : decode cX2_isBack 64 = .ok (.aload_n 0, 1) := by decide +kernel
theorem dX2_isBack_65 : decode cX2_isBack 65 = .ok (.bipush 8, 2) := by decide +kernel
theorem dX2_isBack_67 : decode cX2_isBack 67 = .ok (.lload_n 2, 1) := by decide +kernel
theorem dX2_isBack_68 : decode cX2_isBack 68 = .ok (.iconst (-1), 1) := by decide +kernel
theorem dX2_isBack_69 : decode cX2_isBack 69 = .ok (.invokevirtual 99, 3) := by decide +kernel
theorem dX2_isBack_72 : decode cX2_isBack 72 = .ok (.aload_n 0, 1) := by decide +kernel
theorem dX2_isBack_73 : decode cX2_isBack 73 = .ok (.getfield 21, 3) := by decide +kernel
theorem dX2_isBack_76 : decode cX2_isBack 76 = .ok (.getfield 103, 3) := by decide +kernel
theorem dX2_isBack_79 : decode cX2_isBack 79 = .ok (.if_icmp .lt 25, 3) := by decide +kernel
theorem dX2_isBack_82 : decode cX2_isBack 82 = .ok (.aload_n 0, 1) := by decide +kernel
theorem dX2_isBack_83 : decode cX2_isBack 83 = .ok (.bipush 6, 2) := by decide +kernel
theorem dX2_isBack_85 : decode cX2_isBack 85 = .ok (.lload_n 2, 1) := by decide +kernel
theorem dX2_isBack_86 : decode cX2_isBack 86 = .ok (.iconst (-1), 1) := by decide +kernel
theorem dX2_isBack_87 : decode cX2_isBack 87 = .ok (.invokevirtual 99, 3) := by decide +kernel
theorem dX2_isBack_90 : decode cX2_isBack 90 = .ok (.aload_n 0, 1) := by decide +kernel
theorem dX2_isBack_91 : decode cX2_isBack 91 = .ok (.getfield 21, 3) := by decide +kernel
theorem dX2_isBack_94 : decode cX2_isBack 94 = .ok (.getfield 103, 3) := by decide +kernel
theorem dX2_isBack_97 : decode cX2_isBack 97 = .ok (.if_icmp .ge 7, 3) := by decide +kernel
theorem dX2_isBack_100 : decode cX2_isBack 100 = .ok (.iconst 1, 1) := by decide +kernel
theorem dX2_isBack_101 : decode cX2_isBack 101 = .ok (.goto 4, 3) := by decide +kernel
theorem dX2_isBack_104 : decode cX2_isBack 104 = .ok (.iconst 0, 1) := by decide +kernel
theorem dX2_isBack_105 : decode cX2_isBack 105 = .ok (.ireturn, 1) := by decide +kernel
theorem dX2_isMuddled_0 : decode cX2_isMuddled 0 = .ok (.aload_n 0, 1) := by decide +kernel
theorem dX2_isMuddled_1 : decode cX2_isMuddled 1 = .ok (.getfield 21, 3) := by decide +kernel
theorem dX2_isMuddled_4 : decode cX2_isMuddled 4 = .ok (.getfield 150, 3) := by decide +kernel
theorem dX2_isMuddled_7 : decode cX2_isMuddled 7 = .ok (.iload_n 1, 1) := by decide +kernel
theorem dX2_isMuddled_8 : decode cX2_isMuddled 8 = .ok (.invokevirtual 154, 3) := by decide +kernel
theorem dX2_isMuddled_11 : decode cX2_isMuddled 11 = .ok (.ifCond .ne 5, 3) := by decide +kernel
theorem dX2_isMuddled_14 : decode cX2_isMuddled 14 = .ok (.iconst 0, 1) := by decide +kernel
theorem dX2_isMuddled_15 : decode cX2_isMuddled 15 = .ok (.ireturn, 1) := by decide +kernel
theorem dX2_isMuddled_16 : decode cX2_isMuddled 16 = .ok (.aload_n 0, 1) := by decide +kernel
theorem dX2_isMuddled_17 : decode cX2_isMuddled 17 = .ok (.getfield 21, 3) := by decide +kernel
theorem dX2_isMuddled_20 : decode cX2_isMuddled 20 = .ok (.getfield 150, 3) := by decide +kernel
theorem dX2_isMuddled_23 : decode cX2_isMuddled 23 = .ok (.getfield 157, 3) := by decide +kernel
theorem dX2_isMuddled_26 : decode cX2_isMuddled 26 = .ok (.iload_n 1, 1) := by decide +kernel
theorem dX2_isMuddled_27 : decode cX2_isMuddled 27 = .ok (.laload, 1) := by decide +kernel
theorem dX2_isMuddled_28 : decode cX2_isMuddled 28 = .ok (.lstore_n 2, 1) := by decide +kernel
theorem dX2_isMuddled_29 : decode cX2_isMuddled 29 = .ok (.lload_n 2, 1) := by decide +kernel
theorem dX2_isMuddled_30 : decode cX2_isMuddled 30 = .ok (.lconst 0, 1) := by decide +kernel
theorem dX2_isMuddled_31 : decode cX2_isMuddled 31 = .ok (.lcmp, 1) := by decide +kernel
theorem dX2_isMuddled_32 : decode cX2_isMuddled 32 = .ok (.ifCond .eq 19, 3) := by decide +kernel
theorem dX2_isMuddled_35 : decode cX2_isMuddled 35 = .ok (.aload_n 0, 1) := by decide +kernel
theorem dX2_isMuddled_36 : decode cX2_isMuddled 36 = .ok (.getfield 21, 3) := by decide +kernel
theorem dX2_isMuddled_39 : decode cX2_isMuddled 39 = .ok (.getfield 150, 3) := by decide +kernel
theorem dX2_isMuddled_42 : decode cX2_isMuddled 42 = .ok (.getfield 162, 3) := by decide +kernel
theorem dX2_isMuddled_45 : decode cX2_isMuddled 45 = .ok (.iload_n 1, 1) := by decide +kernel
theorem dX2_isMuddled_46 : decode cX2_isMuddled 46 = .ok (.iaload, 1) := by decide +kernel
theorem dX2_isMuddled_47 : decode cX2_isMuddled 47 = .ok (.iconst 1, 1) := by decide +kernel
theorem dX2_isMuddled_48 : decode cX2_isMuddled 48 = .ok (.if_icmp .eq 5, 3) := by decide +kernel
theorem dX2_isMuddled_51 : decode cX2_isMuddled 51 = .ok (.iconst 0, 1) := by decide +kernel
theorem dX2_isMuddled_52 : decode cX2_isMuddled 52 = .ok (.ireturn, 1) := by decide +kernel
theorem dX2_isMuddled_53 : decode cX2_isMuddled 53 = .ok (.aload_n 0, 1) := by decide +kernel
theorem dX2_isMuddled_54 : decode cX2_isMuddled 54 = .ok (.bipush 6, 2) := by decide +kernel
theorem dX2_isMuddled_56 : decode cX2_isMuddled 56 = .ok (.lload_n 2, 1) := by decide +kernel
theorem dX2_isMuddled_57 : decode cX2_isMuddled 57 = .ok (.iconst (-1), 1) := by decide +kernel
theorem dX2_isMuddled_58 : decode cX2_isMuddled 58 = .ok (.invokevirtual 99, 3) := by decide +kernel
theorem dX2_isMuddled_61 : decode cX2_isMuddled 61 = .ok (.aload_n 0, 1) := by decide +kernel
theorem dX2_isMuddled_62 : decode cX2_isMuddled 62 = .ok (.getfield 21, 3) := by decide +kernel
theorem dX2_isMuddled_65 : decode cX2_isMuddled 65 = .ok (.getfield 103, 3) := by decide +kernel
theorem dX2_isMuddled_68 : decode cX2_isMuddled 68 = .ok (.if_icmp .lt 25, 3) := by decide +kernel
theorem dX2_isMuddled_71 : decode cX2_isMuddled 71 = .ok (.aload_n 0, 1) := by decide +kernel
theorem dX2_isMuddled_72 : decode cX2_isMuddled 72 = .ok (.bipush 8, 2) := by decide +kernel
theorem dX2_isMuddled_74 : decode cX2_isMuddled 74 = .ok (.lload_n 2, 1) := by decide +kernel
theorem dX2_isMuddled_75 : decode cX2_isMuddled 75 = .ok (.iconst (-1), 1) := by decide +kernel
theorem dX2_isMuddled_76 : decode cX2_isMuddled 76 = .ok (.invokevirtual 99, 3) := by decide +kernel
theorem dX2_isMuddled_79 : decode cX2_isMuddled 79 = .ok (.aload_n 0, 1) := by decide +kernel
theorem dX2_isMuddled_80 : decode cX2_isMuddled 80 = .ok (.getfield 21, 3) := by decide +kernel
theorem dX2_isMuddled_83 : decode cX2_isMuddled 83 = .ok (.getfield 103, 3) := by decide +kernel
theorem dX2_isMuddled_86 : decode cX2_isMuddled 86 = .ok (.if_icmp .ge 7, 3) := by decide +kernel
theorem dX2_isMuddled_89 : decode cX2_isMuddled 89 = .ok (.iconst 1, 1) := by decide +kernel
theorem dX2_isMuddled_90 : decode cX2_isMuddled 90 = .ok (.goto 4, 3) := by decide +kernel
theorem dX2_isMuddled_93 : decode cX2_isMuddled 93 = .ok (.iconst 0, 1) := by decide +kernel
theorem dX2_isMuddled_94 : decode cX2_isMuddled 94 = .ok (.ireturn, 1) := by decide +kernel
theorem dX2_muddledAt_0 : decode cX2_muddledAt 0 = .ok (.iconst 0, 1) := by decide +kernel
theorem dX2_muddledAt_1 : decode cX2_muddledAt 1 = .ok (.istore_n 2, 1) := by decide +kernel
theorem dX2_muddledAt_2 : decode cX2_muddledAt 2 = .ok (.iconst 0, 1) := by decide +kernel
theorem dX2_muddledAt_3 : decode cX2_muddledAt 3 = .ok (.istore_n 3, 1) := by decide +kernel
theorem dX2_muddledAt_4 : decode cX2_muddledAt 4 = .ok (.iload_n 3, 1) := by decide +kernel
theorem dX2_muddledAt_5 : decode cX2_muddledAt 5 = .ok (.aload_n 0, 1) := by decide +kernel
theorem dX2_muddledAt_6 : decode cX2_muddledAt 6 = .ok (.getfield 21, 3) := by decide +kernel
theorem dX2_muddledAt_9 : decode cX2_muddledAt 9 = .ok (.getfield 150, 3) := by decide +kernel
theorem dX2_muddledAt_12 : decode cX2_muddledAt 12 = .ok (.getfield 165, 3) := by decide +kernel
theorem dX2_muddledAt_15 : decode cX2_muddledAt 15 = .ok (.if_icmp .ge 30, 3) := by decide +kernel
theorem dX2_muddledAt_18 : decode cX2_muddledAt 18 = .ok (.aload_n 0, 1) := by decide +kernel
theorem dX2_muddledAt_19 : decode cX2_muddledAt 19 = .ok (.iload_n 3, 1) := by decide +kernel
theorem dX2_muddledAt_20 : decode cX2_muddledAt 20 = .ok (.invokevirtual 166, 3) := by decide +kernel
theorem dX2_muddledAt_23 : decode cX2_muddledAt 23 = .ok (.ifCond .ne 6, 3) := by decide +kernel
theorem dX2_muddledAt_26 : decode cX2_muddledAt 26 = .ok (.goto 13, 3) := by decide +kernel
theorem dX2_muddledAt_29 : decode cX2_muddledAt 29 = .ok (.iload_n 2, 1) := by decide +kernel
theorem dX2_muddledAt_30 : decode cX2_muddledAt 30 = .ok (.iload_n 1, 1) := by decide +kernel
theorem dX2_muddledAt_31 : decode cX2_muddledAt 31 = .ok (.if_icmp .ne 5, 3) := by decide +kernel
theorem dX2_muddledAt_34 : decode cX2_muddledAt 34 = .ok (.iload_n 3, 1) := by decide +kernel
theorem dX2_muddledAt_35 : decode cX2_muddledAt 35 = .ok (.ireturn, 1) := by decide +kernel
theorem dX2_muddledAt_36 : decode cX2_muddledAt 36 = .ok (.iinc 2 1, 3) := by decide +kernel
theorem dX2_muddledAt_39 : decode cX2_muddledAt 39 = .ok (.iinc 3 1, 3) := by decide +kernel
theorem dX2_muddledAt_42 : decode cX2_muddledAt 42 = .ok (.goto (-38), 3) := by decide +kernel
theorem dX2_muddledAt_45 : decode cX2_muddledAt 45 = .ok (.iload_n 1, 1) := by decide +kernel
theorem dX2_muddledAt_46 : decode cX2_muddledAt 46 = .ok (.iconst (-1), 1) := by decide +kernel
theorem dX2_muddledAt_47 : decode cX2_muddledAt 47 = .ok (.if_icmp .ne 7, 3) := by decide +kernel
theorem dX2_muddledAt_50 : decode cX2_muddledAt 50 = .ok (.iload_n 2, 1) := by decide +kernel
theorem dX2_muddledAt_51 : decode cX2_muddledAt 51 = .ok (.goto 4, 3) := by decide +kernel
theorem dX2_muddledAt_54 : decode cX2_muddledAt 54 = .ok (.iconst (-1), 1) := by decide +kernel
theorem dX2_muddledAt_55 : decode cX2_muddledAt 55 = .ok (.ireturn, 1) := by decide +kernel
theorem dX2_partedBy_0 : decode cX2_partedBy 0 = .ok (.iconst 0, 1) := by decide +kernel
theorem dX2_partedBy_1 : decode cX2_partedBy 1 = .ok (.istore_n 3, 1) := by decide +kernel
theorem dX2_partedBy_2 : decode cX2_partedBy 2 = .ok (.iconst 0, 1) := by decide +kernel
theorem dX2_partedBy_3 : decode cX2_partedBy 3 = .ok (.istore 4, 2) := by decide +kernel
theorem dX2_partedBy_5 : decode cX2_partedBy 5 = .ok (.iload 4, 2) := by decide +kernel
theorem dX2_partedBy_7 : decode cX2_partedBy 7 = .ok (.aload_n 0, 1) := by decide +kernel
theorem dX2_partedBy_8 : decode cX2_partedBy 8 = .ok (.getfield 21, 3) := by decide +kernel
theorem dX2_partedBy_11 : decode cX2_partedBy 11 = .ok (.getfield 150, 3) := by decide +kernel
theorem dX2_partedBy_14 : decode cX2_partedBy 14 = .ok (.getfield 165, 3) := by decide +kernel
theorem dX2_partedBy_17 : decode cX2_partedBy 17 = .ok (.if_icmp .ge 54, 3) := by decide +kernel
theorem dX2_partedBy_20 : decode cX2_partedBy 20 = .ok (.aload_n 0, 1) := by decide +kernel
theorem dX2_partedBy_21 : decode cX2_partedBy 21 = .ok (.getfield 21, 3) := by decide +kernel
theorem dX2_partedBy_24 : decode cX2_partedBy 24 = .ok (.getfield 150, 3) := by decide +kernel
theorem dX2_partedBy_27 : decode cX2_partedBy 27 = .ok (.iload 4, 2) := by decide +kernel
theorem dX2_partedBy_29 : decode cX2_partedBy 29 = .ok (.iload_n 1, 1) := by decide +kernel
theorem dX2_partedBy_30 : decode cX2_partedBy 30 = .ok (.invokevirtual 169, 3) := by decide +kernel
theorem dX2_partedBy_33 : decode cX2_partedBy 33 = .ok (.iload_n 2, 1) := by decide +kernel
theorem dX2_partedBy_34 : decode cX2_partedBy 34 = .ok (.if_icmp .ne 31, 3) := by decide +kernel
theorem dX2_partedBy_37 : decode cX2_partedBy 37 = .ok (.aload_n 0, 1) := by decide +kernel
theorem dX2_partedBy_38 : decode cX2_partedBy 38 = .ok (.iload 4, 2) := by decide +kernel
theorem dX2_partedBy_40 : decode cX2_partedBy 40 = .ok (.invokevirtual 172, 3) := by decide +kernel
theorem dX2_partedBy_43 : decode cX2_partedBy 43 = .ok (.ifCond .ne 22, 3) := by decide +kernel
theorem dX2_partedBy_46 : decode cX2_partedBy 46 = .ok (.iload_n 3, 1) := by decide +kernel
theorem dX2_partedBy_47 : decode cX2_partedBy 47 = .ok (.bipush 10, 2) := by decide +kernel
theorem dX2_partedBy_49 : decode cX2_partedBy 49 = .ok (.aload_n 0, 1) := by decide +kernel
theorem dX2_partedBy_50 : decode cX2_partedBy 50 = .ok (.getfield 21, 3) := by decide +kernel
theorem dX2_partedBy_53 : decode cX2_partedBy 53 = .ok (.getfield 150, 3) := by decide +kernel
theorem dX2_partedBy_56 : decode cX2_partedBy 56 = .ok (.getfield 175, 3) := by decide +kernel
theorem dX2_partedBy_59 : decode cX2_partedBy 59 = .ok (.iload 4, 2) := by decide +kernel
theorem dX2_partedBy_61 : decode cX2_partedBy 61 = .ok (.iaload, 1) := by decide +kernel
theorem dX2_partedBy_62 : decode cX2_partedBy 62 = .ok (.isub, 1) := by decide +kernel
theorem dX2_partedBy_63 : decode cX2_partedBy 63 = .ok (.iadd, 1) := by decide +kernel
theorem dX2_partedBy_64 : decode cX2_partedBy 64 = .ok (.istore_n 3, 1) := by decide +kernel
theorem dX2_partedBy_65 : decode cX2_partedBy 65 = .ok (.iinc 4 1, 3) := by decide +kernel
theorem dX2_partedBy_68 : decode cX2_partedBy 68 = .ok (.goto (-63), 3) := by decide +kernel
theorem dX2_partedBy_71 : decode cX2_partedBy 71 = .ok (.iload_n 3, 1) := by decide +kernel
theorem dX2_partedBy_72 : decode cX2_partedBy 72 = .ok (.ireturn, 1) := by decide +kernel
theorem dX2_isCounted_0 : decode cX2_isCounted 0 = .ok (.iload_n 2, 1) := by decide +kernel
theorem dX2_isCounted_1 : decode cX2_isCounted 1 = .ok (.tableswitch 73 0 2 #[27, 29, 51], 27) := by decide +kernel
theorem dX2_isCounted_28 : decode cX2_isCounted 28 = .ok (.iconst 1, 1) := by decide +kernel
theorem dX2_isCounted_29 : decode cX2_isCounted 29 = .ok (.ireturn, 1) := by decide +kernel
theorem dX2_isCounted_30 : decode cX2_isCounted 30 = .ok (.aload_n 0, 1) := by decide +kernel
theorem dX2_isCounted_31 : decode cX2_isCounted 31 = .ok (.getfield 21, 3) := by decide +kernel
theorem dX2_isCounted_34 : decode cX2_isCounted 34 = .ok (.getfield 150, 3) := by decide +kernel
theorem dX2_isCounted_37 : decode cX2_isCounted 37 = .ok (.iload_n 1, 1) := by decide +kernel
theorem dX2_isCounted_38 : decode cX2_isCounted 38 = .ok (.iconst 0, 1) := by decide +kernel
theorem dX2_isCounted_39 : decode cX2_isCounted 39 = .ok (.invokevirtual 169, 3) := by decide +kernel
theorem dX2_isCounted_42 : decode cX2_isCounted 42 = .ok (.iconst 1, 1) := by decide +kernel
theorem dX2_isCounted_43 : decode cX2_isCounted 43 = .ok (.if_icmp .ne 7, 3) := by decide +kernel
theorem dX2_isCounted_46 : decode cX2_isCounted 46 = .ok (.iconst 1, 1) := by decide +kernel
theorem dX2_isCounted_47 : decode cX2_isCounted 47 = .ok (.goto 4, 3) := by decide +kernel
theorem dX2_isCounted_50 : decode cX2_isCounted 50 = .ok (.iconst 0, 1) := by decide +kernel
theorem dX2_isCounted_51 : decode cX2_isCounted 51 = .ok (.ireturn, 1) := by decide +kernel
theorem dX2_isCounted_52 : decode cX2_isCounted 52 = .ok (.aload_n 0, 1) := by decide +kernel
theorem dX2_isCounted_53 : decode cX2_isCounted 53 = .ok (.getfield 21, 3) := by decide +kernel
theorem dX2_isCounted_56 : decode cX2_isCounted 56 = .ok (.getfield 150, 3) := by decide +kernel
theorem dX2_isCounted_59 : decode cX2_isCounted 59 = .ok (.iload_n 1, 1) := by decide +kernel
theorem dX2_isCounted_60 : decode cX2_isCounted 60 = .ok (.iconst 1, 1) := by decide +kernel
theorem dX2_isCounted_61 : decode cX2_isCounted 61 = .ok (.invokevirtual 169, 3) := by decide +kernel
theorem dX2_isCounted_64 : decode cX2_isCounted 64 = .ok (.iconst 1, 1) := by decide +kernel
theorem dX2_isCounted_65 : decode cX2_isCounted 65 = .ok (.if_icmp .ne 7, 3) := by decide +kernel
theorem dX2_isCounted_68 : decode cX2_isCounted 68 = .ok (.iconst 1, 1) := by decide +kernel
theorem dX2_isCounted_69 : decode cX2_isCounted 69 = .ok (.goto 4, 3) := by decide +kernel
theorem dX2_isCounted_72 : decode cX2_isCounted 72 = .ok (.iconst 0, 1) := by decide +kernel
theorem dX2_isCounted_73 : decode cX2_isCounted 73 = .ok (.ireturn, 1) := by decide +kernel
theorem dX2_isCounted_74 : decode cX2_isCounted 74 = .ok (.aload_n 0, 1) := by decide +kernel
theorem dX2_isCounted_75 : decode cX2_isCounted 75 = .ok (.iload_n 1, 1) := by decide +kernel
theorem dX2_isCounted_76 : decode cX2_isCounted 76 = .ok (.invokevirtual 172, 3) := by decide +kernel
theorem dX2_isCounted_79 : decode cX2_isCounted 79 = .ok (.ireturn, 1) := by decide +kernel
theorem dX3_init_0 : decode cX3_init 0 = .ok (.aload_n 0, 1) := by decide +kernel
theorem dX3_init_1 : decode cX3_init 1 = .ok (.invokespecial 3, 3) := by decide +kernel
theorem dX3_init_4 : decode cX3_init 4 = .ok (.aload_n 0, 1) := by decide +kernel
theorem dX3_init_5 : decode cX3_init 5 = .ok (.sipush 256, 3) := by decide +kernel
theorem dX3_init_8 : decode cX3_init 8 = .ok (.newarray .int, 2) := by decide +kernel
theorem dX3_init_10 : decode cX3_init 10 = .ok (.putfield 9, 3) := by decide +kernel
theorem dX3_init_13 : decode cX3_init 13 = .ok (.return_, 1) := by decide +kernel
theorem dX3_copy_0 : decode cX3_copy 0 = .ok (.aload_n 0, 1) := by decide +kernel
theorem dX3_copy_1 : decode cX3_copy 1 = .ok (.aload_n 1, 1) := by decide +kernel
theorem dX3_copy_2 : decode cX3_copy 2 = .ok (.getfield 15, 3) := by decide +kernel
theorem dX3_copy_5 : decode cX3_copy 5 = .ok (.putfield 15, 3) := by decide +kernel
theorem dX3_copy_8 : decode cX3_copy 8 = .ok (.aload_n 0, 1) := by decide +kernel
theorem dX3_copy_9 : decode cX3_copy 9 = .ok (.aload_n 1, 1) := by decide +kernel
theorem dX3_copy_10 : decode cX3_copy 10 = .ok (.getfield 19, 3) := by decide +kernel
theorem dX3_copy_13 : decode cX3_copy 13 = .ok (.putfield 19, 3) := by decide +kernel
theorem dX3_copy_16 : decode cX3_copy 16 = .ok (.aload_n 0, 1) := by decide +kernel
theorem dX3_copy_17 : decode cX3_copy 17 = .ok (.aload_n 1, 1) := by decide +kernel
theorem dX3_copy_18 : decode cX3_copy 18 = .ok (.getfield 22, 3) := by decide +kernel
theorem dX3_copy_21 : decode cX3_copy 21 = .ok (.putfield 22, 3) := by decide +kernel
theorem dX3_copy_24 : decode cX3_copy 24 = .ok (.aload_n 0, 1) := by decide +kernel
theorem dX3_copy_25 : decode cX3_copy 25 = .ok (.aload_n 1, 1) := by decide +kernel
theorem dX3_copy_26 : decode cX3_copy 26 = .ok (.getfield 25, 3) := by decide +kernel
theorem dX3_copy_29 : decode cX3_copy 29 = .ok (.putfield 25, 3) := by decide +kernel
theorem dX3_copy_32 : decode cX3_copy 32 = .ok (.aload_n 1, 1) := by decide +kernel
theorem dX3_copy_33 : decode cX3_copy 33 = .ok (.getfield 9, 3) := by decide +kernel
theorem dX3_copy_36 : decode cX3_copy 36 = .ok (.iconst 0, 1) := by decide +kernel
theorem dX3_copy_37 : decode cX3_copy 37 = .ok (.aload_n 0, 1) := by decide +kernel
theorem dX3_copy_38 : decode cX3_copy 38 = .ok (.getfield 9, 3) := by decide +kernel
theorem dX3_copy_41 : decode cX3_copy 41 = .ok (.iconst 0, 1) := by decide +kernel
theorem dX3_copy_42 : decode cX3_copy 42 = .ok (.sipush 256, 3) := by decide +kernel
theorem dX3_copy_45 : decode cX3_copy 45 = .ok (.invokestatic 28, 3) := by decide +kernel
theorem dX3_copy_48 : decode cX3_copy 48 = .ok (.return_, 1) := by decide +kernel
theorem dX3_clear_0 : decode cX3_clear 0 = .ok (.aload_n 0, 1) := by decide +kernel
theorem dX3_clear_1 : decode cX3_clear 1 = .ok (.iconst 0, 1) := by decide +kernel
theorem dX3_clear_2 : decode cX3_clear 2 = .ok (.putfield 15, 3) := by decide +kernel
theorem dX3_clear_5 : decode cX3_clear 5 = .ok (.aload_n 0, 1) := by decide +kernel
theorem dX3_clear_6 : decode cX3_clear 6 = .ok (.iconst 0, 1) := by decide +kernel
theorem dX3_clear_7 : decode cX3_clear 7 = .ok (.putfield 19, 3) := by decide +kernel
theorem dX3_clear_10 : decode cX3_clear 10 = .ok (.aload_n 0, 1) := by decide +kernel
theorem dX3_clear_11 : decode cX3_clear 11 = .ok (.iconst 0, 1) := by decide +kernel
theorem dX3_clear_12 : decode cX3_clear 12 = .ok (.putfield 22, 3) := by decide +kernel
theorem dX3_clear_15 : decode cX3_clear 15 = .ok (.aload_n 0, 1) := by decide +kernel
theorem dX3_clear_16 : decode cX3_clear 16 = .ok (.iconst 0, 1) := by decide +kernel
theorem dX3_clear_17 : decode cX3_clear 17 = .ok (.putfield 25, 3) := by decide +kernel
theorem dX3_clear_20 : decode cX3_clear 20 = .ok (.aload_n 0, 1) := by decide +kernel
theorem dX3_clear_21 : decode cX3_clear 21 = .ok (.getfield 9, 3) := by decide +kernel
theorem dX3_clear_24 : decode cX3_clear 24 = .ok (.iconst 0, 1) := by decide +kernel
theorem dX3_clear_25 : decode cX3_clear 25 = .ok (.invokestatic 34, 3) := by decide +kernel
theorem dX3_clear_28 : decode cX3_clear 28 = .ok (.return_, 1) := by decide +kernel
theorem dX3_putChance_0 : decode cX3_putChance 0 = .ok (.iload_n 1, 1) := by decide +kernel
theorem dX3_putChance_1 : decode cX3_putChance 1 = .ok (.bipush 14, 2) := by decide +kernel
theorem dX3_putChance_3 : decode cX3_putChance 3 = .ok (.if_icmp .ne 8, 3) := by decide +kernel
theorem dX3_putChance_6 : decode cX3_putChance 6 = .ok (.aload_n 0, 1) := by decide +kernel
theorem dX3_putChance_7 : decode cX3_putChance 7 = .ok (.iload_n 2, 1) := by decide +kernel
theorem dX3_putChance_8 : decode cX3_putChance 8 = .ok (.putfield 19, 3) := by decide +kernel
theorem dX3_putChance_11 : decode cX3_putChance 11 = .ok (.iload_n 1, 1) := by decide +kernel
theorem dX3_putChance_12 : decode cX3_putChance 12 = .ok (.bipush 15, 2) := by decide +kernel
theorem dX3_putChance_14 : decode cX3_putChance 14 = .ok (.if_icmp .ne 8, 3) := by decide +kernel
theorem dX3_putChance_17 : decode cX3_putChance 17 = .ok (.aload_n 0, 1) := by decide +kernel
theorem dX3_putChance_18 : decode cX3_putChance 18 = .ok (.iload_n 2, 1) := by decide +kernel
theorem dX3_putChance_19 : decode cX3_putChance 19 = .ok (.putfield 22, 3) := by decide +kernel
theorem dX3_putChance_22 : decode cX3_putChance 22 = .ok (.iload_n 1, 1) := by decide +kernel
theorem dX3_putChance_23 : decode cX3_putChance 23 = .ok (.bipush 16, 2) := by decide +kernel
theorem dX3_putChance_25 : decode cX3_putChance 25 = .ok (.if_icmp .ne 8, 3) := by decide +kernel
theorem dX3_putChance_28 : decode cX3_putChance 28 = .ok (.aload_n 0, 1) := by decide +kernel
theorem dX3_putChance_29 : decode cX3_putChance 29 = .ok (.iload_n 2, 1) := by decide +kernel
theorem dX3_putChance_30 : decode cX3_putChance 30 = .ok (.putfield 25, 3) := by decide +kernel
theorem dX3_putChance_33 : decode cX3_putChance 33 = .ok (.return_, 1) := by decide +kernel
theorem dX3_putSaying_0 : decode cX3_putSaying 0 = .ok (.iload_n 2, 1) := by decide +kernel
theorem dX3_putSaying_1 : decode cX3_putSaying 1 = .ok (.ifCond .lt 26, 3) := by decide +kernel
theorem dX3_putSaying_4 : decode cX3_putSaying 4 = .ok (.iload_n 2, 1) := by decide +kernel
theorem dX3_putSaying_5 : decode cX3_putSaying 5 = .ok (.sipush 255, 3) := by decide +kernel
theorem dX3_putSaying_8 : decode cX3_putSaying 8 = .ok (.if_icmp .gt 19, 3) := by decide +kernel
theorem dX3_putSaying_11 : decode cX3_putSaying 11 = .ok (.aload_n 0, 1) := by decide +kernel
theorem dX3_putSaying_12 : decode cX3_putSaying 12 = .ok (.getfield 9, 3) := by decide +kernel
theorem dX3_putSaying_15 : decode cX3_putSaying 15 = .ok (.iload_n 2, 1) := by decide +kernel
theorem dX3_putSaying_16 : decode cX3_putSaying 16 = .ok (.iaload, 1) := by decide +kernel
theorem dX3_putSaying_17 : decode cX3_putSaying 17 = .ok (.ifCond .ne 10, 3) := by decide +kernel
theorem dX3_putSaying_20 : decode cX3_putSaying 20 = .ok (.aload_n 0, 1) := by decide +kernel
theorem dX3_putSaying_21 : decode cX3_putSaying 21 = .ok (.getfield 9, 3) := by decide +kernel
theorem dX3_putSaying_24 : decode cX3_putSaying 24 = .ok (.iload_n 2, 1) := by decide +kernel
theorem dX3_putSaying_25 : decode cX3_putSaying 25 = .ok (.iload_n 1, 1) := by decide +kernel
theorem dX3_putSaying_26 : decode cX3_putSaying 26 = .ok (.iastore, 1) := by decide +kernel
theorem dX3_putSaying_27 : decode cX3_putSaying 27 = .ok (.return_, 1) := by decide +kernel
theorem dX3_respoken_0 : decode cX3_respoken 0 = .ok (.lconst 0, 1) := by decide +kernel
theorem dX3_respoken_1 : decode cX3_respoken 1 = .ok (.lstore_n 3, 1) := by decide +kernel
theorem dX3_respoken_2 : decode cX3_respoken 2 = .ok (.iconst 0, 1) := by decide +kernel
theorem dX3_respoken_3 : decode cX3_respoken 3 = .ok (.istore 5, 2) := by decide +kernel
theorem dX3_respoken_5 : decode cX3_respoken 5 = .ok (.iload 5, 2) := by decide +kernel
theorem dX3_respoken_7 : decode cX3_respoken 7 = .ok (.bipush 8, 2) := by decide +kernel
theorem dX3_respoken_9 : decode cX3_respoken 9 = .ok (.if_icmp .ge 50, 3) := by decide +kernel
theorem dX3_respoken_12 : decode cX3_respoken 12 = .ok (.lload_n 1, 1) := by decide +kernel
theorem dX3_respoken_13 : decode cX3_respoken 13 = .ok (.iload 5, 2) := by decide +kernel
theorem dX3_respoken_15 : decode cX3_respoken 15 = .ok (.invokestatic 42, 3) := by decide +kernel
theorem dX3_respoken_18 : decode cX3_respoken 18 = .ok (.istore 6, 2) := by decide +kernel
theorem dX3_respoken_20 : decode cX3_respoken 20 = .ok (.aload_n 0, 1) := by decide +kernel
theorem dX3_respoken_21 : decode cX3_respoken 21 = .ok (.getfield 9, 3) := by decide +kernel
theorem dX3_respoken_24 : decode cX3_respoken 24 = .ok (.iload 6, 2) := by decide +kernel
theorem dX3_respoken_26 : decode cX3_respoken 26 = .ok (.iaload, 1) := by decide +kernel
theorem dX3_respoken_27 : decode cX3_respoken 27 = .ok (.ifCond .ne 8, 3) := by decide +kernel
theorem dX3_respoken_30 : decode cX3_respoken 30 = .ok (.iload 6, 2) := by decide +kernel
theorem dX3_respoken_32 : decode cX3_respoken 32 = .ok (.goto 10, 3) := by decide +kernel
theorem dX3_respoken_35 : decode cX3_respoken 35 = .ok (.aload_n 0, 1) := by decide +kernel
theorem dX3_respoken_36 : decode cX3_respoken 36 = .ok (.getfield 9, 3) := by decide +kernel
theorem dX3_respoken_39 : decode cX3_respoken 39 = .ok (.iload 6, 2) := by decide +kernel
theorem dX3_respoken_41 : decode cX3_respoken 41 = .ok (.iaload, 1) := by decide +kernel
theorem dX3_respoken_42 : decode cX3_respoken 42 = .ok (.istore 7, 2) := by decide +kernel
theorem dX3_respoken_44 : decode cX3_respoken 44 = .ok (.lload_n 3, 1) := by decide +kernel
theorem dX3_respoken_45 : decode cX3_respoken 45 = .ok (.bipush 8, 2) := by decide +kernel
theorem dX3_respoken_47 : decode cX3_respoken 47 = .ok (.lshl, 1) := by decide +kernel
theorem dX3_respoken_48 : decode cX3_respoken 48 = .ok (.iload 7, 2) := by decide +kernel
theorem dX3_respoken_50 : decode cX3_respoken 50 = .ok (.i2l, 1) := by decide +kernel
theorem dX3_respoken_51 : decode cX3_respoken 51 = .ok (.lor, 1) := by decide +kernel
theorem dX3_respoken_52 : decode cX3_respoken 52 = .ok (.lstore_n 3, 1) := by decide +kernel
theorem dX3_respoken_53 : decode cX3_respoken 53 = .ok (.iinc 5 1, 3) := by decide +kernel
theorem dX3_respoken_56 : decode cX3_respoken 56 = .ok (.goto (-51), 3) := by decide +kernel
theorem dX3_respoken_59 : decode cX3_respoken 59 = .ok (.lload_n 3, 1) := by decide +kernel
theorem dX3_respoken_60 : decode cX3_respoken 60 = .ok (.lreturn, 1) := by decide +kernel
theorem dX3_next_0 : decode cX3_next 0 = .ok (.ldc 48, 2) := by decide +kernel
theorem dX3_next_2 : decode cX3_next 2 = .ok (.iload_n 0, 1) := by decide +kernel
theorem dX3_next_3 : decode cX3_next 3 = .ok (.imul, 1) := by decide +kernel
theorem dX3_next_4 : decode cX3_next 4 = .ok (.sipush 12345, 3) := by decide +kernel
theorem dX3_next_7 : decode cX3_next 7 = .ok (.iadd, 1) := by decide +kernel
theorem dX3_next_8 : decode cX3_next 8 = .ok (.ireturn, 1) := by decide +kernel
theorem dX3_drawn_0 : decode cX3_drawn 0 = .ok (.iload_n 0, 1) := by decide +kernel
theorem dX3_drawn_1 : decode cX3_drawn 1 = .ok (.bipush 16, 2) := by decide +kernel
theorem dX3_drawn_3 : decode cX3_drawn 3 = .ok (.iushr, 1) := by decide +kernel
theorem dX3_drawn_4 : decode cX3_drawn 4 = .ok (.bipush 100, 2) := by decide +kernel
theorem dX3_drawn_6 : decode cX3_drawn 6 = .ok (.irem, 1) := by decide +kernel
theorem dX3_drawn_7 : decode cX3_drawn 7 = .ok (.ireturn, 1) := by decide +kernel
theorem dX4_length_0 : decode cX4_length 0 = .ok (.iconst 0, 1) := by decide +kernel
theorem dX4_length_1 : decode cX4_length 1 = .ok (.istore_n 2, 1) := by decide +kernel
theorem dX4_length_2 : decode cX4_length 2 = .ok (.iload_n 2, 1) := by decide +kernel
theorem dX4_length_3 : decode cX4_length 3 = .ok (.bipush 8, 2) := by decide +kernel
theorem dX4_length_5 : decode cX4_length 5 = .ok (.if_icmp .ge 19, 3) := by decide +kernel
theorem dX4_length_8 : decode cX4_length 8 = .ok (.lload_n 0, 1) := by decide +kernel
theorem dX4_length_9 : decode cX4_length 9 = .ok (.iload_n 2, 1) := by decide +kernel
theorem dX4_length_10 : decode cX4_length 10 = .ok (.invokestatic 9, 3) := by decide +kernel
theorem dX4_length_13 : decode cX4_length 13 = .ok (.ifCond .ne 5, 3) := by decide +kernel
theorem dX4_length_16 : decode cX4_length 16 = .ok (.iload_n 2, 1) := by decide +kernel
theorem dX4_length_17 : decode cX4_length 17 = .ok (.ireturn, 1) := by decide +kernel
theorem dX4_length_18 : decode cX4_length 18 = .ok (.iinc 2 1, 3) := by decide +kernel
theorem dX4_length_21 : decode cX4_length 21 = .ok (.goto (-19), 3) := by decide +kernel
theorem dX4_length_24 : decode cX4_length 24 = .ok (.bipush 8, 2) := by decide +kernel
theorem dX4_length_26 : decode cX4_length 26 = .ok (.ireturn, 1) := by decide +kernel
theorem dX4_word_0 : decode cX4_word 0 = .ok (.lload_n 0, 1) := by decide +kernel
theorem dX4_word_1 : decode cX4_word 1 = .ok (.bipush 56, 2) := by decide +kernel
theorem dX4_word_3 : decode cX4_word 3 = .ok (.bipush 8, 2) := by decide +kernel
theorem dX4_word_5 : decode cX4_word 5 = .ok (.iload_n 2, 1) := by decide +kernel
theorem dX4_word_6 : decode cX4_word 6 = .ok (.imul, 1) := by decide +kernel
theorem dX4_word_7 : decode cX4_word 7 = .ok (.isub, 1) := by decide +kernel
theorem dX4_word_8 : decode cX4_word 8 = .ok (.lushr, 1) := by decide +kernel
theorem dX4_word_9 : decode cX4_word 9 = .ok (.l2i, 1) := by decide +kernel
theorem dX4_word_10 : decode cX4_word 10 = .ok (.sipush 255, 3) := by decide +kernel
theorem dX4_word_13 : decode cX4_word 13 = .ok (.iand, 1) := by decide +kernel
theorem dX4_word_14 : decode cX4_word 14 = .ok (.ireturn, 1) := by decide +kernel
theorem dX4_clean_0 : decode cX4_clean 0 = .ok (.lload_n 0, 1) := by decide +kernel
theorem dX4_clean_1 : decode cX4_clean 1 = .ok (.lload_n 0, 1) := by decide +kernel
theorem dX4_clean_2 : decode cX4_clean 2 = .ok (.invokestatic 15, 3) := by decide +kernel
theorem dX4_clean_5 : decode cX4_clean 5 = .ok (.invokestatic 19, 3) := by decide +kernel
theorem dX4_clean_8 : decode cX4_clean 8 = .ok (.lreturn, 1) := by decide +kernel
theorem dX4_head_0 : decode cX4_head 0 = .ok (.iload_n 2, 1) := by decide +kernel
theorem dX4_head_1 : decode cX4_head 1 = .ok (.ifCond .gt 5, 3) := by decide +kernel
theorem dX4_head_4 : decode cX4_head 4 = .ok (.lconst 0, 1) := by decide +kernel
theorem dX4_head_5 : decode cX4_head 5 = .ok (.lreturn, 1) := by decide +kernel
theorem dX4_head_6 : decode cX4_head 6 = .ok (.iload_n 2, 1) := by decide +kernel
theorem dX4_head_7 : decode cX4_head 7 = .ok (.bipush 8, 2) := by decide +kernel
theorem dX4_head_9 : decode cX4_head 9 = .ok (.if_icmp .lt 7, 3) := by decide +kernel
theorem dX4_head_12 : decode cX4_head 12 = .ok (.lload_n 0, 1) := by decide +kernel
theorem dX4_head_13 : decode cX4_head 13 = .ok (.goto 16, 3) := by decide +kernel
theorem dX4_head_16 : decode cX4_head 16 = .ok (.lload_n 0, 1) := by decide +kernel
theorem dX4_head_17 : decode cX4_head 17 = .ok (.ldc2_w 23, 3) := by decide +kernel
theorem dX4_head_20 : decode cX4_head 20 = .ok (.bipush 64, 2) := by decide +kernel
theorem dX4_head_22 : decode cX4_head 22 = .ok (.bipush 8, 2) := by decide +kernel
theorem dX4_head_24 : decode cX4_head 24 = .ok (.iload_n 2, 1) := by decide +kernel
theorem dX4_head_25 : decode cX4_head 25 = .ok (.imul, 1) := by decide +kernel
theorem dX4_head_26 : decode cX4_head 26 = .ok (.isub, 1) := by decide +kernel
theorem dX4_head_27 : decode cX4_head 27 = .ok (.lshl, 1) := by decide +kernel
theorem dX4_head_28 : decode cX4_head 28 = .ok (.land, 1) := by decide +kernel
theorem dX4_head_29 : decode cX4_head 29 = .ok (.lreturn, 1) := by decide +kernel
theorem dX4_without_0 : decode cX4_without 0 = .ok (.iload_n 2, 1) := by decide +kernel
theorem dX4_without_1 : decode cX4_without 1 = .ok (.bipush 8, 2) := by decide +kernel
theorem dX4_without_3 : decode cX4_without 3 = .ok (.if_icmp .lt 7, 3) := by decide +kernel
theorem dX4_without_6 : decode cX4_without 6 = .ok (.lconst 0, 1) := by decide +kernel
theorem dX4_without_7 : decode cX4_without 7 = .ok (.goto 9, 3) := by decide +kernel
theorem dX4_without_10 : decode cX4_without 10 = .ok (.lload_n 0, 1) := by decide +kernel
theorem dX4_without_11 : decode cX4_without 11 = .ok (.bipush 8, 2) := by decide +kernel
theorem dX4_without_13 : decode cX4_without 13 = .ok (.iload_n 2, 1) := by decide +kernel
theorem dX4_without_14 : decode cX4_without 14 = .ok (.imul, 1) := by decide +kernel
theorem dX4_without_15 : decode cX4_without 15 = .ok (.lshl, 1) := by decide +kernel
theorem dX4_without_16 : decode cX4_without 16 = .ok (.lreturn, 1) := by decide +kernel
theorem dX4_behind_0 : decode cX4_behind 0 = .ok (.iload_n 2, 1) := by decide +kernel
theorem dX4_behind_1 : decode cX4_behind 1 = .ok (.bipush 8, 2) := by decide +kernel
theorem dX4_behind_3 : decode cX4_behind 3 = .ok (.if_icmp .lt 7, 3) := by decide +kernel
theorem dX4_behind_6 : decode cX4_behind 6 = .ok (.lconst 0, 1) := by decide +kernel
theorem dX4_behind_7 : decode cX4_behind 7 = .ok (.goto 9, 3) := by decide +kernel
theorem dX4_behind_10 : decode cX4_behind 10 = .ok (.lload_n 0, 1) := by decide +kernel
theorem dX4_behind_11 : decode cX4_behind 11 = .ok (.bipush 8, 2) := by decide +kernel
theorem dX4_behind_13 : decode cX4_behind 13 = .ok (.iload_n 2, 1) := by decide +kernel
theorem dX4_behind_14 : decode cX4_behind 14 = .ok (.imul, 1) := by decide +kernel
theorem dX4_behind_15 : decode cX4_behind 15 = .ok (.lushr, 1) := by decide +kernel
theorem dX4_behind_16 : decode cX4_behind 16 = .ok (.lreturn, 1) := by decide +kernel
theorem dX4_alike_0 : decode cX4_alike 0 = .ok (.lload_n 0, 1) := by decide +kernel
theorem dX4_alike_1 : decode cX4_alike 1 = .ok (.lload_n 2, 1) := by decide +kernel
theorem dX4_alike_2 : decode cX4_alike 2 = .ok (.lcmp, 1) := by decide +kernel
theorem dX4_alike_3 : decode cX4_alike 3 = .ok (.ifCond .ne 6, 3) := by decide +kernel
theorem dX4_alike_6 : decode cX4_alike 6 = .ok (.bipush 100, 2) := by decide +kernel
theorem dX4_alike_8 : decode cX4_alike 8 = .ok (.ireturn, 1) := by decide +kernel
theorem dX4_alike_9 : decode cX4_alike 9 = .ok (.lload_n 0, 1) := by decide +kernel
theorem dX4_alike_10 : decode cX4_alike 10 = .ok (.invokestatic 15, 3) := by decide +kernel
theorem dX4_alike_13 : decode cX4_alike 13 = .ok (.lload_n 2, 1) := by decide +kernel
theorem dX4_alike_14 : decode cX4_alike 14 = .ok (.invokestatic 15, 3) := by decide +kernel
theorem dX4_alike_17 : decode cX4_alike 17 = .ok (.invokestatic 25, 3) := by decide +kernel
theorem dX4_alike_20 : decode cX4_alike 20 = .ok (.istore 4, 2) := by decide +kernel
theorem dX4_alike_22 : decode cX4_alike 22 = .ok (.iload 4, 2) := by decide +kernel
theorem dX4_alike_24 : decode cX4_alike 24 = .ok (.ifCond .ne 7, 3) := by decide +kernel
theorem dX4_alike_27 : decode cX4_alike 27 = .ok (.iconst 0, 1) := by decide +kernel
theorem dX4_alike_28 : decode cX4_alike 28 = .ok (.goto 14, 3) := by decide +kernel
theorem dX4_alike_31 : decode cX4_alike 31 = .ok (.bipush 100, 2) := by decide +kernel
theorem dX4_alike_33 : decode cX4_alike 33 = .ok (.lload_n 0, 1) := by decide +kernel
theorem dX4_alike_34 : decode cX4_alike 34 = .ok (.lload_n 2, 1) := by decide +kernel
theorem dX4_alike_35 : decode cX4_alike 35 = .ok (.invokestatic 31, 3) := by decide +kernel
theorem dX4_alike_38 : decode cX4_alike 38 = .ok (.imul, 1) := by decide +kernel
theorem dX4_alike_39 : decode cX4_alike 39 = .ok (.iload 4, 2) := by decide +kernel
theorem dX4_alike_41 : decode cX4_alike 41 = .ok (.idiv, 1) := by decide +kernel
theorem dX4_alike_42 : decode cX4_alike 42 = .ok (.ireturn, 1) := by decide +kernel
theorem dX4_common_0 : decode cX4_common 0 = .ok (.sipush 255, 3) := by decide +kernel
theorem dX4_common_3 : decode cX4_common 3 = .ok (.istore 4, 2) := by decide +kernel
theorem dX4_common_5 : decode cX4_common 5 = .ok (.lload_n 0, 1) := by decide +kernel
theorem dX4_common_6 : decode cX4_common 6 = .ok (.lstore 5, 2) := by decide +kernel
theorem dX4_common_8 : decode cX4_common 8 = .ok (.iconst 0, 1) := by decide +kernel
theorem dX4_common_9 : decode cX4_common 9 = .ok (.istore 7, 2) := by decide +kernel
theorem dX4_common_11 : decode cX4_common 11 = .ok (.iload 7, 2) := by decide +kernel
theorem dX4_common_13 : decode cX4_common 13 = .ok (.bipush 8, 2) := by decide +kernel
theorem dX4_common_15 : decode cX4_common 15 = .ok (.if_icmp .ge 55, 3) := by decide +kernel
theorem dX4_common_18 : decode cX4_common 18 = .ok (.lload 5, 2) := by decide +kernel
theorem dX4_common_20 : decode cX4_common 20 = .ok (.lconst 0, 1) := by decide +kernel
theorem dX4_common_21 : decode cX4_common 21 = .ok (.lcmp, 1) := by decide +kernel
theorem dX4_common_22 : decode cX4_common 22 = .ok (.ifCond .eq 48, 3) := by decide +kernel
theorem dX4_common_25 : decode cX4_common 25 = .ok (.iload 4, 2) := by decide +kernel
theorem dX4_common_27 : decode cX4_common 27 = .ok (.lload_n 2, 1) := by decide +kernel
theorem dX4_common_28 : decode cX4_common 28 = .ok (.lload 5, 2) := by decide +kernel
theorem dX4_common_30 : decode cX4_common 30 = .ok (.bipush 56, 2) := by decide +kernel
theorem dX4_common_32 : decode cX4_common 32 = .ok (.lushr, 1) := by decide +kernel
theorem dX4_common_33 : decode cX4_common 33 = .ok (.l2i, 1) := by decide +kernel
theorem dX4_common_34 : decode cX4_common 34 = .ok (.invokestatic 35, 3) := by decide +kernel
theorem dX4_common_37 : decode cX4_common 37 = .ok (.iand, 1) := by decide +kernel
theorem dX4_common_38 : decode cX4_common 38 = .ok (.istore 8, 2) := by decide +kernel
theorem dX4_common_40 : decode cX4_common 40 = .ok (.iload 4, 2) := by decide +kernel
theorem dX4_common_42 : decode cX4_common 42 = .ok (.iload 8, 2) := by decide +kernel
theorem dX4_common_44 : decode cX4_common 44 = .ok (.iadd, 1) := by decide +kernel
theorem dX4_common_45 : decode cX4_common 45 = .ok (.iload 4, 2) := by decide +kernel
theorem dX4_common_47 : decode cX4_common 47 = .ok (.iload 8, 2) := by decide +kernel
theorem dX4_common_49 : decode cX4_common 49 = .ok (.isub, 1) := by decide +kernel
theorem dX4_common_50 : decode cX4_common 50 = .ok (.ior, 1) := by decide +kernel
theorem dX4_common_51 : decode cX4_common 51 = .ok (.sipush 255, 3) := by decide +kernel
theorem dX4_common_54 : decode cX4_common 54 = .ok (.iand, 1) := by decide +kernel
theorem dX4_common_55 : decode cX4_common 55 = .ok (.istore 4, 2) := by decide +kernel
theorem dX4_common_57 : decode cX4_common 57 = .ok (.lload 5, 2) := by decide +kernel
theorem dX4_common_59 : decode cX4_common 59 = .ok (.bipush 8, 2) := by decide +kernel
theorem dX4_common_61 : decode cX4_common 61 = .ok (.lshl, 1) := by decide +kernel
theorem dX4_common_62 : decode cX4_common 62 = .ok (.lstore 5, 2) := by decide +kernel
theorem dX4_common_64 : decode cX4_common 64 = .ok (.iinc 7 1, 3) := by decide +kernel
theorem dX4_common_67 : decode cX4_common 67 = .ok (.goto (-56), 3) := by decide +kernel
theorem dX4_common_70 : decode cX4_common 70 = .ok (.bipush 8, 2) := by decide +kernel
theorem dX4_common_72 : decode cX4_common 72 = .ok (.iload 4, 2) := by decide +kernel
theorem dX4_common_74 : decode cX4_common 74 = .ok (.invokestatic 38, 3) := by decide +kernel
theorem dX4_common_77 : decode cX4_common 77 = .ok (.isub, 1) := by decide +kernel
theorem dX4_common_78 : decode cX4_common 78 = .ok (.ireturn, 1) := by decide +kernel
theorem dX4_places_0 : decode cX4_places 0 = .ok (.iconst 0, 1) := by decide +kernel
theorem dX4_places_1 : decode cX4_places 1 = .ok (.istore_n 3, 1) := by decide +kernel
theorem dX4_places_2 : decode cX4_places 2 = .ok (.lload_n 0, 1) := by decide +kernel
theorem dX4_places_3 : decode cX4_places 3 = .ok (.lstore 4, 2) := by decide +kernel
theorem dX4_places_5 : decode cX4_places 5 = .ok (.iconst 0, 1) := by decide +kernel
theorem dX4_places_6 : decode cX4_places 6 = .ok (.istore 6, 2) := by decide +kernel
theorem dX4_places_8 : decode cX4_places 8 = .ok (.iload 6, 2) := by decide +kernel
theorem dX4_places_10 : decode cX4_places 10 = .ok (.bipush 8, 2) := by decide +kernel
theorem dX4_places_12 : decode cX4_places 12 = .ok (.if_icmp .ge 40, 3) := by decide +kernel
theorem dX4_places_15 : decode cX4_places 15 = .ok (.lload 4, 2) := by decide +kernel
theorem dX4_places_17 : decode cX4_places 17 = .ok (.lconst 0, 1) := by decide +kernel
theorem dX4_places_18 : decode cX4_places 18 = .ok (.lcmp, 1) := by decide +kernel
theorem dX4_places_19 : decode cX4_places 19 = .ok (.ifCond .eq 33, 3) := by decide +kernel
theorem dX4_places_22 : decode cX4_places 22 = .ok (.lload 4, 2) := by decide +kernel
theorem dX4_places_24 : decode cX4_places 24 = .ok (.bipush 56, 2) := by decide +kernel
theorem dX4_places_26 : decode cX4_places 26 = .ok (.lushr, 1) := by decide +kernel
theorem dX4_places_27 : decode cX4_places 27 = .ok (.l2i, 1) := by decide +kernel
theorem dX4_places_28 : decode cX4_places 28 = .ok (.iload_n 2, 1) := by decide +kernel
theorem dX4_places_29 : decode cX4_places 29 = .ok (.if_icmp .ne 10, 3) := by decide +kernel
theorem dX4_places_32 : decode cX4_places 32 = .ok (.iload_n 3, 1) := by decide +kernel
theorem dX4_places_33 : decode cX4_places 33 = .ok (.iconst 1, 1) := by decide +kernel
theorem dX4_places_34 : decode cX4_places 34 = .ok (.iload 6, 2) := by decide +kernel
theorem dX4_places_36 : decode cX4_places 36 = .ok (.ishl, 1) := by decide +kernel
theorem dX4_places_37 : decode cX4_places 37 = .ok (.ior, 1) := by decide +kernel
theorem dX4_places_38 : decode cX4_places 38 = .ok (.istore_n 3, 1) := by decide +kernel
theorem dX4_places_39 : decode cX4_places 39 = .ok (.lload 4, 2) := by decide +kernel
theorem dX4_places_41 : decode cX4_places 41 = .ok (.bipush 8, 2) := by decide +kernel
theorem dX4_places_43 : decode cX4_places 43 = .ok (.lshl, 1) := by decide +kernel
theorem dX4_places_44 : decode cX4_places 44 = .ok (.lstore 4, 2) := by decide +kernel
theorem dX4_places_46 : decode cX4_places 46 = .ok (.iinc 6 1, 3) := by decide +kernel
theorem dX4_places_49 : decode cX4_places 49 = .ok (.goto (-41), 3) := by decide +kernel
theorem dX4_places_52 : decode cX4_places 52 = .ok (.iload_n 3, 1) := by decide +kernel
theorem dX4_places_53 : decode cX4_places 53 = .ok (.ireturn, 1) := by decide +kernel
theorem dX5_init_0 : decode cX5_init 0 = .ok (.aload_n 0, 1) := by decide +kernel
theorem dX5_init_1 : decode cX5_init 1 = .ok (.invokespecial 3, 3) := by decide +kernel
theorem dX5_init_4 : decode cX5_init 4 = .ok (.aload_n 0, 1) := by decide +kernel
theorem dX5_init_5 : decode cX5_init 5 = .ok (.iconst 0, 1) := by decide +kernel
theorem dX5_init_6 : decode cX5_init 6 = .ok (.iload_n 1, 1) := by decide +kernel
theorem dX5_init_7 : decode cX5_init 7 = .ok (.invokestatic 9, 3) := by decide +kernel
theorem dX5_init_10 : decode cX5_init 10 = .ok (.putfield 15, 3) := by decide +kernel
theorem dX5_init_13 : decode cX5_init 13 = .ok (.aload_n 0, 1) := by decide +kernel
theorem dX5_init_14 : decode cX5_init 14 = .ok (.iconst 0, 1) := by decide +kernel
theorem dX5_init_15 : decode cX5_init 15 = .ok (.iload_n 2, 1) := by decide +kernel
theorem dX5_init_16 : decode cX5_init 16 = .ok (.invokestatic 9, 3) := by decide +kernel
theorem dX5_init_19 : decode cX5_init 19 = .ok (.putfield 21, 3) := by decide +kernel
theorem dX5_init_22 : decode cX5_init 22 = .ok (.aload_n 0, 1) := by decide +kernel
theorem dX5_init_23 : decode cX5_init 23 = .ok (.aload_n 0, 1) := by decide +kernel
theorem dX5_init_24 : decode cX5_init 24 = .ok (.getfield 15, 3) := by decide +kernel
theorem dX5_init_27 : decode cX5_init 27 = .ok (.newarray .int, 2) := by decide +kernel
theorem dX5_init_29 : decode cX5_init 29 = .ok (.putfield 24, 3) := by decide +kernel
theorem dX5_init_32 : decode cX5_init 32 = .ok (.aload_n 0, 1) := by decide +kernel
theorem dX5_init_33 : decode cX5_init 33 = .ok (.aload_n 0, 1) := by decide +kernel
theorem dX5_init_34 : decode cX5_init 34 = .ok (.getfield 15, 3) := by decide +kernel
theorem dX5_init_37 : decode cX5_init 37 = .ok (.newarray .int, 2) := by decide +kernel
theorem dX5_init_39 : decode cX5_init 39 = .ok (.putfield 28, 3) := by decide +kernel
theorem dX5_init_42 : decode cX5_init 42 = .ok (.aload_n 0, 1) := by decide +kernel
theorem dX5_init_43 : decode cX5_init 43 = .ok (.aload_n 0, 1) := by decide +kernel
theorem dX5_init_44 : decode cX5_init 44 = .ok (.getfield 15, 3) := by decide +kernel
theorem dX5_init_47 : decode cX5_init 47 = .ok (.newarray .int, 2) := by decide +kernel
theorem dX5_init_49 : decode cX5_init 49 = .ok (.putfield 31, 3) := by decide +kernel
theorem dX5_init_52 : decode cX5_init 52 = .ok (.aload_n 0, 1) := by decide +kernel
theorem dX5_init_53 : decode cX5_init 53 = .ok (.aload_n 0, 1) := by decide +kernel
theorem dX5_init_54 : decode cX5_init 54 = .ok (.getfield 15, 3) := by decide +kernel
theorem dX5_init_57 : decode cX5_init 57 = .ok (.newarray .int, 2) := by decide +kernel
theorem dX5_init_59 : decode cX5_init 59 = .ok (.putfield 34, 3) := by decide +kernel
theorem dX5_init_62 : decode cX5_init 62 = .ok (.aload_n 0, 1) := by decide +kernel
theorem dX5_init_63 : decode cX5_init 63 = .ok (.aload_n 0, 1) := by decide +kernel
theorem dX5_init_64 : decode cX5_init 64 = .ok (.getfield 15, 3) := by decide +kernel
theorem dX5_init_67 : decode cX5_init 67 = .ok (.aload_n 0, 1) := by decide +kernel
theorem dX5_init_68 : decode cX5_init 68 = .ok (.getfield 21, 3) := by decide +kernel
theorem dX5_init_71 : decode cX5_init 71 = .ok (.imul, 1) := by decide +kernel
theorem dX5_init_72 : decode cX5_init 72 = .ok (.newarray .int, 2) := by decide +kernel
theorem dX5_init_74 : decode cX5_init 74 = .ok (.putfield 37, 3) := by decide +kernel
theorem dX5_init_77 : decode cX5_init 77 = .ok (.aload_n 0, 1) := by decide +kernel
theorem dX5_init_78 : decode cX5_init 78 = .ok (.aload_n 0, 1) := by decide +kernel
theorem dX5_init_79 : decode cX5_init 79 = .ok (.getfield 15, 3) := by decide +kernel
theorem dX5_init_82 : decode cX5_init 82 = .ok (.aload_n 0, 1) := by decide +kernel
theorem dX5_init_83 : decode cX5_init 83 = .ok (.getfield 21, 3) := by decide +kernel
theorem dX5_init_86 : decode cX5_init 86 = .ok (.imul, 1) := by decide +kernel
theorem dX5_init_87 : decode cX5_init 87 = .ok (.newarray .long, 2) := by decide +kernel
theorem dX5_init_89 : decode cX5_init 89 = .ok (.putfield 40, 3) := by decide +kernel
theorem dX5_init_92 : decode cX5_init 92 = .ok (.return_, 1) := by decide +kernel
theorem dX5_has_0 : decode cX5_has 0 = .ok (.iload_n 1, 1) := by decide +kernel
theorem dX5_has_1 : decode cX5_has 1 = .ok (.ifCond .lt 15, 3) := by decide +kernel
theorem dX5_has_4 : decode cX5_has 4 = .ok (.iload_n 1, 1) := by decide +kernel
theorem dX5_has_5 : decode cX5_has 5 = .ok (.aload_n 0, 1) := by decide +kernel
theorem dX5_has_6 : decode cX5_has 6 = .ok (.getfield 44, 3) := by decide +kernel
theorem dX5_has_9 : decode cX5_has 9 = .ok (.if_icmp .ge 7, 3) := by decide +kernel
theorem dX5_has_12 : decode cX5_has 12 = .ok (.iconst 1, 1) := by decide +kernel
theorem dX5_has_13 : decode cX5_has 13 = .ok (.goto 4, 3) := by decide +kernel
theorem dX5_has_16 : decode cX5_has 16 = .ok (.iconst 0, 1) := by decide +kernel
theorem dX5_has_17 : decode cX5_has 17 = .ok (.ireturn, 1) := by decide +kernel
theorem dX5_has__0 : decode cX5_has_ 0 = .ok (.aload_n 0, 1) := by decide +kernel
theorem dX5_has__1 : decode cX5_has_ 1 = .ok (.iload_n 1, 1) := by decide +kernel
theorem dX5_has__2 : decode cX5_has_ 2 = .ok (.invokevirtual 47, 3) := by decide +kernel
theorem dX5_has__5 : decode cX5_has_ 5 = .ok (.ifCond .eq 21, 3) := by decide +kernel
theorem dX5_has__8 : decode cX5_has_ 8 = .ok (.iload_n 2, 1) := by decide +kernel
theorem dX5_has__9 : decode cX5_has_ 9 = .ok (.ifCond .lt 17, 3) := by decide +kernel
theorem dX5_has__12 : decode cX5_has_ 12 = .ok (.iload_n 2, 1) := by decide +kernel
theorem dX5_has__13 : decode cX5_has_ 13 = .ok (.aload_n 0, 1) := by decide +kernel
theorem dX5_has__14 : decode cX5_has_ 14 = .ok (.getfield 34, 3) := by decide +kernel
theorem dX5_has__17 : decode cX5_has_ 17 = .ok (.iload_n 1, 1) := by decide +kernel
theorem dX5_has__18 : decode cX5_has_ 18 = .ok (.iaload, 1) := by decide +kernel
theorem dX5_has__19 : decode cX5_has_ 19 = .ok (.if_icmp .ge 7, 3) := by decide +kernel
theorem dX5_has__22 : decode cX5_has_ 22 = .ok (.iconst 1, 1) := by decide +kernel
theorem dX5_has__23 : decode cX5_has_ 23 = .ok (.goto 4, 3) := by decide +kernel
theorem dX5_has__26 : decode cX5_has_ 26 = .ok (.iconst 0, 1) := by decide +kernel
theorem dX5_has__27 : decode cX5_has_ 27 = .ok (.ireturn, 1) := by decide +kernel
theorem dX5_isFull_0 : decode cX5_isFull 0 = .ok (.aload_n 0, 1) := by decide +kernel
theorem dX5_isFull_1 : decode cX5_isFull 1 = .ok (.getfield 44, 3) := by decide +kernel
theorem dX5_isFull_4 : decode cX5_isFull 4 = .ok (.aload_n 0, 1) := by decide +kernel
theorem dX5_isFull_5 : decode cX5_isFull 5 = .ok (.getfield 15, 3) := by decide +kernel
theorem dX5_isFull_8 : decode cX5_isFull 8 = .ok (.if_icmp .lt 7, 3) := by decide +kernel
theorem dX5_isFull_11 : decode cX5_isFull 11 = .ok (.iconst 1, 1) := by decide +kernel
theorem dX5_isFull_12 : decode cX5_isFull 12 = .ok (.goto 4, 3) := by decide +kernel
theorem dX5_isFull_15 : decode cX5_isFull 15 = .ok (.iconst 0, 1) := by decide +kernel
theorem dX5_isFull_16 : decode cX5_isFull 16 = .ok (.ireturn, 1) := by decide +kernel
theorem dX5_isFull__0 : decode cX5_isFull_ 0 = .ok (.aload_n 0, 1) := by decide +kernel
theorem dX5_isFull__1 : decode cX5_isFull_ 1 = .ok (.iload_n 1, 1) := by decide +kernel
theorem dX5_isFull__2 : decode cX5_isFull_ 2 = .ok (.invokevirtual 47, 3) := by decide +kernel
theorem dX5_isFull__5 : decode cX5_isFull_ 5 = .ok (.ifCond .eq 16, 3) := by decide +kernel
theorem dX5_isFull__8 : decode cX5_isFull_ 8 = .ok (.aload_n 0, 1) := by decide +kernel
theorem dX5_isFull__9 : decode cX5_isFull_ 9 = .ok (.getfield 34, 3) := by decide +kernel
theorem dX5_isFull__12 : decode cX5_isFull_ 12 = .ok (.iload_n 1, 1) := by decide +kernel
theorem dX5_isFull__13 : decode cX5_isFull_ 13 = .ok (.iaload, 1) := by decide +kernel
theorem dX5_isFull__14 : decode cX5_isFull_ 14 = .ok (.aload_n 0, 1) := by decide +kernel
theorem dX5_isFull__15 : decode cX5_isFull_ 15 = .ok (.getfield 21, 3) := by decide +kernel
theorem dX5_isFull__18 : decode cX5_isFull_ 18 = .ok (.if_icmp .lt 7, 3) := by decide +kernel
theorem dX5_isFull__21 : decode cX5_isFull_ 21 = .ok (.iconst 1, 1) := by decide +kernel
theorem dX5_isFull__22 : decode cX5_isFull_ 22 = .ok (.goto 4, 3) := by decide +kernel
theorem dX5_isFull__25 : decode cX5_isFull_ 25 = .ok (.iconst 0, 1) := by decide +kernel
theorem dX5_isFull__26 : decode cX5_isFull_ 26 = .ok (.ireturn, 1) := by decide +kernel
theorem dX5_start_0 : decode cX5_start 0 = .ok (.aload_n 0, 1) := by decide +kernel
theorem dX5_start_1 : decode cX5_start 1 = .ok (.invokevirtual 51, 3) := by decide +kernel
theorem dX5_start_4 : decode cX5_start 4 = .ok (.ifCond .eq 5, 3) := by decide +kernel
theorem dX5_start_7 : decode cX5_start 7 = .ok (.iconst (-1), 1) := by decide +kernel
theorem dX5_start_8 : decode cX5_start 8 = .ok (.ireturn, 1) := by decide +kernel
theorem dX5_start_9 : decode cX5_start 9 = .ok (.aload_n 0, 1) := by decide +kernel
theorem dX5_start_10 : decode cX5_start 10 = .ok (.getfield 24, 3) := by decide +kernel
theorem dX5_start_13 : decode cX5_start 13 = .ok (.aload_n 0, 1) := by decide +kernel
theorem dX5_start_14 : decode cX5_start 14 = .ok (.getfield 44, 3) := by decide +kernel
theorem dX5_start_17 : decode cX5_start 17 = .ok (.iload_n 1, 1) := by decide +kernel
theorem dX5_start_18 : decode cX5_start 18 = .ok (.iastore, 1) := by decide +kernel
theorem dX5_start_19 : decode cX5_start 19 = .ok (.aload_n 0, 1) := by decide +kernel
theorem dX5_start_20 : decode cX5_start 20 = .ok (.getfield 28, 3) := by decide +kernel
theorem dX5_start_23 : decode cX5_start 23 = .ok (.aload_n 0, 1) := by decide +kernel
theorem dX5_start_24 : decode cX5_start 24 = .ok (.getfield 44, 3) := by decide +kernel
theorem dX5_start_27 : decode cX5_start 27 = .ok (.iload_n 2, 1) := by decide +kernel
theorem dX5_start_28 : decode cX5_start 28 = .ok (.iastore, 1) := by decide +kernel
theorem dX5_start_29 : decode cX5_start 29 = .ok (.aload_n 0, 1) := by decide +kernel
theorem dX5_start_30 : decode cX5_start 30 = .ok (.getfield 31, 3) := by decide +kernel
theorem dX5_start_33 : decode cX5_start 33 = .ok (.aload_n 0, 1) := by decide +kernel
theorem dX5_start_34 : decode cX5_start 34 = .ok (.getfield 44, 3) := by decide +kernel
theorem dX5_start_37 : decode cX5_start 37 = .ok (.iload_n 3, 1) := by decide +kernel
theorem dX5_start_38 : decode cX5_start 38 = .ok (.iastore, 1) := by decide +kernel
theorem dX5_start_39 : decode cX5_start 39 = .ok (.aload_n 0, 1) := by decide +kernel
theorem dX5_start_40 : decode cX5_start 40 = .ok (.getfield 34, 3) := by decide +kernel
theorem dX5_start_43 : decode cX5_start 43 = .ok (.aload_n 0, 1) := by decide +kernel
theorem dX5_start_44 : decode cX5_start 44 = .ok (.getfield 44, 3) := by decide +kernel
theorem dX5_start_47 : decode cX5_start 47 = .ok (.iconst 0, 1) := by decide +kernel
theorem dX5_start_48 : decode cX5_start 48 = .ok (.iastore, 1) := by decide +kernel
theorem dX5_start_49 : decode cX5_start 49 = .ok (.aload_n 0, 1) := by decide +kernel
theorem dX5_start_50 : decode cX5_start 50 = .ok (.dup, 1) := by decide +kernel
theorem dX5_start_51 : decode cX5_start 51 = .ok (.getfield 44, 3) := by decide +kernel
theorem dX5_start_54 : decode cX5_start 54 = .ok (.dup_x1, 1) := by decide +kernel
theorem dX5_start_55 : decode cX5_start 55 = .ok (.iconst 1, 1) := by decide +kernel
theorem dX5_start_56 : decode cX5_start 56 = .ok (.iadd, 1) := by decide +kernel
theorem dX5_start_57 : decode cX5_start 57 = .ok (.putfield 44, 3) := by decide +kernel
theorem dX5_start_60 : decode cX5_start 60 = .ok (.ireturn, 1) := by decide +kernel
theorem dX5_put_0 : decode cX5_put 0 = .ok (.aload_n 0, 1) := by decide +kernel
theorem dX5_put_1 : decode cX5_put 1 = .ok (.iload_n 1, 1) := by decide +kernel
theorem dX5_put_2 : decode cX5_put 2 = .ok (.invokevirtual 55, 3) := by decide +kernel
theorem dX5_put_5 : decode cX5_put 5 = .ok (.ifCond .eq 5, 3) := by decide +kernel
theorem dX5_put_8 : decode cX5_put 8 = .ok (.iconst (-1), 1) := by decide +kernel
theorem dX5_put_9 : decode cX5_put 9 = .ok (.ireturn, 1) := by decide +kernel
theorem dX5_put_10 : decode cX5_put 10 = .ok (.aload_n 0, 1) := by decide +kernel
theorem dX5_put_11 : decode cX5_put 11 = .ok (.getfield 34, 3) := by decide +kernel
theorem dX5_put_14 : decode cX5_put 14 = .ok (.iload_n 1, 1) := by decide +kernel
theorem dX5_put_15 : decode cX5_put 15 = .ok (.iaload, 1) := by decide +kernel
theorem dX5_put_16 : decode cX5_put 16 = .ok (.istore 5, 2) := by decide +kernel
theorem dX5_put_18 : decode cX5_put 18 = .ok (.aload_n 0, 1) := by decide +kernel
theorem dX5_put_19 : decode cX5_put 19 = .ok (.getfield 37, 3) := by decide +kernel
theorem dX5_put_22 : decode cX5_put 22 = .ok (.iload_n 1, 1) := by decide +kernel
theorem dX5_put_23 : decode cX5_put 23 = .ok (.aload_n 0, 1) := by decide +kernel
theorem dX5_put_24 : decode cX5_put 24 = .ok (.getfield 21, 3) := by decide +kernel
theorem dX5_put_27 : decode cX5_put 27 = .ok (.imul, 1) := by decide +kernel
theorem dX5_put_28 : decode cX5_put 28 = .ok (.iload 5, 2) := by decide +kernel
theorem dX5_put_30 : decode cX5_put 30 = .ok (.iadd, 1) := by decide +kernel
theorem dX5_put_31 : decode cX5_put 31 = .ok (.iload_n 2, 1) := by decide +kernel
theorem dX5_put_32 : decode cX5_put 32 = .ok (.iastore, 1) := by decide +kernel
theorem dX5_put_33 : decode cX5_put 33 = .ok (.aload_n 0, 1) := by decide +kernel
theorem dX5_put_34 : decode cX5_put 34 = .ok (.getfield 40, 3) := by decide +kernel
theorem dX5_put_37 : decode cX5_put 37 = .ok (.iload_n 1, 1) := by decide +kernel
theorem dX5_put_38 : decode cX5_put 38 = .ok (.aload_n 0, 1) := by decide +kernel
theorem dX5_put_39 : decode cX5_put 39 = .ok (.getfield 21, 3) := by decide +kernel
theorem dX5_put_42 : decode cX5_put 42 = .ok (.imul, 1) := by decide +kernel
theorem dX5_put_43 : decode cX5_put 43 = .ok (.iload 5, 2) := by decide +kernel
theorem dX5_put_45 : decode cX5_put 45 = .ok (.iadd, 1) := by decide +kernel
theorem dX5_put_46 : decode cX5_put 46 = .ok (.lload_n 3, 1) := by decide +kernel
theorem dX5_put_47 : decode cX5_put 47 = .ok (.lastore, 1) := by decide +kernel
theorem dX5_put_48 : decode cX5_put 48 = .ok (.aload_n 0, 1) := by decide +kernel
theorem dX5_put_49 : decode cX5_put 49 = .ok (.getfield 34, 3) := by decide +kernel
theorem dX5_put_52 : decode cX5_put 52 = .ok (.iload_n 1, 1) := by decide +kernel
theorem dX5_put_53 : decode cX5_put 53 = .ok (.dup2, 1) := by decide +kernel
theorem dX5_put_54 : decode cX5_put 54 = .ok (.iaload, 1) := by decide +kernel
theorem dX5_put_55 : decode cX5_put 55 = .ok (.iconst 1, 1) := by decide +kernel
theorem dX5_put_56 : decode cX5_put 56 = .ok (.iadd, 1) := by decide +kernel
theorem dX5_put_57 : decode cX5_put 57 = .ok (.iastore, 1) := by decide +kernel
theorem dX5_put_58 : decode cX5_put 58 = .ok (.iload 5, 2) := by decide +kernel
theorem dX5_put_60 : decode cX5_put 60 = .ok (.ireturn, 1) := by decide +kernel
theorem dX5_at_0 : decode cX5_at 0 = .ok (.aload_n 0, 1) := by decide +kernel
theorem dX5_at_1 : decode cX5_at 1 = .ok (.iload_n 1, 1) := by decide +kernel
theorem dX5_at_2 : decode cX5_at 2 = .ok (.iload_n 2, 1) := by decide +kernel
theorem dX5_at_3 : decode cX5_at 3 = .ok (.invokevirtual 57, 3) := by decide +kernel
theorem dX5_at_6 : decode cX5_at 6 = .ok (.ifCond .eq 19, 3) := by decide +kernel
theorem dX5_at_9 : decode cX5_at 9 = .ok (.aload_n 0, 1) := by decide +kernel
theorem dX5_at_10 : decode cX5_at 10 = .ok (.getfield 40, 3) := by decide +kernel
theorem dX5_at_13 : decode cX5_at 13 = .ok (.iload_n 1, 1) := by decide +kernel
theorem dX5_at_14 : decode cX5_at 14 = .ok (.aload_n 0, 1) := by decide +kernel
theorem dX5_at_15 : decode cX5_at 15 = .ok (.getfield 21, 3) := by decide +kernel
theorem dX5_at_18 : decode cX5_at 18 = .ok (.imul, 1) := by decide +kernel
theorem dX5_at_19 : decode cX5_at 19 = .ok (.iload_n 2, 1) := by decide +kernel
theorem dX5_at_20 : decode cX5_at 20 = .ok (.iadd, 1) := by decide +kernel
theorem dX5_at_21 : decode cX5_at 21 = .ok (.laload, 1) := by decide +kernel
theorem dX5_at_22 : decode cX5_at 22 = .ok (.goto 4, 3) := by decide +kernel
theorem dX5_at_25 : decode cX5_at 25 = .ok (.lconst 0, 1) := by decide +kernel
theorem dX5_at_26 : decode cX5_at 26 = .ok (.lreturn, 1) := by decide +kernel
theorem dX5_copy_0 : decode cX5_copy 0 = .ok (.aload_n 1, 1) := by decide +kernel
theorem dX5_copy_1 : decode cX5_copy 1 = .ok (.getfield 15, 3) := by decide +kernel
theorem dX5_copy_4 : decode cX5_copy 4 = .ok (.aload_n 0, 1) := by decide +kernel
theorem dX5_copy_5 : decode cX5_copy 5 = .ok (.getfield 15, 3) := by decide +kernel
theorem dX5_copy_8 : decode cX5_copy 8 = .ok (.if_icmp .ne 14, 3) := by decide +kernel
theorem dX5_copy_11 : decode cX5_copy 11 = .ok (.aload_n 1, 1) := by decide +kernel
theorem dX5_copy_12 : decode cX5_copy 12 = .ok (.getfield 21, 3) := by decide +kernel
theorem dX5_copy_15 : decode cX5_copy 15 = .ok (.aload_n 0, 1) := by decide +kernel
theorem dX5_copy_16 : decode cX5_copy 16 = .ok (.getfield 21, 3) := by decide +kernel
theorem dX5_copy_19 : decode cX5_copy 19 = .ok (.if_icmp .eq 4, 3) := by decide +kernel
theorem dX5_copy_22 : decode cX5_copy 22 = .ok (.return_, 1) := by decide +kernel
theorem dX5_copy_23 : decode cX5_copy 23 = .ok (.aload_n 0, 1) := by decide +kernel
theorem dX5_copy_24 : decode cX5_copy 24 = .ok (.aload_n 1, 1) := by decide +kernel
theorem dX5_copy_25 : decode cX5_copy 25 = .ok (.getfield 44, 3) := by decide +kernel
theorem dX5_copy_28 : decode cX5_copy 28 = .ok (.putfield 44, 3) := by decide +kernel
theorem dX5_copy_31 : decode cX5_copy 31 = .ok (.aload_n 1, 1) := by decide +kernel
theorem dX5_copy_32 : decode cX5_copy 32 = .ok (.getfield 24, 3) := by decide +kernel
theorem dX5_copy_35 : decode cX5_copy 35 = .ok (.iconst 0, 1) := by decide +kernel
theorem dX5_copy_36 : decode cX5_copy 36 = .ok (.aload_n 0, 1) := by decide +kernel
theorem dX5_copy_37 : decode cX5_copy 37 = .ok (.getfield 24, 3) := by decide +kernel
theorem dX5_copy_40 : decode cX5_copy 40 = .ok (.iconst 0, 1) := by decide +kernel
theorem dX5_copy_41 : decode cX5_copy 41 = .ok (.aload_n 0, 1) := by decide +kernel
theorem dX5_copy_42 : decode cX5_copy 42 = .ok (.getfield 15, 3) := by decide +kernel
theorem dX5_copy_45 : decode cX5_copy 45 = .ok (.invokestatic 60, 3) := by decide +kernel
theorem dX5_copy_48 : decode cX5_copy 48 = .ok (.aload_n 1, 1) := by decide +kernel
theorem dX5_copy_49 : decode cX5_copy 49 = .ok (.getfield 28, 3) := by decide +kernel
theorem dX5_copy_52 : decode cX5_copy 52 = .ok (.iconst 0, 1) := by decide +kernel
theorem dX5_copy_53 : decode cX5_copy 53 = .ok (.aload_n 0, 1) := by decide +kernel
theorem dX5_copy_54 : decode cX5_copy 54 = .ok (.getfield 28, 3) := by decide +kernel
theorem dX5_copy_57 : decode cX5_copy 57 = .ok (.iconst 0, 1) := by decide +kernel
theorem dX5_copy_58 : decode cX5_copy 58 = .ok (.aload_n 0, 1) := by decide +kernel
theorem dX5_copy_59 : decode cX5_copy 59 = .ok (.getfield 15, 3) := by decide +kernel
theorem dX5_copy_62 : decode cX5_copy 62 = .ok (.invokestatic 60, 3) := by decide +kernel
theorem dX5_copy_65 : decode cX5_copy 65 = .ok (.aload_n 1, 1) := by decide +kernel
theorem dX5_copy_66 : decode cX5_copy 66 = .ok (.getfield 31, 3) := by decide +kernel
theorem dX5_copy_69 : decode cX5_copy 69 = .ok (.iconst 0, 1) := by decide +kernel
theorem dX5_copy_70 : decode cX5_copy 70 = .ok (.aload_n 0, 1) := by decide +kernel
theorem dX5_copy_71 : decode cX5_copy 71 = .ok (.getfield 31, 3) := by decide +kernel
theorem dX5_copy_74 : decode cX5_copy 74 = .ok (.iconst 0, 1) := by decide +kernel
theorem dX5_copy_75 : decode cX5_copy 75 = .ok (.aload_n 0, 1) := by decide +kernel
theorem dX5_copy_76 : decode cX5_copy 76 = .ok (.getfield 15, 3) := by decide +kernel
theorem dX5_copy_79 : decode cX5_copy 79 = .ok (.invokestatic 60, 3) := by decide +kernel
theorem dX5_copy_82 : decode cX5_copy 82 = .ok (.aload_n 1, 1) := by decide +kernel
theorem dX5_copy_83 : decode cX5_copy 83 = .ok (.getfield 34, 3) := by decide +kernel
theorem dX5_copy_86 : decode cX5_copy 86 = .ok (.iconst 0, 1) := by decide +kernel
theorem dX5_copy_87 : decode cX5_copy 87 = .ok (.aload_n 0, 1) := by decide +kernel
theorem dX5_copy_88 : decode cX5_copy 88 = .ok (.getfield 34, 3) := by decide +kernel
theorem dX5_copy_91 : decode cX5_copy 91 = .ok (.iconst 0, 1) := by decide +kernel
theorem dX5_copy_92 : decode cX5_copy 92 = .ok (.aload_n 0, 1) := by decide +kernel
theorem dX5_copy_93 : decode cX5_copy 93 = .ok (.getfield 15, 3) := by decide +kernel
theorem dX5_copy_96 : decode cX5_copy 96 = .ok (.invokestatic 60, 3) := by decide +kernel
theorem dX5_copy_99 : decode cX5_copy 99 = .ok (.aload_n 1, 1) := by decide +kernel
theorem dX5_copy_100 : decode cX5_copy 100 = .ok (.getfield 37, 3) := by decide +kernel
theorem dX5_copy_103 : decode cX5_copy 103 = .ok (.iconst 0, 1) := by decide +kernel
theorem dX5_copy_104 : decode cX5_copy 104 = .ok (.aload_n 0, 1) := by decide +kernel
theorem dX5_copy_105 : decode cX5_copy 105 = .ok (.getfield 37, 3) := by decide +kernel
theorem dX5_copy_108 : decode cX5_copy 108 = .ok (.iconst 0, 1) := by decide +kernel
theorem dX5_copy_109 : decode cX5_copy 109 = .ok (.aload_n 0, 1) := by decide +kernel
theorem dX5_copy_110 : decode cX5_copy 110 = .ok (.getfield 15, 3) := by decide +kernel
theorem dX5_copy_113 : decode cX5_copy 113 = .ok (.aload_n 0, 1) := by decide +kernel
theorem dX5_copy_114 : decode cX5_copy 114 = .ok (.getfield 21, 3) := by decide +kernel
theorem dX5_copy_117 : decode cX5_copy 117 = .ok (.imul, 1) := by decide +kernel
theorem dX5_copy_118 : decode cX5_copy 118 = .ok (.invokestatic 60, 3) := by decide +kernel
theorem dX5_copy_121 : decode cX5_copy 121 = .ok (.aload_n 1, 1) := by decide +kernel
theorem dX5_copy_122 : decode cX5_copy 122 = .ok (.getfield 40, 3) := by decide +kernel
theorem dX5_copy_125 : decode cX5_copy 125 = .ok (.iconst 0, 1) := by decide +kernel
theorem dX5_copy_126 : decode cX5_copy 126 = .ok (.aload_n 0, 1) := by decide +kernel
theorem dX5_copy_127 : decode cX5_copy 127 = .ok (.getfield 40, 3) := by decide +kernel
theorem dX5_copy_130 : decode cX5_copy 130 = .ok (.iconst 0, 1) := by decide +kernel
theorem dX5_copy_131 : decode cX5_copy 131 = .ok (.aload_n 0, 1) := by decide +kernel
theorem dX5_copy_132 : decode cX5_copy 132 = .ok (.getfield 15, 3) := by decide +kernel
theorem dX5_copy_135 : decode cX5_copy 135 = .ok (.aload_n 0, 1) := by decide +kernel
theorem dX5_copy_136 : decode cX5_copy 136 = .ok (.getfield 21, 3) := by decide +kernel
theorem dX5_copy_139 : decode cX5_copy 139 = .ok (.imul, 1) := by decide +kernel
theorem dX5_copy_140 : decode cX5_copy 140 = .ok (.invokestatic 60, 3) := by decide +kernel
theorem dX5_copy_143 : decode cX5_copy 143 = .ok (.return_, 1) := by decide +kernel
theorem dX6_init_0 : decode cX6_init 0 = .ok (.aload_n 0, 1) := by decide +kernel
theorem dX6_init_1 : decode cX6_init 1 = .ok (.invokespecial 3, 3) := by decide +kernel
theorem dX6_init_4 : decode cX6_init 4 = .ok (.aload_n 0, 1) := by decide +kernel
theorem dX6_init_5 : decode cX6_init 5 = .ok (.new 9, 3) := by decide +kernel
theorem dX6_init_8 : decode cX6_init 8 = .ok (.dup, 1) := by decide +kernel
theorem dX6_init_9 : decode cX6_init 9 = .ok (.invokespecial 11, 3) := by decide +kernel
theorem dX6_init_12 : decode cX6_init 12 = .ok (.putfield 12, 3) := by decide +kernel
theorem dX6_init_15 : decode cX6_init 15 = .ok (.aload_n 0, 1) := by decide +kernel
theorem dX6_init_16 : decode cX6_init 16 = .ok (.new 18, 3) := by decide +kernel
theorem dX6_init_19 : decode cX6_init 19 = .ok (.dup, 1) := by decide +kernel
theorem dX6_init_20 : decode cX6_init 20 = .ok (.invokespecial 20, 3) := by decide +kernel
theorem dX6_init_23 : decode cX6_init 23 = .ok (.putfield 21, 3) := by decide +kernel
theorem dX6_init_26 : decode cX6_init 26 = .ok (.aload_n 0, 1) := by decide +kernel
theorem dX6_init_27 : decode cX6_init 27 = .ok (.sipush 401, 3) := by decide +kernel
theorem dX6_init_30 : decode cX6_init 30 = .ok (.newarray .int, 2) := by decide +kernel
theorem dX6_init_32 : decode cX6_init 32 = .ok (.putfield 25, 3) := by decide +kernel
theorem dX6_init_35 : decode cX6_init 35 = .ok (.aload_n 0, 1) := by decide +kernel
theorem dX6_init_36 : decode cX6_init 36 = .ok (.sipush 401, 3) := by decide +kernel
theorem dX6_init_39 : decode cX6_init 39 = .ok (.newarray .int, 2) := by decide +kernel
theorem dX6_init_41 : decode cX6_init 41 = .ok (.putfield 29, 3) := by decide +kernel
theorem dX6_init_44 : decode cX6_init 44 = .ok (.aload_n 0, 1) := by decide +kernel
theorem dX6_init_45 : decode cX6_init 45 = .ok (.sipush 401, 3) := by decide +kernel
theorem dX6_init_48 : decode cX6_init 48 = .ok (.newarray .int, 2) := by decide +kernel
theorem dX6_init_50 : decode cX6_init 50 = .ok (.putfield 32, 3) := by decide +kernel
theorem dX6_init_53 : decode cX6_init 53 = .ok (.return_, 1) := by decide +kernel
theorem dX6_scan_0 : decode cX6_scan 0 = .ok (.aload_n 0, 1) := by decide +kernel
theorem dX6_scan_1 : decode cX6_scan 1 = .ok (.iconst 0, 1) := by decide +kernel
theorem dX6_scan_2 : decode cX6_scan 2 = .ok (.putfield 35, 3) := by decide +kernel
theorem dX6_scan_5 : decode cX6_scan 5 = .ok (.aload_n 0, 1) := by decide +kernel
theorem dX6_scan_6 : decode cX6_scan 6 = .ok (.iconst (-1), 1) := by decide +kernel
theorem dX6_scan_7 : decode cX6_scan 7 = .ok (.putfield 39, 3) := by decide +kernel
theorem dX6_scan_10 : decode cX6_scan 10 = .ok (.aload_n 0, 1) := by decide +kernel
theorem dX6_scan_11 : decode cX6_scan 11 = .ok (.iconst 0, 1) := by decide +kernel
theorem dX6_scan_12 : decode cX6_scan 12 = .ok (.putfield 42, 3) := by decide +kernel
theorem dX6_scan_15 : decode cX6_scan 15 = .ok (.aload_n 0, 1) := by decide +kernel
theorem dX6_scan_16 : decode cX6_scan 16 = .ok (.iconst 0, 1) := by decide +kernel
theorem dX6_scan_17 : decode cX6_scan 17 = .ok (.putfield 45, 3) := by decide +kernel
theorem dX6_scan_20 : decode cX6_scan 20 = .ok (.iload_n 2, 1) := by decide +kernel
theorem dX6_scan_21 : decode cX6_scan 21 = .ok (.aload_n 1, 1) := by decide +kernel
theorem dX6_scan_22 : decode cX6_scan 22 = .ok (.arraylength, 1) := by decide +kernel
theorem dX6_scan_23 : decode cX6_scan 23 = .ok (.invokestatic 48, 3) := by decide +kernel
theorem dX6_scan_26 : decode cX6_scan 26 = .ok (.istore_n 3, 1) := by decide +kernel
theorem dX6_scan_27 : decode cX6_scan 27 = .ok (.iconst 0, 1) := by decide +kernel
theorem dX6_scan_28 : decode cX6_scan 28 = .ok (.istore 4, 2) := by decide +kernel
theorem dX6_scan_30 : decode cX6_scan 30 = .ok (.iconst 0, 1) := by decide +kernel
theorem dX6_scan_31 : decode cX6_scan 31 = .ok (.istore 5, 2) := by decide +kernel
theorem dX6_scan_33 : decode cX6_scan 33 = .ok (.iload 5, 2) := by decide +kernel
theorem dX6_scan_35 : decode cX6_scan 35 = .ok (.iload_n 3, 1) := by decide +kernel
theorem dX6_scan_36 : decode cX6_scan 36 = .ok (.if_icmp .ge 68, 3) := by decide +kernel
theorem dX6_scan_39 : decode cX6_scan 39 = .ok (.iload 5, 2) := by decide +kernel
theorem dX6_scan_41 : decode cX6_scan 41 = .ok (.iload 4, 2) := by decide +kernel
theorem dX6_scan_43 : decode cX6_scan 43 = .ok (.if_icmp .lt 55, 3) := by decide +kernel
theorem dX6_scan_46 : decode cX6_scan 46 = .ok (.aload_n 1, 1) := by decide +kernel
theorem dX6_scan_47 : decode cX6_scan 47 = .ok (.iload 5, 2) := by decide +kernel
theorem dX6_scan_49 : decode cX6_scan 49 = .ok (.baload, 1) := by decide +kernel
theorem dX6_scan_50 : decode cX6_scan 50 = .ok (.bipush 10, 2) := by decide +kernel
theorem dX6_scan_52 : decode cX6_scan 52 = .ok (.if_icmp .eq 46, 3) := by decide +kernel
theorem dX6_scan_55 : decode cX6_scan 55 = .ok (.aload_n 1, 1) := by decide +kernel
theorem dX6_scan_56 : decode cX6_scan 56 = .ok (.iload 5, 2) := by decide +kernel
theorem dX6_scan_58 : decode cX6_scan 58 = .ok (.baload, 1) := by decide +kernel
theorem dX6_scan_59 : decode cX6_scan 59 = .ok (.bipush 32, 2) := by decide +kernel
theorem dX6_scan_61 : decode cX6_scan 61 = .ok (.if_icmp .ne 6, 3) := by decide +kernel
theorem dX6_scan_64 : decode cX6_scan 64 = .ok (.goto 34, 3) := by decide +kernel
theorem dX6_scan_67 : decode cX6_scan 67 = .ok (.aload_n 1, 1) := by decide +kernel
theorem dX6_scan_68 : decode cX6_scan 68 = .ok (.iload 5, 2) := by decide +kernel
theorem dX6_scan_70 : decode cX6_scan 70 = .ok (.iload_n 3, 1) := by decide +kernel
theorem dX6_scan_71 : decode cX6_scan 71 = .ok (.invokestatic 54, 3) := by decide +kernel
theorem dX6_scan_74 : decode cX6_scan 74 = .ok (.istore 4, 2) := by decide +kernel
theorem dX6_scan_76 : decode cX6_scan 76 = .ok (.aload_n 0, 1) := by decide +kernel
theorem dX6_scan_77 : decode cX6_scan 77 = .ok (.aload_n 1, 1) := by decide +kernel
theorem dX6_scan_78 : decode cX6_scan 78 = .ok (.iload 5, 2) := by decide +kernel
theorem dX6_scan_80 : decode cX6_scan 80 = .ok (.iload 4, 2) := by decide +kernel
theorem dX6_scan_82 : decode cX6_scan 82 = .ok (.invokestatic 58, 3) := by decide +kernel
theorem dX6_scan_85 : decode cX6_scan 85 = .ok (.aload_n 1, 1) := by decide +kernel
theorem dX6_scan_86 : decode cX6_scan 86 = .ok (.iload 5, 2) := by decide +kernel
theorem dX6_scan_88 : decode cX6_scan 88 = .ok (.iload 4, 2) := by decide +kernel
theorem dX6_scan_90 : decode cX6_scan 90 = .ok (.invokestatic 61, 3) := by decide +kernel
theorem dX6_scan_93 : decode cX6_scan 93 = .ok (.iload 5, 2) := by decide +kernel
theorem dX6_scan_95 : decode cX6_scan 95 = .ok (.invokevirtual 64, 3) := by decide +kernel
theorem dX6_scan_98 : decode cX6_scan 98 = .ok (.iinc 5 1, 3) := by decide +kernel
theorem dX6_scan_101 : decode cX6_scan 101 = .ok (.goto (-68), 3) := by decide +kernel
theorem dX6_scan_104 : decode cX6_scan 104 = .ok (.aload_n 0, 1) := by decide +kernel
theorem dX6_scan_105 : decode cX6_scan 105 = .ok (.iconst 0, 1) := by decide +kernel
theorem dX6_scan_106 : decode cX6_scan 106 = .ok (.iconst 0, 1) := by decide +kernel
theorem dX6_scan_107 : decode cX6_scan 107 = .ok (.iload_n 2, 1) := by decide +kernel
theorem dX6_scan_108 : decode cX6_scan 108 = .ok (.invokevirtual 64, 3) := by decide +kernel
theorem dX6_scan_111 : decode cX6_scan 111 = .ok (.return_, 1) := by decide +kernel
theorem dX6_putToken_0 : decode cX6_putToken 0 = .ok (.aload_n 0, 1) := by decide +kernel
theorem dX6_putToken_1 : decode cX6_putToken 1 = .ok (.getfield 42, 3) := by decide +kernel
theorem dX6_putToken_4 : decode cX6_putToken 4 = .ok (.sipush 400, 3) := by decide +kernel
theorem dX6_putToken_7 : decode cX6_putToken 7 = .ok (.if_icmp .le 4, 3) := by decide +kernel
theorem dX6_putToken_10 : decode cX6_putToken 10 = .ok (.return_, 1) := by decide +kernel
theorem dX6_putToken_11 : decode cX6_putToken 11 = .ok (.aload_n 0, 1) := by decide +kernel
theorem dX6_putToken_12 : decode cX6_putToken 12 = .ok (.getfield 25, 3) := by decide +kernel
theorem dX6_putToken_15 : decode cX6_putToken 15 = .ok (.aload_n 0, 1) := by decide +kernel
theorem dX6_putToken_16 : decode cX6_putToken 16 = .ok (.getfield 42, 3) := by decide +kernel
theorem dX6_putToken_19 : decode cX6_putToken 19 = .ok (.iload_n 1, 1) := by decide +kernel
theorem dX6_putToken_20 : decode cX6_putToken 20 = .ok (.iastore, 1) := by decide +kernel
theorem dX6_putToken_21 : decode cX6_putToken 21 = .ok (.aload_n 0, 1) := by decide +kernel
theorem dX6_putToken_22 : decode cX6_putToken 22 = .ok (.getfield 29, 3) := by decide +kernel
theorem dX6_putToken_25 : decode cX6_putToken 25 = .ok (.aload_n 0, 1) := by decide +kernel
theorem dX6_putToken_26 : decode cX6_putToken 26 = .ok (.getfield 42, 3) := by decide +kernel
theorem dX6_putToken_29 : decode cX6_putToken 29 = .ok (.iload_n 2, 1) := by decide +kernel
theorem dX6_putToken_30 : decode cX6_putToken 30 = .ok (.iastore, 1) := by decide +kernel
theorem dX6_putToken_31 : decode cX6_putToken 31 = .ok (.aload_n 0, 1) := by decide +kernel
theorem dX6_putToken_32 : decode cX6_putToken 32 = .ok (.getfield 32, 3) := by decide +kernel
theorem dX6_putToken_35 : decode cX6_putToken 35 = .ok (.aload_n 0, 1) := by decide +kernel
theorem dX6_putToken_36 : decode cX6_putToken 36 = .ok (.getfield 42, 3) := by decide +kernel
theorem dX6_putToken_39 : decode cX6_putToken 39 = .ok (.iload_n 3, 1) := by decide +kernel
theorem dX6_putToken_40 : decode cX6_putToken 40 = .ok (.iastore, 1) := by decide +kernel
theorem dX6_putToken_41 : decode cX6_putToken 41 = .ok (.aload_n 0, 1) := by decide +kernel
theorem dX6_putToken_42 : decode cX6_putToken 42 = .ok (.dup, 1) := by decide +kernel
theorem dX6_putToken_43 : decode cX6_putToken 43 = .ok (.getfield 42, 3) := by decide +kernel
theorem dX6_putToken_46 : decode cX6_putToken 46 = .ok (.iconst 1, 1) := by decide +kernel
theorem dX6_putToken_47 : decode cX6_putToken 47 = .ok (.iadd, 1) := by decide +kernel
theorem dX6_putToken_48 : decode cX6_putToken 48 = .ok (.putfield 42, 3) := by decide +kernel
theorem dX6_putToken_51 : decode cX6_putToken 51 = .ok (.return_, 1) := by decide +kernel
theorem dX6_isLetter_0 : decode cX6_isLetter 0 = .ok (.iload_n 0, 1) := by decide +kernel
theorem dX6_isLetter_1 : decode cX6_isLetter 1 = .ok (.bipush 97, 2) := by decide +kernel
theorem dX6_isLetter_3 : decode cX6_isLetter 3 = .ok (.if_icmp .lt 13, 3) := by decide +kernel
theorem dX6_isLetter_6 : decode cX6_isLetter 6 = .ok (.iload_n 0, 1) := by decide +kernel
theorem dX6_isLetter_7 : decode cX6_isLetter 7 = .ok (.bipush 122, 2) := by decide +kernel
theorem dX6_isLetter_9 : decode cX6_isLetter 9 = .ok (.if_icmp .gt 7, 3) := by decide +kernel
theorem dX6_isLetter_12 : decode cX6_isLetter 12 = .ok (.iconst 1, 1) := by decide +kernel
theorem dX6_isLetter_13 : decode cX6_isLetter 13 = .ok (.goto 4, 3) := by decide +kernel
theorem dX6_isLetter_16 : decode cX6_isLetter 16 = .ok (.iconst 0, 1) := by decide +kernel
theorem dX6_isLetter_17 : decode cX6_isLetter 17 = .ok (.ireturn, 1) := by decide +kernel
theorem dX6_isDigit_0 : decode cX6_isDigit 0 = .ok (.iload_n 0, 1) := by decide +kernel
theorem dX6_isDigit_1 : decode cX6_isDigit 1 = .ok (.bipush 48, 2) := by decide +kernel
theorem dX6_isDigit_3 : decode cX6_isDigit 3 = .ok (.if_icmp .lt 13, 3) := by decide +kernel
theorem dX6_isDigit_6 : decode cX6_isDigit 6 = .ok (.iload_n 0, 1) := by decide +kernel
theorem dX6_isDigit_7 : decode cX6_isDigit 7 = .ok (.bipush 57, 2) := by decide +kernel
theorem dX6_isDigit_9 : decode cX6_isDigit 9 = .ok (.if_icmp .gt 7, 3) := by decide +kernel
theorem dX6_isDigit_12 : decode cX6_isDigit 12 = .ok (.iconst 1, 1) := by decide +kernel
theorem dX6_isDigit_13 : decode cX6_isDigit 13 = .ok (.goto 4, 3) := by decide +kernel
theorem dX6_isDigit_16 : decode cX6_isDigit 16 = .ok (.iconst 0, 1) := by decide +kernel
theorem dX6_isDigit_17 : decode cX6_isDigit 17 = .ok (.ireturn, 1) := by decide +kernel
theorem dX6_endOfToken_0 : decode cX6_endOfToken 0 = .ok (.iload_n 1, 1) := by decide +kernel
theorem dX6_endOfToken_1 : decode cX6_endOfToken 1 = .ok (.ifCond .lt 9, 3) := by decide +kernel
theorem dX6_endOfToken_4 : decode cX6_endOfToken 4 = .ok (.iload_n 2, 1) := by decide +kernel
theorem dX6_endOfToken_5 : decode cX6_endOfToken 5 = .ok (.aload_n 0, 1) := by decide +kernel
theorem dX6_endOfToken_6 : decode cX6_endOfToken 6 = .ok (.arraylength, 1) := by decide +kernel
theorem dX6_endOfToken_7 : decode cX6_endOfToken 7 = .ok (.if_icmp .le 5, 3) := by decide +kernel
theorem dX6_endOfToken_10 : decode cX6_endOfToken 10 = .ok (.iload_n 2, 1) := by decide +kernel
theorem dX6_endOfToken_11 : decode cX6_endOfToken 11 = .ok (.ireturn, 1) := by decide +kernel
theorem dX6_endOfToken_12 : decode cX6_endOfToken 12 = .ok (.iload_n 1, 1) := by decide +kernel
theorem dX6_endOfToken_13 : decode cX6_endOfToken 13 = .ok (.istore_n 3, 1) := by decide +kernel
theorem dX6_endOfToken_14 : decode cX6_endOfToken 14 = .ok (.iload_n 3, 1) := by decide +kernel
theorem dX6_endOfToken_15 : decode cX6_endOfToken 15 = .ok (.iload_n 2, 1) := by decide +kernel
theorem dX6_endOfToken_16 : decode cX6_endOfToken 16 = .ok (.if_icmp .ge 65, 3) := by decide +kernel
theorem dX6_endOfToken_19 : decode cX6_endOfToken 19 = .ok (.aload_n 0, 1) := by decide +kernel
theorem dX6_endOfToken_20 : decode cX6_endOfToken 20 = .ok (.iload_n 1, 1) := by decide +kernel
theorem dX6_endOfToken_21 : decode cX6_endOfToken 21 = .ok (.baload, 1) := by decide +kernel
theorem dX6_endOfToken_22 : decode cX6_endOfToken 22 = .ok (.invokestatic 68, 3) := by decide +kernel
theorem dX6_endOfToken_25 : decode cX6_endOfToken 25 = .ok (.ifCond .eq 12, 3) := by decide +kernel
theorem dX6_endOfToken_28 : decode cX6_endOfToken 28 = .ok (.aload_n 0, 1) := by decide +kernel
theorem dX6_endOfToken_29 : decode cX6_endOfToken 29 = .ok (.iload_n 3, 1) := by decide +kernel
theorem dX6_endOfToken_30 : decode cX6_endOfToken 30 = .ok (.baload, 1) := by decide +kernel
theorem dX6_endOfToken_31 : decode cX6_endOfToken 31 = .ok (.invokestatic 68, 3) := by decide +kernel
theorem dX6_endOfToken_34 : decode cX6_endOfToken 34 = .ok (.goto 26, 3) := by decide +kernel
theorem dX6_endOfToken_37 : decode cX6_endOfToken 37 = .ok (.aload_n 0, 1) := by decide +kernel
theorem dX6_endOfToken_38 : decode cX6_endOfToken 38 = .ok (.iload_n 1, 1) := by decide +kernel
theorem dX6_endOfToken_39 : decode cX6_endOfToken 39 = .ok (.baload, 1) := by decide +kernel
theorem dX6_endOfToken_40 : decode cX6_endOfToken 40 = .ok (.invokestatic 72, 3) := by decide +kernel
theorem dX6_endOfToken_43 : decode cX6_endOfToken 43 = .ok (.ifCond .eq 16, 3) := by decide +kernel
theorem dX6_endOfToken_46 : decode cX6_endOfToken 46 = .ok (.aload_n 0, 1) := by decide +kernel
theorem dX6_endOfToken_47 : decode cX6_endOfToken 47 = .ok (.iload_n 3, 1) := by decide +kernel
theorem dX6_endOfToken_48 : decode cX6_endOfToken 48 = .ok (.baload, 1) := by decide +kernel
theorem dX6_endOfToken_49 : decode cX6_endOfToken 49 = .ok (.invokestatic 72, 3) := by decide +kernel
theorem dX6_endOfToken_52 : decode cX6_endOfToken 52 = .ok (.ifCond .eq 7, 3) := by decide +kernel
theorem dX6_endOfToken_55 : decode cX6_endOfToken 55 = .ok (.iconst 1, 1) := by decide +kernel
theorem dX6_endOfToken_56 : decode cX6_endOfToken 56 = .ok (.goto 4, 3) := by decide +kernel
theorem dX6_endOfToken_59 : decode cX6_endOfToken 59 = .ok (.iconst 0, 1) := by decide +kernel
theorem dX6_endOfToken_60 : decode cX6_endOfToken 60 = .ok (.istore 4, 2) := by decide +kernel
theorem dX6_endOfToken_62 : decode cX6_endOfToken 62 = .ok (.iload 4, 2) := by decide +kernel
theorem dX6_endOfToken_64 : decode cX6_endOfToken 64 = .ok (.ifCond .ne 11, 3) := by decide +kernel
theorem dX6_endOfToken_67 : decode cX6_endOfToken 67 = .ok (.iload_n 3, 1) := by decide +kernel
theorem dX6_endOfToken_68 : decode cX6_endOfToken 68 = .ok (.iload_n 1, 1) := by decide +kernel
theorem dX6_endOfToken_69 : decode cX6_endOfToken 69 = .ok (.iconst 1, 1) := by decide +kernel
theorem dX6_endOfToken_70 : decode cX6_endOfToken 70 = .ok (.iadd, 1) := by decide +kernel
theorem dX6_endOfToken_71 : decode cX6_endOfToken 71 = .ok (.invokestatic 75, 3) := by decide +kernel
theorem dX6_endOfToken_74 : decode cX6_endOfToken 74 = .ok (.ireturn, 1) := by decide +kernel
theorem dX6_endOfToken_75 : decode cX6_endOfToken 75 = .ok (.iinc 3 1, 3) := by decide +kernel
theorem dX6_endOfToken_78 : decode cX6_endOfToken 78 = .ok (.goto (-64), 3) := by decide +kernel
theorem dX6_endOfToken_81 : decode cX6_endOfToken 81 = .ok (.iload_n 2, 1) := by decide +kernel
theorem dX6_endOfToken_82 : decode cX6_endOfToken 82 = .ok (.ireturn, 1) := by decide +kernel
theorem dX6_kindOf_0 : decode cX6_kindOf 0 = .ok (.iload_n 1, 1) := by decide +kernel
theorem dX6_kindOf_1 : decode cX6_kindOf 1 = .ok (.ifCond .lt 15, 3) := by decide +kernel
theorem dX6_kindOf_4 : decode cX6_kindOf 4 = .ok (.iload_n 1, 1) := by decide +kernel
theorem dX6_kindOf_5 : decode cX6_kindOf 5 = .ok (.aload_n 0, 1) := by decide +kernel
theorem dX6_kindOf_6 : decode cX6_kindOf 6 = .ok (.arraylength, 1) := by decide +kernel
theorem dX6_kindOf_7 : decode cX6_kindOf 7 = .ok (.if_icmp .ge 9, 3) := by decide +kernel
theorem dX6_kindOf_10 : decode cX6_kindOf 10 = .ok (.aload_n 0, 1) := by decide +kernel
theorem dX6_kindOf_11 : decode cX6_kindOf 11 = .ok (.iload_n 1, 1) := by decide +kernel
theorem dX6_kindOf_12 : decode cX6_kindOf 12 = .ok (.baload, 1) := by decide +kernel
theorem dX6_kindOf_13 : decode cX6_kindOf 13 = .ok (.goto 4, 3) := by decide +kernel
theorem dX6_kindOf_16 : decode cX6_kindOf 16 = .ok (.iconst 0, 1) := by decide +kernel
theorem dX6_kindOf_17 : decode cX6_kindOf 17 = .ok (.istore_n 3, 1) := by decide +kernel
theorem dX6_kindOf_18 : decode cX6_kindOf 18 = .ok (.iload_n 3, 1) := by decide +kernel
theorem dX6_kindOf_19 : decode cX6_kindOf 19 = .ok (.invokestatic 72, 3) := by decide +kernel
theorem dX6_kindOf_22 : decode cX6_kindOf 22 = .ok (.ifCond .eq 16, 3) := by decide +kernel
theorem dX6_kindOf_25 : decode cX6_kindOf 25 = .ok (.iload_n 2, 1) := by decide +kernel
theorem dX6_kindOf_26 : decode cX6_kindOf 26 = .ok (.iload_n 1, 1) := by decide +kernel
theorem dX6_kindOf_27 : decode cX6_kindOf 27 = .ok (.isub, 1) := by decide +kernel
theorem dX6_kindOf_28 : decode cX6_kindOf 28 = .ok (.iconst 3, 1) := by decide +kernel
theorem dX6_kindOf_29 : decode cX6_kindOf 29 = .ok (.if_icmp .le 7, 3) := by decide +kernel
theorem dX6_kindOf_32 : decode cX6_kindOf 32 = .ok (.iconst 1, 1) := by decide +kernel
theorem dX6_kindOf_33 : decode cX6_kindOf 33 = .ok (.goto 4, 3) := by decide +kernel
theorem dX6_kindOf_36 : decode cX6_kindOf 36 = .ok (.iconst 2, 1) := by decide +kernel
theorem dX6_kindOf_37 : decode cX6_kindOf 37 = .ok (.ireturn, 1) := by decide +kernel
theorem dX6_kindOf_38 : decode cX6_kindOf 38 = .ok (.iload_n 3, 1) := by decide +kernel
theorem dX6_kindOf_39 : decode cX6_kindOf 39 = .ok (.invokestatic 68, 3) := by decide +kernel
theorem dX6_kindOf_42 : decode cX6_kindOf 42 = .ok (.ifCond .eq 10, 3) := by decide +kernel
theorem dX6_kindOf_45 : decode cX6_kindOf 45 = .ok (.aload_n 0, 1) := by decide +kernel
theorem dX6_kindOf_46 : decode cX6_kindOf 46 = .ok (.iload_n 1, 1) := by decide +kernel
theorem dX6_kindOf_47 : decode cX6_kindOf 47 = .ok (.iload_n 2, 1) := by decide +kernel
theorem dX6_kindOf_48 : decode cX6_kindOf 48 = .ok (.invokestatic 78, 3) := by decide +kernel
theorem dX6_kindOf_51 : decode cX6_kindOf 51 = .ok (.ireturn, 1) := by decide +kernel
theorem dX6_kindOf_52 : decode cX6_kindOf 52 = .ok (.iload_n 3, 1) := by decide +kernel
theorem dX6_kindOf_53 : decode cX6_kindOf 53 = .ok (.bipush 59, 2) := by decide +kernel
theorem dX6_kindOf_55 : decode cX6_kindOf 55 = .ok (.if_icmp .ne 5, 3) := by decide +kernel
theorem dX6_kindOf_58 : decode cX6_kindOf 58 = .ok (.iconst 3, 1) := by decide +kernel
theorem dX6_kindOf_59 : decode cX6_kindOf 59 = .ok (.ireturn, 1) := by decide +kernel
theorem dX6_kindOf_60 : decode cX6_kindOf 60 = .ok (.iload_n 3, 1) := by decide +kernel
theorem dX6_kindOf_61 : decode cX6_kindOf 61 = .ok (.bipush 40, 2) := by decide +kernel
theorem dX6_kindOf_63 : decode cX6_kindOf 63 = .ok (.if_icmp .ne 5, 3) := by decide +kernel
theorem dX6_kindOf_66 : decode cX6_kindOf 66 = .ok (.iconst 4, 1) := by decide +kernel
theorem dX6_kindOf_67 : decode cX6_kindOf 67 = .ok (.ireturn, 1) := by decide +kernel
theorem dX6_kindOf_68 : decode cX6_kindOf 68 = .ok (.iload_n 3, 1) := by decide +kernel
theorem dX6_kindOf_69 : decode cX6_kindOf 69 = .ok (.bipush 41, 2) := by decide +kernel
theorem dX6_kindOf_71 : decode cX6_kindOf 71 = .ok (.if_icmp .ne 7, 3) := by decide +kernel
theorem dX6_kindOf_74 : decode cX6_kindOf 74 = .ok (.iconst 5, 1) := by decide +kernel
theorem dX6_kindOf_75 : decode cX6_kindOf 75 = .ok (.goto 4, 3) := by decide +kernel
theorem dX6_kindOf_78 : decode cX6_kindOf 78 = .ok (.iconst 1, 1) := by decide +kernel
theorem dX6_kindOf_79 : decode cX6_kindOf 79 = .ok (.ireturn, 1) := by decide +kernel
theorem dX6_numberOf_0 : decode cX6_numberOf 0 = .ok (.iload_n 1, 1) := by decide +kernel
theorem dX6_numberOf_1 : decode cX6_numberOf 1 = .ok (.ifCond .lt 16, 3) := by decide +kernel
theorem dX6_numberOf_4 : decode cX6_numberOf 4 = .ok (.iload_n 2, 1) := by decide +kernel
theorem dX6_numberOf_5 : decode cX6_numberOf 5 = .ok (.aload_n 0, 1) := by decide +kernel
theorem dX6_numberOf_6 : decode cX6_numberOf 6 = .ok (.arraylength, 1) := by decide +kernel
theorem dX6_numberOf_7 : decode cX6_numberOf 7 = .ok (.if_icmp .gt 10, 3) := by decide +kernel
theorem dX6_numberOf_10 : decode cX6_numberOf 10 = .ok (.iload_n 2, 1) := by decide +kernel
theorem dX6_numberOf_11 : decode cX6_numberOf 11 = .ok (.iload_n 1, 1) := by decide +kernel
theorem dX6_numberOf_12 : decode cX6_numberOf 12 = .ok (.isub, 1) := by decide +kernel
theorem dX6_numberOf_13 : decode cX6_numberOf 13 = .ok (.iconst 3, 1) := by decide +kernel
theorem dX6_numberOf_14 : decode cX6_numberOf 14 = .ok (.if_icmp .le 5, 3) := by decide +kernel
theorem dX6_numberOf_17 : decode cX6_numberOf 17 = .ok (.iconst 0, 1) := by decide +kernel
theorem dX6_numberOf_18 : decode cX6_numberOf 18 = .ok (.ireturn, 1) := by decide +kernel
theorem dX6_numberOf_19 : decode cX6_numberOf 19 = .ok (.iconst 0, 1) := by decide +kernel
theorem dX6_numberOf_20 : decode cX6_numberOf 20 = .ok (.istore_n 3, 1) := by decide +kernel
theorem dX6_numberOf_21 : decode cX6_numberOf 21 = .ok (.iload_n 1, 1) := by decide +kernel
theorem dX6_numberOf_22 : decode cX6_numberOf 22 = .ok (.istore 4, 2) := by decide +kernel
theorem dX6_numberOf_24 : decode cX6_numberOf 24 = .ok (.iload 4, 2) := by decide +kernel
theorem dX6_numberOf_26 : decode cX6_numberOf 26 = .ok (.iload_n 2, 1) := by decide +kernel
theorem dX6_numberOf_27 : decode cX6_numberOf 27 = .ok (.if_icmp .ge 32, 3) := by decide +kernel
theorem dX6_numberOf_30 : decode cX6_numberOf 30 = .ok (.aload_n 0, 1) := by decide +kernel
theorem dX6_numberOf_31 : decode cX6_numberOf 31 = .ok (.iload 4, 2) := by decide +kernel
theorem dX6_numberOf_33 : decode cX6_numberOf 33 = .ok (.baload, 1) := by decide +kernel
theorem dX6_numberOf_34 : decode cX6_numberOf 34 = .ok (.invokestatic 72, 3) := by decide +kernel
theorem dX6_numberOf_37 : decode cX6_numberOf 37 = .ok (.ifCond .eq 16, 3) := by decide +kernel
theorem dX6_numberOf_40 : decode cX6_numberOf 40 = .ok (.bipush 10, 2) := by decide +kernel
theorem dX6_numberOf_42 : decode cX6_numberOf 42 = .ok (.iload_n 3, 1) := by decide +kernel
theorem dX6_numberOf_43 : decode cX6_numberOf 43 = .ok (.imul, 1) := by decide +kernel
theorem dX6_numberOf_44 : decode cX6_numberOf 44 = .ok (.aload_n 0, 1) := by decide +kernel
theorem dX6_numberOf_45 : decode cX6_numberOf 45 = .ok (.iload 4, 2) := by decide +kernel
theorem dX6_numberOf_47 : decode cX6_numberOf 47 = .ok (.baload, 1) := by decide +kernel
theorem dX6_numberOf_48 : decode cX6_numberOf 48 = .ok (.iadd, 1) := by decide +kernel
theorem dX6_numberOf_49 : decode cX6_numberOf 49 = .ok (.bipush 48, 2) := by decide +kernel
theorem dX6_numberOf_51 : decode cX6_numberOf 51 = .ok (.isub, 1) := by decide +kernel
theorem dX6_numberOf_52 : decode cX6_numberOf 52 = .ok (.istore_n 3, 1) := by decide +kernel
theorem dX6_numberOf_53 : decode cX6_numberOf 53 = .ok (.iinc 4 1, 3) := by decide +kernel
theorem dX6_numberOf_56 : decode cX6_numberOf 56 = .ok (.goto (-32), 3) := by decide +kernel
theorem dX6_numberOf_59 : decode cX6_numberOf 59 = .ok (.iload_n 3, 1) := by decide +kernel
theorem dX6_numberOf_60 : decode cX6_numberOf 60 = .ok (.ireturn, 1) := by decide +kernel
theorem dX6_wordKind_0 : decode cX6_wordKind 0 = .ok (.aload_n 0, 1) := by decide +kernel
theorem dX6_wordKind_1 : decode cX6_wordKind 1 = .ok (.iload_n 1, 1) := by decide +kernel
theorem dX6_wordKind_2 : decode cX6_wordKind 2 = .ok (.iload_n 2, 1) := by decide +kernel
theorem dX6_wordKind_3 : decode cX6_wordKind 3 = .ok (.ldc 81, 2) := by decide +kernel
theorem dX6_wordKind_5 : decode cX6_wordKind 5 = .ok (.invokestatic 83, 3) := by decide +kernel
theorem dX6_wordKind_8 : decode cX6_wordKind 8 = .ok (.ifCond .eq 6, 3) := by decide +kernel
theorem dX6_wordKind_11 : decode cX6_wordKind 11 = .ok (.bipush 6, 2) := by decide +kernel
theorem dX6_wordKind_13 : decode cX6_wordKind 13 = .ok (.ireturn, 1) := by decide +kernel
theorem dX6_wordKind_14 : decode cX6_wordKind 14 = .ok (.aload_n 0, 1) := by decide +kernel
theorem dX6_wordKind_15 : decode cX6_wordKind 15 = .ok (.iload_n 1, 1) := by decide +kernel
theorem dX6_wordKind_16 : decode cX6_wordKind 16 = .ok (.iload_n 2, 1) := by decide +kernel
theorem dX6_wordKind_17 : decode cX6_wordKind 17 = .ok (.ldc 87, 2) := by decide +kernel
theorem dX6_wordKind_19 : decode cX6_wordKind 19 = .ok (.invokestatic 83, 3) := by decide +kernel
theorem dX6_wordKind_22 : decode cX6_wordKind 22 = .ok (.ifCond .eq 6, 3) := by decide +kernel
theorem dX6_wordKind_25 : decode cX6_wordKind 25 = .ok (.bipush 7, 2) := by decide +kernel
theorem dX6_wordKind_27 : decode cX6_wordKind 27 = .ok (.ireturn, 1) := by decide +kernel
theorem dX6_wordKind_28 : decode cX6_wordKind 28 = .ok (.aload_n 0, 1) := by decide +kernel
theorem dX6_wordKind_29 : decode cX6_wordKind 29 = .ok (.iload_n 1, 1) := by decide +kernel
theorem dX6_wordKind_30 : decode cX6_wordKind 30 = .ok (.iload_n 2, 1) := by decide +kernel
theorem dX6_wordKind_31 : decode cX6_wordKind 31 = .ok (.ldc 89, 2) := by decide +kernel
theorem dX6_wordKind_33 : decode cX6_wordKind 33 = .ok (.invokestatic 83, 3) := by decide +kernel
theorem dX6_wordKind_36 : decode cX6_wordKind 36 = .ok (.ifCond .eq 6, 3) := by decide +kernel
theorem dX6_wordKind_39 : decode cX6_wordKind 39 = .ok (.bipush 8, 2) := by decide +kernel
theorem dX6_wordKind_41 : decode cX6_wordKind 41 = .ok (.ireturn, 1) := by decide +kernel
theorem dX6_wordKind_42 : decode cX6_wordKind 42 = .ok (.aload_n 0, 1) := by decide +kernel
theorem dX6_wordKind_43 : decode cX6_wordKind 43 = .ok (.iload_n 1, 1) := by decide +kernel
theorem dX6_wordKind_44 : decode cX6_wordKind 44 = .ok (.iload_n 2, 1) := by decide +kernel
theorem dX6_wordKind_45 : decode cX6_wordKind 45 = .ok (.ldc 91, 2) := by decide +kernel
theorem dX6_wordKind_47 : decode cX6_wordKind 47 = .ok (.invokestatic 83, 3) := by decide +kernel
theorem dX6_wordKind_50 : decode cX6_wordKind 50 = .ok (.ifCond .eq 6, 3) := by decide +kernel
theorem dX6_wordKind_53 : decode cX6_wordKind 53 = .ok (.bipush 9, 2) := by decide +kernel
theorem dX6_wordKind_55 : decode cX6_wordKind 55 = .ok (.ireturn, 1) := by decide +kernel
theorem dX6_wordKind_56 : decode cX6_wordKind 56 = .ok (.aload_n 0, 1) := by decide +kernel
theorem dX6_wordKind_57 : decode cX6_wordKind 57 = .ok (.iload_n 1, 1) := by decide +kernel
theorem dX6_wordKind_58 : decode cX6_wordKind 58 = .ok (.iload_n 2, 1) := by decide +kernel
theorem dX6_wordKind_59 : decode cX6_wordKind 59 = .ok (.ldc 93, 2) := by decide +kernel
theorem dX6_wordKind_61 : decode cX6_wordKind 61 = .ok (.invokestatic 83, 3) := by decide +kernel
theorem dX6_wordKind_64 : decode cX6_wordKind 64 = .ok (.ifCond .eq 6, 3) := by decide +kernel
theorem dX6_wordKind_67 : decode cX6_wordKind 67 = .ok (.bipush 10, 2) := by decide +kernel
theorem dX6_wordKind_69 : decode cX6_wordKind 69 = .ok (.ireturn, 1) := by decide +kernel
theorem dX6_wordKind_70 : decode cX6_wordKind 70 = .ok (.aload_n 0, 1) := by decide +kernel
theorem dX6_wordKind_71 : decode cX6_wordKind 71 = .ok (.iload_n 1, 1) := by decide +kernel
theorem dX6_wordKind_72 : decode cX6_wordKind 72 = .ok (.iload_n 2, 1) := by decide +kernel
theorem dX6_wordKind_73 : decode cX6_wordKind 73 = .ok (.ldc 95, 2) := by decide +kernel
theorem dX6_wordKind_75 : decode cX6_wordKind 75 = .ok (.invokestatic 83, 3) := by decide +kernel
theorem dX6_wordKind_78 : decode cX6_wordKind 78 = .ok (.ifCond .eq 6, 3) := by decide +kernel
theorem dX6_wordKind_81 : decode cX6_wordKind 81 = .ok (.bipush 11, 2) := by decide +kernel
theorem dX6_wordKind_83 : decode cX6_wordKind 83 = .ok (.ireturn, 1) := by decide +kernel
theorem dX6_wordKind_84 : decode cX6_wordKind 84 = .ok (.aload_n 0, 1) := by decide +kernel
theorem dX6_wordKind_85 : decode cX6_wordKind 85 = .ok (.iload_n 1, 1) := by decide +kernel
theorem dX6_wordKind_86 : decode cX6_wordKind 86 = .ok (.iload_n 2, 1) := by decide +kernel
theorem dX6_wordKind_87 : decode cX6_wordKind 87 = .ok (.ldc 97, 2) := by decide +kernel
theorem dX6_wordKind_89 : decode cX6_wordKind 89 = .ok (.invokestatic 83, 3) := by decide +kernel
theorem dX6_wordKind_92 : decode cX6_wordKind 92 = .ok (.ifCond .eq 6, 3) := by decide +kernel
theorem dX6_wordKind_95 : decode cX6_wordKind 95 = .ok (.bipush 12, 2) := by decide +kernel
theorem dX6_wordKind_97 : decode cX6_wordKind 97 = .ok (.ireturn, 1) := by decide +kernel
theorem dX6_wordKind_98 : decode cX6_wordKind 98 = .ok (.aload_n 0, 1) := by decide +kernel
theorem dX6_wordKind_99 : decode cX6_wordKind 99 = .ok (.iload_n 1, 1) := by decide +kernel
theorem dX6_wordKind_100 : decode cX6_wordKind 100 = .ok (.iload_n 2, 1) := by decide +kernel
theorem dX6_wordKind_101 : decode cX6_wordKind 101 = .ok (.ldc 99, 2) := by decide +kernel
theorem dX6_wordKind_103 : decode cX6_wordKind 103 = .ok (.invokestatic 83, 3) := by decide +kernel
theorem dX6_wordKind_106 : decode cX6_wordKind 106 = .ok (.ifCond .eq 6, 3) := by decide +kernel
theorem dX6_wordKind_109 : decode cX6_wordKind 109 = .ok (.bipush 13, 2) := by decide +kernel
theorem dX6_wordKind_111 : decode cX6_wordKind 111 = .ok (.ireturn, 1) := by decide +kernel
theorem dX6_wordKind_112 : decode cX6_wordKind 112 = .ok (.aload_n 0, 1) := by decide +kernel
theorem dX6_wordKind_113 : decode cX6_wordKind 113 = .ok (.iload_n 1, 1) := by decide +kernel
theorem dX6_wordKind_114 : decode cX6_wordKind 114 = .ok (.iload_n 2, 1) := by decide +kernel
theorem dX6_wordKind_115 : decode cX6_wordKind 115 = .ok (.ldc 101, 2) := by decide +kernel
theorem dX6_wordKind_117 : decode cX6_wordKind 117 = .ok (.invokestatic 83, 3) := by decide +kernel
theorem dX6_wordKind_120 : decode cX6_wordKind 120 = .ok (.ifCond .eq 6, 3) := by decide +kernel
theorem dX6_wordKind_123 : decode cX6_wordKind 123 = .ok (.bipush 14, 2) := by decide +kernel
theorem dX6_wordKind_125 : decode cX6_wordKind 125 = .ok (.ireturn, 1) := by decide +kernel
theorem dX6_wordKind_126 : decode cX6_wordKind 126 = .ok (.aload_n 0, 1) := by decide +kernel
theorem dX6_wordKind_127 : decode cX6_wordKind 127 = .ok (.iload_n 1, 1) := by decide +kernel
theorem dX6_wordKind_128 : decode cX6_wordKind 128 = .ok (.iload_n 2, 1) := by decide +kernel
theorem dX6_wordKind_129 : decode cX6_wordKind 129 = .ok (.ldc 103, 2) := by decide +kernel
theorem dX6_wordKind_131 : decode cX6_wordKind 131 = .ok (.invokestatic 83, 3) := by decide +kernel
theorem dX6_wordKind_134 : decode cX6_wordKind 134 = .ok (.ifCond .eq 6, 3) := by decide +kernel
theorem dX6_wordKind_137 : decode cX6_wordKind 137 = .ok (.bipush 15, 2) := by decide +kernel
theorem dX6_wordKind_139 : decode cX6_wordKind 139 = .ok (.ireturn, 1) := by decide +kernel
theorem dX6_wordKind_140 : decode cX6_wordKind 140 = .ok (.aload_n 0, 1) := by decide +kernel
theorem dX6_wordKind_141 : decode cX6_wordKind 141 = .ok (.iload_n 1, 1) := by decide +kernel
theorem dX6_wordKind_142 : decode cX6_wordKind 142 = .ok (.iload_n 2, 1) := by decide +kernel
theorem dX6_wordKind_143 : decode cX6_wordKind 143 = .ok (.ldc 105, 2) := by decide +kernel
theorem dX6_wordKind_145 : decode cX6_wordKind 145 = .ok (.invokestatic 83, 3) := by decide +kernel
theorem dX6_wordKind_148 : decode cX6_wordKind 148 = .ok (.ifCond .eq 6, 3) := by decide +kernel
theorem dX6_wordKind_151 : decode cX6_wordKind 151 = .ok (.bipush 16, 2) := by decide +kernel
theorem dX6_wordKind_153 : decode cX6_wordKind 153 = .ok (.ireturn, 1) := by decide +kernel
theorem dX6_wordKind_154 : decode cX6_wordKind 154 = .ok (.aload_n 0, 1) := by decide +kernel
theorem dX6_wordKind_155 : decode cX6_wordKind 155 = .ok (.iload_n 1, 1) := by decide +kernel
theorem dX6_wordKind_156 : decode cX6_wordKind 156 = .ok (.iload_n 2, 1) := by decide +kernel
theorem dX6_wordKind_157 : decode cX6_wordKind 157 = .ok (.ldc 107, 2) := by decide +kernel
theorem dX6_wordKind_159 : decode cX6_wordKind 159 = .ok (.invokestatic 83, 3) := by decide +kernel
theorem dX6_wordKind_162 : decode cX6_wordKind 162 = .ok (.ifCond .eq 6, 3) := by decide +kernel
theorem dX6_wordKind_165 : decode cX6_wordKind 165 = .ok (.bipush 17, 2) := by decide +kernel
theorem dX6_wordKind_167 : decode cX6_wordKind 167 = .ok (.ireturn, 1) := by decide +kernel
theorem dX6_wordKind_168 : decode cX6_wordKind 168 = .ok (.aload_n 0, 1) := by decide +kernel
theorem dX6_wordKind_169 : decode cX6_wordKind 169 = .ok (.iload_n 1, 1) := by decide +kernel
theorem dX6_wordKind_170 : decode cX6_wordKind 170 = .ok (.iload_n 2, 1) := by decide +kernel
theorem dX6_wordKind_171 : decode cX6_wordKind 171 = .ok (.ldc 109, 2) := by decide +kernel
theorem dX6_wordKind_173 : decode cX6_wordKind 173 = .ok (.invokestatic 83, 3) := by decide +kernel
theorem dX6_wordKind_176 : decode cX6_wordKind 176 = .ok (.ifCond .eq 8, 3) := by decide +kernel
theorem dX6_wordKind_179 : decode cX6_wordKind 179 = .ok (.bipush 18, 2) := by decide +kernel
theorem dX6_wordKind_181 : decode cX6_wordKind 181 = .ok (.goto 5, 3) := by decide +kernel
theorem dX6_wordKind_184 : decode cX6_wordKind 184 = .ok (.bipush 19, 2) := by decide +kernel
theorem dX6_wordKind_186 : decode cX6_wordKind 186 = .ok (.ireturn, 1) := by decide +kernel
theorem dX6_spells_0 : decode cX6_spells 0 = .ok (.iload_n 1, 1) := by decide +kernel
theorem dX6_spells_1 : decode cX6_spells 1 = .ok (.ifCond .lt 19, 3) := by decide +kernel
theorem dX6_spells_4 : decode cX6_spells 4 = .ok (.iload_n 2, 1) := by decide +kernel
theorem dX6_spells_5 : decode cX6_spells 5 = .ok (.aload_n 0, 1) := by decide +kernel
theorem dX6_spells_6 : decode cX6_spells 6 = .ok (.arraylength, 1) := by decide +kernel
theorem dX6_spells_7 : decode cX6_spells 7 = .ok (.if_icmp .gt 13, 3) := by decide +kernel
theorem dX6_spells_10 : decode cX6_spells 10 = .ok (.iload_n 2, 1) := by decide +kernel
theorem dX6_spells_11 : decode cX6_spells 11 = .ok (.iload_n 1, 1) := by decide +kernel
theorem dX6_spells_12 : decode cX6_spells 12 = .ok (.isub, 1) := by decide +kernel
theorem dX6_spells_13 : decode cX6_spells 13 = .ok (.aload_n 3, 1) := by decide +kernel
theorem dX6_spells_14 : decode cX6_spells 14 = .ok (.invokevirtual 111, 3) := by decide +kernel
theorem dX6_spells_17 : decode cX6_spells 17 = .ok (.if_icmp .eq 5, 3) := by decide +kernel
theorem dX6_spells_20 : decode cX6_spells 20 = .ok (.iconst 0, 1) := by decide +kernel
theorem dX6_spells_21 : decode cX6_spells 21 = .ok (.ireturn, 1) := by decide +kernel
theorem dX6_spells_22 : decode cX6_spells 22 = .ok (.iload_n 1, 1) := by decide +kernel
theorem dX6_spells_23 : decode cX6_spells 23 = .ok (.istore 4, 2) := by decide +kernel
theorem dX6_spells_25 : decode cX6_spells 25 = .ok (.iload 4, 2) := by decide +kernel
theorem dX6_spells_27 : decode cX6_spells 27 = .ok (.iload_n 2, 1) := by decide +kernel
theorem dX6_spells_28 : decode cX6_spells 28 = .ok (.if_icmp .ge 26, 3) := by decide +kernel
theorem dX6_spells_31 : decode cX6_spells 31 = .ok (.aload_n 0, 1) := by decide +kernel
theorem dX6_spells_32 : decode cX6_spells 32 = .ok (.iload 4, 2) := by decide +kernel
theorem dX6_spells_34 : decode cX6_spells 34 = .ok (.baload, 1) := by decide +kernel
theorem dX6_spells_35 : decode cX6_spells 35 = .ok (.aload_n 3, 1) := by decide +kernel
theorem dX6_spells_36 : decode cX6_spells 36 = .ok (.iload 4, 2) := by decide +kernel
theorem dX6_spells_38 : decode cX6_spells 38 = .ok (.iload_n 1, 1) := by decide +kernel
theorem dX6_spells_39 : decode cX6_spells 39 = .ok (.isub, 1) := by decide +kernel
theorem dX6_spells_40 : decode cX6_spells 40 = .ok (.invokevirtual 117, 3) := by decide +kernel
theorem dX6_spells_43 : decode cX6_spells 43 = .ok (.if_icmp .eq 5, 3) := by decide +kernel
theorem dX6_spells_46 : decode cX6_spells 46 = .ok (.iconst 0, 1) := by decide +kernel
theorem dX6_spells_47 : decode cX6_spells 47 = .ok (.ireturn, 1) := by decide +kernel
theorem dX6_spells_48 : decode cX6_spells 48 = .ok (.iinc 4 1, 3) := by decide +kernel
theorem dX6_spells_51 : decode cX6_spells 51 = .ok (.goto (-26), 3) := by decide +kernel
theorem dX6_spells_54 : decode cX6_spells 54 = .ok (.iconst 1, 1) := by decide +kernel
theorem dX6_spells_55 : decode cX6_spells 55 = .ok (.ireturn, 1) := by decide +kernel
theorem dX6_readFashion_0 : decode cX6_readFashion 0 = .ok (.aload_n 0, 1) := by decide +kernel
theorem dX6_readFashion_1 : decode cX6_readFashion 1 = .ok (.getfield 12, 3) := by decide +kernel
theorem dX6_readFashion_4 : decode cX6_readFashion 4 = .ok (.invokevirtual 121, 3) := by decide +kernel
theorem dX6_readFashion_7 : decode cX6_readFashion 7 = .ok (.iconst 0, 1) := by decide +kernel
theorem dX6_readFashion_8 : decode cX6_readFashion 8 = .ok (.istore_n 1, 1) := by decide +kernel
theorem dX6_readFashion_9 : decode cX6_readFashion 9 = .ok (.iload_n 1, 1) := by decide +kernel
theorem dX6_readFashion_10 : decode cX6_readFashion 10 = .ok (.bipush 12, 2) := by decide +kernel
theorem dX6_readFashion_12 : decode cX6_readFashion 12 = .ok (.if_icmp .gt 28, 3) := by decide +kernel
theorem dX6_readFashion_15 : decode cX6_readFashion 15 = .ok (.aload_n 0, 1) := by decide +kernel
theorem dX6_readFashion_16 : decode cX6_readFashion 16 = .ok (.getfield 35, 3) := by decide +kernel
theorem dX6_readFashion_19 : decode cX6_readFashion 19 = .ok (.ifCond .ne 21, 3) := by decide +kernel
theorem dX6_readFashion_22 : decode cX6_readFashion 22 = .ok (.aload_n 0, 1) := by decide +kernel
theorem dX6_readFashion_23 : decode cX6_readFashion 23 = .ok (.iconst 0, 1) := by decide +kernel
theorem dX6_readFashion_24 : decode cX6_readFashion 24 = .ok (.invokevirtual 124, 3) := by decide +kernel
theorem dX6_readFashion_27 : decode cX6_readFashion 27 = .ok (.ifCond .ne 13, 3) := by decide +kernel
theorem dX6_readFashion_30 : decode cX6_readFashion 30 = .ok (.aload_n 0, 1) := by decide +kernel
theorem dX6_readFashion_31 : decode cX6_readFashion 31 = .ok (.invokevirtual 127, 3) := by decide +kernel
theorem dX6_readFashion_34 : decode cX6_readFashion 34 = .ok (.iinc 1 1, 3) := by decide +kernel
theorem dX6_readFashion_37 : decode cX6_readFashion 37 = .ok (.goto (-28), 3) := by decide +kernel
theorem dX6_readFashion_40 : decode cX6_readFashion 40 = .ok (.return_, 1) := by decide +kernel
theorem dX6_readRule_0 : decode cX6_readRule 0 = .ok (.aload_n 0, 1) := by decide +kernel
theorem dX6_readRule_1 : decode cX6_readRule 1 = .ok (.aload_n 0, 1) := by decide +kernel
theorem dX6_readRule_2 : decode cX6_readRule 2 = .ok (.getfield 12, 3) := by decide +kernel
theorem dX6_readRule_5 : decode cX6_readRule 5 = .ok (.getfield 130, 3) := by decide +kernel
theorem dX6_readRule_8 : decode cX6_readRule 8 = .ok (.bipush 12, 2) := by decide +kernel
theorem dX6_readRule_10 : decode cX6_readRule 10 = .ok (.if_icmp .lt 7, 3) := by decide +kernel
theorem dX6_readRule_13 : decode cX6_readRule 13 = .ok (.iconst 1, 1) := by decide +kernel
theorem dX6_readRule_14 : decode cX6_readRule 14 = .ok (.goto 4, 3) := by decide +kernel
theorem dX6_readRule_17 : decode cX6_readRule 17 = .ok (.iconst 0, 1) := by decide +kernel
theorem dX6_readRule_18 : decode cX6_readRule 18 = .ok (.invokevirtual 133, 3) := by decide +kernel
theorem dX6_readRule_21 : decode cX6_readRule 21 = .ok (.lstore_n 1, 1) := by decide +kernel
theorem dX6_readRule_22 : decode cX6_readRule 22 = .ok (.aload_n 0, 1) := by decide +kernel
theorem dX6_readRule_23 : decode cX6_readRule 23 = .ok (.bipush 6, 2) := by decide +kernel
theorem dX6_readRule_25 : decode cX6_readRule 25 = .ok (.invokevirtual 137, 3) := by decide +kernel
theorem dX6_readRule_28 : decode cX6_readRule 28 = .ok (.aload_n 0, 1) := by decide +kernel
theorem dX6_readRule_29 : decode cX6_readRule 29 = .ok (.iconst 0, 1) := by decide +kernel
theorem dX6_readRule_30 : decode cX6_readRule 30 = .ok (.invokevirtual 133, 3) := by decide +kernel
theorem dX6_readRule_33 : decode cX6_readRule 33 = .ok (.lstore_n 3, 1) := by decide +kernel
theorem dX6_readRule_34 : decode cX6_readRule 34 = .ok (.aload_n 0, 1) := by decide +kernel
theorem dX6_readRule_35 : decode cX6_readRule 35 = .ok (.getfield 12, 3) := by decide +kernel
theorem dX6_readRule_38 : decode cX6_readRule 38 = .ok (.getfield 141, 3) := by decide +kernel
theorem dX6_readRule_41 : decode cX6_readRule 41 = .ok (.istore 5, 2) := by decide +kernel
theorem dX6_readRule_43 : decode cX6_readRule 43 = .ok (.aload_n 0, 1) := by decide +kernel
theorem dX6_readRule_44 : decode cX6_readRule 44 = .ok (.bipush 7, 2) := by decide +kernel
theorem dX6_readRule_46 : decode cX6_readRule 46 = .ok (.invokevirtual 124, 3) := by decide +kernel
theorem dX6_readRule_49 : decode cX6_readRule 49 = .ok (.ifCond .eq 18, 3) := by decide +kernel
theorem dX6_readRule_52 : decode cX6_readRule 52 = .ok (.aload_n 0, 1) := by decide +kernel
theorem dX6_readRule_53 : decode cX6_readRule 53 = .ok (.dup, 1) := by decide +kernel
theorem dX6_readRule_54 : decode cX6_readRule 54 = .ok (.getfield 45, 3) := by decide +kernel
theorem dX6_readRule_57 : decode cX6_readRule 57 = .ok (.iconst 1, 1) := by decide +kernel
theorem dX6_readRule_58 : decode cX6_readRule 58 = .ok (.iadd, 1) := by decide +kernel
theorem dX6_readRule_59 : decode cX6_readRule 59 = .ok (.putfield 45, 3) := by decide +kernel
theorem dX6_readRule_62 : decode cX6_readRule 62 = .ok (.aload_n 0, 1) := by decide +kernel
theorem dX6_readRule_63 : decode cX6_readRule 63 = .ok (.iconst 0, 1) := by decide +kernel
theorem dX6_readRule_64 : decode cX6_readRule 64 = .ok (.invokevirtual 144, 3) := by decide +kernel
theorem dX6_readRule_67 : decode cX6_readRule 67 = .ok (.aload_n 0, 1) := by decide +kernel
theorem dX6_readRule_68 : decode cX6_readRule 68 = .ok (.iconst 3, 1) := by decide +kernel
theorem dX6_readRule_69 : decode cX6_readRule 69 = .ok (.invokevirtual 137, 3) := by decide +kernel
theorem dX6_readRule_72 : decode cX6_readRule 72 = .ok (.aload_n 0, 1) := by decide +kernel
theorem dX6_readRule_73 : decode cX6_readRule 73 = .ok (.getfield 35, 3) := by decide +kernel
theorem dX6_readRule_76 : decode cX6_readRule 76 = .ok (.ifCond .ne 14, 3) := by decide +kernel
theorem dX6_readRule_79 : decode cX6_readRule 79 = .ok (.aload_n 0, 1) := by decide +kernel
theorem dX6_readRule_80 : decode cX6_readRule 80 = .ok (.getfield 12, 3) := by decide +kernel
theorem dX6_readRule_83 : decode cX6_readRule 83 = .ok (.lload_n 1, 1) := by decide +kernel
theorem dX6_readRule_84 : decode cX6_readRule 84 = .ok (.lload_n 3, 1) := by decide +kernel
theorem dX6_readRule_85 : decode cX6_readRule 85 = .ok (.iload 5, 2) := by decide +kernel
theorem dX6_readRule_87 : decode cX6_readRule 87 = .ok (.invokevirtual 147, 3) := by decide +kernel
theorem dX6_readRule_90 : decode cX6_readRule 90 = .ok (.return_, 1) := by decide +kernel
theorem dX6_readSide_0 : decode cX6_readSide 0 = .ok (.lconst 0, 1) := by decide +kernel
theorem dX6_readSide_1 : decode cX6_readSide 1 = .ok (.lstore_n 2, 1) := by decide +kernel
theorem dX6_readSide_2 : decode cX6_readSide 2 = .ok (.iconst 0, 1) := by decide +kernel
theorem dX6_readSide_3 : decode cX6_readSide 3 = .ok (.istore 4, 2) := by decide +kernel
theorem dX6_readSide_5 : decode cX6_readSide 5 = .ok (.iload 4, 2) := by decide +kernel
theorem dX6_readSide_7 : decode cX6_readSide 7 = .ok (.iconst 4, 1) := by decide +kernel
theorem dX6_readSide_8 : decode cX6_readSide 8 = .ok (.if_icmp .gt 70, 3) := by decide +kernel
theorem dX6_readSide_11 : decode cX6_readSide 11 = .ok (.aload_n 0, 1) := by decide +kernel
theorem dX6_readSide_12 : decode cX6_readSide 12 = .ok (.getfield 35, 3) := by decide +kernel
theorem dX6_readSide_15 : decode cX6_readSide 15 = .ok (.ifCond .ne 63, 3) := by decide +kernel
theorem dX6_readSide_18 : decode cX6_readSide 18 = .ok (.iload 4, 2) := by decide +kernel
theorem dX6_readSide_20 : decode cX6_readSide 20 = .ok (.ifCond .le 13, 3) := by decide +kernel
theorem dX6_readSide_23 : decode cX6_readSide 23 = .ok (.aload_n 0, 1) := by decide +kernel
theorem dX6_readSide_24 : decode cX6_readSide 24 = .ok (.iconst 2, 1) := by decide +kernel
theorem dX6_readSide_25 : decode cX6_readSide 25 = .ok (.invokevirtual 124, 3) := by decide +kernel
theorem dX6_readSide_28 : decode cX6_readSide 28 = .ok (.ifCond .ne 5, 3) := by decide +kernel
theorem dX6_readSide_31 : decode cX6_readSide 31 = .ok (.lload_n 2, 1) := by decide +kernel
theorem dX6_readSide_32 : decode cX6_readSide 32 = .ok (.lreturn, 1) := by decide +kernel
theorem dX6_readSide_33 : decode cX6_readSide 33 = .ok (.aload_n 0, 1) := by decide +kernel
theorem dX6_readSide_34 : decode cX6_readSide 34 = .ok (.iconst 1, 1) := by decide +kernel
theorem dX6_readSide_35 : decode cX6_readSide 35 = .ok (.sipush 255, 3) := by decide +kernel
theorem dX6_readSide_38 : decode cX6_readSide 38 = .ok (.iload_n 1, 1) := by decide +kernel
theorem dX6_readSide_39 : decode cX6_readSide 39 = .ok (.ifCond .ne 9, 3) := by decide +kernel
theorem dX6_readSide_42 : decode cX6_readSide 42 = .ok (.iload 4, 2) := by decide +kernel
theorem dX6_readSide_44 : decode cX6_readSide 44 = .ok (.iconst 4, 1) := by decide +kernel
theorem dX6_readSide_45 : decode cX6_readSide 45 = .ok (.if_icmp .ne 7, 3) := by decide +kernel
theorem dX6_readSide_48 : decode cX6_readSide 48 = .ok (.iconst 1, 1) := by decide +kernel
theorem dX6_readSide_49 : decode cX6_readSide 49 = .ok (.goto 4, 3) := by decide +kernel
theorem dX6_readSide_52 : decode cX6_readSide 52 = .ok (.iconst 0, 1) := by decide +kernel
theorem dX6_readSide_53 : decode cX6_readSide 53 = .ok (.invokevirtual 151, 3) := by decide +kernel
theorem dX6_readSide_56 : decode cX6_readSide 56 = .ok (.istore 5, 2) := by decide +kernel
theorem dX6_readSide_58 : decode cX6_readSide 58 = .ok (.lload_n 2, 1) := by decide +kernel
theorem dX6_readSide_59 : decode cX6_readSide 59 = .ok (.iload 5, 2) := by decide +kernel
theorem dX6_readSide_61 : decode cX6_readSide 61 = .ok (.i2l, 1) := by decide +kernel
theorem dX6_readSide_62 : decode cX6_readSide 62 = .ok (.bipush 56, 2) := by decide +kernel
theorem dX6_readSide_64 : decode cX6_readSide 64 = .ok (.lshl, 1) := by decide +kernel
theorem dX6_readSide_65 : decode cX6_readSide 65 = .ok (.iload 4, 2) := by decide +kernel
theorem dX6_readSide_67 : decode cX6_readSide 67 = .ok (.invokestatic 155, 3) := by decide +kernel
theorem dX6_readSide_70 : decode cX6_readSide 70 = .ok (.lor, 1) := by decide +kernel
theorem dX6_readSide_71 : decode cX6_readSide 71 = .ok (.lstore_n 2, 1) := by decide +kernel
theorem dX6_readSide_72 : decode cX6_readSide 72 = .ok (.iinc 4 1, 3) := by decide +kernel
theorem dX6_readSide_75 : decode cX6_readSide 75 = .ok (.goto (-70), 3) := by decide +kernel
theorem dX6_readSide_78 : decode cX6_readSide 78 = .ok (.lload_n 2, 1) := by decide +kernel
theorem dX6_readSide_79 : decode cX6_readSide 79 = .ok (.lreturn, 1) := by decide +kernel
theorem dX6_readTest_0 : decode cX6_readTest 0 = .ok (.iconst 0, 1) := by decide +kernel
theorem dX6_readTest_1 : decode cX6_readTest 1 = .ok (.istore_n 2, 1) := by decide +kernel
theorem dX6_readTest_2 : decode cX6_readTest 2 = .ok (.iload_n 2, 1) := by decide +kernel
theorem dX6_readTest_3 : decode cX6_readTest 3 = .ok (.sipush 400, 3) := by decide +kernel
theorem dX6_readTest_6 : decode cX6_readTest 6 = .ok (.if_icmp .ge 111, 3) := by decide +kernel
theorem dX6_readTest_9 : decode cX6_readTest 9 = .ok (.aload_n 0, 1) := by decide +kernel
theorem dX6_readTest_10 : decode cX6_readTest 10 = .ok (.getfield 35, 3) := by decide +kernel
theorem dX6_readTest_13 : decode cX6_readTest 13 = .ok (.ifCond .ne 104, 3) := by decide +kernel
theorem dX6_readTest_16 : decode cX6_readTest 16 = .ok (.aload_n 0, 1) := by decide +kernel
theorem dX6_readTest_17 : decode cX6_readTest 17 = .ok (.iload_n 1, 1) := by decide +kernel
theorem dX6_readTest_18 : decode cX6_readTest 18 = .ok (.invokevirtual 161, 3) := by decide +kernel
theorem dX6_readTest_21 : decode cX6_readTest 21 = .ok (.iconst 0, 1) := by decide +kernel
theorem dX6_readTest_22 : decode cX6_readTest 22 = .ok (.istore_n 3, 1) := by decide +kernel
theorem dX6_readTest_23 : decode cX6_readTest 23 = .ok (.iload_n 3, 1) := by decide +kernel
theorem dX6_readTest_24 : decode cX6_readTest 24 = .ok (.sipush 400, 3) := by decide +kernel
theorem dX6_readTest_27 : decode cX6_readTest 27 = .ok (.if_icmp .ge 50, 3) := by decide +kernel
theorem dX6_readTest_30 : decode cX6_readTest 30 = .ok (.aload_n 0, 1) := by decide +kernel
theorem dX6_readTest_31 : decode cX6_readTest 31 = .ok (.getfield 35, 3) := by decide +kernel
theorem dX6_readTest_34 : decode cX6_readTest 34 = .ok (.ifCond .ne 43, 3) := by decide +kernel
theorem dX6_readTest_37 : decode cX6_readTest 37 = .ok (.aload_n 0, 1) := by decide +kernel
theorem dX6_readTest_38 : decode cX6_readTest 38 = .ok (.bipush 9, 2) := by decide +kernel
theorem dX6_readTest_40 : decode cX6_readTest 40 = .ok (.invokevirtual 124, 3) := by decide +kernel
theorem dX6_readTest_43 : decode cX6_readTest 43 = .ok (.ifCond .eq 34, 3) := by decide +kernel
theorem dX6_readTest_46 : decode cX6_readTest 46 = .ok (.aload_n 0, 1) := by decide +kernel
theorem dX6_readTest_47 : decode cX6_readTest 47 = .ok (.dup, 1) := by decide +kernel
theorem dX6_readTest_48 : decode cX6_readTest 48 = .ok (.getfield 45, 3) := by decide +kernel
theorem dX6_readTest_51 : decode cX6_readTest 51 = .ok (.iconst 1, 1) := by decide +kernel
theorem dX6_readTest_52 : decode cX6_readTest 52 = .ok (.iadd, 1) := by decide +kernel
theorem dX6_readTest_53 : decode cX6_readTest 53 = .ok (.putfield 45, 3) := by decide +kernel
theorem dX6_readTest_56 : decode cX6_readTest 56 = .ok (.aload_n 0, 1) := by decide +kernel
theorem dX6_readTest_57 : decode cX6_readTest 57 = .ok (.iload_n 1, 1) := by decide +kernel
theorem dX6_readTest_58 : decode cX6_readTest 58 = .ok (.invokevirtual 161, 3) := by decide +kernel
theorem dX6_readTest_61 : decode cX6_readTest 61 = .ok (.aload_n 0, 1) := by decide +kernel
theorem dX6_readTest_62 : decode cX6_readTest 62 = .ok (.getfield 12, 3) := by decide +kernel
theorem dX6_readTest_65 : decode cX6_readTest 65 = .ok (.bipush 9, 2) := by decide +kernel
theorem dX6_readTest_67 : decode cX6_readTest 67 = .ok (.iconst 0, 1) := by decide +kernel
theorem dX6_readTest_68 : decode cX6_readTest 68 = .ok (.invokevirtual 164, 3) := by decide +kernel
theorem dX6_readTest_71 : decode cX6_readTest 71 = .ok (.iinc 3 1, 3) := by decide +kernel
theorem dX6_readTest_74 : decode cX6_readTest 74 = .ok (.goto (-51), 3) := by decide +kernel
theorem dX6_readTest_77 : decode cX6_readTest 77 = .ok (.iload_n 2, 1) := by decide +kernel
theorem dX6_readTest_78 : decode cX6_readTest 78 = .ok (.ifCond .le 13, 3) := by decide +kernel
theorem dX6_readTest_81 : decode cX6_readTest 81 = .ok (.aload_n 0, 1) := by decide +kernel
theorem dX6_readTest_82 : decode cX6_readTest 82 = .ok (.getfield 12, 3) := by decide +kernel
theorem dX6_readTest_85 : decode cX6_readTest 85 = .ok (.bipush 8, 2) := by decide +kernel
theorem dX6_readTest_87 : decode cX6_readTest 87 = .ok (.iconst 0, 1) := by decide +kernel
theorem dX6_readTest_88 : decode cX6_readTest 88 = .ok (.invokevirtual 164, 3) := by decide +kernel
theorem dX6_readTest_91 : decode cX6_readTest 91 = .ok (.aload_n 0, 1) := by decide +kernel
theorem dX6_readTest_92 : decode cX6_readTest 92 = .ok (.bipush 8, 2) := by decide +kernel
theorem dX6_readTest_94 : decode cX6_readTest 94 = .ok (.invokevirtual 124, 3) := by decide +kernel
theorem dX6_readTest_97 : decode cX6_readTest 97 = .ok (.ifCond .ne 4, 3) := by decide +kernel
theorem dX6_readTest_100 : decode cX6_readTest 100 = .ok (.return_, 1) := by decide +kernel
theorem dX6_readTest_101 : decode cX6_readTest 101 = .ok (.aload_n 0, 1) := by decide +kernel
theorem dX6_readTest_102 : decode cX6_readTest 102 = .ok (.dup, 1) := by decide +kernel
theorem dX6_readTest_103 : decode cX6_readTest 103 = .ok (.getfield 45, 3) := by decide +kernel
theorem dX6_readTest_106 : decode cX6_readTest 106 = .ok (.iconst 1, 1) := by decide +kernel
theorem dX6_readTest_107 : decode cX6_readTest 107 = .ok (.iadd, 1) := by decide +kernel
theorem dX6_readTest_108 : decode cX6_readTest 108 = .ok (.putfield 45, 3) := by decide +kernel
theorem dX6_readTest_111 : decode cX6_readTest 111 = .ok (.iinc 2 1, 3) := by decide +kernel
theorem dX6_readTest_114 : decode cX6_readTest 114 = .ok (.goto (-112), 3) := by decide +kernel
theorem dX6_readTest_117 : decode cX6_readTest 117 = .ok (.return_, 1) := by decide +kernel
theorem dX6_readFact_0 : decode cX6_readFact 0 = .ok (.aload_n 0, 1) := by decide +kernel
theorem dX6_readFact_1 : decode cX6_readFact 1 = .ok (.getfield 35, 3) := by decide +kernel
theorem dX6_readFact_4 : decode cX6_readFact 4 = .ok (.ifCond .eq 4, 3) := by decide +kernel
theorem dX6_readFact_7 : decode cX6_readFact 7 = .ok (.return_, 1) := by decide +kernel
theorem dX6_readFact_8 : decode cX6_readFact 8 = .ok (.aload_n 0, 1) := by decide +kernel
theorem dX6_readFact_9 : decode cX6_readFact 9 = .ok (.bipush 11, 2) := by decide +kernel
theorem dX6_readFact_11 : decode cX6_readFact 11 = .ok (.invokevirtual 124, 3) := by decide +kernel
theorem dX6_readFact_14 : decode cX6_readFact 14 = .ok (.ifCond .eq 16, 3) := by decide +kernel
theorem dX6_readFact_17 : decode cX6_readFact 17 = .ok (.aload_n 0, 1) := by decide +kernel
theorem dX6_readFact_18 : decode cX6_readFact 18 = .ok (.bipush 11, 2) := by decide +kernel
theorem dX6_readFact_20 : decode cX6_readFact 20 = .ok (.iconst 1, 1) := by decide +kernel
theorem dX6_readFact_21 : decode cX6_readFact 21 = .ok (.sipush 255, 3) := by decide +kernel
theorem dX6_readFact_24 : decode cX6_readFact 24 = .ok (.invokevirtual 168, 3) := by decide +kernel
theorem dX6_readFact_27 : decode cX6_readFact 27 = .ok (.goto 145, 3) := by decide +kernel
theorem dX6_readFact_30 : decode cX6_readFact 30 = .ok (.aload_n 0, 1) := by decide +kernel
theorem dX6_readFact_31 : decode cX6_readFact 31 = .ok (.bipush 12, 2) := by decide +kernel
theorem dX6_readFact_33 : decode cX6_readFact 33 = .ok (.invokevirtual 124, 3) := by decide +kernel
theorem dX6_readFact_36 : decode cX6_readFact 36 = .ok (.ifCond .eq 15, 3) := by decide +kernel
theorem dX6_readFact_39 : decode cX6_readFact 39 = .ok (.aload_n 0, 1) := by decide +kernel
theorem dX6_readFact_40 : decode cX6_readFact 40 = .ok (.bipush 12, 2) := by decide +kernel
theorem dX6_readFact_42 : decode cX6_readFact 42 = .ok (.iconst 1, 1) := by decide +kernel
theorem dX6_readFact_43 : decode cX6_readFact 43 = .ok (.bipush 8, 2) := by decide +kernel
theorem dX6_readFact_45 : decode cX6_readFact 45 = .ok (.invokevirtual 168, 3) := by decide +kernel
theorem dX6_readFact_48 : decode cX6_readFact 48 = .ok (.goto 124, 3) := by decide +kernel
theorem dX6_readFact_51 : decode cX6_readFact 51 = .ok (.aload_n 0, 1) := by decide +kernel
theorem dX6_readFact_52 : decode cX6_readFact 52 = .ok (.bipush 13, 2) := by decide +kernel
theorem dX6_readFact_54 : decode cX6_readFact 54 = .ok (.invokevirtual 124, 3) := by decide +kernel
theorem dX6_readFact_57 : decode cX6_readFact 57 = .ok (.ifCond .eq 15, 3) := by decide +kernel
theorem dX6_readFact_60 : decode cX6_readFact 60 = .ok (.aload_n 0, 1) := by decide +kernel
theorem dX6_readFact_61 : decode cX6_readFact 61 = .ok (.bipush 13, 2) := by decide +kernel
theorem dX6_readFact_63 : decode cX6_readFact 63 = .ok (.iconst 0, 1) := by decide +kernel
theorem dX6_readFact_64 : decode cX6_readFact 64 = .ok (.bipush 9, 2) := by decide +kernel
theorem dX6_readFact_66 : decode cX6_readFact 66 = .ok (.invokevirtual 168, 3) := by decide +kernel
theorem dX6_readFact_69 : decode cX6_readFact 69 = .ok (.goto 103, 3) := by decide +kernel
theorem dX6_readFact_72 : decode cX6_readFact 72 = .ok (.aload_n 0, 1) := by decide +kernel
theorem dX6_readFact_73 : decode cX6_readFact 73 = .ok (.bipush 10, 2) := by decide +kernel
theorem dX6_readFact_75 : decode cX6_readFact 75 = .ok (.invokevirtual 124, 3) := by decide +kernel
theorem dX6_readFact_78 : decode cX6_readFact 78 = .ok (.ifCond .ne 19, 3) := by decide +kernel
theorem dX6_readFact_81 : decode cX6_readFact 81 = .ok (.aload_n 0, 1) := by decide +kernel
theorem dX6_readFact_82 : decode cX6_readFact 82 = .ok (.iconst 4, 1) := by decide +kernel
theorem dX6_readFact_83 : decode cX6_readFact 83 = .ok (.invokevirtual 124, 3) := by decide +kernel
theorem dX6_readFact_86 : decode cX6_readFact 86 = .ok (.ifCond .ne 11, 3) := by decide +kernel
theorem dX6_readFact_89 : decode cX6_readFact 89 = .ok (.aload_n 0, 1) := by decide +kernel
theorem dX6_readFact_90 : decode cX6_readFact 90 = .ok (.iconst 2, 1) := by decide +kernel
theorem dX6_readFact_91 : decode cX6_readFact 91 = .ok (.invokevirtual 171, 3) := by decide +kernel
theorem dX6_readFact_94 : decode cX6_readFact 94 = .ok (.goto 78, 3) := by decide +kernel
theorem dX6_readFact_97 : decode cX6_readFact 97 = .ok (.iload_n 1, 1) := by decide +kernel
theorem dX6_readFact_98 : decode cX6_readFact 98 = .ok (.bipush 8, 2) := by decide +kernel
theorem dX6_readFact_100 : decode cX6_readFact 100 = .ok (.if_icmp .lt 11, 3) := by decide +kernel
theorem dX6_readFact_103 : decode cX6_readFact 103 = .ok (.aload_n 0, 1) := by decide +kernel
theorem dX6_readFact_104 : decode cX6_readFact 104 = .ok (.iconst 5, 1) := by decide +kernel
theorem dX6_readFact_105 : decode cX6_readFact 105 = .ok (.invokevirtual 171, 3) := by decide +kernel
theorem dX6_readFact_108 : decode cX6_readFact 108 = .ok (.goto 64, 3) := by decide +kernel
theorem dX6_readFact_111 : decode cX6_readFact 111 = .ok (.aload_n 0, 1) := by decide +kernel
theorem dX6_readFact_112 : decode cX6_readFact 112 = .ok (.bipush 10, 2) := by decide +kernel
theorem dX6_readFact_114 : decode cX6_readFact 114 = .ok (.invokevirtual 124, 3) := by decide +kernel
theorem dX6_readFact_117 : decode cX6_readFact 117 = .ok (.ifCond .eq 33, 3) := by decide +kernel
theorem dX6_readFact_120 : decode cX6_readFact 120 = .ok (.aload_n 0, 1) := by decide +kernel
theorem dX6_readFact_121 : decode cX6_readFact 121 = .ok (.dup, 1) := by decide +kernel
theorem dX6_readFact_122 : decode cX6_readFact 122 = .ok (.getfield 45, 3) := by decide +kernel
theorem dX6_readFact_125 : decode cX6_readFact 125 = .ok (.iconst 1, 1) := by decide +kernel
theorem dX6_readFact_126 : decode cX6_readFact 126 = .ok (.iadd, 1) := by decide +kernel
theorem dX6_readFact_127 : decode cX6_readFact 127 = .ok (.putfield 45, 3) := by decide +kernel
theorem dX6_readFact_130 : decode cX6_readFact 130 = .ok (.aload_n 0, 1) := by decide +kernel
theorem dX6_readFact_131 : decode cX6_readFact 131 = .ok (.iload_n 1, 1) := by decide +kernel
theorem dX6_readFact_132 : decode cX6_readFact 132 = .ok (.iconst 1, 1) := by decide +kernel
theorem dX6_readFact_133 : decode cX6_readFact 133 = .ok (.iadd, 1) := by decide +kernel
theorem dX6_readFact_134 : decode cX6_readFact 134 = .ok (.invokevirtual 161, 3) := by decide +kernel
theorem dX6_readFact_137 : decode cX6_readFact 137 = .ok (.aload_n 0, 1) := by decide +kernel
theorem dX6_readFact_138 : decode cX6_readFact 138 = .ok (.getfield 12, 3) := by decide +kernel
theorem dX6_readFact_141 : decode cX6_readFact 141 = .ok (.bipush 10, 2) := by decide +kernel
theorem dX6_readFact_143 : decode cX6_readFact 143 = .ok (.iconst 0, 1) := by decide +kernel
theorem dX6_readFact_144 : decode cX6_readFact 144 = .ok (.invokevirtual 164, 3) := by decide +kernel
theorem dX6_readFact_147 : decode cX6_readFact 147 = .ok (.goto 25, 3) := by decide +kernel
theorem dX6_readFact_150 : decode cX6_readFact 150 = .ok (.aload_n 0, 1) := by decide +kernel
theorem dX6_readFact_151 : decode cX6_readFact 151 = .ok (.dup, 1) := by decide +kernel
theorem dX6_readFact_152 : decode cX6_readFact 152 = .ok (.getfield 45, 3) := by decide +kernel
theorem dX6_readFact_155 : decode cX6_readFact 155 = .ok (.iconst 1, 1) := by decide +kernel
theorem dX6_readFact_156 : decode cX6_readFact 156 = .ok (.iadd, 1) := by decide +kernel
theorem dX6_readFact_157 : decode cX6_readFact 157 = .ok (.putfield 45, 3) := by decide +kernel
theorem dX6_readFact_160 : decode cX6_readFact 160 = .ok (.aload_n 0, 1) := by decide +kernel
theorem dX6_readFact_161 : decode cX6_readFact 161 = .ok (.iload_n 1, 1) := by decide +kernel
theorem dX6_readFact_162 : decode cX6_readFact 162 = .ok (.iconst 1, 1) := by decide +kernel
theorem dX6_readFact_163 : decode cX6_readFact 163 = .ok (.iadd, 1) := by decide +kernel
theorem dX6_readFact_164 : decode cX6_readFact 164 = .ok (.invokevirtual 144, 3) := by decide +kernel
theorem dX6_readFact_167 : decode cX6_readFact 167 = .ok (.aload_n 0, 1) := by decide +kernel
theorem dX6_readFact_168 : decode cX6_readFact 168 = .ok (.iconst 5, 1) := by decide +kernel
theorem dX6_readFact_169 : decode cX6_readFact 169 = .ok (.invokevirtual 137, 3) := by decide +kernel
theorem dX6_readFact_172 : decode cX6_readFact 172 = .ok (.return_, 1) := by decide +kernel
theorem dX6_readPlainFact_0 : decode cX6_readPlainFact 0 = .ok (.aload_n 0, 1) := by decide +kernel
theorem dX6_readPlainFact_1 : decode cX6_readPlainFact 1 = .ok (.dup, 1) := by decide +kernel
theorem dX6_readPlainFact_2 : decode cX6_readPlainFact 2 = .ok (.getfield 45, 3) := by decide +kernel
theorem dX6_readPlainFact_5 : decode cX6_readPlainFact 5 = .ok (.iconst 1, 1) := by decide +kernel
theorem dX6_readPlainFact_6 : decode cX6_readPlainFact 6 = .ok (.iadd, 1) := by decide +kernel
theorem dX6_readPlainFact_7 : decode cX6_readPlainFact 7 = .ok (.putfield 45, 3) := by decide +kernel
theorem dX6_readPlainFact_10 : decode cX6_readPlainFact 10 = .ok (.aload_n 0, 1) := by decide +kernel
theorem dX6_readPlainFact_11 : decode cX6_readPlainFact 11 = .ok (.getfield 12, 3) := by decide +kernel
theorem dX6_readPlainFact_14 : decode cX6_readPlainFact 14 = .ok (.iload_n 1, 1) := by decide +kernel
theorem dX6_readPlainFact_15 : decode cX6_readPlainFact 15 = .ok (.aload_n 0, 1) := by decide +kernel
theorem dX6_readPlainFact_16 : decode cX6_readPlainFact 16 = .ok (.iload_n 2, 1) := by decide +kernel
theorem dX6_readPlainFact_17 : decode cX6_readPlainFact 17 = .ok (.iload_n 3, 1) := by decide +kernel
theorem dX6_readPlainFact_18 : decode cX6_readPlainFact 18 = .ok (.iconst 0, 1) := by decide +kernel
theorem dX6_readPlainFact_19 : decode cX6_readPlainFact 19 = .ok (.invokevirtual 151, 3) := by decide +kernel
theorem dX6_readPlainFact_22 : decode cX6_readPlainFact 22 = .ok (.invokevirtual 164, 3) := by decide +kernel
theorem dX6_readPlainFact_25 : decode cX6_readPlainFact 25 = .ok (.return_, 1) := by decide +kernel
theorem dX6_readLaw_0 : decode cX6_readLaw 0 = .ok (.aload_n 0, 1) := by decide +kernel
theorem dX6_readLaw_1 : decode cX6_readLaw 1 = .ok (.getfield 21, 3) := by decide +kernel
theorem dX6_readLaw_4 : decode cX6_readLaw 4 = .ok (.invokevirtual 174, 3) := by decide +kernel
theorem dX6_readLaw_7 : decode cX6_readLaw 7 = .ok (.iconst 0, 1) := by decide +kernel
theorem dX6_readLaw_8 : decode cX6_readLaw 8 = .ok (.istore_n 1, 1) := by decide +kernel
theorem dX6_readLaw_9 : decode cX6_readLaw 9 = .ok (.iload_n 1, 1) := by decide +kernel
theorem dX6_readLaw_10 : decode cX6_readLaw 10 = .ok (.bipush 12, 2) := by decide +kernel
theorem dX6_readLaw_12 : decode cX6_readLaw 12 = .ok (.if_icmp .gt 28, 3) := by decide +kernel
theorem dX6_readLaw_15 : decode cX6_readLaw 15 = .ok (.aload_n 0, 1) := by decide +kernel
theorem dX6_readLaw_16 : decode cX6_readLaw 16 = .ok (.getfield 35, 3) := by decide +kernel
theorem dX6_readLaw_19 : decode cX6_readLaw 19 = .ok (.ifCond .ne 21, 3) := by decide +kernel
theorem dX6_readLaw_22 : decode cX6_readLaw 22 = .ok (.aload_n 0, 1) := by decide +kernel
theorem dX6_readLaw_23 : decode cX6_readLaw 23 = .ok (.iconst 0, 1) := by decide +kernel
theorem dX6_readLaw_24 : decode cX6_readLaw 24 = .ok (.invokevirtual 124, 3) := by decide +kernel
theorem dX6_readLaw_27 : decode cX6_readLaw 27 = .ok (.ifCond .ne 13, 3) := by decide +kernel
theorem dX6_readLaw_30 : decode cX6_readLaw 30 = .ok (.aload_n 0, 1) := by decide +kernel
theorem dX6_readLaw_31 : decode cX6_readLaw 31 = .ok (.invokevirtual 175, 3) := by decide +kernel
theorem dX6_readLaw_34 : decode cX6_readLaw 34 = .ok (.iinc 1 1, 3) := by decide +kernel
theorem dX6_readLaw_37 : decode cX6_readLaw 37 = .ok (.goto (-28), 3) := by decide +kernel
theorem dX6_readLaw_40 : decode cX6_readLaw 40 = .ok (.return_, 1) := by decide +kernel
theorem dX6_readWay_0 : decode cX6_readWay 0 = .ok (.aload_n 0, 1) := by decide +kernel
theorem dX6_readWay_1 : decode cX6_readWay 1 = .ok (.bipush 14, 2) := by decide +kernel
theorem dX6_readWay_3 : decode cX6_readWay 3 = .ok (.invokevirtual 124, 3) := by decide +kernel
theorem dX6_readWay_6 : decode cX6_readWay 6 = .ok (.ifCond .eq 8, 3) := by decide +kernel
theorem dX6_readWay_9 : decode cX6_readWay 9 = .ok (.bipush 14, 2) := by decide +kernel
theorem dX6_readWay_11 : decode cX6_readWay 11 = .ok (.goto 47, 3) := by decide +kernel
theorem dX6_readWay_14 : decode cX6_readWay 14 = .ok (.aload_n 0, 1) := by decide +kernel
theorem dX6_readWay_15 : decode cX6_readWay 15 = .ok (.bipush 15, 2) := by decide +kernel
theorem dX6_readWay_17 : decode cX6_readWay 17 = .ok (.invokevirtual 124, 3) := by decide +kernel
theorem dX6_readWay_20 : decode cX6_readWay 20 = .ok (.ifCond .eq 8, 3) := by decide +kernel
theorem dX6_readWay_23 : decode cX6_readWay 23 = .ok (.bipush 15, 2) := by decide +kernel
theorem dX6_readWay_25 : decode cX6_readWay 25 = .ok (.goto 33, 3) := by decide +kernel
theorem dX6_readWay_28 : decode cX6_readWay 28 = .ok (.aload_n 0, 1) := by decide +kernel
theorem dX6_readWay_29 : decode cX6_readWay 29 = .ok (.bipush 16, 2) := by decide +kernel
theorem dX6_readWay_31 : decode cX6_readWay 31 = .ok (.invokevirtual 124, 3) := by decide +kernel
theorem dX6_readWay_34 : decode cX6_readWay 34 = .ok (.ifCond .eq 8, 3) := by decide +kernel
theorem dX6_readWay_37 : decode cX6_readWay 37 = .ok (.bipush 16, 2) := by decide +kernel
theorem dX6_readWay_39 : decode cX6_readWay 39 = .ok (.goto 19, 3) := by decide +kernel
theorem dX6_readWay_42 : decode cX6_readWay 42 = .ok (.aload_n 0, 1) := by decide +kernel
theorem dX6_readWay_43 : decode cX6_readWay 43 = .ok (.bipush 17, 2) := by decide +kernel
theorem dX6_readWay_45 : decode cX6_readWay 45 = .ok (.invokevirtual 124, 3) := by decide +kernel
theorem dX6_readWay_48 : decode cX6_readWay 48 = .ok (.ifCond .eq 8, 3) := by decide +kernel
theorem dX6_readWay_51 : decode cX6_readWay 51 = .ok (.bipush 17, 2) := by decide +kernel
theorem dX6_readWay_53 : decode cX6_readWay 53 = .ok (.goto 5, 3) := by decide +kernel
theorem dX6_readWay_56 : decode cX6_readWay 56 = .ok (.bipush 19, 2) := by decide +kernel
theorem dX6_readWay_58 : decode cX6_readWay 58 = .ok (.istore_n 1, 1) := by decide +kernel
theorem dX6_readWay_59 : decode cX6_readWay 59 = .ok (.iload_n 1, 1) := by decide +kernel
theorem dX6_readWay_60 : decode cX6_readWay 60 = .ok (.bipush 19, 2) := by decide +kernel
theorem dX6_readWay_62 : decode cX6_readWay 62 = .ok (.if_icmp .ne 11, 3) := by decide +kernel
theorem dX6_readWay_65 : decode cX6_readWay 65 = .ok (.aload_n 0, 1) := by decide +kernel
theorem dX6_readWay_66 : decode cX6_readWay 66 = .ok (.iconst 2, 1) := by decide +kernel
theorem dX6_readWay_67 : decode cX6_readWay 67 = .ok (.invokevirtual 171, 3) := by decide +kernel
theorem dX6_readWay_70 : decode cX6_readWay 70 = .ok (.goto 109, 3) := by decide +kernel
theorem dX6_readWay_73 : decode cX6_readWay 73 = .ok (.aload_n 0, 1) := by decide +kernel
theorem dX6_readWay_74 : decode cX6_readWay 74 = .ok (.getfield 21, 3) := by decide +kernel
theorem dX6_readWay_77 : decode cX6_readWay 77 = .ok (.getfield 178, 3) := by decide +kernel
theorem dX6_readWay_80 : decode cX6_readWay 80 = .ok (.bipush 12, 2) := by decide +kernel
theorem dX6_readWay_82 : decode cX6_readWay 82 = .ok (.if_icmp .lt 11, 3) := by decide +kernel
theorem dX6_readWay_85 : decode cX6_readWay 85 = .ok (.aload_n 0, 1) := by decide +kernel
theorem dX6_readWay_86 : decode cX6_readWay 86 = .ok (.iconst 4, 1) := by decide +kernel
theorem dX6_readWay_87 : decode cX6_readWay 87 = .ok (.invokevirtual 171, 3) := by decide +kernel
theorem dX6_readWay_90 : decode cX6_readWay 90 = .ok (.goto 89, 3) := by decide +kernel
theorem dX6_readWay_93 : decode cX6_readWay 93 = .ok (.aload_n 0, 1) := by decide +kernel
theorem dX6_readWay_94 : decode cX6_readWay 94 = .ok (.dup, 1) := by decide +kernel
theorem dX6_readWay_95 : decode cX6_readWay 95 = .ok (.getfield 45, 3) := by decide +kernel
theorem dX6_readWay_98 : decode cX6_readWay 98 = .ok (.iconst 1, 1) := by decide +kernel
theorem dX6_readWay_99 : decode cX6_readWay 99 = .ok (.iadd, 1) := by decide +kernel
theorem dX6_readWay_100 : decode cX6_readWay 100 = .ok (.putfield 45, 3) := by decide +kernel
theorem dX6_readWay_103 : decode cX6_readWay 103 = .ok (.iload_n 1, 1) := by decide +kernel
theorem dX6_readWay_104 : decode cX6_readWay 104 = .ok (.bipush 17, 2) := by decide +kernel
theorem dX6_readWay_106 : decode cX6_readWay 106 = .ok (.if_icmp .ne 39, 3) := by decide +kernel
theorem dX6_readWay_109 : decode cX6_readWay 109 = .ok (.aload_n 0, 1) := by decide +kernel
theorem dX6_readWay_110 : decode cX6_readWay 110 = .ok (.iconst 1, 1) := by decide +kernel
theorem dX6_readWay_111 : decode cX6_readWay 111 = .ok (.sipush 255, 3) := by decide +kernel
theorem dX6_readWay_114 : decode cX6_readWay 114 = .ok (.iconst 0, 1) := by decide +kernel
theorem dX6_readWay_115 : decode cX6_readWay 115 = .ok (.invokevirtual 151, 3) := by decide +kernel
theorem dX6_readWay_118 : decode cX6_readWay 118 = .ok (.istore_n 2, 1) := by decide +kernel
theorem dX6_readWay_119 : decode cX6_readWay 119 = .ok (.aload_n 0, 1) := by decide +kernel
theorem dX6_readWay_120 : decode cX6_readWay 120 = .ok (.bipush 18, 2) := by decide +kernel
theorem dX6_readWay_122 : decode cX6_readWay 122 = .ok (.invokevirtual 137, 3) := by decide +kernel
theorem dX6_readWay_125 : decode cX6_readWay 125 = .ok (.aload_n 0, 1) := by decide +kernel
theorem dX6_readWay_126 : decode cX6_readWay 126 = .ok (.getfield 21, 3) := by decide +kernel
theorem dX6_readWay_129 : decode cX6_readWay 129 = .ok (.iload_n 2, 1) := by decide +kernel
theorem dX6_readWay_130 : decode cX6_readWay 130 = .ok (.aload_n 0, 1) := by decide +kernel
theorem dX6_readWay_131 : decode cX6_readWay 131 = .ok (.iconst 1, 1) := by decide +kernel
theorem dX6_readWay_132 : decode cX6_readWay 132 = .ok (.sipush 255, 3) := by decide +kernel
theorem dX6_readWay_135 : decode cX6_readWay 135 = .ok (.iconst 0, 1) := by decide +kernel
theorem dX6_readWay_136 : decode cX6_readWay 136 = .ok (.invokevirtual 151, 3) := by decide +kernel
theorem dX6_readWay_139 : decode cX6_readWay 139 = .ok (.invokevirtual 181, 3) := by decide +kernel
theorem dX6_readWay_142 : decode cX6_readWay 142 = .ok (.goto 19, 3) := by decide +kernel
theorem dX6_readWay_145 : decode cX6_readWay 145 = .ok (.aload_n 0, 1) := by decide +kernel
theorem dX6_readWay_146 : decode cX6_readWay 146 = .ok (.getfield 21, 3) := by decide +kernel
theorem dX6_readWay_149 : decode cX6_readWay 149 = .ok (.iload_n 1, 1) := by decide +kernel
theorem dX6_readWay_150 : decode cX6_readWay 150 = .ok (.aload_n 0, 1) := by decide +kernel
theorem dX6_readWay_151 : decode cX6_readWay 151 = .ok (.iconst 0, 1) := by decide +kernel
theorem dX6_readWay_152 : decode cX6_readWay 152 = .ok (.bipush 99, 2) := by decide +kernel
theorem dX6_readWay_154 : decode cX6_readWay 154 = .ok (.iconst 0, 1) := by decide +kernel
theorem dX6_readWay_155 : decode cX6_readWay 155 = .ok (.invokevirtual 151, 3) := by decide +kernel
theorem dX6_readWay_158 : decode cX6_readWay 158 = .ok (.invokevirtual 184, 3) := by decide +kernel
theorem dX6_readWay_161 : decode cX6_readWay 161 = .ok (.aload_n 0, 1) := by decide +kernel
theorem dX6_readWay_162 : decode cX6_readWay 162 = .ok (.iconst 3, 1) := by decide +kernel
theorem dX6_readWay_163 : decode cX6_readWay 163 = .ok (.invokevirtual 137, 3) := by decide +kernel
theorem dX6_readWay_166 : decode cX6_readWay 166 = .ok (.aload_n 0, 1) := by decide +kernel
theorem dX6_readWay_167 : decode cX6_readWay 167 = .ok (.getfield 21, 3) := by decide +kernel
theorem dX6_readWay_170 : decode cX6_readWay 170 = .ok (.dup, 1) := by decide +kernel
theorem dX6_readWay_171 : decode cX6_readWay 171 = .ok (.getfield 178, 3) := by decide +kernel
theorem dX6_readWay_174 : decode cX6_readWay 174 = .ok (.iconst 1, 1) := by decide +kernel
theorem dX6_readWay_175 : decode cX6_readWay 175 = .ok (.iadd, 1) := by decide +kernel
theorem dX6_readWay_176 : decode cX6_readWay 176 = .ok (.putfield 178, 3) := by decide +kernel
theorem dX6_readWay_179 : decode cX6_readWay 179 = .ok (.return_, 1) := by decide +kernel
theorem dX6_readNumber_0 : decode cX6_readNumber 0 = .ok (.aload_n 0, 1) := by decide +kernel
theorem dX6_readNumber_1 : decode cX6_readNumber 1 = .ok (.iconst 2, 1) := by decide +kernel
theorem dX6_readNumber_2 : decode cX6_readNumber 2 = .ok (.invokevirtual 124, 3) := by decide +kernel
theorem dX6_readNumber_5 : decode cX6_readNumber 5 = .ok (.ifCond .ne 10, 3) := by decide +kernel
theorem dX6_readNumber_8 : decode cX6_readNumber 8 = .ok (.aload_n 0, 1) := by decide +kernel
theorem dX6_readNumber_9 : decode cX6_readNumber 9 = .ok (.iconst 2, 1) := by decide +kernel
theorem dX6_readNumber_10 : decode cX6_readNumber 10 = .ok (.invokevirtual 171, 3) := by decide +kernel
theorem dX6_readNumber_13 : decode cX6_readNumber 13 = .ok (.iconst 0, 1) := by decide +kernel
theorem dX6_readNumber_14 : decode cX6_readNumber 14 = .ok (.ireturn, 1) := by decide +kernel
theorem dX6_readNumber_15 : decode cX6_readNumber 15 = .ok (.aload_n 0, 1) := by decide +kernel
theorem dX6_readNumber_16 : decode cX6_readNumber 16 = .ok (.getfield 29, 3) := by decide +kernel
theorem dX6_readNumber_19 : decode cX6_readNumber 19 = .ok (.aload_n 0, 1) := by decide +kernel
theorem dX6_readNumber_20 : decode cX6_readNumber 20 = .ok (.getfield 45, 3) := by decide +kernel
theorem dX6_readNumber_23 : decode cX6_readNumber 23 = .ok (.iaload, 1) := by decide +kernel
theorem dX6_readNumber_24 : decode cX6_readNumber 24 = .ok (.istore 4, 2) := by decide +kernel
theorem dX6_readNumber_26 : decode cX6_readNumber 26 = .ok (.iload 4, 2) := by decide +kernel
theorem dX6_readNumber_28 : decode cX6_readNumber 28 = .ok (.iload_n 1, 1) := by decide +kernel
theorem dX6_readNumber_29 : decode cX6_readNumber 29 = .ok (.if_icmp .lt 9, 3) := by decide +kernel
theorem dX6_readNumber_32 : decode cX6_readNumber 32 = .ok (.iload 4, 2) := by decide +kernel
theorem dX6_readNumber_34 : decode cX6_readNumber 34 = .ok (.iload_n 2, 1) := by decide +kernel
theorem dX6_readNumber_35 : decode cX6_readNumber 35 = .ok (.if_icmp .le 11, 3) := by decide +kernel
theorem dX6_readNumber_38 : decode cX6_readNumber 38 = .ok (.aload_n 0, 1) := by decide +kernel
theorem dX6_readNumber_39 : decode cX6_readNumber 39 = .ok (.iconst 3, 1) := by decide +kernel
theorem dX6_readNumber_40 : decode cX6_readNumber 40 = .ok (.invokevirtual 171, 3) := by decide +kernel
theorem dX6_readNumber_43 : decode cX6_readNumber 43 = .ok (.goto 12, 3) := by decide +kernel
theorem dX6_readNumber_46 : decode cX6_readNumber 46 = .ok (.iload_n 3, 1) := by decide +kernel
theorem dX6_readNumber_47 : decode cX6_readNumber 47 = .ok (.ifCond .eq 8, 3) := by decide +kernel
theorem dX6_readNumber_50 : decode cX6_readNumber 50 = .ok (.aload_n 0, 1) := by decide +kernel
theorem dX6_readNumber_51 : decode cX6_readNumber 51 = .ok (.iconst 4, 1) := by decide +kernel
theorem dX6_readNumber_52 : decode cX6_readNumber 52 = .ok (.invokevirtual 171, 3) := by decide +kernel
theorem dX6_readNumber_55 : decode cX6_readNumber 55 = .ok (.aload_n 0, 1) := by decide +kernel
theorem dX6_readNumber_56 : decode cX6_readNumber 56 = .ok (.dup, 1) := by decide +kernel
theorem dX6_readNumber_57 : decode cX6_readNumber 57 = .ok (.getfield 45, 3) := by decide +kernel
theorem dX6_readNumber_60 : decode cX6_readNumber 60 = .ok (.iconst 1, 1) := by decide +kernel
theorem dX6_readNumber_61 : decode cX6_readNumber 61 = .ok (.iadd, 1) := by decide +kernel
theorem dX6_readNumber_62 : decode cX6_readNumber 62 = .ok (.putfield 45, 3) := by decide +kernel
theorem dX6_readNumber_65 : decode cX6_readNumber 65 = .ok (.iload 4, 2) := by decide +kernel
theorem dX6_readNumber_67 : decode cX6_readNumber 67 = .ok (.ireturn, 1) := by decide +kernel
theorem dX6_take_0 : decode cX6_take 0 = .ok (.aload_n 0, 1) := by decide +kernel
theorem dX6_take_1 : decode cX6_take 1 = .ok (.iload_n 1, 1) := by decide +kernel
theorem dX6_take_2 : decode cX6_take 2 = .ok (.invokevirtual 124, 3) := by decide +kernel
theorem dX6_take_5 : decode cX6_take 5 = .ok (.ifCond .eq 16, 3) := by decide +kernel
theorem dX6_take_8 : decode cX6_take 8 = .ok (.aload_n 0, 1) := by decide +kernel
theorem dX6_take_9 : decode cX6_take 9 = .ok (.dup, 1) := by decide +kernel
theorem dX6_take_10 : decode cX6_take 10 = .ok (.getfield 45, 3) := by decide +kernel
theorem dX6_take_13 : decode cX6_take 13 = .ok (.iconst 1, 1) := by decide +kernel
theorem dX6_take_14 : decode cX6_take 14 = .ok (.iadd, 1) := by decide +kernel
theorem dX6_take_15 : decode cX6_take 15 = .ok (.putfield 45, 3) := by decide +kernel
theorem dX6_take_18 : decode cX6_take 18 = .ok (.goto 8, 3) := by decide +kernel
theorem dX6_take_21 : decode cX6_take 21 = .ok (.aload_n 0, 1) := by decide +kernel
theorem dX6_take_22 : decode cX6_take 22 = .ok (.iconst 2, 1) := by decide +kernel
theorem dX6_take_23 : decode cX6_take 23 = .ok (.invokevirtual 171, 3) := by decide +kernel
theorem dX6_take_26 : decode cX6_take 26 = .ok (.return_, 1) := by decide +kernel
theorem dX6_isAt_0 : decode cX6_isAt 0 = .ok (.aload_n 0, 1) := by decide +kernel
theorem dX6_isAt_1 : decode cX6_isAt 1 = .ok (.getfield 35, 3) := by decide +kernel
theorem dX6_isAt_4 : decode cX6_isAt 4 = .ok (.ifCond .ne 38, 3) := by decide +kernel
theorem dX6_isAt_7 : decode cX6_isAt 7 = .ok (.aload_n 0, 1) := by decide +kernel
theorem dX6_isAt_8 : decode cX6_isAt 8 = .ok (.getfield 45, 3) := by decide +kernel
theorem dX6_isAt_11 : decode cX6_isAt 11 = .ok (.ifCond .lt 31, 3) := by decide +kernel
theorem dX6_isAt_14 : decode cX6_isAt 14 = .ok (.aload_n 0, 1) := by decide +kernel
theorem dX6_isAt_15 : decode cX6_isAt 15 = .ok (.getfield 45, 3) := by decide +kernel
theorem dX6_isAt_18 : decode cX6_isAt 18 = .ok (.aload_n 0, 1) := by decide +kernel
theorem dX6_isAt_19 : decode cX6_isAt 19 = .ok (.getfield 42, 3) := by decide +kernel
theorem dX6_isAt_22 : decode cX6_isAt 22 = .ok (.if_icmp .ge 20, 3) := by decide +kernel
theorem dX6_isAt_25 : decode cX6_isAt 25 = .ok (.aload_n 0, 1) := by decide +kernel
theorem dX6_isAt_26 : decode cX6_isAt 26 = .ok (.getfield 25, 3) := by decide +kernel
theorem dX6_isAt_29 : decode cX6_isAt 29 = .ok (.aload_n 0, 1) := by decide +kernel
theorem dX6_isAt_30 : decode cX6_isAt 30 = .ok (.getfield 45, 3) := by decide +kernel
theorem dX6_isAt_33 : decode cX6_isAt 33 = .ok (.iaload, 1) := by decide +kernel
theorem dX6_isAt_34 : decode cX6_isAt 34 = .ok (.iload_n 1, 1) := by decide +kernel
theorem dX6_isAt_35 : decode cX6_isAt 35 = .ok (.if_icmp .ne 7, 3) := by decide +kernel
theorem dX6_isAt_38 : decode cX6_isAt 38 = .ok (.iconst 1, 1) := by decide +kernel
theorem dX6_isAt_39 : decode cX6_isAt 39 = .ok (.goto 4, 3) := by decide +kernel
theorem dX6_isAt_42 : decode cX6_isAt 42 = .ok (.iconst 0, 1) := by decide +kernel
theorem dX6_isAt_43 : decode cX6_isAt 43 = .ok (.ireturn, 1) := by decide +kernel
theorem dX6_blame_0 : decode cX6_blame 0 = .ok (.aload_n 0, 1) := by decide +kernel
theorem dX6_blame_1 : decode cX6_blame 1 = .ok (.getfield 35, 3) := by decide +kernel
theorem dX6_blame_4 : decode cX6_blame 4 = .ok (.ifCond .ne 21, 3) := by decide +kernel
theorem dX6_blame_7 : decode cX6_blame 7 = .ok (.aload_n 0, 1) := by decide +kernel
theorem dX6_blame_8 : decode cX6_blame 8 = .ok (.getfield 45, 3) := by decide +kernel
theorem dX6_blame_11 : decode cX6_blame 11 = .ok (.ifCond .lt 14, 3) := by decide +kernel
theorem dX6_blame_14 : decode cX6_blame 14 = .ok (.aload_n 0, 1) := by decide +kernel
theorem dX6_blame_15 : decode cX6_blame 15 = .ok (.getfield 45, 3) := by decide +kernel
theorem dX6_blame_18 : decode cX6_blame 18 = .ok (.aload_n 0, 1) := by decide +kernel
theorem dX6_blame_19 : decode cX6_blame 19 = .ok (.getfield 42, 3) := by decide +kernel
theorem dX6_blame_22 : decode cX6_blame 22 = .ok (.if_icmp .lt 4, 3) := by decide +kernel
theorem dX6_blame_25 : decode cX6_blame 25 = .ok (.return_, 1) := by decide +kernel
theorem dX6_blame_26 : decode cX6_blame 26 = .ok (.aload_n 0, 1) := by decide +kernel
theorem dX6_blame_27 : decode cX6_blame 27 = .ok (.aload_n 0, 1) := by decide +kernel
theorem dX6_blame_28 : decode cX6_blame 28 = .ok (.getfield 25, 3) := by decide +kernel
theorem dX6_blame_31 : decode cX6_blame 31 = .ok (.aload_n 0, 1) := by decide +kernel
theorem dX6_blame_32 : decode cX6_blame 32 = .ok (.getfield 45, 3) := by decide +kernel
theorem dX6_blame_35 : decode cX6_blame 35 = .ok (.iaload, 1) := by decide +kernel
theorem dX6_blame_36 : decode cX6_blame 36 = .ok (.iconst 1, 1) := by decide +kernel
theorem dX6_blame_37 : decode cX6_blame 37 = .ok (.if_icmp .ne 7, 3) := by decide +kernel
theorem dX6_blame_40 : decode cX6_blame 40 = .ok (.iconst 1, 1) := by decide +kernel
theorem dX6_blame_41 : decode cX6_blame 41 = .ok (.goto 4, 3) := by decide +kernel
theorem dX6_blame_44 : decode cX6_blame 44 = .ok (.iload_n 1, 1) := by decide +kernel
theorem dX6_blame_45 : decode cX6_blame 45 = .ok (.putfield 35, 3) := by decide +kernel
theorem dX6_blame_48 : decode cX6_blame 48 = .ok (.aload_n 0, 1) := by decide +kernel
theorem dX6_blame_49 : decode cX6_blame 49 = .ok (.aload_n 0, 1) := by decide +kernel
theorem dX6_blame_50 : decode cX6_blame 50 = .ok (.getfield 32, 3) := by decide +kernel
theorem dX6_blame_53 : decode cX6_blame 53 = .ok (.aload_n 0, 1) := by decide +kernel
theorem dX6_blame_54 : decode cX6_blame 54 = .ok (.getfield 45, 3) := by decide +kernel
theorem dX6_blame_57 : decode cX6_blame 57 = .ok (.iaload, 1) := by decide +kernel
theorem dX6_blame_58 : decode cX6_blame 58 = .ok (.putfield 39, 3) := by decide +kernel
theorem dX6_blame_61 : decode cX6_blame 61 = .ok (.return_, 1) := by decide +kernel
theorem dX7_init_0 : decode cX7_init 0 = .ok (.aload_n 0, 1) := by decide +kernel
theorem dX7_init_1 : decode cX7_init 1 = .ok (.invokespecial 3, 3) := by decide +kernel
theorem dX7_init_4 : decode cX7_init 4 = .ok (.aload_n 0, 1) := by decide +kernel
theorem dX7_init_5 : decode cX7_init 5 = .ok (.iconst 4, 1) := by decide +kernel
theorem dX7_init_6 : decode cX7_init 6 = .ok (.newarray .int, 2) := by decide +kernel
theorem dX7_init_8 : decode cX7_init 8 = .ok (.putfield 11, 3) := by decide +kernel
theorem dX7_init_11 : decode cX7_init 11 = .ok (.aload_n 0, 1) := by decide +kernel
theorem dX7_init_12 : decode cX7_init 12 = .ok (.iconst 4, 1) := by decide +kernel
theorem dX7_init_13 : decode cX7_init 13 = .ok (.newarray .int, 2) := by decide +kernel
theorem dX7_init_15 : decode cX7_init 15 = .ok (.putfield 15, 3) := by decide +kernel
theorem dX7_init_18 : decode cX7_init 18 = .ok (.aload_n 0, 1) := by decide +kernel
theorem dX7_init_19 : decode cX7_init 19 = .ok (.sipush 240, 3) := by decide +kernel
theorem dX7_init_22 : decode cX7_init 22 = .ok (.newarray .long, 2) := by decide +kernel
theorem dX7_init_24 : decode cX7_init 24 = .ok (.putfield 18, 3) := by decide +kernel
theorem dX7_init_27 : decode cX7_init 27 = .ok (.aload_n 0, 1) := by decide +kernel
theorem dX7_init_28 : decode cX7_init 28 = .ok (.getfield 11, 3) := by decide +kernel
theorem dX7_init_31 : decode cX7_init 31 = .ok (.iconst (-1), 1) := by decide +kernel
theorem dX7_init_32 : decode cX7_init 32 = .ok (.invokestatic 22, 3) := by decide +kernel
theorem dX7_init_35 : decode cX7_init 35 = .ok (.return_, 1) := by decide +kernel
theorem dX7_canBe_0 : decode cX7_canBe 0 = .ok (.iload_n 1, 1) := by decide +kernel
theorem dX7_canBe_1 : decode cX7_canBe 1 = .ok (.ifCond .lt 12, 3) := by decide +kernel
theorem dX7_canBe_4 : decode cX7_canBe 4 = .ok (.iload_n 1, 1) := by decide +kernel
theorem dX7_canBe_5 : decode cX7_canBe 5 = .ok (.iconst 4, 1) := by decide +kernel
theorem dX7_canBe_6 : decode cX7_canBe 6 = .ok (.if_icmp .ge 7, 3) := by decide +kernel
theorem dX7_canBe_9 : decode cX7_canBe 9 = .ok (.iconst 1, 1) := by decide +kernel
theorem dX7_canBe_10 : decode cX7_canBe 10 = .ok (.goto 4, 3) := by decide +kernel
theorem dX7_canBe_13 : decode cX7_canBe 13 = .ok (.iconst 0, 1) := by decide +kernel
theorem dX7_canBe_14 : decode cX7_canBe 14 = .ok (.ireturn, 1) := by decide +kernel
theorem dX7_lay_0 : decode cX7_lay 0 = .ok (.aload_n 0, 1) := by decide +kernel
theorem dX7_lay_1 : decode cX7_lay 1 = .ok (.iload_n 1, 1) := by decide +kernel
theorem dX7_lay_2 : decode cX7_lay 2 = .ok (.invokevirtual 28, 3) := by decide +kernel
theorem dX7_lay_5 : decode cX7_lay 5 = .ok (.ifCond .eq 13, 3) := by decide +kernel
theorem dX7_lay_8 : decode cX7_lay 8 = .ok (.iload_n 3, 1) := by decide +kernel
theorem dX7_lay_9 : decode cX7_lay 9 = .ok (.ifCond .lt 9, 3) := by decide +kernel
theorem dX7_lay_12 : decode cX7_lay 12 = .ok (.iload_n 3, 1) := by decide +kernel
theorem dX7_lay_13 : decode cX7_lay 13 = .ok (.bipush 60, 2) := by decide +kernel
theorem dX7_lay_15 : decode cX7_lay 15 = .ok (.if_icmp .le 4, 3) := by decide +kernel
theorem dX7_lay_18 : decode cX7_lay 18 = .ok (.return_, 1) := by decide +kernel
theorem dX7_lay_19 : decode cX7_lay 19 = .ok (.aload_n 0, 1) := by decide +kernel
theorem dX7_lay_20 : decode cX7_lay 20 = .ok (.getfield 15, 3) := by decide +kernel
theorem dX7_lay_23 : decode cX7_lay 23 = .ok (.iload_n 1, 1) := by decide +kernel
theorem dX7_lay_24 : decode cX7_lay 24 = .ok (.iload_n 2, 1) := by decide +kernel
theorem dX7_lay_25 : decode cX7_lay 25 = .ok (.iastore, 1) := by decide +kernel
theorem dX7_lay_26 : decode cX7_lay 26 = .ok (.aload_n 0, 1) := by decide +kernel
theorem dX7_lay_27 : decode cX7_lay 27 = .ok (.getfield 11, 3) := by decide +kernel
theorem dX7_lay_30 : decode cX7_lay 30 = .ok (.iload_n 1, 1) := by decide +kernel
theorem dX7_lay_31 : decode cX7_lay 31 = .ok (.iload_n 3, 1) := by decide +kernel
theorem dX7_lay_32 : decode cX7_lay 32 = .ok (.iastore, 1) := by decide +kernel
theorem dX7_lay_33 : decode cX7_lay 33 = .ok (.aload_n 0, 1) := by decide +kernel
theorem dX7_lay_34 : decode cX7_lay 34 = .ok (.getfield 18, 3) := by decide +kernel
theorem dX7_lay_37 : decode cX7_lay 37 = .ok (.iload_n 1, 1) := by decide +kernel
theorem dX7_lay_38 : decode cX7_lay 38 = .ok (.bipush 60, 2) := by decide +kernel
theorem dX7_lay_40 : decode cX7_lay 40 = .ok (.imul, 1) := by decide +kernel
theorem dX7_lay_41 : decode cX7_lay 41 = .ok (.iload_n 1, 1) := by decide +kernel
theorem dX7_lay_42 : decode cX7_lay 42 = .ok (.bipush 60, 2) := by decide +kernel
theorem dX7_lay_44 : decode cX7_lay 44 = .ok (.imul, 1) := by decide +kernel
theorem dX7_lay_45 : decode cX7_lay 45 = .ok (.bipush 60, 2) := by decide +kernel
theorem dX7_lay_47 : decode cX7_lay 47 = .ok (.iadd, 1) := by decide +kernel
theorem dX7_lay_48 : decode cX7_lay 48 = .ok (.lconst 0, 1) := by decide +kernel
theorem dX7_lay_49 : decode cX7_lay 49 = .ok (.invokestatic 32, 3) := by decide +kernel
theorem dX7_lay_52 : decode cX7_lay 52 = .ok (.return_, 1) := by decide +kernel
theorem dX7_at_0 : decode cX7_at 0 = .ok (.aload_n 0, 1) := by decide +kernel
theorem dX7_at_1 : decode cX7_at 1 = .ok (.iload_n 1, 1) := by decide +kernel
theorem dX7_at_2 : decode cX7_at 2 = .ok (.invokevirtual 28, 3) := by decide +kernel
theorem dX7_at_5 : decode cX7_at 5 = .ok (.ifCond .eq 31, 3) := by decide +kernel
theorem dX7_at_8 : decode cX7_at 8 = .ok (.iload_n 2, 1) := by decide +kernel
theorem dX7_at_9 : decode cX7_at 9 = .ok (.ifCond .lt 27, 3) := by decide +kernel
theorem dX7_at_12 : decode cX7_at 12 = .ok (.iload_n 2, 1) := by decide +kernel
theorem dX7_at_13 : decode cX7_at 13 = .ok (.aload_n 0, 1) := by decide +kernel
theorem dX7_at_14 : decode cX7_at 14 = .ok (.getfield 11, 3) := by decide +kernel
theorem dX7_at_17 : decode cX7_at 17 = .ok (.iload_n 1, 1) := by decide +kernel
theorem dX7_at_18 : decode cX7_at 18 = .ok (.iaload, 1) := by decide +kernel
theorem dX7_at_19 : decode cX7_at 19 = .ok (.if_icmp .ge 17, 3) := by decide +kernel
theorem dX7_at_22 : decode cX7_at 22 = .ok (.aload_n 0, 1) := by decide +kernel
theorem dX7_at_23 : decode cX7_at 23 = .ok (.getfield 18, 3) := by decide +kernel
theorem dX7_at_26 : decode cX7_at 26 = .ok (.iload_n 1, 1) := by decide +kernel
theorem dX7_at_27 : decode cX7_at 27 = .ok (.bipush 60, 2) := by decide +kernel
theorem dX7_at_29 : decode cX7_at 29 = .ok (.imul, 1) := by decide +kernel
theorem dX7_at_30 : decode cX7_at 30 = .ok (.iload_n 2, 1) := by decide +kernel
theorem dX7_at_31 : decode cX7_at 31 = .ok (.iadd, 1) := by decide +kernel
theorem dX7_at_32 : decode cX7_at 32 = .ok (.laload, 1) := by decide +kernel
theorem dX7_at_33 : decode cX7_at 33 = .ok (.goto 4, 3) := by decide +kernel
theorem dX7_at_36 : decode cX7_at 36 = .ok (.lconst 0, 1) := by decide +kernel
theorem dX7_at_37 : decode cX7_at 37 = .ok (.lreturn, 1) := by decide +kernel
theorem dX7_put_0 : decode cX7_put 0 = .ok (.aload_n 0, 1) := by decide +kernel
theorem dX7_put_1 : decode cX7_put 1 = .ok (.iload_n 1, 1) := by decide +kernel
theorem dX7_put_2 : decode cX7_put 2 = .ok (.invokevirtual 28, 3) := by decide +kernel
theorem dX7_put_5 : decode cX7_put 5 = .ok (.ifCond .eq 17, 3) := by decide +kernel
theorem dX7_put_8 : decode cX7_put 8 = .ok (.iload_n 2, 1) := by decide +kernel
theorem dX7_put_9 : decode cX7_put 9 = .ok (.ifCond .lt 13, 3) := by decide +kernel
theorem dX7_put_12 : decode cX7_put 12 = .ok (.iload_n 2, 1) := by decide +kernel
theorem dX7_put_13 : decode cX7_put 13 = .ok (.aload_n 0, 1) := by decide +kernel
theorem dX7_put_14 : decode cX7_put 14 = .ok (.getfield 11, 3) := by decide +kernel
theorem dX7_put_17 : decode cX7_put 17 = .ok (.iload_n 1, 1) := by decide +kernel
theorem dX7_put_18 : decode cX7_put 18 = .ok (.iaload, 1) := by decide +kernel
theorem dX7_put_19 : decode cX7_put 19 = .ok (.if_icmp .lt 5, 3) := by decide +kernel
theorem dX7_put_22 : decode cX7_put 22 = .ok (.lconst 0, 1) := by decide +kernel
theorem dX7_put_23 : decode cX7_put 23 = .ok (.lreturn, 1) := by decide +kernel
theorem dX7_put_24 : decode cX7_put 24 = .ok (.aload_n 0, 1) := by decide +kernel
theorem dX7_put_25 : decode cX7_put 25 = .ok (.getfield 15, 3) := by decide +kernel
theorem dX7_put_28 : decode cX7_put 28 = .ok (.iload_n 1, 1) := by decide +kernel
theorem dX7_put_29 : decode cX7_put 29 = .ok (.iaload, 1) := by decide +kernel
theorem dX7_put_30 : decode cX7_put 30 = .ok (.lload_n 3, 1) := by decide +kernel
theorem dX7_put_31 : decode cX7_put 31 = .ok (.invokestatic 35, 3) := by decide +kernel
theorem dX7_put_34 : decode cX7_put 34 = .ok (.lstore 5, 2) := by decide +kernel
theorem dX7_put_36 : decode cX7_put 36 = .ok (.aload_n 0, 1) := by decide +kernel
theorem dX7_put_37 : decode cX7_put 37 = .ok (.getfield 18, 3) := by decide +kernel
theorem dX7_put_40 : decode cX7_put 40 = .ok (.iload_n 1, 1) := by decide +kernel
theorem dX7_put_41 : decode cX7_put 41 = .ok (.bipush 60, 2) := by decide +kernel
theorem dX7_put_43 : decode cX7_put 43 = .ok (.imul, 1) := by decide +kernel
theorem dX7_put_44 : decode cX7_put 44 = .ok (.iload_n 2, 1) := by decide +kernel
theorem dX7_put_45 : decode cX7_put 45 = .ok (.iadd, 1) := by decide +kernel
theorem dX7_put_46 : decode cX7_put 46 = .ok (.lload 5, 2) := by decide +kernel
theorem dX7_put_48 : decode cX7_put 48 = .ok (.lastore, 1) := by decide +kernel
theorem dX7_put_49 : decode cX7_put 49 = .ok (.lload 5, 2) := by decide +kernel
theorem dX7_put_51 : decode cX7_put 51 = .ok (.lreturn, 1) := by decide +kernel
theorem dX7_cut_0 : decode cX7_cut 0 = .ok (.iload_n 0, 1) := by decide +kernel
theorem dX7_cut_1 : decode cX7_cut 1 = .ok (.tableswitch 41 0 2 #[27, 32, 37], 27) := by decide +kernel
theorem dX7_cut_28 : decode cX7_cut 28 = .ok (.lload_n 1, 1) := by decide +kernel
theorem dX7_cut_29 : decode cX7_cut 29 = .ok (.l2i, 1) := by decide +kernel
theorem dX7_cut_30 : decode cX7_cut 30 = .ok (.i2b, 1) := by decide +kernel
theorem dX7_cut_31 : decode cX7_cut 31 = .ok (.i2l, 1) := by decide +kernel
theorem dX7_cut_32 : decode cX7_cut 32 = .ok (.lreturn, 1) := by decide +kernel
theorem dX7_cut_33 : decode cX7_cut 33 = .ok (.lload_n 1, 1) := by decide +kernel
theorem dX7_cut_34 : decode cX7_cut 34 = .ok (.l2i, 1) := by decide +kernel
theorem dX7_cut_35 : decode cX7_cut 35 = .ok (.i2s, 1) := by decide +kernel
theorem dX7_cut_36 : decode cX7_cut 36 = .ok (.i2l, 1) := by decide +kernel
theorem dX7_cut_37 : decode cX7_cut 37 = .ok (.lreturn, 1) := by decide +kernel
theorem dX7_cut_38 : decode cX7_cut 38 = .ok (.lload_n 1, 1) := by decide +kernel
theorem dX7_cut_39 : decode cX7_cut 39 = .ok (.l2i, 1) := by decide +kernel
theorem dX7_cut_40 : decode cX7_cut 40 = .ok (.i2l, 1) := by decide +kernel
theorem dX7_cut_41 : decode cX7_cut 41 = .ok (.lreturn, 1) := by decide +kernel
theorem dX7_cut_42 : decode cX7_cut 42 = .ok (.lload_n 1, 1) := by decide +kernel
theorem dX7_cut_43 : decode cX7_cut 43 = .ok (.lreturn, 1) := by decide +kernel
theorem dX8_init_0 : decode cX8_init 0 = .ok (.aload_n 0, 1) := by decide +kernel
theorem dX8_init_1 : decode cX8_init 1 = .ok (.invokespecial 3, 3) := by decide +kernel
theorem dX8_init_4 : decode cX8_init 4 = .ok (.aload_n 0, 1) := by decide +kernel
theorem dX8_init_5 : decode cX8_init 5 = .ok (.new 9, 3) := by decide +kernel
theorem dX8_init_8 : decode cX8_init 8 = .ok (.dup, 1) := by decide +kernel
theorem dX8_init_9 : decode cX8_init 9 = .ok (.bipush 40, 2) := by decide +kernel
theorem dX8_init_11 : decode cX8_init 11 = .ok (.bipush 12, 2) := by decide +kernel
theorem dX8_init_13 : decode cX8_init 13 = .ok (.invokespecial 13, 3) := by decide +kernel
theorem dX8_init_16 : decode cX8_init 16 = .ok (.putfield 16, 3) := by decide +kernel
theorem dX8_init_19 : decode cX8_init 19 = .ok (.aload_n 0, 1) := by decide +kernel
theorem dX8_init_20 : decode cX8_init 20 = .ok (.new 9, 3) := by decide +kernel
theorem dX8_init_23 : decode cX8_init 23 = .ok (.dup, 1) := by decide +kernel
theorem dX8_init_24 : decode cX8_init 24 = .ok (.bipush 12, 2) := by decide +kernel
theorem dX8_init_26 : decode cX8_init 26 = .ok (.bipush 12, 2) := by decide +kernel
theorem dX8_init_28 : decode cX8_init 28 = .ok (.invokespecial 13, 3) := by decide +kernel
theorem dX8_init_31 : decode cX8_init 31 = .ok (.putfield 20, 3) := by decide +kernel
theorem dX8_init_34 : decode cX8_init 34 = .ok (.aload_n 0, 1) := by decide +kernel
theorem dX8_init_35 : decode cX8_init 35 = .ok (.new 9, 3) := by decide +kernel
theorem dX8_init_38 : decode cX8_init 38 = .ok (.dup, 1) := by decide +kernel
theorem dX8_init_39 : decode cX8_init 39 = .ok (.iconst 1, 1) := by decide +kernel
theorem dX8_init_40 : decode cX8_init 40 = .ok (.bipush 60, 2) := by decide +kernel
theorem dX8_init_42 : decode cX8_init 42 = .ok (.invokespecial 13, 3) := by decide +kernel
theorem dX8_init_45 : decode cX8_init 45 = .ok (.putfield 23, 3) := by decide +kernel
theorem dX8_init_48 : decode cX8_init 48 = .ok (.aload_n 0, 1) := by decide +kernel
theorem dX8_init_49 : decode cX8_init 49 = .ok (.new 9, 3) := by decide +kernel
theorem dX8_init_52 : decode cX8_init 52 = .ok (.dup, 1) := by decide +kernel
theorem dX8_init_53 : decode cX8_init 53 = .ok (.bipush 20, 2) := by decide +kernel
theorem dX8_init_55 : decode cX8_init 55 = .ok (.iconst 2, 1) := by decide +kernel
theorem dX8_init_56 : decode cX8_init 56 = .ok (.invokespecial 13, 3) := by decide +kernel
theorem dX8_init_59 : decode cX8_init 59 = .ok (.putfield 26, 3) := by decide +kernel
theorem dX8_init_62 : decode cX8_init 62 = .ok (.aload_n 0, 1) := by decide +kernel
theorem dX8_init_63 : decode cX8_init 63 = .ok (.sipush 480, 3) := by decide +kernel
theorem dX8_init_66 : decode cX8_init 66 = .ok (.newarray .long, 2) := by decide +kernel
theorem dX8_init_68 : decode cX8_init 68 = .ok (.putfield 29, 3) := by decide +kernel
theorem dX8_init_71 : decode cX8_init 71 = .ok (.aload_n 0, 1) := by decide +kernel
theorem dX8_init_72 : decode cX8_init 72 = .ok (.sipush 256, 3) := by decide +kernel
theorem dX8_init_75 : decode cX8_init 75 = .ok (.newarray .int, 2) := by decide +kernel
theorem dX8_init_77 : decode cX8_init 77 = .ok (.putfield 33, 3) := by decide +kernel
theorem dX8_init_80 : decode cX8_init 80 = .ok (.aload_n 0, 1) := by decide +kernel
theorem dX8_init_81 : decode cX8_init 81 = .ok (.new 37, 3) := by decide +kernel
theorem dX8_init_84 : decode cX8_init 84 = .ok (.dup, 1) := by decide +kernel
theorem dX8_init_85 : decode cX8_init 85 = .ok (.invokespecial 39, 3) := by decide +kernel
theorem dX8_init_88 : decode cX8_init 88 = .ok (.putfield 40, 3) := by decide +kernel
theorem dX8_init_91 : decode cX8_init 91 = .ok (.aload_n 0, 1) := by decide +kernel
theorem dX8_init_92 : decode cX8_init 92 = .ok (.new 44, 3) := by decide +kernel
theorem dX8_init_95 : decode cX8_init 95 = .ok (.dup, 1) := by decide +kernel
theorem dX8_init_96 : decode cX8_init 96 = .ok (.invokespecial 46, 3) := by decide +kernel
theorem dX8_init_99 : decode cX8_init 99 = .ok (.putfield 47, 3) := by decide +kernel
theorem dX8_init_102 : decode cX8_init 102 = .ok (.aload_n 0, 1) := by decide +kernel
theorem dX8_init_103 : decode cX8_init 103 = .ok (.new 51, 3) := by decide +kernel
theorem dX8_init_106 : decode cX8_init 106 = .ok (.dup, 1) := by decide +kernel
theorem dX8_init_107 : decode cX8_init 107 = .ok (.invokespecial 53, 3) := by decide +kernel
theorem dX8_init_110 : decode cX8_init 110 = .ok (.putfield 54, 3) := by decide +kernel
theorem dX8_init_113 : decode cX8_init 113 = .ok (.aload_n 0, 1) := by decide +kernel
theorem dX8_init_114 : decode cX8_init 114 = .ok (.new 58, 3) := by decide +kernel
theorem dX8_init_117 : decode cX8_init 117 = .ok (.dup, 1) := by decide +kernel
theorem dX8_init_118 : decode cX8_init 118 = .ok (.invokespecial 60, 3) := by decide +kernel
theorem dX8_init_121 : decode cX8_init 121 = .ok (.putfield 61, 3) := by decide +kernel
theorem dX8_init_124 : decode cX8_init 124 = .ok (.aload_n 0, 1) := by decide +kernel
theorem dX8_init_125 : decode cX8_init 125 = .ok (.new 65, 3) := by decide +kernel
theorem dX8_init_128 : decode cX8_init 128 = .ok (.dup, 1) := by decide +kernel
theorem dX8_init_129 : decode cX8_init 129 = .ok (.invokespecial 67, 3) := by decide +kernel
theorem dX8_init_132 : decode cX8_init 132 = .ok (.putfield 68, 3) := by decide +kernel
theorem dX8_init_135 : decode cX8_init 135 = .ok (.aload_n 0, 1) := by decide +kernel
theorem dX8_init_136 : decode cX8_init 136 = .ok (.bipush 80, 2) := by decide +kernel
theorem dX8_init_138 : decode cX8_init 138 = .ok (.putfield 72, 3) := by decide +kernel
theorem dX8_init_141 : decode cX8_init 141 = .ok (.aload_n 0, 1) := by decide +kernel
theorem dX8_init_142 : decode cX8_init 142 = .ok (.bipush 50, 2) := by decide +kernel
theorem dX8_init_144 : decode cX8_init 144 = .ok (.putfield 76, 3) := by decide +kernel
theorem dX8_init_147 : decode cX8_init 147 = .ok (.aload_n 0, 1) := by decide +kernel
theorem dX8_init_148 : decode cX8_init 148 = .ok (.getfield 23, 3) := by decide +kernel
theorem dX8_init_151 : decode cX8_init 151 = .ok (.iconst 0, 1) := by decide +kernel
theorem dX8_init_152 : decode cX8_init 152 = .ok (.iconst 0, 1) := by decide +kernel
theorem dX8_init_153 : decode cX8_init 153 = .ok (.sipush 5000, 3) := by decide +kernel
theorem dX8_init_156 : decode cX8_init 156 = .ok (.invokevirtual 79, 3) := by decide +kernel
theorem dX8_init_159 : decode cX8_init 159 = .ok (.pop, 1) := by decide +kernel
theorem dX8_init_160 : decode cX8_init 160 = .ok (.return_, 1) := by decide +kernel
theorem dX8_copy_0 : decode cX8_copy 0 = .ok (.aload_n 0, 1) := by decide +kernel
theorem dX8_copy_1 : decode cX8_copy 1 = .ok (.getfield 16, 3) := by decide +kernel
theorem dX8_copy_4 : decode cX8_copy 4 = .ok (.aload_n 1, 1) := by decide +kernel
theorem dX8_copy_5 : decode cX8_copy 5 = .ok (.getfield 16, 3) := by decide +kernel
theorem dX8_copy_8 : decode cX8_copy 8 = .ok (.invokevirtual 83, 3) := by decide +kernel
theorem dX8_copy_11 : decode cX8_copy 11 = .ok (.aload_n 0, 1) := by decide +kernel
theorem dX8_copy_12 : decode cX8_copy 12 = .ok (.getfield 20, 3) := by decide +kernel
theorem dX8_copy_15 : decode cX8_copy 15 = .ok (.aload_n 1, 1) := by decide +kernel
theorem dX8_copy_16 : decode cX8_copy 16 = .ok (.getfield 20, 3) := by decide +kernel
theorem dX8_copy_19 : decode cX8_copy 19 = .ok (.invokevirtual 83, 3) := by decide +kernel
theorem dX8_copy_22 : decode cX8_copy 22 = .ok (.aload_n 0, 1) := by decide +kernel
theorem dX8_copy_23 : decode cX8_copy 23 = .ok (.getfield 23, 3) := by decide +kernel
theorem dX8_copy_26 : decode cX8_copy 26 = .ok (.aload_n 1, 1) := by decide +kernel
theorem dX8_copy_27 : decode cX8_copy 27 = .ok (.getfield 23, 3) := by decide +kernel
theorem dX8_copy_30 : decode cX8_copy 30 = .ok (.invokevirtual 83, 3) := by decide +kernel
theorem dX8_copy_33 : decode cX8_copy 33 = .ok (.aload_n 0, 1) := by decide +kernel
theorem dX8_copy_34 : decode cX8_copy 34 = .ok (.getfield 26, 3) := by decide +kernel
theorem dX8_copy_37 : decode cX8_copy 37 = .ok (.aload_n 1, 1) := by decide +kernel
theorem dX8_copy_38 : decode cX8_copy 38 = .ok (.getfield 26, 3) := by decide +kernel
theorem dX8_copy_41 : decode cX8_copy 41 = .ok (.invokevirtual 83, 3) := by decide +kernel
theorem dX8_copy_44 : decode cX8_copy 44 = .ok (.aload_n 1, 1) := by decide +kernel
theorem dX8_copy_45 : decode cX8_copy 45 = .ok (.getfield 29, 3) := by decide +kernel
theorem dX8_copy_48 : decode cX8_copy 48 = .ok (.iconst 0, 1) := by decide +kernel
theorem dX8_copy_49 : decode cX8_copy 49 = .ok (.aload_n 0, 1) := by decide +kernel
theorem dX8_copy_50 : decode cX8_copy 50 = .ok (.getfield 29, 3) := by decide +kernel
theorem dX8_copy_53 : decode cX8_copy 53 = .ok (.iconst 0, 1) := by decide +kernel
theorem dX8_copy_54 : decode cX8_copy 54 = .ok (.sipush 480, 3) := by decide +kernel
theorem dX8_copy_57 : decode cX8_copy 57 = .ok (.invokestatic 87, 3) := by decide +kernel
theorem dX8_copy_60 : decode cX8_copy 60 = .ok (.aload_n 1, 1) := by decide +kernel
theorem dX8_copy_61 : decode cX8_copy 61 = .ok (.getfield 33, 3) := by decide +kernel
theorem dX8_copy_64 : decode cX8_copy 64 = .ok (.iconst 0, 1) := by decide +kernel
theorem dX8_copy_65 : decode cX8_copy 65 = .ok (.aload_n 0, 1) := by decide +kernel
theorem dX8_copy_66 : decode cX8_copy 66 = .ok (.getfield 33, 3) := by decide +kernel
theorem dX8_copy_69 : decode cX8_copy 69 = .ok (.iconst 0, 1) := by decide +kernel
theorem dX8_copy_70 : decode cX8_copy 70 = .ok (.sipush 256, 3) := by decide +kernel
theorem dX8_copy_73 : decode cX8_copy 73 = .ok (.invokestatic 87, 3) := by decide +kernel
theorem dX8_copy_76 : decode cX8_copy 76 = .ok (.aload_n 0, 1) := by decide +kernel
theorem dX8_copy_77 : decode cX8_copy 77 = .ok (.getfield 40, 3) := by decide +kernel
theorem dX8_copy_80 : decode cX8_copy 80 = .ok (.aload_n 1, 1) := by decide +kernel
theorem dX8_copy_81 : decode cX8_copy 81 = .ok (.getfield 40, 3) := by decide +kernel
theorem dX8_copy_84 : decode cX8_copy 84 = .ok (.invokevirtual 93, 3) := by decide +kernel
theorem dX8_copy_87 : decode cX8_copy 87 = .ok (.aload_n 0, 1) := by decide +kernel
theorem dX8_copy_88 : decode cX8_copy 88 = .ok (.getfield 47, 3) := by decide +kernel
theorem dX8_copy_91 : decode cX8_copy 91 = .ok (.aload_n 1, 1) := by decide +kernel
theorem dX8_copy_92 : decode cX8_copy 92 = .ok (.getfield 47, 3) := by decide +kernel
theorem dX8_copy_95 : decode cX8_copy 95 = .ok (.invokevirtual 96, 3) := by decide +kernel
theorem dX8_copy_98 : decode cX8_copy 98 = .ok (.aload_n 0, 1) := by decide +kernel
theorem dX8_copy_99 : decode cX8_copy 99 = .ok (.getfield 54, 3) := by decide +kernel
theorem dX8_copy_102 : decode cX8_copy 102 = .ok (.aload_n 1, 1) := by decide +kernel
theorem dX8_copy_103 : decode cX8_copy 103 = .ok (.getfield 54, 3) := by decide +kernel
theorem dX8_copy_106 : decode cX8_copy 106 = .ok (.invokevirtual 99, 3) := by decide +kernel
theorem dX8_copy_109 : decode cX8_copy 109 = .ok (.aload_n 0, 1) := by decide +kernel
theorem dX8_copy_110 : decode cX8_copy 110 = .ok (.getfield 61, 3) := by decide +kernel
theorem dX8_copy_113 : decode cX8_copy 113 = .ok (.aload_n 1, 1) := by decide +kernel
theorem dX8_copy_114 : decode cX8_copy 114 = .ok (.getfield 61, 3) := by decide +kernel
theorem dX8_copy_117 : decode cX8_copy 117 = .ok (.invokevirtual 102, 3) := by decide +kernel
theorem dX8_copy_120 : decode cX8_copy 120 = .ok (.aload_n 0, 1) := by decide +kernel
theorem dX8_copy_121 : decode cX8_copy 121 = .ok (.getfield 68, 3) := by decide +kernel
theorem dX8_copy_124 : decode cX8_copy 124 = .ok (.aload_n 1, 1) := by decide +kernel
theorem dX8_copy_125 : decode cX8_copy 125 = .ok (.getfield 68, 3) := by decide +kernel
theorem dX8_copy_128 : decode cX8_copy 128 = .ok (.invokevirtual 105, 3) := by decide +kernel
theorem dX8_copy_131 : decode cX8_copy 131 = .ok (.aload_n 0, 1) := by decide +kernel
theorem dX8_copy_132 : decode cX8_copy 132 = .ok (.aload_n 1, 1) := by decide +kernel
theorem dX8_copy_133 : decode cX8_copy 133 = .ok (.getfield 72, 3) := by decide +kernel
theorem dX8_copy_136 : decode cX8_copy 136 = .ok (.putfield 72, 3) := by decide +kernel
theorem dX8_copy_139 : decode cX8_copy 139 = .ok (.aload_n 0, 1) := by decide +kernel
theorem dX8_copy_140 : decode cX8_copy 140 = .ok (.aload_n 1, 1) := by decide +kernel
theorem dX8_copy_141 : decode cX8_copy 141 = .ok (.getfield 76, 3) := by decide +kernel
theorem dX8_copy_144 : decode cX8_copy 144 = .ok (.putfield 76, 3) := by decide +kernel
theorem dX8_copy_147 : decode cX8_copy 147 = .ok (.return_, 1) := by decide +kernel
theorem dX8_pile_0 : decode cX8_pile 0 = .ok (.iload_n 1, 1) := by decide +kernel
theorem dX8_pile_1 : decode cX8_pile 1 = .ok (.tableswitch 42 0 2 #[27, 32, 37], 27) := by decide +kernel
theorem dX8_pile_28 : decode cX8_pile 28 = .ok (.aload_n 0, 1) := by decide +kernel
theorem dX8_pile_29 : decode cX8_pile 29 = .ok (.getfield 16, 3) := by decide +kernel
theorem dX8_pile_32 : decode cX8_pile 32 = .ok (.areturn, 1) := by decide +kernel
theorem dX8_pile_33 : decode cX8_pile 33 = .ok (.aload_n 0, 1) := by decide +kernel
theorem dX8_pile_34 : decode cX8_pile 34 = .ok (.getfield 20, 3) := by decide +kernel
theorem dX8_pile_37 : decode cX8_pile 37 = .ok (.areturn, 1) := by decide +kernel
theorem dX8_pile_38 : decode cX8_pile 38 = .ok (.aload_n 0, 1) := by decide +kernel
theorem dX8_pile_39 : decode cX8_pile 39 = .ok (.getfield 23, 3) := by decide +kernel
theorem dX8_pile_42 : decode cX8_pile 42 = .ok (.areturn, 1) := by decide +kernel
theorem dX8_pile_43 : decode cX8_pile 43 = .ok (.aload_n 0, 1) := by decide +kernel
theorem dX8_pile_44 : decode cX8_pile 44 = .ok (.getfield 26, 3) := by decide +kernel
theorem dX8_pile_47 : decode cX8_pile 47 = .ok (.areturn, 1) := by decide +kernel
theorem dX8_isEarly_0 : decode cX8_isEarly 0 = .ok (.aload_n 0, 1) := by decide +kernel
theorem dX8_isEarly_1 : decode cX8_isEarly 1 = .ok (.getfield 16, 3) := by decide +kernel
theorem dX8_isEarly_4 : decode cX8_isEarly 4 = .ok (.iload_n 1, 1) := by decide +kernel
theorem dX8_isEarly_5 : decode cX8_isEarly 5 = .ok (.invokevirtual 108, 3) := by decide +kernel
theorem dX8_isEarly_8 : decode cX8_isEarly 8 = .ok (.ifCond .eq 28, 3) := by decide +kernel
theorem dX8_isEarly_11 : decode cX8_isEarly 11 = .ok (.aload_n 0, 1) := by decide +kernel
theorem dX8_isEarly_12 : decode cX8_isEarly 12 = .ok (.getfield 16, 3) := by decide +kernel
theorem dX8_isEarly_15 : decode cX8_isEarly 15 = .ok (.getfield 112, 3) := by decide +kernel
theorem dX8_isEarly_18 : decode cX8_isEarly 18 = .ok (.iload_n 1, 1) := by decide +kernel
theorem dX8_isEarly_19 : decode cX8_isEarly 19 = .ok (.iaload, 1) := by decide +kernel
theorem dX8_isEarly_20 : decode cX8_isEarly 20 = .ok (.aload_n 0, 1) := by decide +kernel
theorem dX8_isEarly_21 : decode cX8_isEarly 21 = .ok (.getfield 23, 3) := by decide +kernel
theorem dX8_isEarly_24 : decode cX8_isEarly 24 = .ok (.getfield 112, 3) := by decide +kernel
theorem dX8_isEarly_27 : decode cX8_isEarly 27 = .ok (.iconst 0, 1) := by decide +kernel
theorem dX8_isEarly_28 : decode cX8_isEarly 28 = .ok (.iaload, 1) := by decide +kernel
theorem dX8_isEarly_29 : decode cX8_isEarly 29 = .ok (.if_icmp .gt 7, 3) := by decide +kernel
theorem dX8_isEarly_32 : decode cX8_isEarly 32 = .ok (.iconst 1, 1) := by decide +kernel
theorem dX8_isEarly_33 : decode cX8_isEarly 33 = .ok (.goto 4, 3) := by decide +kernel
theorem dX8_isEarly_36 : decode cX8_isEarly 36 = .ok (.iconst 0, 1) := by decide +kernel
theorem dX8_isEarly_37 : decode cX8_isEarly 37 = .ok (.ireturn, 1) := by decide +kernel
theorem dX8_hasEarly_0 : decode cX8_hasEarly 0 = .ok (.iconst 0, 1) := by decide +kernel
theorem dX8_hasEarly_1 : decode cX8_hasEarly 1 = .ok (.istore_n 1, 1) := by decide +kernel
theorem dX8_hasEarly_2 : decode cX8_hasEarly 2 = .ok (.iload_n 1, 1) := by decide +kernel
theorem dX8_hasEarly_3 : decode cX8_hasEarly 3 = .ok (.aload_n 0, 1) := by decide +kernel
theorem dX8_hasEarly_4 : decode cX8_hasEarly 4 = .ok (.getfield 16, 3) := by decide +kernel
theorem dX8_hasEarly_7 : decode cX8_hasEarly 7 = .ok (.getfield 115, 3) := by decide +kernel
theorem dX8_hasEarly_10 : decode cX8_hasEarly 10 = .ok (.if_icmp .ge 19, 3) := by decide +kernel
theorem dX8_hasEarly_13 : decode cX8_hasEarly 13 = .ok (.aload_n 0, 1) := by decide +kernel
theorem dX8_hasEarly_14 : decode cX8_hasEarly 14 = .ok (.iload_n 1, 1) := by decide +kernel
theorem dX8_hasEarly_15 : decode cX8_hasEarly 15 = .ok (.invokevirtual 118, 3) := by decide +kernel
theorem dX8_hasEarly_18 : decode cX8_hasEarly 18 = .ok (.ifCond .eq 5, 3) := by decide +kernel
theorem dX8_hasEarly_21 : decode cX8_hasEarly 21 = .ok (.iconst 1, 1) := by decide +kernel
theorem dX8_hasEarly_22 : decode cX8_hasEarly 22 = .ok (.ireturn, 1) := by decide +kernel
theorem dX8_hasEarly_23 : decode cX8_hasEarly 23 = .ok (.iinc 1 1, 3) := by decide +kernel
theorem dX8_hasEarly_26 : decode cX8_hasEarly 26 = .ok (.goto (-24), 3) := by decide +kernel
theorem dX8_hasEarly_29 : decode cX8_hasEarly 29 = .ok (.iconst 0, 1) := by decide +kernel
theorem dX8_hasEarly_30 : decode cX8_hasEarly 30 = .ok (.ireturn, 1) := by decide +kernel
theorem dX8_putIntoSong_0 : decode cX8_putIntoSong 0 = .ok (.aload_n 0, 1) := by decide +kernel
theorem dX8_putIntoSong_1 : decode cX8_putIntoSong 1 = .ok (.getfield 16, 3) := by decide +kernel
theorem dX8_putIntoSong_4 : decode cX8_putIntoSong 4 = .ok (.iload_n 1, 1) := by decide +kernel
theorem dX8_putIntoSong_5 : decode cX8_putIntoSong 5 = .ok (.invokevirtual 108, 3) := by decide +kernel
theorem dX8_putIntoSong_8 : decode cX8_putIntoSong 8 = .ok (.ifCond .ne 5, 3) := by decide +kernel
theorem dX8_putIntoSong_11 : decode cX8_putIntoSong 11 = .ok (.iconst (-1), 1) := by decide +kernel
theorem dX8_putIntoSong_12 : decode cX8_putIntoSong 12 = .ok (.ireturn, 1) := by decide +kernel
theorem dX8_putIntoSong_13 : decode cX8_putIntoSong 13 = .ok (.aload_n 0, 1) := by decide +kernel
theorem dX8_putIntoSong_14 : decode cX8_putIntoSong 14 = .ok (.getfield 16, 3) := by decide +kernel
theorem dX8_putIntoSong_17 : decode cX8_putIntoSong 17 = .ok (.iload_n 1, 1) := by decide +kernel
theorem dX8_putIntoSong_18 : decode cX8_putIntoSong 18 = .ok (.aload_n 0, 1) := by decide +kernel
theorem dX8_putIntoSong_19 : decode cX8_putIntoSong 19 = .ok (.getfield 16, 3) := by decide +kernel
theorem dX8_putIntoSong_22 : decode cX8_putIntoSong 22 = .ok (.getfield 121, 3) := by decide +kernel
theorem dX8_putIntoSong_25 : decode cX8_putIntoSong 25 = .ok (.iload_n 1, 1) := by decide +kernel
theorem dX8_putIntoSong_26 : decode cX8_putIntoSong 26 = .ok (.iaload, 1) := by decide +kernel
theorem dX8_putIntoSong_27 : decode cX8_putIntoSong 27 = .ok (.lload_n 2, 1) := by decide +kernel
theorem dX8_putIntoSong_28 : decode cX8_putIntoSong 28 = .ok (.invokevirtual 124, 3) := by decide +kernel
theorem dX8_putIntoSong_31 : decode cX8_putIntoSong 31 = .ok (.istore 4, 2) := by decide +kernel
theorem dX8_putIntoSong_33 : decode cX8_putIntoSong 33 = .ok (.iload 4, 2) := by decide +kernel
theorem dX8_putIntoSong_35 : decode cX8_putIntoSong 35 = .ok (.ifCond .lt 32, 3) := by decide +kernel
theorem dX8_putIntoSong_38 : decode cX8_putIntoSong 38 = .ok (.aload_n 0, 1) := by decide +kernel
theorem dX8_putIntoSong_39 : decode cX8_putIntoSong 39 = .ok (.getfield 29, 3) := by decide +kernel
theorem dX8_putIntoSong_42 : decode cX8_putIntoSong 42 = .ok (.iload_n 1, 1) := by decide +kernel
theorem dX8_putIntoSong_43 : decode cX8_putIntoSong 43 = .ok (.bipush 12, 2) := by decide +kernel
theorem dX8_putIntoSong_45 : decode cX8_putIntoSong 45 = .ok (.imul, 1) := by decide +kernel
theorem dX8_putIntoSong_46 : decode cX8_putIntoSong 46 = .ok (.iload 4, 2) := by decide +kernel
theorem dX8_putIntoSong_48 : decode cX8_putIntoSong 48 = .ok (.iadd, 1) := by decide +kernel
theorem dX8_putIntoSong_49 : decode cX8_putIntoSong 49 = .ok (.aload_n 0, 1) := by decide +kernel
theorem dX8_putIntoSong_50 : decode cX8_putIntoSong 50 = .ok (.getfield 40, 3) := by decide +kernel
theorem dX8_putIntoSong_53 : decode cX8_putIntoSong 53 = .ok (.lload_n 2, 1) := by decide +kernel
theorem dX8_putIntoSong_54 : decode cX8_putIntoSong 54 = .ok (.aload_n 0, 1) := by decide +kernel
theorem dX8_putIntoSong_55 : decode cX8_putIntoSong 55 = .ok (.getfield 16, 3) := by decide +kernel
theorem dX8_putIntoSong_58 : decode cX8_putIntoSong 58 = .ok (.getfield 121, 3) := by decide +kernel
theorem dX8_putIntoSong_61 : decode cX8_putIntoSong 61 = .ok (.iload_n 1, 1) := by decide +kernel
theorem dX8_putIntoSong_62 : decode cX8_putIntoSong 62 = .ok (.iaload, 1) := by decide +kernel
theorem dX8_putIntoSong_63 : decode cX8_putIntoSong 63 = .ok (.invokevirtual 128, 3) := by decide +kernel
theorem dX8_putIntoSong_66 : decode cX8_putIntoSong 66 = .ok (.lastore, 1) := by decide +kernel
theorem dX8_putIntoSong_67 : decode cX8_putIntoSong 67 = .ok (.iload 4, 2) := by decide +kernel
theorem dX8_putIntoSong_69 : decode cX8_putIntoSong 69 = .ok (.ireturn, 1) := by decide +kernel
theorem dX8_follow_0 : decode cX8_follow 0 = .ok (.aload_n 0, 1) := by decide +kernel
theorem dX8_follow_1 : decode cX8_follow 1 = .ok (.getfield 40, 3) := by decide +kernel
theorem dX8_follow_4 : decode cX8_follow 4 = .ok (.aload_n 1, 1) := by decide +kernel
theorem dX8_follow_5 : decode cX8_follow 5 = .ok (.invokevirtual 93, 3) := by decide +kernel
theorem dX8_follow_8 : decode cX8_follow 8 = .ok (.iconst 0, 1) := by decide +kernel
theorem dX8_follow_9 : decode cX8_follow 9 = .ok (.istore_n 2, 1) := by decide +kernel
theorem dX8_follow_10 : decode cX8_follow 10 = .ok (.iload_n 2, 1) := by decide +kernel
theorem dX8_follow_11 : decode cX8_follow 11 = .ok (.aload_n 0, 1) := by decide +kernel
theorem dX8_follow_12 : decode cX8_follow 12 = .ok (.getfield 16, 3) := by decide +kernel
theorem dX8_follow_15 : decode cX8_follow 15 = .ok (.getfield 115, 3) := by decide +kernel
theorem dX8_follow_18 : decode cX8_follow 18 = .ok (.if_icmp .ge 66, 3) := by decide +kernel
theorem dX8_follow_21 : decode cX8_follow 21 = .ok (.iconst 0, 1) := by decide +kernel
theorem dX8_follow_22 : decode cX8_follow 22 = .ok (.istore_n 3, 1) := by decide +kernel
theorem dX8_follow_23 : decode cX8_follow 23 = .ok (.iload_n 3, 1) := by decide +kernel
theorem dX8_follow_24 : decode cX8_follow 24 = .ok (.aload_n 0, 1) := by decide +kernel
theorem dX8_follow_25 : decode cX8_follow 25 = .ok (.getfield 16, 3) := by decide +kernel
theorem dX8_follow_28 : decode cX8_follow 28 = .ok (.getfield 132, 3) := by decide +kernel
theorem dX8_follow_31 : decode cX8_follow 31 = .ok (.iload_n 2, 1) := by decide +kernel
theorem dX8_follow_32 : decode cX8_follow 32 = .ok (.iaload, 1) := by decide +kernel
theorem dX8_follow_33 : decode cX8_follow 33 = .ok (.if_icmp .ge 45, 3) := by decide +kernel
theorem dX8_follow_36 : decode cX8_follow 36 = .ok (.aload_n 0, 1) := by decide +kernel
theorem dX8_follow_37 : decode cX8_follow 37 = .ok (.getfield 29, 3) := by decide +kernel
theorem dX8_follow_40 : decode cX8_follow 40 = .ok (.iload_n 2, 1) := by decide +kernel
theorem dX8_follow_41 : decode cX8_follow 41 = .ok (.bipush 12, 2) := by decide +kernel
theorem dX8_follow_43 : decode cX8_follow 43 = .ok (.imul, 1) := by decide +kernel
theorem dX8_follow_44 : decode cX8_follow 44 = .ok (.iload_n 3, 1) := by decide +kernel
theorem dX8_follow_45 : decode cX8_follow 45 = .ok (.iadd, 1) := by decide +kernel
theorem dX8_follow_46 : decode cX8_follow 46 = .ok (.aload_n 0, 1) := by decide +kernel
theorem dX8_follow_47 : decode cX8_follow 47 = .ok (.getfield 40, 3) := by decide +kernel
theorem dX8_follow_50 : decode cX8_follow 50 = .ok (.aload_n 0, 1) := by decide +kernel
theorem dX8_follow_51 : decode cX8_follow 51 = .ok (.getfield 16, 3) := by decide +kernel
theorem dX8_follow_54 : decode cX8_follow 54 = .ok (.iload_n 2, 1) := by decide +kernel
theorem dX8_follow_55 : decode cX8_follow 55 = .ok (.iload_n 3, 1) := by decide +kernel
theorem dX8_follow_56 : decode cX8_follow 56 = .ok (.invokevirtual 135, 3) := by decide +kernel
theorem dX8_follow_59 : decode cX8_follow 59 = .ok (.aload_n 0, 1) := by decide +kernel
theorem dX8_follow_60 : decode cX8_follow 60 = .ok (.getfield 16, 3) := by decide +kernel
theorem dX8_follow_63 : decode cX8_follow 63 = .ok (.getfield 121, 3) := by decide +kernel
theorem dX8_follow_66 : decode cX8_follow 66 = .ok (.iload_n 2, 1) := by decide +kernel
theorem dX8_follow_67 : decode cX8_follow 67 = .ok (.iaload, 1) := by decide +kernel
theorem dX8_follow_68 : decode cX8_follow 68 = .ok (.invokevirtual 128, 3) := by decide +kernel
theorem dX8_follow_71 : decode cX8_follow 71 = .ok (.lastore, 1) := by decide +kernel
theorem dX8_follow_72 : decode cX8_follow 72 = .ok (.iinc 3 1, 3) := by decide +kernel
theorem dX8_follow_75 : decode cX8_follow 75 = .ok (.goto (-52), 3) := by decide +kernel
theorem dX8_follow_78 : decode cX8_follow 78 = .ok (.iinc 2 1, 3) := by decide +kernel
theorem dX8_follow_81 : decode cX8_follow 81 = .ok (.goto (-71), 3) := by decide +kernel
theorem dX8_follow_84 : decode cX8_follow 84 = .ok (.return_, 1) := by decide +kernel
theorem dX8_hasWordAfter_0 : decode cX8_hasWordAfter 0 = .ok (.iconst 0, 1) := by decide +kernel
theorem dX8_hasWordAfter_1 : decode cX8_hasWordAfter 1 = .ok (.istore 4, 2) := by decide +kernel
theorem dX8_hasWordAfter_3 : decode cX8_hasWordAfter 3 = .ok (.iload 4, 2) := by decide +kernel
theorem dX8_hasWordAfter_5 : decode cX8_hasWordAfter 5 = .ok (.lload_n 1, 1) := by decide +kernel
theorem dX8_hasWordAfter_6 : decode cX8_hasWordAfter 6 = .ok (.invokestatic 139, 3) := by decide +kernel
theorem dX8_hasWordAfter_9 : decode cX8_hasWordAfter 9 = .ok (.if_icmp .ge 26, 3) := by decide +kernel
theorem dX8_hasWordAfter_12 : decode cX8_hasWordAfter 12 = .ok (.aload_n 0, 1) := by decide +kernel
theorem dX8_hasWordAfter_13 : decode cX8_hasWordAfter 13 = .ok (.getfield 33, 3) := by decide +kernel
theorem dX8_hasWordAfter_16 : decode cX8_hasWordAfter 16 = .ok (.lload_n 1, 1) := by decide +kernel
theorem dX8_hasWordAfter_17 : decode cX8_hasWordAfter 17 = .ok (.iload 4, 2) := by decide +kernel
theorem dX8_hasWordAfter_19 : decode cX8_hasWordAfter 19 = .ok (.invokestatic 145, 3) := by decide +kernel
theorem dX8_hasWordAfter_22 : decode cX8_hasWordAfter 22 = .ok (.iaload, 1) := by decide +kernel
theorem dX8_hasWordAfter_23 : decode cX8_hasWordAfter 23 = .ok (.iload_n 3, 1) := by decide +kernel
theorem dX8_hasWordAfter_24 : decode cX8_hasWordAfter 24 = .ok (.if_icmp .le 5, 3) := by decide +kernel
theorem dX8_hasWordAfter_27 : decode cX8_hasWordAfter 27 = .ok (.iconst 1, 1) := by decide +kernel
theorem dX8_hasWordAfter_28 : decode cX8_hasWordAfter 28 = .ok (.ireturn, 1) := by decide +kernel
theorem dX8_hasWordAfter_29 : decode cX8_hasWordAfter 29 = .ok (.iinc 4 1, 3) := by decide +kernel
theorem dX8_hasWordAfter_32 : decode cX8_hasWordAfter 32 = .ok (.goto (-29), 3) := by decide +kernel
theorem dX8_hasWordAfter_35 : decode cX8_hasWordAfter 35 = .ok (.iconst 0, 1) := by decide +kernel
theorem dX8_hasWordAfter_36 : decode cX8_hasWordAfter 36 = .ok (.ireturn, 1) := by decide +kernel
theorem dX8_tellOn_0 : decode cX8_tellOn 0 = .ok (.aload_n 0, 1) := by decide +kernel
theorem dX8_tellOn_1 : decode cX8_tellOn 1 = .ok (.getfield 16, 3) := by decide +kernel
theorem dX8_tellOn_4 : decode cX8_tellOn 4 = .ok (.iload_n 1, 1) := by decide +kernel
theorem dX8_tellOn_5 : decode cX8_tellOn 5 = .ok (.invokevirtual 108, 3) := by decide +kernel
theorem dX8_tellOn_8 : decode cX8_tellOn 8 = .ok (.ifCond .ne 5, 3) := by decide +kernel
theorem dX8_tellOn_11 : decode cX8_tellOn 11 = .ok (.iconst 0, 1) := by decide +kernel
theorem dX8_tellOn_12 : decode cX8_tellOn 12 = .ok (.ireturn, 1) := by decide +kernel
theorem dX8_tellOn_13 : decode cX8_tellOn 13 = .ok (.iload_n 2, 1) := by decide +kernel
theorem dX8_tellOn_14 : decode cX8_tellOn 14 = .ok (.istore 4, 2) := by decide +kernel
theorem dX8_tellOn_16 : decode cX8_tellOn 16 = .ok (.iconst 0, 1) := by decide +kernel
theorem dX8_tellOn_17 : decode cX8_tellOn 17 = .ok (.istore 5, 2) := by decide +kernel
theorem dX8_tellOn_19 : decode cX8_tellOn 19 = .ok (.iconst 0, 1) := by decide +kernel
theorem dX8_tellOn_20 : decode cX8_tellOn 20 = .ok (.istore 6, 2) := by decide +kernel
theorem dX8_tellOn_22 : decode cX8_tellOn 22 = .ok (.iload 6, 2) := by decide +kernel
theorem dX8_tellOn_24 : decode cX8_tellOn 24 = .ok (.aload_n 0, 1) := by decide +kernel
theorem dX8_tellOn_25 : decode cX8_tellOn 25 = .ok (.getfield 16, 3) := by decide +kernel
theorem dX8_tellOn_28 : decode cX8_tellOn 28 = .ok (.getfield 132, 3) := by decide +kernel
theorem dX8_tellOn_31 : decode cX8_tellOn 31 = .ok (.iload_n 1, 1) := by decide +kernel
theorem dX8_tellOn_32 : decode cX8_tellOn 32 = .ok (.iaload, 1) := by decide +kernel
theorem dX8_tellOn_33 : decode cX8_tellOn 33 = .ok (.if_icmp .ge 112, 3) := by decide +kernel
theorem dX8_tellOn_36 : decode cX8_tellOn 36 = .ok (.iload 5, 2) := by decide +kernel
theorem dX8_tellOn_38 : decode cX8_tellOn 38 = .ok (.aload_n 3, 1) := by decide +kernel
theorem dX8_tellOn_39 : decode cX8_tellOn 39 = .ok (.arraylength, 1) := by decide +kernel
theorem dX8_tellOn_40 : decode cX8_tellOn 40 = .ok (.if_icmp .ge 105, 3) := by decide +kernel
theorem dX8_tellOn_43 : decode cX8_tellOn 43 = .ok (.iload 4, 2) := by decide +kernel
theorem dX8_tellOn_45 : decode cX8_tellOn 45 = .ok (.invokestatic 149, 3) := by decide +kernel
theorem dX8_tellOn_48 : decode cX8_tellOn 48 = .ok (.istore 4, 2) := by decide +kernel
theorem dX8_tellOn_50 : decode cX8_tellOn 50 = .ok (.iload 4, 2) := by decide +kernel
theorem dX8_tellOn_52 : decode cX8_tellOn 52 = .ok (.invokestatic 153, 3) := by decide +kernel
theorem dX8_tellOn_55 : decode cX8_tellOn 55 = .ok (.aload_n 0, 1) := by decide +kernel
theorem dX8_tellOn_56 : decode cX8_tellOn 56 = .ok (.getfield 47, 3) := by decide +kernel
theorem dX8_tellOn_59 : decode cX8_tellOn 59 = .ok (.getfield 156, 3) := by decide +kernel
theorem dX8_tellOn_62 : decode cX8_tellOn 62 = .ok (.if_icmp .ge 6, 3) := by decide +kernel
theorem dX8_tellOn_65 : decode cX8_tellOn 65 = .ok (.goto 74, 3) := by decide +kernel
theorem dX8_tellOn_68 : decode cX8_tellOn 68 = .ok (.aload_n 0, 1) := by decide +kernel
theorem dX8_tellOn_69 : decode cX8_tellOn 69 = .ok (.getfield 47, 3) := by decide +kernel
theorem dX8_tellOn_72 : decode cX8_tellOn 72 = .ok (.aload_n 0, 1) := by decide +kernel
theorem dX8_tellOn_73 : decode cX8_tellOn 73 = .ok (.getfield 16, 3) := by decide +kernel
theorem dX8_tellOn_76 : decode cX8_tellOn 76 = .ok (.iload_n 1, 1) := by decide +kernel
theorem dX8_tellOn_77 : decode cX8_tellOn 77 = .ok (.iload 6, 2) := by decide +kernel
theorem dX8_tellOn_79 : decode cX8_tellOn 79 = .ok (.invokevirtual 135, 3) := by decide +kernel
theorem dX8_tellOn_82 : decode cX8_tellOn 82 = .ok (.invokevirtual 159, 3) := by decide +kernel
theorem dX8_tellOn_85 : decode cX8_tellOn 85 = .ok (.lstore 7, 2) := by decide +kernel
theorem dX8_tellOn_87 : decode cX8_tellOn 87 = .ok (.iload 4, 2) := by decide +kernel
theorem dX8_tellOn_89 : decode cX8_tellOn 89 = .ok (.invokestatic 149, 3) := by decide +kernel
theorem dX8_tellOn_92 : decode cX8_tellOn 92 = .ok (.istore 4, 2) := by decide +kernel
theorem dX8_tellOn_94 : decode cX8_tellOn 94 = .ok (.aload_n 3, 1) := by decide +kernel
theorem dX8_tellOn_95 : decode cX8_tellOn 95 = .ok (.iload 5, 2) := by decide +kernel
theorem dX8_tellOn_97 : decode cX8_tellOn 97 = .ok (.iload 4, 2) := by decide +kernel
theorem dX8_tellOn_99 : decode cX8_tellOn 99 = .ok (.invokestatic 153, 3) := by decide +kernel
theorem dX8_tellOn_102 : decode cX8_tellOn 102 = .ok (.aload_n 0, 1) := by decide +kernel
theorem dX8_tellOn_103 : decode cX8_tellOn 103 = .ok (.getfield 47, 3) := by decide +kernel
theorem dX8_tellOn_106 : decode cX8_tellOn 106 = .ok (.getfield 163, 3) := by decide +kernel
theorem dX8_tellOn_109 : decode cX8_tellOn 109 = .ok (.if_icmp .ge 24, 3) := by decide +kernel
theorem dX8_tellOn_112 : decode cX8_tellOn 112 = .ok (.aload_n 0, 1) := by decide +kernel
theorem dX8_tellOn_113 : decode cX8_tellOn 113 = .ok (.getfield 40, 3) := by decide +kernel
theorem dX8_tellOn_116 : decode cX8_tellOn 116 = .ok (.lload 7, 2) := by decide +kernel
theorem dX8_tellOn_118 : decode cX8_tellOn 118 = .ok (.aload_n 0, 1) := by decide +kernel
theorem dX8_tellOn_119 : decode cX8_tellOn 119 = .ok (.getfield 16, 3) := by decide +kernel
theorem dX8_tellOn_122 : decode cX8_tellOn 122 = .ok (.getfield 121, 3) := by decide +kernel
theorem dX8_tellOn_125 : decode cX8_tellOn 125 = .ok (.iload_n 1, 1) := by decide +kernel
theorem dX8_tellOn_126 : decode cX8_tellOn 126 = .ok (.iaload, 1) := by decide +kernel
theorem dX8_tellOn_127 : decode cX8_tellOn 127 = .ok (.invokevirtual 128, 3) := by decide +kernel
theorem dX8_tellOn_130 : decode cX8_tellOn 130 = .ok (.goto 5, 3) := by decide +kernel
theorem dX8_tellOn_133 : decode cX8_tellOn 133 = .ok (.lload 7, 2) := by decide +kernel
theorem dX8_tellOn_135 : decode cX8_tellOn 135 = .ok (.lastore, 1) := by decide +kernel
theorem dX8_tellOn_136 : decode cX8_tellOn 136 = .ok (.iinc 5 1, 3) := by decide +kernel
theorem dX8_tellOn_139 : decode cX8_tellOn 139 = .ok (.iinc 6 1, 3) := by decide +kernel
theorem dX8_tellOn_142 : decode cX8_tellOn 142 = .ok (.goto (-120), 3) := by decide +kernel
theorem dX8_tellOn_145 : decode cX8_tellOn 145 = .ok (.aload_n 0, 1) := by decide +kernel
theorem dX8_tellOn_146 : decode cX8_tellOn 146 = .ok (.aload_n 3, 1) := by decide +kernel
theorem dX8_tellOn_147 : decode cX8_tellOn 147 = .ok (.iload 5, 2) := by decide +kernel
theorem dX8_tellOn_149 : decode cX8_tellOn 149 = .ok (.iload 4, 2) := by decide +kernel
theorem dX8_tellOn_151 : decode cX8_tellOn 151 = .ok (.invokevirtual 165, 3) := by decide +kernel
theorem dX8_tellOn_154 : decode cX8_tellOn 154 = .ok (.iload 5, 2) := by decide +kernel
theorem dX8_tellOn_156 : decode cX8_tellOn 156 = .ok (.ireturn, 1) := by decide +kernel
theorem dX8_moveAbout_0 : decode cX8_moveAbout 0 = .ok (.iload_n 3, 1) := by decide +kernel
theorem dX8_moveAbout_1 : decode cX8_moveAbout 1 = .ok (.istore 4, 2) := by decide +kernel
theorem dX8_moveAbout_3 : decode cX8_moveAbout 3 = .ok (.iconst 0, 1) := by decide +kernel
theorem dX8_moveAbout_4 : decode cX8_moveAbout 4 = .ok (.istore 5, 2) := by decide +kernel
theorem dX8_moveAbout_6 : decode cX8_moveAbout 6 = .ok (.iload 5, 2) := by decide +kernel
theorem dX8_moveAbout_8 : decode cX8_moveAbout 8 = .ok (.iconst 1, 1) := by decide +kernel
theorem dX8_moveAbout_9 : decode cX8_moveAbout 9 = .ok (.iadd, 1) := by decide +kernel
theorem dX8_moveAbout_10 : decode cX8_moveAbout 10 = .ok (.iload_n 2, 1) := by decide +kernel
theorem dX8_moveAbout_11 : decode cX8_moveAbout 11 = .ok (.if_icmp .ge 64, 3) := by decide +kernel
theorem dX8_moveAbout_14 : decode cX8_moveAbout 14 = .ok (.iload 5, 2) := by decide +kernel
theorem dX8_moveAbout_16 : decode cX8_moveAbout 16 = .ok (.iconst 1, 1) := by decide +kernel
theorem dX8_moveAbout_17 : decode cX8_moveAbout 17 = .ok (.iadd, 1) := by decide +kernel
theorem dX8_moveAbout_18 : decode cX8_moveAbout 18 = .ok (.aload_n 1, 1) := by decide +kernel
theorem dX8_moveAbout_19 : decode cX8_moveAbout 19 = .ok (.arraylength, 1) := by decide +kernel
theorem dX8_moveAbout_20 : decode cX8_moveAbout 20 = .ok (.if_icmp .ge 55, 3) := by decide +kernel
theorem dX8_moveAbout_23 : decode cX8_moveAbout 23 = .ok (.iload 4, 2) := by decide +kernel
theorem dX8_moveAbout_25 : decode cX8_moveAbout 25 = .ok (.invokestatic 149, 3) := by decide +kernel
theorem dX8_moveAbout_28 : decode cX8_moveAbout 28 = .ok (.istore 4, 2) := by decide +kernel
theorem dX8_moveAbout_30 : decode cX8_moveAbout 30 = .ok (.iload 4, 2) := by decide +kernel
theorem dX8_moveAbout_32 : decode cX8_moveAbout 32 = .ok (.invokestatic 153, 3) := by decide +kernel
theorem dX8_moveAbout_35 : decode cX8_moveAbout 35 = .ok (.aload_n 0, 1) := by decide +kernel
theorem dX8_moveAbout_36 : decode cX8_moveAbout 36 = .ok (.getfield 47, 3) := by decide +kernel
theorem dX8_moveAbout_39 : decode cX8_moveAbout 39 = .ok (.getfield 169, 3) := by decide +kernel
theorem dX8_moveAbout_42 : decode cX8_moveAbout 42 = .ok (.if_icmp .ge 27, 3) := by decide +kernel
theorem dX8_moveAbout_45 : decode cX8_moveAbout 45 = .ok (.aload_n 1, 1) := by decide +kernel
theorem dX8_moveAbout_46 : decode cX8_moveAbout 46 = .ok (.iload 5, 2) := by decide +kernel
theorem dX8_moveAbout_48 : decode cX8_moveAbout 48 = .ok (.laload, 1) := by decide +kernel
theorem dX8_moveAbout_49 : decode cX8_moveAbout 49 = .ok (.lstore 6, 2) := by decide +kernel
theorem dX8_moveAbout_51 : decode cX8_moveAbout 51 = .ok (.aload_n 1, 1) := by decide +kernel
theorem dX8_moveAbout_52 : decode cX8_moveAbout 52 = .ok (.iload 5, 2) := by decide +kernel
theorem dX8_moveAbout_54 : decode cX8_moveAbout 54 = .ok (.aload_n 1, 1) := by decide +kernel
theorem dX8_moveAbout_55 : decode cX8_moveAbout 55 = .ok (.iload 5, 2) := by decide +kernel
theorem dX8_moveAbout_57 : decode cX8_moveAbout 57 = .ok (.iconst 1, 1) := by decide +kernel
theorem dX8_moveAbout_58 : decode cX8_moveAbout 58 = .ok (.iadd, 1) := by decide +kernel
theorem dX8_moveAbout_59 : decode cX8_moveAbout 59 = .ok (.laload, 1) := by decide +kernel
theorem dX8_moveAbout_60 : decode cX8_moveAbout 60 = .ok (.lastore, 1) := by decide +kernel
theorem dX8_moveAbout_61 : decode cX8_moveAbout 61 = .ok (.aload_n 1, 1) := by decide +kernel
theorem dX8_moveAbout_62 : decode cX8_moveAbout 62 = .ok (.iload 5, 2) := by decide +kernel
theorem dX8_moveAbout_64 : decode cX8_moveAbout 64 = .ok (.iconst 1, 1) := by decide +kernel
theorem dX8_moveAbout_65 : decode cX8_moveAbout 65 = .ok (.iadd, 1) := by decide +kernel
theorem dX8_moveAbout_66 : decode cX8_moveAbout 66 = .ok (.lload 6, 2) := by decide +kernel
theorem dX8_moveAbout_68 : decode cX8_moveAbout 68 = .ok (.lastore, 1) := by decide +kernel
theorem dX8_moveAbout_69 : decode cX8_moveAbout 69 = .ok (.iinc 5 1, 3) := by decide +kernel
theorem dX8_moveAbout_72 : decode cX8_moveAbout 72 = .ok (.goto (-66), 3) := by decide +kernel
theorem dX8_moveAbout_75 : decode cX8_moveAbout 75 = .ok (.return_, 1) := by decide +kernel
theorem dX9_init_0 : decode cX9_init 0 = .ok (.aload_n 0, 1) := by decide +kernel
theorem dX9_init_1 : decode cX9_init 1 = .ok (.invokespecial 3, 3) := by decide +kernel
theorem dX9_init_4 : decode cX9_init 4 = .ok (.aload_n 0, 1) := by decide +kernel
theorem dX9_init_5 : decode cX9_init 5 = .ok (.bipush 20, 2) := by decide +kernel
theorem dX9_init_7 : decode cX9_init 7 = .ok (.newarray .int, 2) := by decide +kernel
theorem dX9_init_9 : decode cX9_init 9 = .ok (.putfield 11, 3) := by decide +kernel
theorem dX9_init_12 : decode cX9_init 12 = .ok (.aload_n 0, 1) := by decide +kernel
theorem dX9_init_13 : decode cX9_init 13 = .ok (.bipush 20, 2) := by decide +kernel
theorem dX9_init_15 : decode cX9_init 15 = .ok (.newarray .int, 2) := by decide +kernel
theorem dX9_init_17 : decode cX9_init 17 = .ok (.putfield 15, 3) := by decide +kernel
theorem dX9_init_20 : decode cX9_init 20 = .ok (.aload_n 0, 1) := by decide +kernel
theorem dX9_init_21 : decode cX9_init 21 = .ok (.bipush 40, 2) := by decide +kernel
theorem dX9_init_23 : decode cX9_init 23 = .ok (.newarray .int, 2) := by decide +kernel
theorem dX9_init_25 : decode cX9_init 25 = .ok (.putfield 18, 3) := by decide +kernel
theorem dX9_init_28 : decode cX9_init 28 = .ok (.aload_n 0, 1) := by decide +kernel
theorem dX9_init_29 : decode cX9_init 29 = .ok (.bipush 40, 2) := by decide +kernel
theorem dX9_init_31 : decode cX9_init 31 = .ok (.newarray .int, 2) := by decide +kernel
theorem dX9_init_33 : decode cX9_init 33 = .ok (.putfield 21, 3) := by decide +kernel
theorem dX9_init_36 : decode cX9_init 36 = .ok (.aload_n 0, 1) := by decide +kernel
theorem dX9_init_37 : decode cX9_init 37 = .ok (.bipush 8, 2) := by decide +kernel
theorem dX9_init_39 : decode cX9_init 39 = .ok (.newarray .int, 2) := by decide +kernel
theorem dX9_init_41 : decode cX9_init 41 = .ok (.putfield 24, 3) := by decide +kernel
theorem dX9_init_44 : decode cX9_init 44 = .ok (.aload_n 0, 1) := by decide +kernel
theorem dX9_init_45 : decode cX9_init 45 = .ok (.bipush 8, 2) := by decide +kernel
theorem dX9_init_47 : decode cX9_init 47 = .ok (.newarray .int, 2) := by decide +kernel
theorem dX9_init_49 : decode cX9_init 49 = .ok (.putfield 27, 3) := by decide +kernel
theorem dX9_init_52 : decode cX9_init 52 = .ok (.return_, 1) := by decide +kernel
theorem dX9_pay_0 : decode cX9_pay 0 = .ok (.aload_n 0, 1) := by decide +kernel
theorem dX9_pay_1 : decode cX9_pay 1 = .ok (.getfield 30, 3) := by decide +kernel
theorem dX9_pay_4 : decode cX9_pay 4 = .ok (.bipush 20, 2) := by decide +kernel
theorem dX9_pay_6 : decode cX9_pay 6 = .ok (.if_icmp .ge 33, 3) := by decide +kernel
theorem dX9_pay_9 : decode cX9_pay 9 = .ok (.aload_n 0, 1) := by decide +kernel
theorem dX9_pay_10 : decode cX9_pay 10 = .ok (.getfield 11, 3) := by decide +kernel
theorem dX9_pay_13 : decode cX9_pay 13 = .ok (.aload_n 0, 1) := by decide +kernel
theorem dX9_pay_14 : decode cX9_pay 14 = .ok (.getfield 30, 3) := by decide +kernel
theorem dX9_pay_17 : decode cX9_pay 17 = .ok (.iload_n 1, 1) := by decide +kernel
theorem dX9_pay_18 : decode cX9_pay 18 = .ok (.iastore, 1) := by decide +kernel
theorem dX9_pay_19 : decode cX9_pay 19 = .ok (.aload_n 0, 1) := by decide +kernel
theorem dX9_pay_20 : decode cX9_pay 20 = .ok (.getfield 15, 3) := by decide +kernel
theorem dX9_pay_23 : decode cX9_pay 23 = .ok (.aload_n 0, 1) := by decide +kernel
theorem dX9_pay_24 : decode cX9_pay 24 = .ok (.getfield 30, 3) := by decide +kernel
theorem dX9_pay_27 : decode cX9_pay 27 = .ok (.iload_n 2, 1) := by decide +kernel
theorem dX9_pay_28 : decode cX9_pay 28 = .ok (.iastore, 1) := by decide +kernel
theorem dX9_pay_29 : decode cX9_pay 29 = .ok (.aload_n 0, 1) := by decide +kernel
theorem dX9_pay_30 : decode cX9_pay 30 = .ok (.dup, 1) := by decide +kernel
theorem dX9_pay_31 : decode cX9_pay 31 = .ok (.getfield 30, 3) := by decide +kernel
theorem dX9_pay_34 : decode cX9_pay 34 = .ok (.iconst 1, 1) := by decide +kernel
theorem dX9_pay_35 : decode cX9_pay 35 = .ok (.iadd, 1) := by decide +kernel
theorem dX9_pay_36 : decode cX9_pay 36 = .ok (.putfield 30, 3) := by decide +kernel
theorem dX9_pay_39 : decode cX9_pay 39 = .ok (.aload_n 0, 1) := by decide +kernel
theorem dX9_pay_40 : decode cX9_pay 40 = .ok (.getfield 30, 3) := by decide +kernel
theorem dX9_pay_43 : decode cX9_pay 43 = .ok (.ireturn, 1) := by decide +kernel
theorem dX9_fill_0 : decode cX9_fill 0 = .ok (.aload_n 0, 1) := by decide +kernel
theorem dX9_fill_1 : decode cX9_fill 1 = .ok (.getfield 34, 3) := by decide +kernel
theorem dX9_fill_4 : decode cX9_fill 4 = .ok (.bipush 40, 2) := by decide +kernel
theorem dX9_fill_6 : decode cX9_fill 6 = .ok (.if_icmp .ge 33, 3) := by decide +kernel
theorem dX9_fill_9 : decode cX9_fill 9 = .ok (.aload_n 0, 1) := by decide +kernel
theorem dX9_fill_10 : decode cX9_fill 10 = .ok (.getfield 18, 3) := by decide +kernel
theorem dX9_fill_13 : decode cX9_fill 13 = .ok (.aload_n 0, 1) := by decide +kernel
theorem dX9_fill_14 : decode cX9_fill 14 = .ok (.getfield 34, 3) := by decide +kernel
theorem dX9_fill_17 : decode cX9_fill 17 = .ok (.iload_n 1, 1) := by decide +kernel
theorem dX9_fill_18 : decode cX9_fill 18 = .ok (.iastore, 1) := by decide +kernel
theorem dX9_fill_19 : decode cX9_fill 19 = .ok (.aload_n 0, 1) := by decide +kernel
theorem dX9_fill_20 : decode cX9_fill 20 = .ok (.getfield 21, 3) := by decide +kernel
theorem dX9_fill_23 : decode cX9_fill 23 = .ok (.aload_n 0, 1) := by decide +kernel
theorem dX9_fill_24 : decode cX9_fill 24 = .ok (.getfield 34, 3) := by decide +kernel
theorem dX9_fill_27 : decode cX9_fill 27 = .ok (.iload_n 2, 1) := by decide +kernel
theorem dX9_fill_28 : decode cX9_fill 28 = .ok (.iastore, 1) := by decide +kernel
theorem dX9_fill_29 : decode cX9_fill 29 = .ok (.aload_n 0, 1) := by decide +kernel
theorem dX9_fill_30 : decode cX9_fill 30 = .ok (.dup, 1) := by decide +kernel
theorem dX9_fill_31 : decode cX9_fill 31 = .ok (.getfield 34, 3) := by decide +kernel
theorem dX9_fill_34 : decode cX9_fill 34 = .ok (.iconst 1, 1) := by decide +kernel
theorem dX9_fill_35 : decode cX9_fill 35 = .ok (.iadd, 1) := by decide +kernel
theorem dX9_fill_36 : decode cX9_fill 36 = .ok (.putfield 34, 3) := by decide +kernel
theorem dX9_fill_39 : decode cX9_fill 39 = .ok (.aload_n 0, 1) := by decide +kernel
theorem dX9_fill_40 : decode cX9_fill 40 = .ok (.getfield 34, 3) := by decide +kernel
theorem dX9_fill_43 : decode cX9_fill 43 = .ok (.ireturn, 1) := by decide +kernel
theorem dX9_leave_0 : decode cX9_leave 0 = .ok (.aload_n 0, 1) := by decide +kernel
theorem dX9_leave_1 : decode cX9_leave 1 = .ok (.getfield 37, 3) := by decide +kernel
theorem dX9_leave_4 : decode cX9_leave 4 = .ok (.bipush 8, 2) := by decide +kernel
theorem dX9_leave_6 : decode cX9_leave 6 = .ok (.if_icmp .ge 33, 3) := by decide +kernel
theorem dX9_leave_9 : decode cX9_leave 9 = .ok (.aload_n 0, 1) := by decide +kernel
theorem dX9_leave_10 : decode cX9_leave 10 = .ok (.getfield 24, 3) := by decide +kernel
theorem dX9_leave_13 : decode cX9_leave 13 = .ok (.aload_n 0, 1) := by decide +kernel
theorem dX9_leave_14 : decode cX9_leave 14 = .ok (.getfield 37, 3) := by decide +kernel
theorem dX9_leave_17 : decode cX9_leave 17 = .ok (.iload_n 1, 1) := by decide +kernel
theorem dX9_leave_18 : decode cX9_leave 18 = .ok (.iastore, 1) := by decide +kernel
theorem dX9_leave_19 : decode cX9_leave 19 = .ok (.aload_n 0, 1) := by decide +kernel
theorem dX9_leave_20 : decode cX9_leave 20 = .ok (.getfield 27, 3) := by decide +kernel
theorem dX9_leave_23 : decode cX9_leave 23 = .ok (.aload_n 0, 1) := by decide +kernel
theorem dX9_leave_24 : decode cX9_leave 24 = .ok (.getfield 37, 3) := by decide +kernel
theorem dX9_leave_27 : decode cX9_leave 27 = .ok (.iload_n 2, 1) := by decide +kernel
theorem dX9_leave_28 : decode cX9_leave 28 = .ok (.iastore, 1) := by decide +kernel
theorem dX9_leave_29 : decode cX9_leave 29 = .ok (.aload_n 0, 1) := by decide +kernel
theorem dX9_leave_30 : decode cX9_leave 30 = .ok (.dup, 1) := by decide +kernel
theorem dX9_leave_31 : decode cX9_leave 31 = .ok (.getfield 37, 3) := by decide +kernel
theorem dX9_leave_34 : decode cX9_leave 34 = .ok (.iconst 1, 1) := by decide +kernel
theorem dX9_leave_35 : decode cX9_leave 35 = .ok (.iadd, 1) := by decide +kernel
theorem dX9_leave_36 : decode cX9_leave 36 = .ok (.putfield 37, 3) := by decide +kernel
theorem dX9_leave_39 : decode cX9_leave 39 = .ok (.aload_n 0, 1) := by decide +kernel
theorem dX9_leave_40 : decode cX9_leave 40 = .ok (.getfield 37, 3) := by decide +kernel
theorem dX9_leave_43 : decode cX9_leave 43 = .ok (.ireturn, 1) := by decide +kernel
theorem dX9_allPaid_0 : decode cX9_allPaid 0 = .ok (.iconst 0, 1) := by decide +kernel
theorem dX9_allPaid_1 : decode cX9_allPaid 1 = .ok (.istore_n 1, 1) := by decide +kernel
theorem dX9_allPaid_2 : decode cX9_allPaid 2 = .ok (.iconst 0, 1) := by decide +kernel
theorem dX9_allPaid_3 : decode cX9_allPaid 3 = .ok (.istore_n 2, 1) := by decide +kernel
theorem dX9_allPaid_4 : decode cX9_allPaid 4 = .ok (.iload_n 2, 1) := by decide +kernel
theorem dX9_allPaid_5 : decode cX9_allPaid 5 = .ok (.aload_n 0, 1) := by decide +kernel
theorem dX9_allPaid_6 : decode cX9_allPaid 6 = .ok (.getfield 30, 3) := by decide +kernel
theorem dX9_allPaid_9 : decode cX9_allPaid 9 = .ok (.if_icmp .ge 18, 3) := by decide +kernel
theorem dX9_allPaid_12 : decode cX9_allPaid 12 = .ok (.iload_n 1, 1) := by decide +kernel
theorem dX9_allPaid_13 : decode cX9_allPaid 13 = .ok (.aload_n 0, 1) := by decide +kernel
theorem dX9_allPaid_14 : decode cX9_allPaid 14 = .ok (.getfield 15, 3) := by decide +kernel
theorem dX9_allPaid_17 : decode cX9_allPaid 17 = .ok (.iload_n 2, 1) := by decide +kernel
theorem dX9_allPaid_18 : decode cX9_allPaid 18 = .ok (.iaload, 1) := by decide +kernel
theorem dX9_allPaid_19 : decode cX9_allPaid 19 = .ok (.iadd, 1) := by decide +kernel
theorem dX9_allPaid_20 : decode cX9_allPaid 20 = .ok (.istore_n 1, 1) := by decide +kernel
theorem dX9_allPaid_21 : decode cX9_allPaid 21 = .ok (.iinc 2 1, 3) := by decide +kernel
theorem dX9_allPaid_24 : decode cX9_allPaid 24 = .ok (.goto (-20), 3) := by decide +kernel
theorem dX9_allPaid_27 : decode cX9_allPaid 27 = .ok (.iload_n 1, 1) := by decide +kernel
theorem dX9_allPaid_28 : decode cX9_allPaid 28 = .ok (.ireturn, 1) := by decide +kernel
theorem dX9_moreBy_0 : decode cX9_moreBy 0 = .ok (.iconst 0, 1) := by decide +kernel
theorem dX9_moreBy_1 : decode cX9_moreBy 1 = .ok (.istore_n 2, 1) := by decide +kernel
theorem dX9_moreBy_2 : decode cX9_moreBy 2 = .ok (.iconst 0, 1) := by decide +kernel
theorem dX9_moreBy_3 : decode cX9_moreBy 3 = .ok (.istore_n 3, 1) := by decide +kernel
theorem dX9_moreBy_4 : decode cX9_moreBy 4 = .ok (.iload_n 3, 1) := by decide +kernel
theorem dX9_moreBy_5 : decode cX9_moreBy 5 = .ok (.aload_n 0, 1) := by decide +kernel
theorem dX9_moreBy_6 : decode cX9_moreBy 6 = .ok (.getfield 30, 3) := by decide +kernel
theorem dX9_moreBy_9 : decode cX9_moreBy 9 = .ok (.if_icmp .ge 45, 3) := by decide +kernel
theorem dX9_moreBy_12 : decode cX9_moreBy 12 = .ok (.aload_n 0, 1) := by decide +kernel
theorem dX9_moreBy_13 : decode cX9_moreBy 13 = .ok (.getfield 11, 3) := by decide +kernel
theorem dX9_moreBy_16 : decode cX9_moreBy 16 = .ok (.iload_n 3, 1) := by decide +kernel
theorem dX9_moreBy_17 : decode cX9_moreBy 17 = .ok (.iaload, 1) := by decide +kernel
theorem dX9_moreBy_18 : decode cX9_moreBy 18 = .ok (.istore 4, 2) := by decide +kernel
theorem dX9_moreBy_20 : decode cX9_moreBy 20 = .ok (.iload_n 2, 1) := by decide +kernel
theorem dX9_moreBy_21 : decode cX9_moreBy 21 = .ok (.aload_n 0, 1) := by decide +kernel
theorem dX9_moreBy_22 : decode cX9_moreBy 22 = .ok (.iload 4, 2) := by decide +kernel
theorem dX9_moreBy_24 : decode cX9_moreBy 24 = .ok (.iconst 1, 1) := by decide +kernel
theorem dX9_moreBy_25 : decode cX9_moreBy 25 = .ok (.iadd, 1) := by decide +kernel
theorem dX9_moreBy_26 : decode cX9_moreBy 26 = .ok (.iload 4, 2) := by decide +kernel
theorem dX9_moreBy_28 : decode cX9_moreBy 28 = .ok (.iload_n 1, 1) := by decide +kernel
theorem dX9_moreBy_29 : decode cX9_moreBy 29 = .ok (.iadd, 1) := by decide +kernel
theorem dX9_moreBy_30 : decode cX9_moreBy 30 = .ok (.invokevirtual 40, 3) := by decide +kernel
theorem dX9_moreBy_33 : decode cX9_moreBy 33 = .ok (.aload_n 0, 1) := by decide +kernel
theorem dX9_moreBy_34 : decode cX9_moreBy 34 = .ok (.iload 4, 2) := by decide +kernel
theorem dX9_moreBy_36 : decode cX9_moreBy 36 = .ok (.iload_n 1, 1) := by decide +kernel
theorem dX9_moreBy_37 : decode cX9_moreBy 37 = .ok (.isub, 1) := by decide +kernel
theorem dX9_moreBy_38 : decode cX9_moreBy 38 = .ok (.iload 4, 2) := by decide +kernel
theorem dX9_moreBy_40 : decode cX9_moreBy 40 = .ok (.iconst 1, 1) := by decide +kernel
theorem dX9_moreBy_41 : decode cX9_moreBy 41 = .ok (.isub, 1) := by decide +kernel
theorem dX9_moreBy_42 : decode cX9_moreBy 42 = .ok (.invokevirtual 40, 3) := by decide +kernel
theorem dX9_moreBy_45 : decode cX9_moreBy 45 = .ok (.isub, 1) := by decide +kernel
theorem dX9_moreBy_46 : decode cX9_moreBy 46 = .ok (.iadd, 1) := by decide +kernel
theorem dX9_moreBy_47 : decode cX9_moreBy 47 = .ok (.istore_n 2, 1) := by decide +kernel
theorem dX9_moreBy_48 : decode cX9_moreBy 48 = .ok (.iinc 3 1, 3) := by decide +kernel
theorem dX9_moreBy_51 : decode cX9_moreBy 51 = .ok (.goto (-47), 3) := by decide +kernel
theorem dX9_moreBy_54 : decode cX9_moreBy 54 = .ok (.iload_n 2, 1) := by decide +kernel
theorem dX9_moreBy_55 : decode cX9_moreBy 55 = .ok (.ireturn, 1) := by decide +kernel
theorem dX9_pagesOf_0 : decode cX9_pagesOf 0 = .ok (.iconst 0, 1) := by decide +kernel
theorem dX9_pagesOf_1 : decode cX9_pagesOf 1 = .ok (.istore_n 3, 1) := by decide +kernel
theorem dX9_pagesOf_2 : decode cX9_pagesOf 2 = .ok (.iconst 0, 1) := by decide +kernel
theorem dX9_pagesOf_3 : decode cX9_pagesOf 3 = .ok (.istore 4, 2) := by decide +kernel
theorem dX9_pagesOf_5 : decode cX9_pagesOf 5 = .ok (.iload 4, 2) := by decide +kernel
theorem dX9_pagesOf_7 : decode cX9_pagesOf 7 = .ok (.aload_n 0, 1) := by decide +kernel
theorem dX9_pagesOf_8 : decode cX9_pagesOf 8 = .ok (.getfield 34, 3) := by decide +kernel
theorem dX9_pagesOf_11 : decode cX9_pagesOf 11 = .ok (.if_icmp .ge 41, 3) := by decide +kernel
theorem dX9_pagesOf_14 : decode cX9_pagesOf 14 = .ok (.aload_n 0, 1) := by decide +kernel
theorem dX9_pagesOf_15 : decode cX9_pagesOf 15 = .ok (.getfield 18, 3) := by decide +kernel
theorem dX9_pagesOf_18 : decode cX9_pagesOf 18 = .ok (.iload 4, 2) := by decide +kernel
theorem dX9_pagesOf_20 : decode cX9_pagesOf 20 = .ok (.iaload, 1) := by decide +kernel
theorem dX9_pagesOf_21 : decode cX9_pagesOf 21 = .ok (.iload_n 1, 1) := by decide +kernel
theorem dX9_pagesOf_22 : decode cX9_pagesOf 22 = .ok (.if_icmp .lt 24, 3) := by decide +kernel
theorem dX9_pagesOf_25 : decode cX9_pagesOf 25 = .ok (.aload_n 0, 1) := by decide +kernel
theorem dX9_pagesOf_26 : decode cX9_pagesOf 26 = .ok (.getfield 18, 3) := by decide +kernel
theorem dX9_pagesOf_29 : decode cX9_pagesOf 29 = .ok (.iload 4, 2) := by decide +kernel
theorem dX9_pagesOf_31 : decode cX9_pagesOf 31 = .ok (.iaload, 1) := by decide +kernel
theorem dX9_pagesOf_32 : decode cX9_pagesOf 32 = .ok (.iload_n 2, 1) := by decide +kernel
theorem dX9_pagesOf_33 : decode cX9_pagesOf 33 = .ok (.if_icmp .gt 13, 3) := by decide +kernel
theorem dX9_pagesOf_36 : decode cX9_pagesOf 36 = .ok (.iload_n 3, 1) := by decide +kernel
theorem dX9_pagesOf_37 : decode cX9_pagesOf 37 = .ok (.aload_n 0, 1) := by decide +kernel
theorem dX9_pagesOf_38 : decode cX9_pagesOf 38 = .ok (.getfield 21, 3) := by decide +kernel
theorem dX9_pagesOf_41 : decode cX9_pagesOf 41 = .ok (.iload 4, 2) := by decide +kernel
theorem dX9_pagesOf_43 : decode cX9_pagesOf 43 = .ok (.iaload, 1) := by decide +kernel
theorem dX9_pagesOf_44 : decode cX9_pagesOf 44 = .ok (.iadd, 1) := by decide +kernel
theorem dX9_pagesOf_45 : decode cX9_pagesOf 45 = .ok (.istore_n 3, 1) := by decide +kernel
theorem dX9_pagesOf_46 : decode cX9_pagesOf 46 = .ok (.iinc 4 1, 3) := by decide +kernel
theorem dX9_pagesOf_49 : decode cX9_pagesOf 49 = .ok (.goto (-44), 3) := by decide +kernel
theorem dX9_pagesOf_52 : decode cX9_pagesOf 52 = .ok (.iload_n 3, 1) := by decide +kernel
theorem dX9_pagesOf_53 : decode cX9_pagesOf 53 = .ok (.ireturn, 1) := by decide +kernel
theorem dX9_leastRate_0 : decode cX9_leastRate 0 = .ok (.iconst 1, 1) := by decide +kernel
theorem dX9_leastRate_1 : decode cX9_leastRate 1 = .ok (.istore_n 1, 1) := by decide +kernel
theorem dX9_leastRate_2 : decode cX9_leastRate 2 = .ok (.iconst 0, 1) := by decide +kernel
theorem dX9_leastRate_3 : decode cX9_leastRate 3 = .ok (.istore_n 2, 1) := by decide +kernel
theorem dX9_leastRate_4 : decode cX9_leastRate 4 = .ok (.iload_n 2, 1) := by decide +kernel
theorem dX9_leastRate_5 : decode cX9_leastRate 5 = .ok (.aload_n 0, 1) := by decide +kernel
theorem dX9_leastRate_6 : decode cX9_leastRate 6 = .ok (.getfield 34, 3) := by decide +kernel
theorem dX9_leastRate_9 : decode cX9_leastRate 9 = .ok (.if_icmp .ge 52, 3) := by decide +kernel
theorem dX9_leastRate_12 : decode cX9_leastRate 12 = .ok (.aload_n 0, 1) := by decide +kernel
theorem dX9_leastRate_13 : decode cX9_leastRate 13 = .ok (.aload_n 0, 1) := by decide +kernel
theorem dX9_leastRate_14 : decode cX9_leastRate 14 = .ok (.getfield 18, 3) := by decide +kernel
theorem dX9_leastRate_17 : decode cX9_leastRate 17 = .ok (.iload_n 2, 1) := by decide +kernel
theorem dX9_leastRate_18 : decode cX9_leastRate 18 = .ok (.iaload, 1) := by decide +kernel
theorem dX9_leastRate_19 : decode cX9_leastRate 19 = .ok (.invokevirtual 44, 3) := by decide +kernel
theorem dX9_leastRate_22 : decode cX9_leastRate 22 = .ok (.istore_n 3, 1) := by decide +kernel
theorem dX9_leastRate_23 : decode cX9_leastRate 23 = .ok (.iload_n 3, 1) := by decide +kernel
theorem dX9_leastRate_24 : decode cX9_leastRate 24 = .ok (.ifCond .ne 5, 3) := by decide +kernel
theorem dX9_leastRate_27 : decode cX9_leastRate 27 = .ok (.iconst (-1), 1) := by decide +kernel
theorem dX9_leastRate_28 : decode cX9_leastRate 28 = .ok (.ireturn, 1) := by decide +kernel
theorem dX9_leastRate_29 : decode cX9_leastRate 29 = .ok (.aload_n 0, 1) := by decide +kernel
theorem dX9_leastRate_30 : decode cX9_leastRate 30 = .ok (.iconst 0, 1) := by decide +kernel
theorem dX9_leastRate_31 : decode cX9_leastRate 31 = .ok (.aload_n 0, 1) := by decide +kernel
theorem dX9_leastRate_32 : decode cX9_leastRate 32 = .ok (.getfield 18, 3) := by decide +kernel
theorem dX9_leastRate_35 : decode cX9_leastRate 35 = .ok (.iload_n 2, 1) := by decide +kernel
theorem dX9_leastRate_36 : decode cX9_leastRate 36 = .ok (.iaload, 1) := by decide +kernel
theorem dX9_leastRate_37 : decode cX9_leastRate 37 = .ok (.invokevirtual 40, 3) := by decide +kernel
theorem dX9_leastRate_40 : decode cX9_leastRate 40 = .ok (.istore 4, 2) := by decide +kernel
theorem dX9_leastRate_42 : decode cX9_leastRate 42 = .ok (.iload_n 1, 1) := by decide +kernel
theorem dX9_leastRate_43 : decode cX9_leastRate 43 = .ok (.iload 4, 2) := by decide +kernel
theorem dX9_leastRate_45 : decode cX9_leastRate 45 = .ok (.iload_n 3, 1) := by decide +kernel
theorem dX9_leastRate_46 : decode cX9_leastRate 46 = .ok (.iadd, 1) := by decide +kernel
theorem dX9_leastRate_47 : decode cX9_leastRate 47 = .ok (.iconst 1, 1) := by decide +kernel
theorem dX9_leastRate_48 : decode cX9_leastRate 48 = .ok (.isub, 1) := by decide +kernel
theorem dX9_leastRate_49 : decode cX9_leastRate 49 = .ok (.iload_n 3, 1) := by decide +kernel
theorem dX9_leastRate_50 : decode cX9_leastRate 50 = .ok (.idiv, 1) := by decide +kernel
theorem dX9_leastRate_51 : decode cX9_leastRate 51 = .ok (.invokestatic 48, 3) := by decide +kernel
theorem dX9_leastRate_54 : decode cX9_leastRate 54 = .ok (.istore_n 1, 1) := by decide +kernel
theorem dX9_leastRate_55 : decode cX9_leastRate 55 = .ok (.iinc 2 1, 3) := by decide +kernel
theorem dX9_leastRate_58 : decode cX9_leastRate 58 = .ok (.goto (-54), 3) := by decide +kernel
theorem dX9_leastRate_61 : decode cX9_leastRate 61 = .ok (.iload_n 1, 1) := by decide +kernel
theorem dX9_leastRate_62 : decode cX9_leastRate 62 = .ok (.bipush 99, 2) := by decide +kernel
theorem dX9_leastRate_64 : decode cX9_leastRate 64 = .ok (.if_icmp .le 7, 3) := by decide +kernel
theorem dX9_leastRate_67 : decode cX9_leastRate 67 = .ok (.iconst (-1), 1) := by decide +kernel
theorem dX9_leastRate_68 : decode cX9_leastRate 68 = .ok (.goto 4, 3) := by decide +kernel
theorem dX9_leastRate_71 : decode cX9_leastRate 71 = .ok (.iload_n 1, 1) := by decide +kernel
theorem dX9_leastRate_72 : decode cX9_leastRate 72 = .ok (.ireturn, 1) := by decide +kernel
theorem dX9_freeUpTo_0 : decode cX9_freeUpTo 0 = .ok (.iconst 0, 1) := by decide +kernel
theorem dX9_freeUpTo_1 : decode cX9_freeUpTo 1 = .ok (.istore_n 2, 1) := by decide +kernel
theorem dX9_freeUpTo_2 : decode cX9_freeUpTo 2 = .ok (.iconst 0, 1) := by decide +kernel
theorem dX9_freeUpTo_3 : decode cX9_freeUpTo 3 = .ok (.istore_n 3, 1) := by decide +kernel
theorem dX9_freeUpTo_4 : decode cX9_freeUpTo 4 = .ok (.iconst 0, 1) := by decide +kernel
theorem dX9_freeUpTo_5 : decode cX9_freeUpTo 5 = .ok (.istore 4, 2) := by decide +kernel
theorem dX9_freeUpTo_7 : decode cX9_freeUpTo 7 = .ok (.iload 4, 2) := by decide +kernel
theorem dX9_freeUpTo_9 : decode cX9_freeUpTo 9 = .ok (.aload_n 0, 1) := by decide +kernel
theorem dX9_freeUpTo_10 : decode cX9_freeUpTo 10 = .ok (.getfield 37, 3) := by decide +kernel
theorem dX9_freeUpTo_13 : decode cX9_freeUpTo 13 = .ok (.if_icmp .ge 74, 3) := by decide +kernel
theorem dX9_freeUpTo_16 : decode cX9_freeUpTo 16 = .ok (.aload_n 0, 1) := by decide +kernel
theorem dX9_freeUpTo_17 : decode cX9_freeUpTo 17 = .ok (.iload_n 3, 1) := by decide +kernel
theorem dX9_freeUpTo_18 : decode cX9_freeUpTo 18 = .ok (.invokevirtual 53, 3) := by decide +kernel
theorem dX9_freeUpTo_21 : decode cX9_freeUpTo 21 = .ok (.istore 5, 2) := by decide +kernel
theorem dX9_freeUpTo_23 : decode cX9_freeUpTo 23 = .ok (.iload 5, 2) := by decide +kernel
theorem dX9_freeUpTo_25 : decode cX9_freeUpTo 25 = .ok (.iconst (-1), 1) := by decide +kernel
theorem dX9_freeUpTo_26 : decode cX9_freeUpTo 26 = .ok (.if_icmp .ne 5, 3) := by decide +kernel
theorem dX9_freeUpTo_29 : decode cX9_freeUpTo 29 = .ok (.iload_n 2, 1) := by decide +kernel
theorem dX9_freeUpTo_30 : decode cX9_freeUpTo 30 = .ok (.ireturn, 1) := by decide +kernel
theorem dX9_freeUpTo_31 : decode cX9_freeUpTo 31 = .ok (.iload_n 3, 1) := by decide +kernel
theorem dX9_freeUpTo_32 : decode cX9_freeUpTo 32 = .ok (.aload_n 0, 1) := by decide +kernel
theorem dX9_freeUpTo_33 : decode cX9_freeUpTo 33 = .ok (.getfield 24, 3) := by decide +kernel
theorem dX9_freeUpTo_36 : decode cX9_freeUpTo 36 = .ok (.iload 5, 2) := by decide +kernel
theorem dX9_freeUpTo_38 : decode cX9_freeUpTo 38 = .ok (.iaload, 1) := by decide +kernel
theorem dX9_freeUpTo_39 : decode cX9_freeUpTo 39 = .ok (.invokestatic 48, 3) := by decide +kernel
theorem dX9_freeUpTo_42 : decode cX9_freeUpTo 42 = .ok (.istore 6, 2) := by decide +kernel
theorem dX9_freeUpTo_44 : decode cX9_freeUpTo 44 = .ok (.iload_n 1, 1) := by decide +kernel
theorem dX9_freeUpTo_45 : decode cX9_freeUpTo 45 = .ok (.aload_n 0, 1) := by decide +kernel
theorem dX9_freeUpTo_46 : decode cX9_freeUpTo 46 = .ok (.getfield 27, 3) := by decide +kernel
theorem dX9_freeUpTo_49 : decode cX9_freeUpTo 49 = .ok (.iload 5, 2) := by decide +kernel
theorem dX9_freeUpTo_51 : decode cX9_freeUpTo 51 = .ok (.iaload, 1) := by decide +kernel
theorem dX9_freeUpTo_52 : decode cX9_freeUpTo 52 = .ok (.invokestatic 56, 3) := by decide +kernel
theorem dX9_freeUpTo_55 : decode cX9_freeUpTo 55 = .ok (.istore 7, 2) := by decide +kernel
theorem dX9_freeUpTo_57 : decode cX9_freeUpTo 57 = .ok (.iload_n 2, 1) := by decide +kernel
theorem dX9_freeUpTo_58 : decode cX9_freeUpTo 58 = .ok (.iconst 0, 1) := by decide +kernel
theorem dX9_freeUpTo_59 : decode cX9_freeUpTo 59 = .ok (.iload 7, 2) := by decide +kernel
theorem dX9_freeUpTo_61 : decode cX9_freeUpTo 61 = .ok (.iload 6, 2) := by decide +kernel
theorem dX9_freeUpTo_63 : decode cX9_freeUpTo 63 = .ok (.isub, 1) := by decide +kernel
theorem dX9_freeUpTo_64 : decode cX9_freeUpTo 64 = .ok (.iconst 1, 1) := by decide +kernel
theorem dX9_freeUpTo_65 : decode cX9_freeUpTo 65 = .ok (.iadd, 1) := by decide +kernel
theorem dX9_freeUpTo_66 : decode cX9_freeUpTo 66 = .ok (.invokestatic 48, 3) := by decide +kernel
theorem dX9_freeUpTo_69 : decode cX9_freeUpTo 69 = .ok (.iadd, 1) := by decide +kernel
theorem dX9_freeUpTo_70 : decode cX9_freeUpTo 70 = .ok (.istore_n 2, 1) := by decide +kernel
theorem dX9_freeUpTo_71 : decode cX9_freeUpTo 71 = .ok (.aload_n 0, 1) := by decide +kernel
theorem dX9_freeUpTo_72 : decode cX9_freeUpTo 72 = .ok (.getfield 27, 3) := by decide +kernel
theorem dX9_freeUpTo_75 : decode cX9_freeUpTo 75 = .ok (.iload 5, 2) := by decide +kernel
theorem dX9_freeUpTo_77 : decode cX9_freeUpTo 77 = .ok (.iaload, 1) := by decide +kernel
theorem dX9_freeUpTo_78 : decode cX9_freeUpTo 78 = .ok (.iconst 1, 1) := by decide +kernel
theorem dX9_freeUpTo_79 : decode cX9_freeUpTo 79 = .ok (.iadd, 1) := by decide +kernel
theorem dX9_freeUpTo_80 : decode cX9_freeUpTo 80 = .ok (.istore_n 3, 1) := by decide +kernel
theorem dX9_freeUpTo_81 : decode cX9_freeUpTo 81 = .ok (.iinc 4 1, 3) := by decide +kernel
theorem dX9_freeUpTo_84 : decode cX9_freeUpTo 84 = .ok (.goto (-77), 3) := by decide +kernel
theorem dX9_freeUpTo_87 : decode cX9_freeUpTo 87 = .ok (.iload_n 2, 1) := by decide +kernel
theorem dX9_freeUpTo_88 : decode cX9_freeUpTo 88 = .ok (.ireturn, 1) := by decide +kernel
theorem dX9_firstSpanEndingFrom_0 : decode cX9_firstSpanEndingFrom 0 = .ok (.iconst (-1), 1) := by decide +kernel
theorem dX9_firstSpanEndingFrom_1 : decode cX9_firstSpanEndingFrom 1 = .ok (.istore_n 2, 1) := by decide +kernel
theorem dX9_firstSpanEndingFrom_2 : decode cX9_firstSpanEndingFrom 2 = .ok (.iconst 0, 1) := by decide +kernel
theorem dX9_firstSpanEndingFrom_3 : decode cX9_firstSpanEndingFrom 3 = .ok (.istore_n 3, 1) := by decide +kernel
theorem dX9_firstSpanEndingFrom_4 : decode cX9_firstSpanEndingFrom 4 = .ok (.iload_n 3, 1) := by decide +kernel
theorem dX9_firstSpanEndingFrom_5 : decode cX9_firstSpanEndingFrom 5 = .ok (.aload_n 0, 1) := by decide +kernel
theorem dX9_firstSpanEndingFrom_6 : decode cX9_firstSpanEndingFrom 6 = .ok (.getfield 37, 3) := by decide +kernel
theorem dX9_firstSpanEndingFrom_9 : decode cX9_firstSpanEndingFrom 9 = .ok (.if_icmp .ge 41, 3) := by decide +kernel
theorem dX9_firstSpanEndingFrom_12 : decode cX9_firstSpanEndingFrom 12 = .ok (.aload_n 0, 1) := by decide +kernel
theorem dX9_firstSpanEndingFrom_13 : decode cX9_firstSpanEndingFrom 13 = .ok (.getfield 27, 3) := by decide +kernel
theorem dX9_firstSpanEndingFrom_16 : decode cX9_firstSpanEndingFrom 16 = .ok (.iload_n 3, 1) := by decide +kernel
theorem dX9_firstSpanEndingFrom_17 : decode cX9_firstSpanEndingFrom 17 = .ok (.iaload, 1) := by decide +kernel
theorem dX9_firstSpanEndingFrom_18 : decode cX9_firstSpanEndingFrom 18 = .ok (.iload_n 1, 1) := by decide +kernel
theorem dX9_firstSpanEndingFrom_19 : decode cX9_firstSpanEndingFrom 19 = .ok (.if_icmp .lt 25, 3) := by decide +kernel
theorem dX9_firstSpanEndingFrom_22 : decode cX9_firstSpanEndingFrom 22 = .ok (.iload_n 2, 1) := by decide +kernel
theorem dX9_firstSpanEndingFrom_23 : decode cX9_firstSpanEndingFrom 23 = .ok (.iconst (-1), 1) := by decide +kernel
theorem dX9_firstSpanEndingFrom_24 : decode cX9_firstSpanEndingFrom 24 = .ok (.if_icmp .eq 18, 3) := by decide +kernel
theorem dX9_firstSpanEndingFrom_27 : decode cX9_firstSpanEndingFrom 27 = .ok (.aload_n 0, 1) := by decide +kernel
theorem dX9_firstSpanEndingFrom_28 : decode cX9_firstSpanEndingFrom 28 = .ok (.getfield 24, 3) := by decide +kernel
theorem dX9_firstSpanEndingFrom_31 : decode cX9_firstSpanEndingFrom 31 = .ok (.iload_n 3, 1) := by decide +kernel
theorem dX9_firstSpanEndingFrom_32 : decode cX9_firstSpanEndingFrom 32 = .ok (.iaload, 1) := by decide +kernel
theorem dX9_firstSpanEndingFrom_33 : decode cX9_firstSpanEndingFrom 33 = .ok (.aload_n 0, 1) := by decide +kernel
theorem dX9_firstSpanEndingFrom_34 : decode cX9_firstSpanEndingFrom 34 = .ok (.getfield 24, 3) := by decide +kernel
theorem dX9_firstSpanEndingFrom_37 : decode cX9_firstSpanEndingFrom 37 = .ok (.iload_n 2, 1) := by decide +kernel
theorem dX9_firstSpanEndingFrom_38 : decode cX9_firstSpanEndingFrom 38 = .ok (.iaload, 1) := by decide +kernel
theorem dX9_firstSpanEndingFrom_39 : decode cX9_firstSpanEndingFrom 39 = .ok (.if_icmp .ge 5, 3) := by decide +kernel
theorem dX9_firstSpanEndingFrom_42 : decode cX9_firstSpanEndingFrom 42 = .ok (.iload_n 3, 1) := by decide +kernel
theorem dX9_firstSpanEndingFrom_43 : decode cX9_firstSpanEndingFrom 43 = .ok (.istore_n 2, 1) := by decide +kernel
theorem dX9_firstSpanEndingFrom_44 : decode cX9_firstSpanEndingFrom 44 = .ok (.iinc 3 1, 3) := by decide +kernel
theorem dX9_firstSpanEndingFrom_47 : decode cX9_firstSpanEndingFrom 47 = .ok (.goto (-43), 3) := by decide +kernel
theorem dX9_firstSpanEndingFrom_50 : decode cX9_firstSpanEndingFrom 50 = .ok (.iload_n 2, 1) := by decide +kernel
theorem dX9_firstSpanEndingFrom_51 : decode cX9_firstSpanEndingFrom 51 = .ok (.ireturn, 1) := by decide +kernel
theorem dX9_copy_0 : decode cX9_copy 0 = .ok (.aload_n 0, 1) := by decide +kernel
theorem dX9_copy_1 : decode cX9_copy 1 = .ok (.aload_n 1, 1) := by decide +kernel
theorem dX9_copy_2 : decode cX9_copy 2 = .ok (.getfield 30, 3) := by decide +kernel
theorem dX9_copy_5 : decode cX9_copy 5 = .ok (.putfield 30, 3) := by decide +kernel
theorem dX9_copy_8 : decode cX9_copy 8 = .ok (.aload_n 0, 1) := by decide +kernel
theorem dX9_copy_9 : decode cX9_copy 9 = .ok (.aload_n 1, 1) := by decide +kernel
theorem dX9_copy_10 : decode cX9_copy 10 = .ok (.getfield 34, 3) := by decide +kernel
theorem dX9_copy_13 : decode cX9_copy 13 = .ok (.putfield 34, 3) := by decide +kernel
theorem dX9_copy_16 : decode cX9_copy 16 = .ok (.aload_n 0, 1) := by decide +kernel
theorem dX9_copy_17 : decode cX9_copy 17 = .ok (.aload_n 1, 1) := by decide +kernel
theorem dX9_copy_18 : decode cX9_copy 18 = .ok (.getfield 37, 3) := by decide +kernel
theorem dX9_copy_21 : decode cX9_copy 21 = .ok (.putfield 37, 3) := by decide +kernel
theorem dX9_copy_24 : decode cX9_copy 24 = .ok (.aload_n 1, 1) := by decide +kernel
theorem dX9_copy_25 : decode cX9_copy 25 = .ok (.getfield 11, 3) := by decide +kernel
theorem dX9_copy_28 : decode cX9_copy 28 = .ok (.iconst 0, 1) := by decide +kernel
theorem dX9_copy_29 : decode cX9_copy 29 = .ok (.aload_n 0, 1) := by decide +kernel
theorem dX9_copy_30 : decode cX9_copy 30 = .ok (.getfield 11, 3) := by decide +kernel
theorem dX9_copy_33 : decode cX9_copy 33 = .ok (.iconst 0, 1) := by decide +kernel
theorem dX9_copy_34 : decode cX9_copy 34 = .ok (.bipush 20, 2) := by decide +kernel
theorem dX9_copy_36 : decode cX9_copy 36 = .ok (.invokestatic 59, 3) := by decide +kernel
theorem dX9_copy_39 : decode cX9_copy 39 = .ok (.aload_n 1, 1) := by decide +kernel
theorem dX9_copy_40 : decode cX9_copy 40 = .ok (.getfield 15, 3) := by decide +kernel
theorem dX9_copy_43 : decode cX9_copy 43 = .ok (.iconst 0, 1) := by decide +kernel
theorem dX9_copy_44 : decode cX9_copy 44 = .ok (.aload_n 0, 1) := by decide +kernel
theorem dX9_copy_45 : decode cX9_copy 45 = .ok (.getfield 15, 3) := by decide +kernel
theorem dX9_copy_48 : decode cX9_copy 48 = .ok (.iconst 0, 1) := by decide +kernel
theorem dX9_copy_49 : decode cX9_copy 49 = .ok (.bipush 20, 2) := by decide +kernel
theorem dX9_copy_51 : decode cX9_copy 51 = .ok (.invokestatic 59, 3) := by decide +kernel
theorem dX9_copy_54 : decode cX9_copy 54 = .ok (.aload_n 1, 1) := by decide +kernel
theorem dX9_copy_55 : decode cX9_copy 55 = .ok (.getfield 18, 3) := by decide +kernel
theorem dX9_copy_58 : decode cX9_copy 58 = .ok (.iconst 0, 1) := by decide +kernel
theorem dX9_copy_59 : decode cX9_copy 59 = .ok (.aload_n 0, 1) := by decide +kernel
theorem dX9_copy_60 : decode cX9_copy 60 = .ok (.getfield 18, 3) := by decide +kernel
theorem dX9_copy_63 : decode cX9_copy 63 = .ok (.iconst 0, 1) := by decide +kernel
theorem dX9_copy_64 : decode cX9_copy 64 = .ok (.bipush 40, 2) := by decide +kernel
theorem dX9_copy_66 : decode cX9_copy 66 = .ok (.invokestatic 59, 3) := by decide +kernel
theorem dX9_copy_69 : decode cX9_copy 69 = .ok (.aload_n 1, 1) := by decide +kernel
theorem dX9_copy_70 : decode cX9_copy 70 = .ok (.getfield 21, 3) := by decide +kernel
theorem dX9_copy_73 : decode cX9_copy 73 = .ok (.iconst 0, 1) := by decide +kernel
theorem dX9_copy_74 : decode cX9_copy 74 = .ok (.aload_n 0, 1) := by decide +kernel
theorem dX9_copy_75 : decode cX9_copy 75 = .ok (.getfield 21, 3) := by decide +kernel
theorem dX9_copy_78 : decode cX9_copy 78 = .ok (.iconst 0, 1) := by decide +kernel
theorem dX9_copy_79 : decode cX9_copy 79 = .ok (.bipush 40, 2) := by decide +kernel
theorem dX9_copy_81 : decode cX9_copy 81 = .ok (.invokestatic 59, 3) := by decide +kernel
theorem dX9_copy_84 : decode cX9_copy 84 = .ok (.aload_n 1, 1) := by decide +kernel
theorem dX9_copy_85 : decode cX9_copy 85 = .ok (.getfield 24, 3) := by decide +kernel
theorem dX9_copy_88 : decode cX9_copy 88 = .ok (.iconst 0, 1) := by decide +kernel
theorem dX9_copy_89 : decode cX9_copy 89 = .ok (.aload_n 0, 1) := by decide +kernel
theorem dX9_copy_90 : decode cX9_copy 90 = .ok (.getfield 24, 3) := by decide +kernel
theorem dX9_copy_93 : decode cX9_copy 93 = .ok (.iconst 0, 1) := by decide +kernel
theorem dX9_copy_94 : decode cX9_copy 94 = .ok (.bipush 8, 2) := by decide +kernel
theorem dX9_copy_96 : decode cX9_copy 96 = .ok (.invokestatic 59, 3) := by decide +kernel
theorem dX9_copy_99 : decode cX9_copy 99 = .ok (.aload_n 1, 1) := by decide +kernel
theorem dX9_copy_100 : decode cX9_copy 100 = .ok (.getfield 27, 3) := by decide +kernel
theorem dX9_copy_103 : decode cX9_copy 103 = .ok (.iconst 0, 1) := by decide +kernel
theorem dX9_copy_104 : decode cX9_copy 104 = .ok (.aload_n 0, 1) := by decide +kernel
theorem dX9_copy_105 : decode cX9_copy 105 = .ok (.getfield 27, 3) := by decide +kernel
theorem dX9_copy_108 : decode cX9_copy 108 = .ok (.iconst 0, 1) := by decide +kernel
theorem dX9_copy_109 : decode cX9_copy 109 = .ok (.bipush 8, 2) := by decide +kernel
theorem dX9_copy_111 : decode cX9_copy 111 = .ok (.invokestatic 59, 3) := by decide +kernel
theorem dX9_copy_114 : decode cX9_copy 114 = .ok (.return_, 1) := by decide +kernel
theorem dX10_init_0 : decode cX10_init 0 = .ok (.aload_n 0, 1) := by decide +kernel
theorem dX10_init_1 : decode cX10_init 1 = .ok (.invokespecial 5, 3) := by decide +kernel
theorem dX10_init_4 : decode cX10_init 4 = .ok (.aload_n 0, 1) := by decide +kernel
theorem dX10_init_5 : decode cX10_init 5 = .ok (.bipush 8, 2) := by decide +kernel
theorem dX10_init_7 : decode cX10_init 7 = .ok (.newarray .int, 2) := by decide +kernel
theorem dX10_init_9 : decode cX10_init 9 = .ok (.putfield 11, 3) := by decide +kernel
theorem dX10_init_12 : decode cX10_init 12 = .ok (.aload_n 0, 1) := by decide +kernel
theorem dX10_init_13 : decode cX10_init 13 = .ok (.sipush 128, 3) := by decide +kernel
theorem dX10_init_16 : decode cX10_init 16 = .ok (.newarray .int, 2) := by decide +kernel
theorem dX10_init_18 : decode cX10_init 18 = .ok (.putfield 15, 3) := by decide +kernel
theorem dX10_init_21 : decode cX10_init 21 = .ok (.aload_n 0, 1) := by decide +kernel
theorem dX10_init_22 : decode cX10_init 22 = .ok (.bipush 64, 2) := by decide +kernel
theorem dX10_init_24 : decode cX10_init 24 = .ok (.newarray .int, 2) := by decide +kernel
theorem dX10_init_26 : decode cX10_init 26 = .ok (.putfield 18, 3) := by decide +kernel
theorem dX10_init_29 : decode cX10_init 29 = .ok (.aload_n 0, 1) := by decide +kernel
theorem dX10_init_30 : decode cX10_init 30 = .ok (.sipush 256, 3) := by decide +kernel
theorem dX10_init_33 : decode cX10_init 33 = .ok (.newarray .int, 2) := by decide +kernel
theorem dX10_init_35 : decode cX10_init 35 = .ok (.putfield 21, 3) := by decide +kernel
theorem dX10_init_38 : decode cX10_init 38 = .ok (.aload_n 0, 1) := by decide +kernel
theorem dX10_init_39 : decode cX10_init 39 = .ok (.sipush 256, 3) := by decide +kernel
theorem dX10_init_42 : decode cX10_init 42 = .ok (.newarray .int, 2) := by decide +kernel
theorem dX10_init_44 : decode cX10_init 44 = .ok (.putfield 24, 3) := by decide +kernel
theorem dX10_init_47 : decode cX10_init 47 = .ok (.return_, 1) := by decide +kernel
theorem dX10_has_0 : decode cX10_has 0 = .ok (.iload_n 1, 1) := by decide +kernel
theorem dX10_has_1 : decode cX10_has 1 = .ok (.ifCond .lt 15, 3) := by decide +kernel
theorem dX10_has_4 : decode cX10_has 4 = .ok (.iload_n 1, 1) := by decide +kernel
theorem dX10_has_5 : decode cX10_has 5 = .ok (.aload_n 0, 1) := by decide +kernel
theorem dX10_has_6 : decode cX10_has 6 = .ok (.getfield 27, 3) := by decide +kernel
theorem dX10_has_9 : decode cX10_has 9 = .ok (.if_icmp .ge 7, 3) := by decide +kernel
theorem dX10_has_12 : decode cX10_has 12 = .ok (.iconst 1, 1) := by decide +kernel
theorem dX10_has_13 : decode cX10_has 13 = .ok (.goto 4, 3) := by decide +kernel
theorem dX10_has_16 : decode cX10_has 16 = .ok (.iconst 0, 1) := by decide +kernel
theorem dX10_has_17 : decode cX10_has 17 = .ok (.ireturn, 1) := by decide +kernel
theorem dX10_hasAll_0 : decode cX10_hasAll 0 = .ok (.iload_n 1, 1) := by decide +kernel
theorem dX10_hasAll_1 : decode cX10_hasAll 1 = .ok (.ifCond .lt 17, 3) := by decide +kernel
theorem dX10_hasAll_4 : decode cX10_hasAll 4 = .ok (.iload_n 1, 1) := by decide +kernel
theorem dX10_hasAll_5 : decode cX10_hasAll 5 = .ok (.iconst 1, 1) := by decide +kernel
theorem dX10_hasAll_6 : decode cX10_hasAll 6 = .ok (.aload_n 0, 1) := by decide +kernel
theorem dX10_hasAll_7 : decode cX10_hasAll 7 = .ok (.getfield 27, 3) := by decide +kernel
theorem dX10_hasAll_10 : decode cX10_hasAll 10 = .ok (.ishl, 1) := by decide +kernel
theorem dX10_hasAll_11 : decode cX10_hasAll 11 = .ok (.if_icmp .ge 7, 3) := by decide +kernel
theorem dX10_hasAll_14 : decode cX10_hasAll 14 = .ok (.iconst 1, 1) := by decide +kernel
theorem dX10_hasAll_15 : decode cX10_hasAll 15 = .ok (.goto 4, 3) := by decide +kernel
theorem dX10_hasAll_18 : decode cX10_hasAll 18 = .ok (.iconst 0, 1) := by decide +kernel
theorem dX10_hasAll_19 : decode cX10_hasAll 19 = .ok (.ireturn, 1) := by decide +kernel
theorem dX10_start_0 : decode cX10_start 0 = .ok (.aload_n 0, 1) := by decide +kernel
theorem dX10_start_1 : decode cX10_start 1 = .ok (.getfield 27, 3) := by decide +kernel
theorem dX10_start_4 : decode cX10_start 4 = .ok (.bipush 8, 2) := by decide +kernel
theorem dX10_start_6 : decode cX10_start 6 = .ok (.if_icmp .lt 5, 3) := by decide +kernel
theorem dX10_start_9 : decode cX10_start 9 = .ok (.iconst (-1), 1) := by decide +kernel
theorem dX10_start_10 : decode cX10_start 10 = .ok (.ireturn, 1) := by decide +kernel
theorem dX10_start_11 : decode cX10_start 11 = .ok (.aload_n 0, 1) := by decide +kernel
theorem dX10_start_12 : decode cX10_start 12 = .ok (.getfield 11, 3) := by decide +kernel
theorem dX10_start_15 : decode cX10_start 15 = .ok (.aload_n 0, 1) := by decide +kernel
theorem dX10_start_16 : decode cX10_start 16 = .ok (.getfield 27, 3) := by decide +kernel
theorem dX10_start_19 : decode cX10_start 19 = .ok (.iload_n 1, 1) := by decide +kernel
theorem dX10_start_20 : decode cX10_start 20 = .ok (.iastore, 1) := by decide +kernel
theorem dX10_start_21 : decode cX10_start 21 = .ok (.aload_n 0, 1) := by decide +kernel
theorem dX10_start_22 : decode cX10_start 22 = .ok (.dup, 1) := by decide +kernel
theorem dX10_start_23 : decode cX10_start 23 = .ok (.getfield 27, 3) := by decide +kernel
theorem dX10_start_26 : decode cX10_start 26 = .ok (.dup_x1, 1) := by decide +kernel
theorem dX10_start_27 : decode cX10_start 27 = .ok (.iconst 1, 1) := by decide +kernel
theorem dX10_start_28 : decode cX10_start 28 = .ok (.iadd, 1) := by decide +kernel
theorem dX10_start_29 : decode cX10_start 29 = .ok (.putfield 27, 3) := by decide +kernel
theorem dX10_start_32 : decode cX10_start 32 = .ok (.ireturn, 1) := by decide +kernel
theorem dX10_tell_0 : decode cX10_tell 0 = .ok (.iload_n 1, 1) := by decide +kernel
theorem dX10_tell_1 : decode cX10_tell 1 = .ok (.bipush 16, 2) := by decide +kernel
theorem dX10_tell_3 : decode cX10_tell 3 = .ok (.imul, 1) := by decide +kernel
theorem dX10_tell_4 : decode cX10_tell 4 = .ok (.iload_n 2, 1) := by decide +kernel
theorem dX10_tell_5 : decode cX10_tell 5 = .ok (.iadd, 1) := by decide +kernel
theorem dX10_tell_6 : decode cX10_tell 6 = .ok (.istore 4, 2) := by decide +kernel
theorem dX10_tell_8 : decode cX10_tell 8 = .ok (.aload_n 0, 1) := by decide +kernel
theorem dX10_tell_9 : decode cX10_tell 9 = .ok (.iload_n 1, 1) := by decide +kernel
theorem dX10_tell_10 : decode cX10_tell 10 = .ok (.invokevirtual 31, 3) := by decide +kernel
theorem dX10_tell_13 : decode cX10_tell 13 = .ok (.ifCond .eq 13, 3) := by decide +kernel
theorem dX10_tell_16 : decode cX10_tell 16 = .ok (.iload_n 2, 1) := by decide +kernel
theorem dX10_tell_17 : decode cX10_tell 17 = .ok (.ifCond .lt 9, 3) := by decide +kernel
theorem dX10_tell_20 : decode cX10_tell 20 = .ok (.iload_n 2, 1) := by decide +kernel
theorem dX10_tell_21 : decode cX10_tell 21 = .ok (.bipush 16, 2) := by decide +kernel
theorem dX10_tell_23 : decode cX10_tell 23 = .ok (.if_icmp .lt 5, 3) := by decide +kernel
theorem dX10_tell_26 : decode cX10_tell 26 = .ok (.iconst (-1), 1) := by decide +kernel
theorem dX10_tell_27 : decode cX10_tell 27 = .ok (.ireturn, 1) := by decide +kernel
theorem dX10_tell_28 : decode cX10_tell 28 = .ok (.aload_n 0, 1) := by decide +kernel
theorem dX10_tell_29 : decode cX10_tell 29 = .ok (.getfield 15, 3) := by decide +kernel
theorem dX10_tell_32 : decode cX10_tell 32 = .ok (.iload 4, 2) := by decide +kernel
theorem dX10_tell_34 : decode cX10_tell 34 = .ok (.iaload, 1) := by decide +kernel
theorem dX10_tell_35 : decode cX10_tell 35 = .ok (.istore 5, 2) := by decide +kernel
theorem dX10_tell_37 : decode cX10_tell 37 = .ok (.aload_n 0, 1) := by decide +kernel
theorem dX10_tell_38 : decode cX10_tell 38 = .ok (.getfield 15, 3) := by decide +kernel
theorem dX10_tell_41 : decode cX10_tell 41 = .ok (.iload 4, 2) := by decide +kernel
theorem dX10_tell_43 : decode cX10_tell 43 = .ok (.iload_n 3, 1) := by decide +kernel
theorem dX10_tell_44 : decode cX10_tell 44 = .ok (.iastore, 1) := by decide +kernel
theorem dX10_tell_45 : decode cX10_tell 45 = .ok (.iload 5, 2) := by decide +kernel
theorem dX10_tell_47 : decode cX10_tell 47 = .ok (.ireturn, 1) := by decide +kernel
theorem dX10_weigh_0 : decode cX10_weigh 0 = .ok (.aload_n 0, 1) := by decide +kernel
theorem dX10_weigh_1 : decode cX10_weigh 1 = .ok (.iload_n 1, 1) := by decide +kernel
theorem dX10_weigh_2 : decode cX10_weigh 2 = .ok (.invokevirtual 35, 3) := by decide +kernel
theorem dX10_weigh_5 : decode cX10_weigh 5 = .ok (.ifCond .ne 4, 3) := by decide +kernel
theorem dX10_weigh_8 : decode cX10_weigh 8 = .ok (.return_, 1) := by decide +kernel
theorem dX10_weigh_9 : decode cX10_weigh 9 = .ok (.aload_n 0, 1) := by decide +kernel
theorem dX10_weigh_10 : decode cX10_weigh 10 = .ok (.invokevirtual 38, 3) := by decide +kernel
theorem dX10_weigh_13 : decode cX10_weigh 13 = .ok (.iconst 0, 1) := by decide +kernel
theorem dX10_weigh_14 : decode cX10_weigh 14 = .ok (.istore_n 2, 1) := by decide +kernel
theorem dX10_weigh_15 : decode cX10_weigh 15 = .ok (.iload_n 2, 1) := by decide +kernel
theorem dX10_weigh_16 : decode cX10_weigh 16 = .ok (.iload_n 1, 1) := by decide +kernel
theorem dX10_weigh_17 : decode cX10_weigh 17 = .ok (.if_icmp .gt 31, 3) := by decide +kernel
theorem dX10_weigh_20 : decode cX10_weigh 20 = .ok (.iload_n 2, 1) := by decide +kernel
theorem dX10_weigh_21 : decode cX10_weigh 21 = .ok (.aload_n 0, 1) := by decide +kernel
theorem dX10_weigh_22 : decode cX10_weigh 22 = .ok (.getfield 21, 3) := by decide +kernel
theorem dX10_weigh_25 : decode cX10_weigh 25 = .ok (.arraylength, 1) := by decide +kernel
theorem dX10_weigh_26 : decode cX10_weigh 26 = .ok (.if_icmp .ge 22, 3) := by decide +kernel
theorem dX10_weigh_29 : decode cX10_weigh 29 = .ok (.iload_n 2, 1) := by decide +kernel
theorem dX10_weigh_30 : decode cX10_weigh 30 = .ok (.iload_n 1, 1) := by decide +kernel
theorem dX10_weigh_31 : decode cX10_weigh 31 = .ok (.iconst (-1), 1) := by decide +kernel
theorem dX10_weigh_32 : decode cX10_weigh 32 = .ok (.ixor, 1) := by decide +kernel
theorem dX10_weigh_33 : decode cX10_weigh 33 = .ok (.iand, 1) := by decide +kernel
theorem dX10_weigh_34 : decode cX10_weigh 34 = .ok (.ifCond .ne 8, 3) := by decide +kernel
theorem dX10_weigh_37 : decode cX10_weigh 37 = .ok (.aload_n 0, 1) := by decide +kernel
theorem dX10_weigh_38 : decode cX10_weigh 38 = .ok (.iload_n 2, 1) := by decide +kernel
theorem dX10_weigh_39 : decode cX10_weigh 39 = .ok (.invokevirtual 41, 3) := by decide +kernel
theorem dX10_weigh_42 : decode cX10_weigh 42 = .ok (.iinc 2 1, 3) := by decide +kernel
theorem dX10_weigh_45 : decode cX10_weigh 45 = .ok (.goto (-30), 3) := by decide +kernel
theorem dX10_weigh_48 : decode cX10_weigh 48 = .ok (.return_, 1) := by decide +kernel
theorem dX10_gatherSayings_0 : decode cX10_gatherSayings 0 = .ok (.aload_n 0, 1) := by decide +kernel
theorem dX10_gatherSayings_1 : decode cX10_gatherSayings 1 = .ok (.getfield 18, 3) := by decide +kernel
theorem dX10_gatherSayings_4 : decode cX10_gatherSayings 4 = .ok (.iconst 0, 1) := by decide +kernel
theorem dX10_gatherSayings_5 : decode cX10_gatherSayings 5 = .ok (.invokestatic 45, 3) := by decide +kernel
theorem dX10_gatherSayings_8 : decode cX10_gatherSayings 8 = .ok (.iconst 0, 1) := by decide +kernel
theorem dX10_gatherSayings_9 : decode cX10_gatherSayings 9 = .ok (.istore_n 1, 1) := by decide +kernel
theorem dX10_gatherSayings_10 : decode cX10_gatherSayings 10 = .ok (.iload_n 1, 1) := by decide +kernel
theorem dX10_gatherSayings_11 : decode cX10_gatherSayings 11 = .ok (.aload_n 0, 1) := by decide +kernel
theorem dX10_gatherSayings_12 : decode cX10_gatherSayings 12 = .ok (.getfield 27, 3) := by decide +kernel
theorem dX10_gatherSayings_15 : decode cX10_gatherSayings 15 = .ok (.if_icmp .ge 53, 3) := by decide +kernel
theorem dX10_gatherSayings_18 : decode cX10_gatherSayings 18 = .ok (.iconst 0, 1) := by decide +kernel
theorem dX10_gatherSayings_19 : decode cX10_gatherSayings 19 = .ok (.istore_n 2, 1) := by decide +kernel
theorem dX10_gatherSayings_20 : decode cX10_gatherSayings 20 = .ok (.iload_n 2, 1) := by decide +kernel
theorem dX10_gatherSayings_21 : decode cX10_gatherSayings 21 = .ok (.bipush 16, 2) := by decide +kernel
theorem dX10_gatherSayings_23 : decode cX10_gatherSayings 23 = .ok (.if_icmp .ge 39, 3) := by decide +kernel
theorem dX10_gatherSayings_26 : decode cX10_gatherSayings 26 = .ok (.aload_n 0, 1) := by decide +kernel
theorem dX10_gatherSayings_27 : decode cX10_gatherSayings 27 = .ok (.getfield 15, 3) := by decide +kernel
theorem dX10_gatherSayings_30 : decode cX10_gatherSayings 30 = .ok (.iload_n 1, 1) := by decide +kernel
theorem dX10_gatherSayings_31 : decode cX10_gatherSayings 31 = .ok (.bipush 16, 2) := by decide +kernel
theorem dX10_gatherSayings_33 : decode cX10_gatherSayings 33 = .ok (.imul, 1) := by decide +kernel
theorem dX10_gatherSayings_34 : decode cX10_gatherSayings 34 = .ok (.iload_n 2, 1) := by decide +kernel
theorem dX10_gatherSayings_35 : decode cX10_gatherSayings 35 = .ok (.iadd, 1) := by decide +kernel
theorem dX10_gatherSayings_36 : decode cX10_gatherSayings 36 = .ok (.iaload, 1) := by decide +kernel
theorem dX10_gatherSayings_37 : decode cX10_gatherSayings 37 = .ok (.iconst 3, 1) := by decide +kernel
theorem dX10_gatherSayings_38 : decode cX10_gatherSayings 38 = .ok (.iand, 1) := by decide +kernel
theorem dX10_gatherSayings_39 : decode cX10_gatherSayings 39 = .ok (.istore_n 3, 1) := by decide +kernel
theorem dX10_gatherSayings_40 : decode cX10_gatherSayings 40 = .ok (.aload_n 0, 1) := by decide +kernel
theorem dX10_gatherSayings_41 : decode cX10_gatherSayings 41 = .ok (.getfield 18, 3) := by decide +kernel
theorem dX10_gatherSayings_44 : decode cX10_gatherSayings 44 = .ok (.iload_n 2, 1) := by decide +kernel
theorem dX10_gatherSayings_45 : decode cX10_gatherSayings 45 = .ok (.iconst 4, 1) := by decide +kernel
theorem dX10_gatherSayings_46 : decode cX10_gatherSayings 46 = .ok (.imul, 1) := by decide +kernel
theorem dX10_gatherSayings_47 : decode cX10_gatherSayings 47 = .ok (.iload_n 3, 1) := by decide +kernel
theorem dX10_gatherSayings_48 : decode cX10_gatherSayings 48 = .ok (.iadd, 1) := by decide +kernel
theorem dX10_gatherSayings_49 : decode cX10_gatherSayings 49 = .ok (.dup2, 1) := by decide +kernel
theorem dX10_gatherSayings_50 : decode cX10_gatherSayings 50 = .ok (.iaload, 1) := by decide +kernel
theorem dX10_gatherSayings_51 : decode cX10_gatherSayings 51 = .ok (.iconst 1, 1) := by decide +kernel
theorem dX10_gatherSayings_52 : decode cX10_gatherSayings 52 = .ok (.iload_n 1, 1) := by decide +kernel
theorem dX10_gatherSayings_53 : decode cX10_gatherSayings 53 = .ok (.ishl, 1) := by decide +kernel
theorem dX10_gatherSayings_54 : decode cX10_gatherSayings 54 = .ok (.ior, 1) := by decide +kernel
theorem dX10_gatherSayings_55 : decode cX10_gatherSayings 55 = .ok (.iastore, 1) := by decide +kernel
theorem dX10_gatherSayings_56 : decode cX10_gatherSayings 56 = .ok (.iinc 2 1, 3) := by decide +kernel
theorem dX10_gatherSayings_59 : decode cX10_gatherSayings 59 = .ok (.goto (-39), 3) := by decide +kernel
theorem dX10_gatherSayings_62 : decode cX10_gatherSayings 62 = .ok (.iinc 1 1, 3) := by decide +kernel
theorem dX10_gatherSayings_65 : decode cX10_gatherSayings 65 = .ok (.goto (-55), 3) := by decide +kernel
theorem dX10_gatherSayings_68 : decode cX10_gatherSayings 68 = .ok (.return_, 1) := by decide +kernel
theorem dX10_weighOne_0 : decode cX10_weighOne 0 = .ok (.aload_n 0, 1) := by decide +kernel
theorem dX10_weighOne_1 : decode cX10_weighOne 1 = .ok (.getfield 21, 3) := by decide +kernel
theorem dX10_weighOne_4 : decode cX10_weighOne 4 = .ok (.iload_n 1, 1) := by decide +kernel
theorem dX10_weighOne_5 : decode cX10_weighOne 5 = .ok (.iconst 0, 1) := by decide +kernel
theorem dX10_weighOne_6 : decode cX10_weighOne 6 = .ok (.iastore, 1) := by decide +kernel
theorem dX10_weighOne_7 : decode cX10_weighOne 7 = .ok (.aload_n 0, 1) := by decide +kernel
theorem dX10_weighOne_8 : decode cX10_weighOne 8 = .ok (.getfield 24, 3) := by decide +kernel
theorem dX10_weighOne_11 : decode cX10_weighOne 11 = .ok (.iload_n 1, 1) := by decide +kernel
theorem dX10_weighOne_12 : decode cX10_weighOne 12 = .ok (.iconst (-1), 1) := by decide +kernel
theorem dX10_weighOne_13 : decode cX10_weighOne 13 = .ok (.iastore, 1) := by decide +kernel
theorem dX10_weighOne_14 : decode cX10_weighOne 14 = .ok (.aload_n 0, 1) := by decide +kernel
theorem dX10_weighOne_15 : decode cX10_weighOne 15 = .ok (.iload_n 1, 1) := by decide +kernel
theorem dX10_weighOne_16 : decode cX10_weighOne 16 = .ok (.invokevirtual 51, 3) := by decide +kernel
theorem dX10_weighOne_19 : decode cX10_weighOne 19 = .ok (.istore_n 2, 1) := by decide +kernel
theorem dX10_weighOne_20 : decode cX10_weighOne 20 = .ok (.iconst 0, 1) := by decide +kernel
theorem dX10_weighOne_21 : decode cX10_weighOne 21 = .ok (.istore_n 3, 1) := by decide +kernel
theorem dX10_weighOne_22 : decode cX10_weighOne 22 = .ok (.iload_n 3, 1) := by decide +kernel
theorem dX10_weighOne_23 : decode cX10_weighOne 23 = .ok (.bipush 16, 2) := by decide +kernel
theorem dX10_weighOne_25 : decode cX10_weighOne 25 = .ok (.if_icmp .ge 66, 3) := by decide +kernel
theorem dX10_weighOne_28 : decode cX10_weighOne 28 = .ok (.aload_n 0, 1) := by decide +kernel
theorem dX10_weighOne_29 : decode cX10_weighOne 29 = .ok (.iload_n 1, 1) := by decide +kernel
theorem dX10_weighOne_30 : decode cX10_weighOne 30 = .ok (.iload_n 3, 1) := by decide +kernel
theorem dX10_weighOne_31 : decode cX10_weighOne 31 = .ok (.invokevirtual 55, 3) := by decide +kernel
theorem dX10_weighOne_34 : decode cX10_weighOne 34 = .ok (.istore 4, 2) := by decide +kernel
theorem dX10_weighOne_36 : decode cX10_weighOne 36 = .ok (.iload 4, 2) := by decide +kernel
theorem dX10_weighOne_38 : decode cX10_weighOne 38 = .ok (.iconst (-1), 1) := by decide +kernel
theorem dX10_weighOne_39 : decode cX10_weighOne 39 = .ok (.if_icmp .ne 6, 3) := by decide +kernel
theorem dX10_weighOne_42 : decode cX10_weighOne 42 = .ok (.goto 43, 3) := by decide +kernel
theorem dX10_weighOne_45 : decode cX10_weighOne 45 = .ok (.aload_n 0, 1) := by decide +kernel
theorem dX10_weighOne_46 : decode cX10_weighOne 46 = .ok (.getfield 24, 3) := by decide +kernel
theorem dX10_weighOne_49 : decode cX10_weighOne 49 = .ok (.iload_n 1, 1) := by decide +kernel
theorem dX10_weighOne_50 : decode cX10_weighOne 50 = .ok (.iaload, 1) := by decide +kernel
theorem dX10_weighOne_51 : decode cX10_weighOne 51 = .ok (.iconst (-1), 1) := by decide +kernel
theorem dX10_weighOne_52 : decode cX10_weighOne 52 = .ok (.if_icmp .eq 16, 3) := by decide +kernel
theorem dX10_weighOne_55 : decode cX10_weighOne 55 = .ok (.iload_n 2, 1) := by decide +kernel
theorem dX10_weighOne_56 : decode cX10_weighOne 56 = .ok (.iload 4, 2) := by decide +kernel
theorem dX10_weighOne_58 : decode cX10_weighOne 58 = .ok (.iadd, 1) := by decide +kernel
theorem dX10_weighOne_59 : decode cX10_weighOne 59 = .ok (.aload_n 0, 1) := by decide +kernel
theorem dX10_weighOne_60 : decode cX10_weighOne 60 = .ok (.getfield 21, 3) := by decide +kernel
theorem dX10_weighOne_63 : decode cX10_weighOne 63 = .ok (.iload_n 1, 1) := by decide +kernel
theorem dX10_weighOne_64 : decode cX10_weighOne 64 = .ok (.iaload, 1) := by decide +kernel
theorem dX10_weighOne_65 : decode cX10_weighOne 65 = .ok (.if_icmp .ge 20, 3) := by decide +kernel
theorem dX10_weighOne_68 : decode cX10_weighOne 68 = .ok (.aload_n 0, 1) := by decide +kernel
theorem dX10_weighOne_69 : decode cX10_weighOne 69 = .ok (.getfield 21, 3) := by decide +kernel
theorem dX10_weighOne_72 : decode cX10_weighOne 72 = .ok (.iload_n 1, 1) := by decide +kernel
theorem dX10_weighOne_73 : decode cX10_weighOne 73 = .ok (.iload_n 2, 1) := by decide +kernel
theorem dX10_weighOne_74 : decode cX10_weighOne 74 = .ok (.iload 4, 2) := by decide +kernel
theorem dX10_weighOne_76 : decode cX10_weighOne 76 = .ok (.iadd, 1) := by decide +kernel
theorem dX10_weighOne_77 : decode cX10_weighOne 77 = .ok (.iastore, 1) := by decide +kernel
theorem dX10_weighOne_78 : decode cX10_weighOne 78 = .ok (.aload_n 0, 1) := by decide +kernel
theorem dX10_weighOne_79 : decode cX10_weighOne 79 = .ok (.getfield 24, 3) := by decide +kernel
theorem dX10_weighOne_82 : decode cX10_weighOne 82 = .ok (.iload_n 1, 1) := by decide +kernel
theorem dX10_weighOne_83 : decode cX10_weighOne 83 = .ok (.iload_n 3, 1) := by decide +kernel
theorem dX10_weighOne_84 : decode cX10_weighOne 84 = .ok (.iastore, 1) := by decide +kernel
theorem dX10_weighOne_85 : decode cX10_weighOne 85 = .ok (.iinc 3 1, 3) := by decide +kernel
theorem dX10_weighOne_88 : decode cX10_weighOne 88 = .ok (.goto (-66), 3) := by decide +kernel
theorem dX10_weighOne_91 : decode cX10_weighOne 91 = .ok (.return_, 1) := by decide +kernel
theorem dX10_weightOf_0 : decode cX10_weightOf 0 = .ok (.iconst 0, 1) := by decide +kernel
theorem dX10_weightOf_1 : decode cX10_weightOf 1 = .ok (.istore_n 2, 1) := by decide +kernel
theorem dX10_weightOf_2 : decode cX10_weightOf 2 = .ok (.iconst 0, 1) := by decide +kernel
theorem dX10_weightOf_3 : decode cX10_weightOf 3 = .ok (.istore_n 3, 1) := by decide +kernel
theorem dX10_weightOf_4 : decode cX10_weightOf 4 = .ok (.iload_n 3, 1) := by decide +kernel
theorem dX10_weightOf_5 : decode cX10_weightOf 5 = .ok (.aload_n 0, 1) := by decide +kernel
theorem dX10_weightOf_6 : decode cX10_weightOf 6 = .ok (.getfield 27, 3) := by decide +kernel
theorem dX10_weightOf_9 : decode cX10_weightOf 9 = .ok (.if_icmp .ge 27, 3) := by decide +kernel
theorem dX10_weightOf_12 : decode cX10_weightOf 12 = .ok (.iload_n 1, 1) := by decide +kernel
theorem dX10_weightOf_13 : decode cX10_weightOf 13 = .ok (.iload_n 3, 1) := by decide +kernel
theorem dX10_weightOf_14 : decode cX10_weightOf 14 = .ok (.ishr, 1) := by decide +kernel
theorem dX10_weightOf_15 : decode cX10_weightOf 15 = .ok (.iconst 1, 1) := by decide +kernel
theorem dX10_weightOf_16 : decode cX10_weightOf 16 = .ok (.iand, 1) := by decide +kernel
theorem dX10_weightOf_17 : decode cX10_weightOf 17 = .ok (.iconst 1, 1) := by decide +kernel
theorem dX10_weightOf_18 : decode cX10_weightOf 18 = .ok (.if_icmp .ne 12, 3) := by decide +kernel
theorem dX10_weightOf_21 : decode cX10_weightOf 21 = .ok (.iload_n 2, 1) := by decide +kernel
theorem dX10_weightOf_22 : decode cX10_weightOf 22 = .ok (.aload_n 0, 1) := by decide +kernel
theorem dX10_weightOf_23 : decode cX10_weightOf 23 = .ok (.getfield 11, 3) := by decide +kernel
theorem dX10_weightOf_26 : decode cX10_weightOf 26 = .ok (.iload_n 3, 1) := by decide +kernel
theorem dX10_weightOf_27 : decode cX10_weightOf 27 = .ok (.iaload, 1) := by decide +kernel
theorem dX10_weightOf_28 : decode cX10_weightOf 28 = .ok (.iadd, 1) := by decide +kernel
theorem dX10_weightOf_29 : decode cX10_weightOf 29 = .ok (.istore_n 2, 1) := by decide +kernel
theorem dX10_weightOf_30 : decode cX10_weightOf 30 = .ok (.iinc 3 1, 3) := by decide +kernel
theorem dX10_weightOf_33 : decode cX10_weightOf 33 = .ok (.goto (-29), 3) := by decide +kernel
theorem dX10_weightOf_36 : decode cX10_weightOf 36 = .ok (.iload_n 2, 1) := by decide +kernel
theorem dX10_weightOf_37 : decode cX10_weightOf 37 = .ok (.ireturn, 1) := by decide +kernel
theorem dX10_costOfParts_0 : decode cX10_costOfParts 0 = .ok (.iconst 0, 1) := by decide +kernel
theorem dX10_costOfParts_1 : decode cX10_costOfParts 1 = .ok (.istore_n 3, 1) := by decide +kernel
theorem dX10_costOfParts_2 : decode cX10_costOfParts 2 = .ok (.iconst 0, 1) := by decide +kernel
theorem dX10_costOfParts_3 : decode cX10_costOfParts 3 = .ok (.istore 4, 2) := by decide +kernel
theorem dX10_costOfParts_5 : decode cX10_costOfParts 5 = .ok (.iload 4, 2) := by decide +kernel
theorem dX10_costOfParts_7 : decode cX10_costOfParts 7 = .ok (.iconst 4, 1) := by decide +kernel
theorem dX10_costOfParts_8 : decode cX10_costOfParts 8 = .ok (.if_icmp .ge 42, 3) := by decide +kernel
theorem dX10_costOfParts_11 : decode cX10_costOfParts 11 = .ok (.iload_n 1, 1) := by decide +kernel
theorem dX10_costOfParts_12 : decode cX10_costOfParts 12 = .ok (.aload_n 0, 1) := by decide +kernel
theorem dX10_costOfParts_13 : decode cX10_costOfParts 13 = .ok (.getfield 18, 3) := by decide +kernel
theorem dX10_costOfParts_16 : decode cX10_costOfParts 16 = .ok (.iload_n 2, 1) := by decide +kernel
theorem dX10_costOfParts_17 : decode cX10_costOfParts 17 = .ok (.iconst 4, 1) := by decide +kernel
theorem dX10_costOfParts_18 : decode cX10_costOfParts 18 = .ok (.imul, 1) := by decide +kernel
theorem dX10_costOfParts_19 : decode cX10_costOfParts 19 = .ok (.iload 4, 2) := by decide +kernel
theorem dX10_costOfParts_21 : decode cX10_costOfParts 21 = .ok (.iadd, 1) := by decide +kernel
theorem dX10_costOfParts_22 : decode cX10_costOfParts 22 = .ok (.iaload, 1) := by decide +kernel
theorem dX10_costOfParts_23 : decode cX10_costOfParts 23 = .ok (.iand, 1) := by decide +kernel
theorem dX10_costOfParts_24 : decode cX10_costOfParts 24 = .ok (.istore 5, 2) := by decide +kernel
theorem dX10_costOfParts_26 : decode cX10_costOfParts 26 = .ok (.iload 5, 2) := by decide +kernel
theorem dX10_costOfParts_28 : decode cX10_costOfParts 28 = .ok (.iload_n 1, 1) := by decide +kernel
theorem dX10_costOfParts_29 : decode cX10_costOfParts 29 = .ok (.if_icmp .ne 5, 3) := by decide +kernel
theorem dX10_costOfParts_32 : decode cX10_costOfParts 32 = .ok (.iconst (-1), 1) := by decide +kernel
theorem dX10_costOfParts_33 : decode cX10_costOfParts 33 = .ok (.ireturn, 1) := by decide +kernel
theorem dX10_costOfParts_34 : decode cX10_costOfParts 34 = .ok (.iload_n 3, 1) := by decide +kernel
theorem dX10_costOfParts_35 : decode cX10_costOfParts 35 = .ok (.aload_n 0, 1) := by decide +kernel
theorem dX10_costOfParts_36 : decode cX10_costOfParts 36 = .ok (.getfield 21, 3) := by decide +kernel
theorem dX10_costOfParts_39 : decode cX10_costOfParts 39 = .ok (.iload 5, 2) := by decide +kernel
theorem dX10_costOfParts_41 : decode cX10_costOfParts 41 = .ok (.iaload, 1) := by decide +kernel
theorem dX10_costOfParts_42 : decode cX10_costOfParts 42 = .ok (.iadd, 1) := by decide +kernel
theorem dX10_costOfParts_43 : decode cX10_costOfParts 43 = .ok (.istore_n 3, 1) := by decide +kernel
theorem dX10_costOfParts_44 : decode cX10_costOfParts 44 = .ok (.iinc 4 1, 3) := by decide +kernel
theorem dX10_costOfParts_47 : decode cX10_costOfParts 47 = .ok (.goto (-42), 3) := by decide +kernel
theorem dX10_costOfParts_50 : decode cX10_costOfParts 50 = .ok (.iload_n 3, 1) := by decide +kernel
theorem dX10_costOfParts_51 : decode cX10_costOfParts 51 = .ok (.ireturn, 1) := by decide +kernel
theorem dX10_copy_0 : decode cX10_copy 0 = .ok (.aload_n 0, 1) := by decide +kernel
theorem dX10_copy_1 : decode cX10_copy 1 = .ok (.aload_n 1, 1) := by decide +kernel
theorem dX10_copy_2 : decode cX10_copy 2 = .ok (.getfield 27, 3) := by decide +kernel
theorem dX10_copy_5 : decode cX10_copy 5 = .ok (.putfield 27, 3) := by decide +kernel
theorem dX10_copy_8 : decode cX10_copy 8 = .ok (.aload_n 1, 1) := by decide +kernel
theorem dX10_copy_9 : decode cX10_copy 9 = .ok (.getfield 11, 3) := by decide +kernel
theorem dX10_copy_12 : decode cX10_copy 12 = .ok (.iconst 0, 1) := by decide +kernel
theorem dX10_copy_13 : decode cX10_copy 13 = .ok (.aload_n 0, 1) := by decide +kernel
theorem dX10_copy_14 : decode cX10_copy 14 = .ok (.getfield 11, 3) := by decide +kernel
theorem dX10_copy_17 : decode cX10_copy 17 = .ok (.iconst 0, 1) := by decide +kernel
theorem dX10_copy_18 : decode cX10_copy 18 = .ok (.bipush 8, 2) := by decide +kernel
theorem dX10_copy_20 : decode cX10_copy 20 = .ok (.invokestatic 59, 3) := by decide +kernel
theorem dX10_copy_23 : decode cX10_copy 23 = .ok (.aload_n 1, 1) := by decide +kernel
theorem dX10_copy_24 : decode cX10_copy 24 = .ok (.getfield 15, 3) := by decide +kernel
theorem dX10_copy_27 : decode cX10_copy 27 = .ok (.iconst 0, 1) := by decide +kernel
theorem dX10_copy_28 : decode cX10_copy 28 = .ok (.aload_n 0, 1) := by decide +kernel
theorem dX10_copy_29 : decode cX10_copy 29 = .ok (.getfield 15, 3) := by decide +kernel
theorem dX10_copy_32 : decode cX10_copy 32 = .ok (.iconst 0, 1) := by decide +kernel
theorem dX10_copy_33 : decode cX10_copy 33 = .ok (.sipush 128, 3) := by decide +kernel
theorem dX10_copy_36 : decode cX10_copy 36 = .ok (.invokestatic 59, 3) := by decide +kernel
theorem dX10_copy_39 : decode cX10_copy 39 = .ok (.return_, 1) := by decide +kernel
theorem dX11_init_0 : decode cX11_init 0 = .ok (.aload_n 0, 1) := by decide +kernel
theorem dX11_init_1 : decode cX11_init 1 = .ok (.invokespecial 1, 3) := by decide +kernel
theorem dX11_init_4 : decode cX11_init 4 = .ok (.aload_n 0, 1) := by decide +kernel
theorem dX11_init_5 : decode cX11_init 5 = .ok (.new 7, 3) := by decide +kernel
theorem dX11_init_8 : decode cX11_init 8 = .ok (.dup, 1) := by decide +kernel
theorem dX11_init_9 : decode cX11_init 9 = .ok (.invokespecial 9, 3) := by decide +kernel
theorem dX11_init_12 : decode cX11_init 12 = .ok (.putfield 10, 3) := by decide +kernel
theorem dX11_init_15 : decode cX11_init 15 = .ok (.aload_n 0, 1) := by decide +kernel
theorem dX11_init_16 : decode cX11_init 16 = .ok (.new 7, 3) := by decide +kernel
theorem dX11_init_19 : decode cX11_init 19 = .ok (.dup, 1) := by decide +kernel
theorem dX11_init_20 : decode cX11_init 20 = .ok (.invokespecial 9, 3) := by decide +kernel
theorem dX11_init_23 : decode cX11_init 23 = .ok (.putfield 16, 3) := by decide +kernel
theorem dX11_init_26 : decode cX11_init 26 = .ok (.aload_n 0, 1) := by decide +kernel
theorem dX11_init_27 : decode cX11_init 27 = .ok (.new 7, 3) := by decide +kernel
theorem dX11_init_30 : decode cX11_init 30 = .ok (.dup, 1) := by decide +kernel
theorem dX11_init_31 : decode cX11_init 31 = .ok (.invokespecial 9, 3) := by decide +kernel
theorem dX11_init_34 : decode cX11_init 34 = .ok (.putfield 19, 3) := by decide +kernel
theorem dX11_init_37 : decode cX11_init 37 = .ok (.aload_n 0, 1) := by decide +kernel
theorem dX11_init_38 : decode cX11_init 38 = .ok (.iconst 2, 1) := by decide +kernel
theorem dX11_init_39 : decode cX11_init 39 = .ok (.newarray .boolean, 2) := by decide +kernel
theorem dX11_init_41 : decode cX11_init 41 = .ok (.putfield 22, 3) := by decide +kernel
theorem dX11_init_44 : decode cX11_init 44 = .ok (.aload_n 0, 1) := by decide +kernel
theorem dX11_init_45 : decode cX11_init 45 = .ok (.new 26, 3) := by decide +kernel
theorem dX11_init_48 : decode cX11_init 48 = .ok (.dup, 1) := by decide +kernel
theorem dX11_init_49 : decode cX11_init 49 = .ok (.aload_n 0, 1) := by decide +kernel
theorem dX11_init_50 : decode cX11_init 50 = .ok (.getfield 10, 3) := by decide +kernel
theorem dX11_init_53 : decode cX11_init 53 = .ok (.invokespecial 28, 3) := by decide +kernel
theorem dX11_init_56 : decode cX11_init 56 = .ok (.putfield 31, 3) := by decide +kernel
theorem dX11_init_59 : decode cX11_init 59 = .ok (.aload_n 0, 1) := by decide +kernel
theorem dX11_init_60 : decode cX11_init 60 = .ok (.new 35, 3) := by decide +kernel
theorem dX11_init_63 : decode cX11_init 63 = .ok (.dup, 1) := by decide +kernel
theorem dX11_init_64 : decode cX11_init 64 = .ok (.invokespecial 37, 3) := by decide +kernel
theorem dX11_init_67 : decode cX11_init 67 = .ok (.putfield 38, 3) := by decide +kernel
theorem dX11_init_70 : decode cX11_init 70 = .ok (.aload_n 0, 1) := by decide +kernel
theorem dX11_init_71 : decode cX11_init 71 = .ok (.new 42, 3) := by decide +kernel
theorem dX11_init_74 : decode cX11_init 74 = .ok (.dup, 1) := by decide +kernel
theorem dX11_init_75 : decode cX11_init 75 = .ok (.invokespecial 44, 3) := by decide +kernel
theorem dX11_init_78 : decode cX11_init 78 = .ok (.putfield 45, 3) := by decide +kernel
theorem dX11_init_81 : decode cX11_init 81 = .ok (.aload_n 0, 1) := by decide +kernel
theorem dX11_init_82 : decode cX11_init 82 = .ok (.sipush 400, 3) := by decide +kernel
theorem dX11_init_85 : decode cX11_init 85 = .ok (.newarray .byte, 2) := by decide +kernel
theorem dX11_init_87 : decode cX11_init 87 = .ok (.putfield 49, 3) := by decide +kernel
theorem dX11_init_90 : decode cX11_init 90 = .ok (.aload_n 0, 1) := by decide +kernel
theorem dX11_init_91 : decode cX11_init 91 = .ok (.bipush 12, 2) := by decide +kernel
theorem dX11_init_93 : decode cX11_init 93 = .ok (.newarray .long, 2) := by decide +kernel
theorem dX11_init_95 : decode cX11_init 95 = .ok (.putfield 53, 3) := by decide +kernel
theorem dX11_init_98 : decode cX11_init 98 = .ok (.aload_n 0, 1) := by decide +kernel
theorem dX11_init_99 : decode cX11_init 99 = .ok (.bipush 8, 2) := by decide +kernel
theorem dX11_init_101 : decode cX11_init 101 = .ok (.newarray .int, 2) := by decide +kernel
theorem dX11_init_103 : decode cX11_init 103 = .ok (.putfield 57, 3) := by decide +kernel
theorem dX11_init_106 : decode cX11_init 106 = .ok (.return_, 1) := by decide +kernel
theorem dX11_open_0 : decode cX11_open 0 = .ok (.iload_n 1, 1) := by decide +kernel
theorem dX11_open_1 : decode cX11_open 1 = .ok (.ifCond .eq 15, 3) := by decide +kernel
theorem dX11_open_4 : decode cX11_open 4 = .ok (.iload_n 1, 1) := by decide +kernel
theorem dX11_open_5 : decode cX11_open 5 = .ok (.iconst 1, 1) := by decide +kernel
theorem dX11_open_6 : decode cX11_open 6 = .ok (.if_icmp .eq 10, 3) := by decide +kernel
theorem dX11_open_9 : decode cX11_open 9 = .ok (.aload_n 0, 1) := by decide +kernel
theorem dX11_open_10 : decode cX11_open 10 = .ok (.bipush (-2), 2) := by decide +kernel
theorem dX11_open_12 : decode cX11_open 12 = .ok (.invokevirtual 61, 3) := by decide +kernel
theorem dX11_open_15 : decode cX11_open 15 = .ok (.ireturn, 1) := by decide +kernel
theorem dX11_open_16 : decode cX11_open 16 = .ok (.iload_n 2, 1) := by decide +kernel
theorem dX11_open_17 : decode cX11_open 17 = .ok (.i2l, 1) := by decide +kernel
theorem dX11_open_18 : decode cX11_open 18 = .ok (.lconst 0, 1) := by decide +kernel
theorem dX11_open_19 : decode cX11_open 19 = .ok (.iload_n 1, 1) := by decide +kernel
theorem dX11_open_20 : decode cX11_open 20 = .ok (.ifCond .ne 9, 3) := by decide +kernel
theorem dX11_open_23 : decode cX11_open 23 = .ok (.ldc2_w 65, 3) := by decide +kernel
theorem dX11_open_26 : decode cX11_open 26 = .ok (.goto 6, 3) := by decide +kernel
theorem dX11_open_29 : decode cX11_open 29 = .ok (.ldc2_w 67, 3) := by decide +kernel
theorem dX11_open_32 : decode cX11_open 32 = .ok (.invokestatic 69, 3) := by decide +kernel
theorem dX11_open_35 : decode cX11_open 35 = .ok (.ifCond .ne 10, 3) := by decide +kernel
theorem dX11_open_38 : decode cX11_open 38 = .ok (.aload_n 0, 1) := by decide +kernel
theorem dX11_open_39 : decode cX11_open 39 = .ok (.bipush (-3), 2) := by decide +kernel
theorem dX11_open_41 : decode cX11_open 41 = .ok (.invokevirtual 61, 3) := by decide +kernel
theorem dX11_open_44 : decode cX11_open 44 = .ok (.ireturn, 1) := by decide +kernel
theorem dX11_open_45 : decode cX11_open 45 = .ok (.iload_n 1, 1) := by decide +kernel
theorem dX11_open_46 : decode cX11_open 46 = .ok (.ifCond .ne 19, 3) := by decide +kernel
theorem dX11_open_49 : decode cX11_open 49 = .ok (.iload_n 3, 1) := by decide +kernel
theorem dX11_open_50 : decode cX11_open 50 = .ok (.iload 4, 2) := by decide +kernel
theorem dX11_open_52 : decode cX11_open 52 = .ok (.invokestatic 73, 3) := by decide +kernel
theorem dX11_open_55 : decode cX11_open 55 = .ok (.ifCond .ne 10, 3) := by decide +kernel
theorem dX11_open_58 : decode cX11_open 58 = .ok (.aload_n 0, 1) := by decide +kernel
theorem dX11_open_59 : decode cX11_open 59 = .ok (.bipush (-3), 2) := by decide +kernel
theorem dX11_open_61 : decode cX11_open 61 = .ok (.invokevirtual 61, 3) := by decide +kernel
theorem dX11_open_64 : decode cX11_open 64 = .ok (.ireturn, 1) := by decide +kernel
theorem dX11_open_65 : decode cX11_open 65 = .ok (.aload_n 0, 1) := by decide +kernel
theorem dX11_open_66 : decode cX11_open 66 = .ok (.getfield 10, 3) := by decide +kernel
theorem dX11_open_69 : decode cX11_open 69 = .ok (.iload_n 1, 1) := by decide +kernel
theorem dX11_open_70 : decode cX11_open 70 = .ok (.invokevirtual 77, 3) := by decide +kernel
theorem dX11_open_73 : decode cX11_open 73 = .ok (.astore 5, 2) := by decide +kernel
theorem dX11_open_75 : decode cX11_open 75 = .ok (.aload 5, 2) := by decide +kernel
theorem dX11_open_77 : decode cX11_open 77 = .ok (.invokevirtual 81, 3) := by decide +kernel
theorem dX11_open_80 : decode cX11_open 80 = .ok (.ifCond .eq 10, 3) := by decide +kernel
theorem dX11_open_83 : decode cX11_open 83 = .ok (.aload_n 0, 1) := by decide +kernel
theorem dX11_open_84 : decode cX11_open 84 = .ok (.bipush (-4), 2) := by decide +kernel
theorem dX11_open_86 : decode cX11_open 86 = .ok (.invokevirtual 61, 3) := by decide +kernel
theorem dX11_open_89 : decode cX11_open 89 = .ok (.ireturn, 1) := by decide +kernel
theorem dX11_open_90 : decode cX11_open 90 = .ok (.iload_n 1, 1) := by decide +kernel
theorem dX11_open_91 : decode cX11_open 91 = .ok (.ifCond .ne 15, 3) := by decide +kernel
theorem dX11_open_94 : decode cX11_open 94 = .ok (.aload 5, 2) := by decide +kernel
theorem dX11_open_96 : decode cX11_open 96 = .ok (.iload_n 2, 1) := by decide +kernel
theorem dX11_open_97 : decode cX11_open 97 = .ok (.iload_n 3, 1) := by decide +kernel
theorem dX11_open_98 : decode cX11_open 98 = .ok (.iload 4, 2) := by decide +kernel
theorem dX11_open_100 : decode cX11_open 100 = .ok (.invokevirtual 87, 3) := by decide +kernel
theorem dX11_open_103 : decode cX11_open 103 = .ok (.goto 11, 3) := by decide +kernel
theorem dX11_open_106 : decode cX11_open 106 = .ok (.aload 5, 2) := by decide +kernel
theorem dX11_open_108 : decode cX11_open 108 = .ok (.iload_n 2, 1) := by decide +kernel
theorem dX11_open_109 : decode cX11_open 109 = .ok (.iconst 0, 1) := by decide +kernel
theorem dX11_open_110 : decode cX11_open 110 = .ok (.iconst 0, 1) := by decide +kernel
theorem dX11_open_111 : decode cX11_open 111 = .ok (.invokevirtual 87, 3) := by decide +kernel
theorem dX11_open_114 : decode cX11_open 114 = .ok (.ireturn, 1) := by decide +kernel
theorem dX11_line_0 : decode cX11_line 0 = .ok (.iload_n 1, 1) := by decide +kernel
theorem dX11_line_1 : decode cX11_line 1 = .ok (.i2l, 1) := by decide +kernel
theorem dX11_line_2 : decode cX11_line 2 = .ok (.lconst 0, 1) := by decide +kernel
theorem dX11_line_3 : decode cX11_line 3 = .ok (.ldc2_w 91, 3) := by decide +kernel
theorem dX11_line_6 : decode cX11_line 6 = .ok (.invokestatic 69, 3) := by decide +kernel
theorem dX11_line_9 : decode cX11_line 9 = .ok (.ifCond .ne 10, 3) := by decide +kernel
theorem dX11_line_12 : decode cX11_line 12 = .ok (.aload_n 0, 1) := by decide +kernel
theorem dX11_line_13 : decode cX11_line 13 = .ok (.bipush (-2), 2) := by decide +kernel
theorem dX11_line_15 : decode cX11_line 15 = .ok (.invokevirtual 61, 3) := by decide +kernel
theorem dX11_line_18 : decode cX11_line 18 = .ok (.ireturn, 1) := by decide +kernel
theorem dX11_line_19 : decode cX11_line 19 = .ok (.aload_n 0, 1) := by decide +kernel
theorem dX11_line_20 : decode cX11_line 20 = .ok (.getfield 10, 3) := by decide +kernel
theorem dX11_line_23 : decode cX11_line 23 = .ok (.iload_n 1, 1) := by decide +kernel
theorem dX11_line_24 : decode cX11_line 24 = .ok (.invokevirtual 77, 3) := by decide +kernel
theorem dX11_line_27 : decode cX11_line 27 = .ok (.astore 6, 2) := by decide +kernel
theorem dX11_line_29 : decode cX11_line 29 = .ok (.iload_n 1, 1) := by decide +kernel
theorem dX11_line_30 : decode cX11_line 30 = .ok (.iconst 2, 1) := by decide +kernel
theorem dX11_line_31 : decode cX11_line 31 = .ok (.if_icmp .ne 7, 3) := by decide +kernel
theorem dX11_line_34 : decode cX11_line 34 = .ok (.iconst 0, 1) := by decide +kernel
theorem dX11_line_35 : decode cX11_line 35 = .ok (.goto 4, 3) := by decide +kernel
theorem dX11_line_38 : decode cX11_line 38 = .ok (.iload_n 2, 1) := by decide +kernel
theorem dX11_line_39 : decode cX11_line 39 = .ok (.istore 7, 2) := by decide +kernel
theorem dX11_line_41 : decode cX11_line 41 = .ok (.aload 6, 2) := by decide +kernel
theorem dX11_line_43 : decode cX11_line 43 = .ok (.iload 7, 2) := by decide +kernel
theorem dX11_line_45 : decode cX11_line 45 = .ok (.invokevirtual 93, 3) := by decide +kernel
theorem dX11_line_48 : decode cX11_line 48 = .ok (.ifCond .ne 10, 3) := by decide +kernel
theorem dX11_line_51 : decode cX11_line 51 = .ok (.aload_n 0, 1) := by decide +kernel
theorem dX11_line_52 : decode cX11_line 52 = .ok (.bipush (-2), 2) := by decide +kernel
theorem dX11_line_54 : decode cX11_line 54 = .ok (.invokevirtual 61, 3) := by decide +kernel
theorem dX11_line_57 : decode cX11_line 57 = .ok (.ireturn, 1) := by decide +kernel
theorem dX11_line_58 : decode cX11_line 58 = .ok (.iload_n 1, 1) := by decide +kernel
theorem dX11_line_59 : decode cX11_line 59 = .ok (.iconst 2, 1) := by decide +kernel
theorem dX11_line_60 : decode cX11_line 60 = .ok (.if_icmp .ne 22, 3) := by decide +kernel
theorem dX11_line_63 : decode cX11_line 63 = .ok (.iload_n 3, 1) := by decide +kernel
theorem dX11_line_64 : decode cX11_line 64 = .ok (.i2l, 1) := by decide +kernel
theorem dX11_line_65 : decode cX11_line 65 = .ok (.lconst 0, 1) := by decide +kernel
theorem dX11_line_66 : decode cX11_line 66 = .ok (.ldc2_w 65, 3) := by decide +kernel
theorem dX11_line_69 : decode cX11_line 69 = .ok (.invokestatic 69, 3) := by decide +kernel
theorem dX11_line_72 : decode cX11_line 72 = .ok (.ifCond .ne 10, 3) := by decide +kernel
theorem dX11_line_75 : decode cX11_line 75 = .ok (.aload_n 0, 1) := by decide +kernel
theorem dX11_line_76 : decode cX11_line 76 = .ok (.bipush (-3), 2) := by decide +kernel
theorem dX11_line_78 : decode cX11_line 78 = .ok (.invokevirtual 61, 3) := by decide +kernel
theorem dX11_line_81 : decode cX11_line 81 = .ok (.ireturn, 1) := by decide +kernel
theorem dX11_line_82 : decode cX11_line 82 = .ok (.lload 4, 2) := by decide +kernel
theorem dX11_line_84 : decode cX11_line 84 = .ok (.invokestatic 97, 3) := by decide +kernel
theorem dX11_line_87 : decode cX11_line 87 = .ok (.lstore 8, 2) := by decide +kernel
theorem dX11_line_89 : decode cX11_line 89 = .ok (.lload 8, 2) := by decide +kernel
theorem dX11_line_91 : decode cX11_line 91 = .ok (.lconst 0, 1) := by decide +kernel
theorem dX11_line_92 : decode cX11_line 92 = .ok (.lcmp, 1) := by decide +kernel
theorem dX11_line_93 : decode cX11_line 93 = .ok (.ifCond .ne 10, 3) := by decide +kernel
theorem dX11_line_96 : decode cX11_line 96 = .ok (.aload_n 0, 1) := by decide +kernel
theorem dX11_line_97 : decode cX11_line 97 = .ok (.bipush (-3), 2) := by decide +kernel
theorem dX11_line_99 : decode cX11_line 99 = .ok (.invokevirtual 61, 3) := by decide +kernel
theorem dX11_line_102 : decode cX11_line 102 = .ok (.ireturn, 1) := by decide +kernel
theorem dX11_line_103 : decode cX11_line 103 = .ok (.aload 6, 2) := by decide +kernel
theorem dX11_line_105 : decode cX11_line 105 = .ok (.iload 7, 2) := by decide +kernel
theorem dX11_line_107 : decode cX11_line 107 = .ok (.invokevirtual 103, 3) := by decide +kernel
theorem dX11_line_110 : decode cX11_line 110 = .ok (.ifCond .eq 10, 3) := by decide +kernel
theorem dX11_line_113 : decode cX11_line 113 = .ok (.aload_n 0, 1) := by decide +kernel
theorem dX11_line_114 : decode cX11_line 114 = .ok (.bipush (-4), 2) := by decide +kernel
theorem dX11_line_116 : decode cX11_line 116 = .ok (.invokevirtual 61, 3) := by decide +kernel
theorem dX11_line_119 : decode cX11_line 119 = .ok (.ireturn, 1) := by decide +kernel
theorem dX11_line_120 : decode cX11_line 120 = .ok (.iload_n 1, 1) := by decide +kernel
theorem dX11_line_121 : decode cX11_line 121 = .ok (.ifCond .ne 15, 3) := by decide +kernel
theorem dX11_line_124 : decode cX11_line 124 = .ok (.aload_n 0, 1) := by decide +kernel
theorem dX11_line_125 : decode cX11_line 125 = .ok (.getfield 10, 3) := by decide +kernel
theorem dX11_line_128 : decode cX11_line 128 = .ok (.iload 7, 2) := by decide +kernel
theorem dX11_line_130 : decode cX11_line 130 = .ok (.lload 8, 2) := by decide +kernel
theorem dX11_line_132 : decode cX11_line 132 = .ok (.invokevirtual 105, 3) := by decide +kernel
theorem dX11_line_135 : decode cX11_line 135 = .ok (.ireturn, 1) := by decide +kernel
theorem dX11_line_136 : decode cX11_line 136 = .ok (.aload 6, 2) := by decide +kernel
theorem dX11_line_138 : decode cX11_line 138 = .ok (.iload 7, 2) := by decide +kernel
theorem dX11_line_140 : decode cX11_line 140 = .ok (.iload_n 1, 1) := by decide +kernel
theorem dX11_line_141 : decode cX11_line 141 = .ok (.iconst 2, 1) := by decide +kernel
theorem dX11_line_142 : decode cX11_line 142 = .ok (.if_icmp .ne 7, 3) := by decide +kernel
theorem dX11_line_145 : decode cX11_line 145 = .ok (.iload_n 3, 1) := by decide +kernel
theorem dX11_line_146 : decode cX11_line 146 = .ok (.goto 4, 3) := by decide +kernel
theorem dX11_line_149 : decode cX11_line 149 = .ok (.iconst 0, 1) := by decide +kernel
theorem dX11_line_150 : decode cX11_line 150 = .ok (.lload 8, 2) := by decide +kernel
theorem dX11_line_152 : decode cX11_line 152 = .ok (.invokevirtual 109, 3) := by decide +kernel
theorem dX11_line_155 : decode cX11_line 155 = .ok (.ireturn, 1) := by decide +kernel
theorem dX11_print_0 : decode cX11_print 0 = .ok (.iload_n 1, 1) := by decide +kernel
theorem dX11_print_1 : decode cX11_print 1 = .ok (.i2l, 1) := by decide +kernel
theorem dX11_print_2 : decode cX11_print 2 = .ok (.lconst 0, 1) := by decide +kernel
theorem dX11_print_3 : decode cX11_print 3 = .ok (.ldc2_w 113, 3) := by decide +kernel
theorem dX11_print_6 : decode cX11_print 6 = .ok (.invokestatic 69, 3) := by decide +kernel
theorem dX11_print_9 : decode cX11_print 9 = .ok (.ifCond .ne 10, 3) := by decide +kernel
theorem dX11_print_12 : decode cX11_print 12 = .ok (.aload_n 0, 1) := by decide +kernel
theorem dX11_print_13 : decode cX11_print 13 = .ok (.bipush (-3), 2) := by decide +kernel
theorem dX11_print_15 : decode cX11_print 15 = .ok (.invokevirtual 61, 3) := by decide +kernel
theorem dX11_print_18 : decode cX11_print 18 = .ok (.ireturn, 1) := by decide +kernel
theorem dX11_print_19 : decode cX11_print 19 = .ok (.aload_n 0, 1) := by decide +kernel
theorem dX11_print_20 : decode cX11_print 20 = .ok (.getfield 10, 3) := by decide +kernel
theorem dX11_print_23 : decode cX11_print 23 = .ok (.getfield 115, 3) := by decide +kernel
theorem dX11_print_26 : decode cX11_print 26 = .ok (.getfield 119, 3) := by decide +kernel
theorem dX11_print_29 : decode cX11_print 29 = .ok (.iconst 0, 1) := by decide +kernel
theorem dX11_print_30 : decode cX11_print 30 = .ok (.iaload, 1) := by decide +kernel
theorem dX11_print_31 : decode cX11_print 31 = .ok (.istore_n 2, 1) := by decide +kernel
theorem dX11_print_32 : decode cX11_print 32 = .ok (.aload_n 0, 1) := by decide +kernel
theorem dX11_print_33 : decode cX11_print 33 = .ok (.getfield 10, 3) := by decide +kernel
theorem dX11_print_36 : decode cX11_print 36 = .ok (.getfield 115, 3) := by decide +kernel
theorem dX11_print_39 : decode cX11_print 39 = .ok (.getfield 119, 3) := by decide +kernel
theorem dX11_print_42 : decode cX11_print 42 = .ok (.iconst 0, 1) := by decide +kernel
theorem dX11_print_43 : decode cX11_print 43 = .ok (.iload_n 1, 1) := by decide +kernel
theorem dX11_print_44 : decode cX11_print 44 = .ok (.iastore, 1) := by decide +kernel
theorem dX11_print_45 : decode cX11_print 45 = .ok (.iload_n 2, 1) := by decide +kernel
theorem dX11_print_46 : decode cX11_print 46 = .ok (.ireturn, 1) := by decide +kernel
theorem dX11_bounds_0 : decode cX11_bounds 0 = .ok (.iload_n 1, 1) := by decide +kernel
theorem dX11_bounds_1 : decode cX11_bounds 1 = .ok (.i2l, 1) := by decide +kernel
theorem dX11_bounds_2 : decode cX11_bounds 2 = .ok (.lconst 1, 1) := by decide +kernel
theorem dX11_bounds_3 : decode cX11_bounds 3 = .ok (.ldc2_w 122, 3) := by decide +kernel
theorem dX11_bounds_6 : decode cX11_bounds 6 = .ok (.invokestatic 69, 3) := by decide +kernel
theorem dX11_bounds_9 : decode cX11_bounds 9 = .ok (.ifCond .eq 14, 3) := by decide +kernel
theorem dX11_bounds_12 : decode cX11_bounds 12 = .ok (.iload_n 2, 1) := by decide +kernel
theorem dX11_bounds_13 : decode cX11_bounds 13 = .ok (.i2l, 1) := by decide +kernel
theorem dX11_bounds_14 : decode cX11_bounds 14 = .ok (.lconst 1, 1) := by decide +kernel
theorem dX11_bounds_15 : decode cX11_bounds 15 = .ok (.iload_n 1, 1) := by decide +kernel
theorem dX11_bounds_16 : decode cX11_bounds 16 = .ok (.i2l, 1) := by decide +kernel
theorem dX11_bounds_17 : decode cX11_bounds 17 = .ok (.invokestatic 69, 3) := by decide +kernel
theorem dX11_bounds_20 : decode cX11_bounds 20 = .ok (.ifCond .ne 10, 3) := by decide +kernel
theorem dX11_bounds_23 : decode cX11_bounds 23 = .ok (.aload_n 0, 1) := by decide +kernel
theorem dX11_bounds_24 : decode cX11_bounds 24 = .ok (.bipush (-3), 2) := by decide +kernel
theorem dX11_bounds_26 : decode cX11_bounds 26 = .ok (.invokevirtual 61, 3) := by decide +kernel
theorem dX11_bounds_29 : decode cX11_bounds 29 = .ok (.ireturn, 1) := by decide +kernel
theorem dX11_bounds_30 : decode cX11_bounds 30 = .ok (.aload_n 0, 1) := by decide +kernel
theorem dX11_bounds_31 : decode cX11_bounds 31 = .ok (.getfield 10, 3) := by decide +kernel
theorem dX11_bounds_34 : decode cX11_bounds 34 = .ok (.iload_n 1, 1) := by decide +kernel
theorem dX11_bounds_35 : decode cX11_bounds 35 = .ok (.putfield 124, 3) := by decide +kernel
theorem dX11_bounds_38 : decode cX11_bounds 38 = .ok (.aload_n 0, 1) := by decide +kernel
theorem dX11_bounds_39 : decode cX11_bounds 39 = .ok (.getfield 10, 3) := by decide +kernel
theorem dX11_bounds_42 : decode cX11_bounds 42 = .ok (.iload_n 2, 1) := by decide +kernel
theorem dX11_bounds_43 : decode cX11_bounds 43 = .ok (.putfield 128, 3) := by decide +kernel
theorem dX11_bounds_46 : decode cX11_bounds 46 = .ok (.iconst 0, 1) := by decide +kernel
theorem dX11_bounds_47 : decode cX11_bounds 47 = .ok (.ireturn, 1) := by decide +kernel
theorem dX11_words_0 : decode cX11_words 0 = .ok (.iload_n 1, 1) := by decide +kernel
theorem dX11_words_1 : decode cX11_words 1 = .ok (.i2l, 1) := by decide +kernel
theorem dX11_words_2 : decode cX11_words 2 = .ok (.lconst 0, 1) := by decide +kernel
theorem dX11_words_3 : decode cX11_words 3 = .ok (.ldc2_w 131, 3) := by decide +kernel
theorem dX11_words_6 : decode cX11_words 6 = .ok (.invokestatic 69, 3) := by decide +kernel
theorem dX11_words_9 : decode cX11_words 9 = .ok (.ifCond .ne 11, 3) := by decide +kernel
theorem dX11_words_12 : decode cX11_words 12 = .ok (.aload_n 0, 1) := by decide +kernel
theorem dX11_words_13 : decode cX11_words 13 = .ok (.bipush (-2), 2) := by decide +kernel
theorem dX11_words_15 : decode cX11_words 15 = .ok (.invokevirtual 61, 3) := by decide +kernel
theorem dX11_words_18 : decode cX11_words 18 = .ok (.i2l, 1) := by decide +kernel
theorem dX11_words_19 : decode cX11_words 19 = .ok (.lreturn, 1) := by decide +kernel
theorem dX11_words_20 : decode cX11_words 20 = .ok (.aload_n 0, 1) := by decide +kernel
theorem dX11_words_21 : decode cX11_words 21 = .ok (.getfield 10, 3) := by decide +kernel
theorem dX11_words_24 : decode cX11_words 24 = .ok (.iload_n 1, 1) := by decide +kernel
theorem dX11_words_25 : decode cX11_words 25 = .ok (.invokevirtual 77, 3) := by decide +kernel
theorem dX11_words_28 : decode cX11_words 28 = .ok (.astore 4, 2) := by decide +kernel
theorem dX11_words_30 : decode cX11_words 30 = .ok (.iload_n 1, 1) := by decide +kernel
theorem dX11_words_31 : decode cX11_words 31 = .ok (.iconst 2, 1) := by decide +kernel
theorem dX11_words_32 : decode cX11_words 32 = .ok (.if_icmp .ne 7, 3) := by decide +kernel
theorem dX11_words_35 : decode cX11_words 35 = .ok (.iconst 0, 1) := by decide +kernel
theorem dX11_words_36 : decode cX11_words 36 = .ok (.goto 4, 3) := by decide +kernel
theorem dX11_words_39 : decode cX11_words 39 = .ok (.iload_n 2, 1) := by decide +kernel
theorem dX11_words_40 : decode cX11_words 40 = .ok (.istore 5, 2) := by decide +kernel
theorem dX11_words_42 : decode cX11_words 42 = .ok (.iload_n 1, 1) := by decide +kernel
theorem dX11_words_43 : decode cX11_words 43 = .ok (.iconst 3, 1) := by decide +kernel
theorem dX11_words_44 : decode cX11_words 44 = .ok (.if_icmp .ne 7, 3) := by decide +kernel
theorem dX11_words_47 : decode cX11_words 47 = .ok (.iconst 0, 1) := by decide +kernel
theorem dX11_words_48 : decode cX11_words 48 = .ok (.goto 13, 3) := by decide +kernel
theorem dX11_words_51 : decode cX11_words 51 = .ok (.iload_n 1, 1) := by decide +kernel
theorem dX11_words_52 : decode cX11_words 52 = .ok (.iconst 4, 1) := by decide +kernel
theorem dX11_words_53 : decode cX11_words 53 = .ok (.if_icmp .ne 7, 3) := by decide +kernel
theorem dX11_words_56 : decode cX11_words 56 = .ok (.iconst 1, 1) := by decide +kernel
theorem dX11_words_57 : decode cX11_words 57 = .ok (.goto 4, 3) := by decide +kernel
theorem dX11_words_60 : decode cX11_words 60 = .ok (.iload_n 3, 1) := by decide +kernel
theorem dX11_words_61 : decode cX11_words 61 = .ok (.istore 6, 2) := by decide +kernel
theorem dX11_words_63 : decode cX11_words 63 = .ok (.aload 4, 2) := by decide +kernel
theorem dX11_words_65 : decode cX11_words 65 = .ok (.iload 5, 2) := by decide +kernel
theorem dX11_words_67 : decode cX11_words 67 = .ok (.iload 6, 2) := by decide +kernel
theorem dX11_words_69 : decode cX11_words 69 = .ok (.invokevirtual 133, 3) := by decide +kernel
theorem dX11_words_72 : decode cX11_words 72 = .ok (.ifCond .ne 11, 3) := by decide +kernel
theorem dX11_words_75 : decode cX11_words 75 = .ok (.aload_n 0, 1) := by decide +kernel
theorem dX11_words_76 : decode cX11_words 76 = .ok (.bipush (-2), 2) := by decide +kernel
theorem dX11_words_78 : decode cX11_words 78 = .ok (.invokevirtual 61, 3) := by decide +kernel
theorem dX11_words_81 : decode cX11_words 81 = .ok (.i2l, 1) := by decide +kernel
theorem dX11_words_82 : decode cX11_words 82 = .ok (.lreturn, 1) := by decide +kernel
theorem dX11_words_83 : decode cX11_words 83 = .ok (.aload 4, 2) := by decide +kernel
theorem dX11_words_85 : decode cX11_words 85 = .ok (.iload 5, 2) := by decide +kernel
theorem dX11_words_87 : decode cX11_words 87 = .ok (.iload 6, 2) := by decide +kernel
theorem dX11_words_89 : decode cX11_words 89 = .ok (.invokevirtual 135, 3) := by decide +kernel
theorem dX11_words_92 : decode cX11_words 92 = .ok (.lreturn, 1) := by decide +kernel
theorem dX11_like_0 : decode cX11_like 0 = .ok (.lload_n 1, 1) := by decide +kernel
theorem dX11_like_1 : decode cX11_like 1 = .ok (.invokestatic 97, 3) := by decide +kernel
theorem dX11_like_4 : decode cX11_like 4 = .ok (.lstore 5, 2) := by decide +kernel
theorem dX11_like_6 : decode cX11_like 6 = .ok (.lload_n 3, 1) := by decide +kernel
theorem dX11_like_7 : decode cX11_like 7 = .ok (.invokestatic 97, 3) := by decide +kernel
theorem dX11_like_10 : decode cX11_like 10 = .ok (.lstore 7, 2) := by decide +kernel
theorem dX11_like_12 : decode cX11_like 12 = .ok (.lload 5, 2) := by decide +kernel
theorem dX11_like_14 : decode cX11_like 14 = .ok (.lconst 0, 1) := by decide +kernel
theorem dX11_like_15 : decode cX11_like 15 = .ok (.lcmp, 1) := by decide +kernel
theorem dX11_like_16 : decode cX11_like 16 = .ok (.ifCond .eq 10, 3) := by decide +kernel
theorem dX11_like_19 : decode cX11_like 19 = .ok (.lload 7, 2) := by decide +kernel
theorem dX11_like_21 : decode cX11_like 21 = .ok (.lconst 0, 1) := by decide +kernel
theorem dX11_like_22 : decode cX11_like 22 = .ok (.lcmp, 1) := by decide +kernel
theorem dX11_like_23 : decode cX11_like 23 = .ok (.ifCond .ne 10, 3) := by decide +kernel
theorem dX11_like_26 : decode cX11_like 26 = .ok (.aload_n 0, 1) := by decide +kernel
theorem dX11_like_27 : decode cX11_like 27 = .ok (.bipush (-3), 2) := by decide +kernel
theorem dX11_like_29 : decode cX11_like 29 = .ok (.invokevirtual 61, 3) := by decide +kernel
theorem dX11_like_32 : decode cX11_like 32 = .ok (.ireturn, 1) := by decide +kernel
theorem dX11_like_33 : decode cX11_like 33 = .ok (.lload 5, 2) := by decide +kernel
theorem dX11_like_35 : decode cX11_like 35 = .ok (.lload 7, 2) := by decide +kernel
theorem dX11_like_37 : decode cX11_like 37 = .ok (.invokestatic 139, 3) := by decide +kernel
theorem dX11_like_40 : decode cX11_like 40 = .ok (.ireturn, 1) := by decide +kernel
theorem dX11_feed_0 : decode cX11_feed 0 = .ok (.aload_n 0, 1) := by decide +kernel
theorem dX11_feed_1 : decode cX11_feed 1 = .ok (.getfield 143, 3) := by decide +kernel
theorem dX11_feed_4 : decode cX11_feed 4 = .ok (.bipush 20, 2) := by decide +kernel
theorem dX11_feed_6 : decode cX11_feed 6 = .ok (.iadd, 1) := by decide +kernel
theorem dX11_feed_7 : decode cX11_feed 7 = .ok (.sipush 400, 3) := by decide +kernel
theorem dX11_feed_10 : decode cX11_feed 10 = .ok (.if_icmp .le 10, 3) := by decide +kernel
theorem dX11_feed_13 : decode cX11_feed 13 = .ok (.aload_n 0, 1) := by decide +kernel
theorem dX11_feed_14 : decode cX11_feed 14 = .ok (.bipush (-4), 2) := by decide +kernel
theorem dX11_feed_16 : decode cX11_feed 16 = .ok (.invokevirtual 61, 3) := by decide +kernel
theorem dX11_feed_19 : decode cX11_feed 19 = .ok (.ireturn, 1) := by decide +kernel
theorem dX11_feed_20 : decode cX11_feed 20 = .ok (.aload_n 0, 1) := by decide +kernel
theorem dX11_feed_21 : decode cX11_feed 21 = .ok (.iload_n 1, 1) := by decide +kernel
theorem dX11_feed_22 : decode cX11_feed 22 = .ok (.invokevirtual 146, 3) := by decide +kernel
theorem dX11_feed_25 : decode cX11_feed 25 = .ok (.aload_n 0, 1) := by decide +kernel
theorem dX11_feed_26 : decode cX11_feed 26 = .ok (.iload_n 2, 1) := by decide +kernel
theorem dX11_feed_27 : decode cX11_feed 27 = .ok (.invokevirtual 146, 3) := by decide +kernel
theorem dX11_feed_30 : decode cX11_feed 30 = .ok (.aload_n 0, 1) := by decide +kernel
theorem dX11_feed_31 : decode cX11_feed 31 = .ok (.iload_n 3, 1) := by decide +kernel
theorem dX11_feed_32 : decode cX11_feed 32 = .ok (.invokevirtual 146, 3) := by decide +kernel
theorem dX11_feed_35 : decode cX11_feed 35 = .ok (.aload_n 0, 1) := by decide +kernel
theorem dX11_feed_36 : decode cX11_feed 36 = .ok (.iload 4, 2) := by decide +kernel
theorem dX11_feed_38 : decode cX11_feed 38 = .ok (.invokevirtual 146, 3) := by decide +kernel
theorem dX11_feed_41 : decode cX11_feed 41 = .ok (.aload_n 0, 1) := by decide +kernel
theorem dX11_feed_42 : decode cX11_feed 42 = .ok (.iload 5, 2) := by decide +kernel
theorem dX11_feed_44 : decode cX11_feed 44 = .ok (.invokevirtual 146, 3) := by decide +kernel
theorem dX11_feed_47 : decode cX11_feed 47 = .ok (.aload_n 0, 1) := by decide +kernel
theorem dX11_feed_48 : decode cX11_feed 48 = .ok (.getfield 143, 3) := by decide +kernel
theorem dX11_feed_51 : decode cX11_feed 51 = .ok (.ireturn, 1) := by decide +kernel
theorem dX11_feedInt_0 : decode cX11_feedInt 0 = .ok (.bipush 24, 2) := by decide +kernel
theorem dX11_feedInt_2 : decode cX11_feedInt 2 = .ok (.istore_n 2, 1) := by decide +kernel
theorem dX11_feedInt_3 : decode cX11_feedInt 3 = .ok (.iload_n 2, 1) := by decide +kernel
theorem dX11_feedInt_4 : decode cX11_feedInt 4 = .ok (.ifCond .lt 44, 3) := by decide +kernel
theorem dX11_feedInt_7 : decode cX11_feedInt 7 = .ok (.aload_n 0, 1) := by decide +kernel
theorem dX11_feedInt_8 : decode cX11_feedInt 8 = .ok (.getfield 143, 3) := by decide +kernel
theorem dX11_feedInt_11 : decode cX11_feedInt 11 = .ok (.aload_n 0, 1) := by decide +kernel
theorem dX11_feedInt_12 : decode cX11_feedInt 12 = .ok (.getfield 49, 3) := by decide +kernel
theorem dX11_feedInt_15 : decode cX11_feedInt 15 = .ok (.arraylength, 1) := by decide +kernel
theorem dX11_feedInt_16 : decode cX11_feedInt 16 = .ok (.if_icmp .ge 26, 3) := by decide +kernel
theorem dX11_feedInt_19 : decode cX11_feedInt 19 = .ok (.aload_n 0, 1) := by decide +kernel
theorem dX11_feedInt_20 : decode cX11_feedInt 20 = .ok (.getfield 49, 3) := by decide +kernel
theorem dX11_feedInt_23 : decode cX11_feedInt 23 = .ok (.aload_n 0, 1) := by decide +kernel
theorem dX11_feedInt_24 : decode cX11_feedInt 24 = .ok (.getfield 143, 3) := by decide +kernel
theorem dX11_feedInt_27 : decode cX11_feedInt 27 = .ok (.iload_n 1, 1) := by decide +kernel
theorem dX11_feedInt_28 : decode cX11_feedInt 28 = .ok (.iload_n 2, 1) := by decide +kernel
theorem dX11_feedInt_29 : decode cX11_feedInt 29 = .ok (.iushr, 1) := by decide +kernel
theorem dX11_feedInt_30 : decode cX11_feedInt 30 = .ok (.i2b, 1) := by decide +kernel
theorem dX11_feedInt_31 : decode cX11_feedInt 31 = .ok (.bastore, 1) := by decide +kernel
theorem dX11_feedInt_32 : decode cX11_feedInt 32 = .ok (.aload_n 0, 1) := by decide +kernel
theorem dX11_feedInt_33 : decode cX11_feedInt 33 = .ok (.dup, 1) := by decide +kernel
theorem dX11_feedInt_34 : decode cX11_feedInt 34 = .ok (.getfield 143, 3) := by decide +kernel
theorem dX11_feedInt_37 : decode cX11_feedInt 37 = .ok (.iconst 1, 1) := by decide +kernel
theorem dX11_feedInt_38 : decode cX11_feedInt 38 = .ok (.iadd, 1) := by decide +kernel
theorem dX11_feedInt_39 : decode cX11_feedInt 39 = .ok (.putfield 143, 3) := by decide +kernel
theorem dX11_feedInt_42 : decode cX11_feedInt 42 = .ok (.iinc 2 (-8), 3) := by decide +kernel
theorem dX11_feedInt_45 : decode cX11_feedInt 45 = .ok (.goto (-42), 3) := by decide +kernel
theorem dX11_feedInt_48 : decode cX11_feedInt 48 = .ok (.return_, 1) := by decide +kernel
theorem dX11_text_0 : decode cX11_text 0 = .ok (.iload_n 1, 1) := by decide +kernel
theorem dX11_text_1 : decode cX11_text 1 = .ok (.ifCond .eq 15, 3) := by decide +kernel
theorem dX11_text_4 : decode cX11_text 4 = .ok (.iload_n 1, 1) := by decide +kernel
theorem dX11_text_5 : decode cX11_text 5 = .ok (.iconst 1, 1) := by decide +kernel
theorem dX11_text_6 : decode cX11_text 6 = .ok (.if_icmp .eq 10, 3) := by decide +kernel
theorem dX11_text_9 : decode cX11_text 9 = .ok (.aload_n 0, 1) := by decide +kernel
theorem dX11_text_10 : decode cX11_text 10 = .ok (.bipush (-2), 2) := by decide +kernel
theorem dX11_text_12 : decode cX11_text 12 = .ok (.invokevirtual 61, 3) := by decide +kernel
theorem dX11_text_15 : decode cX11_text 15 = .ok (.ireturn, 1) := by decide +kernel
theorem dX11_text_16 : decode cX11_text 16 = .ok (.iload_n 2, 1) := by decide +kernel
theorem dX11_text_17 : decode cX11_text 17 = .ok (.i2l, 1) := by decide +kernel
theorem dX11_text_18 : decode cX11_text 18 = .ok (.lconst 0, 1) := by decide +kernel
theorem dX11_text_19 : decode cX11_text 19 = .ok (.aload_n 0, 1) := by decide +kernel
theorem dX11_text_20 : decode cX11_text 20 = .ok (.getfield 143, 3) := by decide +kernel
theorem dX11_text_23 : decode cX11_text 23 = .ok (.i2l, 1) := by decide +kernel
theorem dX11_text_24 : decode cX11_text 24 = .ok (.invokestatic 69, 3) := by decide +kernel
theorem dX11_text_27 : decode cX11_text 27 = .ok (.ifCond .ne 10, 3) := by decide +kernel
theorem dX11_text_30 : decode cX11_text 30 = .ok (.aload_n 0, 1) := by decide +kernel
theorem dX11_text_31 : decode cX11_text 31 = .ok (.bipush (-3), 2) := by decide +kernel
theorem dX11_text_33 : decode cX11_text 33 = .ok (.invokevirtual 61, 3) := by decide +kernel
theorem dX11_text_36 : decode cX11_text 36 = .ok (.ireturn, 1) := by decide +kernel
theorem dX11_text_37 : decode cX11_text 37 = .ok (.aload_n 0, 1) := by decide +kernel
theorem dX11_text_38 : decode cX11_text 38 = .ok (.iconst 0, 1) := by decide +kernel
theorem dX11_text_39 : decode cX11_text 39 = .ok (.putfield 143, 3) := by decide +kernel
theorem dX11_text_42 : decode cX11_text 42 = .ok (.aload_n 0, 1) := by decide +kernel
theorem dX11_text_43 : decode cX11_text 43 = .ok (.getfield 45, 3) := by decide +kernel
theorem dX11_text_46 : decode cX11_text 46 = .ok (.aload_n 0, 1) := by decide +kernel
theorem dX11_text_47 : decode cX11_text 47 = .ok (.getfield 49, 3) := by decide +kernel
theorem dX11_text_50 : decode cX11_text 50 = .ok (.iload_n 2, 1) := by decide +kernel
theorem dX11_text_51 : decode cX11_text 51 = .ok (.invokevirtual 150, 3) := by decide +kernel
theorem dX11_text_54 : decode cX11_text 54 = .ok (.iload_n 1, 1) := by decide +kernel
theorem dX11_text_55 : decode cX11_text 55 = .ok (.ifCond .ne 13, 3) := by decide +kernel
theorem dX11_text_58 : decode cX11_text 58 = .ok (.aload_n 0, 1) := by decide +kernel
theorem dX11_text_59 : decode cX11_text 59 = .ok (.getfield 45, 3) := by decide +kernel
theorem dX11_text_62 : decode cX11_text 62 = .ok (.invokevirtual 154, 3) := by decide +kernel
theorem dX11_text_65 : decode cX11_text 65 = .ok (.goto 10, 3) := by decide +kernel
theorem dX11_text_68 : decode cX11_text 68 = .ok (.aload_n 0, 1) := by decide +kernel
theorem dX11_text_69 : decode cX11_text 69 = .ok (.getfield 45, 3) := by decide +kernel
theorem dX11_text_72 : decode cX11_text 72 = .ok (.invokevirtual 157, 3) := by decide +kernel
theorem dX11_text_75 : decode cX11_text 75 = .ok (.aload_n 0, 1) := by decide +kernel
theorem dX11_text_76 : decode cX11_text 76 = .ok (.getfield 45, 3) := by decide +kernel
theorem dX11_text_79 : decode cX11_text 79 = .ok (.getfield 160, 3) := by decide +kernel
theorem dX11_text_82 : decode cX11_text 82 = .ok (.ifCond .eq 18, 3) := by decide +kernel
theorem dX11_text_85 : decode cX11_text 85 = .ok (.aload_n 0, 1) := by decide +kernel
theorem dX11_text_86 : decode cX11_text 86 = .ok (.bipush (-10), 2) := by decide +kernel
theorem dX11_text_88 : decode cX11_text 88 = .ok (.aload_n 0, 1) := by decide +kernel
theorem dX11_text_89 : decode cX11_text 89 = .ok (.getfield 45, 3) := by decide +kernel
theorem dX11_text_92 : decode cX11_text 92 = .ok (.getfield 160, 3) := by decide +kernel
theorem dX11_text_95 : decode cX11_text 95 = .ok (.isub, 1) := by decide +kernel
theorem dX11_text_96 : decode cX11_text 96 = .ok (.invokevirtual 61, 3) := by decide +kernel
theorem dX11_text_99 : decode cX11_text 99 = .ok (.ireturn, 1) := by decide +kernel
theorem dX11_text_100 : decode cX11_text 100 = .ok (.iload_n 1, 1) := by decide +kernel
theorem dX11_text_101 : decode cX11_text 101 = .ok (.ifCond .ne 28, 3) := by decide +kernel
theorem dX11_text_104 : decode cX11_text 104 = .ok (.aload_n 0, 1) := by decide +kernel
theorem dX11_text_105 : decode cX11_text 105 = .ok (.getfield 10, 3) := by decide +kernel
theorem dX11_text_108 : decode cX11_text 108 = .ok (.aload_n 0, 1) := by decide +kernel
theorem dX11_text_109 : decode cX11_text 109 = .ok (.getfield 45, 3) := by decide +kernel
theorem dX11_text_112 : decode cX11_text 112 = .ok (.getfield 163, 3) := by decide +kernel
theorem dX11_text_115 : decode cX11_text 115 = .ok (.invokevirtual 167, 3) := by decide +kernel
theorem dX11_text_118 : decode cX11_text 118 = .ok (.aload_n 0, 1) := by decide +kernel
theorem dX11_text_119 : decode cX11_text 119 = .ok (.getfield 10, 3) := by decide +kernel
theorem dX11_text_122 : decode cX11_text 122 = .ok (.getfield 171, 3) := by decide +kernel
theorem dX11_text_125 : decode cX11_text 125 = .ok (.getfield 172, 3) := by decide +kernel
theorem dX11_text_128 : decode cX11_text 128 = .ok (.ireturn, 1) := by decide +kernel
theorem dX11_text_129 : decode cX11_text 129 = .ok (.aload_n 0, 1) := by decide +kernel
theorem dX11_text_130 : decode cX11_text 130 = .ok (.getfield 10, 3) := by decide +kernel
theorem dX11_text_133 : decode cX11_text 133 = .ok (.getfield 177, 3) := by decide +kernel
theorem dX11_text_136 : decode cX11_text 136 = .ok (.aload_n 0, 1) := by decide +kernel
theorem dX11_text_137 : decode cX11_text 137 = .ok (.getfield 45, 3) := by decide +kernel
theorem dX11_text_140 : decode cX11_text 140 = .ok (.getfield 181, 3) := by decide +kernel
theorem dX11_text_143 : decode cX11_text 143 = .ok (.invokevirtual 182, 3) := by decide +kernel
theorem dX11_text_146 : decode cX11_text 146 = .ok (.aload_n 0, 1) := by decide +kernel
theorem dX11_text_147 : decode cX11_text 147 = .ok (.getfield 10, 3) := by decide +kernel
theorem dX11_text_150 : decode cX11_text 150 = .ok (.getfield 177, 3) := by decide +kernel
theorem dX11_text_153 : decode cX11_text 153 = .ok (.getfield 188, 3) := by decide +kernel
theorem dX11_text_156 : decode cX11_text 156 = .ok (.ireturn, 1) := by decide +kernel
theorem dX11_fault_0 : decode cX11_fault 0 = .ok (.iload_n 1, 1) := by decide +kernel
theorem dX11_fault_1 : decode cX11_fault 1 = .ok (.ifCond .ne 11, 3) := by decide +kernel
theorem dX11_fault_4 : decode cX11_fault 4 = .ok (.aload_n 0, 1) := by decide +kernel
theorem dX11_fault_5 : decode cX11_fault 5 = .ok (.getfield 45, 3) := by decide +kernel
theorem dX11_fault_8 : decode cX11_fault 8 = .ok (.getfield 160, 3) := by decide +kernel
theorem dX11_fault_11 : decode cX11_fault 11 = .ok (.ireturn, 1) := by decide +kernel
theorem dX11_fault_12 : decode cX11_fault 12 = .ok (.iload_n 1, 1) := by decide +kernel
theorem dX11_fault_13 : decode cX11_fault 13 = .ok (.iconst 1, 1) := by decide +kernel
theorem dX11_fault_14 : decode cX11_fault 14 = .ok (.if_icmp .ne 23, 3) := by decide +kernel
theorem dX11_fault_17 : decode cX11_fault 17 = .ok (.aload_n 0, 1) := by decide +kernel
theorem dX11_fault_18 : decode cX11_fault 18 = .ok (.getfield 45, 3) := by decide +kernel
theorem dX11_fault_21 : decode cX11_fault 21 = .ok (.getfield 160, 3) := by decide +kernel
theorem dX11_fault_24 : decode cX11_fault 24 = .ok (.ifCond .eq 13, 3) := by decide +kernel
theorem dX11_fault_27 : decode cX11_fault 27 = .ok (.aload_n 0, 1) := by decide +kernel
theorem dX11_fault_28 : decode cX11_fault 28 = .ok (.getfield 45, 3) := by decide +kernel
theorem dX11_fault_31 : decode cX11_fault 31 = .ok (.getfield 191, 3) := by decide +kernel
theorem dX11_fault_34 : decode cX11_fault 34 = .ok (.goto 4, 3) := by decide +kernel
theorem dX11_fault_37 : decode cX11_fault 37 = .ok (.iconst (-1), 1) := by decide +kernel
theorem dX11_fault_38 : decode cX11_fault 38 = .ok (.ireturn, 1) := by decide +kernel
theorem dX11_smoothed_0 : decode cX11_smoothed 0 = .ok (.lload_n 1, 1) := by decide +kernel
theorem dX11_smoothed_1 : decode cX11_smoothed 1 = .ok (.invokestatic 97, 3) := by decide +kernel
theorem dX11_smoothed_4 : decode cX11_smoothed 4 = .ok (.lstore 4, 2) := by decide +kernel
theorem dX11_smoothed_6 : decode cX11_smoothed 6 = .ok (.lload 4, 2) := by decide +kernel
theorem dX11_smoothed_8 : decode cX11_smoothed 8 = .ok (.lconst 0, 1) := by decide +kernel
theorem dX11_smoothed_9 : decode cX11_smoothed 9 = .ok (.lcmp, 1) := by decide +kernel
theorem dX11_smoothed_10 : decode cX11_smoothed 10 = .ok (.ifCond .eq 15, 3) := by decide +kernel
theorem dX11_smoothed_13 : decode cX11_smoothed 13 = .ok (.iload_n 3, 1) := by decide +kernel
theorem dX11_smoothed_14 : decode cX11_smoothed 14 = .ok (.i2l, 1) := by decide +kernel
theorem dX11_smoothed_15 : decode cX11_smoothed 15 = .ok (.lconst 0, 1) := by decide +kernel
theorem dX11_smoothed_16 : decode cX11_smoothed 16 = .ok (.ldc2_w 65, 3) := by decide +kernel
theorem dX11_smoothed_19 : decode cX11_smoothed 19 = .ok (.invokestatic 69, 3) := by decide +kernel
theorem dX11_smoothed_22 : decode cX11_smoothed 22 = .ok (.ifCond .ne 11, 3) := by decide +kernel
theorem dX11_smoothed_25 : decode cX11_smoothed 25 = .ok (.aload_n 0, 1) := by decide +kernel
theorem dX11_smoothed_26 : decode cX11_smoothed 26 = .ok (.bipush (-3), 2) := by decide +kernel
theorem dX11_smoothed_28 : decode cX11_smoothed 28 = .ok (.invokevirtual 61, 3) := by decide +kernel
theorem dX11_smoothed_31 : decode cX11_smoothed 31 = .ok (.i2l, 1) := by decide +kernel
theorem dX11_smoothed_32 : decode cX11_smoothed 32 = .ok (.lreturn, 1) := by decide +kernel
theorem dX11_smoothed_33 : decode cX11_smoothed 33 = .ok (.aload_n 0, 1) := by decide +kernel
theorem dX11_smoothed_34 : decode cX11_smoothed 34 = .ok (.getfield 10, 3) := by decide +kernel
theorem dX11_smoothed_37 : decode cX11_smoothed 37 = .ok (.getfield 171, 3) := by decide +kernel
theorem dX11_smoothed_40 : decode cX11_smoothed 40 = .ok (.lload 4, 2) := by decide +kernel
theorem dX11_smoothed_42 : decode cX11_smoothed 42 = .ok (.iload_n 3, 1) := by decide +kernel
theorem dX11_smoothed_43 : decode cX11_smoothed 43 = .ok (.invokevirtual 194, 3) := by decide +kernel
theorem dX11_smoothed_46 : decode cX11_smoothed 46 = .ok (.lreturn, 1) := by decide +kernel
theorem dX11_told_0 : decode cX11_told 0 = .ok (.aload_n 0, 1) := by decide +kernel
theorem dX11_told_1 : decode cX11_told 1 = .ok (.getfield 10, 3) := by decide +kernel
theorem dX11_told_4 : decode cX11_told 4 = .ok (.getfield 198, 3) := by decide +kernel
theorem dX11_told_7 : decode cX11_told 7 = .ok (.iload_n 1, 1) := by decide +kernel
theorem dX11_told_8 : decode cX11_told 8 = .ok (.invokevirtual 93, 3) := by decide +kernel
theorem dX11_told_11 : decode cX11_told 11 = .ok (.ifCond .ne 10, 3) := by decide +kernel
theorem dX11_told_14 : decode cX11_told 14 = .ok (.aload_n 0, 1) := by decide +kernel
theorem dX11_told_15 : decode cX11_told 15 = .ok (.bipush (-2), 2) := by decide +kernel
theorem dX11_told_17 : decode cX11_told 17 = .ok (.invokevirtual 61, 3) := by decide +kernel
theorem dX11_told_20 : decode cX11_told 20 = .ok (.ireturn, 1) := by decide +kernel
theorem dX11_told_21 : decode cX11_told 21 = .ok (.iload_n 2, 1) := by decide +kernel
theorem dX11_told_22 : decode cX11_told 22 = .ok (.iload_n 3, 1) := by decide +kernel
theorem dX11_told_23 : decode cX11_told 23 = .ok (.invokestatic 73, 3) := by decide +kernel
theorem dX11_told_26 : decode cX11_told 26 = .ok (.ifCond .ne 10, 3) := by decide +kernel
theorem dX11_told_29 : decode cX11_told 29 = .ok (.aload_n 0, 1) := by decide +kernel
theorem dX11_told_30 : decode cX11_told 30 = .ok (.bipush (-3), 2) := by decide +kernel
theorem dX11_told_32 : decode cX11_told 32 = .ok (.invokevirtual 61, 3) := by decide +kernel
theorem dX11_told_35 : decode cX11_told 35 = .ok (.ireturn, 1) := by decide +kernel
theorem dX11_told_36 : decode cX11_told 36 = .ok (.aload_n 0, 1) := by decide +kernel
theorem dX11_told_37 : decode cX11_told 37 = .ok (.getfield 10, 3) := by decide +kernel
theorem dX11_told_40 : decode cX11_told 40 = .ok (.getfield 198, 3) := by decide +kernel
theorem dX11_told_43 : decode cX11_told 43 = .ok (.invokevirtual 81, 3) := by decide +kernel
theorem dX11_told_46 : decode cX11_told 46 = .ok (.ifCond .eq 10, 3) := by decide +kernel
theorem dX11_told_49 : decode cX11_told 49 = .ok (.aload_n 0, 1) := by decide +kernel
theorem dX11_told_50 : decode cX11_told 50 = .ok (.bipush (-4), 2) := by decide +kernel
theorem dX11_told_52 : decode cX11_told 52 = .ok (.invokevirtual 61, 3) := by decide +kernel
theorem dX11_told_55 : decode cX11_told 55 = .ok (.ireturn, 1) := by decide +kernel
theorem dX11_told_56 : decode cX11_told 56 = .ok (.aload_n 0, 1) := by decide +kernel
theorem dX11_told_57 : decode cX11_told 57 = .ok (.getfield 10, 3) := by decide +kernel
theorem dX11_told_60 : decode cX11_told 60 = .ok (.iload_n 1, 1) := by decide +kernel
theorem dX11_told_61 : decode cX11_told 61 = .ok (.iload 4, 2) := by decide +kernel
theorem dX11_told_63 : decode cX11_told 63 = .ok (.aload_n 0, 1) := by decide +kernel
theorem dX11_told_64 : decode cX11_told 64 = .ok (.getfield 53, 3) := by decide +kernel
theorem dX11_told_67 : decode cX11_told 67 = .ok (.invokevirtual 201, 3) := by decide +kernel
theorem dX11_told_70 : decode cX11_told 70 = .ok (.istore 5, 2) := by decide +kernel
theorem dX11_told_72 : decode cX11_told 72 = .ok (.iload 5, 2) := by decide +kernel
theorem dX11_told_74 : decode cX11_told 74 = .ok (.ifCond .ne 10, 3) := by decide +kernel
theorem dX11_told_77 : decode cX11_told 77 = .ok (.aload_n 0, 1) := by decide +kernel
theorem dX11_told_78 : decode cX11_told 78 = .ok (.bipush (-5), 2) := by decide +kernel
theorem dX11_told_80 : decode cX11_told 80 = .ok (.invokevirtual 61, 3) := by decide +kernel
theorem dX11_told_83 : decode cX11_told 83 = .ok (.ireturn, 1) := by decide +kernel
theorem dX11_told_84 : decode cX11_told 84 = .ok (.aload_n 0, 1) := by decide +kernel
theorem dX11_told_85 : decode cX11_told 85 = .ok (.getfield 10, 3) := by decide +kernel
theorem dX11_told_88 : decode cX11_told 88 = .ok (.getfield 198, 3) := by decide +kernel
theorem dX11_told_91 : decode cX11_told 91 = .ok (.aload_n 0, 1) := by decide +kernel
theorem dX11_told_92 : decode cX11_told 92 = .ok (.getfield 10, 3) := by decide +kernel
theorem dX11_told_95 : decode cX11_told 95 = .ok (.getfield 198, 3) := by decide +kernel
theorem dX11_told_98 : decode cX11_told 98 = .ok (.getfield 205, 3) := by decide +kernel
theorem dX11_told_101 : decode cX11_told 101 = .ok (.iload_n 1, 1) := by decide +kernel
theorem dX11_told_102 : decode cX11_told 102 = .ok (.iaload, 1) := by decide +kernel
theorem dX11_told_103 : decode cX11_told 103 = .ok (.iload_n 2, 1) := by decide +kernel
theorem dX11_told_104 : decode cX11_told 104 = .ok (.iload_n 3, 1) := by decide +kernel
theorem dX11_told_105 : decode cX11_told 105 = .ok (.invokevirtual 87, 3) := by decide +kernel
theorem dX11_told_108 : decode cX11_told 108 = .ok (.istore 6, 2) := by decide +kernel
theorem dX11_told_110 : decode cX11_told 110 = .ok (.iconst 0, 1) := by decide +kernel
theorem dX11_told_111 : decode cX11_told 111 = .ok (.istore 7, 2) := by decide +kernel
theorem dX11_told_113 : decode cX11_told 113 = .ok (.iload 7, 2) := by decide +kernel
theorem dX11_told_115 : decode cX11_told 115 = .ok (.iload 5, 2) := by decide +kernel
theorem dX11_told_117 : decode cX11_told 117 = .ok (.if_icmp .ge 36, 3) := by decide +kernel
theorem dX11_told_120 : decode cX11_told 120 = .ok (.iload 7, 2) := by decide +kernel
theorem dX11_told_122 : decode cX11_told 122 = .ok (.aload_n 0, 1) := by decide +kernel
theorem dX11_told_123 : decode cX11_told 123 = .ok (.getfield 53, 3) := by decide +kernel
theorem dX11_told_126 : decode cX11_told 126 = .ok (.arraylength, 1) := by decide +kernel
theorem dX11_told_127 : decode cX11_told 127 = .ok (.if_icmp .ge 26, 3) := by decide +kernel
theorem dX11_told_130 : decode cX11_told 130 = .ok (.aload_n 0, 1) := by decide +kernel
theorem dX11_told_131 : decode cX11_told 131 = .ok (.getfield 10, 3) := by decide +kernel
theorem dX11_told_134 : decode cX11_told 134 = .ok (.iload 6, 2) := by decide +kernel
theorem dX11_told_136 : decode cX11_told 136 = .ok (.aload_n 0, 1) := by decide +kernel
theorem dX11_told_137 : decode cX11_told 137 = .ok (.getfield 53, 3) := by decide +kernel
theorem dX11_told_140 : decode cX11_told 140 = .ok (.iload 7, 2) := by decide +kernel
theorem dX11_told_142 : decode cX11_told 142 = .ok (.laload, 1) := by decide +kernel
theorem dX11_told_143 : decode cX11_told 143 = .ok (.invokevirtual 105, 3) := by decide +kernel
theorem dX11_told_146 : decode cX11_told 146 = .ok (.pop, 1) := by decide +kernel
theorem dX11_told_147 : decode cX11_told 147 = .ok (.iinc 7 1, 3) := by decide +kernel
theorem dX11_told_150 : decode cX11_told 150 = .ok (.goto (-37), 3) := by decide +kernel
theorem dX11_told_153 : decode cX11_told 153 = .ok (.iload 6, 2) := by decide +kernel
theorem dX11_told_155 : decode cX11_told 155 = .ok (.ireturn, 1) := by decide +kernel
theorem dX11_whose_0 : decode cX11_whose 0 = .ok (.aload_n 0, 1) := by decide +kernel
theorem dX11_whose_1 : decode cX11_whose 1 = .ok (.getfield 10, 3) := by decide +kernel
theorem dX11_whose_4 : decode cX11_whose 4 = .ok (.getfield 115, 3) := by decide +kernel
theorem dX11_whose_7 : decode cX11_whose 7 = .ok (.iconst 0, 1) := by decide +kernel
theorem dX11_whose_8 : decode cX11_whose 8 = .ok (.iload_n 1, 1) := by decide +kernel
theorem dX11_whose_9 : decode cX11_whose 9 = .ok (.invokevirtual 133, 3) := by decide +kernel
theorem dX11_whose_12 : decode cX11_whose 12 = .ok (.ifCond .eq 10, 3) := by decide +kernel
theorem dX11_whose_15 : decode cX11_whose 15 = .ok (.iload_n 2, 1) := by decide +kernel
theorem dX11_whose_16 : decode cX11_whose 16 = .ok (.invokestatic 208, 3) := by decide +kernel
theorem dX11_whose_19 : decode cX11_whose 19 = .ok (.ifCond .ne 10, 3) := by decide +kernel
theorem dX11_whose_22 : decode cX11_whose 22 = .ok (.aload_n 0, 1) := by decide +kernel
theorem dX11_whose_23 : decode cX11_whose 23 = .ok (.bipush (-2), 2) := by decide +kernel
theorem dX11_whose_25 : decode cX11_whose 25 = .ok (.invokevirtual 61, 3) := by decide +kernel
theorem dX11_whose_28 : decode cX11_whose 28 = .ok (.ireturn, 1) := by decide +kernel
theorem dX11_whose_29 : decode cX11_whose 29 = .ok (.aload_n 0, 1) := by decide +kernel
theorem dX11_whose_30 : decode cX11_whose 30 = .ok (.getfield 31, 3) := by decide +kernel
theorem dX11_whose_33 : decode cX11_whose 33 = .ok (.iload_n 1, 1) := by decide +kernel
theorem dX11_whose_34 : decode cX11_whose 34 = .ok (.invokevirtual 211, 3) := by decide +kernel
theorem dX11_whose_37 : decode cX11_whose 37 = .ok (.iload_n 2, 1) := by decide +kernel
theorem dX11_whose_38 : decode cX11_whose 38 = .ok (.ifCond .ne 13, 3) := by decide +kernel
theorem dX11_whose_41 : decode cX11_whose 41 = .ok (.aload_n 0, 1) := by decide +kernel
theorem dX11_whose_42 : decode cX11_whose 42 = .ok (.getfield 31, 3) := by decide +kernel
theorem dX11_whose_45 : decode cX11_whose 45 = .ok (.getfield 214, 3) := by decide +kernel
theorem dX11_whose_48 : decode cX11_whose 48 = .ok (.goto 10, 3) := by decide +kernel
theorem dX11_whose_51 : decode cX11_whose 51 = .ok (.aload_n 0, 1) := by decide +kernel
theorem dX11_whose_52 : decode cX11_whose 52 = .ok (.getfield 31, 3) := by decide +kernel
theorem dX11_whose_55 : decode cX11_whose 55 = .ok (.getfield 217, 3) := by decide +kernel
theorem dX11_whose_58 : decode cX11_whose 58 = .ok (.ireturn, 1) := by decide +kernel
theorem dX11_late_0 : decode cX11_late 0 = .ok (.aload_n 0, 1) := by decide +kernel
theorem dX11_late_1 : decode cX11_late 1 = .ok (.getfield 10, 3) := by decide +kernel
theorem dX11_late_4 : decode cX11_late 4 = .ok (.getfield 198, 3) := by decide +kernel
theorem dX11_late_7 : decode cX11_late 7 = .ok (.iload_n 1, 1) := by decide +kernel
theorem dX11_late_8 : decode cX11_late 8 = .ok (.iload_n 2, 1) := by decide +kernel
theorem dX11_late_9 : decode cX11_late 9 = .ok (.invokevirtual 133, 3) := by decide +kernel
theorem dX11_late_12 : decode cX11_late 12 = .ok (.ifCond .ne 10, 3) := by decide +kernel
theorem dX11_late_15 : decode cX11_late 15 = .ok (.aload_n 0, 1) := by decide +kernel
theorem dX11_late_16 : decode cX11_late 16 = .ok (.bipush (-2), 2) := by decide +kernel
theorem dX11_late_18 : decode cX11_late 18 = .ok (.invokevirtual 61, 3) := by decide +kernel
theorem dX11_late_21 : decode cX11_late 21 = .ok (.ireturn, 1) := by decide +kernel
theorem dX11_late_22 : decode cX11_late 22 = .ok (.aload_n 0, 1) := by decide +kernel
theorem dX11_late_23 : decode cX11_late 23 = .ok (.getfield 10, 3) := by decide +kernel
theorem dX11_late_26 : decode cX11_late 26 = .ok (.iload_n 1, 1) := by decide +kernel
theorem dX11_late_27 : decode cX11_late 27 = .ok (.invokevirtual 220, 3) := by decide +kernel
theorem dX11_late_30 : decode cX11_late 30 = .ok (.ifCond .eq 10, 3) := by decide +kernel
theorem dX11_late_33 : decode cX11_late 33 = .ok (.aload_n 0, 1) := by decide +kernel
theorem dX11_late_34 : decode cX11_late 34 = .ok (.bipush (-5), 2) := by decide +kernel
theorem dX11_late_36 : decode cX11_late 36 = .ok (.invokevirtual 61, 3) := by decide +kernel
theorem dX11_late_39 : decode cX11_late 39 = .ok (.ireturn, 1) := by decide +kernel
theorem dX11_late_40 : decode cX11_late 40 = .ok (.aload_n 0, 1) := by decide +kernel
theorem dX11_late_41 : decode cX11_late 41 = .ok (.getfield 10, 3) := by decide +kernel
theorem dX11_late_44 : decode cX11_late 44 = .ok (.getfield 198, 3) := by decide +kernel
theorem dX11_late_47 : decode cX11_late 47 = .ok (.iload_n 1, 1) := by decide +kernel
theorem dX11_late_48 : decode cX11_late 48 = .ok (.iload_n 2, 1) := by decide +kernel
theorem dX11_late_49 : decode cX11_late 49 = .ok (.invokevirtual 135, 3) := by decide +kernel
theorem dX11_late_52 : decode cX11_late 52 = .ok (.lstore_n 3, 1) := by decide +kernel
theorem dX11_late_53 : decode cX11_late 53 = .ok (.aload_n 0, 1) := by decide +kernel
theorem dX11_late_54 : decode cX11_late 54 = .ok (.getfield 31, 3) := by decide +kernel
theorem dX11_late_57 : decode cX11_late 57 = .ok (.bipush 6, 2) := by decide +kernel
theorem dX11_late_59 : decode cX11_late 59 = .ok (.lload_n 3, 1) := by decide +kernel
theorem dX11_late_60 : decode cX11_late 60 = .ok (.iconst (-1), 1) := by decide +kernel
theorem dX11_late_61 : decode cX11_late 61 = .ok (.invokevirtual 223, 3) := by decide +kernel
theorem dX11_late_64 : decode cX11_late 64 = .ok (.aload_n 0, 1) := by decide +kernel
theorem dX11_late_65 : decode cX11_late 65 = .ok (.getfield 10, 3) := by decide +kernel
theorem dX11_late_68 : decode cX11_late 68 = .ok (.getfield 124, 3) := by decide +kernel
theorem dX11_late_71 : decode cX11_late 71 = .ok (.if_icmp .lt 5, 3) := by decide +kernel
theorem dX11_late_74 : decode cX11_late 74 = .ok (.iconst 1, 1) := by decide +kernel
theorem dX11_late_75 : decode cX11_late 75 = .ok (.ireturn, 1) := by decide +kernel
theorem dX11_late_76 : decode cX11_late 76 = .ok (.aload_n 0, 1) := by decide +kernel
theorem dX11_late_77 : decode cX11_late 77 = .ok (.getfield 31, 3) := by decide +kernel
theorem dX11_late_80 : decode cX11_late 80 = .ok (.bipush 8, 2) := by decide +kernel
theorem dX11_late_82 : decode cX11_late 82 = .ok (.lload_n 3, 1) := by decide +kernel
theorem dX11_late_83 : decode cX11_late 83 = .ok (.iconst (-1), 1) := by decide +kernel
theorem dX11_late_84 : decode cX11_late 84 = .ok (.invokevirtual 223, 3) := by decide +kernel
theorem dX11_late_87 : decode cX11_late 87 = .ok (.aload_n 0, 1) := by decide +kernel
theorem dX11_late_88 : decode cX11_late 88 = .ok (.getfield 10, 3) := by decide +kernel
theorem dX11_late_91 : decode cX11_late 91 = .ok (.getfield 124, 3) := by decide +kernel
theorem dX11_late_94 : decode cX11_late 94 = .ok (.if_icmp .lt 7, 3) := by decide +kernel
theorem dX11_late_97 : decode cX11_late 97 = .ok (.iconst 2, 1) := by decide +kernel
theorem dX11_late_98 : decode cX11_late 98 = .ok (.goto 4, 3) := by decide +kernel
theorem dX11_late_101 : decode cX11_late 101 = .ok (.iconst 0, 1) := by decide +kernel
theorem dX11_late_102 : decode cX11_late 102 = .ok (.ireturn, 1) := by decide +kernel
theorem dX11_share_0 : decode cX11_share 0 = .ok (.iload_n 1, 1) := by decide +kernel
theorem dX11_share_1 : decode cX11_share 1 = .ok (.i2l, 1) := by decide +kernel
theorem dX11_share_2 : decode cX11_share 2 = .ok (.lconst 0, 1) := by decide +kernel
theorem dX11_share_3 : decode cX11_share 3 = .ok (.ldc2_w 67, 3) := by decide +kernel
theorem dX11_share_6 : decode cX11_share 6 = .ok (.invokestatic 69, 3) := by decide +kernel
theorem dX11_share_9 : decode cX11_share 9 = .ok (.ifCond .eq 10, 3) := by decide +kernel
theorem dX11_share_12 : decode cX11_share 12 = .ok (.iload_n 2, 1) := by decide +kernel
theorem dX11_share_13 : decode cX11_share 13 = .ok (.invokestatic 208, 3) := by decide +kernel
theorem dX11_share_16 : decode cX11_share 16 = .ok (.ifCond .ne 10, 3) := by decide +kernel
theorem dX11_share_19 : decode cX11_share 19 = .ok (.aload_n 0, 1) := by decide +kernel
theorem dX11_share_20 : decode cX11_share 20 = .ok (.bipush (-2), 2) := by decide +kernel
theorem dX11_share_22 : decode cX11_share 22 = .ok (.invokevirtual 61, 3) := by decide +kernel
theorem dX11_share_25 : decode cX11_share 25 = .ok (.ireturn, 1) := by decide +kernel
theorem dX11_share_26 : decode cX11_share 26 = .ok (.aload_n 0, 1) := by decide +kernel
theorem dX11_share_27 : decode cX11_share 27 = .ok (.getfield 10, 3) := by decide +kernel
theorem dX11_share_30 : decode cX11_share 30 = .ok (.getfield 115, 3) := by decide +kernel
theorem dX11_share_33 : decode cX11_share 33 = .ok (.getfield 227, 3) := by decide +kernel
theorem dX11_share_36 : decode cX11_share 36 = .ok (.iconst 0, 1) := by decide +kernel
theorem dX11_share_37 : decode cX11_share 37 = .ok (.iaload, 1) := by decide +kernel
theorem dX11_share_38 : decode cX11_share 38 = .ok (.istore_n 3, 1) := by decide +kernel
theorem dX11_share_39 : decode cX11_share 39 = .ok (.iload_n 3, 1) := by decide +kernel
theorem dX11_share_40 : decode cX11_share 40 = .ok (.ifCond .ne 10, 3) := by decide +kernel
theorem dX11_share_43 : decode cX11_share 43 = .ok (.aload_n 0, 1) := by decide +kernel
theorem dX11_share_44 : decode cX11_share 44 = .ok (.bipush (-5), 2) := by decide +kernel
theorem dX11_share_46 : decode cX11_share 46 = .ok (.invokevirtual 61, 3) := by decide +kernel
theorem dX11_share_49 : decode cX11_share 49 = .ok (.ireturn, 1) := by decide +kernel
theorem dX11_share_50 : decode cX11_share 50 = .ok (.aload_n 0, 1) := by decide +kernel
theorem dX11_share_51 : decode cX11_share 51 = .ok (.getfield 31, 3) := by decide +kernel
theorem dX11_share_54 : decode cX11_share 54 = .ok (.invokevirtual 230, 3) := by decide +kernel
theorem dX11_share_57 : decode cX11_share 57 = .ok (.aload_n 0, 1) := by decide +kernel
theorem dX11_share_58 : decode cX11_share 58 = .ok (.getfield 31, 3) := by decide +kernel
theorem dX11_share_61 : decode cX11_share 61 = .ok (.getfield 233, 3) := by decide +kernel
theorem dX11_share_64 : decode cX11_share 64 = .ok (.iload_n 1, 1) := by decide +kernel
theorem dX11_share_65 : decode cX11_share 65 = .ok (.iaload, 1) := by decide +kernel
theorem dX11_share_66 : decode cX11_share 66 = .ok (.istore 4, 2) := by decide +kernel
theorem dX11_share_68 : decode cX11_share 68 = .ok (.iload_n 2, 1) := by decide +kernel
theorem dX11_share_69 : decode cX11_share 69 = .ok (.ifCond .ne 8, 3) := by decide +kernel
theorem dX11_share_72 : decode cX11_share 72 = .ok (.iload 4, 2) := by decide +kernel
theorem dX11_share_74 : decode cX11_share 74 = .ok (.goto 11, 3) := by decide +kernel
theorem dX11_share_77 : decode cX11_share 77 = .ok (.sipush 1000, 3) := by decide +kernel
theorem dX11_share_80 : decode cX11_share 80 = .ok (.iload 4, 2) := by decide +kernel
theorem dX11_share_82 : decode cX11_share 82 = .ok (.imul, 1) := by decide +kernel
theorem dX11_share_83 : decode cX11_share 83 = .ok (.iload_n 3, 1) := by decide +kernel
theorem dX11_share_84 : decode cX11_share 84 = .ok (.idiv, 1) := by decide +kernel
theorem dX11_share_85 : decode cX11_share 85 = .ok (.ireturn, 1) := by decide +kernel
theorem dX11_span_0 : decode cX11_span 0 = .ok (.iload_n 1, 1) := by decide +kernel
theorem dX11_span_1 : decode cX11_span 1 = .ok (.invokestatic 208, 3) := by decide +kernel
theorem dX11_span_4 : decode cX11_span 4 = .ok (.ifCond .ne 10, 3) := by decide +kernel
theorem dX11_span_7 : decode cX11_span 7 = .ok (.aload_n 0, 1) := by decide +kernel
theorem dX11_span_8 : decode cX11_span 8 = .ok (.bipush (-2), 2) := by decide +kernel
theorem dX11_span_10 : decode cX11_span 10 = .ok (.invokevirtual 61, 3) := by decide +kernel
theorem dX11_span_13 : decode cX11_span 13 = .ok (.ireturn, 1) := by decide +kernel
theorem dX11_span_14 : decode cX11_span 14 = .ok (.aload_n 0, 1) := by decide +kernel
theorem dX11_span_15 : decode cX11_span 15 = .ok (.getfield 10, 3) := by decide +kernel
theorem dX11_span_18 : decode cX11_span 18 = .ok (.getfield 115, 3) := by decide +kernel
theorem dX11_span_21 : decode cX11_span 21 = .ok (.getfield 227, 3) := by decide +kernel
theorem dX11_span_24 : decode cX11_span 24 = .ok (.iconst 0, 1) := by decide +kernel
theorem dX11_span_25 : decode cX11_span 25 = .ok (.iaload, 1) := by decide +kernel
theorem dX11_span_26 : decode cX11_span 26 = .ok (.istore_n 2, 1) := by decide +kernel
theorem dX11_span_27 : decode cX11_span 27 = .ok (.iload_n 2, 1) := by decide +kernel
theorem dX11_span_28 : decode cX11_span 28 = .ok (.ifCond .ne 10, 3) := by decide +kernel
theorem dX11_span_31 : decode cX11_span 31 = .ok (.aload_n 0, 1) := by decide +kernel
theorem dX11_span_32 : decode cX11_span 32 = .ok (.bipush (-5), 2) := by decide +kernel
theorem dX11_span_34 : decode cX11_span 34 = .ok (.invokevirtual 61, 3) := by decide +kernel
theorem dX11_span_37 : decode cX11_span 37 = .ok (.ireturn, 1) := by decide +kernel
theorem dX11_span_38 : decode cX11_span 38 = .ok (.aload_n 0, 1) := by decide +kernel
theorem dX11_span_39 : decode cX11_span 39 = .ok (.getfield 31, 3) := by decide +kernel
theorem dX11_span_42 : decode cX11_span 42 = .ok (.invokevirtual 230, 3) := by decide +kernel
theorem dX11_span_45 : decode cX11_span 45 = .ok (.aload_n 0, 1) := by decide +kernel
theorem dX11_span_46 : decode cX11_span 46 = .ok (.getfield 31, 3) := by decide +kernel
theorem dX11_span_49 : decode cX11_span 49 = .ok (.getfield 233, 3) := by decide +kernel
theorem dX11_span_52 : decode cX11_span 52 = .ok (.iconst 0, 1) := by decide +kernel
theorem dX11_span_53 : decode cX11_span 53 = .ok (.iaload, 1) := by decide +kernel
theorem dX11_span_54 : decode cX11_span 54 = .ok (.aload_n 0, 1) := by decide +kernel
theorem dX11_span_55 : decode cX11_span 55 = .ok (.getfield 31, 3) := by decide +kernel
theorem dX11_span_58 : decode cX11_span 58 = .ok (.getfield 233, 3) := by decide +kernel
theorem dX11_span_61 : decode cX11_span 61 = .ok (.iconst 1, 1) := by decide +kernel
theorem dX11_span_62 : decode cX11_span 62 = .ok (.iaload, 1) := by decide +kernel
theorem dX11_span_63 : decode cX11_span 63 = .ok (.iadd, 1) := by decide +kernel
theorem dX11_span_64 : decode cX11_span 64 = .ok (.aload_n 0, 1) := by decide +kernel
theorem dX11_span_65 : decode cX11_span 65 = .ok (.getfield 31, 3) := by decide +kernel
theorem dX11_span_68 : decode cX11_span 68 = .ok (.getfield 233, 3) := by decide +kernel
theorem dX11_span_71 : decode cX11_span 71 = .ok (.iconst 2, 1) := by decide +kernel
theorem dX11_span_72 : decode cX11_span 72 = .ok (.iaload, 1) := by decide +kernel
theorem dX11_span_73 : decode cX11_span 73 = .ok (.iadd, 1) := by decide +kernel
theorem dX11_span_74 : decode cX11_span 74 = .ok (.istore_n 3, 1) := by decide +kernel
theorem dX11_span_75 : decode cX11_span 75 = .ok (.iload_n 1, 1) := by decide +kernel
theorem dX11_span_76 : decode cX11_span 76 = .ok (.iconst 1, 1) := by decide +kernel
theorem dX11_span_77 : decode cX11_span 77 = .ok (.if_icmp .ne 15, 3) := by decide +kernel
theorem dX11_span_80 : decode cX11_span 80 = .ok (.iload_n 3, 1) := by decide +kernel
theorem dX11_span_81 : decode cX11_span 81 = .ok (.aload_n 0, 1) := by decide +kernel
theorem dX11_span_82 : decode cX11_span 82 = .ok (.getfield 31, 3) := by decide +kernel
theorem dX11_span_85 : decode cX11_span 85 = .ok (.getfield 233, 3) := by decide +kernel
theorem dX11_span_88 : decode cX11_span 88 = .ok (.iconst 4, 1) := by decide +kernel
theorem dX11_span_89 : decode cX11_span 89 = .ok (.iaload, 1) := by decide +kernel
theorem dX11_span_90 : decode cX11_span 90 = .ok (.iadd, 1) := by decide +kernel
theorem dX11_span_91 : decode cX11_span 91 = .ok (.istore_n 3, 1) := by decide +kernel
theorem dX11_span_92 : decode cX11_span 92 = .ok (.sipush 1000, 3) := by decide +kernel
theorem dX11_span_95 : decode cX11_span 95 = .ok (.iload_n 3, 1) := by decide +kernel
theorem dX11_span_96 : decode cX11_span 96 = .ok (.imul, 1) := by decide +kernel
theorem dX11_span_97 : decode cX11_span 97 = .ok (.iload_n 2, 1) := by decide +kernel
theorem dX11_span_98 : decode cX11_span 98 = .ok (.idiv, 1) := by decide +kernel
theorem dX11_span_99 : decode cX11_span 99 = .ok (.ireturn, 1) := by decide +kernel
theorem dX11_chance_0 : decode cX11_chance 0 = .ok (.iload_n 2, 1) := by decide +kernel
theorem dX11_chance_1 : decode cX11_chance 1 = .ok (.invokestatic 208, 3) := by decide +kernel
theorem dX11_chance_4 : decode cX11_chance 4 = .ok (.ifCond .ne 10, 3) := by decide +kernel
theorem dX11_chance_7 : decode cX11_chance 7 = .ok (.aload_n 0, 1) := by decide +kernel
theorem dX11_chance_8 : decode cX11_chance 8 = .ok (.bipush (-2), 2) := by decide +kernel
theorem dX11_chance_10 : decode cX11_chance 10 = .ok (.invokevirtual 61, 3) := by decide +kernel
theorem dX11_chance_13 : decode cX11_chance 13 = .ok (.ireturn, 1) := by decide +kernel
theorem dX11_chance_14 : decode cX11_chance 14 = .ok (.iload_n 1, 1) := by decide +kernel
theorem dX11_chance_15 : decode cX11_chance 15 = .ok (.invokestatic 236, 3) := by decide +kernel
theorem dX11_chance_18 : decode cX11_chance 18 = .ok (.ifCond .ne 10, 3) := by decide +kernel
theorem dX11_chance_21 : decode cX11_chance 21 = .ok (.aload_n 0, 1) := by decide +kernel
theorem dX11_chance_22 : decode cX11_chance 22 = .ok (.bipush (-3), 2) := by decide +kernel
theorem dX11_chance_24 : decode cX11_chance 24 = .ok (.invokevirtual 61, 3) := by decide +kernel
theorem dX11_chance_27 : decode cX11_chance 27 = .ok (.ireturn, 1) := by decide +kernel
theorem dX11_chance_28 : decode cX11_chance 28 = .ok (.aload_n 0, 1) := by decide +kernel
theorem dX11_chance_29 : decode cX11_chance 29 = .ok (.getfield 31, 3) := by decide +kernel
theorem dX11_chance_32 : decode cX11_chance 32 = .ok (.bipush 9, 2) := by decide +kernel
theorem dX11_chance_34 : decode cX11_chance 34 = .ok (.iload_n 1, 1) := by decide +kernel
theorem dX11_chance_35 : decode cX11_chance 35 = .ok (.invokevirtual 239, 3) := by decide +kernel
theorem dX11_chance_38 : decode cX11_chance 38 = .ok (.i2l, 1) := by decide +kernel
theorem dX11_chance_39 : decode cX11_chance 39 = .ok (.aload_n 0, 1) := by decide +kernel
theorem dX11_chance_40 : decode cX11_chance 40 = .ok (.getfield 31, 3) := by decide +kernel
theorem dX11_chance_43 : decode cX11_chance 43 = .ok (.bipush 9, 2) := by decide +kernel
theorem dX11_chance_45 : decode cX11_chance 45 = .ok (.invokevirtual 243, 3) := by decide +kernel
theorem dX11_chance_48 : decode cX11_chance 48 = .ok (.i2l, 1) := by decide +kernel
theorem dX11_chance_49 : decode cX11_chance 49 = .ok (.iload_n 2, 1) := by decide +kernel
theorem dX11_chance_50 : decode cX11_chance 50 = .ok (.invokestatic 246, 3) := by decide +kernel
theorem dX11_chance_53 : decode cX11_chance 53 = .ok (.l2i, 1) := by decide +kernel
theorem dX11_chance_54 : decode cX11_chance 54 = .ok (.ireturn, 1) := by decide +kernel
theorem dX11_odds_0 : decode cX11_odds 0 = .ok (.iload_n 2, 1) := by decide +kernel
theorem dX11_odds_1 : decode cX11_odds 1 = .ok (.invokestatic 208, 3) := by decide +kernel
theorem dX11_odds_4 : decode cX11_odds 4 = .ok (.ifCond .ne 11, 3) := by decide +kernel
theorem dX11_odds_7 : decode cX11_odds 7 = .ok (.aload_n 0, 1) := by decide +kernel
theorem dX11_odds_8 : decode cX11_odds 8 = .ok (.bipush (-2), 2) := by decide +kernel
theorem dX11_odds_10 : decode cX11_odds 10 = .ok (.invokevirtual 61, 3) := by decide +kernel
theorem dX11_odds_13 : decode cX11_odds 13 = .ok (.i2l, 1) := by decide +kernel
theorem dX11_odds_14 : decode cX11_odds 14 = .ok (.lreturn, 1) := by decide +kernel
theorem dX11_odds_15 : decode cX11_odds 15 = .ok (.iload_n 1, 1) := by decide +kernel
theorem dX11_odds_16 : decode cX11_odds 16 = .ok (.invokestatic 236, 3) := by decide +kernel
theorem dX11_odds_19 : decode cX11_odds 19 = .ok (.ifCond .ne 11, 3) := by decide +kernel
theorem dX11_odds_22 : decode cX11_odds 22 = .ok (.aload_n 0, 1) := by decide +kernel
theorem dX11_odds_23 : decode cX11_odds 23 = .ok (.bipush (-3), 2) := by decide +kernel
theorem dX11_odds_25 : decode cX11_odds 25 = .ok (.invokevirtual 61, 3) := by decide +kernel
theorem dX11_odds_28 : decode cX11_odds 28 = .ok (.i2l, 1) := by decide +kernel
theorem dX11_odds_29 : decode cX11_odds 29 = .ok (.lreturn, 1) := by decide +kernel
theorem dX11_odds_30 : decode cX11_odds 30 = .ok (.aload_n 0, 1) := by decide +kernel
theorem dX11_odds_31 : decode cX11_odds 31 = .ok (.getfield 31, 3) := by decide +kernel
theorem dX11_odds_34 : decode cX11_odds 34 = .ok (.bipush 6, 2) := by decide +kernel
theorem dX11_odds_36 : decode cX11_odds 36 = .ok (.iload_n 1, 1) := by decide +kernel
theorem dX11_odds_37 : decode cX11_odds 37 = .ok (.invokevirtual 239, 3) := by decide +kernel
theorem dX11_odds_40 : decode cX11_odds 40 = .ok (.i2l, 1) := by decide +kernel
theorem dX11_odds_41 : decode cX11_odds 41 = .ok (.aload_n 0, 1) := by decide +kernel
theorem dX11_odds_42 : decode cX11_odds 42 = .ok (.getfield 31, 3) := by decide +kernel
theorem dX11_odds_45 : decode cX11_odds 45 = .ok (.bipush 9, 2) := by decide +kernel
theorem dX11_odds_47 : decode cX11_odds 47 = .ok (.invokevirtual 243, 3) := by decide +kernel
theorem dX11_odds_50 : decode cX11_odds 50 = .ok (.i2l, 1) := by decide +kernel
theorem dX11_odds_51 : decode cX11_odds 51 = .ok (.lmul, 1) := by decide +kernel
theorem dX11_odds_52 : decode cX11_odds 52 = .ok (.lstore_n 3, 1) := by decide +kernel
theorem dX11_odds_53 : decode cX11_odds 53 = .ok (.aload_n 0, 1) := by decide +kernel
theorem dX11_odds_54 : decode cX11_odds 54 = .ok (.getfield 31, 3) := by decide +kernel
theorem dX11_odds_57 : decode cX11_odds 57 = .ok (.bipush 6, 2) := by decide +kernel
theorem dX11_odds_59 : decode cX11_odds 59 = .ok (.invokevirtual 243, 3) := by decide +kernel
theorem dX11_odds_62 : decode cX11_odds 62 = .ok (.i2l, 1) := by decide +kernel
theorem dX11_odds_63 : decode cX11_odds 63 = .ok (.aload_n 0, 1) := by decide +kernel
theorem dX11_odds_64 : decode cX11_odds 64 = .ok (.getfield 31, 3) := by decide +kernel
theorem dX11_odds_67 : decode cX11_odds 67 = .ok (.bipush 9, 2) := by decide +kernel
theorem dX11_odds_69 : decode cX11_odds 69 = .ok (.iload_n 1, 1) := by decide +kernel
theorem dX11_odds_70 : decode cX11_odds 70 = .ok (.invokevirtual 239, 3) := by decide +kernel
theorem dX11_odds_73 : decode cX11_odds 73 = .ok (.i2l, 1) := by decide +kernel
theorem dX11_odds_74 : decode cX11_odds 74 = .ok (.lmul, 1) := by decide +kernel
theorem dX11_odds_75 : decode cX11_odds 75 = .ok (.lstore 5, 2) := by decide +kernel
theorem dX11_odds_77 : decode cX11_odds 77 = .ok (.lload_n 3, 1) := by decide +kernel
theorem dX11_odds_78 : decode cX11_odds 78 = .ok (.lload 5, 2) := by decide +kernel
theorem dX11_odds_80 : decode cX11_odds 80 = .ok (.iload_n 2, 1) := by decide +kernel
theorem dX11_odds_81 : decode cX11_odds 81 = .ok (.invokestatic 246, 3) := by decide +kernel
theorem dX11_odds_84 : decode cX11_odds 84 = .ok (.lreturn, 1) := by decide +kernel
theorem dX11_matches_0 : decode cX11_matches 0 = .ok (.aload_n 0, 1) := by decide +kernel
theorem dX11_matches_1 : decode cX11_matches 1 = .ok (.getfield 10, 3) := by decide +kernel
theorem dX11_matches_4 : decode cX11_matches 4 = .ok (.getfield 250, 3) := by decide +kernel
theorem dX11_matches_7 : decode cX11_matches 7 = .ok (.iload_n 1, 1) := by decide +kernel
theorem dX11_matches_8 : decode cX11_matches 8 = .ok (.invokevirtual 93, 3) := by decide +kernel
theorem dX11_matches_11 : decode cX11_matches 11 = .ok (.ifCond .ne 10, 3) := by decide +kernel
theorem dX11_matches_14 : decode cX11_matches 14 = .ok (.aload_n 0, 1) := by decide +kernel
theorem dX11_matches_15 : decode cX11_matches 15 = .ok (.bipush (-2), 2) := by decide +kernel
theorem dX11_matches_17 : decode cX11_matches 17 = .ok (.invokevirtual 61, 3) := by decide +kernel
theorem dX11_matches_20 : decode cX11_matches 20 = .ok (.ireturn, 1) := by decide +kernel
theorem dX11_matches_21 : decode cX11_matches 21 = .ok (.iload_n 2, 1) := by decide +kernel
theorem dX11_matches_22 : decode cX11_matches 22 = .ok (.invokestatic 236, 3) := by decide +kernel
theorem dX11_matches_25 : decode cX11_matches 25 = .ok (.ifCond .ne 10, 3) := by decide +kernel
theorem dX11_matches_28 : decode cX11_matches 28 = .ok (.aload_n 0, 1) := by decide +kernel
theorem dX11_matches_29 : decode cX11_matches 29 = .ok (.bipush (-3), 2) := by decide +kernel
theorem dX11_matches_31 : decode cX11_matches 31 = .ok (.invokevirtual 61, 3) := by decide +kernel
theorem dX11_matches_34 : decode cX11_matches 34 = .ok (.ireturn, 1) := by decide +kernel
theorem dX11_matches_35 : decode cX11_matches 35 = .ok (.aload_n 0, 1) := by decide +kernel
theorem dX11_matches_36 : decode cX11_matches 36 = .ok (.getfield 31, 3) := by decide +kernel
theorem dX11_matches_39 : decode cX11_matches 39 = .ok (.iload_n 1, 1) := by decide +kernel
theorem dX11_matches_40 : decode cX11_matches 40 = .ok (.iload_n 2, 1) := by decide +kernel
theorem dX11_matches_41 : decode cX11_matches 41 = .ok (.invokevirtual 253, 3) := by decide +kernel
theorem dX11_matches_44 : decode cX11_matches 44 = .ok (.ireturn, 1) := by decide +kernel
theorem dX11_most_0 : decode cX11_most 0 = .ok (.iload_n 2, 1) := by decide +kernel
theorem dX11_most_1 : decode cX11_most 1 = .ok (.i2l, 1) := by decide +kernel
theorem dX11_most_2 : decode cX11_most 2 = .ok (.lconst 0, 1) := by decide +kernel
theorem dX11_most_3 : decode cX11_most 3 = .ok (.ldc2_w 91, 3) := by decide +kernel
theorem dX11_most_6 : decode cX11_most 6 = .ok (.invokestatic 69, 3) := by decide +kernel
theorem dX11_most_9 : decode cX11_most 9 = .ok (.ifCond .ne 10, 3) := by decide +kernel
theorem dX11_most_12 : decode cX11_most 12 = .ok (.aload_n 0, 1) := by decide +kernel
theorem dX11_most_13 : decode cX11_most 13 = .ok (.bipush (-2), 2) := by decide +kernel
theorem dX11_most_15 : decode cX11_most 15 = .ok (.invokevirtual 61, 3) := by decide +kernel
theorem dX11_most_18 : decode cX11_most 18 = .ok (.ireturn, 1) := by decide +kernel
theorem dX11_most_19 : decode cX11_most 19 = .ok (.iload_n 1, 1) := by decide +kernel
theorem dX11_most_20 : decode cX11_most 20 = .ok (.invokestatic 236, 3) := by decide +kernel
theorem dX11_most_23 : decode cX11_most 23 = .ok (.ifCond .ne 10, 3) := by decide +kernel
theorem dX11_most_26 : decode cX11_most 26 = .ok (.aload_n 0, 1) := by decide +kernel
theorem dX11_most_27 : decode cX11_most 27 = .ok (.bipush (-3), 2) := by decide +kernel
theorem dX11_most_29 : decode cX11_most 29 = .ok (.invokevirtual 61, 3) := by decide +kernel
theorem dX11_most_32 : decode cX11_most 32 = .ok (.ireturn, 1) := by decide +kernel
theorem dX11_most_33 : decode cX11_most 33 = .ok (.aload_n 0, 1) := by decide +kernel
theorem dX11_most_34 : decode cX11_most 34 = .ok (.getfield 10, 3) := by decide +kernel
theorem dX11_most_37 : decode cX11_most 37 = .ok (.getfield 250, 3) := by decide +kernel
theorem dX11_most_40 : decode cX11_most 40 = .ok (.getfield 256, 3) := by decide +kernel
theorem dX11_most_43 : decode cX11_most 43 = .ok (.istore_n 3, 1) := by decide +kernel
theorem dX11_most_44 : decode cX11_most 44 = .ok (.iload_n 3, 1) := by decide +kernel
theorem dX11_most_45 : decode cX11_most 45 = .ok (.ifCond .ne 10, 3) := by decide +kernel
theorem dX11_most_48 : decode cX11_most 48 = .ok (.aload_n 0, 1) := by decide +kernel
theorem dX11_most_49 : decode cX11_most 49 = .ok (.bipush (-5), 2) := by decide +kernel
theorem dX11_most_51 : decode cX11_most 51 = .ok (.invokevirtual 61, 3) := by decide +kernel
theorem dX11_most_54 : decode cX11_most 54 = .ok (.ireturn, 1) := by decide +kernel
theorem dX11_most_55 : decode cX11_most 55 = .ok (.iconst 0, 1) := by decide +kernel
theorem dX11_most_56 : decode cX11_most 56 = .ok (.istore 4, 2) := by decide +kernel
theorem dX11_most_58 : decode cX11_most 58 = .ok (.iconst 0, 1) := by decide +kernel
theorem dX11_most_59 : decode cX11_most 59 = .ok (.istore 5, 2) := by decide +kernel
theorem dX11_most_61 : decode cX11_most 61 = .ok (.iconst 0, 1) := by decide +kernel
theorem dX11_most_62 : decode cX11_most 62 = .ok (.istore 6, 2) := by decide +kernel
theorem dX11_most_64 : decode cX11_most 64 = .ok (.iconst 0, 1) := by decide +kernel
theorem dX11_most_65 : decode cX11_most 65 = .ok (.istore 7, 2) := by decide +kernel
theorem dX11_most_67 : decode cX11_most 67 = .ok (.iload 7, 2) := by decide +kernel
theorem dX11_most_69 : decode cX11_most 69 = .ok (.iload_n 3, 1) := by decide +kernel
theorem dX11_most_70 : decode cX11_most 70 = .ok (.if_icmp .ge 43, 3) := by decide +kernel
theorem dX11_most_73 : decode cX11_most 73 = .ok (.aload_n 0, 1) := by decide +kernel
theorem dX11_most_74 : decode cX11_most 74 = .ok (.getfield 31, 3) := by decide +kernel
theorem dX11_most_77 : decode cX11_most 77 = .ok (.iload 7, 2) := by decide +kernel
theorem dX11_most_79 : decode cX11_most 79 = .ok (.iload_n 1, 1) := by decide +kernel
theorem dX11_most_80 : decode cX11_most 80 = .ok (.invokevirtual 253, 3) := by decide +kernel
theorem dX11_most_83 : decode cX11_most 83 = .ok (.istore 8, 2) := by decide +kernel
theorem dX11_most_85 : decode cX11_most 85 = .ok (.iload 6, 2) := by decide +kernel
theorem dX11_most_87 : decode cX11_most 87 = .ok (.iload 8, 2) := by decide +kernel
theorem dX11_most_89 : decode cX11_most 89 = .ok (.iadd, 1) := by decide +kernel
theorem dX11_most_90 : decode cX11_most 90 = .ok (.istore 6, 2) := by decide +kernel
theorem dX11_most_92 : decode cX11_most 92 = .ok (.iload 8, 2) := by decide +kernel
theorem dX11_most_94 : decode cX11_most 94 = .ok (.iload 5, 2) := by decide +kernel
theorem dX11_most_96 : decode cX11_most 96 = .ok (.if_icmp .le 11, 3) := by decide +kernel
theorem dX11_most_99 : decode cX11_most 99 = .ok (.iload 8, 2) := by decide +kernel
theorem dX11_most_101 : decode cX11_most 101 = .ok (.istore 5, 2) := by decide +kernel
theorem dX11_most_103 : decode cX11_most 103 = .ok (.iload 7, 2) := by decide +kernel
theorem dX11_most_105 : decode cX11_most 105 = .ok (.istore 4, 2) := by decide +kernel
theorem dX11_most_107 : decode cX11_most 107 = .ok (.iinc 7 1, 3) := by decide +kernel
theorem dX11_most_110 : decode cX11_most 110 = .ok (.goto (-43), 3) := by decide +kernel
theorem dX11_most_113 : decode cX11_most 113 = .ok (.iload_n 2, 1) := by decide +kernel
theorem dX11_most_114 : decode cX11_most 114 = .ok (.iconst 2, 1) := by decide +kernel
theorem dX11_most_115 : decode cX11_most 115 = .ok (.if_icmp .ne 8, 3) := by decide +kernel
theorem dX11_most_118 : decode cX11_most 118 = .ok (.iload 4, 2) := by decide +kernel
theorem dX11_most_120 : decode cX11_most 120 = .ok (.goto 16, 3) := by decide +kernel
theorem dX11_most_123 : decode cX11_most 123 = .ok (.iload 5, 2) := by decide +kernel
theorem dX11_most_125 : decode cX11_most 125 = .ok (.iload_n 3, 1) := by decide +kernel
theorem dX11_most_126 : decode cX11_most 126 = .ok (.imul, 1) := by decide +kernel
theorem dX11_most_127 : decode cX11_most 127 = .ok (.i2l, 1) := by decide +kernel
theorem dX11_most_128 : decode cX11_most 128 = .ok (.iload 6, 2) := by decide +kernel
theorem dX11_most_130 : decode cX11_most 130 = .ok (.i2l, 1) := by decide +kernel
theorem dX11_most_131 : decode cX11_most 131 = .ok (.iload_n 2, 1) := by decide +kernel
theorem dX11_most_132 : decode cX11_most 132 = .ok (.invokestatic 246, 3) := by decide +kernel
theorem dX11_most_135 : decode cX11_most 135 = .ok (.l2i, 1) := by decide +kernel
theorem dX11_most_136 : decode cX11_most 136 = .ok (.ireturn, 1) := by decide +kernel
theorem dX11_adds_0 : decode cX11_adds 0 = .ok (.aload_n 0, 1) := by decide +kernel
theorem dX11_adds_1 : decode cX11_adds 1 = .ok (.getfield 10, 3) := by decide +kernel
theorem dX11_adds_4 : decode cX11_adds 4 = .ok (.getfield 250, 3) := by decide +kernel
theorem dX11_adds_7 : decode cX11_adds 7 = .ok (.iload_n 1, 1) := by decide +kernel
theorem dX11_adds_8 : decode cX11_adds 8 = .ok (.invokevirtual 93, 3) := by decide +kernel
theorem dX11_adds_11 : decode cX11_adds 11 = .ok (.ifCond .ne 10, 3) := by decide +kernel
theorem dX11_adds_14 : decode cX11_adds 14 = .ok (.aload_n 0, 1) := by decide +kernel
theorem dX11_adds_15 : decode cX11_adds 15 = .ok (.bipush (-2), 2) := by decide +kernel
theorem dX11_adds_17 : decode cX11_adds 17 = .ok (.invokevirtual 61, 3) := by decide +kernel
theorem dX11_adds_20 : decode cX11_adds 20 = .ok (.ireturn, 1) := by decide +kernel
theorem dX11_adds_21 : decode cX11_adds 21 = .ok (.iload_n 2, 1) := by decide +kernel
theorem dX11_adds_22 : decode cX11_adds 22 = .ok (.i2l, 1) := by decide +kernel
theorem dX11_adds_23 : decode cX11_adds 23 = .ok (.lconst 0, 1) := by decide +kernel
theorem dX11_adds_24 : decode cX11_adds 24 = .ok (.ldc2_w 65, 3) := by decide +kernel
theorem dX11_adds_27 : decode cX11_adds 27 = .ok (.invokestatic 69, 3) := by decide +kernel
theorem dX11_adds_30 : decode cX11_adds 30 = .ok (.ifCond .ne 10, 3) := by decide +kernel
theorem dX11_adds_33 : decode cX11_adds 33 = .ok (.aload_n 0, 1) := by decide +kernel
theorem dX11_adds_34 : decode cX11_adds 34 = .ok (.bipush (-3), 2) := by decide +kernel
theorem dX11_adds_36 : decode cX11_adds 36 = .ok (.invokevirtual 61, 3) := by decide +kernel
theorem dX11_adds_39 : decode cX11_adds 39 = .ok (.ireturn, 1) := by decide +kernel
theorem dX11_adds_40 : decode cX11_adds 40 = .ok (.aload_n 0, 1) := by decide +kernel
theorem dX11_adds_41 : decode cX11_adds 41 = .ok (.getfield 31, 3) := by decide +kernel
theorem dX11_adds_44 : decode cX11_adds 44 = .ok (.iload_n 1, 1) := by decide +kernel
theorem dX11_adds_45 : decode cX11_adds 45 = .ok (.iload_n 2, 1) := by decide +kernel
theorem dX11_adds_46 : decode cX11_adds 46 = .ok (.iconst (-1), 1) := by decide +kernel
theorem dX11_adds_47 : decode cX11_adds 47 = .ok (.invokevirtual 259, 3) := by decide +kernel
theorem dX11_adds_50 : decode cX11_adds 50 = .ok (.ireturn, 1) := by decide +kernel
theorem dX11_added_0 : decode cX11_added 0 = .ok (.aload_n 0, 1) := by decide +kernel
theorem dX11_added_1 : decode cX11_added 1 = .ok (.getfield 10, 3) := by decide +kernel
theorem dX11_added_4 : decode cX11_added 4 = .ok (.getfield 250, 3) := by decide +kernel
theorem dX11_added_7 : decode cX11_added 7 = .ok (.iload_n 1, 1) := by decide +kernel
theorem dX11_added_8 : decode cX11_added 8 = .ok (.invokevirtual 93, 3) := by decide +kernel
theorem dX11_added_11 : decode cX11_added 11 = .ok (.ifCond .ne 10, 3) := by decide +kernel
theorem dX11_added_14 : decode cX11_added 14 = .ok (.aload_n 0, 1) := by decide +kernel
theorem dX11_added_15 : decode cX11_added 15 = .ok (.bipush (-2), 2) := by decide +kernel
theorem dX11_added_17 : decode cX11_added 17 = .ok (.invokevirtual 61, 3) := by decide +kernel
theorem dX11_added_20 : decode cX11_added 20 = .ok (.ireturn, 1) := by decide +kernel
theorem dX11_added_21 : decode cX11_added 21 = .ok (.iload_n 2, 1) := by decide +kernel
theorem dX11_added_22 : decode cX11_added 22 = .ok (.i2l, 1) := by decide +kernel
theorem dX11_added_23 : decode cX11_added 23 = .ok (.lconst 0, 1) := by decide +kernel
theorem dX11_added_24 : decode cX11_added 24 = .ok (.ldc2_w 65, 3) := by decide +kernel
theorem dX11_added_27 : decode cX11_added 27 = .ok (.invokestatic 69, 3) := by decide +kernel
theorem dX11_added_30 : decode cX11_added 30 = .ok (.ifCond .ne 10, 3) := by decide +kernel
theorem dX11_added_33 : decode cX11_added 33 = .ok (.aload_n 0, 1) := by decide +kernel
theorem dX11_added_34 : decode cX11_added 34 = .ok (.bipush (-3), 2) := by decide +kernel
theorem dX11_added_36 : decode cX11_added 36 = .ok (.invokevirtual 61, 3) := by decide +kernel
theorem dX11_added_39 : decode cX11_added 39 = .ok (.ireturn, 1) := by decide +kernel
theorem dX11_added_40 : decode cX11_added 40 = .ok (.iload_n 3, 1) := by decide +kernel
theorem dX11_added_41 : decode cX11_added 41 = .ok (.ifCond .ge 7, 3) := by decide +kernel
theorem dX11_added_44 : decode cX11_added 44 = .ok (.iconst (-1), 1) := by decide +kernel
theorem dX11_added_45 : decode cX11_added 45 = .ok (.goto 13, 3) := by decide +kernel
theorem dX11_added_48 : decode cX11_added 48 = .ok (.aload_n 0, 1) := by decide +kernel
theorem dX11_added_49 : decode cX11_added 49 = .ok (.getfield 31, 3) := by decide +kernel
theorem dX11_added_52 : decode cX11_added 52 = .ok (.iload_n 1, 1) := by decide +kernel
theorem dX11_added_53 : decode cX11_added 53 = .ok (.iload_n 2, 1) := by decide +kernel
theorem dX11_added_54 : decode cX11_added 54 = .ok (.iload_n 3, 1) := by decide +kernel
theorem dX11_added_55 : decode cX11_added 55 = .ok (.invokevirtual 259, 3) := by decide +kernel
theorem dX11_added_58 : decode cX11_added 58 = .ok (.ireturn, 1) := by decide +kernel
theorem dX11_year_0 : decode cX11_year 0 = .ok (.iload_n 1, 1) := by decide +kernel
theorem dX11_year_1 : decode cX11_year 1 = .ok (.i2l, 1) := by decide +kernel
theorem dX11_year_2 : decode cX11_year 2 = .ok (.lconst 1, 1) := by decide +kernel
theorem dX11_year_3 : decode cX11_year 3 = .ok (.ldc2_w 262, 3) := by decide +kernel
theorem dX11_year_6 : decode cX11_year 6 = .ok (.invokestatic 69, 3) := by decide +kernel
theorem dX11_year_9 : decode cX11_year 9 = .ok (.ifCond .ne 10, 3) := by decide +kernel
theorem dX11_year_12 : decode cX11_year 12 = .ok (.aload_n 0, 1) := by decide +kernel
theorem dX11_year_13 : decode cX11_year 13 = .ok (.bipush (-2), 2) := by decide +kernel
theorem dX11_year_15 : decode cX11_year 15 = .ok (.invokevirtual 61, 3) := by decide +kernel
theorem dX11_year_18 : decode cX11_year 18 = .ok (.ireturn, 1) := by decide +kernel
theorem dX11_year_19 : decode cX11_year 19 = .ok (.iload_n 2, 1) := by decide +kernel
theorem dX11_year_20 : decode cX11_year 20 = .ok (.i2l, 1) := by decide +kernel
theorem dX11_year_21 : decode cX11_year 21 = .ok (.lconst 0, 1) := by decide +kernel
theorem dX11_year_22 : decode cX11_year 22 = .ok (.ldc2_w 113, 3) := by decide +kernel
theorem dX11_year_25 : decode cX11_year 25 = .ok (.invokestatic 69, 3) := by decide +kernel
theorem dX11_year_28 : decode cX11_year 28 = .ok (.ifCond .ne 10, 3) := by decide +kernel
theorem dX11_year_31 : decode cX11_year 31 = .ok (.aload_n 0, 1) := by decide +kernel
theorem dX11_year_32 : decode cX11_year 32 = .ok (.bipush (-3), 2) := by decide +kernel
theorem dX11_year_34 : decode cX11_year 34 = .ok (.invokevirtual 61, 3) := by decide +kernel
theorem dX11_year_37 : decode cX11_year 37 = .ok (.ireturn, 1) := by decide +kernel
theorem dX11_year_38 : decode cX11_year 38 = .ok (.aload_n 0, 1) := by decide +kernel
theorem dX11_year_39 : decode cX11_year 39 = .ok (.getfield 10, 3) := by decide +kernel
theorem dX11_year_42 : decode cX11_year 42 = .ok (.getfield 264, 3) := by decide +kernel
theorem dX11_year_45 : decode cX11_year 45 = .ok (.iload_n 1, 1) := by decide +kernel
theorem dX11_year_46 : decode cX11_year 46 = .ok (.iaload, 1) := by decide +kernel
theorem dX11_year_47 : decode cX11_year 47 = .ok (.istore_n 3, 1) := by decide +kernel
theorem dX11_year_48 : decode cX11_year 48 = .ok (.aload_n 0, 1) := by decide +kernel
theorem dX11_year_49 : decode cX11_year 49 = .ok (.getfield 10, 3) := by decide +kernel
theorem dX11_year_52 : decode cX11_year 52 = .ok (.getfield 264, 3) := by decide +kernel
theorem dX11_year_55 : decode cX11_year 55 = .ok (.iload_n 1, 1) := by decide +kernel
theorem dX11_year_56 : decode cX11_year 56 = .ok (.iload_n 2, 1) := by decide +kernel
theorem dX11_year_57 : decode cX11_year 57 = .ok (.iastore, 1) := by decide +kernel
theorem dX11_year_58 : decode cX11_year 58 = .ok (.iload_n 3, 1) := by decide +kernel
theorem dX11_year_59 : decode cX11_year 59 = .ok (.ireturn, 1) := by decide +kernel
theorem dX11_version_0 : decode cX11_version 0 = .ok (.lload_n 1, 1) := by decide +kernel
theorem dX11_version_1 : decode cX11_version 1 = .ok (.invokestatic 97, 3) := by decide +kernel
theorem dX11_version_4 : decode cX11_version 4 = .ok (.lstore 7, 2) := by decide +kernel
theorem dX11_version_6 : decode cX11_version 6 = .ok (.lload_n 3, 1) := by decide +kernel
theorem dX11_version_7 : decode cX11_version 7 = .ok (.invokestatic 97, 3) := by decide +kernel
theorem dX11_version_10 : decode cX11_version 10 = .ok (.lstore 9, 2) := by decide +kernel
theorem dX11_version_12 : decode cX11_version 12 = .ok (.lload 7, 2) := by decide +kernel
theorem dX11_version_14 : decode cX11_version 14 = .ok (.lconst 0, 1) := by decide +kernel
theorem dX11_version_15 : decode cX11_version 15 = .ok (.lcmp, 1) := by decide +kernel
theorem dX11_version_16 : decode cX11_version 16 = .ok (.ifCond .eq 10, 3) := by decide +kernel
theorem dX11_version_19 : decode cX11_version 19 = .ok (.lload 9, 2) := by decide +kernel
theorem dX11_version_21 : decode cX11_version 21 = .ok (.lconst 0, 1) := by decide +kernel
theorem dX11_version_22 : decode cX11_version 22 = .ok (.lcmp, 1) := by decide +kernel
theorem dX11_version_23 : decode cX11_version 23 = .ok (.ifCond .ne 10, 3) := by decide +kernel
theorem dX11_version_26 : decode cX11_version 26 = .ok (.aload_n 0, 1) := by decide +kernel
theorem dX11_version_27 : decode cX11_version 27 = .ok (.bipush (-3), 2) := by decide +kernel
theorem dX11_version_29 : decode cX11_version 29 = .ok (.invokevirtual 61, 3) := by decide +kernel
theorem dX11_version_32 : decode cX11_version 32 = .ok (.ireturn, 1) := by decide +kernel
theorem dX11_version_33 : decode cX11_version 33 = .ok (.iload 5, 2) := by decide +kernel
theorem dX11_version_35 : decode cX11_version 35 = .ok (.i2l, 1) := by decide +kernel
theorem dX11_version_36 : decode cX11_version 36 = .ok (.lconst 0, 1) := by decide +kernel
theorem dX11_version_37 : decode cX11_version 37 = .ok (.ldc2_w 113, 3) := by decide +kernel
theorem dX11_version_40 : decode cX11_version 40 = .ok (.invokestatic 69, 3) := by decide +kernel
theorem dX11_version_43 : decode cX11_version 43 = .ok (.ifCond .eq 16, 3) := by decide +kernel
theorem dX11_version_46 : decode cX11_version 46 = .ok (.iload 6, 2) := by decide +kernel
theorem dX11_version_48 : decode cX11_version 48 = .ok (.i2l, 1) := by decide +kernel
theorem dX11_version_49 : decode cX11_version 49 = .ok (.lconst 0, 1) := by decide +kernel
theorem dX11_version_50 : decode cX11_version 50 = .ok (.ldc2_w 65, 3) := by decide +kernel
theorem dX11_version_53 : decode cX11_version 53 = .ok (.invokestatic 69, 3) := by decide +kernel
theorem dX11_version_56 : decode cX11_version 56 = .ok (.ifCond .ne 10, 3) := by decide +kernel
theorem dX11_version_59 : decode cX11_version 59 = .ok (.aload_n 0, 1) := by decide +kernel
theorem dX11_version_60 : decode cX11_version 60 = .ok (.bipush (-3), 2) := by decide +kernel
theorem dX11_version_62 : decode cX11_version 62 = .ok (.invokevirtual 61, 3) := by decide +kernel
theorem dX11_version_65 : decode cX11_version 65 = .ok (.ireturn, 1) := by decide +kernel
theorem dX11_version_66 : decode cX11_version 66 = .ok (.aload_n 0, 1) := by decide +kernel
theorem dX11_version_67 : decode cX11_version 67 = .ok (.getfield 10, 3) := by decide +kernel
theorem dX11_version_70 : decode cX11_version 70 = .ok (.getfield 267, 3) := by decide +kernel
theorem dX11_version_73 : decode cX11_version 73 = .ok (.invokevirtual 81, 3) := by decide +kernel
theorem dX11_version_76 : decode cX11_version 76 = .ok (.ifCond .eq 10, 3) := by decide +kernel
theorem dX11_version_79 : decode cX11_version 79 = .ok (.aload_n 0, 1) := by decide +kernel
theorem dX11_version_80 : decode cX11_version 80 = .ok (.bipush (-4), 2) := by decide +kernel
theorem dX11_version_82 : decode cX11_version 82 = .ok (.invokevirtual 61, 3) := by decide +kernel
theorem dX11_version_85 : decode cX11_version 85 = .ok (.ireturn, 1) := by decide +kernel
theorem dX11_version_86 : decode cX11_version 86 = .ok (.aload_n 0, 1) := by decide +kernel
theorem dX11_version_87 : decode cX11_version 87 = .ok (.getfield 10, 3) := by decide +kernel
theorem dX11_version_90 : decode cX11_version 90 = .ok (.getfield 267, 3) := by decide +kernel
theorem dX11_version_93 : decode cX11_version 93 = .ok (.iload 6, 2) := by decide +kernel
theorem dX11_version_95 : decode cX11_version 95 = .ok (.iconst 0, 1) := by decide +kernel
theorem dX11_version_96 : decode cX11_version 96 = .ok (.iload 5, 2) := by decide +kernel
theorem dX11_version_98 : decode cX11_version 98 = .ok (.invokevirtual 87, 3) := by decide +kernel
theorem dX11_version_101 : decode cX11_version 101 = .ok (.istore 11, 2) := by decide +kernel
theorem dX11_version_103 : decode cX11_version 103 = .ok (.aload_n 0, 1) := by decide +kernel
theorem dX11_version_104 : decode cX11_version 104 = .ok (.getfield 10, 3) := by decide +kernel
theorem dX11_version_107 : decode cX11_version 107 = .ok (.getfield 267, 3) := by decide +kernel
theorem dX11_version_110 : decode cX11_version 110 = .ok (.iload 11, 2) := by decide +kernel
theorem dX11_version_112 : decode cX11_version 112 = .ok (.iload 6, 2) := by decide +kernel
theorem dX11_version_114 : decode cX11_version 114 = .ok (.lload 7, 2) := by decide +kernel
theorem dX11_version_116 : decode cX11_version 116 = .ok (.invokevirtual 109, 3) := by decide +kernel
theorem dX11_version_119 : decode cX11_version 119 = .ok (.pop, 1) := by decide +kernel
theorem dX11_version_120 : decode cX11_version 120 = .ok (.aload_n 0, 1) := by decide +kernel
theorem dX11_version_121 : decode cX11_version 121 = .ok (.getfield 10, 3) := by decide +kernel
theorem dX11_version_124 : decode cX11_version 124 = .ok (.getfield 267, 3) := by decide +kernel
theorem dX11_version_127 : decode cX11_version 127 = .ok (.iload 11, 2) := by decide +kernel
theorem dX11_version_129 : decode cX11_version 129 = .ok (.iload 6, 2) := by decide +kernel
theorem dX11_version_131 : decode cX11_version 131 = .ok (.lload 9, 2) := by decide +kernel
theorem dX11_version_133 : decode cX11_version 133 = .ok (.invokevirtual 109, 3) := by decide +kernel
theorem dX11_version_136 : decode cX11_version 136 = .ok (.pop, 1) := by decide +kernel
theorem dX11_version_137 : decode cX11_version 137 = .ok (.iload 11, 2) := by decide +kernel
theorem dX11_version_139 : decode cX11_version 139 = .ok (.ireturn, 1) := by decide +kernel
theorem dX11_which_0 : decode cX11_which 0 = .ok (.aload_n 0, 1) := by decide +kernel
theorem dX11_which_1 : decode cX11_which 1 = .ok (.getfield 10, 3) := by decide +kernel
theorem dX11_which_4 : decode cX11_which 4 = .ok (.getfield 267, 3) := by decide +kernel
theorem dX11_which_7 : decode cX11_which 7 = .ok (.iload_n 1, 1) := by decide +kernel
theorem dX11_which_8 : decode cX11_which 8 = .ok (.iconst 1, 1) := by decide +kernel
theorem dX11_which_9 : decode cX11_which 9 = .ok (.invokevirtual 133, 3) := by decide +kernel
theorem dX11_which_12 : decode cX11_which 12 = .ok (.ifCond .ne 10, 3) := by decide +kernel
theorem dX11_which_15 : decode cX11_which 15 = .ok (.aload_n 0, 1) := by decide +kernel
theorem dX11_which_16 : decode cX11_which 16 = .ok (.bipush (-2), 2) := by decide +kernel
theorem dX11_which_18 : decode cX11_which 18 = .ok (.invokevirtual 61, 3) := by decide +kernel
theorem dX11_which_21 : decode cX11_which 21 = .ok (.ireturn, 1) := by decide +kernel
theorem dX11_which_22 : decode cX11_which 22 = .ok (.aload_n 0, 1) := by decide +kernel
theorem dX11_which_23 : decode cX11_which 23 = .ok (.getfield 10, 3) := by decide +kernel
theorem dX11_which_26 : decode cX11_which 26 = .ok (.getfield 267, 3) := by decide +kernel
theorem dX11_which_29 : decode cX11_which 29 = .ok (.iload_n 1, 1) := by decide +kernel
theorem dX11_which_30 : decode cX11_which 30 = .ok (.iconst 0, 1) := by decide +kernel
theorem dX11_which_31 : decode cX11_which 31 = .ok (.invokevirtual 135, 3) := by decide +kernel
theorem dX11_which_34 : decode cX11_which 34 = .ok (.lstore_n 2, 1) := by decide +kernel
theorem dX11_which_35 : decode cX11_which 35 = .ok (.aload_n 0, 1) := by decide +kernel
theorem dX11_which_36 : decode cX11_which 36 = .ok (.getfield 10, 3) := by decide +kernel
theorem dX11_which_39 : decode cX11_which 39 = .ok (.getfield 267, 3) := by decide +kernel
theorem dX11_which_42 : decode cX11_which 42 = .ok (.iload_n 1, 1) := by decide +kernel
theorem dX11_which_43 : decode cX11_which 43 = .ok (.iconst 1, 1) := by decide +kernel
theorem dX11_which_44 : decode cX11_which 44 = .ok (.invokevirtual 135, 3) := by decide +kernel
theorem dX11_which_47 : decode cX11_which 47 = .ok (.lstore 4, 2) := by decide +kernel
theorem dX11_which_49 : decode cX11_which 49 = .ok (.aload_n 0, 1) := by decide +kernel
theorem dX11_which_50 : decode cX11_which 50 = .ok (.getfield 10, 3) := by decide +kernel
theorem dX11_which_53 : decode cX11_which 53 = .ok (.getfield 267, 3) := by decide +kernel
theorem dX11_which_56 : decode cX11_which 56 = .ok (.getfield 205, 3) := by decide +kernel
theorem dX11_which_59 : decode cX11_which 59 = .ok (.iload_n 1, 1) := by decide +kernel
theorem dX11_which_60 : decode cX11_which 60 = .ok (.iaload, 1) := by decide +kernel
theorem dX11_which_61 : decode cX11_which 61 = .ok (.istore 6, 2) := by decide +kernel
theorem dX11_which_63 : decode cX11_which 63 = .ok (.aload_n 0, 1) := by decide +kernel
theorem dX11_which_64 : decode cX11_which 64 = .ok (.getfield 10, 3) := by decide +kernel
theorem dX11_which_67 : decode cX11_which 67 = .ok (.lload_n 2, 1) := by decide +kernel
theorem dX11_which_68 : decode cX11_which 68 = .ok (.aload_n 0, 1) := by decide +kernel
theorem dX11_which_69 : decode cX11_which 69 = .ok (.getfield 10, 3) := by decide +kernel
theorem dX11_which_72 : decode cX11_which 72 = .ok (.getfield 267, 3) := by decide +kernel
theorem dX11_which_75 : decode cX11_which 75 = .ok (.getfield 119, 3) := by decide +kernel
theorem dX11_which_78 : decode cX11_which 78 = .ok (.iload_n 1, 1) := by decide +kernel
theorem dX11_which_79 : decode cX11_which 79 = .ok (.iaload, 1) := by decide +kernel
theorem dX11_which_80 : decode cX11_which 80 = .ok (.invokevirtual 270, 3) := by decide +kernel
theorem dX11_which_83 : decode cX11_which 83 = .ok (.ifCond .eq 5, 3) := by decide +kernel
theorem dX11_which_86 : decode cX11_which 86 = .ok (.iconst 1, 1) := by decide +kernel
theorem dX11_which_87 : decode cX11_which 87 = .ok (.ireturn, 1) := by decide +kernel
theorem dX11_which_88 : decode cX11_which 88 = .ok (.aload_n 0, 1) := by decide +kernel
theorem dX11_which_89 : decode cX11_which 89 = .ok (.getfield 10, 3) := by decide +kernel
theorem dX11_which_92 : decode cX11_which 92 = .ok (.getfield 171, 3) := by decide +kernel
theorem dX11_which_95 : decode cX11_which 95 = .ok (.lload_n 2, 1) := by decide +kernel
theorem dX11_which_96 : decode cX11_which 96 = .ok (.iload 6, 2) := by decide +kernel
theorem dX11_which_98 : decode cX11_which 98 = .ok (.invokevirtual 194, 3) := by decide +kernel
theorem dX11_which_101 : decode cX11_which 101 = .ok (.lload 4, 2) := by decide +kernel
theorem dX11_which_103 : decode cX11_which 103 = .ok (.lcmp, 1) := by decide +kernel
theorem dX11_which_104 : decode cX11_which 104 = .ok (.ifCond .ne 5, 3) := by decide +kernel
theorem dX11_which_107 : decode cX11_which 107 = .ok (.iconst 0, 1) := by decide +kernel
theorem dX11_which_108 : decode cX11_which 108 = .ok (.ireturn, 1) := by decide +kernel
theorem dX11_which_109 : decode cX11_which 109 = .ok (.aload_n 0, 1) := by decide +kernel
theorem dX11_which_110 : decode cX11_which 110 = .ok (.getfield 10, 3) := by decide +kernel
theorem dX11_which_113 : decode cX11_which 113 = .ok (.getfield 171, 3) := by decide +kernel
theorem dX11_which_116 : decode cX11_which 116 = .ok (.lload 4, 2) := by decide +kernel
theorem dX11_which_118 : decode cX11_which 118 = .ok (.iload 6, 2) := by decide +kernel
theorem dX11_which_120 : decode cX11_which 120 = .ok (.invokevirtual 194, 3) := by decide +kernel
theorem dX11_which_123 : decode cX11_which 123 = .ok (.lload_n 2, 1) := by decide +kernel
theorem dX11_which_124 : decode cX11_which 124 = .ok (.lcmp, 1) := by decide +kernel
theorem dX11_which_125 : decode cX11_which 125 = .ok (.ifCond .ne 7, 3) := by decide +kernel
theorem dX11_which_128 : decode cX11_which 128 = .ok (.iconst 1, 1) := by decide +kernel
theorem dX11_which_129 : decode cX11_which 129 = .ok (.goto 4, 3) := by decide +kernel
theorem dX11_which_132 : decode cX11_which 132 = .ok (.iconst 2, 1) := by decide +kernel
theorem dX11_which_133 : decode cX11_which 133 = .ok (.ireturn, 1) := by decide +kernel
theorem dX11_answer_0 : decode cX11_answer 0 = .ok (.iload_n 1, 1) := by decide +kernel
theorem dX11_answer_1 : decode cX11_answer 1 = .ok (.iload_n 2, 1) := by decide +kernel
theorem dX11_answer_2 : decode cX11_answer 2 = .ok (.invokestatic 73, 3) := by decide +kernel
theorem dX11_answer_5 : decode cX11_answer 5 = .ok (.ifCond .eq 15, 3) := by decide +kernel
theorem dX11_answer_8 : decode cX11_answer 8 = .ok (.iload_n 3, 1) := by decide +kernel
theorem dX11_answer_9 : decode cX11_answer 9 = .ok (.i2l, 1) := by decide +kernel
theorem dX11_answer_10 : decode cX11_answer 10 = .ok (.lconst 0, 1) := by decide +kernel
theorem dX11_answer_11 : decode cX11_answer 11 = .ok (.ldc2_w 65, 3) := by decide +kernel
theorem dX11_answer_14 : decode cX11_answer 14 = .ok (.invokestatic 69, 3) := by decide +kernel
theorem dX11_answer_17 : decode cX11_answer 17 = .ok (.ifCond .ne 10, 3) := by decide +kernel
theorem dX11_answer_20 : decode cX11_answer 20 = .ok (.aload_n 0, 1) := by decide +kernel
theorem dX11_answer_21 : decode cX11_answer 21 = .ok (.bipush (-3), 2) := by decide +kernel
theorem dX11_answer_23 : decode cX11_answer 23 = .ok (.invokevirtual 61, 3) := by decide +kernel
theorem dX11_answer_26 : decode cX11_answer 26 = .ok (.ireturn, 1) := by decide +kernel
theorem dX11_answer_27 : decode cX11_answer 27 = .ok (.iload 4, 2) := by decide +kernel
theorem dX11_answer_29 : decode cX11_answer 29 = .ok (.i2l, 1) := by decide +kernel
theorem dX11_answer_30 : decode cX11_answer 30 = .ok (.lconst 0, 1) := by decide +kernel
theorem dX11_answer_31 : decode cX11_answer 31 = .ok (.ldc2_w 91, 3) := by decide +kernel
theorem dX11_answer_34 : decode cX11_answer 34 = .ok (.invokestatic 69, 3) := by decide +kernel
theorem dX11_answer_37 : decode cX11_answer 37 = .ok (.ifCond .eq 16, 3) := by decide +kernel
theorem dX11_answer_40 : decode cX11_answer 40 = .ok (.iload 5, 2) := by decide +kernel
theorem dX11_answer_42 : decode cX11_answer 42 = .ok (.i2l, 1) := by decide +kernel
theorem dX11_answer_43 : decode cX11_answer 43 = .ok (.lconst 0, 1) := by decide +kernel
theorem dX11_answer_44 : decode cX11_answer 44 = .ok (.ldc2_w 91, 3) := by decide +kernel
theorem dX11_answer_47 : decode cX11_answer 47 = .ok (.invokestatic 69, 3) := by decide +kernel
theorem dX11_answer_50 : decode cX11_answer 50 = .ok (.ifCond .ne 10, 3) := by decide +kernel
theorem dX11_answer_53 : decode cX11_answer 53 = .ok (.aload_n 0, 1) := by decide +kernel
theorem dX11_answer_54 : decode cX11_answer 54 = .ok (.bipush (-3), 2) := by decide +kernel
theorem dX11_answer_56 : decode cX11_answer 56 = .ok (.invokevirtual 61, 3) := by decide +kernel
theorem dX11_answer_59 : decode cX11_answer 59 = .ok (.ireturn, 1) := by decide +kernel
theorem dX11_answer_60 : decode cX11_answer 60 = .ok (.lload 6, 2) := by decide +kernel
theorem dX11_answer_62 : decode cX11_answer 62 = .ok (.invokestatic 97, 3) := by decide +kernel
theorem dX11_answer_65 : decode cX11_answer 65 = .ok (.lstore 8, 2) := by decide +kernel
theorem dX11_answer_67 : decode cX11_answer 67 = .ok (.lload 8, 2) := by decide +kernel
theorem dX11_answer_69 : decode cX11_answer 69 = .ok (.lconst 0, 1) := by decide +kernel
theorem dX11_answer_70 : decode cX11_answer 70 = .ok (.lcmp, 1) := by decide +kernel
theorem dX11_answer_71 : decode cX11_answer 71 = .ok (.ifCond .ne 17, 3) := by decide +kernel
theorem dX11_answer_74 : decode cX11_answer 74 = .ok (.lload 6, 2) := by decide +kernel
theorem dX11_answer_76 : decode cX11_answer 76 = .ok (.lconst 0, 1) := by decide +kernel
theorem dX11_answer_77 : decode cX11_answer 77 = .ok (.lcmp, 1) := by decide +kernel
theorem dX11_answer_78 : decode cX11_answer 78 = .ok (.ifCond .eq 10, 3) := by decide +kernel
theorem dX11_answer_81 : decode cX11_answer 81 = .ok (.aload_n 0, 1) := by decide +kernel
theorem dX11_answer_82 : decode cX11_answer 82 = .ok (.bipush (-3), 2) := by decide +kernel
theorem dX11_answer_84 : decode cX11_answer 84 = .ok (.invokevirtual 61, 3) := by decide +kernel
theorem dX11_answer_87 : decode cX11_answer 87 = .ok (.ireturn, 1) := by decide +kernel
theorem dX11_answer_88 : decode cX11_answer 88 = .ok (.aload_n 0, 1) := by decide +kernel
theorem dX11_answer_89 : decode cX11_answer 89 = .ok (.getfield 10, 3) := by decide +kernel
theorem dX11_answer_92 : decode cX11_answer 92 = .ok (.getfield 276, 3) := by decide +kernel
theorem dX11_answer_95 : decode cX11_answer 95 = .ok (.invokevirtual 280, 3) := by decide +kernel
theorem dX11_answer_98 : decode cX11_answer 98 = .ok (.ifCond .ne 10, 3) := by decide +kernel
theorem dX11_answer_101 : decode cX11_answer 101 = .ok (.aload_n 0, 1) := by decide +kernel
theorem dX11_answer_102 : decode cX11_answer 102 = .ok (.bipush (-4), 2) := by decide +kernel
theorem dX11_answer_104 : decode cX11_answer 104 = .ok (.invokevirtual 61, 3) := by decide +kernel
theorem dX11_answer_107 : decode cX11_answer 107 = .ok (.ireturn, 1) := by decide +kernel
theorem dX11_answer_108 : decode cX11_answer 108 = .ok (.aload_n 0, 1) := by decide +kernel
theorem dX11_answer_109 : decode cX11_answer 109 = .ok (.getfield 10, 3) := by decide +kernel
theorem dX11_answer_112 : decode cX11_answer 112 = .ok (.getfield 276, 3) := by decide +kernel
theorem dX11_answer_115 : decode cX11_answer 115 = .ok (.iload_n 1, 1) := by decide +kernel
theorem dX11_answer_116 : decode cX11_answer 116 = .ok (.iload_n 2, 1) := by decide +kernel
theorem dX11_answer_117 : decode cX11_answer 117 = .ok (.iload_n 3, 1) := by decide +kernel
theorem dX11_answer_118 : decode cX11_answer 118 = .ok (.invokevirtual 284, 3) := by decide +kernel
theorem dX11_answer_121 : decode cX11_answer 121 = .ok (.istore 10, 2) := by decide +kernel
theorem dX11_answer_123 : decode cX11_answer 123 = .ok (.aload_n 0, 1) := by decide +kernel
theorem dX11_answer_124 : decode cX11_answer 124 = .ok (.getfield 10, 3) := by decide +kernel
theorem dX11_answer_127 : decode cX11_answer 127 = .ok (.getfield 276, 3) := by decide +kernel
theorem dX11_answer_130 : decode cX11_answer 130 = .ok (.iload 10, 2) := by decide +kernel
theorem dX11_answer_132 : decode cX11_answer 132 = .ok (.iload 4, 2) := by decide +kernel
theorem dX11_answer_134 : decode cX11_answer 134 = .ok (.iload 5, 2) := by decide +kernel
theorem dX11_answer_136 : decode cX11_answer 136 = .ok (.lload 8, 2) := by decide +kernel
theorem dX11_answer_138 : decode cX11_answer 138 = .ok (.invokevirtual 285, 3) := by decide +kernel
theorem dX11_answer_141 : decode cX11_answer 141 = .ok (.iload 10, 2) := by decide +kernel
theorem dX11_answer_143 : decode cX11_answer 143 = .ok (.ireturn, 1) := by decide +kernel
theorem dX11_back_0 : decode cX11_back 0 = .ok (.aload_n 0, 1) := by decide +kernel
theorem dX11_back_1 : decode cX11_back 1 = .ok (.getfield 10, 3) := by decide +kernel
theorem dX11_back_4 : decode cX11_back 4 = .ok (.getfield 276, 3) := by decide +kernel
theorem dX11_back_7 : decode cX11_back 7 = .ok (.iload_n 1, 1) := by decide +kernel
theorem dX11_back_8 : decode cX11_back 8 = .ok (.invokevirtual 289, 3) := by decide +kernel
theorem dX11_back_11 : decode cX11_back 11 = .ok (.ifCond .ne 10, 3) := by decide +kernel
theorem dX11_back_14 : decode cX11_back 14 = .ok (.aload_n 0, 1) := by decide +kernel
theorem dX11_back_15 : decode cX11_back 15 = .ok (.bipush (-2), 2) := by decide +kernel
theorem dX11_back_17 : decode cX11_back 17 = .ok (.invokevirtual 61, 3) := by decide +kernel
theorem dX11_back_20 : decode cX11_back 20 = .ok (.ireturn, 1) := by decide +kernel
theorem dX11_back_21 : decode cX11_back 21 = .ok (.aload_n 0, 1) := by decide +kernel
theorem dX11_back_22 : decode cX11_back 22 = .ok (.getfield 31, 3) := by decide +kernel
theorem dX11_back_25 : decode cX11_back 25 = .ok (.iload_n 1, 1) := by decide +kernel
theorem dX11_back_26 : decode cX11_back 26 = .ok (.invokevirtual 290, 3) := by decide +kernel
theorem dX11_back_29 : decode cX11_back 29 = .ok (.ifCond .eq 7, 3) := by decide +kernel
theorem dX11_back_32 : decode cX11_back 32 = .ok (.iconst 1, 1) := by decide +kernel
theorem dX11_back_33 : decode cX11_back 33 = .ok (.goto 4, 3) := by decide +kernel
theorem dX11_back_36 : decode cX11_back 36 = .ok (.iconst 0, 1) := by decide +kernel
theorem dX11_back_37 : decode cX11_back 37 = .ok (.ireturn, 1) := by decide +kernel
theorem dX11_backOdds_0 : decode cX11_backOdds 0 = .ok (.aload_n 0, 1) := by decide +kernel
theorem dX11_backOdds_1 : decode cX11_backOdds 1 = .ok (.getfield 10, 3) := by decide +kernel
theorem dX11_backOdds_4 : decode cX11_backOdds 4 = .ok (.getfield 276, 3) := by decide +kernel
theorem dX11_backOdds_7 : decode cX11_backOdds 7 = .ok (.iload_n 1, 1) := by decide +kernel
theorem dX11_backOdds_8 : decode cX11_backOdds 8 = .ok (.invokevirtual 289, 3) := by decide +kernel
theorem dX11_backOdds_11 : decode cX11_backOdds 11 = .ok (.ifCond .eq 10, 3) := by decide +kernel
theorem dX11_backOdds_14 : decode cX11_backOdds 14 = .ok (.iload_n 2, 1) := by decide +kernel
theorem dX11_backOdds_15 : decode cX11_backOdds 15 = .ok (.invokestatic 208, 3) := by decide +kernel
theorem dX11_backOdds_18 : decode cX11_backOdds 18 = .ok (.ifCond .ne 10, 3) := by decide +kernel
theorem dX11_backOdds_21 : decode cX11_backOdds 21 = .ok (.aload_n 0, 1) := by decide +kernel
theorem dX11_backOdds_22 : decode cX11_backOdds 22 = .ok (.bipush (-2), 2) := by decide +kernel
theorem dX11_backOdds_24 : decode cX11_backOdds 24 = .ok (.invokevirtual 61, 3) := by decide +kernel
theorem dX11_backOdds_27 : decode cX11_backOdds 27 = .ok (.ireturn, 1) := by decide +kernel
theorem dX11_backOdds_28 : decode cX11_backOdds 28 = .ok (.aload_n 0, 1) := by decide +kernel
theorem dX11_backOdds_29 : decode cX11_backOdds 29 = .ok (.getfield 10, 3) := by decide +kernel
theorem dX11_backOdds_32 : decode cX11_backOdds 32 = .ok (.getfield 276, 3) := by decide +kernel
theorem dX11_backOdds_35 : decode cX11_backOdds 35 = .ok (.getfield 293, 3) := by decide +kernel
theorem dX11_backOdds_38 : decode cX11_backOdds 38 = .ok (.iload_n 1, 1) := by decide +kernel
theorem dX11_backOdds_39 : decode cX11_backOdds 39 = .ok (.laload, 1) := by decide +kernel
theorem dX11_backOdds_40 : decode cX11_backOdds 40 = .ok (.lstore_n 3, 1) := by decide +kernel
theorem dX11_backOdds_41 : decode cX11_backOdds 41 = .ok (.lload_n 3, 1) := by decide +kernel
theorem dX11_backOdds_42 : decode cX11_backOdds 42 = .ok (.lconst 0, 1) := by decide +kernel
theorem dX11_backOdds_43 : decode cX11_backOdds 43 = .ok (.lcmp, 1) := by decide +kernel
theorem dX11_backOdds_44 : decode cX11_backOdds 44 = .ok (.ifCond .eq 30, 3) := by decide +kernel
theorem dX11_backOdds_47 : decode cX11_backOdds 47 = .ok (.aload_n 0, 1) := by decide +kernel
theorem dX11_backOdds_48 : decode cX11_backOdds 48 = .ok (.getfield 10, 3) := by decide +kernel
theorem dX11_backOdds_51 : decode cX11_backOdds 51 = .ok (.getfield 276, 3) := by decide +kernel
theorem dX11_backOdds_54 : decode cX11_backOdds 54 = .ok (.getfield 296, 3) := by decide +kernel
theorem dX11_backOdds_57 : decode cX11_backOdds 57 = .ok (.iload_n 1, 1) := by decide +kernel
theorem dX11_backOdds_58 : decode cX11_backOdds 58 = .ok (.iaload, 1) := by decide +kernel
theorem dX11_backOdds_59 : decode cX11_backOdds 59 = .ok (.aload_n 0, 1) := by decide +kernel
theorem dX11_backOdds_60 : decode cX11_backOdds 60 = .ok (.getfield 10, 3) := by decide +kernel
theorem dX11_backOdds_63 : decode cX11_backOdds 63 = .ok (.getfield 115, 3) := by decide +kernel
theorem dX11_backOdds_66 : decode cX11_backOdds 66 = .ok (.getfield 119, 3) := by decide +kernel
theorem dX11_backOdds_69 : decode cX11_backOdds 69 = .ok (.iconst 0, 1) := by decide +kernel
theorem dX11_backOdds_70 : decode cX11_backOdds 70 = .ok (.iaload, 1) := by decide +kernel
theorem dX11_backOdds_71 : decode cX11_backOdds 71 = .ok (.if_icmp .gt 11, 3) := by decide +kernel
theorem dX11_backOdds_74 : decode cX11_backOdds 74 = .ok (.lconst 0, 1) := by decide +kernel
theorem dX11_backOdds_75 : decode cX11_backOdds 75 = .ok (.lconst 1, 1) := by decide +kernel
theorem dX11_backOdds_76 : decode cX11_backOdds 76 = .ok (.iload_n 2, 1) := by decide +kernel
theorem dX11_backOdds_77 : decode cX11_backOdds 77 = .ok (.invokestatic 246, 3) := by decide +kernel
theorem dX11_backOdds_80 : decode cX11_backOdds 80 = .ok (.l2i, 1) := by decide +kernel
theorem dX11_backOdds_81 : decode cX11_backOdds 81 = .ok (.ireturn, 1) := by decide +kernel
theorem dX11_backOdds_82 : decode cX11_backOdds 82 = .ok (.aload_n 0, 1) := by decide +kernel
theorem dX11_backOdds_83 : decode cX11_backOdds 83 = .ok (.getfield 31, 3) := by decide +kernel
theorem dX11_backOdds_86 : decode cX11_backOdds 86 = .ok (.bipush 8, 2) := by decide +kernel
theorem dX11_backOdds_88 : decode cX11_backOdds 88 = .ok (.lload_n 3, 1) := by decide +kernel
theorem dX11_backOdds_89 : decode cX11_backOdds 89 = .ok (.iconst (-1), 1) := by decide +kernel
theorem dX11_backOdds_90 : decode cX11_backOdds 90 = .ok (.invokevirtual 223, 3) := by decide +kernel
theorem dX11_backOdds_93 : decode cX11_backOdds 93 = .ok (.aload_n 0, 1) := by decide +kernel
theorem dX11_backOdds_94 : decode cX11_backOdds 94 = .ok (.getfield 10, 3) := by decide +kernel
theorem dX11_backOdds_97 : decode cX11_backOdds 97 = .ok (.getfield 276, 3) := by decide +kernel
theorem dX11_backOdds_100 : decode cX11_backOdds 100 = .ok (.getfield 297, 3) := by decide +kernel
theorem dX11_backOdds_103 : decode cX11_backOdds 103 = .ok (.iload_n 1, 1) := by decide +kernel
theorem dX11_backOdds_104 : decode cX11_backOdds 104 = .ok (.iaload, 1) := by decide +kernel
theorem dX11_backOdds_105 : decode cX11_backOdds 105 = .ok (.iconst 1, 1) := by decide +kernel
theorem dX11_backOdds_106 : decode cX11_backOdds 106 = .ok (.iadd, 1) := by decide +kernel
theorem dX11_backOdds_107 : decode cX11_backOdds 107 = .ok (.imul, 1) := by decide +kernel
theorem dX11_backOdds_108 : decode cX11_backOdds 108 = .ok (.istore 5, 2) := by decide +kernel
theorem dX11_backOdds_110 : decode cX11_backOdds 110 = .ok (.aload_n 0, 1) := by decide +kernel
theorem dX11_backOdds_111 : decode cX11_backOdds 111 = .ok (.getfield 31, 3) := by decide +kernel
theorem dX11_backOdds_114 : decode cX11_backOdds 114 = .ok (.bipush 6, 2) := by decide +kernel
theorem dX11_backOdds_116 : decode cX11_backOdds 116 = .ok (.lload_n 3, 1) := by decide +kernel
theorem dX11_backOdds_117 : decode cX11_backOdds 117 = .ok (.iconst (-1), 1) := by decide +kernel
theorem dX11_backOdds_118 : decode cX11_backOdds 118 = .ok (.invokevirtual 223, 3) := by decide +kernel
theorem dX11_backOdds_121 : decode cX11_backOdds 121 = .ok (.bipush 10, 2) := by decide +kernel
theorem dX11_backOdds_123 : decode cX11_backOdds 123 = .ok (.imul, 1) := by decide +kernel
theorem dX11_backOdds_124 : decode cX11_backOdds 124 = .ok (.istore 6, 2) := by decide +kernel
theorem dX11_backOdds_126 : decode cX11_backOdds 126 = .ok (.iload 5, 2) := by decide +kernel
theorem dX11_backOdds_128 : decode cX11_backOdds 128 = .ok (.i2l, 1) := by decide +kernel
theorem dX11_backOdds_129 : decode cX11_backOdds 129 = .ok (.iload 6, 2) := by decide +kernel
theorem dX11_backOdds_131 : decode cX11_backOdds 131 = .ok (.i2l, 1) := by decide +kernel
theorem dX11_backOdds_132 : decode cX11_backOdds 132 = .ok (.iload_n 2, 1) := by decide +kernel
theorem dX11_backOdds_133 : decode cX11_backOdds 133 = .ok (.invokestatic 246, 3) := by decide +kernel
theorem dX11_backOdds_136 : decode cX11_backOdds 136 = .ok (.l2i, 1) := by decide +kernel
theorem dX11_backOdds_137 : decode cX11_backOdds 137 = .ok (.ireturn, 1) := by decide +kernel
theorem dX11_parted_0 : decode cX11_parted 0 = .ok (.iload_n 1, 1) := by decide +kernel
theorem dX11_parted_1 : decode cX11_parted 1 = .ok (.invokestatic 208, 3) := by decide +kernel
theorem dX11_parted_4 : decode cX11_parted 4 = .ok (.ifCond .ne 10, 3) := by decide +kernel
theorem dX11_parted_7 : decode cX11_parted 7 = .ok (.aload_n 0, 1) := by decide +kernel
theorem dX11_parted_8 : decode cX11_parted 8 = .ok (.bipush (-2), 2) := by decide +kernel
theorem dX11_parted_10 : decode cX11_parted 10 = .ok (.invokevirtual 61, 3) := by decide +kernel
theorem dX11_parted_13 : decode cX11_parted 13 = .ok (.ireturn, 1) := by decide +kernel
theorem dX11_parted_14 : decode cX11_parted 14 = .ok (.aload_n 0, 1) := by decide +kernel
theorem dX11_parted_15 : decode cX11_parted 15 = .ok (.getfield 31, 3) := by decide +kernel
theorem dX11_parted_18 : decode cX11_parted 18 = .ok (.iload_n 1, 1) := by decide +kernel
theorem dX11_parted_19 : decode cX11_parted 19 = .ok (.iload_n 2, 1) := by decide +kernel
theorem dX11_parted_20 : decode cX11_parted 20 = .ok (.ifCond .eq 7, 3) := by decide +kernel
theorem dX11_parted_23 : decode cX11_parted 23 = .ok (.iconst 1, 1) := by decide +kernel
theorem dX11_parted_24 : decode cX11_parted 24 = .ok (.goto 4, 3) := by decide +kernel
theorem dX11_parted_27 : decode cX11_parted 27 = .ok (.iconst 0, 1) := by decide +kernel
theorem dX11_parted_28 : decode cX11_parted 28 = .ok (.invokevirtual 300, 3) := by decide +kernel
theorem dX11_parted_31 : decode cX11_parted 31 = .ok (.ireturn, 1) := by decide +kernel
theorem dX11_muddled_0 : decode cX11_muddled 0 = .ok (.aload_n 0, 1) := by decide +kernel
theorem dX11_muddled_1 : decode cX11_muddled 1 = .ok (.getfield 31, 3) := by decide +kernel
theorem dX11_muddled_4 : decode cX11_muddled 4 = .ok (.iload_n 1, 1) := by decide +kernel
theorem dX11_muddled_5 : decode cX11_muddled 5 = .ok (.invokevirtual 303, 3) := by decide +kernel
theorem dX11_muddled_8 : decode cX11_muddled 8 = .ok (.ireturn, 1) := by decide +kernel
theorem dX11_glen_0 : decode cX11_glen 0 = .ok (.iload_n 1, 1) := by decide +kernel
theorem dX11_glen_1 : decode cX11_glen 1 = .ok (.i2l, 1) := by decide +kernel
theorem dX11_glen_2 : decode cX11_glen 2 = .ok (.lconst 0, 1) := by decide +kernel
theorem dX11_glen_3 : decode cX11_glen 3 = .ok (.ldc2_w 306, 3) := by decide +kernel
theorem dX11_glen_6 : decode cX11_glen 6 = .ok (.invokestatic 69, 3) := by decide +kernel
theorem dX11_glen_9 : decode cX11_glen 9 = .ok (.ifCond .eq 15, 3) := by decide +kernel
theorem dX11_glen_12 : decode cX11_glen 12 = .ok (.iload_n 2, 1) := by decide +kernel
theorem dX11_glen_13 : decode cX11_glen 13 = .ok (.i2l, 1) := by decide +kernel
theorem dX11_glen_14 : decode cX11_glen 14 = .ok (.lconst 0, 1) := by decide +kernel
theorem dX11_glen_15 : decode cX11_glen 15 = .ok (.ldc2_w 308, 3) := by decide +kernel
theorem dX11_glen_18 : decode cX11_glen 18 = .ok (.invokestatic 69, 3) := by decide +kernel
theorem dX11_glen_21 : decode cX11_glen 21 = .ok (.ifCond .ne 10, 3) := by decide +kernel
theorem dX11_glen_24 : decode cX11_glen 24 = .ok (.aload_n 0, 1) := by decide +kernel
theorem dX11_glen_25 : decode cX11_glen 25 = .ok (.bipush (-2), 2) := by decide +kernel
theorem dX11_glen_27 : decode cX11_glen 27 = .ok (.invokevirtual 61, 3) := by decide +kernel
theorem dX11_glen_30 : decode cX11_glen 30 = .ok (.ireturn, 1) := by decide +kernel
theorem dX11_glen_31 : decode cX11_glen 31 = .ok (.iconst 0, 1) := by decide +kernel
theorem dX11_glen_32 : decode cX11_glen 32 = .ok (.istore_n 3, 1) := by decide +kernel
theorem dX11_glen_33 : decode cX11_glen 33 = .ok (.iconst 0, 1) := by decide +kernel
theorem dX11_glen_34 : decode cX11_glen 34 = .ok (.istore 4, 2) := by decide +kernel
theorem dX11_glen_36 : decode cX11_glen 36 = .ok (.iload 4, 2) := by decide +kernel
theorem dX11_glen_38 : decode cX11_glen 38 = .ok (.aload_n 0, 1) := by decide +kernel
theorem dX11_glen_39 : decode cX11_glen 39 = .ok (.getfield 10, 3) := by decide +kernel
theorem dX11_glen_42 : decode cX11_glen 42 = .ok (.getfield 276, 3) := by decide +kernel
theorem dX11_glen_45 : decode cX11_glen 45 = .ok (.getfield 310, 3) := by decide +kernel
theorem dX11_glen_48 : decode cX11_glen 48 = .ok (.if_icmp .ge 42, 3) := by decide +kernel
theorem dX11_glen_51 : decode cX11_glen 51 = .ok (.aload_n 0, 1) := by decide +kernel
theorem dX11_glen_52 : decode cX11_glen 52 = .ok (.getfield 10, 3) := by decide +kernel
theorem dX11_glen_55 : decode cX11_glen 55 = .ok (.getfield 276, 3) := by decide +kernel
theorem dX11_glen_58 : decode cX11_glen 58 = .ok (.getfield 311, 3) := by decide +kernel
theorem dX11_glen_61 : decode cX11_glen 61 = .ok (.iload 4, 2) := by decide +kernel
theorem dX11_glen_63 : decode cX11_glen 63 = .ok (.iaload, 1) := by decide +kernel
theorem dX11_glen_64 : decode cX11_glen 64 = .ok (.iload_n 1, 1) := by decide +kernel
theorem dX11_glen_65 : decode cX11_glen 65 = .ok (.if_icmp .ne 19, 3) := by decide +kernel
theorem dX11_glen_68 : decode cX11_glen 68 = .ok (.aload_n 0, 1) := by decide +kernel
theorem dX11_glen_69 : decode cX11_glen 69 = .ok (.getfield 31, 3) := by decide +kernel
theorem dX11_glen_72 : decode cX11_glen 72 = .ok (.iload 4, 2) := by decide +kernel
theorem dX11_glen_74 : decode cX11_glen 74 = .ok (.iload_n 2, 1) := by decide +kernel
theorem dX11_glen_75 : decode cX11_glen 75 = .ok (.invokevirtual 314, 3) := by decide +kernel
theorem dX11_glen_78 : decode cX11_glen 78 = .ok (.ifCond .eq 6, 3) := by decide +kernel
theorem dX11_glen_81 : decode cX11_glen 81 = .ok (.iinc 3 1, 3) := by decide +kernel
theorem dX11_glen_84 : decode cX11_glen 84 = .ok (.iinc 4 1, 3) := by decide +kernel
theorem dX11_glen_87 : decode cX11_glen 87 = .ok (.goto (-51), 3) := by decide +kernel
theorem dX11_glen_90 : decode cX11_glen 90 = .ok (.iload_n 3, 1) := by decide +kernel
theorem dX11_glen_91 : decode cX11_glen 91 = .ok (.ireturn, 1) := by decide +kernel
theorem dX11_paid_0 : decode cX11_paid 0 = .ok (.iload_n 1, 1) := by decide +kernel
theorem dX11_paid_1 : decode cX11_paid 1 = .ok (.i2l, 1) := by decide +kernel
theorem dX11_paid_2 : decode cX11_paid 2 = .ok (.lconst 0, 1) := by decide +kernel
theorem dX11_paid_3 : decode cX11_paid 3 = .ok (.ldc2_w 113, 3) := by decide +kernel
theorem dX11_paid_6 : decode cX11_paid 6 = .ok (.invokestatic 69, 3) := by decide +kernel
theorem dX11_paid_9 : decode cX11_paid 9 = .ok (.ifCond .eq 15, 3) := by decide +kernel
theorem dX11_paid_12 : decode cX11_paid 12 = .ok (.iload_n 2, 1) := by decide +kernel
theorem dX11_paid_13 : decode cX11_paid 13 = .ok (.i2l, 1) := by decide +kernel
theorem dX11_paid_14 : decode cX11_paid 14 = .ok (.lconst 1, 1) := by decide +kernel
theorem dX11_paid_15 : decode cX11_paid 15 = .ok (.ldc2_w 317, 3) := by decide +kernel
theorem dX11_paid_18 : decode cX11_paid 18 = .ok (.invokestatic 69, 3) := by decide +kernel
theorem dX11_paid_21 : decode cX11_paid 21 = .ok (.ifCond .ne 10, 3) := by decide +kernel
theorem dX11_paid_24 : decode cX11_paid 24 = .ok (.aload_n 0, 1) := by decide +kernel
theorem dX11_paid_25 : decode cX11_paid 25 = .ok (.bipush (-3), 2) := by decide +kernel
theorem dX11_paid_27 : decode cX11_paid 27 = .ok (.invokevirtual 61, 3) := by decide +kernel
theorem dX11_paid_30 : decode cX11_paid 30 = .ok (.ireturn, 1) := by decide +kernel
theorem dX11_paid_31 : decode cX11_paid 31 = .ok (.aload_n 0, 1) := by decide +kernel
theorem dX11_paid_32 : decode cX11_paid 32 = .ok (.getfield 10, 3) := by decide +kernel
theorem dX11_paid_35 : decode cX11_paid 35 = .ok (.getfield 319, 3) := by decide +kernel
theorem dX11_paid_38 : decode cX11_paid 38 = .ok (.getfield 323, 3) := by decide +kernel
theorem dX11_paid_41 : decode cX11_paid 41 = .ok (.bipush 20, 2) := by decide +kernel
theorem dX11_paid_43 : decode cX11_paid 43 = .ok (.if_icmp .lt 10, 3) := by decide +kernel
theorem dX11_paid_46 : decode cX11_paid 46 = .ok (.aload_n 0, 1) := by decide +kernel
theorem dX11_paid_47 : decode cX11_paid 47 = .ok (.bipush (-4), 2) := by decide +kernel
theorem dX11_paid_49 : decode cX11_paid 49 = .ok (.invokevirtual 61, 3) := by decide +kernel
theorem dX11_paid_52 : decode cX11_paid 52 = .ok (.ireturn, 1) := by decide +kernel
theorem dX11_paid_53 : decode cX11_paid 53 = .ok (.aload_n 0, 1) := by decide +kernel
theorem dX11_paid_54 : decode cX11_paid 54 = .ok (.getfield 10, 3) := by decide +kernel
theorem dX11_paid_57 : decode cX11_paid 57 = .ok (.getfield 319, 3) := by decide +kernel
theorem dX11_paid_60 : decode cX11_paid 60 = .ok (.iload_n 1, 1) := by decide +kernel
theorem dX11_paid_61 : decode cX11_paid 61 = .ok (.iload_n 2, 1) := by decide +kernel
theorem dX11_paid_62 : decode cX11_paid 62 = .ok (.invokevirtual 328, 3) := by decide +kernel
theorem dX11_paid_65 : decode cX11_paid 65 = .ok (.ireturn, 1) := by decide +kernel
theorem dX11_pages_0 : decode cX11_pages 0 = .ok (.iload_n 1, 1) := by decide +kernel
theorem dX11_pages_1 : decode cX11_pages 1 = .ok (.i2l, 1) := by decide +kernel
theorem dX11_pages_2 : decode cX11_pages 2 = .ok (.lconst 0, 1) := by decide +kernel
theorem dX11_pages_3 : decode cX11_pages 3 = .ok (.ldc2_w 113, 3) := by decide +kernel
theorem dX11_pages_6 : decode cX11_pages 6 = .ok (.invokestatic 69, 3) := by decide +kernel
theorem dX11_pages_9 : decode cX11_pages 9 = .ok (.ifCond .eq 15, 3) := by decide +kernel
theorem dX11_pages_12 : decode cX11_pages 12 = .ok (.iload_n 2, 1) := by decide +kernel
theorem dX11_pages_13 : decode cX11_pages 13 = .ok (.i2l, 1) := by decide +kernel
theorem dX11_pages_14 : decode cX11_pages 14 = .ok (.lconst 1, 1) := by decide +kernel
theorem dX11_pages_15 : decode cX11_pages 15 = .ok (.ldc2_w 331, 3) := by decide +kernel
theorem dX11_pages_18 : decode cX11_pages 18 = .ok (.invokestatic 69, 3) := by decide +kernel
theorem dX11_pages_21 : decode cX11_pages 21 = .ok (.ifCond .ne 10, 3) := by decide +kernel
theorem dX11_pages_24 : decode cX11_pages 24 = .ok (.aload_n 0, 1) := by decide +kernel
theorem dX11_pages_25 : decode cX11_pages 25 = .ok (.bipush (-3), 2) := by decide +kernel
theorem dX11_pages_27 : decode cX11_pages 27 = .ok (.invokevirtual 61, 3) := by decide +kernel
theorem dX11_pages_30 : decode cX11_pages 30 = .ok (.ireturn, 1) := by decide +kernel
theorem dX11_pages_31 : decode cX11_pages 31 = .ok (.aload_n 0, 1) := by decide +kernel
theorem dX11_pages_32 : decode cX11_pages 32 = .ok (.getfield 10, 3) := by decide +kernel
theorem dX11_pages_35 : decode cX11_pages 35 = .ok (.getfield 319, 3) := by decide +kernel
theorem dX11_pages_38 : decode cX11_pages 38 = .ok (.getfield 333, 3) := by decide +kernel
theorem dX11_pages_41 : decode cX11_pages 41 = .ok (.bipush 40, 2) := by decide +kernel
theorem dX11_pages_43 : decode cX11_pages 43 = .ok (.if_icmp .lt 10, 3) := by decide +kernel
theorem dX11_pages_46 : decode cX11_pages 46 = .ok (.aload_n 0, 1) := by decide +kernel
theorem dX11_pages_47 : decode cX11_pages 47 = .ok (.bipush (-4), 2) := by decide +kernel
theorem dX11_pages_49 : decode cX11_pages 49 = .ok (.invokevirtual 61, 3) := by decide +kernel
theorem dX11_pages_52 : decode cX11_pages 52 = .ok (.ireturn, 1) := by decide +kernel
theorem dX11_pages_53 : decode cX11_pages 53 = .ok (.aload_n 0, 1) := by decide +kernel
theorem dX11_pages_54 : decode cX11_pages 54 = .ok (.getfield 10, 3) := by decide +kernel
theorem dX11_pages_57 : decode cX11_pages 57 = .ok (.getfield 319, 3) := by decide +kernel
theorem dX11_pages_60 : decode cX11_pages 60 = .ok (.iload_n 1, 1) := by decide +kernel
theorem dX11_pages_61 : decode cX11_pages 61 = .ok (.iload_n 2, 1) := by decide +kernel
theorem dX11_pages_62 : decode cX11_pages 62 = .ok (.invokevirtual 336, 3) := by decide +kernel
theorem dX11_pages_65 : decode cX11_pages 65 = .ok (.ireturn, 1) := by decide +kernel
theorem dX11_more_0 : decode cX11_more 0 = .ok (.iload_n 1, 1) := by decide +kernel
theorem dX11_more_1 : decode cX11_more 1 = .ok (.ifCond .eq 15, 3) := by decide +kernel
theorem dX11_more_4 : decode cX11_more 4 = .ok (.iload_n 1, 1) := by decide +kernel
theorem dX11_more_5 : decode cX11_more 5 = .ok (.iconst 1, 1) := by decide +kernel
theorem dX11_more_6 : decode cX11_more 6 = .ok (.if_icmp .eq 10, 3) := by decide +kernel
theorem dX11_more_9 : decode cX11_more 9 = .ok (.aload_n 0, 1) := by decide +kernel
theorem dX11_more_10 : decode cX11_more 10 = .ok (.bipush (-2), 2) := by decide +kernel
theorem dX11_more_12 : decode cX11_more 12 = .ok (.invokevirtual 61, 3) := by decide +kernel
theorem dX11_more_15 : decode cX11_more 15 = .ok (.ireturn, 1) := by decide +kernel
theorem dX11_more_16 : decode cX11_more 16 = .ok (.iload_n 1, 1) := by decide +kernel
theorem dX11_more_17 : decode cX11_more 17 = .ok (.iconst 1, 1) := by decide +kernel
theorem dX11_more_18 : decode cX11_more 18 = .ok (.if_icmp .ne 14, 3) := by decide +kernel
theorem dX11_more_21 : decode cX11_more 21 = .ok (.aload_n 0, 1) := by decide +kernel
theorem dX11_more_22 : decode cX11_more 22 = .ok (.getfield 10, 3) := by decide +kernel
theorem dX11_more_25 : decode cX11_more 25 = .ok (.getfield 319, 3) := by decide +kernel
theorem dX11_more_28 : decode cX11_more 28 = .ok (.invokevirtual 339, 3) := by decide +kernel
theorem dX11_more_31 : decode cX11_more 31 = .ok (.ireturn, 1) := by decide +kernel
theorem dX11_more_32 : decode cX11_more 32 = .ok (.iload_n 2, 1) := by decide +kernel
theorem dX11_more_33 : decode cX11_more 33 = .ok (.i2l, 1) := by decide +kernel
theorem dX11_more_34 : decode cX11_more 34 = .ok (.lconst 1, 1) := by decide +kernel
theorem dX11_more_35 : decode cX11_more 35 = .ok (.ldc2_w 317, 3) := by decide +kernel
theorem dX11_more_38 : decode cX11_more 38 = .ok (.invokestatic 69, 3) := by decide +kernel
theorem dX11_more_41 : decode cX11_more 41 = .ok (.ifCond .ne 10, 3) := by decide +kernel
theorem dX11_more_44 : decode cX11_more 44 = .ok (.aload_n 0, 1) := by decide +kernel
theorem dX11_more_45 : decode cX11_more 45 = .ok (.bipush (-3), 2) := by decide +kernel
theorem dX11_more_47 : decode cX11_more 47 = .ok (.invokevirtual 61, 3) := by decide +kernel
theorem dX11_more_50 : decode cX11_more 50 = .ok (.ireturn, 1) := by decide +kernel
theorem dX11_more_51 : decode cX11_more 51 = .ok (.aload_n 0, 1) := by decide +kernel
theorem dX11_more_52 : decode cX11_more 52 = .ok (.getfield 10, 3) := by decide +kernel
theorem dX11_more_55 : decode cX11_more 55 = .ok (.getfield 319, 3) := by decide +kernel
theorem dX11_more_58 : decode cX11_more 58 = .ok (.iload_n 2, 1) := by decide +kernel
theorem dX11_more_59 : decode cX11_more 59 = .ok (.invokevirtual 342, 3) := by decide +kernel
theorem dX11_more_62 : decode cX11_more 62 = .ok (.ireturn, 1) := by decide +kernel
theorem dX11_free_0 : decode cX11_free 0 = .ok (.iload_n 2, 1) := by decide +kernel
theorem dX11_free_1 : decode cX11_free 1 = .ok (.i2l, 1) := by decide +kernel
theorem dX11_free_2 : decode cX11_free 2 = .ok (.lconst 0, 1) := by decide +kernel
theorem dX11_free_3 : decode cX11_free 3 = .ok (.ldc2_w 113, 3) := by decide +kernel
theorem dX11_free_6 : decode cX11_free 6 = .ok (.invokestatic 69, 3) := by decide +kernel
theorem dX11_free_9 : decode cX11_free 9 = .ok (.ifCond .eq 14, 3) := by decide +kernel
theorem dX11_free_12 : decode cX11_free 12 = .ok (.iload_n 1, 1) := by decide +kernel
theorem dX11_free_13 : decode cX11_free 13 = .ok (.i2l, 1) := by decide +kernel
theorem dX11_free_14 : decode cX11_free 14 = .ok (.lconst 0, 1) := by decide +kernel
theorem dX11_free_15 : decode cX11_free 15 = .ok (.iload_n 2, 1) := by decide +kernel
theorem dX11_free_16 : decode cX11_free 16 = .ok (.i2l, 1) := by decide +kernel
theorem dX11_free_17 : decode cX11_free 17 = .ok (.invokestatic 69, 3) := by decide +kernel
theorem dX11_free_20 : decode cX11_free 20 = .ok (.ifCond .ne 10, 3) := by decide +kernel
theorem dX11_free_23 : decode cX11_free 23 = .ok (.aload_n 0, 1) := by decide +kernel
theorem dX11_free_24 : decode cX11_free 24 = .ok (.bipush (-3), 2) := by decide +kernel
theorem dX11_free_26 : decode cX11_free 26 = .ok (.invokevirtual 61, 3) := by decide +kernel
theorem dX11_free_29 : decode cX11_free 29 = .ok (.ireturn, 1) := by decide +kernel
theorem dX11_free_30 : decode cX11_free 30 = .ok (.aload_n 0, 1) := by decide +kernel
theorem dX11_free_31 : decode cX11_free 31 = .ok (.getfield 10, 3) := by decide +kernel
theorem dX11_free_34 : decode cX11_free 34 = .ok (.getfield 319, 3) := by decide +kernel
theorem dX11_free_37 : decode cX11_free 37 = .ok (.getfield 345, 3) := by decide +kernel
theorem dX11_free_40 : decode cX11_free 40 = .ok (.bipush 8, 2) := by decide +kernel
theorem dX11_free_42 : decode cX11_free 42 = .ok (.if_icmp .lt 10, 3) := by decide +kernel
theorem dX11_free_45 : decode cX11_free 45 = .ok (.aload_n 0, 1) := by decide +kernel
theorem dX11_free_46 : decode cX11_free 46 = .ok (.bipush (-4), 2) := by decide +kernel
theorem dX11_free_48 : decode cX11_free 48 = .ok (.invokevirtual 61, 3) := by decide +kernel
theorem dX11_free_51 : decode cX11_free 51 = .ok (.ireturn, 1) := by decide +kernel
theorem dX11_free_52 : decode cX11_free 52 = .ok (.aload_n 0, 1) := by decide +kernel
theorem dX11_free_53 : decode cX11_free 53 = .ok (.getfield 10, 3) := by decide +kernel
theorem dX11_free_56 : decode cX11_free 56 = .ok (.getfield 319, 3) := by decide +kernel
theorem dX11_free_59 : decode cX11_free 59 = .ok (.iload_n 1, 1) := by decide +kernel
theorem dX11_free_60 : decode cX11_free 60 = .ok (.iload_n 2, 1) := by decide +kernel
theorem dX11_free_61 : decode cX11_free 61 = .ok (.invokevirtual 348, 3) := by decide +kernel
theorem dX11_free_64 : decode cX11_free 64 = .ok (.ireturn, 1) := by decide +kernel
theorem dX11_rate_0 : decode cX11_rate 0 = .ok (.aload_n 0, 1) := by decide +kernel
theorem dX11_rate_1 : decode cX11_rate 1 = .ok (.getfield 10, 3) := by decide +kernel
theorem dX11_rate_4 : decode cX11_rate 4 = .ok (.getfield 319, 3) := by decide +kernel
theorem dX11_rate_7 : decode cX11_rate 7 = .ok (.getfield 333, 3) := by decide +kernel
theorem dX11_rate_10 : decode cX11_rate 10 = .ok (.ifCond .ne 10, 3) := by decide +kernel
theorem dX11_rate_13 : decode cX11_rate 13 = .ok (.aload_n 0, 1) := by decide +kernel
theorem dX11_rate_14 : decode cX11_rate 14 = .ok (.bipush (-5), 2) := by decide +kernel
theorem dX11_rate_16 : decode cX11_rate 16 = .ok (.invokevirtual 61, 3) := by decide +kernel
theorem dX11_rate_19 : decode cX11_rate 19 = .ok (.ireturn, 1) := by decide +kernel
theorem dX11_rate_20 : decode cX11_rate 20 = .ok (.aload_n 0, 1) := by decide +kernel
theorem dX11_rate_21 : decode cX11_rate 21 = .ok (.getfield 10, 3) := by decide +kernel
theorem dX11_rate_24 : decode cX11_rate 24 = .ok (.getfield 319, 3) := by decide +kernel
theorem dX11_rate_27 : decode cX11_rate 27 = .ok (.invokevirtual 351, 3) := by decide +kernel
theorem dX11_rate_30 : decode cX11_rate 30 = .ok (.ireturn, 1) := by decide +kernel
theorem dX11_world_0 : decode cX11_world 0 = .ok (.iload_n 1, 1) := by decide +kernel
theorem dX11_world_1 : decode cX11_world 1 = .ok (.i2l, 1) := by decide +kernel
theorem dX11_world_2 : decode cX11_world 2 = .ok (.lconst 1, 1) := by decide +kernel
theorem dX11_world_3 : decode cX11_world 3 = .ok (.ldc2_w 331, 3) := by decide +kernel
theorem dX11_world_6 : decode cX11_world 6 = .ok (.invokestatic 69, 3) := by decide +kernel
theorem dX11_world_9 : decode cX11_world 9 = .ok (.ifCond .ne 10, 3) := by decide +kernel
theorem dX11_world_12 : decode cX11_world 12 = .ok (.aload_n 0, 1) := by decide +kernel
theorem dX11_world_13 : decode cX11_world 13 = .ok (.bipush (-3), 2) := by decide +kernel
theorem dX11_world_15 : decode cX11_world 15 = .ok (.invokevirtual 61, 3) := by decide +kernel
theorem dX11_world_18 : decode cX11_world 18 = .ok (.ireturn, 1) := by decide +kernel
theorem dX11_world_19 : decode cX11_world 19 = .ok (.aload_n 0, 1) := by decide +kernel
theorem dX11_world_20 : decode cX11_world 20 = .ok (.getfield 10, 3) := by decide +kernel
theorem dX11_world_23 : decode cX11_world 23 = .ok (.getfield 354, 3) := by decide +kernel
theorem dX11_world_26 : decode cX11_world 26 = .ok (.getfield 358, 3) := by decide +kernel
theorem dX11_world_29 : decode cX11_world 29 = .ok (.bipush 8, 2) := by decide +kernel
theorem dX11_world_31 : decode cX11_world 31 = .ok (.if_icmp .lt 10, 3) := by decide +kernel
theorem dX11_world_34 : decode cX11_world 34 = .ok (.aload_n 0, 1) := by decide +kernel
theorem dX11_world_35 : decode cX11_world 35 = .ok (.bipush (-4), 2) := by decide +kernel
theorem dX11_world_37 : decode cX11_world 37 = .ok (.invokevirtual 61, 3) := by decide +kernel
theorem dX11_world_40 : decode cX11_world 40 = .ok (.ireturn, 1) := by decide +kernel
theorem dX11_world_41 : decode cX11_world 41 = .ok (.aload_n 0, 1) := by decide +kernel
theorem dX11_world_42 : decode cX11_world 42 = .ok (.getfield 10, 3) := by decide +kernel
theorem dX11_world_45 : decode cX11_world 45 = .ok (.getfield 354, 3) := by decide +kernel
theorem dX11_world_48 : decode cX11_world 48 = .ok (.iload_n 1, 1) := by decide +kernel
theorem dX11_world_49 : decode cX11_world 49 = .ok (.invokevirtual 361, 3) := by decide +kernel
theorem dX11_world_52 : decode cX11_world 52 = .ok (.ireturn, 1) := by decide +kernel
theorem dX11_says_0 : decode cX11_says 0 = .ok (.aload_n 0, 1) := by decide +kernel
theorem dX11_says_1 : decode cX11_says 1 = .ok (.getfield 10, 3) := by decide +kernel
theorem dX11_says_4 : decode cX11_says 4 = .ok (.getfield 354, 3) := by decide +kernel
theorem dX11_says_7 : decode cX11_says 7 = .ok (.iload_n 1, 1) := by decide +kernel
theorem dX11_says_8 : decode cX11_says 8 = .ok (.invokevirtual 363, 3) := by decide +kernel
theorem dX11_says_11 : decode cX11_says 11 = .ok (.ifCond .eq 15, 3) := by decide +kernel
theorem dX11_says_14 : decode cX11_says 14 = .ok (.iload_n 2, 1) := by decide +kernel
theorem dX11_says_15 : decode cX11_says 15 = .ok (.i2l, 1) := by decide +kernel
theorem dX11_says_16 : decode cX11_says 16 = .ok (.lconst 0, 1) := by decide +kernel
theorem dX11_says_17 : decode cX11_says 17 = .ok (.ldc2_w 306, 3) := by decide +kernel
theorem dX11_says_20 : decode cX11_says 20 = .ok (.invokestatic 69, 3) := by decide +kernel
theorem dX11_says_23 : decode cX11_says 23 = .ok (.ifCond .ne 10, 3) := by decide +kernel
theorem dX11_says_26 : decode cX11_says 26 = .ok (.aload_n 0, 1) := by decide +kernel
theorem dX11_says_27 : decode cX11_says 27 = .ok (.bipush (-2), 2) := by decide +kernel
theorem dX11_says_29 : decode cX11_says 29 = .ok (.invokevirtual 61, 3) := by decide +kernel
theorem dX11_says_32 : decode cX11_says 32 = .ok (.ireturn, 1) := by decide +kernel
theorem dX11_says_33 : decode cX11_says 33 = .ok (.iload_n 3, 1) := by decide +kernel
theorem dX11_says_34 : decode cX11_says 34 = .ok (.i2l, 1) := by decide +kernel
theorem dX11_says_35 : decode cX11_says 35 = .ok (.lconst 0, 1) := by decide +kernel
theorem dX11_says_36 : decode cX11_says 36 = .ok (.ldc2_w 308, 3) := by decide +kernel
theorem dX11_says_39 : decode cX11_says 39 = .ok (.invokestatic 69, 3) := by decide +kernel
theorem dX11_says_42 : decode cX11_says 42 = .ok (.ifCond .ne 10, 3) := by decide +kernel
theorem dX11_says_45 : decode cX11_says 45 = .ok (.aload_n 0, 1) := by decide +kernel
theorem dX11_says_46 : decode cX11_says 46 = .ok (.bipush (-3), 2) := by decide +kernel
theorem dX11_says_48 : decode cX11_says 48 = .ok (.invokevirtual 61, 3) := by decide +kernel
theorem dX11_says_51 : decode cX11_says 51 = .ok (.ireturn, 1) := by decide +kernel
theorem dX11_says_52 : decode cX11_says 52 = .ok (.aload_n 0, 1) := by decide +kernel
theorem dX11_says_53 : decode cX11_says 53 = .ok (.getfield 10, 3) := by decide +kernel
theorem dX11_says_56 : decode cX11_says 56 = .ok (.getfield 354, 3) := by decide +kernel
theorem dX11_says_59 : decode cX11_says 59 = .ok (.iload_n 1, 1) := by decide +kernel
theorem dX11_says_60 : decode cX11_says 60 = .ok (.iload_n 2, 1) := by decide +kernel
theorem dX11_says_61 : decode cX11_says 61 = .ok (.iload_n 3, 1) := by decide +kernel
theorem dX11_says_62 : decode cX11_says 62 = .ok (.invokevirtual 364, 3) := by decide +kernel
theorem dX11_says_65 : decode cX11_says 65 = .ok (.ireturn, 1) := by decide +kernel
theorem dX11_ask_0 : decode cX11_ask 0 = .ok (.aload_n 0, 1) := by decide +kernel
theorem dX11_ask_1 : decode cX11_ask 1 = .ok (.getfield 10, 3) := by decide +kernel
theorem dX11_ask_4 : decode cX11_ask 4 = .ok (.getfield 354, 3) := by decide +kernel
theorem dX11_ask_7 : decode cX11_ask 7 = .ok (.iload_n 1, 1) := by decide +kernel
theorem dX11_ask_8 : decode cX11_ask 8 = .ok (.invokevirtual 367, 3) := by decide +kernel
theorem dX11_ask_11 : decode cX11_ask 11 = .ok (.ifCond .eq 10, 3) := by decide +kernel
theorem dX11_ask_14 : decode cX11_ask 14 = .ok (.iload_n 2, 1) := by decide +kernel
theorem dX11_ask_15 : decode cX11_ask 15 = .ok (.invokestatic 208, 3) := by decide +kernel
theorem dX11_ask_18 : decode cX11_ask 18 = .ok (.ifCond .ne 10, 3) := by decide +kernel
theorem dX11_ask_21 : decode cX11_ask 21 = .ok (.aload_n 0, 1) := by decide +kernel
theorem dX11_ask_22 : decode cX11_ask 22 = .ok (.bipush (-2), 2) := by decide +kernel
theorem dX11_ask_24 : decode cX11_ask 24 = .ok (.invokevirtual 61, 3) := by decide +kernel
theorem dX11_ask_27 : decode cX11_ask 27 = .ok (.ireturn, 1) := by decide +kernel
theorem dX11_ask_28 : decode cX11_ask 28 = .ok (.aload_n 0, 1) := by decide +kernel
theorem dX11_ask_29 : decode cX11_ask 29 = .ok (.getfield 10, 3) := by decide +kernel
theorem dX11_ask_32 : decode cX11_ask 32 = .ok (.getfield 354, 3) := by decide +kernel
theorem dX11_ask_35 : decode cX11_ask 35 = .ok (.iload_n 1, 1) := by decide +kernel
theorem dX11_ask_36 : decode cX11_ask 36 = .ok (.invokevirtual 370, 3) := by decide +kernel
theorem dX11_ask_39 : decode cX11_ask 39 = .ok (.iload_n 2, 1) := by decide +kernel
theorem dX11_ask_40 : decode cX11_ask 40 = .ok (.ifCond .ne 18, 3) := by decide +kernel
theorem dX11_ask_43 : decode cX11_ask 43 = .ok (.aload_n 0, 1) := by decide +kernel
theorem dX11_ask_44 : decode cX11_ask 44 = .ok (.getfield 10, 3) := by decide +kernel
theorem dX11_ask_47 : decode cX11_ask 47 = .ok (.getfield 354, 3) := by decide +kernel
theorem dX11_ask_50 : decode cX11_ask 50 = .ok (.getfield 373, 3) := by decide +kernel
theorem dX11_ask_53 : decode cX11_ask 53 = .ok (.iload_n 1, 1) := by decide +kernel
theorem dX11_ask_54 : decode cX11_ask 54 = .ok (.iaload, 1) := by decide +kernel
theorem dX11_ask_55 : decode cX11_ask 55 = .ok (.goto 15, 3) := by decide +kernel
theorem dX11_ask_58 : decode cX11_ask 58 = .ok (.aload_n 0, 1) := by decide +kernel
theorem dX11_ask_59 : decode cX11_ask 59 = .ok (.getfield 10, 3) := by decide +kernel
theorem dX11_ask_62 : decode cX11_ask 62 = .ok (.getfield 354, 3) := by decide +kernel
theorem dX11_ask_65 : decode cX11_ask 65 = .ok (.getfield 376, 3) := by decide +kernel
theorem dX11_ask_68 : decode cX11_ask 68 = .ok (.iload_n 1, 1) := by decide +kernel
theorem dX11_ask_69 : decode cX11_ask 69 = .ok (.iaload, 1) := by decide +kernel
theorem dX11_ask_70 : decode cX11_ask 70 = .ok (.ireturn, 1) := by decide +kernel
theorem dX11_row_0 : decode cX11_row 0 = .ok (.aload_n 0, 1) := by decide +kernel
theorem dX11_row_1 : decode cX11_row 1 = .ok (.getfield 38, 3) := by decide +kernel
theorem dX11_row_4 : decode cX11_row 4 = .ok (.iload_n 1, 1) := by decide +kernel
theorem dX11_row_5 : decode cX11_row 5 = .ok (.invokevirtual 379, 3) := by decide +kernel
theorem dX11_row_8 : decode cX11_row 8 = .ok (.ifCond .eq 15, 3) := by decide +kernel
theorem dX11_row_11 : decode cX11_row 11 = .ok (.iload_n 2, 1) := by decide +kernel
theorem dX11_row_12 : decode cX11_row 12 = .ok (.i2l, 1) := by decide +kernel
theorem dX11_row_13 : decode cX11_row 13 = .ok (.lconst 0, 1) := by decide +kernel
theorem dX11_row_14 : decode cX11_row 14 = .ok (.ldc2_w 308, 3) := by decide +kernel
theorem dX11_row_17 : decode cX11_row 17 = .ok (.invokestatic 69, 3) := by decide +kernel
theorem dX11_row_20 : decode cX11_row 20 = .ok (.ifCond .ne 10, 3) := by decide +kernel
theorem dX11_row_23 : decode cX11_row 23 = .ok (.aload_n 0, 1) := by decide +kernel
theorem dX11_row_24 : decode cX11_row 24 = .ok (.bipush (-2), 2) := by decide +kernel
theorem dX11_row_26 : decode cX11_row 26 = .ok (.invokevirtual 61, 3) := by decide +kernel
theorem dX11_row_29 : decode cX11_row 29 = .ok (.ireturn, 1) := by decide +kernel
theorem dX11_row_30 : decode cX11_row 30 = .ok (.iload_n 3, 1) := by decide +kernel
theorem dX11_row_31 : decode cX11_row 31 = .ok (.i2l, 1) := by decide +kernel
theorem dX11_row_32 : decode cX11_row 32 = .ok (.lconst 0, 1) := by decide +kernel
theorem dX11_row_33 : decode cX11_row 33 = .ok (.ldc2_w 382, 3) := by decide +kernel
theorem dX11_row_36 : decode cX11_row 36 = .ok (.invokestatic 69, 3) := by decide +kernel
theorem dX11_row_39 : decode cX11_row 39 = .ok (.ifCond .ne 10, 3) := by decide +kernel
theorem dX11_row_42 : decode cX11_row 42 = .ok (.aload_n 0, 1) := by decide +kernel
theorem dX11_row_43 : decode cX11_row 43 = .ok (.bipush (-3), 2) := by decide +kernel
theorem dX11_row_45 : decode cX11_row 45 = .ok (.invokevirtual 61, 3) := by decide +kernel
theorem dX11_row_48 : decode cX11_row 48 = .ok (.ireturn, 1) := by decide +kernel
theorem dX11_row_49 : decode cX11_row 49 = .ok (.aload_n 0, 1) := by decide +kernel
theorem dX11_row_50 : decode cX11_row 50 = .ok (.getfield 38, 3) := by decide +kernel
theorem dX11_row_53 : decode cX11_row 53 = .ok (.iload_n 1, 1) := by decide +kernel
theorem dX11_row_54 : decode cX11_row 54 = .ok (.iload_n 2, 1) := by decide +kernel
theorem dX11_row_55 : decode cX11_row 55 = .ok (.iload_n 3, 1) := by decide +kernel
theorem dX11_row_56 : decode cX11_row 56 = .ok (.invokevirtual 384, 3) := by decide +kernel
theorem dX11_row_59 : decode cX11_row 59 = .ok (.iconst 0, 1) := by decide +kernel
theorem dX11_row_60 : decode cX11_row 60 = .ok (.ireturn, 1) := by decide +kernel
theorem dX11_write_0 : decode cX11_write 0 = .ok (.aload_n 0, 1) := by decide +kernel
theorem dX11_write_1 : decode cX11_write 1 = .ok (.getfield 38, 3) := by decide +kernel
theorem dX11_write_4 : decode cX11_write 4 = .ok (.iload_n 1, 1) := by decide +kernel
theorem dX11_write_5 : decode cX11_write 5 = .ok (.invokevirtual 379, 3) := by decide +kernel
theorem dX11_write_8 : decode cX11_write 8 = .ok (.ifCond .ne 11, 3) := by decide +kernel
theorem dX11_write_11 : decode cX11_write 11 = .ok (.aload_n 0, 1) := by decide +kernel
theorem dX11_write_12 : decode cX11_write 12 = .ok (.bipush (-2), 2) := by decide +kernel
theorem dX11_write_14 : decode cX11_write 14 = .ok (.invokevirtual 61, 3) := by decide +kernel
theorem dX11_write_17 : decode cX11_write 17 = .ok (.i2l, 1) := by decide +kernel
theorem dX11_write_18 : decode cX11_write 18 = .ok (.lreturn, 1) := by decide +kernel
theorem dX11_write_19 : decode cX11_write 19 = .ok (.aload_n 0, 1) := by decide +kernel
theorem dX11_write_20 : decode cX11_write 20 = .ok (.getfield 38, 3) := by decide +kernel
theorem dX11_write_23 : decode cX11_write 23 = .ok (.getfield 388, 3) := by decide +kernel
theorem dX11_write_26 : decode cX11_write 26 = .ok (.iload_n 1, 1) := by decide +kernel
theorem dX11_write_27 : decode cX11_write 27 = .ok (.iaload, 1) := by decide +kernel
theorem dX11_write_28 : decode cX11_write 28 = .ok (.iconst (-1), 1) := by decide +kernel
theorem dX11_write_29 : decode cX11_write 29 = .ok (.if_icmp .ne 11, 3) := by decide +kernel
theorem dX11_write_32 : decode cX11_write 32 = .ok (.aload_n 0, 1) := by decide +kernel
theorem dX11_write_33 : decode cX11_write 33 = .ok (.bipush (-6), 2) := by decide +kernel
theorem dX11_write_35 : decode cX11_write 35 = .ok (.invokevirtual 61, 3) := by decide +kernel
theorem dX11_write_38 : decode cX11_write 38 = .ok (.i2l, 1) := by decide +kernel
theorem dX11_write_39 : decode cX11_write 39 = .ok (.lreturn, 1) := by decide +kernel
theorem dX11_write_40 : decode cX11_write 40 = .ok (.iload_n 2, 1) := by decide +kernel
theorem dX11_write_41 : decode cX11_write 41 = .ok (.i2l, 1) := by decide +kernel
theorem dX11_write_42 : decode cX11_write 42 = .ok (.lconst 0, 1) := by decide +kernel
theorem dX11_write_43 : decode cX11_write 43 = .ok (.aload_n 0, 1) := by decide +kernel
theorem dX11_write_44 : decode cX11_write 44 = .ok (.getfield 38, 3) := by decide +kernel
theorem dX11_write_47 : decode cX11_write 47 = .ok (.getfield 388, 3) := by decide +kernel
theorem dX11_write_50 : decode cX11_write 50 = .ok (.iload_n 1, 1) := by decide +kernel
theorem dX11_write_51 : decode cX11_write 51 = .ok (.iaload, 1) := by decide +kernel
theorem dX11_write_52 : decode cX11_write 52 = .ok (.iconst 1, 1) := by decide +kernel
theorem dX11_write_53 : decode cX11_write 53 = .ok (.isub, 1) := by decide +kernel
theorem dX11_write_54 : decode cX11_write 54 = .ok (.i2l, 1) := by decide +kernel
theorem dX11_write_55 : decode cX11_write 55 = .ok (.invokestatic 69, 3) := by decide +kernel
theorem dX11_write_58 : decode cX11_write 58 = .ok (.ifCond .ne 11, 3) := by decide +kernel
theorem dX11_write_61 : decode cX11_write 61 = .ok (.aload_n 0, 1) := by decide +kernel
theorem dX11_write_62 : decode cX11_write 62 = .ok (.bipush (-7), 2) := by decide +kernel
theorem dX11_write_64 : decode cX11_write 64 = .ok (.invokevirtual 61, 3) := by decide +kernel
theorem dX11_write_67 : decode cX11_write 67 = .ok (.i2l, 1) := by decide +kernel
theorem dX11_write_68 : decode cX11_write 68 = .ok (.lreturn, 1) := by decide +kernel
theorem dX11_write_69 : decode cX11_write 69 = .ok (.aload_n 0, 1) := by decide +kernel
theorem dX11_write_70 : decode cX11_write 70 = .ok (.getfield 38, 3) := by decide +kernel
theorem dX11_write_73 : decode cX11_write 73 = .ok (.iload_n 1, 1) := by decide +kernel
theorem dX11_write_74 : decode cX11_write 74 = .ok (.iload_n 2, 1) := by decide +kernel
theorem dX11_write_75 : decode cX11_write 75 = .ok (.lload_n 3, 1) := by decide +kernel
theorem dX11_write_76 : decode cX11_write 76 = .ok (.invokevirtual 390, 3) := by decide +kernel
theorem dX11_write_79 : decode cX11_write 79 = .ok (.lreturn, 1) := by decide +kernel
theorem dX11_minister_0 : decode cX11_minister 0 = .ok (.aload_n 0, 1) := by decide +kernel
theorem dX11_minister_1 : decode cX11_minister 1 = .ok (.getfield 38, 3) := by decide +kernel
theorem dX11_minister_4 : decode cX11_minister 4 = .ok (.iload_n 1, 1) := by decide +kernel
theorem dX11_minister_5 : decode cX11_minister 5 = .ok (.invokevirtual 379, 3) := by decide +kernel
theorem dX11_minister_8 : decode cX11_minister 8 = .ok (.ifCond .ne 10, 3) := by decide +kernel
theorem dX11_minister_11 : decode cX11_minister 11 = .ok (.aload_n 0, 1) := by decide +kernel
theorem dX11_minister_12 : decode cX11_minister 12 = .ok (.bipush (-2), 2) := by decide +kernel
theorem dX11_minister_14 : decode cX11_minister 14 = .ok (.invokevirtual 61, 3) := by decide +kernel
theorem dX11_minister_17 : decode cX11_minister 17 = .ok (.ireturn, 1) := by decide +kernel
theorem dX11_minister_18 : decode cX11_minister 18 = .ok (.aload_n 0, 1) := by decide +kernel
theorem dX11_minister_19 : decode cX11_minister 19 = .ok (.getfield 38, 3) := by decide +kernel
theorem dX11_minister_22 : decode cX11_minister 22 = .ok (.getfield 388, 3) := by decide +kernel
theorem dX11_minister_25 : decode cX11_minister 25 = .ok (.iload_n 1, 1) := by decide +kernel
theorem dX11_minister_26 : decode cX11_minister 26 = .ok (.iaload, 1) := by decide +kernel
theorem dX11_minister_27 : decode cX11_minister 27 = .ok (.istore_n 2, 1) := by decide +kernel
theorem dX11_minister_28 : decode cX11_minister 28 = .ok (.iload_n 2, 1) := by decide +kernel
theorem dX11_minister_29 : decode cX11_minister 29 = .ok (.iconst (-1), 1) := by decide +kernel
theorem dX11_minister_30 : decode cX11_minister 30 = .ok (.if_icmp .ne 10, 3) := by decide +kernel
theorem dX11_minister_33 : decode cX11_minister 33 = .ok (.aload_n 0, 1) := by decide +kernel
theorem dX11_minister_34 : decode cX11_minister 34 = .ok (.bipush (-6), 2) := by decide +kernel
theorem dX11_minister_36 : decode cX11_minister 36 = .ok (.invokevirtual 61, 3) := by decide +kernel
theorem dX11_minister_39 : decode cX11_minister 39 = .ok (.ireturn, 1) := by decide +kernel
theorem dX11_minister_40 : decode cX11_minister 40 = .ok (.iload_n 2, 1) := by decide +kernel
theorem dX11_minister_41 : decode cX11_minister 41 = .ok (.iconst 5, 1) := by decide +kernel
theorem dX11_minister_42 : decode cX11_minister 42 = .ok (.irem, 1) := by decide +kernel
theorem dX11_minister_43 : decode cX11_minister 43 = .ok (.ifCond .eq 10, 3) := by decide +kernel
theorem dX11_minister_46 : decode cX11_minister 46 = .ok (.aload_n 0, 1) := by decide +kernel
theorem dX11_minister_47 : decode cX11_minister 47 = .ok (.bipush (-7), 2) := by decide +kernel
theorem dX11_minister_49 : decode cX11_minister 49 = .ok (.invokevirtual 61, 3) := by decide +kernel
theorem dX11_minister_52 : decode cX11_minister 52 = .ok (.ireturn, 1) := by decide +kernel
theorem dX11_minister_53 : decode cX11_minister 53 = .ok (.iconst 0, 1) := by decide +kernel
theorem dX11_minister_54 : decode cX11_minister 54 = .ok (.istore_n 3, 1) := by decide +kernel
theorem dX11_minister_55 : decode cX11_minister 55 = .ok (.iload_n 3, 1) := by decide +kernel
theorem dX11_minister_56 : decode cX11_minister 56 = .ok (.iload_n 2, 1) := by decide +kernel
theorem dX11_minister_57 : decode cX11_minister 57 = .ok (.if_icmp .ge 39, 3) := by decide +kernel
theorem dX11_minister_60 : decode cX11_minister 60 = .ok (.aload_n 0, 1) := by decide +kernel
theorem dX11_minister_61 : decode cX11_minister 61 = .ok (.getfield 38, 3) := by decide +kernel
theorem dX11_minister_64 : decode cX11_minister 64 = .ok (.iload_n 1, 1) := by decide +kernel
theorem dX11_minister_65 : decode cX11_minister 65 = .ok (.iload_n 3, 1) := by decide +kernel
theorem dX11_minister_66 : decode cX11_minister 66 = .ok (.invokevirtual 393, 3) := by decide +kernel
theorem dX11_minister_69 : decode cX11_minister 69 = .ok (.lconst 0, 1) := by decide +kernel
theorem dX11_minister_70 : decode cX11_minister 70 = .ok (.iload_n 3, 1) := by decide +kernel
theorem dX11_minister_71 : decode cX11_minister 71 = .ok (.iconst 5, 1) := by decide +kernel
theorem dX11_minister_72 : decode cX11_minister 72 = .ok (.irem, 1) := by decide +kernel
theorem dX11_minister_73 : decode cX11_minister 73 = .ok (.invokestatic 394, 3) := by decide +kernel
theorem dX11_minister_76 : decode cX11_minister 76 = .ok (.i2l, 1) := by decide +kernel
theorem dX11_minister_77 : decode cX11_minister 77 = .ok (.invokestatic 69, 3) := by decide +kernel
theorem dX11_minister_80 : decode cX11_minister 80 = .ok (.ifCond .ne 10, 3) := by decide +kernel
theorem dX11_minister_83 : decode cX11_minister 83 = .ok (.aload_n 0, 1) := by decide +kernel
theorem dX11_minister_84 : decode cX11_minister 84 = .ok (.bipush (-3), 2) := by decide +kernel
theorem dX11_minister_86 : decode cX11_minister 86 = .ok (.invokevirtual 61, 3) := by decide +kernel
theorem dX11_minister_89 : decode cX11_minister 89 = .ok (.ireturn, 1) := by decide +kernel
theorem dX11_minister_90 : decode cX11_minister 90 = .ok (.iinc 3 1, 3) := by decide +kernel
theorem dX11_minister_93 : decode cX11_minister 93 = .ok (.goto (-38), 3) := by decide +kernel
theorem dX11_minister_96 : decode cX11_minister 96 = .ok (.iload_n 2, 1) := by decide +kernel
theorem dX11_minister_97 : decode cX11_minister 97 = .ok (.iconst 5, 1) := by decide +kernel
theorem dX11_minister_98 : decode cX11_minister 98 = .ok (.idiv, 1) := by decide +kernel
theorem dX11_minister_99 : decode cX11_minister 99 = .ok (.istore_n 3, 1) := by decide +kernel
theorem dX11_minister_100 : decode cX11_minister 100 = .ok (.iload_n 3, 1) := by decide +kernel
theorem dX11_minister_101 : decode cX11_minister 101 = .ok (.aload_n 0, 1) := by decide +kernel
theorem dX11_minister_102 : decode cX11_minister 102 = .ok (.getfield 10, 3) := by decide +kernel
theorem dX11_minister_105 : decode cX11_minister 105 = .ok (.getfield 276, 3) := by decide +kernel
theorem dX11_minister_108 : decode cX11_minister 108 = .ok (.invokevirtual 280, 3) := by decide +kernel
theorem dX11_minister_111 : decode cX11_minister 111 = .ok (.if_icmp .le 10, 3) := by decide +kernel
theorem dX11_minister_114 : decode cX11_minister 114 = .ok (.aload_n 0, 1) := by decide +kernel
theorem dX11_minister_115 : decode cX11_minister 115 = .ok (.bipush (-4), 2) := by decide +kernel
theorem dX11_minister_117 : decode cX11_minister 117 = .ok (.invokevirtual 61, 3) := by decide +kernel
theorem dX11_minister_120 : decode cX11_minister 120 = .ok (.ireturn, 1) := by decide +kernel
theorem dX11_minister_121 : decode cX11_minister 121 = .ok (.iconst 0, 1) := by decide +kernel
theorem dX11_minister_122 : decode cX11_minister 122 = .ok (.istore 4, 2) := by decide +kernel
theorem dX11_minister_124 : decode cX11_minister 124 = .ok (.iload 4, 2) := by decide +kernel
theorem dX11_minister_126 : decode cX11_minister 126 = .ok (.iload_n 3, 1) := by decide +kernel
theorem dX11_minister_127 : decode cX11_minister 127 = .ok (.if_icmp .ge 103, 3) := by decide +kernel
theorem dX11_minister_130 : decode cX11_minister 130 = .ok (.iload 4, 2) := by decide +kernel
theorem dX11_minister_132 : decode cX11_minister 132 = .ok (.iconst 5, 1) := by decide +kernel
theorem dX11_minister_133 : decode cX11_minister 133 = .ok (.imul, 1) := by decide +kernel
theorem dX11_minister_134 : decode cX11_minister 134 = .ok (.istore 5, 2) := by decide +kernel
theorem dX11_minister_136 : decode cX11_minister 136 = .ok (.aload_n 0, 1) := by decide +kernel
theorem dX11_minister_137 : decode cX11_minister 137 = .ok (.getfield 10, 3) := by decide +kernel
theorem dX11_minister_140 : decode cX11_minister 140 = .ok (.getfield 276, 3) := by decide +kernel
theorem dX11_minister_143 : decode cX11_minister 143 = .ok (.aload_n 0, 1) := by decide +kernel
theorem dX11_minister_144 : decode cX11_minister 144 = .ok (.getfield 38, 3) := by decide +kernel
theorem dX11_minister_147 : decode cX11_minister 147 = .ok (.iload_n 1, 1) := by decide +kernel
theorem dX11_minister_148 : decode cX11_minister 148 = .ok (.iload 5, 2) := by decide +kernel
theorem dX11_minister_150 : decode cX11_minister 150 = .ok (.invokevirtual 393, 3) := by decide +kernel
theorem dX11_minister_153 : decode cX11_minister 153 = .ok (.l2i, 1) := by decide +kernel
theorem dX11_minister_154 : decode cX11_minister 154 = .ok (.aload_n 0, 1) := by decide +kernel
theorem dX11_minister_155 : decode cX11_minister 155 = .ok (.getfield 38, 3) := by decide +kernel
theorem dX11_minister_158 : decode cX11_minister 158 = .ok (.iload_n 1, 1) := by decide +kernel
theorem dX11_minister_159 : decode cX11_minister 159 = .ok (.iload 5, 2) := by decide +kernel
theorem dX11_minister_161 : decode cX11_minister 161 = .ok (.iconst 1, 1) := by decide +kernel
theorem dX11_minister_162 : decode cX11_minister 162 = .ok (.iadd, 1) := by decide +kernel
theorem dX11_minister_163 : decode cX11_minister 163 = .ok (.invokevirtual 393, 3) := by decide +kernel
theorem dX11_minister_166 : decode cX11_minister 166 = .ok (.l2i, 1) := by decide +kernel
theorem dX11_minister_167 : decode cX11_minister 167 = .ok (.aload_n 0, 1) := by decide +kernel
theorem dX11_minister_168 : decode cX11_minister 168 = .ok (.getfield 38, 3) := by decide +kernel
theorem dX11_minister_171 : decode cX11_minister 171 = .ok (.iload_n 1, 1) := by decide +kernel
theorem dX11_minister_172 : decode cX11_minister 172 = .ok (.iload 5, 2) := by decide +kernel
theorem dX11_minister_174 : decode cX11_minister 174 = .ok (.iconst 2, 1) := by decide +kernel
theorem dX11_minister_175 : decode cX11_minister 175 = .ok (.iadd, 1) := by decide +kernel
theorem dX11_minister_176 : decode cX11_minister 176 = .ok (.invokevirtual 393, 3) := by decide +kernel
theorem dX11_minister_179 : decode cX11_minister 179 = .ok (.l2i, 1) := by decide +kernel
theorem dX11_minister_180 : decode cX11_minister 180 = .ok (.invokevirtual 284, 3) := by decide +kernel
theorem dX11_minister_183 : decode cX11_minister 183 = .ok (.istore 6, 2) := by decide +kernel
theorem dX11_minister_185 : decode cX11_minister 185 = .ok (.aload_n 0, 1) := by decide +kernel
theorem dX11_minister_186 : decode cX11_minister 186 = .ok (.getfield 10, 3) := by decide +kernel
theorem dX11_minister_189 : decode cX11_minister 189 = .ok (.getfield 276, 3) := by decide +kernel
theorem dX11_minister_192 : decode cX11_minister 192 = .ok (.iload 6, 2) := by decide +kernel
theorem dX11_minister_194 : decode cX11_minister 194 = .ok (.aload_n 0, 1) := by decide +kernel
theorem dX11_minister_195 : decode cX11_minister 195 = .ok (.getfield 38, 3) := by decide +kernel
theorem dX11_minister_198 : decode cX11_minister 198 = .ok (.iload_n 1, 1) := by decide +kernel
theorem dX11_minister_199 : decode cX11_minister 199 = .ok (.iload 5, 2) := by decide +kernel
theorem dX11_minister_201 : decode cX11_minister 201 = .ok (.iconst 3, 1) := by decide +kernel
theorem dX11_minister_202 : decode cX11_minister 202 = .ok (.iadd, 1) := by decide +kernel
theorem dX11_minister_203 : decode cX11_minister 203 = .ok (.invokevirtual 393, 3) := by decide +kernel
theorem dX11_minister_206 : decode cX11_minister 206 = .ok (.l2i, 1) := by decide +kernel
theorem dX11_minister_207 : decode cX11_minister 207 = .ok (.aload_n 0, 1) := by decide +kernel
theorem dX11_minister_208 : decode cX11_minister 208 = .ok (.getfield 38, 3) := by decide +kernel
theorem dX11_minister_211 : decode cX11_minister 211 = .ok (.iload_n 1, 1) := by decide +kernel
theorem dX11_minister_212 : decode cX11_minister 212 = .ok (.iload 5, 2) := by decide +kernel
theorem dX11_minister_214 : decode cX11_minister 214 = .ok (.iconst 4, 1) := by decide +kernel
theorem dX11_minister_215 : decode cX11_minister 215 = .ok (.iadd, 1) := by decide +kernel
theorem dX11_minister_216 : decode cX11_minister 216 = .ok (.invokevirtual 393, 3) := by decide +kernel
theorem dX11_minister_219 : decode cX11_minister 219 = .ok (.l2i, 1) := by decide +kernel
theorem dX11_minister_220 : decode cX11_minister 220 = .ok (.lconst 0, 1) := by decide +kernel
theorem dX11_minister_221 : decode cX11_minister 221 = .ok (.invokevirtual 285, 3) := by decide +kernel
theorem dX11_minister_224 : decode cX11_minister 224 = .ok (.iinc 4 1, 3) := by decide +kernel
theorem dX11_minister_227 : decode cX11_minister 227 = .ok (.goto (-103), 3) := by decide +kernel
theorem dX11_minister_230 : decode cX11_minister 230 = .ok (.iload_n 3, 1) := by decide +kernel
theorem dX11_minister_231 : decode cX11_minister 231 = .ok (.ireturn, 1) := by decide +kernel
theorem dX11_say_0 : decode cX11_say 0 = .ok (.aload_n 0, 1) := by decide +kernel
theorem dX11_say_1 : decode cX11_say 1 = .ok (.getfield 10, 3) := by decide +kernel
theorem dX11_say_4 : decode cX11_say 4 = .ok (.getfield 115, 3) := by decide +kernel
theorem dX11_say_7 : decode cX11_say 7 = .ok (.iconst 0, 1) := by decide +kernel
theorem dX11_say_8 : decode cX11_say 8 = .ok (.iload_n 1, 1) := by decide +kernel
theorem dX11_say_9 : decode cX11_say 9 = .ok (.invokevirtual 133, 3) := by decide +kernel
theorem dX11_say_12 : decode cX11_say 12 = .ok (.ifCond .ne 10, 3) := by decide +kernel
theorem dX11_say_15 : decode cX11_say 15 = .ok (.aload_n 0, 1) := by decide +kernel
theorem dX11_say_16 : decode cX11_say 16 = .ok (.bipush (-2), 2) := by decide +kernel
theorem dX11_say_18 : decode cX11_say 18 = .ok (.invokevirtual 61, 3) := by decide +kernel
theorem dX11_say_21 : decode cX11_say 21 = .ok (.ireturn, 1) := by decide +kernel
theorem dX11_say_22 : decode cX11_say 22 = .ok (.aload_n 0, 1) := by decide +kernel
theorem dX11_say_23 : decode cX11_say 23 = .ok (.getfield 10, 3) := by decide +kernel
theorem dX11_say_26 : decode cX11_say 26 = .ok (.invokevirtual 397, 3) := by decide +kernel
theorem dX11_say_29 : decode cX11_say 29 = .ok (.ifCond .ne 18, 3) := by decide +kernel
theorem dX11_say_32 : decode cX11_say 32 = .ok (.aload_n 0, 1) := by decide +kernel
theorem dX11_say_33 : decode cX11_say 33 = .ok (.getfield 10, 3) := by decide +kernel
theorem dX11_say_36 : decode cX11_say 36 = .ok (.getfield 250, 3) := by decide +kernel
theorem dX11_say_39 : decode cX11_say 39 = .ok (.getfield 256, 3) := by decide +kernel
theorem dX11_say_42 : decode cX11_say 42 = .ok (.ifCond .ne 5, 3) := by decide +kernel
theorem dX11_say_45 : decode cX11_say 45 = .ok (.iconst 0, 1) := by decide +kernel
theorem dX11_say_46 : decode cX11_say 46 = .ok (.ireturn, 1) := by decide +kernel
theorem dX11_say_47 : decode cX11_say 47 = .ok (.aload_n 0, 1) := by decide +kernel
theorem dX11_say_48 : decode cX11_say 48 = .ok (.getfield 31, 3) := by decide +kernel
theorem dX11_say_51 : decode cX11_say 51 = .ok (.iload_n 1, 1) := by decide +kernel
theorem dX11_say_52 : decode cX11_say 52 = .ok (.invokevirtual 211, 3) := by decide +kernel
theorem dX11_say_55 : decode cX11_say 55 = .ok (.aload_n 0, 1) := by decide +kernel
theorem dX11_say_56 : decode cX11_say 56 = .ok (.getfield 31, 3) := by decide +kernel
theorem dX11_say_59 : decode cX11_say 59 = .ok (.getfield 214, 3) := by decide +kernel
theorem dX11_say_62 : decode cX11_say 62 = .ok (.tableswitch 42 0 4 #[34, 34, 36, 38, 40], 34) := by decide +kernel
theorem dX11_say_96 : decode cX11_say 96 = .ok (.iconst 1, 1) := by decide +kernel
theorem dX11_say_97 : decode cX11_say 97 = .ok (.ireturn, 1) := by decide +kernel
theorem dX11_say_98 : decode cX11_say 98 = .ok (.iconst 2, 1) := by decide +kernel
theorem dX11_say_99 : decode cX11_say 99 = .ok (.ireturn, 1) := by decide +kernel
theorem dX11_say_100 : decode cX11_say 100 = .ok (.iconst 3, 1) := by decide +kernel
theorem dX11_say_101 : decode cX11_say 101 = .ok (.ireturn, 1) := by decide +kernel
theorem dX11_say_102 : decode cX11_say 102 = .ok (.iconst 4, 1) := by decide +kernel
theorem dX11_say_103 : decode cX11_say 103 = .ok (.ireturn, 1) := by decide +kernel
theorem dX11_say_104 : decode cX11_say 104 = .ok (.aload_n 0, 1) := by decide +kernel
theorem dX11_say_105 : decode cX11_say 105 = .ok (.getfield 31, 3) := by decide +kernel
theorem dX11_say_108 : decode cX11_say 108 = .ok (.bipush 7, 2) := by decide +kernel
theorem dX11_say_110 : decode cX11_say 110 = .ok (.aload_n 0, 1) := by decide +kernel
theorem dX11_say_111 : decode cX11_say 111 = .ok (.getfield 10, 3) := by decide +kernel
theorem dX11_say_114 : decode cX11_say 114 = .ok (.getfield 115, 3) := by decide +kernel
theorem dX11_say_117 : decode cX11_say 117 = .ok (.iconst 0, 1) := by decide +kernel
theorem dX11_say_118 : decode cX11_say 118 = .ok (.iload_n 1, 1) := by decide +kernel
theorem dX11_say_119 : decode cX11_say 119 = .ok (.invokevirtual 135, 3) := by decide +kernel
theorem dX11_say_122 : decode cX11_say 122 = .ok (.iconst (-1), 1) := by decide +kernel
theorem dX11_say_123 : decode cX11_say 123 = .ok (.invokevirtual 223, 3) := by decide +kernel
theorem dX11_say_126 : decode cX11_say 126 = .ok (.aload_n 0, 1) := by decide +kernel
theorem dX11_say_127 : decode cX11_say 127 = .ok (.getfield 10, 3) := by decide +kernel
theorem dX11_say_130 : decode cX11_say 130 = .ok (.getfield 124, 3) := by decide +kernel
theorem dX11_say_133 : decode cX11_say 133 = .ok (.if_icmp .lt 7, 3) := by decide +kernel
theorem dX11_say_136 : decode cX11_say 136 = .ok (.iconst 5, 1) := by decide +kernel
theorem dX11_say_137 : decode cX11_say 137 = .ok (.goto 5, 3) := by decide +kernel
theorem dX11_say_140 : decode cX11_say 140 = .ok (.bipush 6, 2) := by decide +kernel
theorem dX11_say_142 : decode cX11_say 142 = .ok (.ireturn, 1) := by decide +kernel
theorem dX11_image_0 : decode cX11_image 0 = .ok (.iload_n 1, 1) := by decide +kernel
theorem dX11_image_1 : decode cX11_image 1 = .ok (.invokestatic 208, 3) := by decide +kernel
theorem dX11_image_4 : decode cX11_image 4 = .ok (.ifCond .ne 10, 3) := by decide +kernel
theorem dX11_image_7 : decode cX11_image 7 = .ok (.aload_n 0, 1) := by decide +kernel
theorem dX11_image_8 : decode cX11_image 8 = .ok (.bipush (-2), 2) := by decide +kernel
theorem dX11_image_10 : decode cX11_image 10 = .ok (.invokevirtual 61, 3) := by decide +kernel
theorem dX11_image_13 : decode cX11_image 13 = .ok (.ireturn, 1) := by decide +kernel
theorem dX11_image_14 : decode cX11_image 14 = .ok (.aload_n 0, 1) := by decide +kernel
theorem dX11_image_15 : decode cX11_image 15 = .ok (.iload_n 1, 1) := by decide +kernel
theorem dX11_image_16 : decode cX11_image 16 = .ok (.invokevirtual 400, 3) := by decide +kernel
theorem dX11_image_19 : decode cX11_image 19 = .ok (.aload_n 0, 1) := by decide +kernel
theorem dX11_image_20 : decode cX11_image 20 = .ok (.getfield 10, 3) := by decide +kernel
theorem dX11_image_23 : decode cX11_image 23 = .ok (.invokevirtual 404, 3) := by decide +kernel
theorem dX11_image_26 : decode cX11_image 26 = .ok (.aload_n 0, 1) := by decide +kernel
theorem dX11_image_27 : decode cX11_image 27 = .ok (.getfield 22, 3) := by decide +kernel
theorem dX11_image_30 : decode cX11_image 30 = .ok (.iload_n 1, 1) := by decide +kernel
theorem dX11_image_31 : decode cX11_image 31 = .ok (.iconst 1, 1) := by decide +kernel
theorem dX11_image_32 : decode cX11_image 32 = .ok (.bastore, 1) := by decide +kernel
theorem dX11_image_33 : decode cX11_image 33 = .ok (.iconst 0, 1) := by decide +kernel
theorem dX11_image_34 : decode cX11_image 34 = .ok (.ireturn, 1) := by decide +kernel
theorem dX11_restore_0 : decode cX11_restore 0 = .ok (.iload_n 1, 1) := by decide +kernel
theorem dX11_restore_1 : decode cX11_restore 1 = .ok (.invokestatic 208, 3) := by decide +kernel
theorem dX11_restore_4 : decode cX11_restore 4 = .ok (.ifCond .ne 10, 3) := by decide +kernel
theorem dX11_restore_7 : decode cX11_restore 7 = .ok (.aload_n 0, 1) := by decide +kernel
theorem dX11_restore_8 : decode cX11_restore 8 = .ok (.bipush (-2), 2) := by decide +kernel
theorem dX11_restore_10 : decode cX11_restore 10 = .ok (.invokevirtual 61, 3) := by decide +kernel
theorem dX11_restore_13 : decode cX11_restore 13 = .ok (.ireturn, 1) := by decide +kernel
theorem dX11_restore_14 : decode cX11_restore 14 = .ok (.aload_n 0, 1) := by decide +kernel
theorem dX11_restore_15 : decode cX11_restore 15 = .ok (.getfield 22, 3) := by decide +kernel
theorem dX11_restore_18 : decode cX11_restore 18 = .ok (.iload_n 1, 1) := by decide +kernel
theorem dX11_restore_19 : decode cX11_restore 19 = .ok (.baload, 1) := by decide +kernel
theorem dX11_restore_20 : decode cX11_restore 20 = .ok (.ifCond .ne 10, 3) := by decide +kernel
theorem dX11_restore_23 : decode cX11_restore 23 = .ok (.aload_n 0, 1) := by decide +kernel
theorem dX11_restore_24 : decode cX11_restore 24 = .ok (.bipush (-5), 2) := by decide +kernel
theorem dX11_restore_26 : decode cX11_restore 26 = .ok (.invokevirtual 61, 3) := by decide +kernel
theorem dX11_restore_29 : decode cX11_restore 29 = .ok (.ireturn, 1) := by decide +kernel
theorem dX11_restore_30 : decode cX11_restore 30 = .ok (.aload_n 0, 1) := by decide +kernel
theorem dX11_restore_31 : decode cX11_restore 31 = .ok (.getfield 10, 3) := by decide +kernel
theorem dX11_restore_34 : decode cX11_restore 34 = .ok (.aload_n 0, 1) := by decide +kernel
theorem dX11_restore_35 : decode cX11_restore 35 = .ok (.iload_n 1, 1) := by decide +kernel
theorem dX11_restore_36 : decode cX11_restore 36 = .ok (.invokevirtual 400, 3) := by decide +kernel
theorem dX11_restore_39 : decode cX11_restore 39 = .ok (.invokevirtual 404, 3) := by decide +kernel
theorem dX11_restore_42 : decode cX11_restore 42 = .ok (.iconst 0, 1) := by decide +kernel
theorem dX11_restore_43 : decode cX11_restore 43 = .ok (.ireturn, 1) := by decide +kernel
theorem dX11_status_0 : decode cX11_status 0 = .ok (.iload_n 1, 1) := by decide +kernel
theorem dX11_status_1 : decode cX11_status 1 = .ok (.i2l, 1) := by decide +kernel
theorem dX11_status_2 : decode cX11_status 2 = .ok (.lconst 1, 1) := by decide +kernel
theorem dX11_status_3 : decode cX11_status 3 = .ok (.ldc2_w 406, 3) := by decide +kernel
theorem dX11_status_6 : decode cX11_status 6 = .ok (.invokestatic 69, 3) := by decide +kernel
theorem dX11_status_9 : decode cX11_status 9 = .ok (.ifCond .eq 12, 3) := by decide +kernel
theorem dX11_status_12 : decode cX11_status 12 = .ok (.aload_n 0, 1) := by decide +kernel
theorem dX11_status_13 : decode cX11_status 13 = .ok (.getfield 57, 3) := by decide +kernel
theorem dX11_status_16 : decode cX11_status 16 = .ok (.iload_n 1, 1) := by decide +kernel
theorem dX11_status_17 : decode cX11_status 17 = .ok (.iaload, 1) := by decide +kernel
theorem dX11_status_18 : decode cX11_status 18 = .ok (.goto 4, 3) := by decide +kernel
theorem dX11_status_21 : decode cX11_status 21 = .ok (.iconst (-1), 1) := by decide +kernel
theorem dX11_status_22 : decode cX11_status 22 = .ok (.ireturn, 1) := by decide +kernel
theorem dX11_count_0 : decode cX11_count 0 = .ok (.iload_n 1, 1) := by decide +kernel
theorem dX11_count_1 : decode cX11_count 1 = .ok (.i2l, 1) := by decide +kernel
theorem dX11_count_2 : decode cX11_count 2 = .ok (.ldc2_w 122, 3) := by decide +kernel
theorem dX11_count_5 : decode cX11_count 5 = .ok (.ldc2_w 408, 3) := by decide +kernel
theorem dX11_count_8 : decode cX11_count 8 = .ok (.invokestatic 69, 3) := by decide +kernel
theorem dX11_count_11 : decode cX11_count 11 = .ok (.ifCond .eq 18, 3) := by decide +kernel
theorem dX11_count_14 : decode cX11_count 14 = .ok (.aload_n 0, 1) := by decide +kernel
theorem dX11_count_15 : decode cX11_count 15 = .ok (.getfield 10, 3) := by decide +kernel
theorem dX11_count_18 : decode cX11_count 18 = .ok (.getfield 198, 3) := by decide +kernel
theorem dX11_count_21 : decode cX11_count 21 = .ok (.iload_n 1, 1) := by decide +kernel
theorem dX11_count_22 : decode cX11_count 22 = .ok (.bipush 100, 2) := by decide +kernel
theorem dX11_count_24 : decode cX11_count 24 = .ok (.isub, 1) := by decide +kernel
theorem dX11_count_25 : decode cX11_count 25 = .ok (.invokestatic 410, 3) := by decide +kernel
theorem dX11_count_28 : decode cX11_count 28 = .ok (.ireturn, 1) := by decide +kernel
theorem dX11_count_29 : decode cX11_count 29 = .ok (.iload_n 1, 1) := by decide +kernel
theorem dX11_count_30 : decode cX11_count 30 = .ok (.sipush 200, 3) := by decide +kernel
theorem dX11_count_33 : decode cX11_count 33 = .ok (.if_icmp .lt 19, 3) := by decide +kernel
theorem dX11_count_36 : decode cX11_count 36 = .ok (.aload_n 0, 1) := by decide +kernel
theorem dX11_count_37 : decode cX11_count 37 = .ok (.getfield 10, 3) := by decide +kernel
theorem dX11_count_40 : decode cX11_count 40 = .ok (.getfield 250, 3) := by decide +kernel
theorem dX11_count_43 : decode cX11_count 43 = .ok (.iload_n 1, 1) := by decide +kernel
theorem dX11_count_44 : decode cX11_count 44 = .ok (.sipush 200, 3) := by decide +kernel
theorem dX11_count_47 : decode cX11_count 47 = .ok (.isub, 1) := by decide +kernel
theorem dX11_count_48 : decode cX11_count 48 = .ok (.invokestatic 410, 3) := by decide +kernel
theorem dX11_count_51 : decode cX11_count 51 = .ok (.ireturn, 1) := by decide +kernel
theorem dX11_count_52 : decode cX11_count 52 = .ok (.iload_n 1, 1) := by decide +kernel
theorem dX11_count_53 : decode cX11_count 53 = .ok (.tableswitch 208 0 12 #[67, 78, 89, 102, 113, 124, 135, 146, 157, 168, 179, 190, 195], 67) := by decide +kernel
theorem dX11_count_120 : decode cX11_count 120 = .ok (.aload_n 0, 1) := by decide +kernel
theorem dX11_count_121 : decode cX11_count 121 = .ok (.getfield 10, 3) := by decide +kernel
theorem dX11_count_124 : decode cX11_count 124 = .ok (.getfield 198, 3) := by decide +kernel
theorem dX11_count_127 : decode cX11_count 127 = .ok (.getfield 256, 3) := by decide +kernel
theorem dX11_count_130 : decode cX11_count 130 = .ok (.ireturn, 1) := by decide +kernel
theorem dX11_count_131 : decode cX11_count 131 = .ok (.aload_n 0, 1) := by decide +kernel
theorem dX11_count_132 : decode cX11_count 132 = .ok (.getfield 10, 3) := by decide +kernel
theorem dX11_count_135 : decode cX11_count 135 = .ok (.getfield 250, 3) := by decide +kernel
theorem dX11_count_138 : decode cX11_count 138 = .ok (.getfield 256, 3) := by decide +kernel
theorem dX11_count_141 : decode cX11_count 141 = .ok (.ireturn, 1) := by decide +kernel
theorem dX11_count_142 : decode cX11_count 142 = .ok (.aload_n 0, 1) := by decide +kernel
theorem dX11_count_143 : decode cX11_count 143 = .ok (.getfield 10, 3) := by decide +kernel
theorem dX11_count_146 : decode cX11_count 146 = .ok (.getfield 115, 3) := by decide +kernel
theorem dX11_count_149 : decode cX11_count 149 = .ok (.getfield 227, 3) := by decide +kernel
theorem dX11_count_152 : decode cX11_count 152 = .ok (.iconst 0, 1) := by decide +kernel
theorem dX11_count_153 : decode cX11_count 153 = .ok (.iaload, 1) := by decide +kernel
theorem dX11_count_154 : decode cX11_count 154 = .ok (.ireturn, 1) := by decide +kernel
theorem dX11_count_155 : decode cX11_count 155 = .ok (.aload_n 0, 1) := by decide +kernel
theorem dX11_count_156 : decode cX11_count 156 = .ok (.getfield 10, 3) := by decide +kernel
theorem dX11_count_159 : decode cX11_count 159 = .ok (.getfield 276, 3) := by decide +kernel
theorem dX11_count_162 : decode cX11_count 162 = .ok (.getfield 310, 3) := by decide +kernel
theorem dX11_count_165 : decode cX11_count 165 = .ok (.ireturn, 1) := by decide +kernel
theorem dX11_count_166 : decode cX11_count 166 = .ok (.aload_n 0, 1) := by decide +kernel
theorem dX11_count_167 : decode cX11_count 167 = .ok (.getfield 10, 3) := by decide +kernel
theorem dX11_count_170 : decode cX11_count 170 = .ok (.getfield 267, 3) := by decide +kernel
theorem dX11_count_173 : decode cX11_count 173 = .ok (.getfield 256, 3) := by decide +kernel
theorem dX11_count_176 : decode cX11_count 176 = .ok (.ireturn, 1) := by decide +kernel
theorem dX11_count_177 : decode cX11_count 177 = .ok (.aload_n 0, 1) := by decide +kernel
theorem dX11_count_178 : decode cX11_count 178 = .ok (.getfield 10, 3) := by decide +kernel
theorem dX11_count_181 : decode cX11_count 181 = .ok (.getfield 319, 3) := by decide +kernel
theorem dX11_count_184 : decode cX11_count 184 = .ok (.getfield 323, 3) := by decide +kernel
theorem dX11_count_187 : decode cX11_count 187 = .ok (.ireturn, 1) := by decide +kernel
theorem dX11_count_188 : decode cX11_count 188 = .ok (.aload_n 0, 1) := by decide +kernel
theorem dX11_count_189 : decode cX11_count 189 = .ok (.getfield 10, 3) := by decide +kernel
theorem dX11_count_192 : decode cX11_count 192 = .ok (.getfield 319, 3) := by decide +kernel
theorem dX11_count_195 : decode cX11_count 195 = .ok (.getfield 333, 3) := by decide +kernel
theorem dX11_count_198 : decode cX11_count 198 = .ok (.ireturn, 1) := by decide +kernel
theorem dX11_count_199 : decode cX11_count 199 = .ok (.aload_n 0, 1) := by decide +kernel
theorem dX11_count_200 : decode cX11_count 200 = .ok (.getfield 10, 3) := by decide +kernel
theorem dX11_count_203 : decode cX11_count 203 = .ok (.getfield 319, 3) := by decide +kernel
theorem dX11_count_206 : decode cX11_count 206 = .ok (.getfield 345, 3) := by decide +kernel
theorem dX11_count_209 : decode cX11_count 209 = .ok (.ireturn, 1) := by decide +kernel
theorem dX11_count_210 : decode cX11_count 210 = .ok (.aload_n 0, 1) := by decide +kernel
theorem dX11_count_211 : decode cX11_count 211 = .ok (.getfield 10, 3) := by decide +kernel
theorem dX11_count_214 : decode cX11_count 214 = .ok (.getfield 354, 3) := by decide +kernel
theorem dX11_count_217 : decode cX11_count 217 = .ok (.getfield 358, 3) := by decide +kernel
theorem dX11_count_220 : decode cX11_count 220 = .ok (.ireturn, 1) := by decide +kernel
theorem dX11_count_221 : decode cX11_count 221 = .ok (.aload_n 0, 1) := by decide +kernel
theorem dX11_count_222 : decode cX11_count 222 = .ok (.getfield 10, 3) := by decide +kernel
theorem dX11_count_225 : decode cX11_count 225 = .ok (.getfield 171, 3) := by decide +kernel
theorem dX11_count_228 : decode cX11_count 228 = .ok (.getfield 172, 3) := by decide +kernel
theorem dX11_count_231 : decode cX11_count 231 = .ok (.ireturn, 1) := by decide +kernel
theorem dX11_count_232 : decode cX11_count 232 = .ok (.aload_n 0, 1) := by decide +kernel
theorem dX11_count_233 : decode cX11_count 233 = .ok (.getfield 10, 3) := by decide +kernel
theorem dX11_count_236 : decode cX11_count 236 = .ok (.getfield 177, 3) := by decide +kernel
theorem dX11_count_239 : decode cX11_count 239 = .ok (.getfield 188, 3) := by decide +kernel
theorem dX11_count_242 : decode cX11_count 242 = .ok (.ireturn, 1) := by decide +kernel
theorem dX11_count_243 : decode cX11_count 243 = .ok (.aload_n 0, 1) := by decide +kernel
theorem dX11_count_244 : decode cX11_count 244 = .ok (.getfield 143, 3) := by decide +kernel
theorem dX11_count_247 : decode cX11_count 247 = .ok (.ireturn, 1) := by decide +kernel
theorem dX11_count_248 : decode cX11_count 248 = .ok (.aload_n 0, 1) := by decide +kernel
theorem dX11_count_249 : decode cX11_count 249 = .ok (.getfield 10, 3) := by decide +kernel
theorem dX11_count_252 : decode cX11_count 252 = .ok (.getfield 115, 3) := by decide +kernel
theorem dX11_count_255 : decode cX11_count 255 = .ok (.getfield 119, 3) := by decide +kernel
theorem dX11_count_258 : decode cX11_count 258 = .ok (.iconst 0, 1) := by decide +kernel
theorem dX11_count_259 : decode cX11_count 259 = .ok (.iaload, 1) := by decide +kernel
theorem dX11_count_260 : decode cX11_count 260 = .ok (.ireturn, 1) := by decide +kernel
theorem dX11_count_261 : decode cX11_count 261 = .ok (.iconst (-1), 1) := by decide +kernel
theorem dX11_count_262 : decode cX11_count 262 = .ok (.ireturn, 1) := by decide +kernel
theorem dX11_linesOf_0 : decode cX11_linesOf 0 = .ok (.aload_n 0, 1) := by decide +kernel
theorem dX11_linesOf_1 : decode cX11_linesOf 1 = .ok (.iload_n 1, 1) := by decide +kernel
theorem dX11_linesOf_2 : decode cX11_linesOf 2 = .ok (.invokevirtual 93, 3) := by decide +kernel
theorem dX11_linesOf_5 : decode cX11_linesOf 5 = .ok (.ifCond .eq 12, 3) := by decide +kernel
theorem dX11_linesOf_8 : decode cX11_linesOf 8 = .ok (.aload_n 0, 1) := by decide +kernel
theorem dX11_linesOf_9 : decode cX11_linesOf 9 = .ok (.getfield 227, 3) := by decide +kernel
theorem dX11_linesOf_12 : decode cX11_linesOf 12 = .ok (.iload_n 1, 1) := by decide +kernel
theorem dX11_linesOf_13 : decode cX11_linesOf 13 = .ok (.iaload, 1) := by decide +kernel
theorem dX11_linesOf_14 : decode cX11_linesOf 14 = .ok (.goto 4, 3) := by decide +kernel
theorem dX11_linesOf_17 : decode cX11_linesOf 17 = .ok (.iconst (-1), 1) := by decide +kernel
theorem dX11_linesOf_18 : decode cX11_linesOf 18 = .ok (.ireturn, 1) := by decide +kernel
theorem dX11_imageAt_0 : decode cX11_imageAt 0 = .ok (.iload_n 1, 1) := by decide +kernel
theorem dX11_imageAt_1 : decode cX11_imageAt 1 = .ok (.ifCond .ne 10, 3) := by decide +kernel
theorem dX11_imageAt_4 : decode cX11_imageAt 4 = .ok (.aload_n 0, 1) := by decide +kernel
theorem dX11_imageAt_5 : decode cX11_imageAt 5 = .ok (.getfield 16, 3) := by decide +kernel
theorem dX11_imageAt_8 : decode cX11_imageAt 8 = .ok (.goto 7, 3) := by decide +kernel
theorem dX11_imageAt_11 : decode cX11_imageAt 11 = .ok (.aload_n 0, 1) := by decide +kernel
theorem dX11_imageAt_12 : decode cX11_imageAt 12 = .ok (.getfield 19, 3) := by decide +kernel
theorem dX11_imageAt_15 : decode cX11_imageAt 15 = .ok (.areturn, 1) := by decide +kernel
theorem dX11_refuse_0 : decode cX11_refuse 0 = .ok (.iload_n 1, 1) := by decide +kernel
theorem dX11_refuse_1 : decode cX11_refuse 1 = .ok (.bipush (-10), 2) := by decide +kernel
theorem dX11_refuse_3 : decode cX11_refuse 3 = .ok (.if_icmp .ge 7, 3) := by decide +kernel
theorem dX11_refuse_6 : decode cX11_refuse 6 = .ok (.iconst 1, 1) := by decide +kernel
theorem dX11_refuse_7 : decode cX11_refuse 7 = .ok (.goto 5, 3) := by decide +kernel
theorem dX11_refuse_10 : decode cX11_refuse 10 = .ok (.iload_n 1, 1) := by decide +kernel
theorem dX11_refuse_11 : decode cX11_refuse 11 = .ok (.ineg, 1) := by decide +kernel
theorem dX11_refuse_12 : decode cX11_refuse 12 = .ok (.istore_n 2, 1) := by decide +kernel
theorem dX11_refuse_13 : decode cX11_refuse 13 = .ok (.iload_n 2, 1) := by decide +kernel
theorem dX11_refuse_14 : decode cX11_refuse 14 = .ok (.ifCond .lt 22, 3) := by decide +kernel
theorem dX11_refuse_17 : decode cX11_refuse 17 = .ok (.iload_n 2, 1) := by decide +kernel
theorem dX11_refuse_18 : decode cX11_refuse 18 = .ok (.aload_n 0, 1) := by decide +kernel
theorem dX11_refuse_19 : decode cX11_refuse 19 = .ok (.getfield 57, 3) := by decide +kernel
theorem dX11_refuse_22 : decode cX11_refuse 22 = .ok (.arraylength, 1) := by decide +kernel
theorem dX11_refuse_23 : decode cX11_refuse 23 = .ok (.if_icmp .ge 13, 3) := by decide +kernel
theorem dX11_refuse_26 : decode cX11_refuse 26 = .ok (.aload_n 0, 1) := by decide +kernel
theorem dX11_refuse_27 : decode cX11_refuse 27 = .ok (.getfield 57, 3) := by decide +kernel
theorem dX11_refuse_30 : decode cX11_refuse 30 = .ok (.iload_n 2, 1) := by decide +kernel
theorem dX11_refuse_31 : decode cX11_refuse 31 = .ok (.dup2, 1) := by decide +kernel
theorem dX11_refuse_32 : decode cX11_refuse 32 = .ok (.iaload, 1) := by decide +kernel
theorem dX11_refuse_33 : decode cX11_refuse 33 = .ok (.iconst 1, 1) := by decide +kernel
theorem dX11_refuse_34 : decode cX11_refuse 34 = .ok (.iadd, 1) := by decide +kernel
theorem dX11_refuse_35 : decode cX11_refuse 35 = .ok (.iastore, 1) := by decide +kernel
theorem dX11_refuse_36 : decode cX11_refuse 36 = .ok (.iload_n 1, 1) := by decide +kernel
theorem dX11_refuse_37 : decode cX11_refuse 37 = .ok (.ireturn, 1) := by decide +kernel
theorem dX11_within_0 : decode cX11_within 0 = .ok (.lload_n 0, 1) := by decide +kernel
theorem dX11_within_1 : decode cX11_within 1 = .ok (.lload_n 2, 1) := by decide +kernel
theorem dX11_within_2 : decode cX11_within 2 = .ok (.lcmp, 1) := by decide +kernel
theorem dX11_within_3 : decode cX11_within 3 = .ok (.ifCond .lt 14, 3) := by decide +kernel
theorem dX11_within_6 : decode cX11_within 6 = .ok (.lload_n 0, 1) := by decide +kernel
theorem dX11_within_7 : decode cX11_within 7 = .ok (.lload 4, 2) := by decide +kernel
theorem dX11_within_9 : decode cX11_within 9 = .ok (.lcmp, 1) := by decide +kernel
theorem dX11_within_10 : decode cX11_within 10 = .ok (.ifCond .gt 7, 3) := by decide +kernel
theorem dX11_within_13 : decode cX11_within 13 = .ok (.iconst 1, 1) := by decide +kernel
theorem dX11_within_14 : decode cX11_within 14 = .ok (.goto 4, 3) := by decide +kernel
theorem dX11_within_17 : decode cX11_within 17 = .ok (.iconst 0, 1) := by decide +kernel
theorem dX11_within_18 : decode cX11_within 18 = .ok (.ireturn, 1) := by decide +kernel
theorem dX11_isGlenAndDay_0 : decode cX11_isGlenAndDay 0 = .ok (.iload_n 0, 1) := by decide +kernel
theorem dX11_isGlenAndDay_1 : decode cX11_isGlenAndDay 1 = .ok (.i2l, 1) := by decide +kernel
theorem dX11_isGlenAndDay_2 : decode cX11_isGlenAndDay 2 = .ok (.lconst 0, 1) := by decide +kernel
theorem dX11_isGlenAndDay_3 : decode cX11_isGlenAndDay 3 = .ok (.ldc2_w 306, 3) := by decide +kernel
theorem dX11_isGlenAndDay_6 : decode cX11_isGlenAndDay 6 = .ok (.invokestatic 69, 3) := by decide +kernel
theorem dX11_isGlenAndDay_9 : decode cX11_isGlenAndDay 9 = .ok (.ifCond .eq 19, 3) := by decide +kernel
theorem dX11_isGlenAndDay_12 : decode cX11_isGlenAndDay 12 = .ok (.iload_n 1, 1) := by decide +kernel
theorem dX11_isGlenAndDay_13 : decode cX11_isGlenAndDay 13 = .ok (.i2l, 1) := by decide +kernel
theorem dX11_isGlenAndDay_14 : decode cX11_isGlenAndDay 14 = .ok (.lconst 0, 1) := by decide +kernel
theorem dX11_isGlenAndDay_15 : decode cX11_isGlenAndDay 15 = .ok (.ldc2_w 113, 3) := by decide +kernel
theorem dX11_isGlenAndDay_18 : decode cX11_isGlenAndDay 18 = .ok (.invokestatic 69, 3) := by decide +kernel
theorem dX11_isGlenAndDay_21 : decode cX11_isGlenAndDay 21 = .ok (.ifCond .eq 7, 3) := by decide +kernel
theorem dX11_isGlenAndDay_24 : decode cX11_isGlenAndDay 24 = .ok (.iconst 1, 1) := by decide +kernel
theorem dX11_isGlenAndDay_25 : decode cX11_isGlenAndDay 25 = .ok (.goto 4, 3) := by decide +kernel
theorem dX11_isGlenAndDay_28 : decode cX11_isGlenAndDay 28 = .ok (.iconst 0, 1) := by decide +kernel
theorem dX11_isGlenAndDay_29 : decode cX11_isGlenAndDay 29 = .ok (.ireturn, 1) := by decide +kernel
theorem dX11_isHalf_0 : decode cX11_isHalf 0 = .ok (.iload_n 0, 1) := by decide +kernel
theorem dX11_isHalf_1 : decode cX11_isHalf 1 = .ok (.ifCond .eq 8, 3) := by decide +kernel
theorem dX11_isHalf_4 : decode cX11_isHalf 4 = .ok (.iload_n 0, 1) := by decide +kernel
theorem dX11_isHalf_5 : decode cX11_isHalf 5 = .ok (.iconst 1, 1) := by decide +kernel
theorem dX11_isHalf_6 : decode cX11_isHalf 6 = .ok (.if_icmp .ne 7, 3) := by decide +kernel
theorem dX11_isHalf_9 : decode cX11_isHalf 9 = .ok (.iconst 1, 1) := by decide +kernel
theorem dX11_isHalf_10 : decode cX11_isHalf 10 = .ok (.goto 4, 3) := by decide +kernel
theorem dX11_isHalf_13 : decode cX11_isHalf 13 = .ok (.iconst 0, 1) := by decide +kernel
theorem dX11_isHalf_14 : decode cX11_isHalf 14 = .ok (.ireturn, 1) := by decide +kernel
theorem dX11_isBound_0 : decode cX11_isBound 0 = .ok (.iload_n 0, 1) := by decide +kernel
theorem dX11_isBound_1 : decode cX11_isBound 1 = .ok (.i2l, 1) := by decide +kernel
theorem dX11_isBound_2 : decode cX11_isBound 2 = .ok (.lconst 1, 1) := by decide +kernel
theorem dX11_isBound_3 : decode cX11_isBound 3 = .ok (.ldc2_w 122, 3) := by decide +kernel
theorem dX11_isBound_6 : decode cX11_isBound 6 = .ok (.invokestatic 69, 3) := by decide +kernel
theorem dX11_isBound_9 : decode cX11_isBound 9 = .ok (.ireturn, 1) := by decide +kernel
theorem dJ6_bitCount_0f7a4_0 : decode cJ6_bitCount_0f7a4 0 = .ok (.iload_n 0, 1) := by decide +kernel
theorem dJ6_bitCount_0f7a4_1 : decode cJ6_bitCount_0f7a4 1 = .ok (.iload_n 0, 1) := by decide +kernel
theorem dJ6_bitCount_0f7a4_2 : decode cJ6_bitCount_0f7a4 2 = .ok (.iconst 1, 1) := by decide +kernel
theorem dJ6_bitCount_0f7a4_3 : decode cJ6_bitCount_0f7a4 3 = .ok (.iushr, 1) := by decide +kernel
theorem dJ6_bitCount_0f7a4_4 : decode cJ6_bitCount_0f7a4 4 = .ok (.ldc_w 265, 3) := by decide +kernel
theorem dJ6_bitCount_0f7a4_7 : decode cJ6_bitCount_0f7a4 7 = .ok (.iand, 1) := by decide +kernel
theorem dJ6_bitCount_0f7a4_8 : decode cJ6_bitCount_0f7a4 8 = .ok (.isub, 1) := by decide +kernel
theorem dJ6_bitCount_0f7a4_9 : decode cJ6_bitCount_0f7a4 9 = .ok (.istore_n 0, 1) := by decide +kernel
theorem dJ6_bitCount_0f7a4_10 : decode cJ6_bitCount_0f7a4 10 = .ok (.iload_n 0, 1) := by decide +kernel
theorem dJ6_bitCount_0f7a4_11 : decode cJ6_bitCount_0f7a4 11 = .ok (.ldc_w 266, 3) := by decide +kernel
theorem dJ6_bitCount_0f7a4_14 : decode cJ6_bitCount_0f7a4 14 = .ok (.iand, 1) := by decide +kernel
theorem dJ6_bitCount_0f7a4_15 : decode cJ6_bitCount_0f7a4 15 = .ok (.iload_n 0, 1) := by decide +kernel
theorem dJ6_bitCount_0f7a4_16 : decode cJ6_bitCount_0f7a4 16 = .ok (.iconst 2, 1) := by decide +kernel
theorem dJ6_bitCount_0f7a4_17 : decode cJ6_bitCount_0f7a4 17 = .ok (.iushr, 1) := by decide +kernel
theorem dJ6_bitCount_0f7a4_18 : decode cJ6_bitCount_0f7a4 18 = .ok (.ldc_w 266, 3) := by decide +kernel
theorem dJ6_bitCount_0f7a4_21 : decode cJ6_bitCount_0f7a4 21 = .ok (.iand, 1) := by decide +kernel
theorem dJ6_bitCount_0f7a4_22 : decode cJ6_bitCount_0f7a4 22 = .ok (.iadd, 1) := by decide +kernel
theorem dJ6_bitCount_0f7a4_23 : decode cJ6_bitCount_0f7a4 23 = .ok (.istore_n 0, 1) := by decide +kernel
theorem dJ6_bitCount_0f7a4_24 : decode cJ6_bitCount_0f7a4 24 = .ok (.iload_n 0, 1) := by decide +kernel
theorem dJ6_bitCount_0f7a4_25 : decode cJ6_bitCount_0f7a4 25 = .ok (.iload_n 0, 1) := by decide +kernel
theorem dJ6_bitCount_0f7a4_26 : decode cJ6_bitCount_0f7a4 26 = .ok (.iconst 4, 1) := by decide +kernel
theorem dJ6_bitCount_0f7a4_27 : decode cJ6_bitCount_0f7a4 27 = .ok (.iushr, 1) := by decide +kernel
theorem dJ6_bitCount_0f7a4_28 : decode cJ6_bitCount_0f7a4 28 = .ok (.iadd, 1) := by decide +kernel
theorem dJ6_bitCount_0f7a4_29 : decode cJ6_bitCount_0f7a4 29 = .ok (.ldc_w 267, 3) := by decide +kernel
theorem dJ6_bitCount_0f7a4_32 : decode cJ6_bitCount_0f7a4 32 = .ok (.iand, 1) := by decide +kernel
theorem dJ6_bitCount_0f7a4_33 : decode cJ6_bitCount_0f7a4 33 = .ok (.istore_n 0, 1) := by decide +kernel
theorem dJ6_bitCount_0f7a4_34 : decode cJ6_bitCount_0f7a4 34 = .ok (.iload_n 0, 1) := by decide +kernel
theorem dJ6_bitCount_0f7a4_35 : decode cJ6_bitCount_0f7a4 35 = .ok (.iload_n 0, 1) := by decide +kernel
theorem dJ6_bitCount_0f7a4_36 : decode cJ6_bitCount_0f7a4 36 = .ok (.bipush 8, 2) := by decide +kernel
theorem dJ6_bitCount_0f7a4_38 : decode cJ6_bitCount_0f7a4 38 = .ok (.iushr, 1) := by decide +kernel
theorem dJ6_bitCount_0f7a4_39 : decode cJ6_bitCount_0f7a4 39 = .ok (.iadd, 1) := by decide +kernel
theorem dJ6_bitCount_0f7a4_40 : decode cJ6_bitCount_0f7a4 40 = .ok (.istore_n 0, 1) := by decide +kernel
theorem dJ6_bitCount_0f7a4_41 : decode cJ6_bitCount_0f7a4 41 = .ok (.iload_n 0, 1) := by decide +kernel
theorem dJ6_bitCount_0f7a4_42 : decode cJ6_bitCount_0f7a4 42 = .ok (.iload_n 0, 1) := by decide +kernel
theorem dJ6_bitCount_0f7a4_43 : decode cJ6_bitCount_0f7a4 43 = .ok (.bipush 16, 2) := by decide +kernel
theorem dJ6_bitCount_0f7a4_45 : decode cJ6_bitCount_0f7a4 45 = .ok (.iushr, 1) := by decide +kernel
theorem dJ6_bitCount_0f7a4_46 : decode cJ6_bitCount_0f7a4 46 = .ok (.iadd, 1) := by decide +kernel
theorem dJ6_bitCount_0f7a4_47 : decode cJ6_bitCount_0f7a4 47 = .ok (.istore_n 0, 1) := by decide +kernel
theorem dJ6_bitCount_0f7a4_48 : decode cJ6_bitCount_0f7a4 48 = .ok (.iload_n 0, 1) := by decide +kernel
theorem dJ6_bitCount_0f7a4_49 : decode cJ6_bitCount_0f7a4 49 = .ok (.bipush 63, 2) := by decide +kernel
theorem dJ6_bitCount_0f7a4_51 : decode cJ6_bitCount_0f7a4 51 = .ok (.iand, 1) := by decide +kernel
theorem dJ6_bitCount_0f7a4_52 : decode cJ6_bitCount_0f7a4 52 = .ok (.ireturn, 1) := by decide +kernel
theorem dJ9_max_7cf53_0 : decode cJ9_max_7cf53 0 = .ok (.iload_n 0, 1) := by decide +kernel
theorem dJ9_max_7cf53_1 : decode cJ9_max_7cf53 1 = .ok (.iload_n 1, 1) := by decide +kernel
theorem dJ9_max_7cf53_2 : decode cJ9_max_7cf53 2 = .ok (.if_icmp .lt 7, 3) := by decide +kernel
theorem dJ9_max_7cf53_5 : decode cJ9_max_7cf53 5 = .ok (.iload_n 0, 1) := by decide +kernel
theorem dJ9_max_7cf53_6 : decode cJ9_max_7cf53 6 = .ok (.goto 4, 3) := by decide +kernel
theorem dJ9_max_7cf53_9 : decode cJ9_max_7cf53 9 = .ok (.iload_n 1, 1) := by decide +kernel
theorem dJ9_max_7cf53_10 : decode cJ9_max_7cf53 10 = .ok (.ireturn, 1) := by decide +kernel
theorem dJ9_max_f86c9_0 : decode cJ9_max_f86c9 0 = .ok (.lload_n 0, 1) := by decide +kernel
theorem dJ9_max_f86c9_1 : decode cJ9_max_f86c9 1 = .ok (.lload_n 2, 1) := by decide +kernel
theorem dJ9_max_f86c9_2 : decode cJ9_max_f86c9 2 = .ok (.lcmp, 1) := by decide +kernel
theorem dJ9_max_f86c9_3 : decode cJ9_max_f86c9 3 = .ok (.ifCond .lt 7, 3) := by decide +kernel
theorem dJ9_max_f86c9_6 : decode cJ9_max_f86c9 6 = .ok (.lload_n 0, 1) := by decide +kernel
theorem dJ9_max_f86c9_7 : decode cJ9_max_f86c9 7 = .ok (.goto 4, 3) := by decide +kernel
theorem dJ9_max_f86c9_10 : decode cJ9_max_f86c9 10 = .ok (.lload_n 2, 1) := by decide +kernel
theorem dJ9_max_f86c9_11 : decode cJ9_max_f86c9 11 = .ok (.lreturn, 1) := by decide +kernel
theorem dJ9_min_7cf53_0 : decode cJ9_min_7cf53 0 = .ok (.iload_n 0, 1) := by decide +kernel
theorem dJ9_min_7cf53_1 : decode cJ9_min_7cf53 1 = .ok (.iload_n 1, 1) := by decide +kernel
theorem dJ9_min_7cf53_2 : decode cJ9_min_7cf53 2 = .ok (.if_icmp .gt 7, 3) := by decide +kernel
theorem dJ9_min_7cf53_5 : decode cJ9_min_7cf53 5 = .ok (.iload_n 0, 1) := by decide +kernel
theorem dJ9_min_7cf53_6 : decode cJ9_min_7cf53 6 = .ok (.goto 4, 3) := by decide +kernel
theorem dJ9_min_7cf53_9 : decode cJ9_min_7cf53 9 = .ok (.iload_n 1, 1) := by decide +kernel
theorem dJ9_min_7cf53_10 : decode cJ9_min_7cf53 10 = .ok (.ireturn, 1) := by decide +kernel
theorem dJ0_length_8abf5_0 : decode cJ0_length_8abf5 0 = .ok (.aload_n 0, 1) := by decide +kernel
theorem dJ0_length_8abf5_1 : decode cJ0_length_8abf5 1 = .ok (.getfield 9, 3) := by decide +kernel
theorem dJ0_length_8abf5_4 : decode cJ0_length_8abf5 4 = .ok (.arraylength, 1) := by decide +kernel
theorem dJ0_length_8abf5_5 : decode cJ0_length_8abf5 5 = .ok (.aload_n 0, 1) := by decide +kernel
theorem dJ0_length_8abf5_6 : decode cJ0_length_8abf5 6 = .ok (.invokevirtual 335, 3) := by decide +kernel
theorem dJ0_length_8abf5_9 : decode cJ0_length_8abf5 9 = .ok (.ishr, 1) := by decide +kernel
theorem dJ0_length_8abf5_10 : decode cJ0_length_8abf5 10 = .ok (.ireturn, 1) := by decide +kernel
theorem dJ0_charAt_5068e_0 : decode cJ0_charAt_5068e 0 = .ok (.aload_n 0, 1) := by decide +kernel
theorem dJ0_charAt_5068e_1 : decode cJ0_charAt_5068e 1 = .ok (.invokevirtual 492, 3) := by decide +kernel
theorem dJ0_charAt_5068e_4 : decode cJ0_charAt_5068e 4 = .ok (.ifCond .eq 12, 3) := by decide +kernel
theorem dJ0_charAt_5068e_7 : decode cJ0_charAt_5068e 7 = .ok (.aload_n 0, 1) := by decide +kernel
theorem dJ0_charAt_5068e_8 : decode cJ0_charAt_5068e 8 = .ok (.getfield 9, 3) := by decide +kernel
theorem dJ0_charAt_5068e_11 : decode cJ0_charAt_5068e 11 = .ok (.iload_n 1, 1) := by decide +kernel
theorem dJ0_charAt_5068e_12 : decode cJ0_charAt_5068e 12 = .ok (.invokestatic 495, 3) := by decide +kernel
theorem dJ0_charAt_5068e_15 : decode cJ0_charAt_5068e 15 = .ok (.ireturn, 1) := by decide +kernel
theorem dJ0_charAt_5068e_16 : decode cJ0_charAt_5068e 16 = .ok (.aload_n 0, 1) := by decide +kernel
theorem dJ0_charAt_5068e_17 : decode cJ0_charAt_5068e 17 = .ok (.getfield 9, 3) := by decide +kernel
theorem dJ0_charAt_5068e_20 : decode cJ0_charAt_5068e 20 = .ok (.iload_n 1, 1) := by decide +kernel
theorem dJ0_charAt_5068e_21 : decode cJ0_charAt_5068e 21 = .ok (.invokestatic 498, 3) := by decide +kernel
theorem dJ0_charAt_5068e_24 : decode cJ0_charAt_5068e 24 = .ok (.ireturn, 1) := by decide +kernel
theorem dJ0_coder_7d493_0 : decode cJ0_coder_7d493 0 = .ok (.getstatic 38, 3) := by decide +kernel
theorem dJ0_coder_7d493_3 : decode cJ0_coder_7d493 3 = .ok (.ifCond .eq 10, 3) := by decide +kernel
theorem dJ0_coder_7d493_6 : decode cJ0_coder_7d493 6 = .ok (.aload_n 0, 1) := by decide +kernel
theorem dJ0_coder_7d493_7 : decode cJ0_coder_7d493 7 = .ok (.getfield 15, 3) := by decide +kernel
theorem dJ0_coder_7d493_10 : decode cJ0_coder_7d493 10 = .ok (.goto 4, 3) := by decide +kernel
theorem dJ0_coder_7d493_13 : decode cJ0_coder_7d493 13 = .ok (.iconst 1, 1) := by decide +kernel
theorem dJ0_coder_7d493_14 : decode cJ0_coder_7d493 14 = .ok (.ireturn, 1) := by decide +kernel
theorem dJ0_isLatin1_aae02_0 : decode cJ0_isLatin1_aae02 0 = .ok (.getstatic 38, 3) := by decide +kernel
theorem dJ0_isLatin1_aae02_3 : decode cJ0_isLatin1_aae02 3 = .ok (.ifCond .eq 14, 3) := by decide +kernel
theorem dJ0_isLatin1_aae02_6 : decode cJ0_isLatin1_aae02 6 = .ok (.aload_n 0, 1) := by decide +kernel
theorem dJ0_isLatin1_aae02_7 : decode cJ0_isLatin1_aae02 7 = .ok (.getfield 15, 3) := by decide +kernel
theorem dJ0_isLatin1_aae02_10 : decode cJ0_isLatin1_aae02 10 = .ok (.ifCond .ne 7, 3) := by decide +kernel
theorem dJ0_isLatin1_aae02_13 : decode cJ0_isLatin1_aae02 13 = .ok (.iconst 1, 1) := by decide +kernel
theorem dJ0_isLatin1_aae02_14 : decode cJ0_isLatin1_aae02 14 = .ok (.goto 4, 3) := by decide +kernel
theorem dJ0_isLatin1_aae02_17 : decode cJ0_isLatin1_aae02 17 = .ok (.iconst 0, 1) := by decide +kernel
theorem dJ0_isLatin1_aae02_18 : decode cJ0_isLatin1_aae02 18 = .ok (.ireturn, 1) := by decide +kernel
theorem dJ0_checkIndex_df160_0 : decode cJ0_checkIndex_df160 0 = .ok (.iload_n 0, 1) := by decide +kernel
theorem dJ0_checkIndex_df160_1 : decode cJ0_checkIndex_df160 1 = .ok (.iload_n 1, 1) := by decide +kernel
theorem dJ0_checkIndex_df160_2 : decode cJ0_checkIndex_df160 2 = .ok (.getstatic 1053, 3) := by decide +kernel
theorem dJ0_checkIndex_df160_5 : decode cJ0_checkIndex_df160 5 = .ok (.invokestatic 1059, 3) := by decide +kernel
theorem dJ0_checkIndex_df160_8 : decode cJ0_checkIndex_df160 8 = .ok (.pop, 1) := by decide +kernel
theorem dJ0_checkIndex_df160_9 : decode cJ0_checkIndex_df160 9 = .ok (.return_, 1) := by decide +kernel
theorem dJ1_charAt_3b067_0 : decode cJ1_charAt_3b067 0 = .ok (.iload_n 1, 1) := by decide +kernel
theorem dJ1_charAt_3b067_1 : decode cJ1_charAt_3b067 1 = .ok (.aload_n 0, 1) := by decide +kernel
theorem dJ1_charAt_3b067_2 : decode cJ1_charAt_3b067 2 = .ok (.arraylength, 1) := by decide +kernel
theorem dJ1_charAt_3b067_3 : decode cJ1_charAt_3b067 3 = .ok (.invokestatic 9, 3) := by decide +kernel
theorem dJ1_charAt_3b067_6 : decode cJ1_charAt_3b067 6 = .ok (.aload_n 0, 1) := by decide +kernel
theorem dJ1_charAt_3b067_7 : decode cJ1_charAt_3b067 7 = .ok (.iload_n 1, 1) := by decide +kernel
theorem dJ1_charAt_3b067_8 : decode cJ1_charAt_3b067 8 = .ok (.baload, 1) := by decide +kernel
theorem dJ1_charAt_3b067_9 : decode cJ1_charAt_3b067 9 = .ok (.sipush 255, 3) := by decide +kernel
theorem dJ1_charAt_3b067_12 : decode cJ1_charAt_3b067 12 = .ok (.iand, 1) := by decide +kernel
theorem dJ1_charAt_3b067_13 : decode cJ1_charAt_3b067 13 = .ok (.i2c, 1) := by decide +kernel
theorem dJ1_charAt_3b067_14 : decode cJ1_charAt_3b067 14 = .ok (.ireturn, 1) := by decide +kernel
theorem dJ2_getChar_3b067_0 : decode cJ2_getChar_3b067 0 = .ok (.getstatic 44, 3) := by decide +kernel
theorem dJ2_getChar_3b067_3 : decode cJ2_getChar_3b067 3 = .ok (.ifCond .ne 25, 3) := by decide +kernel
theorem dJ2_getChar_3b067_6 : decode cJ2_getChar_3b067 6 = .ok (.iload_n 1, 1) := by decide +kernel
theorem dJ2_getChar_3b067_7 : decode cJ2_getChar_3b067 7 = .ok (.ifCond .lt 11, 3) := by decide +kernel
theorem dJ2_getChar_3b067_10 : decode cJ2_getChar_3b067 10 = .ok (.iload_n 1, 1) := by decide +kernel
theorem dJ2_getChar_3b067_11 : decode cJ2_getChar_3b067 11 = .ok (.aload_n 0, 1) := by decide +kernel
theorem dJ2_getChar_3b067_12 : decode cJ2_getChar_3b067 12 = .ok (.invokestatic 48, 3) := by decide +kernel
theorem dJ2_getChar_3b067_15 : decode cJ2_getChar_3b067 15 = .ok (.if_icmp .lt 13, 3) := by decide +kernel
theorem dJ2_getChar_3b067_18 : decode cJ2_getChar_3b067 18 = .ok (.new 52, 3) := by decide +kernel
theorem dJ2_getChar_3b067_21 : decode cJ2_getChar_3b067 21 = .ok (.dup, 1) := by decide +kernel
theorem dJ2_getChar_3b067_22 : decode cJ2_getChar_3b067 22 = .ok (.ldc 54, 2) := by decide +kernel
theorem dJ2_getChar_3b067_24 : decode cJ2_getChar_3b067 24 = .ok (.invokespecial 56, 3) := by decide +kernel
theorem dJ2_getChar_3b067_27 : decode cJ2_getChar_3b067 27 = .ok (.athrow, 1) := by decide +kernel
theorem dJ2_getChar_3b067_28 : decode cJ2_getChar_3b067 28 = .ok (.iload_n 1, 1) := by decide +kernel
theorem dJ2_getChar_3b067_29 : decode cJ2_getChar_3b067 29 = .ok (.iconst 1, 1) := by decide +kernel
theorem dJ2_getChar_3b067_30 : decode cJ2_getChar_3b067 30 = .ok (.ishl, 1) := by decide +kernel
theorem dJ2_getChar_3b067_31 : decode cJ2_getChar_3b067 31 = .ok (.istore_n 1, 1) := by decide +kernel
theorem dJ2_getChar_3b067_32 : decode cJ2_getChar_3b067 32 = .ok (.aload_n 0, 1) := by decide +kernel
theorem dJ2_getChar_3b067_33 : decode cJ2_getChar_3b067 33 = .ok (.iload_n 1, 1) := by decide +kernel
theorem dJ2_getChar_3b067_34 : decode cJ2_getChar_3b067 34 = .ok (.iinc 1 1, 3) := by decide +kernel
theorem dJ2_getChar_3b067_37 : decode cJ2_getChar_3b067 37 = .ok (.baload, 1) := by decide +kernel
theorem dJ2_getChar_3b067_38 : decode cJ2_getChar_3b067 38 = .ok (.sipush 255, 3) := by decide +kernel
theorem dJ2_getChar_3b067_41 : decode cJ2_getChar_3b067 41 = .ok (.iand, 1) := by decide +kernel
theorem dJ2_getChar_3b067_42 : decode cJ2_getChar_3b067 42 = .ok (.getstatic 59, 3) := by decide +kernel
theorem dJ2_getChar_3b067_45 : decode cJ2_getChar_3b067 45 = .ok (.ishl, 1) := by decide +kernel
theorem dJ2_getChar_3b067_46 : decode cJ2_getChar_3b067 46 = .ok (.aload_n 0, 1) := by decide +kernel
theorem dJ2_getChar_3b067_47 : decode cJ2_getChar_3b067 47 = .ok (.iload_n 1, 1) := by decide +kernel
theorem dJ2_getChar_3b067_48 : decode cJ2_getChar_3b067 48 = .ok (.baload, 1) := by decide +kernel
theorem dJ2_getChar_3b067_49 : decode cJ2_getChar_3b067 49 = .ok (.sipush 255, 3) := by decide +kernel
theorem dJ2_getChar_3b067_52 : decode cJ2_getChar_3b067 52 = .ok (.iand, 1) := by decide +kernel
theorem dJ2_getChar_3b067_53 : decode cJ2_getChar_3b067 53 = .ok (.getstatic 63, 3) := by decide +kernel
theorem dJ2_getChar_3b067_56 : decode cJ2_getChar_3b067 56 = .ok (.ishl, 1) := by decide +kernel
theorem dJ2_getChar_3b067_57 : decode cJ2_getChar_3b067 57 = .ok (.ior, 1) := by decide +kernel
theorem dJ2_getChar_3b067_58 : decode cJ2_getChar_3b067 58 = .ok (.i2c, 1) := by decide +kernel
theorem dJ2_getChar_3b067_59 : decode cJ2_getChar_3b067 59 = .ok (.ireturn, 1) := by decide +kernel
theorem dJ2_length_9d52b_0 : decode cJ2_length_9d52b 0 = .ok (.aload_n 0, 1) := by decide +kernel
theorem dJ2_length_9d52b_1 : decode cJ2_length_9d52b 1 = .ok (.arraylength, 1) := by decide +kernel
theorem dJ2_length_9d52b_2 : decode cJ2_length_9d52b 2 = .ok (.iconst 1, 1) := by decide +kernel
theorem dJ2_length_9d52b_3 : decode cJ2_length_9d52b 3 = .ok (.ishr, 1) := by decide +kernel
theorem dJ2_length_9d52b_4 : decode cJ2_length_9d52b 4 = .ok (.ireturn, 1) := by decide +kernel
theorem dJ2_charAt_3b067_0 : decode cJ2_charAt_3b067 0 = .ok (.iload_n 1, 1) := by decide +kernel
theorem dJ2_charAt_3b067_1 : decode cJ2_charAt_3b067 1 = .ok (.aload_n 0, 1) := by decide +kernel
theorem dJ2_charAt_3b067_2 : decode cJ2_charAt_3b067 2 = .ok (.invokestatic 67, 3) := by decide +kernel
theorem dJ2_charAt_3b067_5 : decode cJ2_charAt_3b067 5 = .ok (.aload_n 0, 1) := by decide +kernel
theorem dJ2_charAt_3b067_6 : decode cJ2_charAt_3b067 6 = .ok (.iload_n 1, 1) := by decide +kernel
theorem dJ2_charAt_3b067_7 : decode cJ2_charAt_3b067 7 = .ok (.invokestatic 71, 3) := by decide +kernel
theorem dJ2_charAt_3b067_10 : decode cJ2_charAt_3b067 10 = .ok (.ireturn, 1) := by decide +kernel
theorem dJ2_checkIndex_2214a_0 : decode cJ2_checkIndex_2214a 0 = .ok (.iload_n 0, 1) := by decide +kernel
theorem dJ2_checkIndex_2214a_1 : decode cJ2_checkIndex_2214a 1 = .ok (.aload_n 1, 1) := by decide +kernel
theorem dJ2_checkIndex_2214a_2 : decode cJ2_checkIndex_2214a 2 = .ok (.invokestatic 48, 3) := by decide +kernel
theorem dJ2_checkIndex_2214a_5 : decode cJ2_checkIndex_2214a 5 = .ok (.invokestatic 414, 3) := by decide +kernel
theorem dJ2_checkIndex_2214a_8 : decode cJ2_checkIndex_2214a 8 = .ok (.return_, 1) := by decide +kernel
theorem dJ7_rangeCheck_23922_0 : decode cJ7_rangeCheck_23922 0 = .ok (.iload_n 1, 1) := by decide +kernel
theorem dJ7_rangeCheck_23922_1 : decode cJ7_rangeCheck_23922 1 = .ok (.iload_n 2, 1) := by decide +kernel
theorem dJ7_rangeCheck_23922_2 : decode cJ7_rangeCheck_23922 2 = .ok (.if_icmp .le 44, 3) := by decide +kernel
theorem dJ7_rangeCheck_23922_5 : decode cJ7_rangeCheck_23922 5 = .ok (.new 43, 3) := by decide +kernel
theorem dJ7_rangeCheck_23922_8 : decode cJ7_rangeCheck_23922 8 = .ok (.dup, 1) := by decide +kernel
theorem dJ7_rangeCheck_23922_9 : decode cJ7_rangeCheck_23922 9 = .ok (.new 45, 3) := by decide +kernel
theorem dJ7_rangeCheck_23922_12 : decode cJ7_rangeCheck_23922 12 = .ok (.dup, 1) := by decide +kernel
theorem dJ7_rangeCheck_23922_13 : decode cJ7_rangeCheck_23922 13 = .ok (.invokespecial 47, 3) := by decide +kernel
theorem dJ7_rangeCheck_23922_16 : decode cJ7_rangeCheck_23922 16 = .ok (.ldc 48, 2) := by decide +kernel
theorem dJ7_rangeCheck_23922_18 : decode cJ7_rangeCheck_23922 18 = .ok (.invokevirtual 50, 3) := by decide +kernel
theorem dJ7_rangeCheck_23922_21 : decode cJ7_rangeCheck_23922 21 = .ok (.iload_n 1, 1) := by decide +kernel
theorem dJ7_rangeCheck_23922_22 : decode cJ7_rangeCheck_23922 22 = .ok (.invokevirtual 54, 3) := by decide +kernel
theorem dJ7_rangeCheck_23922_25 : decode cJ7_rangeCheck_23922 25 = .ok (.ldc 57, 2) := by decide +kernel
theorem dJ7_rangeCheck_23922_27 : decode cJ7_rangeCheck_23922 27 = .ok (.invokevirtual 50, 3) := by decide +kernel
theorem dJ7_rangeCheck_23922_30 : decode cJ7_rangeCheck_23922 30 = .ok (.iload_n 2, 1) := by decide +kernel
theorem dJ7_rangeCheck_23922_31 : decode cJ7_rangeCheck_23922 31 = .ok (.invokevirtual 54, 3) := by decide +kernel
theorem dJ7_rangeCheck_23922_34 : decode cJ7_rangeCheck_23922 34 = .ok (.ldc 59, 2) := by decide +kernel
theorem dJ7_rangeCheck_23922_36 : decode cJ7_rangeCheck_23922 36 = .ok (.invokevirtual 50, 3) := by decide +kernel
theorem dJ7_rangeCheck_23922_39 : decode cJ7_rangeCheck_23922 39 = .ok (.invokevirtual 61, 3) := by decide +kernel
theorem dJ7_rangeCheck_23922_42 : decode cJ7_rangeCheck_23922 42 = .ok (.invokespecial 65, 3) := by decide +kernel
theorem dJ7_rangeCheck_23922_45 : decode cJ7_rangeCheck_23922 45 = .ok (.athrow, 1) := by decide +kernel
theorem dJ7_rangeCheck_23922_46 : decode cJ7_rangeCheck_23922 46 = .ok (.iload_n 1, 1) := by decide +kernel
theorem dJ7_rangeCheck_23922_47 : decode cJ7_rangeCheck_23922 47 = .ok (.ifCond .ge 12, 3) := by decide +kernel
theorem dJ7_rangeCheck_23922_50 : decode cJ7_rangeCheck_23922 50 = .ok (.new 68, 3) := by decide +kernel
theorem dJ7_rangeCheck_23922_53 : decode cJ7_rangeCheck_23922 53 = .ok (.dup, 1) := by decide +kernel
theorem dJ7_rangeCheck_23922_54 : decode cJ7_rangeCheck_23922 54 = .ok (.iload_n 1, 1) := by decide +kernel
theorem dJ7_rangeCheck_23922_55 : decode cJ7_rangeCheck_23922 55 = .ok (.invokespecial 70, 3) := by decide +kernel
theorem dJ7_rangeCheck_23922_58 : decode cJ7_rangeCheck_23922 58 = .ok (.athrow, 1) := by decide +kernel
theorem dJ7_rangeCheck_23922_59 : decode cJ7_rangeCheck_23922 59 = .ok (.iload_n 2, 1) := by decide +kernel
theorem dJ7_rangeCheck_23922_60 : decode cJ7_rangeCheck_23922 60 = .ok (.iload_n 0, 1) := by decide +kernel
theorem dJ7_rangeCheck_23922_61 : decode cJ7_rangeCheck_23922 61 = .ok (.if_icmp .le 12, 3) := by decide +kernel
theorem dJ7_rangeCheck_23922_64 : decode cJ7_rangeCheck_23922 64 = .ok (.new 68, 3) := by decide +kernel
theorem dJ7_rangeCheck_23922_67 : decode cJ7_rangeCheck_23922 67 = .ok (.dup, 1) := by decide +kernel
theorem dJ7_rangeCheck_23922_68 : decode cJ7_rangeCheck_23922 68 = .ok (.iload_n 2, 1) := by decide +kernel
theorem dJ7_rangeCheck_23922_69 : decode cJ7_rangeCheck_23922 69 = .ok (.invokespecial 70, 3) := by decide +kernel
theorem dJ7_rangeCheck_23922_72 : decode cJ7_rangeCheck_23922 72 = .ok (.athrow, 1) := by decide +kernel
theorem dJ7_rangeCheck_23922_73 : decode cJ7_rangeCheck_23922 73 = .ok (.return_, 1) := by decide +kernel
theorem dJ7_fill_bad5a_0 : decode cJ7_fill_bad5a 0 = .ok (.aload_n 0, 1) := by decide +kernel
theorem dJ7_fill_bad5a_1 : decode cJ7_fill_bad5a 1 = .ok (.arraylength, 1) := by decide +kernel
theorem dJ7_fill_bad5a_2 : decode cJ7_fill_bad5a 2 = .ok (.iload_n 1, 1) := by decide +kernel
theorem dJ7_fill_bad5a_3 : decode cJ7_fill_bad5a 3 = .ok (.iload_n 2, 1) := by decide +kernel
theorem dJ7_fill_bad5a_4 : decode cJ7_fill_bad5a 4 = .ok (.invokestatic 13, 3) := by decide +kernel
theorem dJ7_fill_bad5a_7 : decode cJ7_fill_bad5a 7 = .ok (.iload_n 1, 1) := by decide +kernel
theorem dJ7_fill_bad5a_8 : decode cJ7_fill_bad5a 8 = .ok (.istore 5, 2) := by decide +kernel
theorem dJ7_fill_bad5a_10 : decode cJ7_fill_bad5a 10 = .ok (.iload 5, 2) := by decide +kernel
theorem dJ7_fill_bad5a_12 : decode cJ7_fill_bad5a 12 = .ok (.iload_n 2, 1) := by decide +kernel
theorem dJ7_fill_bad5a_13 : decode cJ7_fill_bad5a 13 = .ok (.if_icmp .ge 14, 3) := by decide +kernel
theorem dJ7_fill_bad5a_16 : decode cJ7_fill_bad5a 16 = .ok (.aload_n 0, 1) := by decide +kernel
theorem dJ7_fill_bad5a_17 : decode cJ7_fill_bad5a 17 = .ok (.iload 5, 2) := by decide +kernel
theorem dJ7_fill_bad5a_19 : decode cJ7_fill_bad5a 19 = .ok (.lload_n 3, 1) := by decide +kernel
theorem dJ7_fill_bad5a_20 : decode cJ7_fill_bad5a 20 = .ok (.lastore, 1) := by decide +kernel
theorem dJ7_fill_bad5a_21 : decode cJ7_fill_bad5a 21 = .ok (.iinc 5 1, 3) := by decide +kernel
theorem dJ7_fill_bad5a_24 : decode cJ7_fill_bad5a 24 = .ok (.goto (-14), 3) := by decide +kernel
theorem dJ7_fill_bad5a_27 : decode cJ7_fill_bad5a 27 = .ok (.return_, 1) := by decide +kernel
theorem dJ7_fill_53178_0 : decode cJ7_fill_53178 0 = .ok (.iconst 0, 1) := by decide +kernel
theorem dJ7_fill_53178_1 : decode cJ7_fill_53178 1 = .ok (.istore_n 2, 1) := by decide +kernel
theorem dJ7_fill_53178_2 : decode cJ7_fill_53178 2 = .ok (.aload_n 0, 1) := by decide +kernel
theorem dJ7_fill_53178_3 : decode cJ7_fill_53178 3 = .ok (.arraylength, 1) := by decide +kernel
theorem dJ7_fill_53178_4 : decode cJ7_fill_53178 4 = .ok (.istore_n 3, 1) := by decide +kernel
theorem dJ7_fill_53178_5 : decode cJ7_fill_53178 5 = .ok (.iload_n 2, 1) := by decide +kernel
theorem dJ7_fill_53178_6 : decode cJ7_fill_53178 6 = .ok (.iload_n 3, 1) := by decide +kernel
theorem dJ7_fill_53178_7 : decode cJ7_fill_53178 7 = .ok (.if_icmp .ge 13, 3) := by decide +kernel
theorem dJ7_fill_53178_10 : decode cJ7_fill_53178 10 = .ok (.aload_n 0, 1) := by decide +kernel
theorem dJ7_fill_53178_11 : decode cJ7_fill_53178 11 = .ok (.iload_n 2, 1) := by decide +kernel
theorem dJ7_fill_53178_12 : decode cJ7_fill_53178 12 = .ok (.iload_n 1, 1) := by decide +kernel
theorem dJ7_fill_53178_13 : decode cJ7_fill_53178 13 = .ok (.iastore, 1) := by decide +kernel
theorem dJ7_fill_53178_14 : decode cJ7_fill_53178 14 = .ok (.iinc 2 1, 3) := by decide +kernel
theorem dJ7_fill_53178_17 : decode cJ7_fill_53178 17 = .ok (.goto (-12), 3) := by decide +kernel
theorem dJ7_fill_53178_20 : decode cJ7_fill_53178 20 = .ok (.return_, 1) := by decide +kernel
theorem dJ3_checkIndex_8e157_0 : decode cJ3_checkIndex_8e157 0 = .ok (.iload_n 0, 1) := by decide +kernel
theorem dJ3_checkIndex_8e157_1 : decode cJ3_checkIndex_8e157 1 = .ok (.ifCond .lt 8, 3) := by decide +kernel
theorem dJ3_checkIndex_8e157_4 : decode cJ3_checkIndex_8e157 4 = .ok (.iload_n 0, 1) := by decide +kernel
theorem dJ3_checkIndex_8e157_5 : decode cJ3_checkIndex_8e157 5 = .ok (.iload_n 1, 1) := by decide +kernel
theorem dJ3_checkIndex_8e157_6 : decode cJ3_checkIndex_8e157 6 = .ok (.if_icmp .lt 10, 3) := by decide +kernel
theorem dJ3_checkIndex_8e157_9 : decode cJ3_checkIndex_8e157 9 = .ok (.aload_n 2, 1) := by decide +kernel
theorem dJ3_checkIndex_8e157_10 : decode cJ3_checkIndex_8e157 10 = .ok (.iload_n 0, 1) := by decide +kernel
theorem dJ3_checkIndex_8e157_11 : decode cJ3_checkIndex_8e157 11 = .ok (.iload_n 1, 1) := by decide +kernel
theorem dJ3_checkIndex_8e157_12 : decode cJ3_checkIndex_8e157 12 = .ok (.invokestatic 95, 3) := by decide +kernel
theorem dJ3_checkIndex_8e157_15 : decode cJ3_checkIndex_8e157 15 = .ok (.athrow, 1) := by decide +kernel
theorem dJ3_checkIndex_8e157_16 : decode cJ3_checkIndex_8e157 16 = .ok (.iload_n 0, 1) := by decide +kernel
theorem dJ3_checkIndex_8e157_17 : decode cJ3_checkIndex_8e157 17 = .ok (.ireturn, 1) := by decide +kernel
