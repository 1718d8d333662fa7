theorem dX0_init_0 : decode cX0_init 0 = .ok (.aload_n 0, 1) := by decide +kernel
theorem dX0_init_1 : decode cX0_init 1 = .ok (.invokespecial 3, 3) := by decide +kernel
theorem dX0_init_4 : decode cX0_init 4 = .ok (.aload_n 0, 1) := by decide +kernel
theorem dX0_init_5 : decode cX0_init 5 = .ok (.bipush 8, 2) := by decide +kernel
theorem dX0_init_7 : decode cX0_init 7 = .ok (.newarray .boolean, 2) := by decide +kernel
theorem dX0_init_9 : decode cX0_init 9 = .ok (.putfield 9, 3) := by decide +kernel
theorem dX0_init_12 : decode cX0_init 12 = .ok (.aload_n 0, 1) := by decide +kernel
theorem dX0_init_13 : decode cX0_init 13 = .ok (.bipush 8, 2) := by decide +kernel
theorem dX0_init_15 : decode cX0_init 15 = .ok (.newarray .int, 2) := by decide +kernel
theorem dX0_init_17 : decode cX0_init 17 = .ok (.putfield 15, 3) := by decide +kernel
theorem dX0_init_20 : decode cX0_init 20 = .ok (.aload_n 0, 1) := by decide +kernel
theorem dX0_init_21 : decode cX0_init 21 = .ok (.bipush 8, 2) := by decide +kernel
theorem dX0_init_23 : decode cX0_init 23 = .ok (.newarray .int, 2) := by decide +kernel
theorem dX0_init_25 : decode cX0_init 25 = .ok (.putfield 19, 3) := by decide +kernel
theorem dX0_init_28 : decode cX0_init 28 = .ok (.aload_n 0, 1) := by decide +kernel
theorem dX0_init_29 : decode cX0_init 29 = .ok (.bipush 8, 2) := by decide +kernel
theorem dX0_init_31 : decode cX0_init 31 = .ok (.newarray .int, 2) := by decide +kernel
theorem dX0_init_33 : decode cX0_init 33 = .ok (.putfield 22, 3) := by decide +kernel
theorem dX0_init_36 : decode cX0_init 36 = .ok (.aload_n 0, 1) := by decide +kernel
theorem dX0_init_37 : decode cX0_init 37 = .ok (.iconst 2, 1) := by decide +kernel
theorem dX0_init_38 : decode cX0_init 38 = .ok (.putfield 25, 3) := by decide +kernel
theorem dX0_init_41 : decode cX0_init 41 = .ok (.aload_n 0, 1) := by decide +kernel
theorem dX0_init_42 : decode cX0_init 42 = .ok (.iconst 5, 1) := by decide +kernel
theorem dX0_init_43 : decode cX0_init 43 = .ok (.putfield 29, 3) := by decide +kernel
theorem dX0_init_46 : decode cX0_init 46 = .ok (.aload_n 0, 1) := by decide +kernel
theorem dX0_init_47 : decode cX0_init 47 = .ok (.bipush 90, 2) := by decide +kernel
theorem dX0_init_49 : decode cX0_init 49 = .ok (.putfield 32, 3) := by decide +kernel
theorem dX0_init_52 : decode cX0_init 52 = .ok (.return_, 1) := by decide +kernel
theorem dX0_hasRunner_0 : decode cX0_hasRunner 0 = .ok (.iload_n 1, 1) := by decide +kernel
theorem dX0_hasRunner_1 : decode cX0_hasRunner 1 = .ok (.ifCond .lt 22, 3) := by decide +kernel
theorem dX0_hasRunner_4 : decode cX0_hasRunner 4 = .ok (.iload_n 1, 1) := by decide +kernel
theorem dX0_hasRunner_5 : decode cX0_hasRunner 5 = .ok (.bipush 8, 2) := by decide +kernel
theorem dX0_hasRunner_7 : decode cX0_hasRunner 7 = .ok (.if_icmp .ge 16, 3) := by decide +kernel
theorem dX0_hasRunner_10 : decode cX0_hasRunner 10 = .ok (.aload_n 0, 1) := by decide +kernel
theorem dX0_hasRunner_11 : decode cX0_hasRunner 11 = .ok (.getfield 9, 3) := by decide +kernel
theorem dX0_hasRunner_14 : decode cX0_hasRunner 14 = .ok (.iload_n 1, 1) := by decide +kernel
theorem dX0_hasRunner_15 : decode cX0_hasRunner 15 = .ok (.baload, 1) := by decide +kernel
theorem dX0_hasRunner_16 : decode cX0_hasRunner 16 = .ok (.ifCond .eq 7, 3) := by decide +kernel
theorem dX0_hasRunner_19 : decode cX0_hasRunner 19 = .ok (.iconst 1, 1) := by decide +kernel
theorem dX0_hasRunner_20 : decode cX0_hasRunner 20 = .ok (.goto 4, 3) := by decide +kernel
theorem dX0_hasRunner_23 : decode cX0_hasRunner 23 = .ok (.iconst 0, 1) := by decide +kernel
theorem dX0_hasRunner_24 : decode cX0_hasRunner 24 = .ok (.ireturn, 1) := by decide +kernel
theorem dX0_canTie_0 : decode cX0_canTie 0 = .ok (.iload_n 1, 1) := by decide +kernel
theorem dX0_canTie_1 : decode cX0_canTie 1 = .ok (.iload_n 2, 1) := by decide +kernel
theorem dX0_canTie_2 : decode cX0_canTie 2 = .ok (.if_icmp .eq 23, 3) := by decide +kernel
theorem dX0_canTie_5 : decode cX0_canTie 5 = .ok (.aload_n 0, 1) := by decide +kernel
theorem dX0_canTie_6 : decode cX0_canTie 6 = .ok (.iload_n 1, 1) := by decide +kernel
theorem dX0_canTie_7 : decode cX0_canTie 7 = .ok (.invokevirtual 35, 3) := by decide +kernel
theorem dX0_canTie_10 : decode cX0_canTie 10 = .ok (.ifCond .eq 15, 3) := by decide +kernel
theorem dX0_canTie_13 : decode cX0_canTie 13 = .ok (.aload_n 0, 1) := by decide +kernel
theorem dX0_canTie_14 : decode cX0_canTie 14 = .ok (.iload_n 2, 1) := by decide +kernel
theorem dX0_canTie_15 : decode cX0_canTie 15 = .ok (.invokevirtual 35, 3) := by decide +kernel
theorem dX0_canTie_18 : decode cX0_canTie 18 = .ok (.ifCond .eq 7, 3) := by decide +kernel
theorem dX0_canTie_21 : decode cX0_canTie 21 = .ok (.iconst 1, 1) := by decide +kernel
theorem dX0_canTie_22 : decode cX0_canTie 22 = .ok (.goto 4, 3) := by decide +kernel
theorem dX0_canTie_25 : decode cX0_canTie 25 = .ok (.iconst 0, 1) := by decide +kernel
theorem dX0_canTie_26 : decode cX0_canTie 26 = .ok (.ireturn, 1) := by decide +kernel
theorem dX0_enter_0 : decode cX0_enter 0 = .ok (.iload_n 1, 1) := by decide +kernel
theorem dX0_enter_1 : decode cX0_enter 1 = .ok (.ifCond .lt 38, 3) := by decide +kernel
theorem dX0_enter_4 : decode cX0_enter 4 = .ok (.iload_n 1, 1) := by decide +kernel
theorem dX0_enter_5 : decode cX0_enter 5 = .ok (.bipush 8, 2) := by decide +kernel
theorem dX0_enter_7 : decode cX0_enter 7 = .ok (.if_icmp .ge 32, 3) := by decide +kernel
theorem dX0_enter_10 : decode cX0_enter 10 = .ok (.aload_n 0, 1) := by decide +kernel
theorem dX0_enter_11 : decode cX0_enter 11 = .ok (.getfield 9, 3) := by decide +kernel
theorem dX0_enter_14 : decode cX0_enter 14 = .ok (.iload_n 1, 1) := by decide +kernel
theorem dX0_enter_15 : decode cX0_enter 15 = .ok (.iconst 1, 1) := by decide +kernel
theorem dX0_enter_16 : decode cX0_enter 16 = .ok (.bastore, 1) := by decide +kernel
theorem dX0_enter_17 : decode cX0_enter 17 = .ok (.aload_n 0, 1) := by decide +kernel
theorem dX0_enter_18 : decode cX0_enter 18 = .ok (.getfield 15, 3) := by decide +kernel
theorem dX0_enter_21 : decode cX0_enter 21 = .ok (.iload_n 1, 1) := by decide +kernel
theorem dX0_enter_22 : decode cX0_enter 22 = .ok (.iload_n 2, 1) := by decide +kernel
theorem dX0_enter_23 : decode cX0_enter 23 = .ok (.iastore, 1) := by decide +kernel
theorem dX0_enter_24 : decode cX0_enter 24 = .ok (.aload_n 0, 1) := by decide +kernel
theorem dX0_enter_25 : decode cX0_enter 25 = .ok (.getfield 19, 3) := by decide +kernel
theorem dX0_enter_28 : decode cX0_enter 28 = .ok (.iload_n 1, 1) := by decide +kernel
theorem dX0_enter_29 : decode cX0_enter 29 = .ok (.iload_n 3, 1) := by decide +kernel
theorem dX0_enter_30 : decode cX0_enter 30 = .ok (.iastore, 1) := by decide +kernel
theorem dX0_enter_31 : decode cX0_enter 31 = .ok (.aload_n 0, 1) := by decide +kernel
theorem dX0_enter_32 : decode cX0_enter 32 = .ok (.getfield 22, 3) := by decide +kernel
theorem dX0_enter_35 : decode cX0_enter 35 = .ok (.iload_n 1, 1) := by decide +kernel
theorem dX0_enter_36 : decode cX0_enter 36 = .ok (.iload 4, 2) := by decide +kernel
theorem dX0_enter_38 : decode cX0_enter 38 = .ok (.iastore, 1) := by decide +kernel
theorem dX0_enter_39 : decode cX0_enter 39 = .ok (.return_, 1) := by decide +kernel
theorem dX0_leave_0 : decode cX0_leave 0 = .ok (.aload_n 0, 1) := by decide +kernel
theorem dX0_leave_1 : decode cX0_leave 1 = .ok (.iload_n 1, 1) := by decide +kernel
theorem dX0_leave_2 : decode cX0_leave 2 = .ok (.invokevirtual 35, 3) := by decide +kernel
theorem dX0_leave_5 : decode cX0_leave 5 = .ok (.ifCond .eq 10, 3) := by decide +kernel
theorem dX0_leave_8 : decode cX0_leave 8 = .ok (.aload_n 0, 1) := by decide +kernel
theorem dX0_leave_9 : decode cX0_leave 9 = .ok (.getfield 9, 3) := by decide +kernel
theorem dX0_leave_12 : decode cX0_leave 12 = .ok (.iload_n 1, 1) := by decide +kernel
theorem dX0_leave_13 : decode cX0_leave 13 = .ok (.iconst 0, 1) := by decide +kernel
theorem dX0_leave_14 : decode cX0_leave 14 = .ok (.bastore, 1) := by decide +kernel
theorem dX0_leave_15 : decode cX0_leave 15 = .ok (.return_, 1) := by decide +kernel
theorem dX0_count_0 : decode cX0_count 0 = .ok (.aload_n 0, 1) := by decide +kernel
theorem dX0_count_1 : decode cX0_count 1 = .ok (.invokevirtual 39, 3) := by decide +kernel
theorem dX0_count_4 : decode cX0_count 4 = .ok (.invokestatic 43, 3) := by decide +kernel
theorem dX0_count_7 : decode cX0_count 7 = .ok (.ireturn, 1) := by decide +kernel
theorem dX0_bits_0 : decode cX0_bits 0 = .ok (.iconst 0, 1) := by decide +kernel
theorem dX0_bits_1 : decode cX0_bits 1 = .ok (.istore_n 1, 1) := by decide +kernel
theorem dX0_bits_2 : decode cX0_bits 2 = .ok (.iconst 0, 1) := by decide +kernel
theorem dX0_bits_3 : decode cX0_bits 3 = .ok (.istore_n 2, 1) := by decide +kernel
theorem dX0_bits_4 : decode cX0_bits 4 = .ok (.iload_n 2, 1) := by decide +kernel
theorem dX0_bits_5 : decode cX0_bits 5 = .ok (.bipush 8, 2) := by decide +kernel
theorem dX0_bits_7 : decode cX0_bits 7 = .ok (.if_icmp .ge 28, 3) := by decide +kernel
theorem dX0_bits_10 : decode cX0_bits 10 = .ok (.iload_n 1, 1) := by decide +kernel
theorem dX0_bits_11 : decode cX0_bits 11 = .ok (.aload_n 0, 1) := by decide +kernel
theorem dX0_bits_12 : decode cX0_bits 12 = .ok (.getfield 9, 3) := by decide +kernel
theorem dX0_bits_15 : decode cX0_bits 15 = .ok (.iload_n 2, 1) := by decide +kernel
theorem dX0_bits_16 : decode cX0_bits 16 = .ok (.baload, 1) := by decide +kernel
theorem dX0_bits_17 : decode cX0_bits 17 = .ok (.ifCond .eq 9, 3) := by decide +kernel
theorem dX0_bits_20 : decode cX0_bits 20 = .ok (.iconst 1, 1) := by decide +kernel
theorem dX0_bits_21 : decode cX0_bits 21 = .ok (.iload_n 2, 1) := by decide +kernel
theorem dX0_bits_22 : decode cX0_bits 22 = .ok (.ishl, 1) := by decide +kernel
theorem dX0_bits_23 : decode cX0_bits 23 = .ok (.goto 4, 3) := by decide +kernel
theorem dX0_bits_26 : decode cX0_bits 26 = .ok (.iconst 0, 1) := by decide +kernel
theorem dX0_bits_27 : decode cX0_bits 27 = .ok (.ior, 1) := by decide +kernel
theorem dX0_bits_28 : decode cX0_bits 28 = .ok (.istore_n 1, 1) := by decide +kernel
theorem dX0_bits_29 : decode cX0_bits 29 = .ok (.iinc 2 1, 3) := by decide +kernel
theorem dX0_bits_32 : decode cX0_bits 32 = .ok (.goto (-28), 3) := by decide +kernel
theorem dX0_bits_35 : decode cX0_bits 35 = .ok (.iload_n 1, 1) := by decide +kernel
theorem dX0_bits_36 : decode cX0_bits 36 = .ok (.ireturn, 1) := by decide +kernel
theorem dX0_copyFrom_0 : decode cX0_copyFrom 0 = .ok (.iconst 0, 1) := by decide +kernel
theorem dX0_copyFrom_1 : decode cX0_copyFrom 1 = .ok (.istore_n 2, 1) := by decide +kernel
theorem dX0_copyFrom_2 : decode cX0_copyFrom 2 = .ok (.iload_n 2, 1) := by decide +kernel
theorem dX0_copyFrom_3 : decode cX0_copyFrom 3 = .ok (.bipush 8, 2) := by decide +kernel
theorem dX0_copyFrom_5 : decode cX0_copyFrom 5 = .ok (.if_icmp .ge 57, 3) := by decide +kernel
theorem dX0_copyFrom_8 : decode cX0_copyFrom 8 = .ok (.aload_n 0, 1) := by decide +kernel
theorem dX0_copyFrom_9 : decode cX0_copyFrom 9 = .ok (.getfield 9, 3) := by decide +kernel
theorem dX0_copyFrom_12 : decode cX0_copyFrom 12 = .ok (.iload_n 2, 1) := by decide +kernel
theorem dX0_copyFrom_13 : decode cX0_copyFrom 13 = .ok (.aload_n 1, 1) := by decide +kernel
theorem dX0_copyFrom_14 : decode cX0_copyFrom 14 = .ok (.getfield 9, 3) := by decide +kernel
theorem dX0_copyFrom_17 : decode cX0_copyFrom 17 = .ok (.iload_n 2, 1) := by decide +kernel
theorem dX0_copyFrom_18 : decode cX0_copyFrom 18 = .ok (.baload, 1) := by decide +kernel
theorem dX0_copyFrom_19 : decode cX0_copyFrom 19 = .ok (.bastore, 1) := by decide +kernel
theorem dX0_copyFrom_20 : decode cX0_copyFrom 20 = .ok (.aload_n 0, 1) := by decide +kernel
theorem dX0_copyFrom_21 : decode cX0_copyFrom 21 = .ok (.getfield 15, 3) := by decide +kernel
theorem dX0_copyFrom_24 : decode cX0_copyFrom 24 = .ok (.iload_n 2, 1) := by decide +kernel
theorem dX0_copyFrom_25 : decode cX0_copyFrom 25 = .ok (.aload_n 1, 1) := by decide +kernel
theorem dX0_copyFrom_26 : decode cX0_copyFrom 26 = .ok (.getfield 15, 3) := by decide +kernel
theorem dX0_copyFrom_29 : decode cX0_copyFrom 29 = .ok (.iload_n 2, 1) := by decide +kernel
theorem dX0_copyFrom_30 : decode cX0_copyFrom 30 = .ok (.iaload, 1) := by decide +kernel
theorem dX0_copyFrom_31 : decode cX0_copyFrom 31 = .ok (.iastore, 1) := by decide +kernel
theorem dX0_copyFrom_32 : decode cX0_copyFrom 32 = .ok (.aload_n 0, 1) := by decide +kernel
theorem dX0_copyFrom_33 : decode cX0_copyFrom 33 = .ok (.getfield 19, 3) := by decide +kernel
theorem dX0_copyFrom_36 : decode cX0_copyFrom 36 = .ok (.iload_n 2, 1) := by decide +kernel
theorem dX0_copyFrom_37 : decode cX0_copyFrom 37 = .ok (.aload_n 1, 1) := by decide +kernel
theorem dX0_copyFrom_38 : decode cX0_copyFrom 38 = .ok (.getfield 19, 3) := by decide +kernel
theorem dX0_copyFrom_41 : decode cX0_copyFrom 41 = .ok (.iload_n 2, 1) := by decide +kernel
theorem dX0_copyFrom_42 : decode cX0_copyFrom 42 = .ok (.iaload, 1) := by decide +kernel
theorem dX0_copyFrom_43 : decode cX0_copyFrom 43 = .ok (.iastore, 1) := by decide +kernel
theorem dX0_copyFrom_44 : decode cX0_copyFrom 44 = .ok (.aload_n 0, 1) := by decide +kernel
theorem dX0_copyFrom_45 : decode cX0_copyFrom 45 = .ok (.getfield 22, 3) := by decide +kernel
theorem dX0_copyFrom_48 : decode cX0_copyFrom 48 = .ok (.iload_n 2, 1) := by decide +kernel
theorem dX0_copyFrom_49 : decode cX0_copyFrom 49 = .ok (.aload_n 1, 1) := by decide +kernel
theorem dX0_copyFrom_50 : decode cX0_copyFrom 50 = .ok (.getfield 22, 3) := by decide +kernel
theorem dX0_copyFrom_53 : decode cX0_copyFrom 53 = .ok (.iload_n 2, 1) := by decide +kernel
theorem dX0_copyFrom_54 : decode cX0_copyFrom 54 = .ok (.iaload, 1) := by decide +kernel
theorem dX0_copyFrom_55 : decode cX0_copyFrom 55 = .ok (.iastore, 1) := by decide +kernel
theorem dX0_copyFrom_56 : decode cX0_copyFrom 56 = .ok (.iinc 2 1, 3) := by decide +kernel
theorem dX0_copyFrom_59 : decode cX0_copyFrom 59 = .ok (.goto (-57), 3) := by decide +kernel
theorem dX0_copyFrom_62 : decode cX0_copyFrom 62 = .ok (.aload_n 0, 1) := by decide +kernel
theorem dX0_copyFrom_63 : decode cX0_copyFrom 63 = .ok (.aload_n 1, 1) := by decide +kernel
theorem dX0_copyFrom_64 : decode cX0_copyFrom 64 = .ok (.getfield 25, 3) := by decide +kernel
theorem dX0_copyFrom_67 : decode cX0_copyFrom 67 = .ok (.putfield 25, 3) := by decide +kernel
theorem dX0_copyFrom_70 : decode cX0_copyFrom 70 = .ok (.aload_n 0, 1) := by decide +kernel
theorem dX0_copyFrom_71 : decode cX0_copyFrom 71 = .ok (.aload_n 1, 1) := by decide +kernel
theorem dX0_copyFrom_72 : decode cX0_copyFrom 72 = .ok (.getfield 29, 3) := by decide +kernel
theorem dX0_copyFrom_75 : decode cX0_copyFrom 75 = .ok (.putfield 29, 3) := by decide +kernel
theorem dX0_copyFrom_78 : decode cX0_copyFrom 78 = .ok (.aload_n 0, 1) := by decide +kernel
theorem dX0_copyFrom_79 : decode cX0_copyFrom 79 = .ok (.aload_n 1, 1) := by decide +kernel
theorem dX0_copyFrom_80 : decode cX0_copyFrom 80 = .ok (.getfield 32, 3) := by decide +kernel
theorem dX0_copyFrom_83 : decode cX0_copyFrom 83 = .ok (.putfield 32, 3) := by decide +kernel
theorem dX0_copyFrom_86 : decode cX0_copyFrom 86 = .ok (.return_, 1) := by decide +kernel
theorem dX1_init_0 : decode cX1_init 0 = .ok (.aload_n 0, 1) := by decide +kernel
theorem dX1_init_1 : decode cX1_init 1 = .ok (.invokespecial 3, 3) := by decide +kernel
theorem dX1_init_4 : decode cX1_init 4 = .ok (.aload_n 0, 1) := by decide +kernel
theorem dX1_init_5 : decode cX1_init 5 = .ok (.bipush 40, 2) := by decide +kernel
theorem dX1_init_7 : decode cX1_init 7 = .ok (.newarray .int, 2) := by decide +kernel
theorem dX1_init_9 : decode cX1_init 9 = .ok (.putfield 9, 3) := by decide +kernel
theorem dX1_init_12 : decode cX1_init 12 = .ok (.return_, 1) := by decide +kernel
theorem dX1_add_0 : decode cX1_add 0 = .ok (.aload_n 0, 1) := by decide +kernel
theorem dX1_add_1 : decode cX1_add 1 = .ok (.getfield 15, 3) := by decide +kernel
theorem dX1_add_4 : decode cX1_add 4 = .ok (.bipush 40, 2) := by decide +kernel
theorem dX1_add_6 : decode cX1_add 6 = .ok (.if_icmp .ge 23, 3) := by decide +kernel
theorem dX1_add_9 : decode cX1_add 9 = .ok (.aload_n 0, 1) := by decide +kernel
theorem dX1_add_10 : decode cX1_add 10 = .ok (.getfield 9, 3) := by decide +kernel
theorem dX1_add_13 : decode cX1_add 13 = .ok (.aload_n 0, 1) := by decide +kernel
theorem dX1_add_14 : decode cX1_add 14 = .ok (.getfield 15, 3) := by decide +kernel
theorem dX1_add_17 : decode cX1_add 17 = .ok (.iload_n 1, 1) := by decide +kernel
theorem dX1_add_18 : decode cX1_add 18 = .ok (.iastore, 1) := by decide +kernel
theorem dX1_add_19 : decode cX1_add 19 = .ok (.aload_n 0, 1) := by decide +kernel
theorem dX1_add_20 : decode cX1_add 20 = .ok (.dup, 1) := by decide +kernel
theorem dX1_add_21 : decode cX1_add 21 = .ok (.getfield 15, 3) := by decide +kernel
theorem dX1_add_24 : decode cX1_add 24 = .ok (.iconst 1, 1) := by decide +kernel
theorem dX1_add_25 : decode cX1_add 25 = .ok (.iadd, 1) := by decide +kernel
theorem dX1_add_26 : decode cX1_add 26 = .ok (.putfield 15, 3) := by decide +kernel
theorem dX1_add_29 : decode cX1_add 29 = .ok (.return_, 1) := by decide +kernel
theorem dX1_firstFault_0 : decode cX1_firstFault 0 = .ok (.iconst 0, 1) := by decide +kernel
theorem dX1_firstFault_1 : decode cX1_firstFault 1 = .ok (.istore_n 1, 1) := by decide +kernel
theorem dX1_firstFault_2 : decode cX1_firstFault 2 = .ok (.iload_n 1, 1) := by decide +kernel
theorem dX1_firstFault_3 : decode cX1_firstFault 3 = .ok (.aload_n 0, 1) := by decide +kernel
theorem dX1_firstFault_4 : decode cX1_firstFault 4 = .ok (.getfield 15, 3) := by decide +kernel
theorem dX1_firstFault_7 : decode cX1_firstFault 7 = .ok (.if_icmp .ge 42, 3) := by decide +kernel
theorem dX1_firstFault_10 : decode cX1_firstFault 10 = .ok (.aload_n 0, 1) := by decide +kernel
theorem dX1_firstFault_11 : decode cX1_firstFault 11 = .ok (.getfield 9, 3) := by decide +kernel
theorem dX1_firstFault_14 : decode cX1_firstFault 14 = .ok (.iload_n 1, 1) := by decide +kernel
theorem dX1_firstFault_15 : decode cX1_firstFault 15 = .ok (.iaload, 1) := by decide +kernel
theorem dX1_firstFault_16 : decode cX1_firstFault 16 = .ok (.istore_n 2, 1) := by decide +kernel
theorem dX1_firstFault_17 : decode cX1_firstFault 17 = .ok (.iload_n 2, 1) := by decide +kernel
theorem dX1_firstFault_18 : decode cX1_firstFault 18 = .ok (.bipush 115, 2) := by decide +kernel
theorem dX1_firstFault_20 : decode cX1_firstFault 20 = .ok (.if_icmp .eq 23, 3) := by decide +kernel
theorem dX1_firstFault_23 : decode cX1_firstFault 23 = .ok (.iload_n 2, 1) := by decide +kernel
theorem dX1_firstFault_24 : decode cX1_firstFault 24 = .ok (.bipush 108, 2) := by decide +kernel
theorem dX1_firstFault_26 : decode cX1_firstFault 26 = .ok (.if_icmp .eq 17, 3) := by decide +kernel
theorem dX1_firstFault_29 : decode cX1_firstFault 29 = .ok (.iload_n 2, 1) := by decide +kernel
theorem dX1_firstFault_30 : decode cX1_firstFault 30 = .ok (.bipush 102, 2) := by decide +kernel
theorem dX1_firstFault_32 : decode cX1_firstFault 32 = .ok (.if_icmp .eq 11, 3) := by decide +kernel
theorem dX1_firstFault_35 : decode cX1_firstFault 35 = .ok (.iload_n 2, 1) := by decide +kernel
theorem dX1_firstFault_36 : decode cX1_firstFault 36 = .ok (.bipush 63, 2) := by decide +kernel
theorem dX1_firstFault_38 : decode cX1_firstFault 38 = .ok (.if_icmp .eq 5, 3) := by decide +kernel
theorem dX1_firstFault_41 : decode cX1_firstFault 41 = .ok (.iload_n 1, 1) := by decide +kernel
theorem dX1_firstFault_42 : decode cX1_firstFault 42 = .ok (.ireturn, 1) := by decide +kernel
theorem dX1_firstFault_43 : decode cX1_firstFault 43 = .ok (.iinc 1 1, 3) := by decide +kernel
theorem dX1_firstFault_46 : decode cX1_firstFault 46 = .ok (.goto (-44), 3) := by decide +kernel
theorem dX1_firstFault_49 : decode cX1_firstFault 49 = .ok (.bipush (-6), 2) := by decide +kernel
theorem dX1_firstFault_51 : decode cX1_firstFault 51 = .ok (.ireturn, 1) := by decide +kernel
theorem dX1_canShow_0 : decode cX1_canShow 0 = .ok (.iload_n 1, 1) := by decide +kernel
theorem dX1_canShow_1 : decode cX1_canShow 1 = .ok (.ifCond .lt 36, 3) := by decide +kernel
theorem dX1_canShow_4 : decode cX1_canShow 4 = .ok (.iload_n 1, 1) := by decide +kernel
theorem dX1_canShow_5 : decode cX1_canShow 5 = .ok (.aload_n 0, 1) := by decide +kernel
theorem dX1_canShow_6 : decode cX1_canShow 6 = .ok (.getfield 15, 3) := by decide +kernel
theorem dX1_canShow_9 : decode cX1_canShow 9 = .ok (.if_icmp .ge 28, 3) := by decide +kernel
theorem dX1_canShow_12 : decode cX1_canShow 12 = .ok (.aload_n 0, 1) := by decide +kernel
theorem dX1_canShow_13 : decode cX1_canShow 13 = .ok (.getfield 9, 3) := by decide +kernel
theorem dX1_canShow_16 : decode cX1_canShow 16 = .ok (.iload_n 1, 1) := by decide +kernel
theorem dX1_canShow_17 : decode cX1_canShow 17 = .ok (.iaload, 1) := by decide +kernel
theorem dX1_canShow_18 : decode cX1_canShow 18 = .ok (.iload_n 2, 1) := by decide +kernel
theorem dX1_canShow_19 : decode cX1_canShow 19 = .ok (.if_icmp .eq 14, 3) := by decide +kernel
theorem dX1_canShow_22 : decode cX1_canShow 22 = .ok (.aload_n 0, 1) := by decide +kernel
theorem dX1_canShow_23 : decode cX1_canShow 23 = .ok (.getfield 9, 3) := by decide +kernel
theorem dX1_canShow_26 : decode cX1_canShow 26 = .ok (.iload_n 1, 1) := by decide +kernel
theorem dX1_canShow_27 : decode cX1_canShow 27 = .ok (.iaload, 1) := by decide +kernel
theorem dX1_canShow_28 : decode cX1_canShow 28 = .ok (.bipush 63, 2) := by decide +kernel
theorem dX1_canShow_30 : decode cX1_canShow 30 = .ok (.if_icmp .ne 7, 3) := by decide +kernel
theorem dX1_canShow_33 : decode cX1_canShow 33 = .ok (.iconst 1, 1) := by decide +kernel
theorem dX1_canShow_34 : decode cX1_canShow 34 = .ok (.goto 4, 3) := by decide +kernel
theorem dX1_canShow_37 : decode cX1_canShow 37 = .ok (.iconst 0, 1) := by decide +kernel
theorem dX1_canShow_38 : decode cX1_canShow 38 = .ok (.ireturn, 1) := by decide +kernel
theorem dX2_init_0 : decode cX2_init 0 = .ok (.aload_n 0, 1) := by decide +kernel
theorem dX2_init_1 : decode cX2_init 1 = .ok (.invokespecial 5, 3) := by decide +kernel
theorem dX2_init_4 : decode cX2_init 4 = .ok (.aload_n 0, 1) := by decide +kernel
theorem dX2_init_5 : decode cX2_init 5 = .ok (.iconst 4, 1) := by decide +kernel
theorem dX2_init_6 : decode cX2_init 6 = .ok (.newarray .int, 2) := by decide +kernel
theorem dX2_init_8 : decode cX2_init 8 = .ok (.putfield 11, 3) := by decide +kernel
theorem dX2_init_11 : decode cX2_init 11 = .ok (.aload_n 0, 1) := by decide +kernel
theorem dX2_init_12 : decode cX2_init 12 = .ok (.bipush 8, 2) := by decide +kernel
theorem dX2_init_14 : decode cX2_init 14 = .ok (.newarray .int, 2) := by decide +kernel
theorem dX2_init_16 : decode cX2_init 16 = .ok (.putfield 15, 3) := by decide +kernel
theorem dX2_init_19 : decode cX2_init 19 = .ok (.aload_n 0, 1) := by decide +kernel
theorem dX2_init_20 : decode cX2_init 20 = .ok (.bipush 8, 2) := by decide +kernel
theorem dX2_init_22 : decode cX2_init 22 = .ok (.newarray .int, 2) := by decide +kernel
theorem dX2_init_24 : decode cX2_init 24 = .ok (.putfield 18, 3) := by decide +kernel
theorem dX2_init_27 : decode cX2_init 27 = .ok (.aload_n 0, 1) := by decide +kernel
theorem dX2_init_28 : decode cX2_init 28 = .ok (.bipush 8, 2) := by decide +kernel
theorem dX2_init_30 : decode cX2_init 30 = .ok (.newarray .int, 2) := by decide +kernel
theorem dX2_init_32 : decode cX2_init 32 = .ok (.putfield 21, 3) := by decide +kernel
theorem dX2_init_35 : decode cX2_init 35 = .ok (.return_, 1) := by decide +kernel
theorem dX2_seek_0 : decode cX2_seek 0 = .ok (.aload_n 0, 1) := by decide +kernel
theorem dX2_seek_1 : decode cX2_seek 1 = .ok (.aload_n 1, 1) := by decide +kernel
theorem dX2_seek_2 : decode cX2_seek 2 = .ok (.invokevirtual 24, 3) := by decide +kernel
theorem dX2_seek_5 : decode cX2_seek 5 = .ok (.putfield 30, 3) := by decide +kernel
theorem dX2_seek_8 : decode cX2_seek 8 = .ok (.iconst 0, 1) := by decide +kernel
theorem dX2_seek_9 : decode cX2_seek 9 = .ok (.istore 4, 2) := by decide +kernel
theorem dX2_seek_11 : decode cX2_seek 11 = .ok (.iload 4, 2) := by decide +kernel
theorem dX2_seek_13 : decode cX2_seek 13 = .ok (.iconst 4, 1) := by decide +kernel
theorem dX2_seek_14 : decode cX2_seek 14 = .ok (.if_icmp .ge 17, 3) := by decide +kernel
theorem dX2_seek_17 : decode cX2_seek 17 = .ok (.aload_n 0, 1) := by decide +kernel
theorem dX2_seek_18 : decode cX2_seek 18 = .ok (.getfield 11, 3) := by decide +kernel
theorem dX2_seek_21 : decode cX2_seek 21 = .ok (.iload 4, 2) := by decide +kernel
theorem dX2_seek_23 : decode cX2_seek 23 = .ok (.iconst 1, 1) := by decide +kernel
theorem dX2_seek_24 : decode cX2_seek 24 = .ok (.iastore, 1) := by decide +kernel
theorem dX2_seek_25 : decode cX2_seek 25 = .ok (.iinc 4 1, 3) := by decide +kernel
theorem dX2_seek_28 : decode cX2_seek 28 = .ok (.goto (-17), 3) := by decide +kernel
theorem dX2_seek_31 : decode cX2_seek 31 = .ok (.aload_n 0, 1) := by decide +kernel
theorem dX2_seek_32 : decode cX2_seek 32 = .ok (.ldc 34, 2) := by decide +kernel
theorem dX2_seek_34 : decode cX2_seek 34 = .ok (.putfield 35, 3) := by decide +kernel
theorem dX2_seek_37 : decode cX2_seek 37 = .ok (.iconst 1, 1) := by decide +kernel
theorem dX2_seek_38 : decode cX2_seek 38 = .ok (.istore 4, 2) := by decide +kernel
theorem dX2_seek_40 : decode cX2_seek 40 = .ok (.iconst 0, 1) := by decide +kernel
theorem dX2_seek_41 : decode cX2_seek 41 = .ok (.istore 5, 2) := by decide +kernel
theorem dX2_seek_43 : decode cX2_seek 43 = .ok (.iload 5, 2) := by decide +kernel
theorem dX2_seek_45 : decode cX2_seek 45 = .ok (.bipush 105, 2) := by decide +kernel
theorem dX2_seek_47 : decode cX2_seek 47 = .ok (.if_icmp .ge 59, 3) := by decide +kernel
theorem dX2_seek_50 : decode cX2_seek 50 = .ok (.iload 4, 2) := by decide +kernel
theorem dX2_seek_52 : decode cX2_seek 52 = .ok (.ifCond .eq 54, 3) := by decide +kernel
theorem dX2_seek_55 : decode cX2_seek 55 = .ok (.aload_n 0, 1) := by decide +kernel
theorem dX2_seek_56 : decode cX2_seek 56 = .ok (.aload_n 1, 1) := by decide +kernel
theorem dX2_seek_57 : decode cX2_seek 57 = .ok (.aload_n 2, 1) := by decide +kernel
theorem dX2_seek_58 : decode cX2_seek 58 = .ok (.iload_n 3, 1) := by decide +kernel
theorem dX2_seek_59 : decode cX2_seek 59 = .ok (.invokevirtual 38, 3) := by decide +kernel
theorem dX2_seek_62 : decode cX2_seek 62 = .ok (.istore 6, 2) := by decide +kernel
theorem dX2_seek_64 : decode cX2_seek 64 = .ok (.iload 6, 2) := by decide +kernel
theorem dX2_seek_66 : decode cX2_seek 66 = .ok (.aload_n 0, 1) := by decide +kernel
theorem dX2_seek_67 : decode cX2_seek 67 = .ok (.getfield 35, 3) := by decide +kernel
theorem dX2_seek_70 : decode cX2_seek 70 = .ok (.if_icmp .ge 24, 3) := by decide +kernel
theorem dX2_seek_73 : decode cX2_seek 73 = .ok (.aload_n 0, 1) := by decide +kernel
theorem dX2_seek_74 : decode cX2_seek 74 = .ok (.iload 6, 2) := by decide +kernel
theorem dX2_seek_76 : decode cX2_seek 76 = .ok (.putfield 35, 3) := by decide +kernel
theorem dX2_seek_79 : decode cX2_seek 79 = .ok (.aload_n 0, 1) := by decide +kernel
theorem dX2_seek_80 : decode cX2_seek 80 = .ok (.getfield 18, 3) := by decide +kernel
theorem dX2_seek_83 : decode cX2_seek 83 = .ok (.iconst 0, 1) := by decide +kernel
theorem dX2_seek_84 : decode cX2_seek 84 = .ok (.aload_n 0, 1) := by decide +kernel
theorem dX2_seek_85 : decode cX2_seek 85 = .ok (.getfield 21, 3) := by decide +kernel
theorem dX2_seek_88 : decode cX2_seek 88 = .ok (.iconst 0, 1) := by decide +kernel
theorem dX2_seek_89 : decode cX2_seek 89 = .ok (.bipush 8, 2) := by decide +kernel
theorem dX2_seek_91 : decode cX2_seek 91 = .ok (.invokestatic 42, 3) := by decide +kernel
theorem dX2_seek_94 : decode cX2_seek 94 = .ok (.aload_n 0, 1) := by decide +kernel
theorem dX2_seek_95 : decode cX2_seek 95 = .ok (.invokevirtual 48, 3) := by decide +kernel
theorem dX2_seek_98 : decode cX2_seek 98 = .ok (.istore 4, 2) := by decide +kernel
theorem dX2_seek_100 : decode cX2_seek 100 = .ok (.iinc 5 1, 3) := by decide +kernel
theorem dX2_seek_103 : decode cX2_seek 103 = .ok (.goto (-60), 3) := by decide +kernel
theorem dX2_seek_106 : decode cX2_seek 106 = .ok (.return_, 1) := by decide +kernel
theorem dX2_goToNextPicks_0 : decode cX2_goToNextPicks 0 = .ok (.aload_n 0, 1) := by decide +kernel
theorem dX2_goToNextPicks_1 : decode cX2_goToNextPicks 1 = .ok (.getfield 30, 3) := by decide +kernel
theorem dX2_goToNextPicks_4 : decode cX2_goToNextPicks 4 = .ok (.iconst 2, 1) := by decide +kernel
theorem dX2_goToNextPicks_5 : decode cX2_goToNextPicks 5 = .ok (.idiv, 1) := by decide +kernel
theorem dX2_goToNextPicks_6 : decode cX2_goToNextPicks 6 = .ok (.iconst 1, 1) := by decide +kernel
theorem dX2_goToNextPicks_7 : decode cX2_goToNextPicks 7 = .ok (.isub, 1) := by decide +kernel
theorem dX2_goToNextPicks_8 : decode cX2_goToNextPicks 8 = .ok (.istore_n 1, 1) := by decide +kernel
theorem dX2_goToNextPicks_9 : decode cX2_goToNextPicks 9 = .ok (.iload_n 1, 1) := by decide +kernel
theorem dX2_goToNextPicks_10 : decode cX2_goToNextPicks 10 = .ok (.ifCond .lt 47, 3) := by decide +kernel
theorem dX2_goToNextPicks_13 : decode cX2_goToNextPicks 13 = .ok (.aload_n 0, 1) := by decide +kernel
theorem dX2_goToNextPicks_14 : decode cX2_goToNextPicks 14 = .ok (.getfield 11, 3) := by decide +kernel
theorem dX2_goToNextPicks_17 : decode cX2_goToNextPicks 17 = .ok (.iload_n 1, 1) := by decide +kernel
theorem dX2_goToNextPicks_18 : decode cX2_goToNextPicks 18 = .ok (.iaload, 1) := by decide +kernel
theorem dX2_goToNextPicks_19 : decode cX2_goToNextPicks 19 = .ok (.aload_n 0, 1) := by decide +kernel
theorem dX2_goToNextPicks_20 : decode cX2_goToNextPicks 20 = .ok (.getfield 30, 3) := by decide +kernel
theorem dX2_goToNextPicks_23 : decode cX2_goToNextPicks 23 = .ok (.iconst 2, 1) := by decide +kernel
theorem dX2_goToNextPicks_24 : decode cX2_goToNextPicks 24 = .ok (.iload_n 1, 1) := by decide +kernel
theorem dX2_goToNextPicks_25 : decode cX2_goToNextPicks 25 = .ok (.imul, 1) := by decide +kernel
theorem dX2_goToNextPicks_26 : decode cX2_goToNextPicks 26 = .ok (.isub, 1) := by decide +kernel
theorem dX2_goToNextPicks_27 : decode cX2_goToNextPicks 27 = .ok (.iconst 1, 1) := by decide +kernel
theorem dX2_goToNextPicks_28 : decode cX2_goToNextPicks 28 = .ok (.isub, 1) := by decide +kernel
theorem dX2_goToNextPicks_29 : decode cX2_goToNextPicks 29 = .ok (.if_icmp .ge 15, 3) := by decide +kernel
theorem dX2_goToNextPicks_32 : decode cX2_goToNextPicks 32 = .ok (.aload_n 0, 1) := by decide +kernel
theorem dX2_goToNextPicks_33 : decode cX2_goToNextPicks 33 = .ok (.getfield 11, 3) := by decide +kernel
theorem dX2_goToNextPicks_36 : decode cX2_goToNextPicks 36 = .ok (.iload_n 1, 1) := by decide +kernel
theorem dX2_goToNextPicks_37 : decode cX2_goToNextPicks 37 = .ok (.dup2, 1) := by decide +kernel
theorem dX2_goToNextPicks_38 : decode cX2_goToNextPicks 38 = .ok (.iaload, 1) := by decide +kernel
theorem dX2_goToNextPicks_39 : decode cX2_goToNextPicks 39 = .ok (.iconst 1, 1) := by decide +kernel
theorem dX2_goToNextPicks_40 : decode cX2_goToNextPicks 40 = .ok (.iadd, 1) := by decide +kernel
theorem dX2_goToNextPicks_41 : decode cX2_goToNextPicks 41 = .ok (.iastore, 1) := by decide +kernel
theorem dX2_goToNextPicks_42 : decode cX2_goToNextPicks 42 = .ok (.iconst 1, 1) := by decide +kernel
theorem dX2_goToNextPicks_43 : decode cX2_goToNextPicks 43 = .ok (.ireturn, 1) := by decide +kernel
theorem dX2_goToNextPicks_44 : decode cX2_goToNextPicks 44 = .ok (.aload_n 0, 1) := by decide +kernel
theorem dX2_goToNextPicks_45 : decode cX2_goToNextPicks 45 = .ok (.getfield 11, 3) := by decide +kernel
theorem dX2_goToNextPicks_48 : decode cX2_goToNextPicks 48 = .ok (.iload_n 1, 1) := by decide +kernel
theorem dX2_goToNextPicks_49 : decode cX2_goToNextPicks 49 = .ok (.iconst 1, 1) := by decide +kernel
theorem dX2_goToNextPicks_50 : decode cX2_goToNextPicks 50 = .ok (.iastore, 1) := by decide +kernel
theorem dX2_goToNextPicks_51 : decode cX2_goToNextPicks 51 = .ok (.iinc 1 (-1), 3) := by decide +kernel
theorem dX2_goToNextPicks_54 : decode cX2_goToNextPicks 54 = .ok (.goto (-45), 3) := by decide +kernel
theorem dX2_goToNextPicks_57 : decode cX2_goToNextPicks 57 = .ok (.iconst 0, 1) := by decide +kernel
theorem dX2_goToNextPicks_58 : decode cX2_goToNextPicks 58 = .ok (.ireturn, 1) := by decide +kernel
theorem dX2_costOfPicks_0 : decode cX2_costOfPicks 0 = .ok (.aload_n 0, 1) := by decide +kernel
theorem dX2_costOfPicks_1 : decode cX2_costOfPicks 1 = .ok (.aload_n 1, 1) := by decide +kernel
theorem dX2_costOfPicks_2 : decode cX2_costOfPicks 2 = .ok (.invokevirtual 52, 3) := by decide +kernel
theorem dX2_costOfPicks_5 : decode cX2_costOfPicks 5 = .ok (.istore 4, 2) := by decide +kernel
theorem dX2_costOfPicks_7 : decode cX2_costOfPicks 7 = .ok (.iconst 0, 1) := by decide +kernel
theorem dX2_costOfPicks_8 : decode cX2_costOfPicks 8 = .ok (.istore 5, 2) := by decide +kernel
theorem dX2_costOfPicks_10 : decode cX2_costOfPicks 10 = .ok (.iconst 0, 1) := by decide +kernel
theorem dX2_costOfPicks_11 : decode cX2_costOfPicks 11 = .ok (.istore 6, 2) := by decide +kernel
theorem dX2_costOfPicks_13 : decode cX2_costOfPicks 13 = .ok (.iload 6, 2) := by decide +kernel
theorem dX2_costOfPicks_15 : decode cX2_costOfPicks 15 = .ok (.iconst 4, 1) := by decide +kernel
theorem dX2_costOfPicks_16 : decode cX2_costOfPicks 16 = .ok (.if_icmp .ge 135, 3) := by decide +kernel
theorem dX2_costOfPicks_19 : decode cX2_costOfPicks 19 = .ok (.aload_n 0, 1) := by decide +kernel
theorem dX2_costOfPicks_20 : decode cX2_costOfPicks 20 = .ok (.getfield 11, 3) := by decide +kernel
theorem dX2_costOfPicks_23 : decode cX2_costOfPicks 23 = .ok (.iload 6, 2) := by decide +kernel
theorem dX2_costOfPicks_25 : decode cX2_costOfPicks 25 = .ok (.iaload, 1) := by decide +kernel
theorem dX2_costOfPicks_26 : decode cX2_costOfPicks 26 = .ok (.iload 4, 2) := by decide +kernel
theorem dX2_costOfPicks_28 : decode cX2_costOfPicks 28 = .ok (.if_icmp .ge 123, 3) := by decide +kernel
theorem dX2_costOfPicks_31 : decode cX2_costOfPicks 31 = .ok (.aload_n 0, 1) := by decide +kernel
theorem dX2_costOfPicks_32 : decode cX2_costOfPicks 32 = .ok (.getfield 15, 3) := by decide +kernel
theorem dX2_costOfPicks_35 : decode cX2_costOfPicks 35 = .ok (.iconst 0, 1) := by decide +kernel
theorem dX2_costOfPicks_36 : decode cX2_costOfPicks 36 = .ok (.iaload, 1) := by decide +kernel
theorem dX2_costOfPicks_37 : decode cX2_costOfPicks 37 = .ok (.istore 7, 2) := by decide +kernel
theorem dX2_costOfPicks_39 : decode cX2_costOfPicks 39 = .ok (.aload_n 0, 1) := by decide +kernel
theorem dX2_costOfPicks_40 : decode cX2_costOfPicks 40 = .ok (.getfield 15, 3) := by decide +kernel
theorem dX2_costOfPicks_43 : decode cX2_costOfPicks 43 = .ok (.aload_n 0, 1) := by decide +kernel
theorem dX2_costOfPicks_44 : decode cX2_costOfPicks 44 = .ok (.getfield 11, 3) := by decide +kernel
theorem dX2_costOfPicks_47 : decode cX2_costOfPicks 47 = .ok (.iload 6, 2) := by decide +kernel
theorem dX2_costOfPicks_49 : decode cX2_costOfPicks 49 = .ok (.iaload, 1) := by decide +kernel
theorem dX2_costOfPicks_50 : decode cX2_costOfPicks 50 = .ok (.iaload, 1) := by decide +kernel
theorem dX2_costOfPicks_51 : decode cX2_costOfPicks 51 = .ok (.istore 8, 2) := by decide +kernel
theorem dX2_costOfPicks_53 : decode cX2_costOfPicks 53 = .ok (.aload_n 0, 1) := by decide +kernel
theorem dX2_costOfPicks_54 : decode cX2_costOfPicks 54 = .ok (.getfield 18, 3) := by decide +kernel
theorem dX2_costOfPicks_57 : decode cX2_costOfPicks 57 = .ok (.iload 7, 2) := by decide +kernel
theorem dX2_costOfPicks_59 : decode cX2_costOfPicks 59 = .ok (.iload 8, 2) := by decide +kernel
theorem dX2_costOfPicks_61 : decode cX2_costOfPicks 61 = .ok (.iastore, 1) := by decide +kernel
theorem dX2_costOfPicks_62 : decode cX2_costOfPicks 62 = .ok (.aload_n 0, 1) := by decide +kernel
theorem dX2_costOfPicks_63 : decode cX2_costOfPicks 63 = .ok (.getfield 18, 3) := by decide +kernel
theorem dX2_costOfPicks_66 : decode cX2_costOfPicks 66 = .ok (.iload 8, 2) := by decide +kernel
theorem dX2_costOfPicks_68 : decode cX2_costOfPicks 68 = .ok (.iload 7, 2) := by decide +kernel
theorem dX2_costOfPicks_70 : decode cX2_costOfPicks 70 = .ok (.iastore, 1) := by decide +kernel
theorem dX2_costOfPicks_71 : decode cX2_costOfPicks 71 = .ok (.aload_n 2, 1) := by decide +kernel
theorem dX2_costOfPicks_72 : decode cX2_costOfPicks 72 = .ok (.bipush 8, 2) := by decide +kernel
theorem dX2_costOfPicks_74 : decode cX2_costOfPicks 74 = .ok (.iload 7, 2) := by decide +kernel
theorem dX2_costOfPicks_76 : decode cX2_costOfPicks 76 = .ok (.imul, 1) := by decide +kernel
theorem dX2_costOfPicks_77 : decode cX2_costOfPicks 77 = .ok (.iload 8, 2) := by decide +kernel
theorem dX2_costOfPicks_79 : decode cX2_costOfPicks 79 = .ok (.iadd, 1) := by decide +kernel
theorem dX2_costOfPicks_80 : decode cX2_costOfPicks 80 = .ok (.iaload, 1) := by decide +kernel
theorem dX2_costOfPicks_81 : decode cX2_costOfPicks 81 = .ok (.istore 9, 2) := by decide +kernel
theorem dX2_costOfPicks_83 : decode cX2_costOfPicks 83 = .ok (.iload 9, 2) := by decide +kernel
theorem dX2_costOfPicks_85 : decode cX2_costOfPicks 85 = .ok (.bipush (-6), 2) := by decide +kernel
theorem dX2_costOfPicks_87 : decode cX2_costOfPicks 87 = .ok (.if_icmp .ne 8, 3) := by decide +kernel
theorem dX2_costOfPicks_90 : decode cX2_costOfPicks 90 = .ok (.ldc 56, 2) := by decide +kernel
theorem dX2_costOfPicks_92 : decode cX2_costOfPicks 92 = .ok (.goto 5, 3) := by decide +kernel
theorem dX2_costOfPicks_95 : decode cX2_costOfPicks 95 = .ok (.iload 9, 2) := by decide +kernel
theorem dX2_costOfPicks_97 : decode cX2_costOfPicks 97 = .ok (.istore 10, 2) := by decide +kernel
theorem dX2_costOfPicks_99 : decode cX2_costOfPicks 99 = .ok (.iload_n 3, 1) := by decide +kernel
theorem dX2_costOfPicks_100 : decode cX2_costOfPicks 100 = .ok (.ifCond .eq 13, 3) := by decide +kernel
theorem dX2_costOfPicks_103 : decode cX2_costOfPicks 103 = .ok (.iload 5, 2) := by decide +kernel
theorem dX2_costOfPicks_105 : decode cX2_costOfPicks 105 = .ok (.iload 10, 2) := by decide +kernel
theorem dX2_costOfPicks_107 : decode cX2_costOfPicks 107 = .ok (.invokestatic 57, 3) := by decide +kernel
theorem dX2_costOfPicks_110 : decode cX2_costOfPicks 110 = .ok (.goto 8, 3) := by decide +kernel
theorem dX2_costOfPicks_113 : decode cX2_costOfPicks 113 = .ok (.iload 5, 2) := by decide +kernel
theorem dX2_costOfPicks_115 : decode cX2_costOfPicks 115 = .ok (.iload 10, 2) := by decide +kernel
theorem dX2_costOfPicks_117 : decode cX2_costOfPicks 117 = .ok (.iadd, 1) := by decide +kernel
theorem dX2_costOfPicks_118 : decode cX2_costOfPicks 118 = .ok (.istore 5, 2) := by decide +kernel
theorem dX2_costOfPicks_120 : decode cX2_costOfPicks 120 = .ok (.aload_n 0, 1) := by decide +kernel
theorem dX2_costOfPicks_121 : decode cX2_costOfPicks 121 = .ok (.aload_n 0, 1) := by decide +kernel
theorem dX2_costOfPicks_122 : decode cX2_costOfPicks 122 = .ok (.getfield 11, 3) := by decide +kernel
theorem dX2_costOfPicks_125 : decode cX2_costOfPicks 125 = .ok (.iload 6, 2) := by decide +kernel
theorem dX2_costOfPicks_127 : decode cX2_costOfPicks 127 = .ok (.iaload, 1) := by decide +kernel
theorem dX2_costOfPicks_128 : decode cX2_costOfPicks 128 = .ok (.iload 4, 2) := by decide +kernel
theorem dX2_costOfPicks_130 : decode cX2_costOfPicks 130 = .ok (.invokevirtual 63, 3) := by decide +kernel
theorem dX2_costOfPicks_133 : decode cX2_costOfPicks 133 = .ok (.aload_n 0, 1) := by decide +kernel
theorem dX2_costOfPicks_134 : decode cX2_costOfPicks 134 = .ok (.iconst 0, 1) := by decide +kernel
theorem dX2_costOfPicks_135 : decode cX2_costOfPicks 135 = .ok (.iload 4, 2) := by decide +kernel
theorem dX2_costOfPicks_137 : decode cX2_costOfPicks 137 = .ok (.iconst 1, 1) := by decide +kernel
theorem dX2_costOfPicks_138 : decode cX2_costOfPicks 138 = .ok (.isub, 1) := by decide +kernel
theorem dX2_costOfPicks_139 : decode cX2_costOfPicks 139 = .ok (.invokevirtual 63, 3) := by decide +kernel
theorem dX2_costOfPicks_142 : decode cX2_costOfPicks 142 = .ok (.iinc 4 (-2), 3) := by decide +kernel
theorem dX2_costOfPicks_145 : decode cX2_costOfPicks 145 = .ok (.iinc 6 1, 3) := by decide +kernel
theorem dX2_costOfPicks_148 : decode cX2_costOfPicks 148 = .ok (.goto (-135), 3) := by decide +kernel
theorem dX2_costOfPicks_151 : decode cX2_costOfPicks 151 = .ok (.iload 5, 2) := by decide +kernel
theorem dX2_costOfPicks_153 : decode cX2_costOfPicks 153 = .ok (.ireturn, 1) := by decide +kernel
theorem dX2_lineUp_0 : decode cX2_lineUp 0 = .ok (.iconst 0, 1) := by decide +kernel
theorem dX2_lineUp_1 : decode cX2_lineUp 1 = .ok (.istore_n 2, 1) := by decide +kernel
theorem dX2_lineUp_2 : decode cX2_lineUp 2 = .ok (.iconst 0, 1) := by decide +kernel
theorem dX2_lineUp_3 : decode cX2_lineUp 3 = .ok (.istore_n 3, 1) := by decide +kernel
theorem dX2_lineUp_4 : decode cX2_lineUp 4 = .ok (.iload_n 3, 1) := by decide +kernel
theorem dX2_lineUp_5 : decode cX2_lineUp 5 = .ok (.bipush 8, 2) := by decide +kernel
theorem dX2_lineUp_7 : decode cX2_lineUp 7 = .ok (.if_icmp .ge 27, 3) := by decide +kernel
theorem dX2_lineUp_10 : decode cX2_lineUp 10 = .ok (.aload_n 1, 1) := by decide +kernel
theorem dX2_lineUp_11 : decode cX2_lineUp 11 = .ok (.iload_n 3, 1) := by decide +kernel
theorem dX2_lineUp_12 : decode cX2_lineUp 12 = .ok (.invokevirtual 67, 3) := by decide +kernel
theorem dX2_lineUp_15 : decode cX2_lineUp 15 = .ok (.ifCond .eq 13, 3) := by decide +kernel
theorem dX2_lineUp_18 : decode cX2_lineUp 18 = .ok (.aload_n 0, 1) := by decide +kernel
theorem dX2_lineUp_19 : decode cX2_lineUp 19 = .ok (.getfield 15, 3) := by decide +kernel
theorem dX2_lineUp_22 : decode cX2_lineUp 22 = .ok (.iload_n 2, 1) := by decide +kernel
theorem dX2_lineUp_23 : decode cX2_lineUp 23 = .ok (.iload_n 3, 1) := by decide +kernel
theorem dX2_lineUp_24 : decode cX2_lineUp 24 = .ok (.iastore, 1) := by decide +kernel
theorem dX2_lineUp_25 : decode cX2_lineUp 25 = .ok (.iinc 2 1, 3) := by decide +kernel
theorem dX2_lineUp_28 : decode cX2_lineUp 28 = .ok (.iinc 3 1, 3) := by decide +kernel
theorem dX2_lineUp_31 : decode cX2_lineUp 31 = .ok (.goto (-27), 3) := by decide +kernel
theorem dX2_lineUp_34 : decode cX2_lineUp 34 = .ok (.iload_n 2, 1) := by decide +kernel
theorem dX2_lineUp_35 : decode cX2_lineUp 35 = .ok (.ireturn, 1) := by decide +kernel
theorem dX2_takeOut_0 : decode cX2_takeOut 0 = .ok (.iload_n 1, 1) := by decide +kernel
theorem dX2_takeOut_1 : decode cX2_takeOut 1 = .ok (.istore_n 3, 1) := by decide +kernel
theorem dX2_takeOut_2 : decode cX2_takeOut 2 = .ok (.iload_n 3, 1) := by decide +kernel
theorem dX2_takeOut_3 : decode cX2_takeOut 3 = .ok (.iload_n 2, 1) := by decide +kernel
theorem dX2_takeOut_4 : decode cX2_takeOut 4 = .ok (.iconst 1, 1) := by decide +kernel
theorem dX2_takeOut_5 : decode cX2_takeOut 5 = .ok (.isub, 1) := by decide +kernel
theorem dX2_takeOut_6 : decode cX2_takeOut 6 = .ok (.if_icmp .ge 23, 3) := by decide +kernel
theorem dX2_takeOut_9 : decode cX2_takeOut 9 = .ok (.aload_n 0, 1) := by decide +kernel
theorem dX2_takeOut_10 : decode cX2_takeOut 10 = .ok (.getfield 15, 3) := by decide +kernel
theorem dX2_takeOut_13 : decode cX2_takeOut 13 = .ok (.iload_n 3, 1) := by decide +kernel
theorem dX2_takeOut_14 : decode cX2_takeOut 14 = .ok (.aload_n 0, 1) := by decide +kernel
theorem dX2_takeOut_15 : decode cX2_takeOut 15 = .ok (.getfield 15, 3) := by decide +kernel
theorem dX2_takeOut_18 : decode cX2_takeOut 18 = .ok (.iload_n 3, 1) := by decide +kernel
theorem dX2_takeOut_19 : decode cX2_takeOut 19 = .ok (.iconst 1, 1) := by decide +kernel
theorem dX2_takeOut_20 : decode cX2_takeOut 20 = .ok (.iadd, 1) := by decide +kernel
theorem dX2_takeOut_21 : decode cX2_takeOut 21 = .ok (.iaload, 1) := by decide +kernel
theorem dX2_takeOut_22 : decode cX2_takeOut 22 = .ok (.iastore, 1) := by decide +kernel
theorem dX2_takeOut_23 : decode cX2_takeOut 23 = .ok (.iinc 3 1, 3) := by decide +kernel
theorem dX2_takeOut_26 : decode cX2_takeOut 26 = .ok (.goto (-24), 3) := by decide +kernel
theorem dX2_takeOut_29 : decode cX2_takeOut 29 = .ok (.return_, 1) := by decide +kernel
theorem dX3_init_0 : decode cX3_init 0 = .ok (.aload_n 0, 1) := by decide +kernel
theorem dX3_init_1 : decode cX3_init 1 = .ok (.invokespecial 3, 3) := by decide +kernel
theorem dX3_init_4 : decode cX3_init 4 = .ok (.aload_n 0, 1) := by decide +kernel
theorem dX3_init_5 : decode cX3_init 5 = .ok (.bipush (-6), 2) := by decide +kernel
theorem dX3_init_7 : decode cX3_init 7 = .ok (.putfield 9, 3) := by decide +kernel
theorem dX3_init_10 : decode cX3_init 10 = .ok (.aload_n 0, 1) := by decide +kernel
theorem dX3_init_11 : decode cX3_init 11 = .ok (.bipush (-6), 2) := by decide +kernel
theorem dX3_init_13 : decode cX3_init 13 = .ok (.putfield 15, 3) := by decide +kernel
theorem dX3_init_16 : decode cX3_init 16 = .ok (.return_, 1) := by decide +kernel
theorem dX3_clear_0 : decode cX3_clear 0 = .ok (.aload_n 0, 1) := by decide +kernel
theorem dX3_clear_1 : decode cX3_clear 1 = .ok (.bipush (-6), 2) := by decide +kernel
theorem dX3_clear_3 : decode cX3_clear 3 = .ok (.putfield 9, 3) := by decide +kernel
theorem dX3_clear_6 : decode cX3_clear 6 = .ok (.aload_n 0, 1) := by decide +kernel
theorem dX3_clear_7 : decode cX3_clear 7 = .ok (.bipush (-6), 2) := by decide +kernel
theorem dX3_clear_9 : decode cX3_clear 9 = .ok (.putfield 15, 3) := by decide +kernel
theorem dX3_clear_12 : decode cX3_clear 12 = .ok (.return_, 1) := by decide +kernel
theorem dX3_offer_0 : decode cX3_offer 0 = .ok (.iload_n 2, 1) := by decide +kernel
theorem dX3_offer_1 : decode cX3_offer 1 = .ok (.bipush (-6), 2) := by decide +kernel
theorem dX3_offer_3 : decode cX3_offer 3 = .ok (.if_icmp .eq 30, 3) := by decide +kernel
theorem dX3_offer_6 : decode cX3_offer 6 = .ok (.aload_n 0, 1) := by decide +kernel
theorem dX3_offer_7 : decode cX3_offer 7 = .ok (.getfield 9, 3) := by decide +kernel
theorem dX3_offer_10 : decode cX3_offer 10 = .ok (.bipush (-6), 2) := by decide +kernel
theorem dX3_offer_12 : decode cX3_offer 12 = .ok (.if_icmp .eq 11, 3) := by decide +kernel
theorem dX3_offer_15 : decode cX3_offer 15 = .ok (.iload_n 2, 1) := by decide +kernel
theorem dX3_offer_16 : decode cX3_offer 16 = .ok (.aload_n 0, 1) := by decide +kernel
theorem dX3_offer_17 : decode cX3_offer 17 = .ok (.getfield 9, 3) := by decide +kernel
theorem dX3_offer_20 : decode cX3_offer 20 = .ok (.if_icmp .ge 13, 3) := by decide +kernel
theorem dX3_offer_23 : decode cX3_offer 23 = .ok (.aload_n 0, 1) := by decide +kernel
theorem dX3_offer_24 : decode cX3_offer 24 = .ok (.iload_n 2, 1) := by decide +kernel
theorem dX3_offer_25 : decode cX3_offer 25 = .ok (.putfield 9, 3) := by decide +kernel
theorem dX3_offer_28 : decode cX3_offer 28 = .ok (.aload_n 0, 1) := by decide +kernel
theorem dX3_offer_29 : decode cX3_offer 29 = .ok (.iload_n 1, 1) := by decide +kernel
theorem dX3_offer_30 : decode cX3_offer 30 = .ok (.putfield 15, 3) := by decide +kernel
theorem dX3_offer_33 : decode cX3_offer 33 = .ok (.return_, 1) := by decide +kernel
theorem dX3_answer_0 : decode cX3_answer 0 = .ok (.iload_n 1, 1) := by decide +kernel
theorem dX3_answer_1 : decode cX3_answer 1 = .ok (.ifCond .ne 10, 3) := by decide +kernel
theorem dX3_answer_4 : decode cX3_answer 4 = .ok (.aload_n 0, 1) := by decide +kernel
theorem dX3_answer_5 : decode cX3_answer 5 = .ok (.getfield 15, 3) := by decide +kernel
theorem dX3_answer_8 : decode cX3_answer 8 = .ok (.goto 7, 3) := by decide +kernel
theorem dX3_answer_11 : decode cX3_answer 11 = .ok (.aload_n 0, 1) := by decide +kernel
theorem dX3_answer_12 : decode cX3_answer 12 = .ok (.getfield 9, 3) := by decide +kernel
theorem dX3_answer_15 : decode cX3_answer 15 = .ok (.ireturn, 1) := by decide +kernel
theorem dX4_init_0 : decode cX4_init 0 = .ok (.aload_n 0, 1) := by decide +kernel
theorem dX4_init_1 : decode cX4_init 1 = .ok (.invokespecial 3, 3) := by decide +kernel
theorem dX4_init_4 : decode cX4_init 4 = .ok (.return_, 1) := by decide +kernel
theorem dX4_tie_0 : decode cX4_tie 0 = .ok (.aload_n 1, 1) := by decide +kernel
theorem dX4_tie_1 : decode cX4_tie 1 = .ok (.iload_n 2, 1) := by decide +kernel
theorem dX4_tie_2 : decode cX4_tie 2 = .ok (.iload_n 3, 1) := by decide +kernel
theorem dX4_tie_3 : decode cX4_tie 3 = .ok (.invokevirtual 9, 3) := by decide +kernel
theorem dX4_tie_6 : decode cX4_tie 6 = .ok (.ifCond .ne 4, 3) := by decide +kernel
theorem dX4_tie_9 : decode cX4_tie 9 = .ok (.return_, 1) := by decide +kernel
theorem dX4_tie_10 : decode cX4_tie 10 = .ok (.aload_n 0, 1) := by decide +kernel
theorem dX4_tie_11 : decode cX4_tie 11 = .ok (.aload_n 1, 1) := by decide +kernel
theorem dX4_tie_12 : decode cX4_tie 12 = .ok (.getfield 15, 3) := by decide +kernel
theorem dX4_tie_15 : decode cX4_tie 15 = .ok (.iload_n 2, 1) := by decide +kernel
theorem dX4_tie_16 : decode cX4_tie 16 = .ok (.iaload, 1) := by decide +kernel
theorem dX4_tie_17 : decode cX4_tie 17 = .ok (.putfield 19, 3) := by decide +kernel
theorem dX4_tie_20 : decode cX4_tie 20 = .ok (.aload_n 0, 1) := by decide +kernel
theorem dX4_tie_21 : decode cX4_tie 21 = .ok (.aload_n 1, 1) := by decide +kernel
theorem dX4_tie_22 : decode cX4_tie 22 = .ok (.getfield 15, 3) := by decide +kernel
theorem dX4_tie_25 : decode cX4_tie 25 = .ok (.iload_n 3, 1) := by decide +kernel
theorem dX4_tie_26 : decode cX4_tie 26 = .ok (.iaload, 1) := by decide +kernel
theorem dX4_tie_27 : decode cX4_tie 27 = .ok (.putfield 25, 3) := by decide +kernel
theorem dX4_tie_30 : decode cX4_tie 30 = .ok (.aload_n 0, 1) := by decide +kernel
theorem dX4_tie_31 : decode cX4_tie 31 = .ok (.aload_n 1, 1) := by decide +kernel
theorem dX4_tie_32 : decode cX4_tie 32 = .ok (.getfield 28, 3) := by decide +kernel
theorem dX4_tie_35 : decode cX4_tie 35 = .ok (.iload_n 2, 1) := by decide +kernel
theorem dX4_tie_36 : decode cX4_tie 36 = .ok (.iaload, 1) := by decide +kernel
theorem dX4_tie_37 : decode cX4_tie 37 = .ok (.putfield 31, 3) := by decide +kernel
theorem dX4_tie_40 : decode cX4_tie 40 = .ok (.aload_n 0, 1) := by decide +kernel
theorem dX4_tie_41 : decode cX4_tie 41 = .ok (.aload_n 1, 1) := by decide +kernel
theorem dX4_tie_42 : decode cX4_tie 42 = .ok (.getfield 28, 3) := by decide +kernel
theorem dX4_tie_45 : decode cX4_tie 45 = .ok (.iload_n 3, 1) := by decide +kernel
theorem dX4_tie_46 : decode cX4_tie 46 = .ok (.iaload, 1) := by decide +kernel
theorem dX4_tie_47 : decode cX4_tie 47 = .ok (.putfield 34, 3) := by decide +kernel
theorem dX4_tie_50 : decode cX4_tie 50 = .ok (.aload_n 0, 1) := by decide +kernel
theorem dX4_tie_51 : decode cX4_tie 51 = .ok (.aload_n 1, 1) := by decide +kernel
theorem dX4_tie_52 : decode cX4_tie 52 = .ok (.getfield 37, 3) := by decide +kernel
theorem dX4_tie_55 : decode cX4_tie 55 = .ok (.iload_n 2, 1) := by decide +kernel
theorem dX4_tie_56 : decode cX4_tie 56 = .ok (.iaload, 1) := by decide +kernel
theorem dX4_tie_57 : decode cX4_tie 57 = .ok (.aload_n 1, 1) := by decide +kernel
theorem dX4_tie_58 : decode cX4_tie 58 = .ok (.getfield 37, 3) := by decide +kernel
theorem dX4_tie_61 : decode cX4_tie 61 = .ok (.iload_n 3, 1) := by decide +kernel
theorem dX4_tie_62 : decode cX4_tie 62 = .ok (.iaload, 1) := by decide +kernel
theorem dX4_tie_63 : decode cX4_tie 63 = .ok (.invokestatic 40, 3) := by decide +kernel
theorem dX4_tie_66 : decode cX4_tie 66 = .ok (.putfield 46, 3) := by decide +kernel
theorem dX4_tie_69 : decode cX4_tie 69 = .ok (.aload_n 0, 1) := by decide +kernel
theorem dX4_tie_70 : decode cX4_tie 70 = .ok (.aload_n 1, 1) := by decide +kernel
theorem dX4_tie_71 : decode cX4_tie 71 = .ok (.getfield 49, 3) := by decide +kernel
theorem dX4_tie_74 : decode cX4_tie 74 = .ok (.putfield 52, 3) := by decide +kernel
theorem dX4_tie_77 : decode cX4_tie 77 = .ok (.aload_n 0, 1) := by decide +kernel
theorem dX4_tie_78 : decode cX4_tie 78 = .ok (.aload_n 1, 1) := by decide +kernel
theorem dX4_tie_79 : decode cX4_tie 79 = .ok (.getfield 53, 3) := by decide +kernel
theorem dX4_tie_82 : decode cX4_tie 82 = .ok (.putfield 56, 3) := by decide +kernel
theorem dX4_tie_85 : decode cX4_tie 85 = .ok (.aload_n 0, 1) := by decide +kernel
theorem dX4_tie_86 : decode cX4_tie 86 = .ok (.aload_n 1, 1) := by decide +kernel
theorem dX4_tie_87 : decode cX4_tie 87 = .ok (.getfield 57, 3) := by decide +kernel
theorem dX4_tie_90 : decode cX4_tie 90 = .ok (.putfield 60, 3) := by decide +kernel
theorem dX4_tie_93 : decode cX4_tie 93 = .ok (.aload_n 0, 1) := by decide +kernel
theorem dX4_tie_94 : decode cX4_tie 94 = .ok (.iconst 0, 1) := by decide +kernel
theorem dX4_tie_95 : decode cX4_tie 95 = .ok (.putfield 61, 3) := by decide +kernel
theorem dX4_tie_98 : decode cX4_tie 98 = .ok (.aload_n 0, 1) := by decide +kernel
theorem dX4_tie_99 : decode cX4_tie 99 = .ok (.iconst 0, 1) := by decide +kernel
theorem dX4_tie_100 : decode cX4_tie 100 = .ok (.putfield 64, 3) := by decide +kernel
theorem dX4_tie_103 : decode cX4_tie 103 = .ok (.aload_n 0, 1) := by decide +kernel
theorem dX4_tie_104 : decode cX4_tie 104 = .ok (.iconst 0, 1) := by decide +kernel
theorem dX4_tie_105 : decode cX4_tie 105 = .ok (.putfield 67, 3) := by decide +kernel
theorem dX4_tie_108 : decode cX4_tie 108 = .ok (.aload_n 0, 1) := by decide +kernel
theorem dX4_tie_109 : decode cX4_tie 109 = .ok (.iconst 0, 1) := by decide +kernel
theorem dX4_tie_110 : decode cX4_tie 110 = .ok (.putfield 70, 3) := by decide +kernel
theorem dX4_tie_113 : decode cX4_tie 113 = .ok (.aload_n 0, 1) := by decide +kernel
theorem dX4_tie_114 : decode cX4_tie 114 = .ok (.iconst 0, 1) := by decide +kernel
theorem dX4_tie_115 : decode cX4_tie 115 = .ok (.putfield 73, 3) := by decide +kernel
theorem dX4_tie_118 : decode cX4_tie 118 = .ok (.aload_n 0, 1) := by decide +kernel
theorem dX4_tie_119 : decode cX4_tie 119 = .ok (.iconst 0, 1) := by decide +kernel
theorem dX4_tie_120 : decode cX4_tie 120 = .ok (.putfield 76, 3) := by decide +kernel
theorem dX4_tie_123 : decode cX4_tie 123 = .ok (.return_, 1) := by decide +kernel
theorem dX4_beatBoth_0 : decode cX4_beatBoth 0 = .ok (.aload_n 0, 1) := by decide +kernel
theorem dX4_beatBoth_1 : decode cX4_beatBoth 1 = .ok (.iload_n 1, 1) := by decide +kernel
theorem dX4_beatBoth_2 : decode cX4_beatBoth 2 = .ok (.putfield 19, 3) := by decide +kernel
theorem dX4_beatBoth_5 : decode cX4_beatBoth 5 = .ok (.aload_n 0, 1) := by decide +kernel
theorem dX4_beatBoth_6 : decode cX4_beatBoth 6 = .ok (.iload_n 1, 1) := by decide +kernel
theorem dX4_beatBoth_7 : decode cX4_beatBoth 7 = .ok (.putfield 25, 3) := by decide +kernel
theorem dX4_beatBoth_10 : decode cX4_beatBoth 10 = .ok (.return_, 1) := by decide +kernel
theorem dX4_give_0 : decode cX4_give 0 = .ok (.aload_n 0, 1) := by decide +kernel
theorem dX4_give_1 : decode cX4_give 1 = .ok (.iload_n 1, 1) := by decide +kernel
theorem dX4_give_2 : decode cX4_give 2 = .ok (.putfield 31, 3) := by decide +kernel
theorem dX4_give_5 : decode cX4_give 5 = .ok (.aload_n 0, 1) := by decide +kernel
theorem dX4_give_6 : decode cX4_give 6 = .ok (.iload_n 2, 1) := by decide +kernel
theorem dX4_give_7 : decode cX4_give 7 = .ok (.putfield 34, 3) := by decide +kernel
theorem dX4_give_10 : decode cX4_give 10 = .ok (.return_, 1) := by decide +kernel
theorem dX4_speedUp_0 : decode cX4_speedUp 0 = .ok (.aload_n 0, 1) := by decide +kernel
theorem dX4_speedUp_1 : decode cX4_speedUp 1 = .ok (.iconst 4, 1) := by decide +kernel
theorem dX4_speedUp_2 : decode cX4_speedUp 2 = .ok (.aload_n 0, 1) := by decide +kernel
theorem dX4_speedUp_3 : decode cX4_speedUp 3 = .ok (.getfield 19, 3) := by decide +kernel
theorem dX4_speedUp_6 : decode cX4_speedUp 6 = .ok (.iconst 1, 1) := by decide +kernel
theorem dX4_speedUp_7 : decode cX4_speedUp 7 = .ok (.isub, 1) := by decide +kernel
theorem dX4_speedUp_8 : decode cX4_speedUp 8 = .ok (.invokestatic 79, 3) := by decide +kernel
theorem dX4_speedUp_11 : decode cX4_speedUp 11 = .ok (.putfield 19, 3) := by decide +kernel
theorem dX4_speedUp_14 : decode cX4_speedUp 14 = .ok (.aload_n 0, 1) := by decide +kernel
theorem dX4_speedUp_15 : decode cX4_speedUp 15 = .ok (.iconst 4, 1) := by decide +kernel
theorem dX4_speedUp_16 : decode cX4_speedUp 16 = .ok (.aload_n 0, 1) := by decide +kernel
theorem dX4_speedUp_17 : decode cX4_speedUp 17 = .ok (.getfield 25, 3) := by decide +kernel
theorem dX4_speedUp_20 : decode cX4_speedUp 20 = .ok (.iconst 1, 1) := by decide +kernel
theorem dX4_speedUp_21 : decode cX4_speedUp 21 = .ok (.isub, 1) := by decide +kernel
theorem dX4_speedUp_22 : decode cX4_speedUp 22 = .ok (.invokestatic 79, 3) := by decide +kernel
theorem dX4_speedUp_25 : decode cX4_speedUp 25 = .ok (.putfield 25, 3) := by decide +kernel
theorem dX4_speedUp_28 : decode cX4_speedUp 28 = .ok (.return_, 1) := by decide +kernel
theorem dX4_time_0 : decode cX4_time 0 = .ok (.aload_n 0, 1) := by decide +kernel
theorem dX4_time_1 : decode cX4_time 1 = .ok (.getfield 61, 3) := by decide +kernel
theorem dX4_time_4 : decode cX4_time 4 = .ok (.aload_n 0, 1) := by decide +kernel
theorem dX4_time_5 : decode cX4_time 5 = .ok (.getfield 64, 3) := by decide +kernel
theorem dX4_time_8 : decode cX4_time 8 = .ok (.invokestatic 79, 3) := by decide +kernel
theorem dX4_time_11 : decode cX4_time 11 = .ok (.ireturn, 1) := by decide +kernel
theorem dX4_apart_0 : decode cX4_apart 0 = .ok (.aload_n 0, 1) := by decide +kernel
theorem dX4_apart_1 : decode cX4_apart 1 = .ok (.getfield 61, 3) := by decide +kernel
theorem dX4_apart_4 : decode cX4_apart 4 = .ok (.aload_n 0, 1) := by decide +kernel
theorem dX4_apart_5 : decode cX4_apart 5 = .ok (.getfield 64, 3) := by decide +kernel
theorem dX4_apart_8 : decode cX4_apart 8 = .ok (.isub, 1) := by decide +kernel
theorem dX4_apart_9 : decode cX4_apart 9 = .ok (.invokestatic 82, 3) := by decide +kernel
theorem dX4_apart_12 : decode cX4_apart 12 = .ok (.ireturn, 1) := by decide +kernel
theorem dX4_step_0 : decode cX4_step 0 = .ok (.aload_n 0, 1) := by decide +kernel
theorem dX4_step_1 : decode cX4_step 1 = .ok (.getfield 61, 3) := by decide +kernel
theorem dX4_step_4 : decode cX4_step 4 = .ok (.iconst 1, 1) := by decide +kernel
theorem dX4_step_5 : decode cX4_step 5 = .ok (.aload_n 0, 1) := by decide +kernel
theorem dX4_step_6 : decode cX4_step 6 = .ok (.getfield 19, 3) := by decide +kernel
theorem dX4_step_9 : decode cX4_step 9 = .ok (.aload_n 0, 1) := by decide +kernel
theorem dX4_step_10 : decode cX4_step 10 = .ok (.getfield 31, 3) := by decide +kernel
theorem dX4_step_13 : decode cX4_step 13 = .ok (.aload_n 0, 1) := by decide +kernel
theorem dX4_step_14 : decode cX4_step 14 = .ok (.getfield 64, 3) := by decide +kernel
theorem dX4_step_17 : decode cX4_step 17 = .ok (.aload_n 0, 1) := by decide +kernel
theorem dX4_step_18 : decode cX4_step 18 = .ok (.getfield 61, 3) := by decide +kernel
theorem dX4_step_21 : decode cX4_step 21 = .ok (.isub, 1) := by decide +kernel
theorem dX4_step_22 : decode cX4_step 22 = .ok (.imul, 1) := by decide +kernel
theorem dX4_step_23 : decode cX4_step 23 = .ok (.iconst 4, 1) := by decide +kernel
theorem dX4_step_24 : decode cX4_step 24 = .ok (.idiv, 1) := by decide +kernel
theorem dX4_step_25 : decode cX4_step 25 = .ok (.iadd, 1) := by decide +kernel
theorem dX4_step_26 : decode cX4_step 26 = .ok (.invokestatic 79, 3) := by decide +kernel
theorem dX4_step_29 : decode cX4_step 29 = .ok (.iadd, 1) := by decide +kernel
theorem dX4_step_30 : decode cX4_step 30 = .ok (.istore_n 1, 1) := by decide +kernel
theorem dX4_step_31 : decode cX4_step 31 = .ok (.aload_n 0, 1) := by decide +kernel
theorem dX4_step_32 : decode cX4_step 32 = .ok (.getfield 64, 3) := by decide +kernel
theorem dX4_step_35 : decode cX4_step 35 = .ok (.iconst 1, 1) := by decide +kernel
theorem dX4_step_36 : decode cX4_step 36 = .ok (.aload_n 0, 1) := by decide +kernel
theorem dX4_step_37 : decode cX4_step 37 = .ok (.getfield 25, 3) := by decide +kernel
theorem dX4_step_40 : decode cX4_step 40 = .ok (.aload_n 0, 1) := by decide +kernel
theorem dX4_step_41 : decode cX4_step 41 = .ok (.getfield 34, 3) := by decide +kernel
theorem dX4_step_44 : decode cX4_step 44 = .ok (.aload_n 0, 1) := by decide +kernel
theorem dX4_step_45 : decode cX4_step 45 = .ok (.getfield 61, 3) := by decide +kernel
theorem dX4_step_48 : decode cX4_step 48 = .ok (.aload_n 0, 1) := by decide +kernel
theorem dX4_step_49 : decode cX4_step 49 = .ok (.getfield 64, 3) := by decide +kernel
theorem dX4_step_52 : decode cX4_step 52 = .ok (.isub, 1) := by decide +kernel
theorem dX4_step_53 : decode cX4_step 53 = .ok (.imul, 1) := by decide +kernel
theorem dX4_step_54 : decode cX4_step 54 = .ok (.iconst 4, 1) := by decide +kernel
theorem dX4_step_55 : decode cX4_step 55 = .ok (.idiv, 1) := by decide +kernel
theorem dX4_step_56 : decode cX4_step 56 = .ok (.iadd, 1) := by decide +kernel
theorem dX4_step_57 : decode cX4_step 57 = .ok (.invokestatic 79, 3) := by decide +kernel
theorem dX4_step_60 : decode cX4_step 60 = .ok (.iadd, 1) := by decide +kernel
theorem dX4_step_61 : decode cX4_step 61 = .ok (.istore_n 2, 1) := by decide +kernel
theorem dX4_step_62 : decode cX4_step 62 = .ok (.aload_n 0, 1) := by decide +kernel
theorem dX4_step_63 : decode cX4_step 63 = .ok (.iload_n 1, 1) := by decide +kernel
theorem dX4_step_64 : decode cX4_step 64 = .ok (.putfield 61, 3) := by decide +kernel
theorem dX4_step_67 : decode cX4_step 67 = .ok (.aload_n 0, 1) := by decide +kernel
theorem dX4_step_68 : decode cX4_step 68 = .ok (.iload_n 2, 1) := by decide +kernel
theorem dX4_step_69 : decode cX4_step 69 = .ok (.putfield 64, 3) := by decide +kernel
theorem dX4_step_72 : decode cX4_step 72 = .ok (.aload_n 0, 1) := by decide +kernel
theorem dX4_step_73 : decode cX4_step 73 = .ok (.iload_n 1, 1) := by decide +kernel
theorem dX4_step_74 : decode cX4_step 74 = .ok (.iload_n 2, 1) := by decide +kernel
theorem dX4_step_75 : decode cX4_step 75 = .ok (.if_icmp .ge 7, 3) := by decide +kernel
theorem dX4_step_78 : decode cX4_step 78 = .ok (.iconst 1, 1) := by decide +kernel
theorem dX4_step_79 : decode cX4_step 79 = .ok (.goto 4, 3) := by decide +kernel
theorem dX4_step_82 : decode cX4_step 82 = .ok (.iconst 0, 1) := by decide +kernel
theorem dX4_step_83 : decode cX4_step 83 = .ok (.putfield 86, 3) := by decide +kernel
theorem dX4_step_86 : decode cX4_step 86 = .ok (.aload_n 0, 1) := by decide +kernel
theorem dX4_step_87 : decode cX4_step 87 = .ok (.dup, 1) := by decide +kernel
theorem dX4_step_88 : decode cX4_step 88 = .ok (.getfield 67, 3) := by decide +kernel
theorem dX4_step_91 : decode cX4_step 91 = .ok (.iconst 1, 1) := by decide +kernel
theorem dX4_step_92 : decode cX4_step 92 = .ok (.iadd, 1) := by decide +kernel
theorem dX4_step_93 : decode cX4_step 93 = .ok (.putfield 67, 3) := by decide +kernel
theorem dX4_step_96 : decode cX4_step 96 = .ok (.aload_n 0, 1) := by decide +kernel
theorem dX4_step_97 : decode cX4_step 97 = .ok (.invokevirtual 90, 3) := by decide +kernel
theorem dX4_step_100 : decode cX4_step 100 = .ok (.aload_n 0, 1) := by decide +kernel
theorem dX4_step_101 : decode cX4_step 101 = .ok (.getfield 56, 3) := by decide +kernel
theorem dX4_step_104 : decode cX4_step 104 = .ok (.if_icmp .le 44, 3) := by decide +kernel
theorem dX4_step_107 : decode cX4_step 107 = .ok (.aload_n 0, 1) := by decide +kernel
theorem dX4_step_108 : decode cX4_step 108 = .ok (.dup, 1) := by decide +kernel
theorem dX4_step_109 : decode cX4_step 109 = .ok (.getfield 76, 3) := by decide +kernel
theorem dX4_step_112 : decode cX4_step 112 = .ok (.iconst 1, 1) := by decide +kernel
theorem dX4_step_113 : decode cX4_step 113 = .ok (.iadd, 1) := by decide +kernel
theorem dX4_step_114 : decode cX4_step 114 = .ok (.putfield 76, 3) := by decide +kernel
theorem dX4_step_117 : decode cX4_step 117 = .ok (.aload_n 0, 1) := by decide +kernel
theorem dX4_step_118 : decode cX4_step 118 = .ok (.bipush 102, 2) := by decide +kernel
theorem dX4_step_120 : decode cX4_step 120 = .ok (.putfield 94, 3) := by decide +kernel
theorem dX4_step_123 : decode cX4_step 123 = .ok (.aload_n 0, 1) := by decide +kernel
theorem dX4_step_124 : decode cX4_step 124 = .ok (.iload_n 1, 1) := by decide +kernel
theorem dX4_step_125 : decode cX4_step 125 = .ok (.iload_n 2, 1) := by decide +kernel
theorem dX4_step_126 : decode cX4_step 126 = .ok (.invokestatic 79, 3) := by decide +kernel
theorem dX4_step_129 : decode cX4_step 129 = .ok (.aload_n 0, 1) := by decide +kernel
theorem dX4_step_130 : decode cX4_step 130 = .ok (.getfield 60, 3) := by decide +kernel
theorem dX4_step_133 : decode cX4_step 133 = .ok (.iadd, 1) := by decide +kernel
theorem dX4_step_134 : decode cX4_step 134 = .ok (.putfield 61, 3) := by decide +kernel
theorem dX4_step_137 : decode cX4_step 137 = .ok (.aload_n 0, 1) := by decide +kernel
theorem dX4_step_138 : decode cX4_step 138 = .ok (.aload_n 0, 1) := by decide +kernel
theorem dX4_step_139 : decode cX4_step 139 = .ok (.getfield 61, 3) := by decide +kernel
theorem dX4_step_142 : decode cX4_step 142 = .ok (.putfield 64, 3) := by decide +kernel
theorem dX4_step_145 : decode cX4_step 145 = .ok (.goto 52, 3) := by decide +kernel
theorem dX4_step_148 : decode cX4_step 148 = .ok (.aload_n 0, 1) := by decide +kernel
theorem dX4_step_149 : decode cX4_step 149 = .ok (.invokevirtual 90, 3) := by decide +kernel
theorem dX4_step_152 : decode cX4_step 152 = .ok (.aload_n 0, 1) := by decide +kernel
theorem dX4_step_153 : decode cX4_step 153 = .ok (.getfield 52, 3) := by decide +kernel
theorem dX4_step_156 : decode cX4_step 156 = .ok (.if_icmp .le 22, 3) := by decide +kernel
theorem dX4_step_159 : decode cX4_step 159 = .ok (.aload_n 0, 1) := by decide +kernel
theorem dX4_step_160 : decode cX4_step 160 = .ok (.dup, 1) := by decide +kernel
theorem dX4_step_161 : decode cX4_step 161 = .ok (.getfield 73, 3) := by decide +kernel
theorem dX4_step_164 : decode cX4_step 164 = .ok (.iconst 1, 1) := by decide +kernel
theorem dX4_step_165 : decode cX4_step 165 = .ok (.iadd, 1) := by decide +kernel
theorem dX4_step_166 : decode cX4_step 166 = .ok (.putfield 73, 3) := by decide +kernel
theorem dX4_step_169 : decode cX4_step 169 = .ok (.aload_n 0, 1) := by decide +kernel
theorem dX4_step_170 : decode cX4_step 170 = .ok (.bipush 108, 2) := by decide +kernel
theorem dX4_step_172 : decode cX4_step 172 = .ok (.putfield 94, 3) := by decide +kernel
theorem dX4_step_175 : decode cX4_step 175 = .ok (.goto 22, 3) := by decide +kernel
theorem dX4_step_178 : decode cX4_step 178 = .ok (.aload_n 0, 1) := by decide +kernel
theorem dX4_step_179 : decode cX4_step 179 = .ok (.dup, 1) := by decide +kernel
theorem dX4_step_180 : decode cX4_step 180 = .ok (.getfield 70, 3) := by decide +kernel
theorem dX4_step_183 : decode cX4_step 183 = .ok (.aload_n 0, 1) := by decide +kernel
theorem dX4_step_184 : decode cX4_step 184 = .ok (.getfield 46, 3) := by decide +kernel
theorem dX4_step_187 : decode cX4_step 187 = .ok (.iadd, 1) := by decide +kernel
theorem dX4_step_188 : decode cX4_step 188 = .ok (.putfield 70, 3) := by decide +kernel
theorem dX4_step_191 : decode cX4_step 191 = .ok (.aload_n 0, 1) := by decide +kernel
theorem dX4_step_192 : decode cX4_step 192 = .ok (.bipush 115, 2) := by decide +kernel
theorem dX4_step_194 : decode cX4_step 194 = .ok (.putfield 94, 3) := by decide +kernel
theorem dX4_step_197 : decode cX4_step 197 = .ok (.return_, 1) := by decide +kernel
theorem dX4_timeTo_0 : decode cX4_timeTo 0 = .ok (.iconst 0, 1) := by decide +kernel
theorem dX4_timeTo_1 : decode cX4_timeTo 1 = .ok (.istore_n 3, 1) := by decide +kernel
theorem dX4_timeTo_2 : decode cX4_timeTo 2 = .ok (.iload_n 3, 1) := by decide +kernel
theorem dX4_timeTo_3 : decode cX4_timeTo 3 = .ok (.sipush 999, 3) := by decide +kernel
theorem dX4_timeTo_6 : decode cX4_timeTo 6 = .ok (.if_icmp .ge 35, 3) := by decide +kernel
theorem dX4_timeTo_9 : decode cX4_timeTo 9 = .ok (.iload_n 3, 1) := by decide +kernel
theorem dX4_timeTo_10 : decode cX4_timeTo 10 = .ok (.iload_n 2, 1) := by decide +kernel
theorem dX4_timeTo_11 : decode cX4_timeTo 11 = .ok (.if_icmp .ne 7, 3) := by decide +kernel
theorem dX4_timeTo_14 : decode cX4_timeTo 14 = .ok (.aload_n 0, 1) := by decide +kernel
theorem dX4_timeTo_15 : decode cX4_timeTo 15 = .ok (.invokevirtual 98, 3) := by decide +kernel
theorem dX4_timeTo_18 : decode cX4_timeTo 18 = .ok (.aload_n 0, 1) := by decide +kernel
theorem dX4_timeTo_19 : decode cX4_timeTo 19 = .ok (.invokevirtual 101, 3) := by decide +kernel
theorem dX4_timeTo_22 : decode cX4_timeTo 22 = .ok (.aload_n 0, 1) := by decide +kernel
theorem dX4_timeTo_23 : decode cX4_timeTo 23 = .ok (.getfield 70, 3) := by decide +kernel
theorem dX4_timeTo_26 : decode cX4_timeTo 26 = .ok (.iload_n 1, 1) := by decide +kernel
theorem dX4_timeTo_27 : decode cX4_timeTo 27 = .ok (.if_icmp .lt 8, 3) := by decide +kernel
theorem dX4_timeTo_30 : decode cX4_timeTo 30 = .ok (.aload_n 0, 1) := by decide +kernel
theorem dX4_timeTo_31 : decode cX4_timeTo 31 = .ok (.invokevirtual 104, 3) := by decide +kernel
theorem dX4_timeTo_34 : decode cX4_timeTo 34 = .ok (.ireturn, 1) := by decide +kernel
theorem dX4_timeTo_35 : decode cX4_timeTo 35 = .ok (.iinc 3 1, 3) := by decide +kernel
theorem dX4_timeTo_38 : decode cX4_timeTo 38 = .ok (.goto (-36), 3) := by decide +kernel
theorem dX4_timeTo_41 : decode cX4_timeTo 41 = .ok (.bipush (-6), 2) := by decide +kernel
theorem dX4_timeTo_43 : decode cX4_timeTo 43 = .ok (.ireturn, 1) := by decide +kernel
theorem dX4_standsFor_0 : decode cX4_standsFor 0 = .ok (.iconst 0, 1) := by decide +kernel
theorem dX4_standsFor_1 : decode cX4_standsFor 1 = .ok (.istore_n 2, 1) := by decide +kernel
theorem dX4_standsFor_2 : decode cX4_standsFor 2 = .ok (.iload_n 2, 1) := by decide +kernel
theorem dX4_standsFor_3 : decode cX4_standsFor 3 = .ok (.iload_n 1, 1) := by decide +kernel
theorem dX4_standsFor_4 : decode cX4_standsFor 4 = .ok (.if_icmp .ge 22, 3) := by decide +kernel
theorem dX4_standsFor_7 : decode cX4_standsFor 7 = .ok (.aload_n 0, 1) := by decide +kernel
theorem dX4_standsFor_8 : decode cX4_standsFor 8 = .ok (.invokevirtual 101, 3) := by decide +kernel
theorem dX4_standsFor_11 : decode cX4_standsFor 11 = .ok (.aload_n 0, 1) := by decide +kernel
theorem dX4_standsFor_12 : decode cX4_standsFor 12 = .ok (.getfield 76, 3) := by decide +kernel
theorem dX4_standsFor_15 : decode cX4_standsFor 15 = .ok (.ifCond .le 5, 3) := by decide +kernel
theorem dX4_standsFor_18 : decode cX4_standsFor 18 = .ok (.iconst 0, 1) := by decide +kernel
theorem dX4_standsFor_19 : decode cX4_standsFor 19 = .ok (.ireturn, 1) := by decide +kernel
theorem dX4_standsFor_20 : decode cX4_standsFor 20 = .ok (.iinc 2 1, 3) := by decide +kernel
theorem dX4_standsFor_23 : decode cX4_standsFor 23 = .ok (.goto (-21), 3) := by decide +kernel
theorem dX4_standsFor_26 : decode cX4_standsFor 26 = .ok (.iconst 1, 1) := by decide +kernel
theorem dX4_standsFor_27 : decode cX4_standsFor 27 = .ok (.ireturn, 1) := by decide +kernel
theorem dX4_feetWithin_0 : decode cX4_feetWithin 0 = .ok (.iconst 0, 1) := by decide +kernel
theorem dX4_feetWithin_1 : decode cX4_feetWithin 1 = .ok (.istore_n 2, 1) := by decide +kernel
theorem dX4_feetWithin_2 : decode cX4_feetWithin 2 = .ok (.iload_n 2, 1) := by decide +kernel
theorem dX4_feetWithin_3 : decode cX4_feetWithin 3 = .ok (.sipush 999, 3) := by decide +kernel
theorem dX4_feetWithin_6 : decode cX4_feetWithin 6 = .ok (.if_icmp .ge 28, 3) := by decide +kernel
theorem dX4_feetWithin_9 : decode cX4_feetWithin 9 = .ok (.aload_n 0, 1) := by decide +kernel
theorem dX4_feetWithin_10 : decode cX4_feetWithin 10 = .ok (.getfield 70, 3) := by decide +kernel
theorem dX4_feetWithin_13 : decode cX4_feetWithin 13 = .ok (.istore_n 3, 1) := by decide +kernel
theorem dX4_feetWithin_14 : decode cX4_feetWithin 14 = .ok (.aload_n 0, 1) := by decide +kernel
theorem dX4_feetWithin_15 : decode cX4_feetWithin 15 = .ok (.invokevirtual 101, 3) := by decide +kernel
theorem dX4_feetWithin_18 : decode cX4_feetWithin 18 = .ok (.aload_n 0, 1) := by decide +kernel
theorem dX4_feetWithin_19 : decode cX4_feetWithin 19 = .ok (.invokevirtual 104, 3) := by decide +kernel
theorem dX4_feetWithin_22 : decode cX4_feetWithin 22 = .ok (.iload_n 1, 1) := by decide +kernel
theorem dX4_feetWithin_23 : decode cX4_feetWithin 23 = .ok (.if_icmp .le 5, 3) := by decide +kernel
theorem dX4_feetWithin_26 : decode cX4_feetWithin 26 = .ok (.iload_n 3, 1) := by decide +kernel
theorem dX4_feetWithin_27 : decode cX4_feetWithin 27 = .ok (.ireturn, 1) := by decide +kernel
theorem dX4_feetWithin_28 : decode cX4_feetWithin 28 = .ok (.iinc 2 1, 3) := by decide +kernel
theorem dX4_feetWithin_31 : decode cX4_feetWithin 31 = .ok (.goto (-29), 3) := by decide +kernel
theorem dX4_feetWithin_34 : decode cX4_feetWithin 34 = .ok (.aload_n 0, 1) := by decide +kernel
theorem dX4_feetWithin_35 : decode cX4_feetWithin 35 = .ok (.getfield 70, 3) := by decide +kernel
theorem dX4_feetWithin_38 : decode cX4_feetWithin 38 = .ok (.ireturn, 1) := by decide +kernel
theorem dX5_init_0 : decode cX5_init 0 = .ok (.aload_n 0, 1) := by decide +kernel
theorem dX5_init_1 : decode cX5_init 1 = .ok (.invokespecial 1, 3) := by decide +kernel
theorem dX5_init_4 : decode cX5_init 4 = .ok (.aload_n 0, 1) := by decide +kernel
theorem dX5_init_5 : decode cX5_init 5 = .ok (.new 7, 3) := by decide +kernel
theorem dX5_init_8 : decode cX5_init 8 = .ok (.dup, 1) := by decide +kernel
theorem dX5_init_9 : decode cX5_init 9 = .ok (.invokespecial 9, 3) := by decide +kernel
theorem dX5_init_12 : decode cX5_init 12 = .ok (.putfield 10, 3) := by decide +kernel
theorem dX5_init_15 : decode cX5_init 15 = .ok (.aload_n 0, 1) := by decide +kernel
theorem dX5_init_16 : decode cX5_init 16 = .ok (.iconst 2, 1) := by decide +kernel
theorem dX5_init_17 : decode cX5_init 17 = .ok (.anewarray 7, 3) := by decide +kernel
theorem dX5_init_20 : decode cX5_init 20 = .ok (.dup, 1) := by decide +kernel
theorem dX5_init_21 : decode cX5_init 21 = .ok (.iconst 0, 1) := by decide +kernel
theorem dX5_init_22 : decode cX5_init 22 = .ok (.new 7, 3) := by decide +kernel
theorem dX5_init_25 : decode cX5_init 25 = .ok (.dup, 1) := by decide +kernel
theorem dX5_init_26 : decode cX5_init 26 = .ok (.invokespecial 9, 3) := by decide +kernel
theorem dX5_init_29 : decode cX5_init 29 = .ok (.aastore, 1) := by decide +kernel
theorem dX5_init_30 : decode cX5_init 30 = .ok (.dup, 1) := by decide +kernel
theorem dX5_init_31 : decode cX5_init 31 = .ok (.iconst 1, 1) := by decide +kernel
theorem dX5_init_32 : decode cX5_init 32 = .ok (.new 7, 3) := by decide +kernel
theorem dX5_init_35 : decode cX5_init 35 = .ok (.dup, 1) := by decide +kernel
theorem dX5_init_36 : decode cX5_init 36 = .ok (.invokespecial 9, 3) := by decide +kernel
theorem dX5_init_39 : decode cX5_init 39 = .ok (.aastore, 1) := by decide +kernel
theorem dX5_init_40 : decode cX5_init 40 = .ok (.putfield 16, 3) := by decide +kernel
theorem dX5_init_43 : decode cX5_init 43 = .ok (.aload_n 0, 1) := by decide +kernel
theorem dX5_init_44 : decode cX5_init 44 = .ok (.iconst 2, 1) := by decide +kernel
theorem dX5_init_45 : decode cX5_init 45 = .ok (.newarray .boolean, 2) := by decide +kernel
theorem dX5_init_47 : decode cX5_init 47 = .ok (.putfield 20, 3) := by decide +kernel
theorem dX5_init_50 : decode cX5_init 50 = .ok (.aload_n 0, 1) := by decide +kernel
theorem dX5_init_51 : decode cX5_init 51 = .ok (.new 24, 3) := by decide +kernel
theorem dX5_init_54 : decode cX5_init 54 = .ok (.dup, 1) := by decide +kernel
theorem dX5_init_55 : decode cX5_init 55 = .ok (.invokespecial 26, 3) := by decide +kernel
theorem dX5_init_58 : decode cX5_init 58 = .ok (.putfield 27, 3) := by decide +kernel
theorem dX5_init_61 : decode cX5_init 61 = .ok (.aload_n 0, 1) := by decide +kernel
theorem dX5_init_62 : decode cX5_init 62 = .ok (.new 31, 3) := by decide +kernel
theorem dX5_init_65 : decode cX5_init 65 = .ok (.dup, 1) := by decide +kernel
theorem dX5_init_66 : decode cX5_init 66 = .ok (.invokespecial 33, 3) := by decide +kernel
theorem dX5_init_69 : decode cX5_init 69 = .ok (.putfield 34, 3) := by decide +kernel
theorem dX5_init_72 : decode cX5_init 72 = .ok (.aload_n 0, 1) := by decide +kernel
theorem dX5_init_73 : decode cX5_init 73 = .ok (.new 38, 3) := by decide +kernel
theorem dX5_init_76 : decode cX5_init 76 = .ok (.dup, 1) := by decide +kernel
theorem dX5_init_77 : decode cX5_init 77 = .ok (.invokespecial 40, 3) := by decide +kernel
theorem dX5_init_80 : decode cX5_init 80 = .ok (.putfield 41, 3) := by decide +kernel
theorem dX5_init_83 : decode cX5_init 83 = .ok (.aload_n 0, 1) := by decide +kernel
theorem dX5_init_84 : decode cX5_init 84 = .ok (.new 45, 3) := by decide +kernel
theorem dX5_init_87 : decode cX5_init 87 = .ok (.dup, 1) := by decide +kernel
theorem dX5_init_88 : decode cX5_init 88 = .ok (.invokespecial 47, 3) := by decide +kernel
theorem dX5_init_91 : decode cX5_init 91 = .ok (.putfield 48, 3) := by decide +kernel
theorem dX5_init_94 : decode cX5_init 94 = .ok (.aload_n 0, 1) := by decide +kernel
theorem dX5_init_95 : decode cX5_init 95 = .ok (.bipush 64, 2) := by decide +kernel
theorem dX5_init_97 : decode cX5_init 97 = .ok (.newarray .int, 2) := by decide +kernel
theorem dX5_init_99 : decode cX5_init 99 = .ok (.putfield 52, 3) := by decide +kernel
theorem dX5_init_102 : decode cX5_init 102 = .ok (.return_, 1) := by decide +kernel
theorem dX5_run_0 : decode cX5_run 0 = .ok (.iload_n 1, 1) := by decide +kernel
theorem dX5_run_1 : decode cX5_run 1 = .ok (.iconst 0, 1) := by decide +kernel
theorem dX5_run_2 : decode cX5_run 2 = .ok (.bipush 7, 2) := by decide +kernel
theorem dX5_run_4 : decode cX5_run 4 = .ok (.invokestatic 56, 3) := by decide +kernel
theorem dX5_run_7 : decode cX5_run 7 = .ok (.ifCond .ne 5, 3) := by decide +kernel
theorem dX5_run_10 : decode cX5_run 10 = .ok (.iconst (-1), 1) := by decide +kernel
theorem dX5_run_11 : decode cX5_run 11 = .ok (.ireturn, 1) := by decide +kernel
theorem dX5_run_12 : decode cX5_run 12 = .ok (.iload_n 2, 1) := by decide +kernel
theorem dX5_run_13 : decode cX5_run 13 = .ok (.iconst 4, 1) := by decide +kernel
theorem dX5_run_14 : decode cX5_run 14 = .ok (.bipush 20, 2) := by decide +kernel
theorem dX5_run_16 : decode cX5_run 16 = .ok (.invokestatic 56, 3) := by decide +kernel
theorem dX5_run_19 : decode cX5_run 19 = .ok (.ifCond .eq 23, 3) := by decide +kernel
theorem dX5_run_22 : decode cX5_run 22 = .ok (.iload_n 3, 1) := by decide +kernel
theorem dX5_run_23 : decode cX5_run 23 = .ok (.iconst 1, 1) := by decide +kernel
theorem dX5_run_24 : decode cX5_run 24 = .ok (.bipush 9, 2) := by decide +kernel
theorem dX5_run_26 : decode cX5_run 26 = .ok (.invokestatic 56, 3) := by decide +kernel
theorem dX5_run_29 : decode cX5_run 29 = .ok (.ifCond .eq 13, 3) := by decide +kernel
theorem dX5_run_32 : decode cX5_run 32 = .ok (.iload 4, 2) := by decide +kernel
theorem dX5_run_34 : decode cX5_run 34 = .ok (.iconst 0, 1) := by decide +kernel
theorem dX5_run_35 : decode cX5_run 35 = .ok (.iconst 4, 1) := by decide +kernel
theorem dX5_run_36 : decode cX5_run 36 = .ok (.invokestatic 56, 3) := by decide +kernel
theorem dX5_run_39 : decode cX5_run 39 = .ok (.ifCond .ne 6, 3) := by decide +kernel
theorem dX5_run_42 : decode cX5_run 42 = .ok (.bipush (-2), 2) := by decide +kernel
theorem dX5_run_44 : decode cX5_run 44 = .ok (.ireturn, 1) := by decide +kernel
theorem dX5_run_45 : decode cX5_run 45 = .ok (.aload_n 0, 1) := by decide +kernel
theorem dX5_run_46 : decode cX5_run 46 = .ok (.getfield 10, 3) := by decide +kernel
theorem dX5_run_49 : decode cX5_run 49 = .ok (.iload_n 1, 1) := by decide +kernel
theorem dX5_run_50 : decode cX5_run 50 = .ok (.iload_n 2, 1) := by decide +kernel
theorem dX5_run_51 : decode cX5_run 51 = .ok (.iload_n 3, 1) := by decide +kernel
theorem dX5_run_52 : decode cX5_run 52 = .ok (.iload 4, 2) := by decide +kernel
theorem dX5_run_54 : decode cX5_run 54 = .ok (.invokevirtual 60, 3) := by decide +kernel
theorem dX5_run_57 : decode cX5_run 57 = .ok (.aload_n 0, 1) := by decide +kernel
theorem dX5_run_58 : decode cX5_run 58 = .ok (.getfield 10, 3) := by decide +kernel
theorem dX5_run_61 : decode cX5_run 61 = .ok (.invokevirtual 64, 3) := by decide +kernel
theorem dX5_run_64 : decode cX5_run 64 = .ok (.ireturn, 1) := by decide +kernel
theorem dX5_rest_0 : decode cX5_rest 0 = .ok (.aload_n 0, 1) := by decide +kernel
theorem dX5_rest_1 : decode cX5_rest 1 = .ok (.getfield 10, 3) := by decide +kernel
theorem dX5_rest_4 : decode cX5_rest 4 = .ok (.iload_n 1, 1) := by decide +kernel
theorem dX5_rest_5 : decode cX5_rest 5 = .ok (.invokevirtual 68, 3) := by decide +kernel
theorem dX5_rest_8 : decode cX5_rest 8 = .ok (.ifCond .ne 5, 3) := by decide +kernel
theorem dX5_rest_11 : decode cX5_rest 11 = .ok (.iconst (-1), 1) := by decide +kernel
theorem dX5_rest_12 : decode cX5_rest 12 = .ok (.ireturn, 1) := by decide +kernel
theorem dX5_rest_13 : decode cX5_rest 13 = .ok (.aload_n 0, 1) := by decide +kernel
theorem dX5_rest_14 : decode cX5_rest 14 = .ok (.getfield 10, 3) := by decide +kernel
theorem dX5_rest_17 : decode cX5_rest 17 = .ok (.iload_n 1, 1) := by decide +kernel
theorem dX5_rest_18 : decode cX5_rest 18 = .ok (.invokevirtual 72, 3) := by decide +kernel
theorem dX5_rest_21 : decode cX5_rest 21 = .ok (.aload_n 0, 1) := by decide +kernel
theorem dX5_rest_22 : decode cX5_rest 22 = .ok (.getfield 10, 3) := by decide +kernel
theorem dX5_rest_25 : decode cX5_rest 25 = .ok (.invokevirtual 64, 3) := by decide +kernel
theorem dX5_rest_28 : decode cX5_rest 28 = .ok (.ireturn, 1) := by decide +kernel
theorem dX5_set_0 : decode cX5_set 0 = .ok (.iload_n 1, 1) := by decide +kernel
theorem dX5_set_1 : decode cX5_set 1 = .ok (.tableswitch 45 0 2 #[27, 33, 39], 27) := by decide +kernel
theorem dX5_set_28 : decode cX5_set 28 = .ok (.aload_n 0, 1) := by decide +kernel
theorem dX5_set_29 : decode cX5_set 29 = .ok (.iload_n 2, 1) := by decide +kernel
theorem dX5_set_30 : decode cX5_set 30 = .ok (.invokevirtual 76, 3) := by decide +kernel
theorem dX5_set_33 : decode cX5_set 33 = .ok (.ireturn, 1) := by decide +kernel
theorem dX5_set_34 : decode cX5_set 34 = .ok (.aload_n 0, 1) := by decide +kernel
theorem dX5_set_35 : decode cX5_set 35 = .ok (.iload_n 2, 1) := by decide +kernel
theorem dX5_set_36 : decode cX5_set 36 = .ok (.invokevirtual 80, 3) := by decide +kernel
theorem dX5_set_39 : decode cX5_set 39 = .ok (.ireturn, 1) := by decide +kernel
theorem dX5_set_40 : decode cX5_set 40 = .ok (.aload_n 0, 1) := by decide +kernel
theorem dX5_set_41 : decode cX5_set 41 = .ok (.iload_n 2, 1) := by decide +kernel
theorem dX5_set_42 : decode cX5_set 42 = .ok (.invokevirtual 83, 3) := by decide +kernel
theorem dX5_set_45 : decode cX5_set 45 = .ok (.ireturn, 1) := by decide +kernel
theorem dX5_set_46 : decode cX5_set 46 = .ok (.bipush (-2), 2) := by decide +kernel
theorem dX5_set_48 : decode cX5_set 48 = .ok (.ireturn, 1) := by decide +kernel
theorem dX5_setLurch_0 : decode cX5_setLurch 0 = .ok (.iload_n 1, 1) := by decide +kernel
theorem dX5_setLurch_1 : decode cX5_setLurch 1 = .ok (.iconst 0, 1) := by decide +kernel
theorem dX5_setLurch_2 : decode cX5_setLurch 2 = .ok (.bipush 9, 2) := by decide +kernel
theorem dX5_setLurch_4 : decode cX5_setLurch 4 = .ok (.invokestatic 56, 3) := by decide +kernel
theorem dX5_setLurch_7 : decode cX5_setLurch 7 = .ok (.ifCond .eq 14, 3) := by decide +kernel
theorem dX5_setLurch_10 : decode cX5_setLurch 10 = .ok (.iload_n 1, 1) := by decide +kernel
theorem dX5_setLurch_11 : decode cX5_setLurch 11 = .ok (.aload_n 0, 1) := by decide +kernel
theorem dX5_setLurch_12 : decode cX5_setLurch 12 = .ok (.getfield 10, 3) := by decide +kernel
theorem dX5_setLurch_15 : decode cX5_setLurch 15 = .ok (.getfield 86, 3) := by decide +kernel
theorem dX5_setLurch_18 : decode cX5_setLurch 18 = .ok (.if_icmp .le 6, 3) := by decide +kernel
theorem dX5_setLurch_21 : decode cX5_setLurch 21 = .ok (.bipush (-2), 2) := by decide +kernel
theorem dX5_setLurch_23 : decode cX5_setLurch 23 = .ok (.ireturn, 1) := by decide +kernel
theorem dX5_setLurch_24 : decode cX5_setLurch 24 = .ok (.aload_n 0, 1) := by decide +kernel
theorem dX5_setLurch_25 : decode cX5_setLurch 25 = .ok (.getfield 10, 3) := by decide +kernel
theorem dX5_setLurch_28 : decode cX5_setLurch 28 = .ok (.getfield 90, 3) := by decide +kernel
theorem dX5_setLurch_31 : decode cX5_setLurch 31 = .ok (.istore_n 2, 1) := by decide +kernel
theorem dX5_setLurch_32 : decode cX5_setLurch 32 = .ok (.aload_n 0, 1) := by decide +kernel
theorem dX5_setLurch_33 : decode cX5_setLurch 33 = .ok (.getfield 10, 3) := by decide +kernel
theorem dX5_setLurch_36 : decode cX5_setLurch 36 = .ok (.iload_n 1, 1) := by decide +kernel
theorem dX5_setLurch_37 : decode cX5_setLurch 37 = .ok (.putfield 90, 3) := by decide +kernel
theorem dX5_setLurch_40 : decode cX5_setLurch 40 = .ok (.iload_n 2, 1) := by decide +kernel
theorem dX5_setLurch_41 : decode cX5_setLurch 41 = .ok (.ireturn, 1) := by decide +kernel
theorem dX5_setFall_0 : decode cX5_setFall 0 = .ok (.iload_n 1, 1) := by decide +kernel
theorem dX5_setFall_1 : decode cX5_setFall 1 = .ok (.aload_n 0, 1) := by decide +kernel
theorem dX5_setFall_2 : decode cX5_setFall 2 = .ok (.getfield 10, 3) := by decide +kernel
theorem dX5_setFall_5 : decode cX5_setFall 5 = .ok (.getfield 90, 3) := by decide +kernel
theorem dX5_setFall_8 : decode cX5_setFall 8 = .ok (.bipush 20, 2) := by decide +kernel
theorem dX5_setFall_10 : decode cX5_setFall 10 = .ok (.invokestatic 56, 3) := by decide +kernel
theorem dX5_setFall_13 : decode cX5_setFall 13 = .ok (.ifCond .ne 6, 3) := by decide +kernel
theorem dX5_setFall_16 : decode cX5_setFall 16 = .ok (.bipush (-2), 2) := by decide +kernel
theorem dX5_setFall_18 : decode cX5_setFall 18 = .ok (.ireturn, 1) := by decide +kernel
theorem dX5_setFall_19 : decode cX5_setFall 19 = .ok (.aload_n 0, 1) := by decide +kernel
theorem dX5_setFall_20 : decode cX5_setFall 20 = .ok (.getfield 10, 3) := by decide +kernel
theorem dX5_setFall_23 : decode cX5_setFall 23 = .ok (.getfield 86, 3) := by decide +kernel
theorem dX5_setFall_26 : decode cX5_setFall 26 = .ok (.istore_n 2, 1) := by decide +kernel
theorem dX5_setFall_27 : decode cX5_setFall 27 = .ok (.aload_n 0, 1) := by decide +kernel
theorem dX5_setFall_28 : decode cX5_setFall 28 = .ok (.getfield 10, 3) := by decide +kernel
theorem dX5_setFall_31 : decode cX5_setFall 31 = .ok (.iload_n 1, 1) := by decide +kernel
theorem dX5_setFall_32 : decode cX5_setFall 32 = .ok (.putfield 86, 3) := by decide +kernel
theorem dX5_setFall_35 : decode cX5_setFall 35 = .ok (.iload_n 2, 1) := by decide +kernel
theorem dX5_setFall_36 : decode cX5_setFall 36 = .ok (.ireturn, 1) := by decide +kernel
theorem dX5_setUp_0 : decode cX5_setUp 0 = .ok (.iload_n 1, 1) := by decide +kernel
theorem dX5_setUp_1 : decode cX5_setUp 1 = .ok (.iconst 0, 1) := by decide +kernel
theorem dX5_setUp_2 : decode cX5_setUp 2 = .ok (.bipush 99, 2) := by decide +kernel
theorem dX5_setUp_4 : decode cX5_setUp 4 = .ok (.invokestatic 56, 3) := by decide +kernel
theorem dX5_setUp_7 : decode cX5_setUp 7 = .ok (.ifCond .ne 6, 3) := by decide +kernel
theorem dX5_setUp_10 : decode cX5_setUp 10 = .ok (.bipush (-2), 2) := by decide +kernel
theorem dX5_setUp_12 : decode cX5_setUp 12 = .ok (.ireturn, 1) := by decide +kernel
theorem dX5_setUp_13 : decode cX5_setUp 13 = .ok (.aload_n 0, 1) := by decide +kernel
theorem dX5_setUp_14 : decode cX5_setUp 14 = .ok (.getfield 10, 3) := by decide +kernel
theorem dX5_setUp_17 : decode cX5_setUp 17 = .ok (.getfield 93, 3) := by decide +kernel
theorem dX5_setUp_20 : decode cX5_setUp 20 = .ok (.istore_n 2, 1) := by decide +kernel
theorem dX5_setUp_21 : decode cX5_setUp 21 = .ok (.aload_n 0, 1) := by decide +kernel
theorem dX5_setUp_22 : decode cX5_setUp 22 = .ok (.getfield 10, 3) := by decide +kernel
theorem dX5_setUp_25 : decode cX5_setUp 25 = .ok (.iload_n 1, 1) := by decide +kernel
theorem dX5_setUp_26 : decode cX5_setUp 26 = .ok (.putfield 93, 3) := by decide +kernel
theorem dX5_setUp_29 : decode cX5_setUp 29 = .ok (.iload_n 2, 1) := by decide +kernel
theorem dX5_setUp_30 : decode cX5_setUp 30 = .ok (.ireturn, 1) := by decide +kernel
theorem dX5_pair_0 : decode cX5_pair 0 = .ok (.aload_n 0, 1) := by decide +kernel
theorem dX5_pair_1 : decode cX5_pair 1 = .ok (.getfield 10, 3) := by decide +kernel
theorem dX5_pair_4 : decode cX5_pair 4 = .ok (.iload_n 1, 1) := by decide +kernel
theorem dX5_pair_5 : decode cX5_pair 5 = .ok (.iload_n 2, 1) := by decide +kernel
theorem dX5_pair_6 : decode cX5_pair 6 = .ok (.invokevirtual 96, 3) := by decide +kernel
theorem dX5_pair_9 : decode cX5_pair 9 = .ok (.ifCond .ne 5, 3) := by decide +kernel
theorem dX5_pair_12 : decode cX5_pair 12 = .ok (.iconst (-1), 1) := by decide +kernel
theorem dX5_pair_13 : decode cX5_pair 13 = .ok (.ireturn, 1) := by decide +kernel
theorem dX5_pair_14 : decode cX5_pair 14 = .ok (.iload_n 3, 1) := by decide +kernel
theorem dX5_pair_15 : decode cX5_pair 15 = .ok (.iconst 0, 1) := by decide +kernel
theorem dX5_pair_16 : decode cX5_pair 16 = .ok (.sipush 999, 3) := by decide +kernel
theorem dX5_pair_19 : decode cX5_pair 19 = .ok (.invokestatic 56, 3) := by decide +kernel
theorem dX5_pair_22 : decode cX5_pair 22 = .ok (.ifCond .eq 13, 3) := by decide +kernel
theorem dX5_pair_25 : decode cX5_pair 25 = .ok (.iload 4, 2) := by decide +kernel
theorem dX5_pair_27 : decode cX5_pair 27 = .ok (.iconst 0, 1) := by decide +kernel
theorem dX5_pair_28 : decode cX5_pair 28 = .ok (.iconst 4, 1) := by decide +kernel
theorem dX5_pair_29 : decode cX5_pair 29 = .ok (.invokestatic 56, 3) := by decide +kernel
theorem dX5_pair_32 : decode cX5_pair 32 = .ok (.ifCond .ne 6, 3) := by decide +kernel
theorem dX5_pair_35 : decode cX5_pair 35 = .ok (.bipush (-2), 2) := by decide +kernel
theorem dX5_pair_37 : decode cX5_pair 37 = .ok (.ireturn, 1) := by decide +kernel
theorem dX5_pair_38 : decode cX5_pair 38 = .ok (.aload_n 0, 1) := by decide +kernel
theorem dX5_pair_39 : decode cX5_pair 39 = .ok (.getfield 34, 3) := by decide +kernel
theorem dX5_pair_42 : decode cX5_pair 42 = .ok (.aload_n 0, 1) := by decide +kernel
theorem dX5_pair_43 : decode cX5_pair 43 = .ok (.getfield 10, 3) := by decide +kernel
theorem dX5_pair_46 : decode cX5_pair 46 = .ok (.iload_n 1, 1) := by decide +kernel
theorem dX5_pair_47 : decode cX5_pair 47 = .ok (.iload_n 2, 1) := by decide +kernel
theorem dX5_pair_48 : decode cX5_pair 48 = .ok (.invokevirtual 100, 3) := by decide +kernel
theorem dX5_pair_51 : decode cX5_pair 51 = .ok (.iconst 0, 1) := by decide +kernel
theorem dX5_pair_52 : decode cX5_pair 52 = .ok (.istore 5, 2) := by decide +kernel
theorem dX5_pair_54 : decode cX5_pair 54 = .ok (.iload 5, 2) := by decide +kernel
theorem dX5_pair_56 : decode cX5_pair 56 = .ok (.iload_n 3, 1) := by decide +kernel
theorem dX5_pair_57 : decode cX5_pair 57 = .ok (.if_icmp .ge 16, 3) := by decide +kernel
theorem dX5_pair_60 : decode cX5_pair 60 = .ok (.aload_n 0, 1) := by decide +kernel
theorem dX5_pair_61 : decode cX5_pair 61 = .ok (.getfield 34, 3) := by decide +kernel
theorem dX5_pair_64 : decode cX5_pair 64 = .ok (.invokevirtual 104, 3) := by decide +kernel
theorem dX5_pair_67 : decode cX5_pair 67 = .ok (.iinc 5 1, 3) := by decide +kernel
theorem dX5_pair_70 : decode cX5_pair 70 = .ok (.goto (-16), 3) := by decide +kernel
theorem dX5_pair_73 : decode cX5_pair 73 = .ok (.iload 4, 2) := by decide +kernel
theorem dX5_pair_75 : decode cX5_pair 75 = .ok (.tableswitch 61 0 3 #[29, 37, 45, 53], 29) := by decide +kernel
theorem dX5_pair_104 : decode cX5_pair 104 = .ok (.aload_n 0, 1) := by decide +kernel
theorem dX5_pair_105 : decode cX5_pair 105 = .ok (.getfield 34, 3) := by decide +kernel
theorem dX5_pair_108 : decode cX5_pair 108 = .ok (.invokevirtual 107, 3) := by decide +kernel
theorem dX5_pair_111 : decode cX5_pair 111 = .ok (.ireturn, 1) := by decide +kernel
theorem dX5_pair_112 : decode cX5_pair 112 = .ok (.aload_n 0, 1) := by decide +kernel
theorem dX5_pair_113 : decode cX5_pair 113 = .ok (.getfield 34, 3) := by decide +kernel
theorem dX5_pair_116 : decode cX5_pair 116 = .ok (.getfield 110, 3) := by decide +kernel
theorem dX5_pair_119 : decode cX5_pair 119 = .ok (.ireturn, 1) := by decide +kernel
theorem dX5_pair_120 : decode cX5_pair 120 = .ok (.aload_n 0, 1) := by decide +kernel
theorem dX5_pair_121 : decode cX5_pair 121 = .ok (.getfield 34, 3) := by decide +kernel
theorem dX5_pair_124 : decode cX5_pair 124 = .ok (.getfield 113, 3) := by decide +kernel
theorem dX5_pair_127 : decode cX5_pair 127 = .ok (.ireturn, 1) := by decide +kernel
theorem dX5_pair_128 : decode cX5_pair 128 = .ok (.aload_n 0, 1) := by decide +kernel
theorem dX5_pair_129 : decode cX5_pair 129 = .ok (.getfield 34, 3) := by decide +kernel
theorem dX5_pair_132 : decode cX5_pair 132 = .ok (.getfield 116, 3) := by decide +kernel
theorem dX5_pair_135 : decode cX5_pair 135 = .ok (.ireturn, 1) := by decide +kernel
theorem dX5_pair_136 : decode cX5_pair 136 = .ok (.aload_n 0, 1) := by decide +kernel
theorem dX5_pair_137 : decode cX5_pair 137 = .ok (.getfield 34, 3) := by decide +kernel
theorem dX5_pair_140 : decode cX5_pair 140 = .ok (.invokevirtual 119, 3) := by decide +kernel
theorem dX5_pair_143 : decode cX5_pair 143 = .ok (.ireturn, 1) := by decide +kernel
theorem dX5_reach_0 : decode cX5_reach 0 = .ok (.aload_n 0, 1) := by decide +kernel
theorem dX5_reach_1 : decode cX5_reach 1 = .ok (.iload_n 1, 1) := by decide +kernel
theorem dX5_reach_2 : decode cX5_reach 2 = .ok (.iload_n 2, 1) := by decide +kernel
theorem dX5_reach_3 : decode cX5_reach 3 = .ok (.iload_n 3, 1) := by decide +kernel
theorem dX5_reach_4 : decode cX5_reach 4 = .ok (.iload 4, 2) := by decide +kernel
theorem dX5_reach_6 : decode cX5_reach 6 = .ok (.invokevirtual 122, 3) := by decide +kernel
theorem dX5_reach_9 : decode cX5_reach 9 = .ok (.istore 5, 2) := by decide +kernel
theorem dX5_reach_11 : decode cX5_reach 11 = .ok (.iload 5, 2) := by decide +kernel
theorem dX5_reach_13 : decode cX5_reach 13 = .ok (.ifCond .eq 6, 3) := by decide +kernel
theorem dX5_reach_16 : decode cX5_reach 16 = .ok (.iload 5, 2) := by decide +kernel
theorem dX5_reach_18 : decode cX5_reach 18 = .ok (.ireturn, 1) := by decide +kernel
theorem dX5_reach_19 : decode cX5_reach 19 = .ok (.aload_n 0, 1) := by decide +kernel
theorem dX5_reach_20 : decode cX5_reach 20 = .ok (.iload_n 1, 1) := by decide +kernel
theorem dX5_reach_21 : decode cX5_reach 21 = .ok (.iload_n 2, 1) := by decide +kernel
theorem dX5_reach_22 : decode cX5_reach 22 = .ok (.iload_n 3, 1) := by decide +kernel
theorem dX5_reach_23 : decode cX5_reach 23 = .ok (.invokevirtual 126, 3) := by decide +kernel
theorem dX5_reach_26 : decode cX5_reach 26 = .ok (.istore 6, 2) := by decide +kernel
theorem dX5_reach_28 : decode cX5_reach 28 = .ok (.iload 6, 2) := by decide +kernel
theorem dX5_reach_30 : decode cX5_reach 30 = .ok (.bipush (-6), 2) := by decide +kernel
theorem dX5_reach_32 : decode cX5_reach 32 = .ok (.if_icmp .ne 6, 3) := by decide +kernel
theorem dX5_reach_35 : decode cX5_reach 35 = .ok (.bipush (-6), 2) := by decide +kernel
theorem dX5_reach_37 : decode cX5_reach 37 = .ok (.ireturn, 1) := by decide +kernel
theorem dX5_reach_38 : decode cX5_reach 38 = .ok (.iload 4, 2) := by decide +kernel
theorem dX5_reach_40 : decode cX5_reach 40 = .ok (.ifCond .ne 15, 3) := by decide +kernel
theorem dX5_reach_43 : decode cX5_reach 43 = .ok (.aload_n 0, 1) := by decide +kernel
theorem dX5_reach_44 : decode cX5_reach 44 = .ok (.getfield 34, 3) := by decide +kernel
theorem dX5_reach_47 : decode cX5_reach 47 = .ok (.getfield 130, 3) := by decide +kernel
theorem dX5_reach_50 : decode cX5_reach 50 = .ok (.iconst 1, 1) := by decide +kernel
theorem dX5_reach_51 : decode cX5_reach 51 = .ok (.isub, 1) := by decide +kernel
theorem dX5_reach_52 : decode cX5_reach 52 = .ok (.goto 5, 3) := by decide +kernel
theorem dX5_reach_55 : decode cX5_reach 55 = .ok (.iload 6, 2) := by decide +kernel
theorem dX5_reach_57 : decode cX5_reach 57 = .ok (.ireturn, 1) := by decide +kernel
theorem dX5_who_0 : decode cX5_who 0 = .ok (.aload_n 0, 1) := by decide +kernel
theorem dX5_who_1 : decode cX5_who 1 = .ok (.getfield 10, 3) := by decide +kernel
theorem dX5_who_4 : decode cX5_who 4 = .ok (.iload_n 1, 1) := by decide +kernel
theorem dX5_who_5 : decode cX5_who 5 = .ok (.iload_n 2, 1) := by decide +kernel
theorem dX5_who_6 : decode cX5_who 6 = .ok (.invokevirtual 96, 3) := by decide +kernel
theorem dX5_who_9 : decode cX5_who 9 = .ok (.ifCond .ne 5, 3) := by decide +kernel
theorem dX5_who_12 : decode cX5_who 12 = .ok (.iconst (-1), 1) := by decide +kernel
theorem dX5_who_13 : decode cX5_who 13 = .ok (.ireturn, 1) := by decide +kernel
theorem dX5_who_14 : decode cX5_who 14 = .ok (.iload_n 3, 1) := by decide +kernel
theorem dX5_who_15 : decode cX5_who 15 = .ok (.iconst 0, 1) := by decide +kernel
theorem dX5_who_16 : decode cX5_who 16 = .ok (.iconst 1, 1) := by decide +kernel
theorem dX5_who_17 : decode cX5_who 17 = .ok (.invokestatic 56, 3) := by decide +kernel
theorem dX5_who_20 : decode cX5_who 20 = .ok (.ifCond .ne 6, 3) := by decide +kernel
theorem dX5_who_23 : decode cX5_who 23 = .ok (.bipush (-2), 2) := by decide +kernel
theorem dX5_who_25 : decode cX5_who 25 = .ok (.ireturn, 1) := by decide +kernel
theorem dX5_who_26 : decode cX5_who 26 = .ok (.aload_n 0, 1) := by decide +kernel
theorem dX5_who_27 : decode cX5_who 27 = .ok (.getfield 34, 3) := by decide +kernel
theorem dX5_who_30 : decode cX5_who 30 = .ok (.aload_n 0, 1) := by decide +kernel
theorem dX5_who_31 : decode cX5_who 31 = .ok (.getfield 10, 3) := by decide +kernel
theorem dX5_who_34 : decode cX5_who 34 = .ok (.iload_n 1, 1) := by decide +kernel
theorem dX5_who_35 : decode cX5_who 35 = .ok (.iload_n 2, 1) := by decide +kernel
theorem dX5_who_36 : decode cX5_who 36 = .ok (.invokevirtual 100, 3) := by decide +kernel
theorem dX5_who_39 : decode cX5_who 39 = .ok (.aload_n 0, 1) := by decide +kernel
theorem dX5_who_40 : decode cX5_who 40 = .ok (.getfield 34, 3) := by decide +kernel
theorem dX5_who_43 : decode cX5_who 43 = .ok (.sipush 999, 3) := by decide +kernel
theorem dX5_who_46 : decode cX5_who 46 = .ok (.invokevirtual 133, 3) := by decide +kernel
theorem dX5_who_49 : decode cX5_who 49 = .ok (.ifCond .eq 6, 3) := by decide +kernel
theorem dX5_who_52 : decode cX5_who 52 = .ok (.bipush (-6), 2) := by decide +kernel
theorem dX5_who_54 : decode cX5_who 54 = .ok (.ireturn, 1) := by decide +kernel
theorem dX5_who_55 : decode cX5_who 55 = .ok (.iload_n 3, 1) := by decide +kernel
theorem dX5_who_56 : decode cX5_who 56 = .ok (.ifCond .ne 13, 3) := by decide +kernel
theorem dX5_who_59 : decode cX5_who 59 = .ok (.aload_n 0, 1) := by decide +kernel
theorem dX5_who_60 : decode cX5_who 60 = .ok (.getfield 34, 3) := by decide +kernel
theorem dX5_who_63 : decode cX5_who 63 = .ok (.getfield 130, 3) := by decide +kernel
theorem dX5_who_66 : decode cX5_who 66 = .ok (.iconst 1, 1) := by decide +kernel
theorem dX5_who_67 : decode cX5_who 67 = .ok (.isub, 1) := by decide +kernel
theorem dX5_who_68 : decode cX5_who 68 = .ok (.ireturn, 1) := by decide +kernel
theorem dX5_who_69 : decode cX5_who 69 = .ok (.aload_n 0, 1) := by decide +kernel
theorem dX5_who_70 : decode cX5_who 70 = .ok (.getfield 34, 3) := by decide +kernel
theorem dX5_who_73 : decode cX5_who 73 = .ok (.getfield 136, 3) := by decide +kernel
theorem dX5_who_76 : decode cX5_who 76 = .ok (.ifCond .eq 7, 3) := by decide +kernel
theorem dX5_who_79 : decode cX5_who 79 = .ok (.iload_n 1, 1) := by decide +kernel
theorem dX5_who_80 : decode cX5_who 80 = .ok (.goto 4, 3) := by decide +kernel
theorem dX5_who_83 : decode cX5_who 83 = .ok (.iload_n 2, 1) := by decide +kernel
theorem dX5_who_84 : decode cX5_who 84 = .ok (.ireturn, 1) := by decide +kernel
theorem dX5_alone_0 : decode cX5_alone 0 = .ok (.aload_n 0, 1) := by decide +kernel
theorem dX5_alone_1 : decode cX5_alone 1 = .ok (.getfield 10, 3) := by decide +kernel
theorem dX5_alone_4 : decode cX5_alone 4 = .ok (.iload_n 1, 1) := by decide +kernel
theorem dX5_alone_5 : decode cX5_alone 5 = .ok (.invokevirtual 68, 3) := by decide +kernel
theorem dX5_alone_8 : decode cX5_alone 8 = .ok (.ifCond .ne 5, 3) := by decide +kernel
theorem dX5_alone_11 : decode cX5_alone 11 = .ok (.iconst (-1), 1) := by decide +kernel
theorem dX5_alone_12 : decode cX5_alone 12 = .ok (.ireturn, 1) := by decide +kernel
theorem dX5_alone_13 : decode cX5_alone 13 = .ok (.iload_n 2, 1) := by decide +kernel
theorem dX5_alone_14 : decode cX5_alone 14 = .ok (.invokestatic 140, 3) := by decide +kernel
theorem dX5_alone_17 : decode cX5_alone 17 = .ok (.ifCond .ne 6, 3) := by decide +kernel
theorem dX5_alone_20 : decode cX5_alone 20 = .ok (.bipush (-2), 2) := by decide +kernel
theorem dX5_alone_22 : decode cX5_alone 22 = .ok (.ireturn, 1) := by decide +kernel
theorem dX5_alone_23 : decode cX5_alone 23 = .ok (.iconst 0, 1) := by decide +kernel
theorem dX5_alone_24 : decode cX5_alone 24 = .ok (.istore_n 3, 1) := by decide +kernel
theorem dX5_alone_25 : decode cX5_alone 25 = .ok (.iconst 0, 1) := by decide +kernel
theorem dX5_alone_26 : decode cX5_alone 26 = .ok (.istore 4, 2) := by decide +kernel
theorem dX5_alone_28 : decode cX5_alone 28 = .ok (.iconst 0, 1) := by decide +kernel
theorem dX5_alone_29 : decode cX5_alone 29 = .ok (.istore 5, 2) := by decide +kernel
theorem dX5_alone_31 : decode cX5_alone 31 = .ok (.iload 5, 2) := by decide +kernel
theorem dX5_alone_33 : decode cX5_alone 33 = .ok (.sipush 999, 3) := by decide +kernel
theorem dX5_alone_36 : decode cX5_alone 36 = .ok (.if_icmp .ge 41, 3) := by decide +kernel
theorem dX5_alone_39 : decode cX5_alone 39 = .ok (.iload 4, 2) := by decide +kernel
theorem dX5_alone_41 : decode cX5_alone 41 = .ok (.iload_n 2, 1) := by decide +kernel
theorem dX5_alone_42 : decode cX5_alone 42 = .ok (.if_icmp .ge 35, 3) := by decide +kernel
theorem dX5_alone_45 : decode cX5_alone 45 = .ok (.iload 4, 2) := by decide +kernel
theorem dX5_alone_47 : decode cX5_alone 47 = .ok (.aload_n 0, 1) := by decide +kernel
theorem dX5_alone_48 : decode cX5_alone 48 = .ok (.getfield 10, 3) := by decide +kernel
theorem dX5_alone_51 : decode cX5_alone 51 = .ok (.getfield 143, 3) := by decide +kernel
theorem dX5_alone_54 : decode cX5_alone 54 = .ok (.iload_n 1, 1) := by decide +kernel
theorem dX5_alone_55 : decode cX5_alone 55 = .ok (.iaload, 1) := by decide +kernel
theorem dX5_alone_56 : decode cX5_alone 56 = .ok (.iadd, 1) := by decide +kernel
theorem dX5_alone_57 : decode cX5_alone 57 = .ok (.istore 4, 2) := by decide +kernel
theorem dX5_alone_59 : decode cX5_alone 59 = .ok (.iload_n 3, 1) := by decide +kernel
theorem dX5_alone_60 : decode cX5_alone 60 = .ok (.aload_n 0, 1) := by decide +kernel
theorem dX5_alone_61 : decode cX5_alone 61 = .ok (.getfield 10, 3) := by decide +kernel
theorem dX5_alone_64 : decode cX5_alone 64 = .ok (.getfield 146, 3) := by decide +kernel
theorem dX5_alone_67 : decode cX5_alone 67 = .ok (.iload_n 1, 1) := by decide +kernel
theorem dX5_alone_68 : decode cX5_alone 68 = .ok (.iaload, 1) := by decide +kernel
theorem dX5_alone_69 : decode cX5_alone 69 = .ok (.iadd, 1) := by decide +kernel
theorem dX5_alone_70 : decode cX5_alone 70 = .ok (.istore_n 3, 1) := by decide +kernel
theorem dX5_alone_71 : decode cX5_alone 71 = .ok (.iinc 5 1, 3) := by decide +kernel
theorem dX5_alone_74 : decode cX5_alone 74 = .ok (.goto (-43), 3) := by decide +kernel
theorem dX5_alone_77 : decode cX5_alone 77 = .ok (.iload_n 3, 1) := by decide +kernel
theorem dX5_alone_78 : decode cX5_alone 78 = .ok (.ireturn, 1) := by decide +kernel
theorem dX5_tied_0 : decode cX5_tied 0 = .ok (.aload_n 0, 1) := by decide +kernel
theorem dX5_tied_1 : decode cX5_tied 1 = .ok (.getfield 10, 3) := by decide +kernel
theorem dX5_tied_4 : decode cX5_tied 4 = .ok (.invokevirtual 64, 3) := by decide +kernel
theorem dX5_tied_7 : decode cX5_tied 7 = .ok (.istore 4, 2) := by decide +kernel
theorem dX5_tied_9 : decode cX5_tied 9 = .ok (.iload 4, 2) := by decide +kernel
theorem dX5_tied_11 : decode cX5_tied 11 = .ok (.ifCond .eq 10, 3) := by decide +kernel
theorem dX5_tied_14 : decode cX5_tied 14 = .ok (.iload 4, 2) := by decide +kernel
theorem dX5_tied_16 : decode cX5_tied 16 = .ok (.iconst 2, 1) := by decide +kernel
theorem dX5_tied_17 : decode cX5_tied 17 = .ok (.irem, 1) := by decide +kernel
theorem dX5_tied_18 : decode cX5_tied 18 = .ok (.ifCond .eq 6, 3) := by decide +kernel
theorem dX5_tied_21 : decode cX5_tied 21 = .ok (.bipush (-3), 2) := by decide +kernel
theorem dX5_tied_23 : decode cX5_tied 23 = .ok (.ireturn, 1) := by decide +kernel
theorem dX5_tied_24 : decode cX5_tied 24 = .ok (.iload_n 3, 1) := by decide +kernel
theorem dX5_tied_25 : decode cX5_tied 25 = .ok (.iconst (-1), 1) := by decide +kernel
theorem dX5_tied_26 : decode cX5_tied 26 = .ok (.if_icmp .eq 16, 3) := by decide +kernel
theorem dX5_tied_29 : decode cX5_tied 29 = .ok (.aload_n 0, 1) := by decide +kernel
theorem dX5_tied_30 : decode cX5_tied 30 = .ok (.getfield 10, 3) := by decide +kernel
theorem dX5_tied_33 : decode cX5_tied 33 = .ok (.iload_n 3, 1) := by decide +kernel
theorem dX5_tied_34 : decode cX5_tied 34 = .ok (.invokevirtual 68, 3) := by decide +kernel
theorem dX5_tied_37 : decode cX5_tied 37 = .ok (.ifCond .ne 5, 3) := by decide +kernel
theorem dX5_tied_40 : decode cX5_tied 40 = .ok (.iconst (-1), 1) := by decide +kernel
theorem dX5_tied_41 : decode cX5_tied 41 = .ok (.ireturn, 1) := by decide +kernel
theorem dX5_tied_42 : decode cX5_tied 42 = .ok (.iload_n 1, 1) := by decide +kernel
theorem dX5_tied_43 : decode cX5_tied 43 = .ok (.invokestatic 140, 3) := by decide +kernel
theorem dX5_tied_46 : decode cX5_tied 46 = .ok (.ifCond .eq 12, 3) := by decide +kernel
theorem dX5_tied_49 : decode cX5_tied 49 = .ok (.iload_n 2, 1) := by decide +kernel
theorem dX5_tied_50 : decode cX5_tied 50 = .ok (.iconst 0, 1) := by decide +kernel
theorem dX5_tied_51 : decode cX5_tied 51 = .ok (.iconst 1, 1) := by decide +kernel
theorem dX5_tied_52 : decode cX5_tied 52 = .ok (.invokestatic 56, 3) := by decide +kernel
theorem dX5_tied_55 : decode cX5_tied 55 = .ok (.ifCond .ne 6, 3) := by decide +kernel
theorem dX5_tied_58 : decode cX5_tied 58 = .ok (.bipush (-2), 2) := by decide +kernel
theorem dX5_tied_60 : decode cX5_tied 60 = .ok (.ireturn, 1) := by decide +kernel
theorem dX5_tied_61 : decode cX5_tied 61 = .ok (.aload_n 0, 1) := by decide +kernel
theorem dX5_tied_62 : decode cX5_tied 62 = .ok (.iload_n 1, 1) := by decide +kernel
theorem dX5_tied_63 : decode cX5_tied 63 = .ok (.invokevirtual 149, 3) := by decide +kernel
theorem dX5_tied_66 : decode cX5_tied 66 = .ok (.aload_n 0, 1) := by decide +kernel
theorem dX5_tied_67 : decode cX5_tied 67 = .ok (.getfield 41, 3) := by decide +kernel
theorem dX5_tied_70 : decode cX5_tied 70 = .ok (.aload_n 0, 1) := by decide +kernel
theorem dX5_tied_71 : decode cX5_tied 71 = .ok (.getfield 10, 3) := by decide +kernel
theorem dX5_tied_74 : decode cX5_tied 74 = .ok (.aload_n 0, 1) := by decide +kernel
theorem dX5_tied_75 : decode cX5_tied 75 = .ok (.getfield 52, 3) := by decide +kernel
theorem dX5_tied_78 : decode cX5_tied 78 = .ok (.iload_n 2, 1) := by decide +kernel
theorem dX5_tied_79 : decode cX5_tied 79 = .ok (.iconst 1, 1) := by decide +kernel
theorem dX5_tied_80 : decode cX5_tied 80 = .ok (.if_icmp .ne 7, 3) := by decide +kernel
theorem dX5_tied_83 : decode cX5_tied 83 = .ok (.iconst 1, 1) := by decide +kernel
theorem dX5_tied_84 : decode cX5_tied 84 = .ok (.goto 4, 3) := by decide +kernel
theorem dX5_tied_87 : decode cX5_tied 87 = .ok (.iconst 0, 1) := by decide +kernel
theorem dX5_tied_88 : decode cX5_tied 88 = .ok (.invokevirtual 152, 3) := by decide +kernel
theorem dX5_tied_91 : decode cX5_tied 91 = .ok (.iload_n 3, 1) := by decide +kernel
theorem dX5_tied_92 : decode cX5_tied 92 = .ok (.iconst (-1), 1) := by decide +kernel
theorem dX5_tied_93 : decode cX5_tied 93 = .ok (.if_icmp .ne 13, 3) := by decide +kernel
theorem dX5_tied_96 : decode cX5_tied 96 = .ok (.aload_n 0, 1) := by decide +kernel
theorem dX5_tied_97 : decode cX5_tied 97 = .ok (.getfield 41, 3) := by decide +kernel
theorem dX5_tied_100 : decode cX5_tied 100 = .ok (.getfield 156, 3) := by decide +kernel
theorem dX5_tied_103 : decode cX5_tied 103 = .ok (.goto 12, 3) := by decide +kernel
theorem dX5_tied_106 : decode cX5_tied 106 = .ok (.aload_n 0, 1) := by decide +kernel
theorem dX5_tied_107 : decode cX5_tied 107 = .ok (.getfield 41, 3) := by decide +kernel
theorem dX5_tied_110 : decode cX5_tied 110 = .ok (.getfield 159, 3) := by decide +kernel
theorem dX5_tied_113 : decode cX5_tied 113 = .ok (.iload_n 3, 1) := by decide +kernel
theorem dX5_tied_114 : decode cX5_tied 114 = .ok (.iaload, 1) := by decide +kernel
theorem dX5_tied_115 : decode cX5_tied 115 = .ok (.ireturn, 1) := by decide +kernel
theorem dX5_call_0 : decode cX5_call 0 = .ok (.aload_n 0, 1) := by decide +kernel
theorem dX5_call_1 : decode cX5_call 1 = .ok (.iload_n 1, 1) := by decide +kernel
theorem dX5_call_2 : decode cX5_call 2 = .ok (.iload_n 2, 1) := by decide +kernel
theorem dX5_call_3 : decode cX5_call 3 = .ok (.iload_n 3, 1) := by decide +kernel
theorem dX5_call_4 : decode cX5_call 4 = .ok (.iload 4, 2) := by decide +kernel
theorem dX5_call_6 : decode cX5_call 6 = .ok (.invokevirtual 122, 3) := by decide +kernel
theorem dX5_call_9 : decode cX5_call 9 = .ok (.istore 5, 2) := by decide +kernel
theorem dX5_call_11 : decode cX5_call 11 = .ok (.iload 5, 2) := by decide +kernel
theorem dX5_call_13 : decode cX5_call 13 = .ok (.ifCond .eq 6, 3) := by decide +kernel
theorem dX5_call_16 : decode cX5_call 16 = .ok (.iload 5, 2) := by decide +kernel
theorem dX5_call_18 : decode cX5_call 18 = .ok (.ireturn, 1) := by decide +kernel
theorem dX5_call_19 : decode cX5_call 19 = .ok (.aload_n 0, 1) := by decide +kernel
theorem dX5_call_20 : decode cX5_call 20 = .ok (.getfield 48, 3) := by decide +kernel
theorem dX5_call_23 : decode cX5_call 23 = .ok (.invokevirtual 162, 3) := by decide +kernel
theorem dX5_call_26 : decode cX5_call 26 = .ok (.iconst 4, 1) := by decide +kernel
theorem dX5_call_27 : decode cX5_call 27 = .ok (.istore 6, 2) := by decide +kernel
theorem dX5_call_29 : decode cX5_call 29 = .ok (.iload 6, 2) := by decide +kernel
theorem dX5_call_31 : decode cX5_call 31 = .ok (.bipush 20, 2) := by decide +kernel
theorem dX5_call_33 : decode cX5_call 33 = .ok (.if_icmp .gt 49, 3) := by decide +kernel
theorem dX5_call_36 : decode cX5_call 36 = .ok (.aload_n 0, 1) := by decide +kernel
theorem dX5_call_37 : decode cX5_call 37 = .ok (.getfield 34, 3) := by decide +kernel
theorem dX5_call_40 : decode cX5_call 40 = .ok (.aload_n 0, 1) := by decide +kernel
theorem dX5_call_41 : decode cX5_call 41 = .ok (.getfield 10, 3) := by decide +kernel
theorem dX5_call_44 : decode cX5_call 44 = .ok (.iload_n 1, 1) := by decide +kernel
theorem dX5_call_45 : decode cX5_call 45 = .ok (.iload_n 2, 1) := by decide +kernel
theorem dX5_call_46 : decode cX5_call 46 = .ok (.invokevirtual 100, 3) := by decide +kernel
theorem dX5_call_49 : decode cX5_call 49 = .ok (.aload_n 0, 1) := by decide +kernel
theorem dX5_call_50 : decode cX5_call 50 = .ok (.getfield 34, 3) := by decide +kernel
theorem dX5_call_53 : decode cX5_call 53 = .ok (.iload 6, 2) := by decide +kernel
theorem dX5_call_55 : decode cX5_call 55 = .ok (.invokevirtual 165, 3) := by decide +kernel
theorem dX5_call_58 : decode cX5_call 58 = .ok (.aload_n 0, 1) := by decide +kernel
theorem dX5_call_59 : decode cX5_call 59 = .ok (.getfield 48, 3) := by decide +kernel
theorem dX5_call_62 : decode cX5_call 62 = .ok (.iload 6, 2) := by decide +kernel
theorem dX5_call_64 : decode cX5_call 64 = .ok (.aload_n 0, 1) := by decide +kernel
theorem dX5_call_65 : decode cX5_call 65 = .ok (.getfield 34, 3) := by decide +kernel
theorem dX5_call_68 : decode cX5_call 68 = .ok (.iload_n 3, 1) := by decide +kernel
theorem dX5_call_69 : decode cX5_call 69 = .ok (.iconst (-1), 1) := by decide +kernel
theorem dX5_call_70 : decode cX5_call 70 = .ok (.invokevirtual 168, 3) := by decide +kernel
theorem dX5_call_73 : decode cX5_call 73 = .ok (.invokevirtual 171, 3) := by decide +kernel
theorem dX5_call_76 : decode cX5_call 76 = .ok (.iinc 6 1, 3) := by decide +kernel
theorem dX5_call_79 : decode cX5_call 79 = .ok (.goto (-50), 3) := by decide +kernel
theorem dX5_call_82 : decode cX5_call 82 = .ok (.aload_n 0, 1) := by decide +kernel
theorem dX5_call_83 : decode cX5_call 83 = .ok (.getfield 48, 3) := by decide +kernel
theorem dX5_call_86 : decode cX5_call 86 = .ok (.iload 4, 2) := by decide +kernel
theorem dX5_call_88 : decode cX5_call 88 = .ok (.invokevirtual 175, 3) := by decide +kernel
theorem dX5_call_91 : decode cX5_call 91 = .ok (.ireturn, 1) := by decide +kernel
theorem dX5_quicken_0 : decode cX5_quicken 0 = .ok (.aload_n 0, 1) := by decide +kernel
theorem dX5_quicken_1 : decode cX5_quicken 1 = .ok (.iload_n 1, 1) := by decide +kernel
theorem dX5_quicken_2 : decode cX5_quicken 2 = .ok (.iload_n 2, 1) := by decide +kernel
theorem dX5_quicken_3 : decode cX5_quicken 3 = .ok (.iload_n 3, 1) := by decide +kernel
theorem dX5_quicken_4 : decode cX5_quicken 4 = .ok (.iload 4, 2) := by decide +kernel
theorem dX5_quicken_6 : decode cX5_quicken 6 = .ok (.invokevirtual 122, 3) := by decide +kernel
theorem dX5_quicken_9 : decode cX5_quicken 9 = .ok (.istore 5, 2) := by decide +kernel
theorem dX5_quicken_11 : decode cX5_quicken 11 = .ok (.iload 5, 2) := by decide +kernel
theorem dX5_quicken_13 : decode cX5_quicken 13 = .ok (.ifCond .eq 6, 3) := by decide +kernel
theorem dX5_quicken_16 : decode cX5_quicken 16 = .ok (.iload 5, 2) := by decide +kernel
theorem dX5_quicken_18 : decode cX5_quicken 18 = .ok (.ireturn, 1) := by decide +kernel
theorem dX5_quicken_19 : decode cX5_quicken 19 = .ok (.aload_n 0, 1) := by decide +kernel
theorem dX5_quicken_20 : decode cX5_quicken 20 = .ok (.getfield 48, 3) := by decide +kernel
theorem dX5_quicken_23 : decode cX5_quicken 23 = .ok (.invokevirtual 162, 3) := by decide +kernel
theorem dX5_quicken_26 : decode cX5_quicken 26 = .ok (.iconst 0, 1) := by decide +kernel
theorem dX5_quicken_27 : decode cX5_quicken 27 = .ok (.istore 6, 2) := by decide +kernel
theorem dX5_quicken_29 : decode cX5_quicken 29 = .ok (.iload 6, 2) := by decide +kernel
theorem dX5_quicken_31 : decode cX5_quicken 31 = .ok (.bipush 60, 2) := by decide +kernel
theorem dX5_quicken_33 : decode cX5_quicken 33 = .ok (.if_icmp .gt 41, 3) := by decide +kernel
theorem dX5_quicken_36 : decode cX5_quicken 36 = .ok (.aload_n 0, 1) := by decide +kernel
theorem dX5_quicken_37 : decode cX5_quicken 37 = .ok (.getfield 34, 3) := by decide +kernel
theorem dX5_quicken_40 : decode cX5_quicken 40 = .ok (.aload_n 0, 1) := by decide +kernel
theorem dX5_quicken_41 : decode cX5_quicken 41 = .ok (.getfield 10, 3) := by decide +kernel
theorem dX5_quicken_44 : decode cX5_quicken 44 = .ok (.iload_n 1, 1) := by decide +kernel
theorem dX5_quicken_45 : decode cX5_quicken 45 = .ok (.iload_n 2, 1) := by decide +kernel
theorem dX5_quicken_46 : decode cX5_quicken 46 = .ok (.invokevirtual 100, 3) := by decide +kernel
theorem dX5_quicken_49 : decode cX5_quicken 49 = .ok (.aload_n 0, 1) := by decide +kernel
theorem dX5_quicken_50 : decode cX5_quicken 50 = .ok (.getfield 48, 3) := by decide +kernel
theorem dX5_quicken_53 : decode cX5_quicken 53 = .ok (.iload 6, 2) := by decide +kernel
theorem dX5_quicken_55 : decode cX5_quicken 55 = .ok (.aload_n 0, 1) := by decide +kernel
theorem dX5_quicken_56 : decode cX5_quicken 56 = .ok (.getfield 34, 3) := by decide +kernel
theorem dX5_quicken_59 : decode cX5_quicken 59 = .ok (.iload_n 3, 1) := by decide +kernel
theorem dX5_quicken_60 : decode cX5_quicken 60 = .ok (.iload 6, 2) := by decide +kernel
theorem dX5_quicken_62 : decode cX5_quicken 62 = .ok (.invokevirtual 168, 3) := by decide +kernel
theorem dX5_quicken_65 : decode cX5_quicken 65 = .ok (.invokevirtual 171, 3) := by decide +kernel
theorem dX5_quicken_68 : decode cX5_quicken 68 = .ok (.iinc 6 1, 3) := by decide +kernel
theorem dX5_quicken_71 : decode cX5_quicken 71 = .ok (.goto (-42), 3) := by decide +kernel
theorem dX5_quicken_74 : decode cX5_quicken 74 = .ok (.aload_n 0, 1) := by decide +kernel
theorem dX5_quicken_75 : decode cX5_quicken 75 = .ok (.getfield 48, 3) := by decide +kernel
theorem dX5_quicken_78 : decode cX5_quicken 78 = .ok (.bipush 61, 2) := by decide +kernel
theorem dX5_quicken_80 : decode cX5_quicken 80 = .ok (.aload_n 0, 1) := by decide +kernel
theorem dX5_quicken_81 : decode cX5_quicken 81 = .ok (.iload_n 1, 1) := by decide +kernel
theorem dX5_quicken_82 : decode cX5_quicken 82 = .ok (.iload_n 2, 1) := by decide +kernel
theorem dX5_quicken_83 : decode cX5_quicken 83 = .ok (.iload_n 3, 1) := by decide +kernel
theorem dX5_quicken_84 : decode cX5_quicken 84 = .ok (.invokevirtual 126, 3) := by decide +kernel
theorem dX5_quicken_87 : decode cX5_quicken 87 = .ok (.invokevirtual 171, 3) := by decide +kernel
theorem dX5_quicken_90 : decode cX5_quicken 90 = .ok (.aload_n 0, 1) := by decide +kernel
theorem dX5_quicken_91 : decode cX5_quicken 91 = .ok (.getfield 48, 3) := by decide +kernel
theorem dX5_quicken_94 : decode cX5_quicken 94 = .ok (.iload 4, 2) := by decide +kernel
theorem dX5_quicken_96 : decode cX5_quicken 96 = .ok (.invokevirtual 175, 3) := by decide +kernel
theorem dX5_quicken_99 : decode cX5_quicken 99 = .ok (.ireturn, 1) := by decide +kernel
theorem dX5_yields_0 : decode cX5_yields 0 = .ok (.aload_n 0, 1) := by decide +kernel
theorem dX5_yields_1 : decode cX5_yields 1 = .ok (.iload_n 1, 1) := by decide +kernel
theorem dX5_yields_2 : decode cX5_yields 2 = .ok (.iload_n 2, 1) := by decide +kernel
theorem dX5_yields_3 : decode cX5_yields 3 = .ok (.iload_n 3, 1) := by decide +kernel
theorem dX5_yields_4 : decode cX5_yields 4 = .ok (.iload 4, 2) := by decide +kernel
theorem dX5_yields_6 : decode cX5_yields 6 = .ok (.invokevirtual 122, 3) := by decide +kernel
theorem dX5_yields_9 : decode cX5_yields 9 = .ok (.istore 5, 2) := by decide +kernel
theorem dX5_yields_11 : decode cX5_yields 11 = .ok (.iload 5, 2) := by decide +kernel
theorem dX5_yields_13 : decode cX5_yields 13 = .ok (.ifCond .eq 6, 3) := by decide +kernel
theorem dX5_yields_16 : decode cX5_yields 16 = .ok (.iload 5, 2) := by decide +kernel
theorem dX5_yields_18 : decode cX5_yields 18 = .ok (.ireturn, 1) := by decide +kernel
theorem dX5_yields_19 : decode cX5_yields 19 = .ok (.aload_n 0, 1) := by decide +kernel
theorem dX5_yields_20 : decode cX5_yields 20 = .ok (.getfield 48, 3) := by decide +kernel
theorem dX5_yields_23 : decode cX5_yields 23 = .ok (.invokevirtual 162, 3) := by decide +kernel
theorem dX5_yields_26 : decode cX5_yields 26 = .ok (.iconst 0, 1) := by decide +kernel
theorem dX5_yields_27 : decode cX5_yields 27 = .ok (.istore 6, 2) := by decide +kernel
theorem dX5_yields_29 : decode cX5_yields 29 = .ok (.iload 6, 2) := by decide +kernel
theorem dX5_yields_31 : decode cX5_yields 31 = .ok (.iconst 4, 1) := by decide +kernel
theorem dX5_yields_32 : decode cX5_yields 32 = .ok (.if_icmp .gt 72, 3) := by decide +kernel
theorem dX5_yields_35 : decode cX5_yields 35 = .ok (.iconst 0, 1) := by decide +kernel
theorem dX5_yields_36 : decode cX5_yields 36 = .ok (.istore 7, 2) := by decide +kernel
theorem dX5_yields_38 : decode cX5_yields 38 = .ok (.iload 7, 2) := by decide +kernel
theorem dX5_yields_40 : decode cX5_yields 40 = .ok (.iconst 4, 1) := by decide +kernel
theorem dX5_yields_41 : decode cX5_yields 41 = .ok (.if_icmp .gt 57, 3) := by decide +kernel
theorem dX5_yields_44 : decode cX5_yields 44 = .ok (.aload_n 0, 1) := by decide +kernel
theorem dX5_yields_45 : decode cX5_yields 45 = .ok (.getfield 34, 3) := by decide +kernel
theorem dX5_yields_48 : decode cX5_yields 48 = .ok (.aload_n 0, 1) := by decide +kernel
theorem dX5_yields_49 : decode cX5_yields 49 = .ok (.getfield 10, 3) := by decide +kernel
theorem dX5_yields_52 : decode cX5_yields 52 = .ok (.iload_n 1, 1) := by decide +kernel
theorem dX5_yields_53 : decode cX5_yields 53 = .ok (.iload_n 2, 1) := by decide +kernel
theorem dX5_yields_54 : decode cX5_yields 54 = .ok (.invokevirtual 100, 3) := by decide +kernel
theorem dX5_yields_57 : decode cX5_yields 57 = .ok (.aload_n 0, 1) := by decide +kernel
theorem dX5_yields_58 : decode cX5_yields 58 = .ok (.getfield 34, 3) := by decide +kernel
theorem dX5_yields_61 : decode cX5_yields 61 = .ok (.iload 6, 2) := by decide +kernel
theorem dX5_yields_63 : decode cX5_yields 63 = .ok (.iload 7, 2) := by decide +kernel
theorem dX5_yields_65 : decode cX5_yields 65 = .ok (.invokevirtual 178, 3) := by decide +kernel
theorem dX5_yields_68 : decode cX5_yields 68 = .ok (.aload_n 0, 1) := by decide +kernel
theorem dX5_yields_69 : decode cX5_yields 69 = .ok (.getfield 48, 3) := by decide +kernel
theorem dX5_yields_72 : decode cX5_yields 72 = .ok (.bipush 10, 2) := by decide +kernel
theorem dX5_yields_74 : decode cX5_yields 74 = .ok (.iload 6, 2) := by decide +kernel
theorem dX5_yields_76 : decode cX5_yields 76 = .ok (.imul, 1) := by decide +kernel
theorem dX5_yields_77 : decode cX5_yields 77 = .ok (.iload 7, 2) := by decide +kernel
theorem dX5_yields_79 : decode cX5_yields 79 = .ok (.iadd, 1) := by decide +kernel
theorem dX5_yields_80 : decode cX5_yields 80 = .ok (.aload_n 0, 1) := by decide +kernel
theorem dX5_yields_81 : decode cX5_yields 81 = .ok (.getfield 34, 3) := by decide +kernel
theorem dX5_yields_84 : decode cX5_yields 84 = .ok (.iload_n 3, 1) := by decide +kernel
theorem dX5_yields_85 : decode cX5_yields 85 = .ok (.iconst (-1), 1) := by decide +kernel
theorem dX5_yields_86 : decode cX5_yields 86 = .ok (.invokevirtual 168, 3) := by decide +kernel
theorem dX5_yields_89 : decode cX5_yields 89 = .ok (.invokevirtual 171, 3) := by decide +kernel
theorem dX5_yields_92 : decode cX5_yields 92 = .ok (.iinc 7 1, 3) := by decide +kernel
theorem dX5_yields_95 : decode cX5_yields 95 = .ok (.goto (-57), 3) := by decide +kernel
theorem dX5_yields_98 : decode cX5_yields 98 = .ok (.iinc 6 1, 3) := by decide +kernel
theorem dX5_yields_101 : decode cX5_yields 101 = .ok (.goto (-72), 3) := by decide +kernel
theorem dX5_yields_104 : decode cX5_yields 104 = .ok (.aload_n 0, 1) := by decide +kernel
theorem dX5_yields_105 : decode cX5_yields 105 = .ok (.getfield 48, 3) := by decide +kernel
theorem dX5_yields_108 : decode cX5_yields 108 = .ok (.iload 4, 2) := by decide +kernel
theorem dX5_yields_110 : decode cX5_yields 110 = .ok (.invokevirtual 175, 3) := by decide +kernel
theorem dX5_yields_113 : decode cX5_yields 113 = .ok (.ireturn, 1) := by decide +kernel
theorem dX5_practice_0 : decode cX5_practice 0 = .ok (.aload_n 0, 1) := by decide +kernel
theorem dX5_practice_1 : decode cX5_practice 1 = .ok (.getfield 10, 3) := by decide +kernel
theorem dX5_practice_4 : decode cX5_practice 4 = .ok (.iload_n 1, 1) := by decide +kernel
theorem dX5_practice_5 : decode cX5_practice 5 = .ok (.iload_n 2, 1) := by decide +kernel
theorem dX5_practice_6 : decode cX5_practice 6 = .ok (.invokevirtual 96, 3) := by decide +kernel
theorem dX5_practice_9 : decode cX5_practice 9 = .ok (.ifCond .ne 5, 3) := by decide +kernel
theorem dX5_practice_12 : decode cX5_practice 12 = .ok (.iconst (-1), 1) := by decide +kernel
theorem dX5_practice_13 : decode cX5_practice 13 = .ok (.ireturn, 1) := by decide +kernel
theorem dX5_practice_14 : decode cX5_practice 14 = .ok (.iload_n 3, 1) := by decide +kernel
theorem dX5_practice_15 : decode cX5_practice 15 = .ok (.iconst 0, 1) := by decide +kernel
theorem dX5_practice_16 : decode cX5_practice 16 = .ok (.sipush 999, 3) := by decide +kernel
theorem dX5_practice_19 : decode cX5_practice 19 = .ok (.invokestatic 56, 3) := by decide +kernel
theorem dX5_practice_22 : decode cX5_practice 22 = .ok (.ifCond .eq 13, 3) := by decide +kernel
theorem dX5_practice_25 : decode cX5_practice 25 = .ok (.iload 4, 2) := by decide +kernel
theorem dX5_practice_27 : decode cX5_practice 27 = .ok (.iconst 0, 1) := by decide +kernel
theorem dX5_practice_28 : decode cX5_practice 28 = .ok (.iconst 1, 1) := by decide +kernel
theorem dX5_practice_29 : decode cX5_practice 29 = .ok (.invokestatic 56, 3) := by decide +kernel
theorem dX5_practice_32 : decode cX5_practice 32 = .ok (.ifCond .ne 6, 3) := by decide +kernel
theorem dX5_practice_35 : decode cX5_practice 35 = .ok (.bipush (-2), 2) := by decide +kernel
theorem dX5_practice_37 : decode cX5_practice 37 = .ok (.ireturn, 1) := by decide +kernel
theorem dX5_practice_38 : decode cX5_practice 38 = .ok (.aload_n 0, 1) := by decide +kernel
theorem dX5_practice_39 : decode cX5_practice 39 = .ok (.getfield 10, 3) := by decide +kernel
theorem dX5_practice_42 : decode cX5_practice 42 = .ok (.getfield 181, 3) := by decide +kernel
theorem dX5_practice_45 : decode cX5_practice 45 = .ok (.iload_n 1, 1) := by decide +kernel
theorem dX5_practice_46 : decode cX5_practice 46 = .ok (.iaload, 1) := by decide +kernel
theorem dX5_practice_47 : decode cX5_practice 47 = .ok (.aload_n 0, 1) := by decide +kernel
theorem dX5_practice_48 : decode cX5_practice 48 = .ok (.getfield 10, 3) := by decide +kernel
theorem dX5_practice_51 : decode cX5_practice 51 = .ok (.getfield 181, 3) := by decide +kernel
theorem dX5_practice_54 : decode cX5_practice 54 = .ok (.iload_n 2, 1) := by decide +kernel
theorem dX5_practice_55 : decode cX5_practice 55 = .ok (.iaload, 1) := by decide +kernel
theorem dX5_practice_56 : decode cX5_practice 56 = .ok (.iadd, 1) := by decide +kernel
theorem dX5_practice_57 : decode cX5_practice 57 = .ok (.istore 5, 2) := by decide +kernel
theorem dX5_practice_59 : decode cX5_practice 59 = .ok (.bipush (-6), 2) := by decide +kernel
theorem dX5_practice_61 : decode cX5_practice 61 = .ok (.istore 6, 2) := by decide +kernel
theorem dX5_practice_63 : decode cX5_practice 63 = .ok (.bipush (-6), 2) := by decide +kernel
theorem dX5_practice_65 : decode cX5_practice 65 = .ok (.istore 7, 2) := by decide +kernel
theorem dX5_practice_67 : decode cX5_practice 67 = .ok (.aload_n 0, 1) := by decide +kernel
theorem dX5_practice_68 : decode cX5_practice 68 = .ok (.getfield 10, 3) := by decide +kernel
theorem dX5_practice_71 : decode cX5_practice 71 = .ok (.getfield 181, 3) := by decide +kernel
theorem dX5_practice_74 : decode cX5_practice 74 = .ok (.iload_n 1, 1) := by decide +kernel
theorem dX5_practice_75 : decode cX5_practice 75 = .ok (.iaload, 1) := by decide +kernel
theorem dX5_practice_76 : decode cX5_practice 76 = .ok (.istore 8, 2) := by decide +kernel
theorem dX5_practice_78 : decode cX5_practice 78 = .ok (.iload 8, 2) := by decide +kernel
theorem dX5_practice_80 : decode cX5_practice 80 = .ok (.iconst 4, 1) := by decide +kernel
theorem dX5_practice_81 : decode cX5_practice 81 = .ok (.if_icmp .gt 84, 3) := by decide +kernel
theorem dX5_practice_84 : decode cX5_practice 84 = .ok (.aload_n 0, 1) := by decide +kernel
theorem dX5_practice_85 : decode cX5_practice 85 = .ok (.getfield 10, 3) := by decide +kernel
theorem dX5_practice_88 : decode cX5_practice 88 = .ok (.getfield 181, 3) := by decide +kernel
theorem dX5_practice_91 : decode cX5_practice 91 = .ok (.iload_n 2, 1) := by decide +kernel
theorem dX5_practice_92 : decode cX5_practice 92 = .ok (.iaload, 1) := by decide +kernel
theorem dX5_practice_93 : decode cX5_practice 93 = .ok (.istore 9, 2) := by decide +kernel
theorem dX5_practice_95 : decode cX5_practice 95 = .ok (.iload 9, 2) := by decide +kernel
theorem dX5_practice_97 : decode cX5_practice 97 = .ok (.iconst 4, 1) := by decide +kernel
theorem dX5_practice_98 : decode cX5_practice 98 = .ok (.if_icmp .gt 61, 3) := by decide +kernel
theorem dX5_practice_101 : decode cX5_practice 101 = .ok (.iload 8, 2) := by decide +kernel
theorem dX5_practice_103 : decode cX5_practice 103 = .ok (.iload 9, 2) := by decide +kernel
theorem dX5_practice_105 : decode cX5_practice 105 = .ok (.iadd, 1) := by decide +kernel
theorem dX5_practice_106 : decode cX5_practice 106 = .ok (.iload 5, 2) := by decide +kernel
theorem dX5_practice_108 : decode cX5_practice 108 = .ok (.isub, 1) := by decide +kernel
theorem dX5_practice_109 : decode cX5_practice 109 = .ok (.istore 10, 2) := by decide +kernel
theorem dX5_practice_111 : decode cX5_practice 111 = .ok (.iload 6, 2) := by decide +kernel
theorem dX5_practice_113 : decode cX5_practice 113 = .ok (.bipush (-6), 2) := by decide +kernel
theorem dX5_practice_115 : decode cX5_practice 115 = .ok (.if_icmp .eq 10, 3) := by decide +kernel
theorem dX5_practice_118 : decode cX5_practice 118 = .ok (.iload 10, 2) := by decide +kernel
theorem dX5_practice_120 : decode cX5_practice 120 = .ok (.iload 6, 2) := by decide +kernel
theorem dX5_practice_122 : decode cX5_practice 122 = .ok (.if_icmp .ge 31, 3) := by decide +kernel
theorem dX5_practice_125 : decode cX5_practice 125 = .ok (.aload_n 0, 1) := by decide +kernel
theorem dX5_practice_126 : decode cX5_practice 126 = .ok (.iload_n 1, 1) := by decide +kernel
theorem dX5_practice_127 : decode cX5_practice 127 = .ok (.iload_n 2, 1) := by decide +kernel
theorem dX5_practice_128 : decode cX5_practice 128 = .ok (.iload 8, 2) := by decide +kernel
theorem dX5_practice_130 : decode cX5_practice 130 = .ok (.iload 9, 2) := by decide +kernel
theorem dX5_practice_132 : decode cX5_practice 132 = .ok (.iload_n 3, 1) := by decide +kernel
theorem dX5_practice_133 : decode cX5_practice 133 = .ok (.invokevirtual 183, 3) := by decide +kernel
theorem dX5_practice_136 : decode cX5_practice 136 = .ok (.ifCond .eq 17, 3) := by decide +kernel
theorem dX5_practice_139 : decode cX5_practice 139 = .ok (.iload 10, 2) := by decide +kernel
theorem dX5_practice_141 : decode cX5_practice 141 = .ok (.istore 6, 2) := by decide +kernel
theorem dX5_practice_143 : decode cX5_practice 143 = .ok (.bipush 10, 2) := by decide +kernel
theorem dX5_practice_145 : decode cX5_practice 145 = .ok (.iload 8, 2) := by decide +kernel
theorem dX5_practice_147 : decode cX5_practice 147 = .ok (.imul, 1) := by decide +kernel
theorem dX5_practice_148 : decode cX5_practice 148 = .ok (.iload 9, 2) := by decide +kernel
theorem dX5_practice_150 : decode cX5_practice 150 = .ok (.iadd, 1) := by decide +kernel
theorem dX5_practice_151 : decode cX5_practice 151 = .ok (.istore 7, 2) := by decide +kernel
theorem dX5_practice_153 : decode cX5_practice 153 = .ok (.iinc 9 1, 3) := by decide +kernel
theorem dX5_practice_156 : decode cX5_practice 156 = .ok (.goto (-61), 3) := by decide +kernel
theorem dX5_practice_159 : decode cX5_practice 159 = .ok (.iinc 8 1, 3) := by decide +kernel
theorem dX5_practice_162 : decode cX5_practice 162 = .ok (.goto (-84), 3) := by decide +kernel
theorem dX5_practice_165 : decode cX5_practice 165 = .ok (.iload 4, 2) := by decide +kernel
theorem dX5_practice_167 : decode cX5_practice 167 = .ok (.ifCond .ne 8, 3) := by decide +kernel
theorem dX5_practice_170 : decode cX5_practice 170 = .ok (.iload 6, 2) := by decide +kernel
theorem dX5_practice_172 : decode cX5_practice 172 = .ok (.goto 5, 3) := by decide +kernel
theorem dX5_practice_175 : decode cX5_practice 175 = .ok (.iload 7, 2) := by decide +kernel
theorem dX5_practice_177 : decode cX5_practice 177 = .ok (.ireturn, 1) := by decide +kernel
theorem dX5_standsWith_0 : decode cX5_standsWith 0 = .ok (.aload_n 0, 1) := by decide +kernel
theorem dX5_standsWith_1 : decode cX5_standsWith 1 = .ok (.getfield 34, 3) := by decide +kernel
theorem dX5_standsWith_4 : decode cX5_standsWith 4 = .ok (.aload_n 0, 1) := by decide +kernel
theorem dX5_standsWith_5 : decode cX5_standsWith 5 = .ok (.getfield 10, 3) := by decide +kernel
theorem dX5_standsWith_8 : decode cX5_standsWith 8 = .ok (.iload_n 1, 1) := by decide +kernel
theorem dX5_standsWith_9 : decode cX5_standsWith 9 = .ok (.iload_n 2, 1) := by decide +kernel
theorem dX5_standsWith_10 : decode cX5_standsWith 10 = .ok (.invokevirtual 100, 3) := by decide +kernel
theorem dX5_standsWith_13 : decode cX5_standsWith 13 = .ok (.aload_n 0, 1) := by decide +kernel
theorem dX5_standsWith_14 : decode cX5_standsWith 14 = .ok (.getfield 34, 3) := by decide +kernel
theorem dX5_standsWith_17 : decode cX5_standsWith 17 = .ok (.iload_n 3, 1) := by decide +kernel
theorem dX5_standsWith_18 : decode cX5_standsWith 18 = .ok (.iload 4, 2) := by decide +kernel
theorem dX5_standsWith_20 : decode cX5_standsWith 20 = .ok (.invokevirtual 178, 3) := by decide +kernel
theorem dX5_standsWith_23 : decode cX5_standsWith 23 = .ok (.aload_n 0, 1) := by decide +kernel
theorem dX5_standsWith_24 : decode cX5_standsWith 24 = .ok (.getfield 34, 3) := by decide +kernel
theorem dX5_standsWith_27 : decode cX5_standsWith 27 = .ok (.iload 5, 2) := by decide +kernel
theorem dX5_standsWith_29 : decode cX5_standsWith 29 = .ok (.invokevirtual 133, 3) := by decide +kernel
theorem dX5_standsWith_32 : decode cX5_standsWith 32 = .ok (.ireturn, 1) := by decide +kernel
theorem dX5_scarf_0 : decode cX5_scarf 0 = .ok (.aload_n 0, 1) := by decide +kernel
theorem dX5_scarf_1 : decode cX5_scarf 1 = .ok (.getfield 10, 3) := by decide +kernel
theorem dX5_scarf_4 : decode cX5_scarf 4 = .ok (.iload_n 1, 1) := by decide +kernel
theorem dX5_scarf_5 : decode cX5_scarf 5 = .ok (.iload_n 2, 1) := by decide +kernel
theorem dX5_scarf_6 : decode cX5_scarf 6 = .ok (.invokevirtual 96, 3) := by decide +kernel
theorem dX5_scarf_9 : decode cX5_scarf 9 = .ok (.ifCond .ne 5, 3) := by decide +kernel
theorem dX5_scarf_12 : decode cX5_scarf 12 = .ok (.iconst (-1), 1) := by decide +kernel
theorem dX5_scarf_13 : decode cX5_scarf 13 = .ok (.ireturn, 1) := by decide +kernel
theorem dX5_scarf_14 : decode cX5_scarf 14 = .ok (.iload_n 3, 1) := by decide +kernel
theorem dX5_scarf_15 : decode cX5_scarf 15 = .ok (.invokestatic 140, 3) := by decide +kernel
theorem dX5_scarf_18 : decode cX5_scarf 18 = .ok (.ifCond .eq 15, 3) := by decide +kernel
theorem dX5_scarf_21 : decode cX5_scarf 21 = .ok (.iload 4, 2) := by decide +kernel
theorem dX5_scarf_23 : decode cX5_scarf 23 = .ok (.iconst 0, 1) := by decide +kernel
theorem dX5_scarf_24 : decode cX5_scarf 24 = .ok (.sipush 9999, 3) := by decide +kernel
theorem dX5_scarf_27 : decode cX5_scarf 27 = .ok (.invokestatic 56, 3) := by decide +kernel
theorem dX5_scarf_30 : decode cX5_scarf 30 = .ok (.ifCond .ne 6, 3) := by decide +kernel
theorem dX5_scarf_33 : decode cX5_scarf 33 = .ok (.bipush (-2), 2) := by decide +kernel
theorem dX5_scarf_35 : decode cX5_scarf 35 = .ok (.ireturn, 1) := by decide +kernel
theorem dX5_scarf_36 : decode cX5_scarf 36 = .ok (.iconst 0, 1) := by decide +kernel
theorem dX5_scarf_37 : decode cX5_scarf 37 = .ok (.istore 5, 2) := by decide +kernel
theorem dX5_scarf_39 : decode cX5_scarf 39 = .ok (.iload 5, 2) := by decide +kernel
theorem dX5_scarf_41 : decode cX5_scarf 41 = .ok (.aload_n 0, 1) := by decide +kernel
theorem dX5_scarf_42 : decode cX5_scarf 42 = .ok (.getfield 10, 3) := by decide +kernel
theorem dX5_scarf_45 : decode cX5_scarf 45 = .ok (.getfield 86, 3) := by decide +kernel
theorem dX5_scarf_48 : decode cX5_scarf 48 = .ok (.if_icmp .gt 59, 3) := by decide +kernel
theorem dX5_scarf_51 : decode cX5_scarf 51 = .ok (.aload_n 0, 1) := by decide +kernel
theorem dX5_scarf_52 : decode cX5_scarf 52 = .ok (.getfield 34, 3) := by decide +kernel
theorem dX5_scarf_55 : decode cX5_scarf 55 = .ok (.aload_n 0, 1) := by decide +kernel
theorem dX5_scarf_56 : decode cX5_scarf 56 = .ok (.getfield 10, 3) := by decide +kernel
theorem dX5_scarf_59 : decode cX5_scarf 59 = .ok (.iload_n 1, 1) := by decide +kernel
theorem dX5_scarf_60 : decode cX5_scarf 60 = .ok (.iload_n 2, 1) := by decide +kernel
theorem dX5_scarf_61 : decode cX5_scarf 61 = .ok (.invokevirtual 100, 3) := by decide +kernel
theorem dX5_scarf_64 : decode cX5_scarf 64 = .ok (.aload_n 0, 1) := by decide +kernel
theorem dX5_scarf_65 : decode cX5_scarf 65 = .ok (.getfield 34, 3) := by decide +kernel
theorem dX5_scarf_68 : decode cX5_scarf 68 = .ok (.iload 5, 2) := by decide +kernel
theorem dX5_scarf_70 : decode cX5_scarf 70 = .ok (.putfield 187, 3) := by decide +kernel
theorem dX5_scarf_73 : decode cX5_scarf 73 = .ok (.aload_n 0, 1) := by decide +kernel
theorem dX5_scarf_74 : decode cX5_scarf 74 = .ok (.getfield 34, 3) := by decide +kernel
theorem dX5_scarf_77 : decode cX5_scarf 77 = .ok (.iload_n 3, 1) := by decide +kernel
theorem dX5_scarf_78 : decode cX5_scarf 78 = .ok (.iconst (-1), 1) := by decide +kernel
theorem dX5_scarf_79 : decode cX5_scarf 79 = .ok (.invokevirtual 168, 3) := by decide +kernel
theorem dX5_scarf_82 : decode cX5_scarf 82 = .ok (.istore 6, 2) := by decide +kernel
theorem dX5_scarf_84 : decode cX5_scarf 84 = .ok (.iload 6, 2) := by decide +kernel
theorem dX5_scarf_86 : decode cX5_scarf 86 = .ok (.bipush (-6), 2) := by decide +kernel
theorem dX5_scarf_88 : decode cX5_scarf 88 = .ok (.if_icmp .eq 13, 3) := by decide +kernel
theorem dX5_scarf_91 : decode cX5_scarf 91 = .ok (.iload 6, 2) := by decide +kernel
theorem dX5_scarf_93 : decode cX5_scarf 93 = .ok (.iload 4, 2) := by decide +kernel
theorem dX5_scarf_95 : decode cX5_scarf 95 = .ok (.if_icmp .gt 6, 3) := by decide +kernel
theorem dX5_scarf_98 : decode cX5_scarf 98 = .ok (.iload 5, 2) := by decide +kernel
theorem dX5_scarf_100 : decode cX5_scarf 100 = .ok (.ireturn, 1) := by decide +kernel
theorem dX5_scarf_101 : decode cX5_scarf 101 = .ok (.iinc 5 1, 3) := by decide +kernel
theorem dX5_scarf_104 : decode cX5_scarf 104 = .ok (.goto (-65), 3) := by decide +kernel
theorem dX5_scarf_107 : decode cX5_scarf 107 = .ok (.bipush (-6), 2) := by decide +kernel
theorem dX5_scarf_109 : decode cX5_scarf 109 = .ok (.ireturn, 1) := by decide +kernel
theorem dX5_even_0 : decode cX5_even 0 = .ok (.aload_n 0, 1) := by decide +kernel
theorem dX5_even_1 : decode cX5_even 1 = .ok (.getfield 10, 3) := by decide +kernel
theorem dX5_even_4 : decode cX5_even 4 = .ok (.iload_n 1, 1) := by decide +kernel
theorem dX5_even_5 : decode cX5_even 5 = .ok (.iload_n 2, 1) := by decide +kernel
theorem dX5_even_6 : decode cX5_even 6 = .ok (.invokevirtual 96, 3) := by decide +kernel
theorem dX5_even_9 : decode cX5_even 9 = .ok (.ifCond .eq 16, 3) := by decide +kernel
theorem dX5_even_12 : decode cX5_even 12 = .ok (.aload_n 0, 1) := by decide +kernel
theorem dX5_even_13 : decode cX5_even 13 = .ok (.getfield 10, 3) := by decide +kernel
theorem dX5_even_16 : decode cX5_even 16 = .ok (.iload_n 3, 1) := by decide +kernel
theorem dX5_even_17 : decode cX5_even 17 = .ok (.iload 4, 2) := by decide +kernel
theorem dX5_even_19 : decode cX5_even 19 = .ok (.invokevirtual 96, 3) := by decide +kernel
theorem dX5_even_22 : decode cX5_even 22 = .ok (.ifCond .ne 5, 3) := by decide +kernel
theorem dX5_even_25 : decode cX5_even 25 = .ok (.iconst (-1), 1) := by decide +kernel
theorem dX5_even_26 : decode cX5_even 26 = .ok (.ireturn, 1) := by decide +kernel
theorem dX5_even_27 : decode cX5_even 27 = .ok (.iload 5, 2) := by decide +kernel
theorem dX5_even_29 : decode cX5_even 29 = .ok (.invokestatic 140, 3) := by decide +kernel
theorem dX5_even_32 : decode cX5_even 32 = .ok (.ifCond .ne 6, 3) := by decide +kernel
theorem dX5_even_35 : decode cX5_even 35 = .ok (.bipush (-2), 2) := by decide +kernel
theorem dX5_even_37 : decode cX5_even 37 = .ok (.ireturn, 1) := by decide +kernel
theorem dX5_even_38 : decode cX5_even 38 = .ok (.aload_n 0, 1) := by decide +kernel
theorem dX5_even_39 : decode cX5_even 39 = .ok (.iload_n 3, 1) := by decide +kernel
theorem dX5_even_40 : decode cX5_even 40 = .ok (.iload 4, 2) := by decide +kernel
theorem dX5_even_42 : decode cX5_even 42 = .ok (.iload 5, 2) := by decide +kernel
theorem dX5_even_44 : decode cX5_even 44 = .ok (.invokevirtual 126, 3) := by decide +kernel
theorem dX5_even_47 : decode cX5_even 47 = .ok (.istore 6, 2) := by decide +kernel
theorem dX5_even_49 : decode cX5_even 49 = .ok (.iload 6, 2) := by decide +kernel
theorem dX5_even_51 : decode cX5_even 51 = .ok (.bipush (-6), 2) := by decide +kernel
theorem dX5_even_53 : decode cX5_even 53 = .ok (.if_icmp .ne 6, 3) := by decide +kernel
theorem dX5_even_56 : decode cX5_even 56 = .ok (.bipush (-6), 2) := by decide +kernel
theorem dX5_even_58 : decode cX5_even 58 = .ok (.ireturn, 1) := by decide +kernel
theorem dX5_even_59 : decode cX5_even 59 = .ok (.aload_n 0, 1) := by decide +kernel
theorem dX5_even_60 : decode cX5_even 60 = .ok (.getfield 34, 3) := by decide +kernel
theorem dX5_even_63 : decode cX5_even 63 = .ok (.aload_n 0, 1) := by decide +kernel
theorem dX5_even_64 : decode cX5_even 64 = .ok (.getfield 10, 3) := by decide +kernel
theorem dX5_even_67 : decode cX5_even 67 = .ok (.iload_n 1, 1) := by decide +kernel
theorem dX5_even_68 : decode cX5_even 68 = .ok (.iload_n 2, 1) := by decide +kernel
theorem dX5_even_69 : decode cX5_even 69 = .ok (.invokevirtual 100, 3) := by decide +kernel
theorem dX5_even_72 : decode cX5_even 72 = .ok (.iconst 0, 1) := by decide +kernel
theorem dX5_even_73 : decode cX5_even 73 = .ok (.iload 5, 2) := by decide +kernel
theorem dX5_even_75 : decode cX5_even 75 = .ok (.aload_n 0, 1) := by decide +kernel
theorem dX5_even_76 : decode cX5_even 76 = .ok (.getfield 34, 3) := by decide +kernel
theorem dX5_even_79 : decode cX5_even 79 = .ok (.iload 6, 2) := by decide +kernel
theorem dX5_even_81 : decode cX5_even 81 = .ok (.invokevirtual 188, 3) := by decide +kernel
theorem dX5_even_84 : decode cX5_even 84 = .ok (.isub, 1) := by decide +kernel
theorem dX5_even_85 : decode cX5_even 85 = .ok (.invokestatic 191, 3) := by decide +kernel
theorem dX5_even_88 : decode cX5_even 88 = .ok (.ireturn, 1) := by decide +kernel
theorem dX5_say_0 : decode cX5_say 0 = .ok (.iload_n 1, 1) := by decide +kernel
theorem dX5_say_1 : decode cX5_say 1 = .ok (.bipush 33, 2) := by decide +kernel
theorem dX5_say_3 : decode cX5_say 3 = .ok (.bipush 126, 2) := by decide +kernel
theorem dX5_say_5 : decode cX5_say 5 = .ok (.invokestatic 56, 3) := by decide +kernel
theorem dX5_say_8 : decode cX5_say 8 = .ok (.ifCond .ne 6, 3) := by decide +kernel
theorem dX5_say_11 : decode cX5_say 11 = .ok (.bipush (-2), 2) := by decide +kernel
theorem dX5_say_13 : decode cX5_say 13 = .ok (.ireturn, 1) := by decide +kernel
theorem dX5_say_14 : decode cX5_say 14 = .ok (.aload_n 0, 1) := by decide +kernel
theorem dX5_say_15 : decode cX5_say 15 = .ok (.getfield 27, 3) := by decide +kernel
theorem dX5_say_18 : decode cX5_say 18 = .ok (.getfield 196, 3) := by decide +kernel
theorem dX5_say_21 : decode cX5_say 21 = .ok (.bipush 40, 2) := by decide +kernel
theorem dX5_say_23 : decode cX5_say 23 = .ok (.if_icmp .lt 6, 3) := by decide +kernel
theorem dX5_say_26 : decode cX5_say 26 = .ok (.bipush (-4), 2) := by decide +kernel
theorem dX5_say_28 : decode cX5_say 28 = .ok (.ireturn, 1) := by decide +kernel
theorem dX5_say_29 : decode cX5_say 29 = .ok (.aload_n 0, 1) := by decide +kernel
theorem dX5_say_30 : decode cX5_say 30 = .ok (.getfield 27, 3) := by decide +kernel
theorem dX5_say_33 : decode cX5_say 33 = .ok (.iload_n 1, 1) := by decide +kernel
theorem dX5_say_34 : decode cX5_say 34 = .ok (.invokevirtual 198, 3) := by decide +kernel
theorem dX5_say_37 : decode cX5_say 37 = .ok (.aload_n 0, 1) := by decide +kernel
theorem dX5_say_38 : decode cX5_say 38 = .ok (.getfield 27, 3) := by decide +kernel
theorem dX5_say_41 : decode cX5_say 41 = .ok (.getfield 196, 3) := by decide +kernel
theorem dX5_say_44 : decode cX5_say 44 = .ok (.ireturn, 1) := by decide +kernel
theorem dX5_wipe_0 : decode cX5_wipe 0 = .ok (.aload_n 0, 1) := by decide +kernel
theorem dX5_wipe_1 : decode cX5_wipe 1 = .ok (.getfield 27, 3) := by decide +kernel
theorem dX5_wipe_4 : decode cX5_wipe 4 = .ok (.getfield 196, 3) := by decide +kernel
theorem dX5_wipe_7 : decode cX5_wipe 7 = .ok (.istore_n 1, 1) := by decide +kernel
theorem dX5_wipe_8 : decode cX5_wipe 8 = .ok (.aload_n 0, 1) := by decide +kernel
theorem dX5_wipe_9 : decode cX5_wipe 9 = .ok (.getfield 27, 3) := by decide +kernel
theorem dX5_wipe_12 : decode cX5_wipe 12 = .ok (.iconst 0, 1) := by decide +kernel
theorem dX5_wipe_13 : decode cX5_wipe 13 = .ok (.putfield 196, 3) := by decide +kernel
theorem dX5_wipe_16 : decode cX5_wipe 16 = .ok (.iload_n 1, 1) := by decide +kernel
theorem dX5_wipe_17 : decode cX5_wipe 17 = .ok (.ireturn, 1) := by decide +kernel
theorem dX5_fault_0 : decode cX5_fault 0 = .ok (.aload_n 0, 1) := by decide +kernel
theorem dX5_fault_1 : decode cX5_fault 1 = .ok (.getfield 27, 3) := by decide +kernel
theorem dX5_fault_4 : decode cX5_fault 4 = .ok (.invokevirtual 201, 3) := by decide +kernel
theorem dX5_fault_7 : decode cX5_fault 7 = .ok (.ireturn, 1) := by decide +kernel
theorem dX5_judge_0 : decode cX5_judge 0 = .ok (.aload_n 0, 1) := by decide +kernel
theorem dX5_judge_1 : decode cX5_judge 1 = .ok (.getfield 10, 3) := by decide +kernel
theorem dX5_judge_4 : decode cX5_judge 4 = .ok (.iload_n 1, 1) := by decide +kernel
theorem dX5_judge_5 : decode cX5_judge 5 = .ok (.iload_n 2, 1) := by decide +kernel
theorem dX5_judge_6 : decode cX5_judge 6 = .ok (.invokevirtual 96, 3) := by decide +kernel
theorem dX5_judge_9 : decode cX5_judge 9 = .ok (.ifCond .ne 5, 3) := by decide +kernel
theorem dX5_judge_12 : decode cX5_judge 12 = .ok (.iconst (-1), 1) := by decide +kernel
theorem dX5_judge_13 : decode cX5_judge 13 = .ok (.ireturn, 1) := by decide +kernel
theorem dX5_judge_14 : decode cX5_judge 14 = .ok (.aload_n 0, 1) := by decide +kernel
theorem dX5_judge_15 : decode cX5_judge 15 = .ok (.getfield 27, 3) := by decide +kernel
theorem dX5_judge_18 : decode cX5_judge 18 = .ok (.invokevirtual 201, 3) := by decide +kernel
theorem dX5_judge_21 : decode cX5_judge 21 = .ok (.bipush (-6), 2) := by decide +kernel
theorem dX5_judge_23 : decode cX5_judge 23 = .ok (.if_icmp .eq 6, 3) := by decide +kernel
theorem dX5_judge_26 : decode cX5_judge 26 = .ok (.bipush (-5), 2) := by decide +kernel
theorem dX5_judge_28 : decode cX5_judge 28 = .ok (.ireturn, 1) := by decide +kernel
theorem dX5_judge_29 : decode cX5_judge 29 = .ok (.aload_n 0, 1) := by decide +kernel
theorem dX5_judge_30 : decode cX5_judge 30 = .ok (.iload_n 1, 1) := by decide +kernel
theorem dX5_judge_31 : decode cX5_judge 31 = .ok (.iload_n 2, 1) := by decide +kernel
theorem dX5_judge_32 : decode cX5_judge 32 = .ok (.invokevirtual 204, 3) := by decide +kernel
theorem dX5_judge_35 : decode cX5_judge 35 = .ok (.ireturn, 1) := by decide +kernel
theorem dX5_fits_0 : decode cX5_fits 0 = .ok (.aload_n 0, 1) := by decide +kernel
theorem dX5_fits_1 : decode cX5_fits 1 = .ok (.getfield 27, 3) := by decide +kernel
theorem dX5_fits_4 : decode cX5_fits 4 = .ok (.invokevirtual 201, 3) := by decide +kernel
theorem dX5_fits_7 : decode cX5_fits 7 = .ok (.bipush (-6), 2) := by decide +kernel
theorem dX5_fits_9 : decode cX5_fits 9 = .ok (.if_icmp .eq 6, 3) := by decide +kernel
theorem dX5_fits_12 : decode cX5_fits 12 = .ok (.bipush (-5), 2) := by decide +kernel
theorem dX5_fits_14 : decode cX5_fits 14 = .ok (.ireturn, 1) := by decide +kernel
theorem dX5_fits_15 : decode cX5_fits 15 = .ok (.iconst 0, 1) := by decide +kernel
theorem dX5_fits_16 : decode cX5_fits 16 = .ok (.istore_n 2, 1) := by decide +kernel
theorem dX5_fits_17 : decode cX5_fits 17 = .ok (.iconst 0, 1) := by decide +kernel
theorem dX5_fits_18 : decode cX5_fits 18 = .ok (.istore_n 3, 1) := by decide +kernel
theorem dX5_fits_19 : decode cX5_fits 19 = .ok (.iload_n 3, 1) := by decide +kernel
theorem dX5_fits_20 : decode cX5_fits 20 = .ok (.bipush 8, 2) := by decide +kernel
theorem dX5_fits_22 : decode cX5_fits 22 = .ok (.if_icmp .ge 68, 3) := by decide +kernel
theorem dX5_fits_25 : decode cX5_fits 25 = .ok (.iload_n 3, 1) := by decide +kernel
theorem dX5_fits_26 : decode cX5_fits 26 = .ok (.iconst 1, 1) := by decide +kernel
theorem dX5_fits_27 : decode cX5_fits 27 = .ok (.iadd, 1) := by decide +kernel
theorem dX5_fits_28 : decode cX5_fits 28 = .ok (.istore 4, 2) := by decide +kernel
theorem dX5_fits_30 : decode cX5_fits 30 = .ok (.iload 4, 2) := by decide +kernel
theorem dX5_fits_32 : decode cX5_fits 32 = .ok (.bipush 8, 2) := by decide +kernel
theorem dX5_fits_34 : decode cX5_fits 34 = .ok (.if_icmp .ge 50, 3) := by decide +kernel
theorem dX5_fits_37 : decode cX5_fits 37 = .ok (.aload_n 0, 1) := by decide +kernel
theorem dX5_fits_38 : decode cX5_fits 38 = .ok (.getfield 10, 3) := by decide +kernel
theorem dX5_fits_41 : decode cX5_fits 41 = .ok (.iload_n 3, 1) := by decide +kernel
theorem dX5_fits_42 : decode cX5_fits 42 = .ok (.iload 4, 2) := by decide +kernel
theorem dX5_fits_44 : decode cX5_fits 44 = .ok (.invokevirtual 96, 3) := by decide +kernel
theorem dX5_fits_47 : decode cX5_fits 47 = .ok (.ifCond .eq 31, 3) := by decide +kernel
theorem dX5_fits_50 : decode cX5_fits 50 = .ok (.aload_n 0, 1) := by decide +kernel
theorem dX5_fits_51 : decode cX5_fits 51 = .ok (.iload_n 3, 1) := by decide +kernel
theorem dX5_fits_52 : decode cX5_fits 52 = .ok (.iload 4, 2) := by decide +kernel
theorem dX5_fits_54 : decode cX5_fits 54 = .ok (.invokevirtual 204, 3) := by decide +kernel
theorem dX5_fits_57 : decode cX5_fits 57 = .ok (.bipush (-6), 2) := by decide +kernel
theorem dX5_fits_59 : decode cX5_fits 59 = .ok (.if_icmp .ne 19, 3) := by decide +kernel
theorem dX5_fits_62 : decode cX5_fits 62 = .ok (.iload_n 2, 1) := by decide +kernel
theorem dX5_fits_63 : decode cX5_fits 63 = .ok (.iload_n 1, 1) := by decide +kernel
theorem dX5_fits_64 : decode cX5_fits 64 = .ok (.if_icmp .ne 11, 3) := by decide +kernel
theorem dX5_fits_67 : decode cX5_fits 67 = .ok (.bipush 10, 2) := by decide +kernel
theorem dX5_fits_69 : decode cX5_fits 69 = .ok (.iload_n 3, 1) := by decide +kernel
theorem dX5_fits_70 : decode cX5_fits 70 = .ok (.imul, 1) := by decide +kernel
theorem dX5_fits_71 : decode cX5_fits 71 = .ok (.iload 4, 2) := by decide +kernel
theorem dX5_fits_73 : decode cX5_fits 73 = .ok (.iadd, 1) := by decide +kernel
theorem dX5_fits_74 : decode cX5_fits 74 = .ok (.ireturn, 1) := by decide +kernel
theorem dX5_fits_75 : decode cX5_fits 75 = .ok (.iinc 2 1, 3) := by decide +kernel
theorem dX5_fits_78 : decode cX5_fits 78 = .ok (.iinc 4 1, 3) := by decide +kernel
theorem dX5_fits_81 : decode cX5_fits 81 = .ok (.goto (-51), 3) := by decide +kernel
theorem dX5_fits_84 : decode cX5_fits 84 = .ok (.iinc 3 1, 3) := by decide +kernel
theorem dX5_fits_87 : decode cX5_fits 87 = .ok (.goto (-68), 3) := by decide +kernel
theorem dX5_fits_90 : decode cX5_fits 90 = .ok (.iload_n 1, 1) := by decide +kernel
theorem dX5_fits_91 : decode cX5_fits 91 = .ok (.iconst (-1), 1) := by decide +kernel
theorem dX5_fits_92 : decode cX5_fits 92 = .ok (.if_icmp .ne 7, 3) := by decide +kernel
theorem dX5_fits_95 : decode cX5_fits 95 = .ok (.iload_n 2, 1) := by decide +kernel
theorem dX5_fits_96 : decode cX5_fits 96 = .ok (.goto 5, 3) := by decide +kernel
theorem dX5_fits_99 : decode cX5_fits 99 = .ok (.bipush (-6), 2) := by decide +kernel
theorem dX5_fits_101 : decode cX5_fits 101 = .ok (.ireturn, 1) := by decide +kernel
theorem dX5_year_0 : decode cX5_year 0 = .ok (.iload_n 1, 1) := by decide +kernel
theorem dX5_year_1 : decode cX5_year 1 = .ok (.iconst 0, 1) := by decide +kernel
theorem dX5_year_2 : decode cX5_year 2 = .ok (.sipush 9999, 3) := by decide +kernel
theorem dX5_year_5 : decode cX5_year 5 = .ok (.invokestatic 56, 3) := by decide +kernel
theorem dX5_year_8 : decode cX5_year 8 = .ok (.ifCond .eq 31, 3) := by decide +kernel
theorem dX5_year_11 : decode cX5_year 11 = .ok (.iload_n 2, 1) := by decide +kernel
theorem dX5_year_12 : decode cX5_year 12 = .ok (.iconst 1, 1) := by decide +kernel
theorem dX5_year_13 : decode cX5_year 13 = .ok (.bipush 99, 2) := by decide +kernel
theorem dX5_year_15 : decode cX5_year 15 = .ok (.invokestatic 56, 3) := by decide +kernel
theorem dX5_year_18 : decode cX5_year 18 = .ok (.ifCond .eq 21, 3) := by decide +kernel
theorem dX5_year_21 : decode cX5_year 21 = .ok (.iload_n 3, 1) := by decide +kernel
theorem dX5_year_22 : decode cX5_year 22 = .ok (.invokestatic 140, 3) := by decide +kernel
theorem dX5_year_25 : decode cX5_year 25 = .ok (.ifCond .eq 14, 3) := by decide +kernel
theorem dX5_year_28 : decode cX5_year 28 = .ok (.iload 4, 2) := by decide +kernel
theorem dX5_year_30 : decode cX5_year 30 = .ok (.iconst (-1), 1) := by decide +kernel
theorem dX5_year_31 : decode cX5_year 31 = .ok (.bipush 8, 2) := by decide +kernel
theorem dX5_year_33 : decode cX5_year 33 = .ok (.invokestatic 56, 3) := by decide +kernel
theorem dX5_year_36 : decode cX5_year 36 = .ok (.ifCond .ne 6, 3) := by decide +kernel
theorem dX5_year_39 : decode cX5_year 39 = .ok (.bipush (-2), 2) := by decide +kernel
theorem dX5_year_41 : decode cX5_year 41 = .ok (.ireturn, 1) := by decide +kernel
theorem dX5_year_42 : decode cX5_year 42 = .ok (.aload_n 0, 1) := by decide +kernel
theorem dX5_year_43 : decode cX5_year 43 = .ok (.iload_n 3, 1) := by decide +kernel
theorem dX5_year_44 : decode cX5_year 44 = .ok (.invokevirtual 149, 3) := by decide +kernel
theorem dX5_year_47 : decode cX5_year 47 = .ok (.aload_n 0, 1) := by decide +kernel
theorem dX5_year_48 : decode cX5_year 48 = .ok (.getfield 48, 3) := by decide +kernel
theorem dX5_year_51 : decode cX5_year 51 = .ok (.invokevirtual 162, 3) := by decide +kernel
theorem dX5_year_54 : decode cX5_year 54 = .ok (.iconst 0, 1) := by decide +kernel
theorem dX5_year_55 : decode cX5_year 55 = .ok (.istore 5, 2) := by decide +kernel
theorem dX5_year_57 : decode cX5_year 57 = .ok (.iconst 0, 1) := by decide +kernel
theorem dX5_year_58 : decode cX5_year 58 = .ok (.istore 6, 2) := by decide +kernel
theorem dX5_year_60 : decode cX5_year 60 = .ok (.iload_n 1, 1) := by decide +kernel
theorem dX5_year_61 : decode cX5_year 61 = .ok (.istore 7, 2) := by decide +kernel
theorem dX5_year_63 : decode cX5_year 63 = .ok (.iconst 0, 1) := by decide +kernel
theorem dX5_year_64 : decode cX5_year 64 = .ok (.istore 8, 2) := by decide +kernel
theorem dX5_year_66 : decode cX5_year 66 = .ok (.iload 8, 2) := by decide +kernel
theorem dX5_year_68 : decode cX5_year 68 = .ok (.iload_n 2, 1) := by decide +kernel
theorem dX5_year_69 : decode cX5_year 69 = .ok (.if_icmp .ge 113, 3) := by decide +kernel
theorem dX5_year_72 : decode cX5_year 72 = .ok (.bipush 75, 2) := by decide +kernel
theorem dX5_year_74 : decode cX5_year 74 = .ok (.iload 7, 2) := by decide +kernel
theorem dX5_year_76 : decode cX5_year 76 = .ok (.imul, 1) := by decide +kernel
theorem dX5_year_77 : decode cX5_year 77 = .ok (.bipush 74, 2) := by decide +kernel
theorem dX5_year_79 : decode cX5_year 79 = .ok (.iadd, 1) := by decide +kernel
theorem dX5_year_80 : decode cX5_year 80 = .ok (.ldc 207, 2) := by decide +kernel
theorem dX5_year_82 : decode cX5_year 82 = .ok (.irem, 1) := by decide +kernel
theorem dX5_year_83 : decode cX5_year 83 = .ok (.istore 7, 2) := by decide +kernel
theorem dX5_year_85 : decode cX5_year 85 = .ok (.iload 7, 2) := by decide +kernel
theorem dX5_year_87 : decode cX5_year 87 = .ok (.bipush 8, 2) := by decide +kernel
theorem dX5_year_89 : decode cX5_year 89 = .ok (.irem, 1) := by decide +kernel
theorem dX5_year_90 : decode cX5_year 90 = .ok (.istore 9, 2) := by decide +kernel
theorem dX5_year_92 : decode cX5_year 92 = .ok (.iload 7, 2) := by decide +kernel
theorem dX5_year_94 : decode cX5_year 94 = .ok (.bipush 8, 2) := by decide +kernel
theorem dX5_year_96 : decode cX5_year 96 = .ok (.idiv, 1) := by decide +kernel
theorem dX5_year_97 : decode cX5_year 97 = .ok (.bipush 8, 2) := by decide +kernel
theorem dX5_year_99 : decode cX5_year 99 = .ok (.irem, 1) := by decide +kernel
theorem dX5_year_100 : decode cX5_year 100 = .ok (.istore 10, 2) := by decide +kernel
theorem dX5_year_102 : decode cX5_year 102 = .ok (.aload_n 0, 1) := by decide +kernel
theorem dX5_year_103 : decode cX5_year 103 = .ok (.getfield 10, 3) := by decide +kernel
theorem dX5_year_106 : decode cX5_year 106 = .ok (.iload 9, 2) := by decide +kernel
theorem dX5_year_108 : decode cX5_year 108 = .ok (.iload 10, 2) := by decide +kernel
theorem dX5_year_110 : decode cX5_year 110 = .ok (.invokevirtual 96, 3) := by decide +kernel
theorem dX5_year_113 : decode cX5_year 113 = .ok (.ifCond .eq 63, 3) := by decide +kernel
theorem dX5_year_116 : decode cX5_year 116 = .ok (.aload_n 0, 1) := by decide +kernel
theorem dX5_year_117 : decode cX5_year 117 = .ok (.getfield 52, 3) := by decide +kernel
theorem dX5_year_120 : decode cX5_year 120 = .ok (.bipush 8, 2) := by decide +kernel
theorem dX5_year_122 : decode cX5_year 122 = .ok (.iload 9, 2) := by decide +kernel
theorem dX5_year_124 : decode cX5_year 124 = .ok (.imul, 1) := by decide +kernel
theorem dX5_year_125 : decode cX5_year 125 = .ok (.iload 10, 2) := by decide +kernel
theorem dX5_year_127 : decode cX5_year 127 = .ok (.iadd, 1) := by decide +kernel
theorem dX5_year_128 : decode cX5_year 128 = .ok (.iaload, 1) := by decide +kernel
theorem dX5_year_129 : decode cX5_year 129 = .ok (.istore 11, 2) := by decide +kernel
theorem dX5_year_131 : decode cX5_year 131 = .ok (.iinc 5 1, 3) := by decide +kernel
theorem dX5_year_134 : decode cX5_year 134 = .ok (.iload 6, 2) := by decide +kernel
theorem dX5_year_136 : decode cX5_year 136 = .ok (.iload 11, 2) := by decide +kernel
theorem dX5_year_138 : decode cX5_year 138 = .ok (.bipush (-6), 2) := by decide +kernel
theorem dX5_year_140 : decode cX5_year 140 = .ok (.if_icmp .eq 21, 3) := by decide +kernel
theorem dX5_year_143 : decode cX5_year 143 = .ok (.iload 9, 2) := by decide +kernel
theorem dX5_year_145 : decode cX5_year 145 = .ok (.iload 4, 2) := by decide +kernel
theorem dX5_year_147 : decode cX5_year 147 = .ok (.if_icmp .eq 10, 3) := by decide +kernel
theorem dX5_year_150 : decode cX5_year 150 = .ok (.iload 10, 2) := by decide +kernel
theorem dX5_year_152 : decode cX5_year 152 = .ok (.iload 4, 2) := by decide +kernel
theorem dX5_year_154 : decode cX5_year 154 = .ok (.if_icmp .ne 7, 3) := by decide +kernel
theorem dX5_year_157 : decode cX5_year 157 = .ok (.iconst 1, 1) := by decide +kernel
theorem dX5_year_158 : decode cX5_year 158 = .ok (.goto 4, 3) := by decide +kernel
theorem dX5_year_161 : decode cX5_year 161 = .ok (.iconst 0, 1) := by decide +kernel
theorem dX5_year_162 : decode cX5_year 162 = .ok (.iadd, 1) := by decide +kernel
theorem dX5_year_163 : decode cX5_year 163 = .ok (.istore 6, 2) := by decide +kernel
theorem dX5_year_165 : decode cX5_year 165 = .ok (.aload_n 0, 1) := by decide +kernel
theorem dX5_year_166 : decode cX5_year 166 = .ok (.getfield 48, 3) := by decide +kernel
theorem dX5_year_169 : decode cX5_year 169 = .ok (.iload 8, 2) := by decide +kernel
theorem dX5_year_171 : decode cX5_year 171 = .ok (.iload 11, 2) := by decide +kernel
theorem dX5_year_173 : decode cX5_year 173 = .ok (.invokevirtual 171, 3) := by decide +kernel
theorem dX5_year_176 : decode cX5_year 176 = .ok (.iinc 8 1, 3) := by decide +kernel
theorem dX5_year_179 : decode cX5_year 179 = .ok (.goto (-113), 3) := by decide +kernel
theorem dX5_year_182 : decode cX5_year 182 = .ok (.iload 4, 2) := by decide +kernel
theorem dX5_year_184 : decode cX5_year 184 = .ok (.iconst (-1), 1) := by decide +kernel
theorem dX5_year_185 : decode cX5_year 185 = .ok (.if_icmp .ne 6, 3) := by decide +kernel
theorem dX5_year_188 : decode cX5_year 188 = .ok (.iload 5, 2) := by decide +kernel
theorem dX5_year_190 : decode cX5_year 190 = .ok (.ireturn, 1) := by decide +kernel
theorem dX5_year_191 : decode cX5_year 191 = .ok (.iload 4, 2) := by decide +kernel
theorem dX5_year_193 : decode cX5_year 193 = .ok (.bipush 8, 2) := by decide +kernel
theorem dX5_year_195 : decode cX5_year 195 = .ok (.if_icmp .ne 13, 3) := by decide +kernel
theorem dX5_year_198 : decode cX5_year 198 = .ok (.aload_n 0, 1) := by decide +kernel
theorem dX5_year_199 : decode cX5_year 199 = .ok (.getfield 48, 3) := by decide +kernel
theorem dX5_year_202 : decode cX5_year 202 = .ok (.getfield 208, 3) := by decide +kernel
theorem dX5_year_205 : decode cX5_year 205 = .ok (.goto 5, 3) := by decide +kernel
theorem dX5_year_208 : decode cX5_year 208 = .ok (.iload 6, 2) := by decide +kernel
theorem dX5_year_210 : decode cX5_year 210 = .ok (.ireturn, 1) := by decide +kernel
theorem dX5_image_0 : decode cX5_image 0 = .ok (.iload_n 1, 1) := by decide +kernel
theorem dX5_image_1 : decode cX5_image 1 = .ok (.iconst 0, 1) := by decide +kernel
theorem dX5_image_2 : decode cX5_image 2 = .ok (.iconst 1, 1) := by decide +kernel
theorem dX5_image_3 : decode cX5_image 3 = .ok (.invokestatic 56, 3) := by decide +kernel
theorem dX5_image_6 : decode cX5_image 6 = .ok (.ifCond .ne 6, 3) := by decide +kernel
theorem dX5_image_9 : decode cX5_image 9 = .ok (.bipush (-2), 2) := by decide +kernel
theorem dX5_image_11 : decode cX5_image 11 = .ok (.ireturn, 1) := by decide +kernel
theorem dX5_image_12 : decode cX5_image 12 = .ok (.aload_n 0, 1) := by decide +kernel
theorem dX5_image_13 : decode cX5_image 13 = .ok (.getfield 16, 3) := by decide +kernel
theorem dX5_image_16 : decode cX5_image 16 = .ok (.iload_n 1, 1) := by decide +kernel
theorem dX5_image_17 : decode cX5_image 17 = .ok (.aaload, 1) := by decide +kernel
theorem dX5_image_18 : decode cX5_image 18 = .ok (.aload_n 0, 1) := by decide +kernel
theorem dX5_image_19 : decode cX5_image 19 = .ok (.getfield 10, 3) := by decide +kernel
theorem dX5_image_22 : decode cX5_image 22 = .ok (.invokevirtual 210, 3) := by decide +kernel
theorem dX5_image_25 : decode cX5_image 25 = .ok (.aload_n 0, 1) := by decide +kernel
theorem dX5_image_26 : decode cX5_image 26 = .ok (.getfield 20, 3) := by decide +kernel
theorem dX5_image_29 : decode cX5_image 29 = .ok (.iload_n 1, 1) := by decide +kernel
theorem dX5_image_30 : decode cX5_image 30 = .ok (.iconst 1, 1) := by decide +kernel
theorem dX5_image_31 : decode cX5_image 31 = .ok (.bastore, 1) := by decide +kernel
theorem dX5_image_32 : decode cX5_image 32 = .ok (.iconst 1, 1) := by decide +kernel
theorem dX5_image_33 : decode cX5_image 33 = .ok (.ireturn, 1) := by decide +kernel
theorem dX5_restore_0 : decode cX5_restore 0 = .ok (.iload_n 1, 1) := by decide +kernel
theorem dX5_restore_1 : decode cX5_restore 1 = .ok (.iconst 0, 1) := by decide +kernel
theorem dX5_restore_2 : decode cX5_restore 2 = .ok (.iconst 1, 1) := by decide +kernel
theorem dX5_restore_3 : decode cX5_restore 3 = .ok (.invokestatic 56, 3) := by decide +kernel
theorem dX5_restore_6 : decode cX5_restore 6 = .ok (.ifCond .ne 6, 3) := by decide +kernel
theorem dX5_restore_9 : decode cX5_restore 9 = .ok (.bipush (-2), 2) := by decide +kernel
theorem dX5_restore_11 : decode cX5_restore 11 = .ok (.ireturn, 1) := by decide +kernel
theorem dX5_restore_12 : decode cX5_restore 12 = .ok (.aload_n 0, 1) := by decide +kernel
theorem dX5_restore_13 : decode cX5_restore 13 = .ok (.getfield 20, 3) := by decide +kernel
theorem dX5_restore_16 : decode cX5_restore 16 = .ok (.iload_n 1, 1) := by decide +kernel
theorem dX5_restore_17 : decode cX5_restore 17 = .ok (.baload, 1) := by decide +kernel
theorem dX5_restore_18 : decode cX5_restore 18 = .ok (.ifCond .ne 6, 3) := by decide +kernel
theorem dX5_restore_21 : decode cX5_restore 21 = .ok (.bipush (-3), 2) := by decide +kernel
theorem dX5_restore_23 : decode cX5_restore 23 = .ok (.ireturn, 1) := by decide +kernel
theorem dX5_restore_24 : decode cX5_restore 24 = .ok (.aload_n 0, 1) := by decide +kernel
theorem dX5_restore_25 : decode cX5_restore 25 = .ok (.getfield 10, 3) := by decide +kernel
theorem dX5_restore_28 : decode cX5_restore 28 = .ok (.aload_n 0, 1) := by decide +kernel
theorem dX5_restore_29 : decode cX5_restore 29 = .ok (.getfield 16, 3) := by decide +kernel
theorem dX5_restore_32 : decode cX5_restore 32 = .ok (.iload_n 1, 1) := by decide +kernel
theorem dX5_restore_33 : decode cX5_restore 33 = .ok (.aaload, 1) := by decide +kernel
theorem dX5_restore_34 : decode cX5_restore 34 = .ok (.invokevirtual 210, 3) := by decide +kernel
theorem dX5_restore_37 : decode cX5_restore 37 = .ok (.iconst 1, 1) := by decide +kernel
theorem dX5_restore_38 : decode cX5_restore 38 = .ok (.ireturn, 1) := by decide +kernel
theorem dX5_told_0 : decode cX5_told 0 = .ok (.iload_n 1, 1) := by decide +kernel
theorem dX5_told_1 : decode cX5_told 1 = .ok (.tableswitch 75 0 4 #[35, 43, 51, 59, 67], 35) := by decide +kernel
theorem dX5_told_36 : decode cX5_told 36 = .ok (.aload_n 0, 1) := by decide +kernel
theorem dX5_told_37 : decode cX5_told 37 = .ok (.getfield 27, 3) := by decide +kernel
theorem dX5_told_40 : decode cX5_told 40 = .ok (.getfield 196, 3) := by decide +kernel
theorem dX5_told_43 : decode cX5_told 43 = .ok (.ireturn, 1) := by decide +kernel
theorem dX5_told_44 : decode cX5_told 44 = .ok (.aload_n 0, 1) := by decide +kernel
theorem dX5_told_45 : decode cX5_told 45 = .ok (.getfield 10, 3) := by decide +kernel
theorem dX5_told_48 : decode cX5_told 48 = .ok (.invokevirtual 214, 3) := by decide +kernel
theorem dX5_told_51 : decode cX5_told 51 = .ok (.ireturn, 1) := by decide +kernel
theorem dX5_told_52 : decode cX5_told 52 = .ok (.aload_n 0, 1) := by decide +kernel
theorem dX5_told_53 : decode cX5_told 53 = .ok (.getfield 10, 3) := by decide +kernel
theorem dX5_told_56 : decode cX5_told 56 = .ok (.getfield 90, 3) := by decide +kernel
theorem dX5_told_59 : decode cX5_told 59 = .ok (.ireturn, 1) := by decide +kernel
theorem dX5_told_60 : decode cX5_told 60 = .ok (.aload_n 0, 1) := by decide +kernel
theorem dX5_told_61 : decode cX5_told 61 = .ok (.getfield 10, 3) := by decide +kernel
theorem dX5_told_64 : decode cX5_told 64 = .ok (.getfield 86, 3) := by decide +kernel
theorem dX5_told_67 : decode cX5_told 67 = .ok (.ireturn, 1) := by decide +kernel
theorem dX5_told_68 : decode cX5_told 68 = .ok (.aload_n 0, 1) := by decide +kernel
theorem dX5_told_69 : decode cX5_told 69 = .ok (.getfield 10, 3) := by decide +kernel
theorem dX5_told_72 : decode cX5_told 72 = .ok (.getfield 93, 3) := by decide +kernel
theorem dX5_told_75 : decode cX5_told 75 = .ok (.ireturn, 1) := by decide +kernel
theorem dX5_told_76 : decode cX5_told 76 = .ok (.aload_n 0, 1) := by decide +kernel
theorem dX5_told_77 : decode cX5_told 77 = .ok (.iload_n 1, 1) := by decide +kernel
theorem dX5_told_78 : decode cX5_told 78 = .ok (.bipush 10, 2) := by decide +kernel
theorem dX5_told_80 : decode cX5_told 80 = .ok (.idiv, 1) := by decide +kernel
theorem dX5_told_81 : decode cX5_told 81 = .ok (.iconst 1, 1) := by decide +kernel
theorem dX5_told_82 : decode cX5_told 82 = .ok (.isub, 1) := by decide +kernel
theorem dX5_told_83 : decode cX5_told 83 = .ok (.iload_n 1, 1) := by decide +kernel
theorem dX5_told_84 : decode cX5_told 84 = .ok (.bipush 10, 2) := by decide +kernel
theorem dX5_told_86 : decode cX5_told 86 = .ok (.irem, 1) := by decide +kernel
theorem dX5_told_87 : decode cX5_told 87 = .ok (.invokevirtual 217, 3) := by decide +kernel
theorem dX5_told_90 : decode cX5_told 90 = .ok (.ireturn, 1) := by decide +kernel
theorem dX5_toldOfPerson_0 : decode cX5_toldOfPerson 0 = .ok (.aload_n 0, 1) := by decide +kernel
theorem dX5_toldOfPerson_1 : decode cX5_toldOfPerson 1 = .ok (.getfield 10, 3) := by decide +kernel
theorem dX5_toldOfPerson_4 : decode cX5_toldOfPerson 4 = .ok (.iload_n 1, 1) := by decide +kernel
theorem dX5_toldOfPerson_5 : decode cX5_toldOfPerson 5 = .ok (.invokevirtual 68, 3) := by decide +kernel
theorem dX5_toldOfPerson_8 : decode cX5_toldOfPerson 8 = .ok (.ifCond .ne 6, 3) := by decide +kernel
theorem dX5_toldOfPerson_11 : decode cX5_toldOfPerson 11 = .ok (.bipush (-2), 2) := by decide +kernel
theorem dX5_toldOfPerson_13 : decode cX5_toldOfPerson 13 = .ok (.ireturn, 1) := by decide +kernel
theorem dX5_toldOfPerson_14 : decode cX5_toldOfPerson 14 = .ok (.iload_n 2, 1) := by decide +kernel
theorem dX5_toldOfPerson_15 : decode cX5_toldOfPerson 15 = .ok (.tableswitch 55 0 2 #[25, 35, 45], 25) := by decide +kernel
theorem dX5_toldOfPerson_40 : decode cX5_toldOfPerson 40 = .ok (.aload_n 0, 1) := by decide +kernel
theorem dX5_toldOfPerson_41 : decode cX5_toldOfPerson 41 = .ok (.getfield 10, 3) := by decide +kernel
theorem dX5_toldOfPerson_44 : decode cX5_toldOfPerson 44 = .ok (.getfield 146, 3) := by decide +kernel
theorem dX5_toldOfPerson_47 : decode cX5_toldOfPerson 47 = .ok (.iload_n 1, 1) := by decide +kernel
theorem dX5_toldOfPerson_48 : decode cX5_toldOfPerson 48 = .ok (.iaload, 1) := by decide +kernel
theorem dX5_toldOfPerson_49 : decode cX5_toldOfPerson 49 = .ok (.ireturn, 1) := by decide +kernel
theorem dX5_toldOfPerson_50 : decode cX5_toldOfPerson 50 = .ok (.aload_n 0, 1) := by decide +kernel
theorem dX5_toldOfPerson_51 : decode cX5_toldOfPerson 51 = .ok (.getfield 10, 3) := by decide +kernel
theorem dX5_toldOfPerson_54 : decode cX5_toldOfPerson 54 = .ok (.getfield 143, 3) := by decide +kernel
theorem dX5_toldOfPerson_57 : decode cX5_toldOfPerson 57 = .ok (.iload_n 1, 1) := by decide +kernel
theorem dX5_toldOfPerson_58 : decode cX5_toldOfPerson 58 = .ok (.iaload, 1) := by decide +kernel
theorem dX5_toldOfPerson_59 : decode cX5_toldOfPerson 59 = .ok (.ireturn, 1) := by decide +kernel
theorem dX5_toldOfPerson_60 : decode cX5_toldOfPerson 60 = .ok (.aload_n 0, 1) := by decide +kernel
theorem dX5_toldOfPerson_61 : decode cX5_toldOfPerson 61 = .ok (.getfield 10, 3) := by decide +kernel
theorem dX5_toldOfPerson_64 : decode cX5_toldOfPerson 64 = .ok (.getfield 181, 3) := by decide +kernel
theorem dX5_toldOfPerson_67 : decode cX5_toldOfPerson 67 = .ok (.iload_n 1, 1) := by decide +kernel
theorem dX5_toldOfPerson_68 : decode cX5_toldOfPerson 68 = .ok (.iaload, 1) := by decide +kernel
theorem dX5_toldOfPerson_69 : decode cX5_toldOfPerson 69 = .ok (.ireturn, 1) := by decide +kernel
theorem dX5_toldOfPerson_70 : decode cX5_toldOfPerson 70 = .ok (.bipush (-2), 2) := by decide +kernel
theorem dX5_toldOfPerson_72 : decode cX5_toldOfPerson 72 = .ok (.ireturn, 1) := by decide +kernel
theorem dX5_isWithin_0 : decode cX5_isWithin 0 = .ok (.iload_n 0, 1) := by decide +kernel
theorem dX5_isWithin_1 : decode cX5_isWithin 1 = .ok (.iload_n 1, 1) := by decide +kernel
theorem dX5_isWithin_2 : decode cX5_isWithin 2 = .ok (.if_icmp .lt 12, 3) := by decide +kernel
theorem dX5_isWithin_5 : decode cX5_isWithin 5 = .ok (.iload_n 0, 1) := by decide +kernel
theorem dX5_isWithin_6 : decode cX5_isWithin 6 = .ok (.iload_n 2, 1) := by decide +kernel
theorem dX5_isWithin_7 : decode cX5_isWithin 7 = .ok (.if_icmp .gt 7, 3) := by decide +kernel
theorem dX5_isWithin_10 : decode cX5_isWithin 10 = .ok (.iconst 1, 1) := by decide +kernel
theorem dX5_isWithin_11 : decode cX5_isWithin 11 = .ok (.goto 4, 3) := by decide +kernel
theorem dX5_isWithin_14 : decode cX5_isWithin 14 = .ok (.iconst 0, 1) := by decide +kernel
theorem dX5_isWithin_15 : decode cX5_isWithin 15 = .ok (.ireturn, 1) := by decide +kernel
theorem dX5_isFeet_0 : decode cX5_isFeet 0 = .ok (.iload_n 0, 1) := by decide +kernel
theorem dX5_isFeet_1 : decode cX5_isFeet 1 = .ok (.iconst 1, 1) := by decide +kernel
theorem dX5_isFeet_2 : decode cX5_isFeet 2 = .ok (.sipush 999, 3) := by decide +kernel
theorem dX5_isFeet_5 : decode cX5_isFeet 5 = .ok (.invokestatic 56, 3) := by decide +kernel
theorem dX5_isFeet_8 : decode cX5_isFeet 8 = .ok (.ireturn, 1) := by decide +kernel
theorem dX5_refusalOfRace_0 : decode cX5_refusalOfRace 0 = .ok (.aload_n 0, 1) := by decide +kernel
theorem dX5_refusalOfRace_1 : decode cX5_refusalOfRace 1 = .ok (.getfield 10, 3) := by decide +kernel
theorem dX5_refusalOfRace_4 : decode cX5_refusalOfRace 4 = .ok (.iload_n 1, 1) := by decide +kernel
theorem dX5_refusalOfRace_5 : decode cX5_refusalOfRace 5 = .ok (.iload_n 2, 1) := by decide +kernel
theorem dX5_refusalOfRace_6 : decode cX5_refusalOfRace 6 = .ok (.invokevirtual 96, 3) := by decide +kernel
theorem dX5_refusalOfRace_9 : decode cX5_refusalOfRace 9 = .ok (.ifCond .ne 5, 3) := by decide +kernel
theorem dX5_refusalOfRace_12 : decode cX5_refusalOfRace 12 = .ok (.iconst (-1), 1) := by decide +kernel
theorem dX5_refusalOfRace_13 : decode cX5_refusalOfRace 13 = .ok (.ireturn, 1) := by decide +kernel
theorem dX5_refusalOfRace_14 : decode cX5_refusalOfRace 14 = .ok (.iload_n 3, 1) := by decide +kernel
theorem dX5_refusalOfRace_15 : decode cX5_refusalOfRace 15 = .ok (.invokestatic 140, 3) := by decide +kernel
theorem dX5_refusalOfRace_18 : decode cX5_refusalOfRace 18 = .ok (.ifCond .eq 17, 3) := by decide +kernel
theorem dX5_refusalOfRace_21 : decode cX5_refusalOfRace 21 = .ok (.iload 4, 2) := by decide +kernel
theorem dX5_refusalOfRace_23 : decode cX5_refusalOfRace 23 = .ok (.iconst 0, 1) := by decide +kernel
theorem dX5_refusalOfRace_24 : decode cX5_refusalOfRace 24 = .ok (.iconst 1, 1) := by decide +kernel
theorem dX5_refusalOfRace_25 : decode cX5_refusalOfRace 25 = .ok (.invokestatic 56, 3) := by decide +kernel
theorem dX5_refusalOfRace_28 : decode cX5_refusalOfRace 28 = .ok (.ifCond .eq 7, 3) := by decide +kernel
theorem dX5_refusalOfRace_31 : decode cX5_refusalOfRace 31 = .ok (.iconst 0, 1) := by decide +kernel
theorem dX5_refusalOfRace_32 : decode cX5_refusalOfRace 32 = .ok (.goto 5, 3) := by decide +kernel
theorem dX5_refusalOfRace_35 : decode cX5_refusalOfRace 35 = .ok (.bipush (-2), 2) := by decide +kernel
theorem dX5_refusalOfRace_37 : decode cX5_refusalOfRace 37 = .ok (.ireturn, 1) := by decide +kernel
theorem dX5_timeTo_0 : decode cX5_timeTo 0 = .ok (.aload_n 0, 1) := by decide +kernel
theorem dX5_timeTo_1 : decode cX5_timeTo 1 = .ok (.getfield 34, 3) := by decide +kernel
theorem dX5_timeTo_4 : decode cX5_timeTo 4 = .ok (.aload_n 0, 1) := by decide +kernel
theorem dX5_timeTo_5 : decode cX5_timeTo 5 = .ok (.getfield 10, 3) := by decide +kernel
theorem dX5_timeTo_8 : decode cX5_timeTo 8 = .ok (.iload_n 1, 1) := by decide +kernel
theorem dX5_timeTo_9 : decode cX5_timeTo 9 = .ok (.iload_n 2, 1) := by decide +kernel
theorem dX5_timeTo_10 : decode cX5_timeTo 10 = .ok (.invokevirtual 100, 3) := by decide +kernel
theorem dX5_timeTo_13 : decode cX5_timeTo 13 = .ok (.aload_n 0, 1) := by decide +kernel
theorem dX5_timeTo_14 : decode cX5_timeTo 14 = .ok (.getfield 34, 3) := by decide +kernel
theorem dX5_timeTo_17 : decode cX5_timeTo 17 = .ok (.iload_n 3, 1) := by decide +kernel
theorem dX5_timeTo_18 : decode cX5_timeTo 18 = .ok (.iconst (-1), 1) := by decide +kernel
theorem dX5_timeTo_19 : decode cX5_timeTo 19 = .ok (.invokevirtual 168, 3) := by decide +kernel
theorem dX5_timeTo_22 : decode cX5_timeTo 22 = .ok (.ireturn, 1) := by decide +kernel
theorem dX5_timeAllPairs_0 : decode cX5_timeAllPairs 0 = .ok (.iconst 0, 1) := by decide +kernel
theorem dX5_timeAllPairs_1 : decode cX5_timeAllPairs 1 = .ok (.istore_n 2, 1) := by decide +kernel
theorem dX5_timeAllPairs_2 : decode cX5_timeAllPairs 2 = .ok (.iload_n 2, 1) := by decide +kernel
theorem dX5_timeAllPairs_3 : decode cX5_timeAllPairs 3 = .ok (.bipush 8, 2) := by decide +kernel
theorem dX5_timeAllPairs_5 : decode cX5_timeAllPairs 5 = .ok (.if_icmp .ge 77, 3) := by decide +kernel
theorem dX5_timeAllPairs_8 : decode cX5_timeAllPairs 8 = .ok (.iload_n 2, 1) := by decide +kernel
theorem dX5_timeAllPairs_9 : decode cX5_timeAllPairs 9 = .ok (.iconst 1, 1) := by decide +kernel
theorem dX5_timeAllPairs_10 : decode cX5_timeAllPairs 10 = .ok (.iadd, 1) := by decide +kernel
theorem dX5_timeAllPairs_11 : decode cX5_timeAllPairs 11 = .ok (.istore_n 3, 1) := by decide +kernel
theorem dX5_timeAllPairs_12 : decode cX5_timeAllPairs 12 = .ok (.iload_n 3, 1) := by decide +kernel
theorem dX5_timeAllPairs_13 : decode cX5_timeAllPairs 13 = .ok (.bipush 8, 2) := by decide +kernel
theorem dX5_timeAllPairs_15 : decode cX5_timeAllPairs 15 = .ok (.if_icmp .ge 61, 3) := by decide +kernel
theorem dX5_timeAllPairs_18 : decode cX5_timeAllPairs 18 = .ok (.aload_n 0, 1) := by decide +kernel
theorem dX5_timeAllPairs_19 : decode cX5_timeAllPairs 19 = .ok (.getfield 10, 3) := by decide +kernel
theorem dX5_timeAllPairs_22 : decode cX5_timeAllPairs 22 = .ok (.iload_n 2, 1) := by decide +kernel
theorem dX5_timeAllPairs_23 : decode cX5_timeAllPairs 23 = .ok (.iload_n 3, 1) := by decide +kernel
theorem dX5_timeAllPairs_24 : decode cX5_timeAllPairs 24 = .ok (.invokevirtual 96, 3) := by decide +kernel
theorem dX5_timeAllPairs_27 : decode cX5_timeAllPairs 27 = .ok (.ifCond .eq 13, 3) := by decide +kernel
theorem dX5_timeAllPairs_30 : decode cX5_timeAllPairs 30 = .ok (.aload_n 0, 1) := by decide +kernel
theorem dX5_timeAllPairs_31 : decode cX5_timeAllPairs 31 = .ok (.iload_n 2, 1) := by decide +kernel
theorem dX5_timeAllPairs_32 : decode cX5_timeAllPairs 32 = .ok (.iload_n 3, 1) := by decide +kernel
theorem dX5_timeAllPairs_33 : decode cX5_timeAllPairs 33 = .ok (.iload_n 1, 1) := by decide +kernel
theorem dX5_timeAllPairs_34 : decode cX5_timeAllPairs 34 = .ok (.invokevirtual 126, 3) := by decide +kernel
theorem dX5_timeAllPairs_37 : decode cX5_timeAllPairs 37 = .ok (.goto 5, 3) := by decide +kernel
theorem dX5_timeAllPairs_40 : decode cX5_timeAllPairs 40 = .ok (.bipush (-6), 2) := by decide +kernel
theorem dX5_timeAllPairs_42 : decode cX5_timeAllPairs 42 = .ok (.istore 4, 2) := by decide +kernel
theorem dX5_timeAllPairs_44 : decode cX5_timeAllPairs 44 = .ok (.aload_n 0, 1) := by decide +kernel
theorem dX5_timeAllPairs_45 : decode cX5_timeAllPairs 45 = .ok (.getfield 52, 3) := by decide +kernel
theorem dX5_timeAllPairs_48 : decode cX5_timeAllPairs 48 = .ok (.bipush 8, 2) := by decide +kernel
theorem dX5_timeAllPairs_50 : decode cX5_timeAllPairs 50 = .ok (.iload_n 2, 1) := by decide +kernel
theorem dX5_timeAllPairs_51 : decode cX5_timeAllPairs 51 = .ok (.imul, 1) := by decide +kernel
theorem dX5_timeAllPairs_52 : decode cX5_timeAllPairs 52 = .ok (.iload_n 3, 1) := by decide +kernel
theorem dX5_timeAllPairs_53 : decode cX5_timeAllPairs 53 = .ok (.iadd, 1) := by decide +kernel
theorem dX5_timeAllPairs_54 : decode cX5_timeAllPairs 54 = .ok (.iload 4, 2) := by decide +kernel
theorem dX5_timeAllPairs_56 : decode cX5_timeAllPairs 56 = .ok (.iastore, 1) := by decide +kernel
theorem dX5_timeAllPairs_57 : decode cX5_timeAllPairs 57 = .ok (.aload_n 0, 1) := by decide +kernel
theorem dX5_timeAllPairs_58 : decode cX5_timeAllPairs 58 = .ok (.getfield 52, 3) := by decide +kernel
theorem dX5_timeAllPairs_61 : decode cX5_timeAllPairs 61 = .ok (.bipush 8, 2) := by decide +kernel
theorem dX5_timeAllPairs_63 : decode cX5_timeAllPairs 63 = .ok (.iload_n 3, 1) := by decide +kernel
theorem dX5_timeAllPairs_64 : decode cX5_timeAllPairs 64 = .ok (.imul, 1) := by decide +kernel
theorem dX5_timeAllPairs_65 : decode cX5_timeAllPairs 65 = .ok (.iload_n 2, 1) := by decide +kernel
theorem dX5_timeAllPairs_66 : decode cX5_timeAllPairs 66 = .ok (.iadd, 1) := by decide +kernel
theorem dX5_timeAllPairs_67 : decode cX5_timeAllPairs 67 = .ok (.iload 4, 2) := by decide +kernel
theorem dX5_timeAllPairs_69 : decode cX5_timeAllPairs 69 = .ok (.iastore, 1) := by decide +kernel
theorem dX5_timeAllPairs_70 : decode cX5_timeAllPairs 70 = .ok (.iinc 3 1, 3) := by decide +kernel
theorem dX5_timeAllPairs_73 : decode cX5_timeAllPairs 73 = .ok (.goto (-61), 3) := by decide +kernel
theorem dX5_timeAllPairs_76 : decode cX5_timeAllPairs 76 = .ok (.iinc 2 1, 3) := by decide +kernel
theorem dX5_timeAllPairs_79 : decode cX5_timeAllPairs 79 = .ok (.goto (-77), 3) := by decide +kernel
theorem dX5_timeAllPairs_82 : decode cX5_timeAllPairs 82 = .ok (.return_, 1) := by decide +kernel
theorem dX5_firstUnlike_0 : decode cX5_firstUnlike 0 = .ok (.aload_n 0, 1) := by decide +kernel
theorem dX5_firstUnlike_1 : decode cX5_firstUnlike 1 = .ok (.getfield 34, 3) := by decide +kernel
theorem dX5_firstUnlike_4 : decode cX5_firstUnlike 4 = .ok (.aload_n 0, 1) := by decide +kernel
theorem dX5_firstUnlike_5 : decode cX5_firstUnlike 5 = .ok (.getfield 10, 3) := by decide +kernel
theorem dX5_firstUnlike_8 : decode cX5_firstUnlike 8 = .ok (.iload_n 1, 1) := by decide +kernel
theorem dX5_firstUnlike_9 : decode cX5_firstUnlike 9 = .ok (.iload_n 2, 1) := by decide +kernel
theorem dX5_firstUnlike_10 : decode cX5_firstUnlike 10 = .ok (.invokevirtual 100, 3) := by decide +kernel
theorem dX5_firstUnlike_13 : decode cX5_firstUnlike 13 = .ok (.iconst 0, 1) := by decide +kernel
theorem dX5_firstUnlike_14 : decode cX5_firstUnlike 14 = .ok (.istore_n 3, 1) := by decide +kernel
theorem dX5_firstUnlike_15 : decode cX5_firstUnlike 15 = .ok (.iload_n 3, 1) := by decide +kernel
theorem dX5_firstUnlike_16 : decode cX5_firstUnlike 16 = .ok (.aload_n 0, 1) := by decide +kernel
theorem dX5_firstUnlike_17 : decode cX5_firstUnlike 17 = .ok (.getfield 27, 3) := by decide +kernel
theorem dX5_firstUnlike_20 : decode cX5_firstUnlike 20 = .ok (.getfield 196, 3) := by decide +kernel
theorem dX5_firstUnlike_23 : decode cX5_firstUnlike 23 = .ok (.if_icmp .ge 36, 3) := by decide +kernel
theorem dX5_firstUnlike_26 : decode cX5_firstUnlike 26 = .ok (.aload_n 0, 1) := by decide +kernel
theorem dX5_firstUnlike_27 : decode cX5_firstUnlike 27 = .ok (.getfield 34, 3) := by decide +kernel
theorem dX5_firstUnlike_30 : decode cX5_firstUnlike 30 = .ok (.invokevirtual 104, 3) := by decide +kernel
theorem dX5_firstUnlike_33 : decode cX5_firstUnlike 33 = .ok (.aload_n 0, 1) := by decide +kernel
theorem dX5_firstUnlike_34 : decode cX5_firstUnlike 34 = .ok (.getfield 27, 3) := by decide +kernel
theorem dX5_firstUnlike_37 : decode cX5_firstUnlike 37 = .ok (.iload_n 3, 1) := by decide +kernel
theorem dX5_firstUnlike_38 : decode cX5_firstUnlike 38 = .ok (.aload_n 0, 1) := by decide +kernel
theorem dX5_firstUnlike_39 : decode cX5_firstUnlike 39 = .ok (.getfield 34, 3) := by decide +kernel
theorem dX5_firstUnlike_42 : decode cX5_firstUnlike 42 = .ok (.getfield 220, 3) := by decide +kernel
theorem dX5_firstUnlike_45 : decode cX5_firstUnlike 45 = .ok (.invokevirtual 224, 3) := by decide +kernel
theorem dX5_firstUnlike_48 : decode cX5_firstUnlike 48 = .ok (.ifCond .ne 5, 3) := by decide +kernel
theorem dX5_firstUnlike_51 : decode cX5_firstUnlike 51 = .ok (.iload_n 3, 1) := by decide +kernel
theorem dX5_firstUnlike_52 : decode cX5_firstUnlike 52 = .ok (.ireturn, 1) := by decide +kernel
theorem dX5_firstUnlike_53 : decode cX5_firstUnlike 53 = .ok (.iinc 3 1, 3) := by decide +kernel
theorem dX5_firstUnlike_56 : decode cX5_firstUnlike 56 = .ok (.goto (-41), 3) := by decide +kernel
theorem dX5_firstUnlike_59 : decode cX5_firstUnlike 59 = .ok (.bipush (-6), 2) := by decide +kernel
theorem dX5_firstUnlike_61 : decode cX5_firstUnlike 61 = .ok (.ireturn, 1) := by decide +kernel
theorem dX6_init_0 : decode cX6_init 0 = .ok (.aload_n 0, 1) := by decide +kernel
theorem dX6_init_1 : decode cX6_init 1 = .ok (.invokespecial 1, 3) := by decide +kernel
theorem dX6_init_4 : decode cX6_init 4 = .ok (.aload_n 0, 1) := by decide +kernel
theorem dX6_init_5 : decode cX6_init 5 = .ok (.bipush 8, 2) := by decide +kernel
theorem dX6_init_7 : decode cX6_init 7 = .ok (.newarray .int, 2) := by decide +kernel
theorem dX6_init_9 : decode cX6_init 9 = .ok (.putfield 7, 3) := by decide +kernel
theorem dX6_init_12 : decode cX6_init 12 = .ok (.aload_n 0, 1) := by decide +kernel
theorem dX6_init_13 : decode cX6_init 13 = .ok (.bipush 8, 2) := by decide +kernel
theorem dX6_init_15 : decode cX6_init 15 = .ok (.newarray .int, 2) := by decide +kernel
theorem dX6_init_17 : decode cX6_init 17 = .ok (.putfield 13, 3) := by decide +kernel
theorem dX6_init_20 : decode cX6_init 20 = .ok (.aload_n 0, 1) := by decide +kernel
theorem dX6_init_21 : decode cX6_init 21 = .ok (.bipush 8, 2) := by decide +kernel
theorem dX6_init_23 : decode cX6_init 23 = .ok (.newarray .int, 2) := by decide +kernel
theorem dX6_init_25 : decode cX6_init 25 = .ok (.putfield 16, 3) := by decide +kernel
theorem dX6_init_28 : decode cX6_init 28 = .ok (.aload_n 0, 1) := by decide +kernel
theorem dX6_init_29 : decode cX6_init 29 = .ok (.bipush 64, 2) := by decide +kernel
theorem dX6_init_31 : decode cX6_init 31 = .ok (.newarray .int, 2) := by decide +kernel
theorem dX6_init_33 : decode cX6_init 33 = .ok (.putfield 19, 3) := by decide +kernel
theorem dX6_init_36 : decode cX6_init 36 = .ok (.aload_n 0, 1) := by decide +kernel
theorem dX6_init_37 : decode cX6_init 37 = .ok (.bipush 8, 2) := by decide +kernel
theorem dX6_init_39 : decode cX6_init 39 = .ok (.newarray .int, 2) := by decide +kernel
theorem dX6_init_41 : decode cX6_init 41 = .ok (.putfield 22, 3) := by decide +kernel
theorem dX6_init_44 : decode cX6_init 44 = .ok (.aload_n 0, 1) := by decide +kernel
theorem dX6_init_45 : decode cX6_init 45 = .ok (.bipush 8, 2) := by decide +kernel
theorem dX6_init_47 : decode cX6_init 47 = .ok (.newarray .int, 2) := by decide +kernel
theorem dX6_init_49 : decode cX6_init 49 = .ok (.putfield 25, 3) := by decide +kernel
theorem dX6_init_52 : decode cX6_init 52 = .ok (.aload_n 0, 1) := by decide +kernel
theorem dX6_init_53 : decode cX6_init 53 = .ok (.bipush 40, 2) := by decide +kernel
theorem dX6_init_55 : decode cX6_init 55 = .ok (.newarray .int, 2) := by decide +kernel
theorem dX6_init_57 : decode cX6_init 57 = .ok (.putfield 28, 3) := by decide +kernel
theorem dX6_init_60 : decode cX6_init 60 = .ok (.aload_n 0, 1) := by decide +kernel
theorem dX6_init_61 : decode cX6_init 61 = .ok (.bipush 80, 2) := by decide +kernel
theorem dX6_init_63 : decode cX6_init 63 = .ok (.newarray .int, 2) := by decide +kernel
theorem dX6_init_65 : decode cX6_init 65 = .ok (.putfield 31, 3) := by decide +kernel
theorem dX6_init_68 : decode cX6_init 68 = .ok (.aload_n 0, 1) := by decide +kernel
theorem dX6_init_69 : decode cX6_init 69 = .ok (.iconst 2, 1) := by decide +kernel
theorem dX6_init_70 : decode cX6_init 70 = .ok (.newarray .boolean, 2) := by decide +kernel
theorem dX6_init_72 : decode cX6_init 72 = .ok (.putfield 34, 3) := by decide +kernel
theorem dX6_init_75 : decode cX6_init 75 = .ok (.aload_n 0, 1) := by decide +kernel
theorem dX6_init_76 : decode cX6_init 76 = .ok (.iconst 2, 1) := by decide +kernel
theorem dX6_init_77 : decode cX6_init 77 = .ok (.putfield 38, 3) := by decide +kernel
theorem dX6_init_80 : decode cX6_init 80 = .ok (.aload_n 0, 1) := by decide +kernel
theorem dX6_init_81 : decode cX6_init 81 = .ok (.iconst 5, 1) := by decide +kernel
theorem dX6_init_82 : decode cX6_init 82 = .ok (.putfield 42, 3) := by decide +kernel
theorem dX6_init_85 : decode cX6_init 85 = .ok (.aload_n 0, 1) := by decide +kernel
theorem dX6_init_86 : decode cX6_init 86 = .ok (.bipush 90, 2) := by decide +kernel
theorem dX6_init_88 : decode cX6_init 88 = .ok (.putfield 45, 3) := by decide +kernel
theorem dX6_init_91 : decode cX6_init 91 = .ok (.return_, 1) := by decide +kernel
theorem dX6_in_0 : decode cX6_in 0 = .ok (.lload_n 0, 1) := by decide +kernel
theorem dX6_in_1 : decode cX6_in 1 = .ok (.lload_n 2, 1) := by decide +kernel
theorem dX6_in_2 : decode cX6_in 2 = .ok (.lcmp, 1) := by decide +kernel
theorem dX6_in_3 : decode cX6_in 3 = .ok (.ifCond .lt 14, 3) := by decide +kernel
theorem dX6_in_6 : decode cX6_in 6 = .ok (.lload_n 0, 1) := by decide +kernel
theorem dX6_in_7 : decode cX6_in 7 = .ok (.lload 4, 2) := by decide +kernel
theorem dX6_in_9 : decode cX6_in 9 = .ok (.lcmp, 1) := by decide +kernel
theorem dX6_in_10 : decode cX6_in 10 = .ok (.ifCond .gt 7, 3) := by decide +kernel
theorem dX6_in_13 : decode cX6_in 13 = .ok (.iconst 1, 1) := by decide +kernel
theorem dX6_in_14 : decode cX6_in 14 = .ok (.goto 4, 3) := by decide +kernel
theorem dX6_in_17 : decode cX6_in 17 = .ok (.iconst 0, 1) := by decide +kernel
theorem dX6_in_18 : decode cX6_in 18 = .ok (.ireturn, 1) := by decide +kernel
theorem dX6_ones_0 : decode cX6_ones 0 = .ok (.iconst 0, 1) := by decide +kernel
theorem dX6_ones_1 : decode cX6_ones 1 = .ok (.istore_n 1, 1) := by decide +kernel
theorem dX6_ones_2 : decode cX6_ones 2 = .ok (.iload_n 0, 1) := by decide +kernel
theorem dX6_ones_3 : decode cX6_ones 3 = .ok (.istore_n 2, 1) := by decide +kernel
theorem dX6_ones_4 : decode cX6_ones 4 = .ok (.iload_n 2, 1) := by decide +kernel
theorem dX6_ones_5 : decode cX6_ones 5 = .ok (.ifCond .eq 15, 3) := by decide +kernel
theorem dX6_ones_8 : decode cX6_ones 8 = .ok (.iinc 1 1, 3) := by decide +kernel
theorem dX6_ones_11 : decode cX6_ones 11 = .ok (.iload_n 2, 1) := by decide +kernel
theorem dX6_ones_12 : decode cX6_ones 12 = .ok (.iload_n 2, 1) := by decide +kernel
theorem dX6_ones_13 : decode cX6_ones 13 = .ok (.iconst 1, 1) := by decide +kernel
theorem dX6_ones_14 : decode cX6_ones 14 = .ok (.isub, 1) := by decide +kernel
theorem dX6_ones_15 : decode cX6_ones 15 = .ok (.iand, 1) := by decide +kernel
theorem dX6_ones_16 : decode cX6_ones 16 = .ok (.istore_n 2, 1) := by decide +kernel
theorem dX6_ones_17 : decode cX6_ones 17 = .ok (.goto (-13), 3) := by decide +kernel
theorem dX6_ones_20 : decode cX6_ones 20 = .ok (.iload_n 1, 1) := by decide +kernel
theorem dX6_ones_21 : decode cX6_ones 21 = .ok (.ireturn, 1) := by decide +kernel
theorem dX6_runs_0 : decode cX6_runs 0 = .ok (.iload_n 1, 1) := by decide +kernel
theorem dX6_runs_1 : decode cX6_runs 1 = .ok (.i2l, 1) := by decide +kernel
theorem dX6_runs_2 : decode cX6_runs 2 = .ok (.lconst 0, 1) := by decide +kernel
theorem dX6_runs_3 : decode cX6_runs 3 = .ok (.ldc2_w 48, 3) := by decide +kernel
theorem dX6_runs_6 : decode cX6_runs 6 = .ok (.invokestatic 50, 3) := by decide +kernel
theorem dX6_runs_9 : decode cX6_runs 9 = .ok (.ifCond .eq 19, 3) := by decide +kernel
theorem dX6_runs_12 : decode cX6_runs 12 = .ok (.aload_n 0, 1) := by decide +kernel
theorem dX6_runs_13 : decode cX6_runs 13 = .ok (.getfield 54, 3) := by decide +kernel
theorem dX6_runs_16 : decode cX6_runs 16 = .ok (.iload_n 1, 1) := by decide +kernel
theorem dX6_runs_17 : decode cX6_runs 17 = .ok (.ishr, 1) := by decide +kernel
theorem dX6_runs_18 : decode cX6_runs 18 = .ok (.iconst 1, 1) := by decide +kernel
theorem dX6_runs_19 : decode cX6_runs 19 = .ok (.iand, 1) := by decide +kernel
theorem dX6_runs_20 : decode cX6_runs 20 = .ok (.iconst 1, 1) := by decide +kernel
theorem dX6_runs_21 : decode cX6_runs 21 = .ok (.if_icmp .ne 7, 3) := by decide +kernel
theorem dX6_runs_24 : decode cX6_runs 24 = .ok (.iconst 1, 1) := by decide +kernel
theorem dX6_runs_25 : decode cX6_runs 25 = .ok (.goto 4, 3) := by decide +kernel
theorem dX6_runs_28 : decode cX6_runs 28 = .ok (.iconst 0, 1) := by decide +kernel
theorem dX6_runs_29 : decode cX6_runs 29 = .ok (.ireturn, 1) := by decide +kernel
theorem dX6_run_0 : decode cX6_run 0 = .ok (.iload_n 1, 1) := by decide +kernel
theorem dX6_run_1 : decode cX6_run 1 = .ok (.i2l, 1) := by decide +kernel
theorem dX6_run_2 : decode cX6_run 2 = .ok (.lconst 0, 1) := by decide +kernel
theorem dX6_run_3 : decode cX6_run 3 = .ok (.ldc2_w 48, 3) := by decide +kernel
theorem dX6_run_6 : decode cX6_run 6 = .ok (.invokestatic 50, 3) := by decide +kernel
theorem dX6_run_9 : decode cX6_run 9 = .ok (.ifCond .ne 5, 3) := by decide +kernel
theorem dX6_run_12 : decode cX6_run 12 = .ok (.iconst (-1), 1) := by decide +kernel
theorem dX6_run_13 : decode cX6_run 13 = .ok (.ireturn, 1) := by decide +kernel
theorem dX6_run_14 : decode cX6_run 14 = .ok (.iload_n 2, 1) := by decide +kernel
theorem dX6_run_15 : decode cX6_run 15 = .ok (.i2l, 1) := by decide +kernel
theorem dX6_run_16 : decode cX6_run 16 = .ok (.ldc2_w 57, 3) := by decide +kernel
theorem dX6_run_19 : decode cX6_run 19 = .ok (.ldc2_w 59, 3) := by decide +kernel
theorem dX6_run_22 : decode cX6_run 22 = .ok (.invokestatic 50, 3) := by decide +kernel
theorem dX6_run_25 : decode cX6_run 25 = .ok (.ifCond .eq 28, 3) := by decide +kernel
theorem dX6_run_28 : decode cX6_run 28 = .ok (.iload_n 3, 1) := by decide +kernel
theorem dX6_run_29 : decode cX6_run 29 = .ok (.i2l, 1) := by decide +kernel
theorem dX6_run_30 : decode cX6_run 30 = .ok (.lconst 1, 1) := by decide +kernel
theorem dX6_run_31 : decode cX6_run 31 = .ok (.ldc2_w 61, 3) := by decide +kernel
theorem dX6_run_34 : decode cX6_run 34 = .ok (.invokestatic 50, 3) := by decide +kernel
theorem dX6_run_37 : decode cX6_run 37 = .ok (.ifCond .eq 16, 3) := by decide +kernel
theorem dX6_run_40 : decode cX6_run 40 = .ok (.iload 4, 2) := by decide +kernel
theorem dX6_run_42 : decode cX6_run 42 = .ok (.i2l, 1) := by decide +kernel
theorem dX6_run_43 : decode cX6_run 43 = .ok (.lconst 0, 1) := by decide +kernel
theorem dX6_run_44 : decode cX6_run 44 = .ok (.ldc2_w 57, 3) := by decide +kernel
theorem dX6_run_47 : decode cX6_run 47 = .ok (.invokestatic 50, 3) := by decide +kernel
theorem dX6_run_50 : decode cX6_run 50 = .ok (.ifCond .ne 6, 3) := by decide +kernel
theorem dX6_run_53 : decode cX6_run 53 = .ok (.bipush (-2), 2) := by decide +kernel
theorem dX6_run_55 : decode cX6_run 55 = .ok (.ireturn, 1) := by decide +kernel
theorem dX6_run_56 : decode cX6_run 56 = .ok (.aload_n 0, 1) := by decide +kernel
theorem dX6_run_57 : decode cX6_run 57 = .ok (.getfield 7, 3) := by decide +kernel
theorem dX6_run_60 : decode cX6_run 60 = .ok (.iload_n 1, 1) := by decide +kernel
theorem dX6_run_61 : decode cX6_run 61 = .ok (.iload_n 2, 1) := by decide +kernel
theorem dX6_run_62 : decode cX6_run 62 = .ok (.iastore, 1) := by decide +kernel
theorem dX6_run_63 : decode cX6_run 63 = .ok (.aload_n 0, 1) := by decide +kernel
theorem dX6_run_64 : decode cX6_run 64 = .ok (.getfield 13, 3) := by decide +kernel
theorem dX6_run_67 : decode cX6_run 67 = .ok (.iload_n 1, 1) := by decide +kernel
theorem dX6_run_68 : decode cX6_run 68 = .ok (.iload_n 3, 1) := by decide +kernel
theorem dX6_run_69 : decode cX6_run 69 = .ok (.iastore, 1) := by decide +kernel
theorem dX6_run_70 : decode cX6_run 70 = .ok (.aload_n 0, 1) := by decide +kernel
theorem dX6_run_71 : decode cX6_run 71 = .ok (.getfield 16, 3) := by decide +kernel
theorem dX6_run_74 : decode cX6_run 74 = .ok (.iload_n 1, 1) := by decide +kernel
theorem dX6_run_75 : decode cX6_run 75 = .ok (.iload 4, 2) := by decide +kernel
theorem dX6_run_77 : decode cX6_run 77 = .ok (.iastore, 1) := by decide +kernel
theorem dX6_run_78 : decode cX6_run 78 = .ok (.aload_n 0, 1) := by decide +kernel
theorem dX6_run_79 : decode cX6_run 79 = .ok (.dup, 1) := by decide +kernel
theorem dX6_run_80 : decode cX6_run 80 = .ok (.getfield 54, 3) := by decide +kernel
theorem dX6_run_83 : decode cX6_run 83 = .ok (.iconst 1, 1) := by decide +kernel
theorem dX6_run_84 : decode cX6_run 84 = .ok (.iload_n 1, 1) := by decide +kernel
theorem dX6_run_85 : decode cX6_run 85 = .ok (.ishl, 1) := by decide +kernel
theorem dX6_run_86 : decode cX6_run 86 = .ok (.ior, 1) := by decide +kernel
theorem dX6_run_87 : decode cX6_run 87 = .ok (.putfield 54, 3) := by decide +kernel
theorem dX6_run_90 : decode cX6_run 90 = .ok (.aload_n 0, 1) := by decide +kernel
theorem dX6_run_91 : decode cX6_run 91 = .ok (.getfield 54, 3) := by decide +kernel
theorem dX6_run_94 : decode cX6_run 94 = .ok (.invokestatic 63, 3) := by decide +kernel
theorem dX6_run_97 : decode cX6_run 97 = .ok (.ireturn, 1) := by decide +kernel
theorem dX6_rest_0 : decode cX6_rest 0 = .ok (.aload_n 0, 1) := by decide +kernel
theorem dX6_rest_1 : decode cX6_rest 1 = .ok (.iload_n 1, 1) := by decide +kernel
theorem dX6_rest_2 : decode cX6_rest 2 = .ok (.invokevirtual 67, 3) := by decide +kernel
theorem dX6_rest_5 : decode cX6_rest 5 = .ok (.ifCond .ne 5, 3) := by decide +kernel
theorem dX6_rest_8 : decode cX6_rest 8 = .ok (.iconst (-1), 1) := by decide +kernel
theorem dX6_rest_9 : decode cX6_rest 9 = .ok (.ireturn, 1) := by decide +kernel
theorem dX6_rest_10 : decode cX6_rest 10 = .ok (.aload_n 0, 1) := by decide +kernel
theorem dX6_rest_11 : decode cX6_rest 11 = .ok (.dup, 1) := by decide +kernel
theorem dX6_rest_12 : decode cX6_rest 12 = .ok (.getfield 54, 3) := by decide +kernel
theorem dX6_rest_15 : decode cX6_rest 15 = .ok (.iconst 1, 1) := by decide +kernel
theorem dX6_rest_16 : decode cX6_rest 16 = .ok (.iload_n 1, 1) := by decide +kernel
theorem dX6_rest_17 : decode cX6_rest 17 = .ok (.ishl, 1) := by decide +kernel
theorem dX6_rest_18 : decode cX6_rest 18 = .ok (.iconst (-1), 1) := by decide +kernel
theorem dX6_rest_19 : decode cX6_rest 19 = .ok (.ixor, 1) := by decide +kernel
theorem dX6_rest_20 : decode cX6_rest 20 = .ok (.iand, 1) := by decide +kernel
theorem dX6_rest_21 : decode cX6_rest 21 = .ok (.putfield 54, 3) := by decide +kernel
theorem dX6_rest_24 : decode cX6_rest 24 = .ok (.aload_n 0, 1) := by decide +kernel
theorem dX6_rest_25 : decode cX6_rest 25 = .ok (.getfield 54, 3) := by decide +kernel
theorem dX6_rest_28 : decode cX6_rest 28 = .ok (.invokestatic 63, 3) := by decide +kernel
theorem dX6_rest_31 : decode cX6_rest 31 = .ok (.ireturn, 1) := by decide +kernel
theorem dX6_set_0 : decode cX6_set 0 = .ok (.iload_n 1, 1) := by decide +kernel
theorem dX6_set_1 : decode cX6_set 1 = .ok (.ifCond .ne 32, 3) := by decide +kernel
theorem dX6_set_4 : decode cX6_set 4 = .ok (.iload_n 2, 1) := by decide +kernel
theorem dX6_set_5 : decode cX6_set 5 = .ok (.i2l, 1) := by decide +kernel
theorem dX6_set_6 : decode cX6_set 6 = .ok (.lconst 0, 1) := by decide +kernel
theorem dX6_set_7 : decode cX6_set 7 = .ok (.aload_n 0, 1) := by decide +kernel
theorem dX6_set_8 : decode cX6_set 8 = .ok (.getfield 42, 3) := by decide +kernel
theorem dX6_set_11 : decode cX6_set 11 = .ok (.bipush 9, 2) := by decide +kernel
theorem dX6_set_13 : decode cX6_set 13 = .ok (.if_icmp .ge 11, 3) := by decide +kernel
theorem dX6_set_16 : decode cX6_set 16 = .ok (.aload_n 0, 1) := by decide +kernel
theorem dX6_set_17 : decode cX6_set 17 = .ok (.getfield 42, 3) := by decide +kernel
theorem dX6_set_20 : decode cX6_set 20 = .ok (.i2l, 1) := by decide +kernel
theorem dX6_set_21 : decode cX6_set 21 = .ok (.goto 6, 3) := by decide +kernel
theorem dX6_set_24 : decode cX6_set 24 = .ok (.ldc2_w 61, 3) := by decide +kernel
theorem dX6_set_27 : decode cX6_set 27 = .ok (.invokestatic 50, 3) := by decide +kernel
theorem dX6_set_30 : decode cX6_set 30 = .ok (.goto 46, 3) := by decide +kernel
theorem dX6_set_33 : decode cX6_set 33 = .ok (.iload_n 1, 1) := by decide +kernel
theorem dX6_set_34 : decode cX6_set 34 = .ok (.iconst 1, 1) := by decide +kernel
theorem dX6_set_35 : decode cX6_set 35 = .ok (.if_icmp .ne 19, 3) := by decide +kernel
theorem dX6_set_38 : decode cX6_set 38 = .ok (.iload_n 2, 1) := by decide +kernel
theorem dX6_set_39 : decode cX6_set 39 = .ok (.i2l, 1) := by decide +kernel
theorem dX6_set_40 : decode cX6_set 40 = .ok (.aload_n 0, 1) := by decide +kernel
theorem dX6_set_41 : decode cX6_set 41 = .ok (.getfield 38, 3) := by decide +kernel
theorem dX6_set_44 : decode cX6_set 44 = .ok (.i2l, 1) := by decide +kernel
theorem dX6_set_45 : decode cX6_set 45 = .ok (.ldc2_w 59, 3) := by decide +kernel
theorem dX6_set_48 : decode cX6_set 48 = .ok (.invokestatic 50, 3) := by decide +kernel
theorem dX6_set_51 : decode cX6_set 51 = .ok (.goto 25, 3) := by decide +kernel
theorem dX6_set_54 : decode cX6_set 54 = .ok (.iload_n 1, 1) := by decide +kernel
theorem dX6_set_55 : decode cX6_set 55 = .ok (.iconst 2, 1) := by decide +kernel
theorem dX6_set_56 : decode cX6_set 56 = .ok (.if_icmp .ne 19, 3) := by decide +kernel
theorem dX6_set_59 : decode cX6_set 59 = .ok (.iload_n 2, 1) := by decide +kernel
theorem dX6_set_60 : decode cX6_set 60 = .ok (.i2l, 1) := by decide +kernel
theorem dX6_set_61 : decode cX6_set 61 = .ok (.lconst 0, 1) := by decide +kernel
theorem dX6_set_62 : decode cX6_set 62 = .ok (.ldc2_w 71, 3) := by decide +kernel
theorem dX6_set_65 : decode cX6_set 65 = .ok (.invokestatic 50, 3) := by decide +kernel
theorem dX6_set_68 : decode cX6_set 68 = .ok (.ifCond .eq 7, 3) := by decide +kernel
theorem dX6_set_71 : decode cX6_set 71 = .ok (.iconst 1, 1) := by decide +kernel
theorem dX6_set_72 : decode cX6_set 72 = .ok (.goto 4, 3) := by decide +kernel
theorem dX6_set_75 : decode cX6_set 75 = .ok (.iconst 0, 1) := by decide +kernel
theorem dX6_set_76 : decode cX6_set 76 = .ok (.istore_n 3, 1) := by decide +kernel
theorem dX6_set_77 : decode cX6_set 77 = .ok (.iload_n 3, 1) := by decide +kernel
theorem dX6_set_78 : decode cX6_set 78 = .ok (.ifCond .ne 6, 3) := by decide +kernel
theorem dX6_set_81 : decode cX6_set 81 = .ok (.bipush (-2), 2) := by decide +kernel
theorem dX6_set_83 : decode cX6_set 83 = .ok (.ireturn, 1) := by decide +kernel
theorem dX6_set_84 : decode cX6_set 84 = .ok (.iload_n 1, 1) := by decide +kernel
theorem dX6_set_85 : decode cX6_set 85 = .ok (.ifCond .ne 10, 3) := by decide +kernel
theorem dX6_set_88 : decode cX6_set 88 = .ok (.aload_n 0, 1) := by decide +kernel
theorem dX6_set_89 : decode cX6_set 89 = .ok (.getfield 38, 3) := by decide +kernel
theorem dX6_set_92 : decode cX6_set 92 = .ok (.goto 19, 3) := by decide +kernel
theorem dX6_set_95 : decode cX6_set 95 = .ok (.iload_n 1, 1) := by decide +kernel
theorem dX6_set_96 : decode cX6_set 96 = .ok (.iconst 1, 1) := by decide +kernel
theorem dX6_set_97 : decode cX6_set 97 = .ok (.if_icmp .ne 10, 3) := by decide +kernel
theorem dX6_set_100 : decode cX6_set 100 = .ok (.aload_n 0, 1) := by decide +kernel
theorem dX6_set_101 : decode cX6_set 101 = .ok (.getfield 42, 3) := by decide +kernel
theorem dX6_set_104 : decode cX6_set 104 = .ok (.goto 7, 3) := by decide +kernel
theorem dX6_set_107 : decode cX6_set 107 = .ok (.aload_n 0, 1) := by decide +kernel
theorem dX6_set_108 : decode cX6_set 108 = .ok (.getfield 45, 3) := by decide +kernel
theorem dX6_set_111 : decode cX6_set 111 = .ok (.istore 4, 2) := by decide +kernel
theorem dX6_set_113 : decode cX6_set 113 = .ok (.aload_n 0, 1) := by decide +kernel
theorem dX6_set_114 : decode cX6_set 114 = .ok (.iload_n 1, 1) := by decide +kernel
theorem dX6_set_115 : decode cX6_set 115 = .ok (.ifCond .ne 7, 3) := by decide +kernel
theorem dX6_set_118 : decode cX6_set 118 = .ok (.iload_n 2, 1) := by decide +kernel
theorem dX6_set_119 : decode cX6_set 119 = .ok (.goto 7, 3) := by decide +kernel
theorem dX6_set_122 : decode cX6_set 122 = .ok (.aload_n 0, 1) := by decide +kernel
theorem dX6_set_123 : decode cX6_set 123 = .ok (.getfield 38, 3) := by decide +kernel
theorem dX6_set_126 : decode cX6_set 126 = .ok (.putfield 38, 3) := by decide +kernel
theorem dX6_set_129 : decode cX6_set 129 = .ok (.aload_n 0, 1) := by decide +kernel
theorem dX6_set_130 : decode cX6_set 130 = .ok (.iload_n 1, 1) := by decide +kernel
theorem dX6_set_131 : decode cX6_set 131 = .ok (.iconst 1, 1) := by decide +kernel
theorem dX6_set_132 : decode cX6_set 132 = .ok (.if_icmp .ne 7, 3) := by decide +kernel
theorem dX6_set_135 : decode cX6_set 135 = .ok (.iload_n 2, 1) := by decide +kernel
theorem dX6_set_136 : decode cX6_set 136 = .ok (.goto 7, 3) := by decide +kernel
theorem dX6_set_139 : decode cX6_set 139 = .ok (.aload_n 0, 1) := by decide +kernel
theorem dX6_set_140 : decode cX6_set 140 = .ok (.getfield 42, 3) := by decide +kernel
theorem dX6_set_143 : decode cX6_set 143 = .ok (.putfield 42, 3) := by decide +kernel
theorem dX6_set_146 : decode cX6_set 146 = .ok (.aload_n 0, 1) := by decide +kernel
theorem dX6_set_147 : decode cX6_set 147 = .ok (.iload_n 1, 1) := by decide +kernel
theorem dX6_set_148 : decode cX6_set 148 = .ok (.iconst 2, 1) := by decide +kernel
theorem dX6_set_149 : decode cX6_set 149 = .ok (.if_icmp .ne 7, 3) := by decide +kernel
theorem dX6_set_152 : decode cX6_set 152 = .ok (.iload_n 2, 1) := by decide +kernel
theorem dX6_set_153 : decode cX6_set 153 = .ok (.goto 7, 3) := by decide +kernel
theorem dX6_set_156 : decode cX6_set 156 = .ok (.aload_n 0, 1) := by decide +kernel
theorem dX6_set_157 : decode cX6_set 157 = .ok (.getfield 45, 3) := by decide +kernel
theorem dX6_set_160 : decode cX6_set 160 = .ok (.putfield 45, 3) := by decide +kernel
theorem dX6_set_163 : decode cX6_set 163 = .ok (.iload 4, 2) := by decide +kernel
theorem dX6_set_165 : decode cX6_set 165 = .ok (.ireturn, 1) := by decide +kernel
theorem dX6_isPair_0 : decode cX6_isPair 0 = .ok (.aload_n 0, 1) := by decide +kernel
theorem dX6_isPair_1 : decode cX6_isPair 1 = .ok (.iload_n 1, 1) := by decide +kernel
theorem dX6_isPair_2 : decode cX6_isPair 2 = .ok (.invokevirtual 67, 3) := by decide +kernel
theorem dX6_isPair_5 : decode cX6_isPair 5 = .ok (.ifCond .eq 20, 3) := by decide +kernel
theorem dX6_isPair_8 : decode cX6_isPair 8 = .ok (.aload_n 0, 1) := by decide +kernel
theorem dX6_isPair_9 : decode cX6_isPair 9 = .ok (.iload_n 2, 1) := by decide +kernel
theorem dX6_isPair_10 : decode cX6_isPair 10 = .ok (.invokevirtual 67, 3) := by decide +kernel
theorem dX6_isPair_13 : decode cX6_isPair 13 = .ok (.ifCond .eq 12, 3) := by decide +kernel
theorem dX6_isPair_16 : decode cX6_isPair 16 = .ok (.iload_n 1, 1) := by decide +kernel
theorem dX6_isPair_17 : decode cX6_isPair 17 = .ok (.iload_n 2, 1) := by decide +kernel
theorem dX6_isPair_18 : decode cX6_isPair 18 = .ok (.if_icmp .eq 7, 3) := by decide +kernel
theorem dX6_isPair_21 : decode cX6_isPair 21 = .ok (.iconst 1, 1) := by decide +kernel
theorem dX6_isPair_22 : decode cX6_isPair 22 = .ok (.goto 4, 3) := by decide +kernel
theorem dX6_isPair_25 : decode cX6_isPair 25 = .ok (.iconst 0, 1) := by decide +kernel
theorem dX6_isPair_26 : decode cX6_isPair 26 = .ok (.ireturn, 1) := by decide +kernel
theorem dX6_layPair_0 : decode cX6_layPair 0 = .ok (.aload_n 0, 1) := by decide +kernel
theorem dX6_layPair_1 : decode cX6_layPair 1 = .ok (.aload_n 0, 1) := by decide +kernel
theorem dX6_layPair_2 : decode cX6_layPair 2 = .ok (.getfield 7, 3) := by decide +kernel
theorem dX6_layPair_5 : decode cX6_layPair 5 = .ok (.iload_n 1, 1) := by decide +kernel
theorem dX6_layPair_6 : decode cX6_layPair 6 = .ok (.iaload, 1) := by decide +kernel
theorem dX6_layPair_7 : decode cX6_layPair 7 = .ok (.putfield 73, 3) := by decide +kernel
theorem dX6_layPair_10 : decode cX6_layPair 10 = .ok (.aload_n 0, 1) := by decide +kernel
theorem dX6_layPair_11 : decode cX6_layPair 11 = .ok (.aload_n 0, 1) := by decide +kernel
theorem dX6_layPair_12 : decode cX6_layPair 12 = .ok (.getfield 7, 3) := by decide +kernel
theorem dX6_layPair_15 : decode cX6_layPair 15 = .ok (.iload_n 2, 1) := by decide +kernel
theorem dX6_layPair_16 : decode cX6_layPair 16 = .ok (.iaload, 1) := by decide +kernel
theorem dX6_layPair_17 : decode cX6_layPair 17 = .ok (.putfield 76, 3) := by decide +kernel
theorem dX6_layPair_20 : decode cX6_layPair 20 = .ok (.aload_n 0, 1) := by decide +kernel
theorem dX6_layPair_21 : decode cX6_layPair 21 = .ok (.aload_n 0, 1) := by decide +kernel
theorem dX6_layPair_22 : decode cX6_layPair 22 = .ok (.getfield 16, 3) := by decide +kernel
theorem dX6_layPair_25 : decode cX6_layPair 25 = .ok (.iload_n 1, 1) := by decide +kernel
theorem dX6_layPair_26 : decode cX6_layPair 26 = .ok (.iaload, 1) := by decide +kernel
theorem dX6_layPair_27 : decode cX6_layPair 27 = .ok (.putfield 79, 3) := by decide +kernel
theorem dX6_layPair_30 : decode cX6_layPair 30 = .ok (.aload_n 0, 1) := by decide +kernel
theorem dX6_layPair_31 : decode cX6_layPair 31 = .ok (.aload_n 0, 1) := by decide +kernel
theorem dX6_layPair_32 : decode cX6_layPair 32 = .ok (.getfield 16, 3) := by decide +kernel
theorem dX6_layPair_35 : decode cX6_layPair 35 = .ok (.iload_n 2, 1) := by decide +kernel
theorem dX6_layPair_36 : decode cX6_layPair 36 = .ok (.iaload, 1) := by decide +kernel
theorem dX6_layPair_37 : decode cX6_layPair 37 = .ok (.putfield 82, 3) := by decide +kernel
theorem dX6_layPair_40 : decode cX6_layPair 40 = .ok (.aload_n 0, 1) := by decide +kernel
theorem dX6_layPair_41 : decode cX6_layPair 41 = .ok (.aload_n 0, 1) := by decide +kernel
theorem dX6_layPair_42 : decode cX6_layPair 42 = .ok (.getfield 13, 3) := by decide +kernel
theorem dX6_layPair_45 : decode cX6_layPair 45 = .ok (.iload_n 1, 1) := by decide +kernel
theorem dX6_layPair_46 : decode cX6_layPair 46 = .ok (.iaload, 1) := by decide +kernel
theorem dX6_layPair_47 : decode cX6_layPair 47 = .ok (.aload_n 0, 1) := by decide +kernel
theorem dX6_layPair_48 : decode cX6_layPair 48 = .ok (.getfield 13, 3) := by decide +kernel
theorem dX6_layPair_51 : decode cX6_layPair 51 = .ok (.iload_n 2, 1) := by decide +kernel
theorem dX6_layPair_52 : decode cX6_layPair 52 = .ok (.iaload, 1) := by decide +kernel
theorem dX6_layPair_53 : decode cX6_layPair 53 = .ok (.if_icmp .ge 12, 3) := by decide +kernel
theorem dX6_layPair_56 : decode cX6_layPair 56 = .ok (.aload_n 0, 1) := by decide +kernel
theorem dX6_layPair_57 : decode cX6_layPair 57 = .ok (.getfield 13, 3) := by decide +kernel
theorem dX6_layPair_60 : decode cX6_layPair 60 = .ok (.iload_n 1, 1) := by decide +kernel
theorem dX6_layPair_61 : decode cX6_layPair 61 = .ok (.iaload, 1) := by decide +kernel
theorem dX6_layPair_62 : decode cX6_layPair 62 = .ok (.goto 9, 3) := by decide +kernel
theorem dX6_layPair_65 : decode cX6_layPair 65 = .ok (.aload_n 0, 1) := by decide +kernel
theorem dX6_layPair_66 : decode cX6_layPair 66 = .ok (.getfield 13, 3) := by decide +kernel
theorem dX6_layPair_69 : decode cX6_layPair 69 = .ok (.iload_n 2, 1) := by decide +kernel
theorem dX6_layPair_70 : decode cX6_layPair 70 = .ok (.iaload, 1) := by decide +kernel
theorem dX6_layPair_71 : decode cX6_layPair 71 = .ok (.putfield 85, 3) := by decide +kernel
theorem dX6_layPair_74 : decode cX6_layPair 74 = .ok (.aload_n 0, 1) := by decide +kernel
theorem dX6_layPair_75 : decode cX6_layPair 75 = .ok (.sipush 1000, 3) := by decide +kernel
theorem dX6_layPair_78 : decode cX6_layPair 78 = .ok (.putfield 88, 3) := by decide +kernel
theorem dX6_layPair_81 : decode cX6_layPair 81 = .ok (.aload_n 0, 1) := by decide +kernel
theorem dX6_layPair_82 : decode cX6_layPair 82 = .ok (.aload_n 0, 1) := by decide +kernel
theorem dX6_layPair_83 : decode cX6_layPair 83 = .ok (.getfield 38, 3) := by decide +kernel
theorem dX6_layPair_86 : decode cX6_layPair 86 = .ok (.putfield 91, 3) := by decide +kernel
theorem dX6_layPair_89 : decode cX6_layPair 89 = .ok (.return_, 1) := by decide +kernel
theorem dX6_begin_0 : decode cX6_begin 0 = .ok (.aload_n 0, 1) := by decide +kernel
theorem dX6_begin_1 : decode cX6_begin 1 = .ok (.iconst 0, 1) := by decide +kernel
theorem dX6_begin_2 : decode cX6_begin 2 = .ok (.putfield 94, 3) := by decide +kernel
theorem dX6_begin_5 : decode cX6_begin 5 = .ok (.aload_n 0, 1) := by decide +kernel
theorem dX6_begin_6 : decode cX6_begin 6 = .ok (.iconst 0, 1) := by decide +kernel
theorem dX6_begin_7 : decode cX6_begin 7 = .ok (.putfield 97, 3) := by decide +kernel
theorem dX6_begin_10 : decode cX6_begin 10 = .ok (.aload_n 0, 1) := by decide +kernel
theorem dX6_begin_11 : decode cX6_begin 11 = .ok (.iconst 0, 1) := by decide +kernel
theorem dX6_begin_12 : decode cX6_begin 12 = .ok (.putfield 100, 3) := by decide +kernel
theorem dX6_begin_15 : decode cX6_begin 15 = .ok (.aload_n 0, 1) := by decide +kernel
theorem dX6_begin_16 : decode cX6_begin 16 = .ok (.iconst 0, 1) := by decide +kernel
theorem dX6_begin_17 : decode cX6_begin 17 = .ok (.putfield 103, 3) := by decide +kernel
theorem dX6_begin_20 : decode cX6_begin 20 = .ok (.aload_n 0, 1) := by decide +kernel
theorem dX6_begin_21 : decode cX6_begin 21 = .ok (.iconst 0, 1) := by decide +kernel
theorem dX6_begin_22 : decode cX6_begin 22 = .ok (.putfield 106, 3) := by decide +kernel
theorem dX6_begin_25 : decode cX6_begin 25 = .ok (.aload_n 0, 1) := by decide +kernel
theorem dX6_begin_26 : decode cX6_begin 26 = .ok (.iconst 0, 1) := by decide +kernel
theorem dX6_begin_27 : decode cX6_begin 27 = .ok (.putfield 109, 3) := by decide +kernel
theorem dX6_begin_30 : decode cX6_begin 30 = .ok (.return_, 1) := by decide +kernel
theorem dX6_quicker_0 : decode cX6_quicker 0 = .ok (.aload_n 0, 1) := by decide +kernel
theorem dX6_quicker_1 : decode cX6_quicker 1 = .ok (.getfield 109, 3) := by decide +kernel
theorem dX6_quicker_4 : decode cX6_quicker 4 = .ok (.aload_n 0, 1) := by decide +kernel
theorem dX6_quicker_5 : decode cX6_quicker 5 = .ok (.getfield 88, 3) := by decide +kernel
theorem dX6_quicker_8 : decode cX6_quicker 8 = .ok (.if_icmp .lt 14, 3) := by decide +kernel
theorem dX6_quicker_11 : decode cX6_quicker 11 = .ok (.iload_n 1, 1) := by decide +kernel
theorem dX6_quicker_12 : decode cX6_quicker 12 = .ok (.iconst 4, 1) := by decide +kernel
theorem dX6_quicker_13 : decode cX6_quicker 13 = .ok (.if_icmp .le 9, 3) := by decide +kernel
theorem dX6_quicker_16 : decode cX6_quicker 16 = .ok (.iload_n 1, 1) := by decide +kernel
theorem dX6_quicker_17 : decode cX6_quicker 17 = .ok (.iconst 1, 1) := by decide +kernel
theorem dX6_quicker_18 : decode cX6_quicker 18 = .ok (.isub, 1) := by decide +kernel
theorem dX6_quicker_19 : decode cX6_quicker 19 = .ok (.goto 4, 3) := by decide +kernel
theorem dX6_quicker_22 : decode cX6_quicker 22 = .ok (.iload_n 1, 1) := by decide +kernel
theorem dX6_quicker_23 : decode cX6_quicker 23 = .ok (.ireturn, 1) := by decide +kernel
theorem dX6_next_0 : decode cX6_next 0 = .ok (.iload_n 0, 1) := by decide +kernel
theorem dX6_next_1 : decode cX6_next 1 = .ok (.iload_n 2, 1) := by decide +kernel
theorem dX6_next_2 : decode cX6_next 2 = .ok (.iadd, 1) := by decide +kernel
theorem dX6_next_3 : decode cX6_next 3 = .ok (.iload_n 3, 1) := by decide +kernel
theorem dX6_next_4 : decode cX6_next 4 = .ok (.iload_n 1, 1) := by decide +kernel
theorem dX6_next_5 : decode cX6_next 5 = .ok (.iload_n 0, 1) := by decide +kernel
theorem dX6_next_6 : decode cX6_next 6 = .ok (.isub, 1) := by decide +kernel
theorem dX6_next_7 : decode cX6_next 7 = .ok (.imul, 1) := by decide +kernel
theorem dX6_next_8 : decode cX6_next 8 = .ok (.iconst 4, 1) := by decide +kernel
theorem dX6_next_9 : decode cX6_next 9 = .ok (.idiv, 1) := by decide +kernel
theorem dX6_next_10 : decode cX6_next 10 = .ok (.iadd, 1) := by decide +kernel
theorem dX6_next_11 : decode cX6_next 11 = .ok (.istore 4, 2) := by decide +kernel
theorem dX6_next_13 : decode cX6_next 13 = .ok (.iload 4, 2) := by decide +kernel
theorem dX6_next_15 : decode cX6_next 15 = .ok (.iload_n 0, 1) := by decide +kernel
theorem dX6_next_16 : decode cX6_next 16 = .ok (.if_icmp .le 8, 3) := by decide +kernel
theorem dX6_next_19 : decode cX6_next 19 = .ok (.iload 4, 2) := by decide +kernel
theorem dX6_next_21 : decode cX6_next 21 = .ok (.goto 6, 3) := by decide +kernel
theorem dX6_next_24 : decode cX6_next 24 = .ok (.iload_n 0, 1) := by decide +kernel
theorem dX6_next_25 : decode cX6_next 25 = .ok (.iconst 1, 1) := by decide +kernel
theorem dX6_next_26 : decode cX6_next 26 = .ok (.iadd, 1) := by decide +kernel
theorem dX6_next_27 : decode cX6_next 27 = .ok (.ireturn, 1) := by decide +kernel
theorem dX6_step_0 : decode cX6_step 0 = .ok (.aload_n 0, 1) := by decide +kernel
theorem dX6_step_1 : decode cX6_step 1 = .ok (.getfield 94, 3) := by decide +kernel
theorem dX6_step_4 : decode cX6_step 4 = .ok (.aload_n 0, 1) := by decide +kernel
theorem dX6_step_5 : decode cX6_step 5 = .ok (.getfield 97, 3) := by decide +kernel
theorem dX6_step_8 : decode cX6_step 8 = .ok (.aload_n 0, 1) := by decide +kernel
theorem dX6_step_9 : decode cX6_step 9 = .ok (.aload_n 0, 1) := by decide +kernel
theorem dX6_step_10 : decode cX6_step 10 = .ok (.getfield 73, 3) := by decide +kernel
theorem dX6_step_13 : decode cX6_step 13 = .ok (.invokevirtual 112, 3) := by decide +kernel
theorem dX6_step_16 : decode cX6_step 16 = .ok (.aload_n 0, 1) := by decide +kernel
theorem dX6_step_17 : decode cX6_step 17 = .ok (.getfield 79, 3) := by decide +kernel
theorem dX6_step_20 : decode cX6_step 20 = .ok (.invokestatic 115, 3) := by decide +kernel
theorem dX6_step_23 : decode cX6_step 23 = .ok (.istore_n 1, 1) := by decide +kernel
theorem dX6_step_24 : decode cX6_step 24 = .ok (.aload_n 0, 1) := by decide +kernel
theorem dX6_step_25 : decode cX6_step 25 = .ok (.getfield 97, 3) := by decide +kernel
theorem dX6_step_28 : decode cX6_step 28 = .ok (.aload_n 0, 1) := by decide +kernel
theorem dX6_step_29 : decode cX6_step 29 = .ok (.getfield 94, 3) := by decide +kernel
theorem dX6_step_32 : decode cX6_step 32 = .ok (.aload_n 0, 1) := by decide +kernel
theorem dX6_step_33 : decode cX6_step 33 = .ok (.aload_n 0, 1) := by decide +kernel
theorem dX6_step_34 : decode cX6_step 34 = .ok (.getfield 76, 3) := by decide +kernel
theorem dX6_step_37 : decode cX6_step 37 = .ok (.invokevirtual 112, 3) := by decide +kernel
theorem dX6_step_40 : decode cX6_step 40 = .ok (.aload_n 0, 1) := by decide +kernel
theorem dX6_step_41 : decode cX6_step 41 = .ok (.getfield 82, 3) := by decide +kernel
theorem dX6_step_44 : decode cX6_step 44 = .ok (.invokestatic 115, 3) := by decide +kernel
theorem dX6_step_47 : decode cX6_step 47 = .ok (.istore_n 2, 1) := by decide +kernel
theorem dX6_step_48 : decode cX6_step 48 = .ok (.iload_n 1, 1) := by decide +kernel
theorem dX6_step_49 : decode cX6_step 49 = .ok (.iload_n 2, 1) := by decide +kernel
theorem dX6_step_50 : decode cX6_step 50 = .ok (.if_icmp .le 9, 3) := by decide +kernel
theorem dX6_step_53 : decode cX6_step 53 = .ok (.iload_n 1, 1) := by decide +kernel
theorem dX6_step_54 : decode cX6_step 54 = .ok (.iload_n 2, 1) := by decide +kernel
theorem dX6_step_55 : decode cX6_step 55 = .ok (.isub, 1) := by decide +kernel
theorem dX6_step_56 : decode cX6_step 56 = .ok (.goto 6, 3) := by decide +kernel
theorem dX6_step_59 : decode cX6_step 59 = .ok (.iload_n 2, 1) := by decide +kernel
theorem dX6_step_60 : decode cX6_step 60 = .ok (.iload_n 1, 1) := by decide +kernel
theorem dX6_step_61 : decode cX6_step 61 = .ok (.isub, 1) := by decide +kernel
theorem dX6_step_62 : decode cX6_step 62 = .ok (.istore_n 3, 1) := by decide +kernel
theorem dX6_step_63 : decode cX6_step 63 = .ok (.iload_n 1, 1) := by decide +kernel
theorem dX6_step_64 : decode cX6_step 64 = .ok (.iload_n 2, 1) := by decide +kernel
theorem dX6_step_65 : decode cX6_step 65 = .ok (.if_icmp .le 7, 3) := by decide +kernel
theorem dX6_step_68 : decode cX6_step 68 = .ok (.iload_n 1, 1) := by decide +kernel
theorem dX6_step_69 : decode cX6_step 69 = .ok (.goto 4, 3) := by decide +kernel
theorem dX6_step_72 : decode cX6_step 72 = .ok (.iload_n 2, 1) := by decide +kernel
theorem dX6_step_73 : decode cX6_step 73 = .ok (.istore 4, 2) := by decide +kernel
theorem dX6_step_75 : decode cX6_step 75 = .ok (.aload_n 0, 1) := by decide +kernel
theorem dX6_step_76 : decode cX6_step 76 = .ok (.iload_n 3, 1) := by decide +kernel
theorem dX6_step_77 : decode cX6_step 77 = .ok (.aload_n 0, 1) := by decide +kernel
theorem dX6_step_78 : decode cX6_step 78 = .ok (.getfield 42, 3) := by decide +kernel
theorem dX6_step_81 : decode cX6_step 81 = .ok (.if_icmp .le 8, 3) := by decide +kernel
theorem dX6_step_84 : decode cX6_step 84 = .ok (.bipush 102, 2) := by decide +kernel
theorem dX6_step_86 : decode cX6_step 86 = .ok (.goto 18, 3) := by decide +kernel
theorem dX6_step_89 : decode cX6_step 89 = .ok (.iload_n 3, 1) := by decide +kernel
theorem dX6_step_90 : decode cX6_step 90 = .ok (.aload_n 0, 1) := by decide +kernel
theorem dX6_step_91 : decode cX6_step 91 = .ok (.getfield 91, 3) := by decide +kernel
theorem dX6_step_94 : decode cX6_step 94 = .ok (.if_icmp .le 8, 3) := by decide +kernel
theorem dX6_step_97 : decode cX6_step 97 = .ok (.bipush 108, 2) := by decide +kernel
theorem dX6_step_99 : decode cX6_step 99 = .ok (.goto 5, 3) := by decide +kernel
theorem dX6_step_102 : decode cX6_step 102 = .ok (.bipush 115, 2) := by decide +kernel
theorem dX6_step_104 : decode cX6_step 104 = .ok (.putfield 119, 3) := by decide +kernel
theorem dX6_step_107 : decode cX6_step 107 = .ok (.aload_n 0, 1) := by decide +kernel
theorem dX6_step_108 : decode cX6_step 108 = .ok (.iload_n 1, 1) := by decide +kernel
theorem dX6_step_109 : decode cX6_step 109 = .ok (.iload_n 2, 1) := by decide +kernel
theorem dX6_step_110 : decode cX6_step 110 = .ok (.if_icmp .ge 7, 3) := by decide +kernel
theorem dX6_step_113 : decode cX6_step 113 = .ok (.iconst 0, 1) := by decide +kernel
theorem dX6_step_114 : decode cX6_step 114 = .ok (.goto 4, 3) := by decide +kernel
theorem dX6_step_117 : decode cX6_step 117 = .ok (.iconst 1, 1) := by decide +kernel
theorem dX6_step_118 : decode cX6_step 118 = .ok (.putfield 122, 3) := by decide +kernel
theorem dX6_step_121 : decode cX6_step 121 = .ok (.aload_n 0, 1) := by decide +kernel
theorem dX6_step_122 : decode cX6_step 122 = .ok (.dup, 1) := by decide +kernel
theorem dX6_step_123 : decode cX6_step 123 = .ok (.getfield 106, 3) := by decide +kernel
theorem dX6_step_126 : decode cX6_step 126 = .ok (.aload_n 0, 1) := by decide +kernel
theorem dX6_step_127 : decode cX6_step 127 = .ok (.getfield 119, 3) := by decide +kernel
theorem dX6_step_130 : decode cX6_step 130 = .ok (.bipush 102, 2) := by decide +kernel
theorem dX6_step_132 : decode cX6_step 132 = .ok (.if_icmp .ne 7, 3) := by decide +kernel
theorem dX6_step_135 : decode cX6_step 135 = .ok (.iconst 1, 1) := by decide +kernel
theorem dX6_step_136 : decode cX6_step 136 = .ok (.goto 4, 3) := by decide +kernel
theorem dX6_step_139 : decode cX6_step 139 = .ok (.iconst 0, 1) := by decide +kernel
theorem dX6_step_140 : decode cX6_step 140 = .ok (.iadd, 1) := by decide +kernel
theorem dX6_step_141 : decode cX6_step 141 = .ok (.putfield 106, 3) := by decide +kernel
theorem dX6_step_144 : decode cX6_step 144 = .ok (.aload_n 0, 1) := by decide +kernel
theorem dX6_step_145 : decode cX6_step 145 = .ok (.dup, 1) := by decide +kernel
theorem dX6_step_146 : decode cX6_step 146 = .ok (.getfield 103, 3) := by decide +kernel
theorem dX6_step_149 : decode cX6_step 149 = .ok (.aload_n 0, 1) := by decide +kernel
theorem dX6_step_150 : decode cX6_step 150 = .ok (.getfield 119, 3) := by decide +kernel
theorem dX6_step_153 : decode cX6_step 153 = .ok (.bipush 108, 2) := by decide +kernel
theorem dX6_step_155 : decode cX6_step 155 = .ok (.if_icmp .ne 7, 3) := by decide +kernel
theorem dX6_step_158 : decode cX6_step 158 = .ok (.iconst 1, 1) := by decide +kernel
theorem dX6_step_159 : decode cX6_step 159 = .ok (.goto 4, 3) := by decide +kernel
theorem dX6_step_162 : decode cX6_step 162 = .ok (.iconst 0, 1) := by decide +kernel
theorem dX6_step_163 : decode cX6_step 163 = .ok (.iadd, 1) := by decide +kernel
theorem dX6_step_164 : decode cX6_step 164 = .ok (.putfield 103, 3) := by decide +kernel
theorem dX6_step_167 : decode cX6_step 167 = .ok (.aload_n 0, 1) := by decide +kernel
theorem dX6_step_168 : decode cX6_step 168 = .ok (.dup, 1) := by decide +kernel
theorem dX6_step_169 : decode cX6_step 169 = .ok (.getfield 100, 3) := by decide +kernel
theorem dX6_step_172 : decode cX6_step 172 = .ok (.aload_n 0, 1) := by decide +kernel
theorem dX6_step_173 : decode cX6_step 173 = .ok (.getfield 119, 3) := by decide +kernel
theorem dX6_step_176 : decode cX6_step 176 = .ok (.bipush 115, 2) := by decide +kernel
theorem dX6_step_178 : decode cX6_step 178 = .ok (.if_icmp .ne 10, 3) := by decide +kernel
theorem dX6_step_181 : decode cX6_step 181 = .ok (.aload_n 0, 1) := by decide +kernel
theorem dX6_step_182 : decode cX6_step 182 = .ok (.getfield 85, 3) := by decide +kernel
theorem dX6_step_185 : decode cX6_step 185 = .ok (.goto 4, 3) := by decide +kernel
theorem dX6_step_188 : decode cX6_step 188 = .ok (.iconst 0, 1) := by decide +kernel
theorem dX6_step_189 : decode cX6_step 189 = .ok (.iadd, 1) := by decide +kernel
theorem dX6_step_190 : decode cX6_step 190 = .ok (.putfield 100, 3) := by decide +kernel
theorem dX6_step_193 : decode cX6_step 193 = .ok (.aload_n 0, 1) := by decide +kernel
theorem dX6_step_194 : decode cX6_step 194 = .ok (.aload_n 0, 1) := by decide +kernel
theorem dX6_step_195 : decode cX6_step 195 = .ok (.getfield 119, 3) := by decide +kernel
theorem dX6_step_198 : decode cX6_step 198 = .ok (.bipush 102, 2) := by decide +kernel
theorem dX6_step_200 : decode cX6_step 200 = .ok (.if_icmp .ne 13, 3) := by decide +kernel
theorem dX6_step_203 : decode cX6_step 203 = .ok (.iload 4, 2) := by decide +kernel
theorem dX6_step_205 : decode cX6_step 205 = .ok (.aload_n 0, 1) := by decide +kernel
theorem dX6_step_206 : decode cX6_step 206 = .ok (.getfield 45, 3) := by decide +kernel
theorem dX6_step_209 : decode cX6_step 209 = .ok (.iadd, 1) := by decide +kernel
theorem dX6_step_210 : decode cX6_step 210 = .ok (.goto 4, 3) := by decide +kernel
theorem dX6_step_213 : decode cX6_step 213 = .ok (.iload_n 1, 1) := by decide +kernel
theorem dX6_step_214 : decode cX6_step 214 = .ok (.putfield 94, 3) := by decide +kernel
theorem dX6_step_217 : decode cX6_step 217 = .ok (.aload_n 0, 1) := by decide +kernel
theorem dX6_step_218 : decode cX6_step 218 = .ok (.aload_n 0, 1) := by decide +kernel
theorem dX6_step_219 : decode cX6_step 219 = .ok (.getfield 119, 3) := by decide +kernel
theorem dX6_step_222 : decode cX6_step 222 = .ok (.bipush 102, 2) := by decide +kernel
theorem dX6_step_224 : decode cX6_step 224 = .ok (.if_icmp .ne 13, 3) := by decide +kernel
theorem dX6_step_227 : decode cX6_step 227 = .ok (.iload 4, 2) := by decide +kernel
theorem dX6_step_229 : decode cX6_step 229 = .ok (.aload_n 0, 1) := by decide +kernel
theorem dX6_step_230 : decode cX6_step 230 = .ok (.getfield 45, 3) := by decide +kernel
theorem dX6_step_233 : decode cX6_step 233 = .ok (.iadd, 1) := by decide +kernel
theorem dX6_step_234 : decode cX6_step 234 = .ok (.goto 4, 3) := by decide +kernel
theorem dX6_step_237 : decode cX6_step 237 = .ok (.iload_n 2, 1) := by decide +kernel
theorem dX6_step_238 : decode cX6_step 238 = .ok (.putfield 97, 3) := by decide +kernel
theorem dX6_step_241 : decode cX6_step 241 = .ok (.aload_n 0, 1) := by decide +kernel
theorem dX6_step_242 : decode cX6_step 242 = .ok (.dup, 1) := by decide +kernel
theorem dX6_step_243 : decode cX6_step 243 = .ok (.getfield 109, 3) := by decide +kernel
theorem dX6_step_246 : decode cX6_step 246 = .ok (.iconst 1, 1) := by decide +kernel
theorem dX6_step_247 : decode cX6_step 247 = .ok (.iadd, 1) := by decide +kernel
theorem dX6_step_248 : decode cX6_step 248 = .ok (.putfield 109, 3) := by decide +kernel
theorem dX6_step_251 : decode cX6_step 251 = .ok (.return_, 1) := by decide +kernel
theorem dX6_time_0 : decode cX6_time 0 = .ok (.aload_n 0, 1) := by decide +kernel
theorem dX6_time_1 : decode cX6_time 1 = .ok (.getfield 94, 3) := by decide +kernel
theorem dX6_time_4 : decode cX6_time 4 = .ok (.aload_n 0, 1) := by decide +kernel
theorem dX6_time_5 : decode cX6_time 5 = .ok (.getfield 97, 3) := by decide +kernel
theorem dX6_time_8 : decode cX6_time 8 = .ok (.if_icmp .le 10, 3) := by decide +kernel
theorem dX6_time_11 : decode cX6_time 11 = .ok (.aload_n 0, 1) := by decide +kernel
theorem dX6_time_12 : decode cX6_time 12 = .ok (.getfield 94, 3) := by decide +kernel
theorem dX6_time_15 : decode cX6_time 15 = .ok (.goto 7, 3) := by decide +kernel
theorem dX6_time_18 : decode cX6_time 18 = .ok (.aload_n 0, 1) := by decide +kernel
theorem dX6_time_19 : decode cX6_time 19 = .ok (.getfield 97, 3) := by decide +kernel
theorem dX6_time_22 : decode cX6_time 22 = .ok (.ireturn, 1) := by decide +kernel
theorem dX6_timeOf_0 : decode cX6_timeOf 0 = .ok (.aload_n 0, 1) := by decide +kernel
theorem dX6_timeOf_1 : decode cX6_timeOf 1 = .ok (.invokevirtual 125, 3) := by decide +kernel
theorem dX6_timeOf_4 : decode cX6_timeOf 4 = .ok (.aload_n 0, 1) := by decide +kernel
theorem dX6_timeOf_5 : decode cX6_timeOf 5 = .ok (.getfield 109, 3) := by decide +kernel
theorem dX6_timeOf_8 : decode cX6_timeOf 8 = .ok (.sipush 999, 3) := by decide +kernel
theorem dX6_timeOf_11 : decode cX6_timeOf 11 = .ok (.if_icmp .ge 18, 3) := by decide +kernel
theorem dX6_timeOf_14 : decode cX6_timeOf 14 = .ok (.aload_n 0, 1) := by decide +kernel
theorem dX6_timeOf_15 : decode cX6_timeOf 15 = .ok (.getfield 100, 3) := by decide +kernel
theorem dX6_timeOf_18 : decode cX6_timeOf 18 = .ok (.iload_n 1, 1) := by decide +kernel
theorem dX6_timeOf_19 : decode cX6_timeOf 19 = .ok (.if_icmp .ge 10, 3) := by decide +kernel
theorem dX6_timeOf_22 : decode cX6_timeOf 22 = .ok (.aload_n 0, 1) := by decide +kernel
theorem dX6_timeOf_23 : decode cX6_timeOf 23 = .ok (.invokevirtual 128, 3) := by decide +kernel
theorem dX6_timeOf_26 : decode cX6_timeOf 26 = .ok (.goto (-22), 3) := by decide +kernel
theorem dX6_timeOf_29 : decode cX6_timeOf 29 = .ok (.aload_n 0, 1) := by decide +kernel
theorem dX6_timeOf_30 : decode cX6_timeOf 30 = .ok (.getfield 100, 3) := by decide +kernel
theorem dX6_timeOf_33 : decode cX6_timeOf 33 = .ok (.iload_n 1, 1) := by decide +kernel
theorem dX6_timeOf_34 : decode cX6_timeOf 34 = .ok (.if_icmp .lt 10, 3) := by decide +kernel
theorem dX6_timeOf_37 : decode cX6_timeOf 37 = .ok (.aload_n 0, 1) := by decide +kernel
theorem dX6_timeOf_38 : decode cX6_timeOf 38 = .ok (.invokevirtual 131, 3) := by decide +kernel
theorem dX6_timeOf_41 : decode cX6_timeOf 41 = .ok (.goto 5, 3) := by decide +kernel
theorem dX6_timeOf_44 : decode cX6_timeOf 44 = .ok (.ldc 135, 2) := by decide +kernel
theorem dX6_timeOf_46 : decode cX6_timeOf 46 = .ok (.ireturn, 1) := by decide +kernel
theorem dX6_pair_0 : decode cX6_pair 0 = .ok (.aload_n 0, 1) := by decide +kernel
theorem dX6_pair_1 : decode cX6_pair 1 = .ok (.iload_n 1, 1) := by decide +kernel
theorem dX6_pair_2 : decode cX6_pair 2 = .ok (.iload_n 2, 1) := by decide +kernel
theorem dX6_pair_3 : decode cX6_pair 3 = .ok (.invokevirtual 136, 3) := by decide +kernel
theorem dX6_pair_6 : decode cX6_pair 6 = .ok (.ifCond .ne 5, 3) := by decide +kernel
theorem dX6_pair_9 : decode cX6_pair 9 = .ok (.iconst (-1), 1) := by decide +kernel
theorem dX6_pair_10 : decode cX6_pair 10 = .ok (.ireturn, 1) := by decide +kernel
theorem dX6_pair_11 : decode cX6_pair 11 = .ok (.iload_n 3, 1) := by decide +kernel
theorem dX6_pair_12 : decode cX6_pair 12 = .ok (.i2l, 1) := by decide +kernel
theorem dX6_pair_13 : decode cX6_pair 13 = .ok (.lconst 0, 1) := by decide +kernel
theorem dX6_pair_14 : decode cX6_pair 14 = .ok (.ldc2_w 140, 3) := by decide +kernel
theorem dX6_pair_17 : decode cX6_pair 17 = .ok (.invokestatic 50, 3) := by decide +kernel
theorem dX6_pair_20 : decode cX6_pair 20 = .ok (.ifCond .eq 16, 3) := by decide +kernel
theorem dX6_pair_23 : decode cX6_pair 23 = .ok (.iload 4, 2) := by decide +kernel
theorem dX6_pair_25 : decode cX6_pair 25 = .ok (.i2l, 1) := by decide +kernel
theorem dX6_pair_26 : decode cX6_pair 26 = .ok (.lconst 0, 1) := by decide +kernel
theorem dX6_pair_27 : decode cX6_pair 27 = .ok (.ldc2_w 57, 3) := by decide +kernel
theorem dX6_pair_30 : decode cX6_pair 30 = .ok (.invokestatic 50, 3) := by decide +kernel
theorem dX6_pair_33 : decode cX6_pair 33 = .ok (.ifCond .ne 6, 3) := by decide +kernel
theorem dX6_pair_36 : decode cX6_pair 36 = .ok (.bipush (-2), 2) := by decide +kernel
theorem dX6_pair_38 : decode cX6_pair 38 = .ok (.ireturn, 1) := by decide +kernel
theorem dX6_pair_39 : decode cX6_pair 39 = .ok (.aload_n 0, 1) := by decide +kernel
theorem dX6_pair_40 : decode cX6_pair 40 = .ok (.iload_n 1, 1) := by decide +kernel
theorem dX6_pair_41 : decode cX6_pair 41 = .ok (.iload_n 2, 1) := by decide +kernel
theorem dX6_pair_42 : decode cX6_pair 42 = .ok (.invokevirtual 142, 3) := by decide +kernel
theorem dX6_pair_45 : decode cX6_pair 45 = .ok (.aload_n 0, 1) := by decide +kernel
theorem dX6_pair_46 : decode cX6_pair 46 = .ok (.invokevirtual 125, 3) := by decide +kernel
theorem dX6_pair_49 : decode cX6_pair 49 = .ok (.aload_n 0, 1) := by decide +kernel
theorem dX6_pair_50 : decode cX6_pair 50 = .ok (.getfield 109, 3) := by decide +kernel
theorem dX6_pair_53 : decode cX6_pair 53 = .ok (.iload_n 3, 1) := by decide +kernel
theorem dX6_pair_54 : decode cX6_pair 54 = .ok (.if_icmp .ge 10, 3) := by decide +kernel
theorem dX6_pair_57 : decode cX6_pair 57 = .ok (.aload_n 0, 1) := by decide +kernel
theorem dX6_pair_58 : decode cX6_pair 58 = .ok (.invokevirtual 128, 3) := by decide +kernel
theorem dX6_pair_61 : decode cX6_pair 61 = .ok (.goto (-12), 3) := by decide +kernel
theorem dX6_pair_64 : decode cX6_pair 64 = .ok (.aload_n 0, 1) := by decide +kernel
theorem dX6_pair_65 : decode cX6_pair 65 = .ok (.getfield 94, 3) := by decide +kernel
theorem dX6_pair_68 : decode cX6_pair 68 = .ok (.aload_n 0, 1) := by decide +kernel
theorem dX6_pair_69 : decode cX6_pair 69 = .ok (.getfield 97, 3) := by decide +kernel
theorem dX6_pair_72 : decode cX6_pair 72 = .ok (.if_icmp .le 15, 3) := by decide +kernel
theorem dX6_pair_75 : decode cX6_pair 75 = .ok (.aload_n 0, 1) := by decide +kernel
theorem dX6_pair_76 : decode cX6_pair 76 = .ok (.getfield 94, 3) := by decide +kernel
theorem dX6_pair_79 : decode cX6_pair 79 = .ok (.aload_n 0, 1) := by decide +kernel
theorem dX6_pair_80 : decode cX6_pair 80 = .ok (.getfield 97, 3) := by decide +kernel
theorem dX6_pair_83 : decode cX6_pair 83 = .ok (.isub, 1) := by decide +kernel
theorem dX6_pair_84 : decode cX6_pair 84 = .ok (.goto 12, 3) := by decide +kernel
theorem dX6_pair_87 : decode cX6_pair 87 = .ok (.aload_n 0, 1) := by decide +kernel
theorem dX6_pair_88 : decode cX6_pair 88 = .ok (.getfield 97, 3) := by decide +kernel
theorem dX6_pair_91 : decode cX6_pair 91 = .ok (.aload_n 0, 1) := by decide +kernel
theorem dX6_pair_92 : decode cX6_pair 92 = .ok (.getfield 94, 3) := by decide +kernel
theorem dX6_pair_95 : decode cX6_pair 95 = .ok (.isub, 1) := by decide +kernel
theorem dX6_pair_96 : decode cX6_pair 96 = .ok (.istore 5, 2) := by decide +kernel
theorem dX6_pair_98 : decode cX6_pair 98 = .ok (.iload 4, 2) := by decide +kernel
theorem dX6_pair_100 : decode cX6_pair 100 = .ok (.ifCond .ne 10, 3) := by decide +kernel
theorem dX6_pair_103 : decode cX6_pair 103 = .ok (.aload_n 0, 1) := by decide +kernel
theorem dX6_pair_104 : decode cX6_pair 104 = .ok (.invokevirtual 131, 3) := by decide +kernel
theorem dX6_pair_107 : decode cX6_pair 107 = .ok (.goto 44, 3) := by decide +kernel
theorem dX6_pair_110 : decode cX6_pair 110 = .ok (.iload 4, 2) := by decide +kernel
theorem dX6_pair_112 : decode cX6_pair 112 = .ok (.iconst 1, 1) := by decide +kernel
theorem dX6_pair_113 : decode cX6_pair 113 = .ok (.if_icmp .ne 10, 3) := by decide +kernel
theorem dX6_pair_116 : decode cX6_pair 116 = .ok (.aload_n 0, 1) := by decide +kernel
theorem dX6_pair_117 : decode cX6_pair 117 = .ok (.getfield 100, 3) := by decide +kernel
theorem dX6_pair_120 : decode cX6_pair 120 = .ok (.goto 31, 3) := by decide +kernel
theorem dX6_pair_123 : decode cX6_pair 123 = .ok (.iload 4, 2) := by decide +kernel
theorem dX6_pair_125 : decode cX6_pair 125 = .ok (.iconst 2, 1) := by decide +kernel
theorem dX6_pair_126 : decode cX6_pair 126 = .ok (.if_icmp .ne 10, 3) := by decide +kernel
theorem dX6_pair_129 : decode cX6_pair 129 = .ok (.aload_n 0, 1) := by decide +kernel
theorem dX6_pair_130 : decode cX6_pair 130 = .ok (.getfield 103, 3) := by decide +kernel
theorem dX6_pair_133 : decode cX6_pair 133 = .ok (.goto 18, 3) := by decide +kernel
theorem dX6_pair_136 : decode cX6_pair 136 = .ok (.iload 4, 2) := by decide +kernel
theorem dX6_pair_138 : decode cX6_pair 138 = .ok (.iconst 3, 1) := by decide +kernel
theorem dX6_pair_139 : decode cX6_pair 139 = .ok (.if_icmp .ne 10, 3) := by decide +kernel
theorem dX6_pair_142 : decode cX6_pair 142 = .ok (.aload_n 0, 1) := by decide +kernel
theorem dX6_pair_143 : decode cX6_pair 143 = .ok (.getfield 106, 3) := by decide +kernel
theorem dX6_pair_146 : decode cX6_pair 146 = .ok (.goto 5, 3) := by decide +kernel
theorem dX6_pair_149 : decode cX6_pair 149 = .ok (.iload 5, 2) := by decide +kernel
theorem dX6_pair_151 : decode cX6_pair 151 = .ok (.ireturn, 1) := by decide +kernel
theorem dX6_isFar_0 : decode cX6_isFar 0 = .ok (.iload_n 0, 1) := by decide +kernel
theorem dX6_isFar_1 : decode cX6_isFar 1 = .ok (.i2l, 1) := by decide +kernel
theorem dX6_isFar_2 : decode cX6_isFar 2 = .ok (.lconst 1, 1) := by decide +kernel
theorem dX6_isFar_3 : decode cX6_isFar 3 = .ok (.ldc2_w 140, 3) := by decide +kernel
theorem dX6_isFar_6 : decode cX6_isFar 6 = .ok (.invokestatic 50, 3) := by decide +kernel
theorem dX6_isFar_9 : decode cX6_isFar 9 = .ok (.ireturn, 1) := by decide +kernel
theorem dX6_reach_0 : decode cX6_reach 0 = .ok (.aload_n 0, 1) := by decide +kernel
theorem dX6_reach_1 : decode cX6_reach 1 = .ok (.iload_n 1, 1) := by decide +kernel
theorem dX6_reach_2 : decode cX6_reach 2 = .ok (.iload_n 2, 1) := by decide +kernel
theorem dX6_reach_3 : decode cX6_reach 3 = .ok (.invokevirtual 136, 3) := by decide +kernel
theorem dX6_reach_6 : decode cX6_reach 6 = .ok (.ifCond .ne 5, 3) := by decide +kernel
theorem dX6_reach_9 : decode cX6_reach 9 = .ok (.iconst (-1), 1) := by decide +kernel
theorem dX6_reach_10 : decode cX6_reach 10 = .ok (.ireturn, 1) := by decide +kernel
theorem dX6_reach_11 : decode cX6_reach 11 = .ok (.iload_n 3, 1) := by decide +kernel
theorem dX6_reach_12 : decode cX6_reach 12 = .ok (.invokestatic 146, 3) := by decide +kernel
theorem dX6_reach_15 : decode cX6_reach 15 = .ok (.ifCond .eq 14, 3) := by decide +kernel
theorem dX6_reach_18 : decode cX6_reach 18 = .ok (.iload 4, 2) := by decide +kernel
theorem dX6_reach_20 : decode cX6_reach 20 = .ok (.i2l, 1) := by decide +kernel
theorem dX6_reach_21 : decode cX6_reach 21 = .ok (.lconst 0, 1) := by decide +kernel
theorem dX6_reach_22 : decode cX6_reach 22 = .ok (.lconst 1, 1) := by decide +kernel
theorem dX6_reach_23 : decode cX6_reach 23 = .ok (.invokestatic 50, 3) := by decide +kernel
theorem dX6_reach_26 : decode cX6_reach 26 = .ok (.ifCond .ne 6, 3) := by decide +kernel
theorem dX6_reach_29 : decode cX6_reach 29 = .ok (.bipush (-2), 2) := by decide +kernel
theorem dX6_reach_31 : decode cX6_reach 31 = .ok (.ireturn, 1) := by decide +kernel
theorem dX6_reach_32 : decode cX6_reach 32 = .ok (.aload_n 0, 1) := by decide +kernel
theorem dX6_reach_33 : decode cX6_reach 33 = .ok (.iload_n 1, 1) := by decide +kernel
theorem dX6_reach_34 : decode cX6_reach 34 = .ok (.iload_n 2, 1) := by decide +kernel
theorem dX6_reach_35 : decode cX6_reach 35 = .ok (.invokevirtual 142, 3) := by decide +kernel
theorem dX6_reach_38 : decode cX6_reach 38 = .ok (.aload_n 0, 1) := by decide +kernel
theorem dX6_reach_39 : decode cX6_reach 39 = .ok (.iload_n 3, 1) := by decide +kernel
theorem dX6_reach_40 : decode cX6_reach 40 = .ok (.invokevirtual 149, 3) := by decide +kernel
theorem dX6_reach_43 : decode cX6_reach 43 = .ok (.istore 5, 2) := by decide +kernel
theorem dX6_reach_45 : decode cX6_reach 45 = .ok (.iload 5, 2) := by decide +kernel
theorem dX6_reach_47 : decode cX6_reach 47 = .ok (.ldc 135, 2) := by decide +kernel
theorem dX6_reach_49 : decode cX6_reach 49 = .ok (.if_icmp .ne 8, 3) := by decide +kernel
theorem dX6_reach_52 : decode cX6_reach 52 = .ok (.bipush (-6), 2) := by decide +kernel
theorem dX6_reach_54 : decode cX6_reach 54 = .ok (.goto 19, 3) := by decide +kernel
theorem dX6_reach_57 : decode cX6_reach 57 = .ok (.iload 4, 2) := by decide +kernel
theorem dX6_reach_59 : decode cX6_reach 59 = .ok (.ifCond .ne 12, 3) := by decide +kernel
theorem dX6_reach_62 : decode cX6_reach 62 = .ok (.aload_n 0, 1) := by decide +kernel
theorem dX6_reach_63 : decode cX6_reach 63 = .ok (.getfield 109, 3) := by decide +kernel
theorem dX6_reach_66 : decode cX6_reach 66 = .ok (.iconst 1, 1) := by decide +kernel
theorem dX6_reach_67 : decode cX6_reach 67 = .ok (.isub, 1) := by decide +kernel
theorem dX6_reach_68 : decode cX6_reach 68 = .ok (.goto 5, 3) := by decide +kernel
theorem dX6_reach_71 : decode cX6_reach 71 = .ok (.iload 5, 2) := by decide +kernel
theorem dX6_reach_73 : decode cX6_reach 73 = .ok (.ireturn, 1) := by decide +kernel
theorem dX6_who_0 : decode cX6_who 0 = .ok (.aload_n 0, 1) := by decide +kernel
theorem dX6_who_1 : decode cX6_who 1 = .ok (.iload_n 1, 1) := by decide +kernel
theorem dX6_who_2 : decode cX6_who 2 = .ok (.iload_n 2, 1) := by decide +kernel
theorem dX6_who_3 : decode cX6_who 3 = .ok (.invokevirtual 136, 3) := by decide +kernel
theorem dX6_who_6 : decode cX6_who 6 = .ok (.ifCond .ne 5, 3) := by decide +kernel
theorem dX6_who_9 : decode cX6_who 9 = .ok (.iconst (-1), 1) := by decide +kernel
theorem dX6_who_10 : decode cX6_who 10 = .ok (.ireturn, 1) := by decide +kernel
theorem dX6_who_11 : decode cX6_who 11 = .ok (.iload_n 3, 1) := by decide +kernel
theorem dX6_who_12 : decode cX6_who 12 = .ok (.i2l, 1) := by decide +kernel
theorem dX6_who_13 : decode cX6_who 13 = .ok (.lconst 0, 1) := by decide +kernel
theorem dX6_who_14 : decode cX6_who 14 = .ok (.lconst 1, 1) := by decide +kernel
theorem dX6_who_15 : decode cX6_who 15 = .ok (.invokestatic 50, 3) := by decide +kernel
theorem dX6_who_18 : decode cX6_who 18 = .ok (.ifCond .ne 6, 3) := by decide +kernel
theorem dX6_who_21 : decode cX6_who 21 = .ok (.bipush (-2), 2) := by decide +kernel
theorem dX6_who_23 : decode cX6_who 23 = .ok (.ireturn, 1) := by decide +kernel
theorem dX6_who_24 : decode cX6_who 24 = .ok (.aload_n 0, 1) := by decide +kernel
theorem dX6_who_25 : decode cX6_who 25 = .ok (.iload_n 1, 1) := by decide +kernel
theorem dX6_who_26 : decode cX6_who 26 = .ok (.iload_n 2, 1) := by decide +kernel
theorem dX6_who_27 : decode cX6_who 27 = .ok (.invokevirtual 142, 3) := by decide +kernel
theorem dX6_who_30 : decode cX6_who 30 = .ok (.aload_n 0, 1) := by decide +kernel
theorem dX6_who_31 : decode cX6_who 31 = .ok (.invokevirtual 125, 3) := by decide +kernel
theorem dX6_who_34 : decode cX6_who 34 = .ok (.aload_n 0, 1) := by decide +kernel
theorem dX6_who_35 : decode cX6_who 35 = .ok (.getfield 109, 3) := by decide +kernel
theorem dX6_who_38 : decode cX6_who 38 = .ok (.sipush 999, 3) := by decide +kernel
theorem dX6_who_41 : decode cX6_who 41 = .ok (.if_icmp .ge 17, 3) := by decide +kernel
theorem dX6_who_44 : decode cX6_who 44 = .ok (.aload_n 0, 1) := by decide +kernel
theorem dX6_who_45 : decode cX6_who 45 = .ok (.getfield 106, 3) := by decide +kernel
theorem dX6_who_48 : decode cX6_who 48 = .ok (.ifCond .ne 10, 3) := by decide +kernel
theorem dX6_who_51 : decode cX6_who 51 = .ok (.aload_n 0, 1) := by decide +kernel
theorem dX6_who_52 : decode cX6_who 52 = .ok (.invokevirtual 128, 3) := by decide +kernel
theorem dX6_who_55 : decode cX6_who 55 = .ok (.goto (-21), 3) := by decide +kernel
theorem dX6_who_58 : decode cX6_who 58 = .ok (.aload_n 0, 1) := by decide +kernel
theorem dX6_who_59 : decode cX6_who 59 = .ok (.getfield 106, 3) := by decide +kernel
theorem dX6_who_62 : decode cX6_who 62 = .ok (.ifCond .ne 8, 3) := by decide +kernel
theorem dX6_who_65 : decode cX6_who 65 = .ok (.bipush (-6), 2) := by decide +kernel
theorem dX6_who_67 : decode cX6_who 67 = .ok (.goto 28, 3) := by decide +kernel
theorem dX6_who_70 : decode cX6_who 70 = .ok (.iload_n 3, 1) := by decide +kernel
theorem dX6_who_71 : decode cX6_who 71 = .ok (.ifCond .ne 12, 3) := by decide +kernel
theorem dX6_who_74 : decode cX6_who 74 = .ok (.aload_n 0, 1) := by decide +kernel
theorem dX6_who_75 : decode cX6_who 75 = .ok (.getfield 109, 3) := by decide +kernel
theorem dX6_who_78 : decode cX6_who 78 = .ok (.iconst 1, 1) := by decide +kernel
theorem dX6_who_79 : decode cX6_who 79 = .ok (.isub, 1) := by decide +kernel
theorem dX6_who_80 : decode cX6_who 80 = .ok (.goto 15, 3) := by decide +kernel
theorem dX6_who_83 : decode cX6_who 83 = .ok (.aload_n 0, 1) := by decide +kernel
theorem dX6_who_84 : decode cX6_who 84 = .ok (.getfield 122, 3) := by decide +kernel
theorem dX6_who_87 : decode cX6_who 87 = .ok (.ifCond .ne 7, 3) := by decide +kernel
theorem dX6_who_90 : decode cX6_who 90 = .ok (.iload_n 1, 1) := by decide +kernel
theorem dX6_who_91 : decode cX6_who 91 = .ok (.goto 4, 3) := by decide +kernel
theorem dX6_who_94 : decode cX6_who 94 = .ok (.iload_n 2, 1) := by decide +kernel
theorem dX6_who_95 : decode cX6_who 95 = .ok (.ireturn, 1) := by decide +kernel
theorem dX6_alone_0 : decode cX6_alone 0 = .ok (.aload_n 0, 1) := by decide +kernel
theorem dX6_alone_1 : decode cX6_alone 1 = .ok (.iload_n 1, 1) := by decide +kernel
theorem dX6_alone_2 : decode cX6_alone 2 = .ok (.invokevirtual 67, 3) := by decide +kernel
theorem dX6_alone_5 : decode cX6_alone 5 = .ok (.ifCond .ne 5, 3) := by decide +kernel
theorem dX6_alone_8 : decode cX6_alone 8 = .ok (.iconst (-1), 1) := by decide +kernel
theorem dX6_alone_9 : decode cX6_alone 9 = .ok (.ireturn, 1) := by decide +kernel
theorem dX6_alone_10 : decode cX6_alone 10 = .ok (.iload_n 2, 1) := by decide +kernel
theorem dX6_alone_11 : decode cX6_alone 11 = .ok (.invokestatic 146, 3) := by decide +kernel
theorem dX6_alone_14 : decode cX6_alone 14 = .ok (.ifCond .eq 30, 3) := by decide +kernel
theorem dX6_alone_17 : decode cX6_alone 17 = .ok (.iload_n 2, 1) := by decide +kernel
theorem dX6_alone_18 : decode cX6_alone 18 = .ok (.aload_n 0, 1) := by decide +kernel
theorem dX6_alone_19 : decode cX6_alone 19 = .ok (.getfield 13, 3) := by decide +kernel
theorem dX6_alone_22 : decode cX6_alone 22 = .ok (.iload_n 1, 1) := by decide +kernel
theorem dX6_alone_23 : decode cX6_alone 23 = .ok (.iaload, 1) := by decide +kernel
theorem dX6_alone_24 : decode cX6_alone 24 = .ok (.iadd, 1) := by decide +kernel
theorem dX6_alone_25 : decode cX6_alone 25 = .ok (.iconst 1, 1) := by decide +kernel
theorem dX6_alone_26 : decode cX6_alone 26 = .ok (.isub, 1) := by decide +kernel
theorem dX6_alone_27 : decode cX6_alone 27 = .ok (.aload_n 0, 1) := by decide +kernel
theorem dX6_alone_28 : decode cX6_alone 28 = .ok (.getfield 13, 3) := by decide +kernel
theorem dX6_alone_31 : decode cX6_alone 31 = .ok (.iload_n 1, 1) := by decide +kernel
theorem dX6_alone_32 : decode cX6_alone 32 = .ok (.iaload, 1) := by decide +kernel
theorem dX6_alone_33 : decode cX6_alone 33 = .ok (.idiv, 1) := by decide +kernel
theorem dX6_alone_34 : decode cX6_alone 34 = .ok (.aload_n 0, 1) := by decide +kernel
theorem dX6_alone_35 : decode cX6_alone 35 = .ok (.getfield 7, 3) := by decide +kernel
theorem dX6_alone_38 : decode cX6_alone 38 = .ok (.iload_n 1, 1) := by decide +kernel
theorem dX6_alone_39 : decode cX6_alone 39 = .ok (.iaload, 1) := by decide +kernel
theorem dX6_alone_40 : decode cX6_alone 40 = .ok (.imul, 1) := by decide +kernel
theorem dX6_alone_41 : decode cX6_alone 41 = .ok (.goto 5, 3) := by decide +kernel
theorem dX6_alone_44 : decode cX6_alone 44 = .ok (.bipush (-2), 2) := by decide +kernel
theorem dX6_alone_46 : decode cX6_alone 46 = .ok (.ireturn, 1) := by decide +kernel
theorem dX6_findTimes_0 : decode cX6_findTimes 0 = .ok (.iconst 0, 1) := by decide +kernel
theorem dX6_findTimes_1 : decode cX6_findTimes 1 = .ok (.istore_n 2, 1) := by decide +kernel
theorem dX6_findTimes_2 : decode cX6_findTimes 2 = .ok (.iload_n 2, 1) := by decide +kernel
theorem dX6_findTimes_3 : decode cX6_findTimes 3 = .ok (.bipush 8, 2) := by decide +kernel
theorem dX6_findTimes_5 : decode cX6_findTimes 5 = .ok (.if_icmp .ge 91, 3) := by decide +kernel
theorem dX6_findTimes_8 : decode cX6_findTimes 8 = .ok (.iconst 0, 1) := by decide +kernel
theorem dX6_findTimes_9 : decode cX6_findTimes 9 = .ok (.istore_n 3, 1) := by decide +kernel
theorem dX6_findTimes_10 : decode cX6_findTimes 10 = .ok (.iload_n 3, 1) := by decide +kernel
theorem dX6_findTimes_11 : decode cX6_findTimes 11 = .ok (.iload_n 2, 1) := by decide +kernel
theorem dX6_findTimes_12 : decode cX6_findTimes 12 = .ok (.if_icmp .ge 78, 3) := by decide +kernel
theorem dX6_findTimes_15 : decode cX6_findTimes 15 = .ok (.aload_n 0, 1) := by decide +kernel
theorem dX6_findTimes_16 : decode cX6_findTimes 16 = .ok (.iload_n 2, 1) := by decide +kernel
theorem dX6_findTimes_17 : decode cX6_findTimes 17 = .ok (.iload_n 3, 1) := by decide +kernel
theorem dX6_findTimes_18 : decode cX6_findTimes 18 = .ok (.invokevirtual 136, 3) := by decide +kernel
theorem dX6_findTimes_21 : decode cX6_findTimes 21 = .ok (.ifCond .eq 63, 3) := by decide +kernel
theorem dX6_findTimes_24 : decode cX6_findTimes 24 = .ok (.aload_n 0, 1) := by decide +kernel
theorem dX6_findTimes_25 : decode cX6_findTimes 25 = .ok (.iload_n 2, 1) := by decide +kernel
theorem dX6_findTimes_26 : decode cX6_findTimes 26 = .ok (.iload_n 3, 1) := by decide +kernel
theorem dX6_findTimes_27 : decode cX6_findTimes 27 = .ok (.invokevirtual 142, 3) := by decide +kernel
theorem dX6_findTimes_30 : decode cX6_findTimes 30 = .ok (.aload_n 0, 1) := by decide +kernel
theorem dX6_findTimes_31 : decode cX6_findTimes 31 = .ok (.iload_n 1, 1) := by decide +kernel
theorem dX6_findTimes_32 : decode cX6_findTimes 32 = .ok (.invokevirtual 149, 3) := by decide +kernel
theorem dX6_findTimes_35 : decode cX6_findTimes 35 = .ok (.istore 4, 2) := by decide +kernel
theorem dX6_findTimes_37 : decode cX6_findTimes 37 = .ok (.aload_n 0, 1) := by decide +kernel
theorem dX6_findTimes_38 : decode cX6_findTimes 38 = .ok (.getfield 19, 3) := by decide +kernel
theorem dX6_findTimes_41 : decode cX6_findTimes 41 = .ok (.bipush 8, 2) := by decide +kernel
theorem dX6_findTimes_43 : decode cX6_findTimes 43 = .ok (.iload_n 2, 1) := by decide +kernel
theorem dX6_findTimes_44 : decode cX6_findTimes 44 = .ok (.imul, 1) := by decide +kernel
theorem dX6_findTimes_45 : decode cX6_findTimes 45 = .ok (.iload_n 3, 1) := by decide +kernel
theorem dX6_findTimes_46 : decode cX6_findTimes 46 = .ok (.iadd, 1) := by decide +kernel
theorem dX6_findTimes_47 : decode cX6_findTimes 47 = .ok (.iload 4, 2) := by decide +kernel
theorem dX6_findTimes_49 : decode cX6_findTimes 49 = .ok (.ldc 135, 2) := by decide +kernel
theorem dX6_findTimes_51 : decode cX6_findTimes 51 = .ok (.if_icmp .ne 8, 3) := by decide +kernel
theorem dX6_findTimes_54 : decode cX6_findTimes 54 = .ok (.ldc 152, 2) := by decide +kernel
theorem dX6_findTimes_56 : decode cX6_findTimes 56 = .ok (.goto 5, 3) := by decide +kernel
theorem dX6_findTimes_59 : decode cX6_findTimes 59 = .ok (.iload 4, 2) := by decide +kernel
theorem dX6_findTimes_61 : decode cX6_findTimes 61 = .ok (.iastore, 1) := by decide +kernel
theorem dX6_findTimes_62 : decode cX6_findTimes 62 = .ok (.aload_n 0, 1) := by decide +kernel
theorem dX6_findTimes_63 : decode cX6_findTimes 63 = .ok (.getfield 19, 3) := by decide +kernel
theorem dX6_findTimes_66 : decode cX6_findTimes 66 = .ok (.bipush 8, 2) := by decide +kernel
theorem dX6_findTimes_68 : decode cX6_findTimes 68 = .ok (.iload_n 3, 1) := by decide +kernel
theorem dX6_findTimes_69 : decode cX6_findTimes 69 = .ok (.imul, 1) := by decide +kernel
theorem dX6_findTimes_70 : decode cX6_findTimes 70 = .ok (.iload_n 2, 1) := by decide +kernel
theorem dX6_findTimes_71 : decode cX6_findTimes 71 = .ok (.iadd, 1) := by decide +kernel
theorem dX6_findTimes_72 : decode cX6_findTimes 72 = .ok (.aload_n 0, 1) := by decide +kernel
theorem dX6_findTimes_73 : decode cX6_findTimes 73 = .ok (.getfield 19, 3) := by decide +kernel
theorem dX6_findTimes_76 : decode cX6_findTimes 76 = .ok (.bipush 8, 2) := by decide +kernel
theorem dX6_findTimes_78 : decode cX6_findTimes 78 = .ok (.iload_n 2, 1) := by decide +kernel
theorem dX6_findTimes_79 : decode cX6_findTimes 79 = .ok (.imul, 1) := by decide +kernel
theorem dX6_findTimes_80 : decode cX6_findTimes 80 = .ok (.iload_n 3, 1) := by decide +kernel
theorem dX6_findTimes_81 : decode cX6_findTimes 81 = .ok (.iadd, 1) := by decide +kernel
theorem dX6_findTimes_82 : decode cX6_findTimes 82 = .ok (.iaload, 1) := by decide +kernel
theorem dX6_findTimes_83 : decode cX6_findTimes 83 = .ok (.iastore, 1) := by decide +kernel
theorem dX6_findTimes_84 : decode cX6_findTimes 84 = .ok (.iinc 3 1, 3) := by decide +kernel
theorem dX6_findTimes_87 : decode cX6_findTimes 87 = .ok (.goto (-77), 3) := by decide +kernel
theorem dX6_findTimes_90 : decode cX6_findTimes 90 = .ok (.iinc 2 1, 3) := by decide +kernel
theorem dX6_findTimes_93 : decode cX6_findTimes 93 = .ok (.goto (-91), 3) := by decide +kernel
theorem dX6_findTimes_96 : decode cX6_findTimes 96 = .ok (.return_, 1) := by decide +kernel
theorem dX6_tie_0 : decode cX6_tie 0 = .ok (.aload_n 0, 1) := by decide +kernel
theorem dX6_tie_1 : decode cX6_tie 1 = .ok (.getfield 54, 3) := by decide +kernel
theorem dX6_tie_4 : decode cX6_tie 4 = .ok (.istore_n 3, 1) := by decide +kernel
theorem dX6_tie_5 : decode cX6_tie 5 = .ok (.iload_n 1, 1) := by decide +kernel
theorem dX6_tie_6 : decode cX6_tie 6 = .ok (.istore 4, 2) := by decide +kernel
theorem dX6_tie_8 : decode cX6_tie 8 = .ok (.iload_n 2, 1) := by decide +kernel
theorem dX6_tie_9 : decode cX6_tie 9 = .ok (.istore 5, 2) := by decide +kernel
theorem dX6_tie_11 : decode cX6_tie 11 = .ok (.iload_n 3, 1) := by decide +kernel
theorem dX6_tie_12 : decode cX6_tie 12 = .ok (.ifCond .eq 120, 3) := by decide +kernel
theorem dX6_tie_15 : decode cX6_tie 15 = .ok (.iconst 0, 1) := by decide +kernel
theorem dX6_tie_16 : decode cX6_tie 16 = .ok (.istore 6, 2) := by decide +kernel
theorem dX6_tie_18 : decode cX6_tie 18 = .ok (.iload_n 3, 1) := by decide +kernel
theorem dX6_tie_19 : decode cX6_tie 19 = .ok (.iload 6, 2) := by decide +kernel
theorem dX6_tie_21 : decode cX6_tie 21 = .ok (.ishr, 1) := by decide +kernel
theorem dX6_tie_22 : decode cX6_tie 22 = .ok (.iconst 1, 1) := by decide +kernel
theorem dX6_tie_23 : decode cX6_tie 23 = .ok (.iand, 1) := by decide +kernel
theorem dX6_tie_24 : decode cX6_tie 24 = .ok (.ifCond .ne 9, 3) := by decide +kernel
theorem dX6_tie_27 : decode cX6_tie 27 = .ok (.iinc 6 1, 3) := by decide +kernel
theorem dX6_tie_30 : decode cX6_tie 30 = .ok (.goto (-12), 3) := by decide +kernel
theorem dX6_tie_33 : decode cX6_tie 33 = .ok (.iload_n 3, 1) := by decide +kernel
theorem dX6_tie_34 : decode cX6_tie 34 = .ok (.iconst 1, 1) := by decide +kernel
theorem dX6_tie_35 : decode cX6_tie 35 = .ok (.iload 6, 2) := by decide +kernel
theorem dX6_tie_37 : decode cX6_tie 37 = .ok (.ishl, 1) := by decide +kernel
theorem dX6_tie_38 : decode cX6_tie 38 = .ok (.iconst (-1), 1) := by decide +kernel
theorem dX6_tie_39 : decode cX6_tie 39 = .ok (.ixor, 1) := by decide +kernel
theorem dX6_tie_40 : decode cX6_tie 40 = .ok (.iand, 1) := by decide +kernel
theorem dX6_tie_41 : decode cX6_tie 41 = .ok (.istore_n 3, 1) := by decide +kernel
theorem dX6_tie_42 : decode cX6_tie 42 = .ok (.iload 5, 2) := by decide +kernel
theorem dX6_tie_44 : decode cX6_tie 44 = .ok (.iload_n 3, 1) := by decide +kernel
theorem dX6_tie_45 : decode cX6_tie 45 = .ok (.invokestatic 63, 3) := by decide +kernel
theorem dX6_tie_48 : decode cX6_tie 48 = .ok (.idiv, 1) := by decide +kernel
theorem dX6_tie_49 : decode cX6_tie 49 = .ok (.istore 5, 2) := by decide +kernel
theorem dX6_tie_51 : decode cX6_tie 51 = .ok (.iload 4, 2) := by decide +kernel
theorem dX6_tie_53 : decode cX6_tie 53 = .ok (.iload 5, 2) := by decide +kernel
theorem dX6_tie_55 : decode cX6_tie 55 = .ok (.idiv, 1) := by decide +kernel
theorem dX6_tie_56 : decode cX6_tie 56 = .ok (.istore 7, 2) := by decide +kernel
theorem dX6_tie_58 : decode cX6_tie 58 = .ok (.iload 4, 2) := by decide +kernel
theorem dX6_tie_60 : decode cX6_tie 60 = .ok (.iload 5, 2) := by decide +kernel
theorem dX6_tie_62 : decode cX6_tie 62 = .ok (.irem, 1) := by decide +kernel
theorem dX6_tie_63 : decode cX6_tie 63 = .ok (.istore 4, 2) := by decide +kernel
theorem dX6_tie_65 : decode cX6_tie 65 = .ok (.iload 6, 2) := by decide +kernel
theorem dX6_tie_67 : decode cX6_tie 67 = .ok (.iconst 1, 1) := by decide +kernel
theorem dX6_tie_68 : decode cX6_tie 68 = .ok (.iadd, 1) := by decide +kernel
theorem dX6_tie_69 : decode cX6_tie 69 = .ok (.istore 8, 2) := by decide +kernel
theorem dX6_tie_71 : decode cX6_tie 71 = .ok (.iload_n 3, 1) := by decide +kernel
theorem dX6_tie_72 : decode cX6_tie 72 = .ok (.iload 8, 2) := by decide +kernel
theorem dX6_tie_74 : decode cX6_tie 74 = .ok (.ishr, 1) := by decide +kernel
theorem dX6_tie_75 : decode cX6_tie 75 = .ok (.iconst 1, 1) := by decide +kernel
theorem dX6_tie_76 : decode cX6_tie 76 = .ok (.iand, 1) := by decide +kernel
theorem dX6_tie_77 : decode cX6_tie 77 = .ok (.ifCond .eq 8, 3) := by decide +kernel
theorem dX6_tie_80 : decode cX6_tie 80 = .ok (.iload 7, 2) := by decide +kernel
theorem dX6_tie_82 : decode cX6_tie 82 = .ok (.ifCond .le 20, 3) := by decide +kernel
theorem dX6_tie_85 : decode cX6_tie 85 = .ok (.iload 7, 2) := by decide +kernel
theorem dX6_tie_87 : decode cX6_tie 87 = .ok (.iload_n 3, 1) := by decide +kernel
theorem dX6_tie_88 : decode cX6_tie 88 = .ok (.iload 8, 2) := by decide +kernel
theorem dX6_tie_90 : decode cX6_tie 90 = .ok (.ishr, 1) := by decide +kernel
theorem dX6_tie_91 : decode cX6_tie 91 = .ok (.iconst 1, 1) := by decide +kernel
theorem dX6_tie_92 : decode cX6_tie 92 = .ok (.iand, 1) := by decide +kernel
theorem dX6_tie_93 : decode cX6_tie 93 = .ok (.isub, 1) := by decide +kernel
theorem dX6_tie_94 : decode cX6_tie 94 = .ok (.istore 7, 2) := by decide +kernel
theorem dX6_tie_96 : decode cX6_tie 96 = .ok (.iinc 8 1, 3) := by decide +kernel
theorem dX6_tie_99 : decode cX6_tie 99 = .ok (.goto (-28), 3) := by decide +kernel
theorem dX6_tie_102 : decode cX6_tie 102 = .ok (.iload_n 3, 1) := by decide +kernel
theorem dX6_tie_103 : decode cX6_tie 103 = .ok (.iconst 1, 1) := by decide +kernel
theorem dX6_tie_104 : decode cX6_tie 104 = .ok (.iload 8, 2) := by decide +kernel
theorem dX6_tie_106 : decode cX6_tie 106 = .ok (.ishl, 1) := by decide +kernel
theorem dX6_tie_107 : decode cX6_tie 107 = .ok (.iconst (-1), 1) := by decide +kernel
theorem dX6_tie_108 : decode cX6_tie 108 = .ok (.ixor, 1) := by decide +kernel
theorem dX6_tie_109 : decode cX6_tie 109 = .ok (.iand, 1) := by decide +kernel
theorem dX6_tie_110 : decode cX6_tie 110 = .ok (.istore_n 3, 1) := by decide +kernel
theorem dX6_tie_111 : decode cX6_tie 111 = .ok (.aload_n 0, 1) := by decide +kernel
theorem dX6_tie_112 : decode cX6_tie 112 = .ok (.getfield 22, 3) := by decide +kernel
theorem dX6_tie_115 : decode cX6_tie 115 = .ok (.iload 6, 2) := by decide +kernel
theorem dX6_tie_117 : decode cX6_tie 117 = .ok (.iload 8, 2) := by decide +kernel
theorem dX6_tie_119 : decode cX6_tie 119 = .ok (.iastore, 1) := by decide +kernel
theorem dX6_tie_120 : decode cX6_tie 120 = .ok (.aload_n 0, 1) := by decide +kernel
theorem dX6_tie_121 : decode cX6_tie 121 = .ok (.getfield 22, 3) := by decide +kernel
theorem dX6_tie_124 : decode cX6_tie 124 = .ok (.iload 8, 2) := by decide +kernel
theorem dX6_tie_126 : decode cX6_tie 126 = .ok (.iload 6, 2) := by decide +kernel
theorem dX6_tie_128 : decode cX6_tie 128 = .ok (.iastore, 1) := by decide +kernel
theorem dX6_tie_129 : decode cX6_tie 129 = .ok (.goto (-118), 3) := by decide +kernel
theorem dX6_tie_132 : decode cX6_tie 132 = .ok (.return_, 1) := by decide +kernel
theorem dX6_tiedBy_0 : decode cX6_tiedBy 0 = .ok (.iconst 0, 1) := by decide +kernel
theorem dX6_tiedBy_1 : decode cX6_tiedBy 1 = .ok (.istore_n 2, 1) := by decide +kernel
theorem dX6_tiedBy_2 : decode cX6_tiedBy 2 = .ok (.iconst 0, 1) := by decide +kernel
theorem dX6_tiedBy_3 : decode cX6_tiedBy 3 = .ok (.istore_n 3, 1) := by decide +kernel
theorem dX6_tiedBy_4 : decode cX6_tiedBy 4 = .ok (.iload_n 3, 1) := by decide +kernel
theorem dX6_tiedBy_5 : decode cX6_tiedBy 5 = .ok (.bipush 8, 2) := by decide +kernel
theorem dX6_tiedBy_7 : decode cX6_tiedBy 7 = .ok (.if_icmp .ge 69, 3) := by decide +kernel
theorem dX6_tiedBy_10 : decode cX6_tiedBy 10 = .ok (.aload_n 0, 1) := by decide +kernel
theorem dX6_tiedBy_11 : decode cX6_tiedBy 11 = .ok (.iload_n 3, 1) := by decide +kernel
theorem dX6_tiedBy_12 : decode cX6_tiedBy 12 = .ok (.invokevirtual 67, 3) := by decide +kernel
theorem dX6_tiedBy_15 : decode cX6_tiedBy 15 = .ok (.ifCond .eq 55, 3) := by decide +kernel
theorem dX6_tiedBy_18 : decode cX6_tiedBy 18 = .ok (.aload_n 0, 1) := by decide +kernel
theorem dX6_tiedBy_19 : decode cX6_tiedBy 19 = .ok (.getfield 22, 3) := by decide +kernel
theorem dX6_tiedBy_22 : decode cX6_tiedBy 22 = .ok (.iload_n 3, 1) := by decide +kernel
theorem dX6_tiedBy_23 : decode cX6_tiedBy 23 = .ok (.iaload, 1) := by decide +kernel
theorem dX6_tiedBy_24 : decode cX6_tiedBy 24 = .ok (.iload_n 3, 1) := by decide +kernel
theorem dX6_tiedBy_25 : decode cX6_tiedBy 25 = .ok (.if_icmp .le 45, 3) := by decide +kernel
theorem dX6_tiedBy_28 : decode cX6_tiedBy 28 = .ok (.aload_n 0, 1) := by decide +kernel
theorem dX6_tiedBy_29 : decode cX6_tiedBy 29 = .ok (.getfield 19, 3) := by decide +kernel
theorem dX6_tiedBy_32 : decode cX6_tiedBy 32 = .ok (.bipush 8, 2) := by decide +kernel
theorem dX6_tiedBy_34 : decode cX6_tiedBy 34 = .ok (.iload_n 3, 1) := by decide +kernel
theorem dX6_tiedBy_35 : decode cX6_tiedBy 35 = .ok (.imul, 1) := by decide +kernel
theorem dX6_tiedBy_36 : decode cX6_tiedBy 36 = .ok (.aload_n 0, 1) := by decide +kernel
theorem dX6_tiedBy_37 : decode cX6_tiedBy 37 = .ok (.getfield 22, 3) := by decide +kernel
theorem dX6_tiedBy_40 : decode cX6_tiedBy 40 = .ok (.iload_n 3, 1) := by decide +kernel
theorem dX6_tiedBy_41 : decode cX6_tiedBy 41 = .ok (.iaload, 1) := by decide +kernel
theorem dX6_tiedBy_42 : decode cX6_tiedBy 42 = .ok (.iadd, 1) := by decide +kernel
theorem dX6_tiedBy_43 : decode cX6_tiedBy 43 = .ok (.iaload, 1) := by decide +kernel
theorem dX6_tiedBy_44 : decode cX6_tiedBy 44 = .ok (.istore 4, 2) := by decide +kernel
theorem dX6_tiedBy_46 : decode cX6_tiedBy 46 = .ok (.iload_n 1, 1) := by decide +kernel
theorem dX6_tiedBy_47 : decode cX6_tiedBy 47 = .ok (.ifCond .ne 10, 3) := by decide +kernel
theorem dX6_tiedBy_50 : decode cX6_tiedBy 50 = .ok (.iload_n 2, 1) := by decide +kernel
theorem dX6_tiedBy_51 : decode cX6_tiedBy 51 = .ok (.iload 4, 2) := by decide +kernel
theorem dX6_tiedBy_53 : decode cX6_tiedBy 53 = .ok (.iadd, 1) := by decide +kernel
theorem dX6_tiedBy_54 : decode cX6_tiedBy 54 = .ok (.goto 15, 3) := by decide +kernel
theorem dX6_tiedBy_57 : decode cX6_tiedBy 57 = .ok (.iload 4, 2) := by decide +kernel
theorem dX6_tiedBy_59 : decode cX6_tiedBy 59 = .ok (.iload_n 2, 1) := by decide +kernel
theorem dX6_tiedBy_60 : decode cX6_tiedBy 60 = .ok (.if_icmp .le 8, 3) := by decide +kernel
theorem dX6_tiedBy_63 : decode cX6_tiedBy 63 = .ok (.iload 4, 2) := by decide +kernel
theorem dX6_tiedBy_65 : decode cX6_tiedBy 65 = .ok (.goto 4, 3) := by decide +kernel
theorem dX6_tiedBy_68 : decode cX6_tiedBy 68 = .ok (.iload_n 2, 1) := by decide +kernel
theorem dX6_tiedBy_69 : decode cX6_tiedBy 69 = .ok (.istore_n 2, 1) := by decide +kernel
theorem dX6_tiedBy_70 : decode cX6_tiedBy 70 = .ok (.iinc 3 1, 3) := by decide +kernel
theorem dX6_tiedBy_73 : decode cX6_tiedBy 73 = .ok (.goto (-69), 3) := by decide +kernel
theorem dX6_tiedBy_76 : decode cX6_tiedBy 76 = .ok (.iload_n 2, 1) := by decide +kernel
theorem dX6_tiedBy_77 : decode cX6_tiedBy 77 = .ok (.ireturn, 1) := by decide +kernel
theorem dX6_tied_0 : decode cX6_tied 0 = .ok (.aload_n 0, 1) := by decide +kernel
theorem dX6_tied_1 : decode cX6_tied 1 = .ok (.getfield 54, 3) := by decide +kernel
theorem dX6_tied_4 : decode cX6_tied 4 = .ok (.invokestatic 63, 3) := by decide +kernel
theorem dX6_tied_7 : decode cX6_tied 7 = .ok (.istore 4, 2) := by decide +kernel
theorem dX6_tied_9 : decode cX6_tied 9 = .ok (.iload 4, 2) := by decide +kernel
theorem dX6_tied_11 : decode cX6_tied 11 = .ok (.ifCond .eq 11, 3) := by decide +kernel
theorem dX6_tied_14 : decode cX6_tied 14 = .ok (.iload 4, 2) := by decide +kernel
theorem dX6_tied_16 : decode cX6_tied 16 = .ok (.iconst 2, 1) := by decide +kernel
theorem dX6_tied_17 : decode cX6_tied 17 = .ok (.irem, 1) := by decide +kernel
theorem dX6_tied_18 : decode cX6_tied 18 = .ok (.iconst 1, 1) := by decide +kernel
theorem dX6_tied_19 : decode cX6_tied 19 = .ok (.if_icmp .ne 6, 3) := by decide +kernel
theorem dX6_tied_22 : decode cX6_tied 22 = .ok (.bipush (-3), 2) := by decide +kernel
theorem dX6_tied_24 : decode cX6_tied 24 = .ok (.ireturn, 1) := by decide +kernel
theorem dX6_tied_25 : decode cX6_tied 25 = .ok (.iload_n 3, 1) := by decide +kernel
theorem dX6_tied_26 : decode cX6_tied 26 = .ok (.iconst (-1), 1) := by decide +kernel
theorem dX6_tied_27 : decode cX6_tied 27 = .ok (.if_icmp .eq 13, 3) := by decide +kernel
theorem dX6_tied_30 : decode cX6_tied 30 = .ok (.aload_n 0, 1) := by decide +kernel
theorem dX6_tied_31 : decode cX6_tied 31 = .ok (.iload_n 3, 1) := by decide +kernel
theorem dX6_tied_32 : decode cX6_tied 32 = .ok (.invokevirtual 67, 3) := by decide +kernel
theorem dX6_tied_35 : decode cX6_tied 35 = .ok (.ifCond .ne 5, 3) := by decide +kernel
theorem dX6_tied_38 : decode cX6_tied 38 = .ok (.iconst (-1), 1) := by decide +kernel
theorem dX6_tied_39 : decode cX6_tied 39 = .ok (.ireturn, 1) := by decide +kernel
theorem dX6_tied_40 : decode cX6_tied 40 = .ok (.iload_n 1, 1) := by decide +kernel
theorem dX6_tied_41 : decode cX6_tied 41 = .ok (.invokestatic 146, 3) := by decide +kernel
theorem dX6_tied_44 : decode cX6_tied 44 = .ok (.ifCond .eq 13, 3) := by decide +kernel
theorem dX6_tied_47 : decode cX6_tied 47 = .ok (.iload_n 2, 1) := by decide +kernel
theorem dX6_tied_48 : decode cX6_tied 48 = .ok (.i2l, 1) := by decide +kernel
theorem dX6_tied_49 : decode cX6_tied 49 = .ok (.lconst 0, 1) := by decide +kernel
theorem dX6_tied_50 : decode cX6_tied 50 = .ok (.lconst 1, 1) := by decide +kernel
theorem dX6_tied_51 : decode cX6_tied 51 = .ok (.invokestatic 50, 3) := by decide +kernel
theorem dX6_tied_54 : decode cX6_tied 54 = .ok (.ifCond .ne 6, 3) := by decide +kernel
theorem dX6_tied_57 : decode cX6_tied 57 = .ok (.bipush (-2), 2) := by decide +kernel
theorem dX6_tied_59 : decode cX6_tied 59 = .ok (.ireturn, 1) := by decide +kernel
theorem dX6_tied_60 : decode cX6_tied 60 = .ok (.aload_n 0, 1) := by decide +kernel
theorem dX6_tied_61 : decode cX6_tied 61 = .ok (.iload_n 1, 1) := by decide +kernel
theorem dX6_tied_62 : decode cX6_tied 62 = .ok (.invokevirtual 153, 3) := by decide +kernel
theorem dX6_tied_65 : decode cX6_tied 65 = .ok (.iload 4, 2) := by decide +kernel
theorem dX6_tied_67 : decode cX6_tied 67 = .ok (.iconst 2, 1) := by decide +kernel
theorem dX6_tied_68 : decode cX6_tied 68 = .ok (.if_icmp .ne 7, 3) := by decide +kernel
theorem dX6_tied_71 : decode cX6_tied 71 = .ok (.iconst 1, 1) := by decide +kernel
theorem dX6_tied_72 : decode cX6_tied 72 = .ok (.goto 27, 3) := by decide +kernel
theorem dX6_tied_75 : decode cX6_tied 75 = .ok (.iload 4, 2) := by decide +kernel
theorem dX6_tied_77 : decode cX6_tied 77 = .ok (.iconst 4, 1) := by decide +kernel
theorem dX6_tied_78 : decode cX6_tied 78 = .ok (.if_icmp .ne 7, 3) := by decide +kernel
theorem dX6_tied_81 : decode cX6_tied 81 = .ok (.iconst 3, 1) := by decide +kernel
theorem dX6_tied_82 : decode cX6_tied 82 = .ok (.goto 17, 3) := by decide +kernel
theorem dX6_tied_85 : decode cX6_tied 85 = .ok (.iload 4, 2) := by decide +kernel
theorem dX6_tied_87 : decode cX6_tied 87 = .ok (.bipush 6, 2) := by decide +kernel
theorem dX6_tied_89 : decode cX6_tied 89 = .ok (.if_icmp .ne 8, 3) := by decide +kernel
theorem dX6_tied_92 : decode cX6_tied 92 = .ok (.bipush 15, 2) := by decide +kernel
theorem dX6_tied_94 : decode cX6_tied 94 = .ok (.goto 5, 3) := by decide +kernel
theorem dX6_tied_97 : decode cX6_tied 97 = .ok (.bipush 105, 2) := by decide +kernel
theorem dX6_tied_99 : decode cX6_tied 99 = .ok (.istore 5, 2) := by decide +kernel
theorem dX6_tied_101 : decode cX6_tied 101 = .ok (.ldc 135, 2) := by decide +kernel
theorem dX6_tied_103 : decode cX6_tied 103 = .ok (.istore 6, 2) := by decide +kernel
theorem dX6_tied_105 : decode cX6_tied 105 = .ok (.iconst 0, 1) := by decide +kernel
theorem dX6_tied_106 : decode cX6_tied 106 = .ok (.istore 7, 2) := by decide +kernel
theorem dX6_tied_108 : decode cX6_tied 108 = .ok (.iload 7, 2) := by decide +kernel
theorem dX6_tied_110 : decode cX6_tied 110 = .ok (.iload 5, 2) := by decide +kernel
theorem dX6_tied_112 : decode cX6_tied 112 = .ok (.if_icmp .ge 65, 3) := by decide +kernel
theorem dX6_tied_115 : decode cX6_tied 115 = .ok (.aload_n 0, 1) := by decide +kernel
theorem dX6_tied_116 : decode cX6_tied 116 = .ok (.iload 7, 2) := by decide +kernel
theorem dX6_tied_118 : decode cX6_tied 118 = .ok (.iload 5, 2) := by decide +kernel
theorem dX6_tied_120 : decode cX6_tied 120 = .ok (.invokevirtual 157, 3) := by decide +kernel
theorem dX6_tied_123 : decode cX6_tied 123 = .ok (.aload_n 0, 1) := by decide +kernel
theorem dX6_tied_124 : decode cX6_tied 124 = .ok (.iload_n 2, 1) := by decide +kernel
theorem dX6_tied_125 : decode cX6_tied 125 = .ok (.invokevirtual 160, 3) := by decide +kernel
theorem dX6_tied_128 : decode cX6_tied 128 = .ok (.istore 8, 2) := by decide +kernel
theorem dX6_tied_130 : decode cX6_tied 130 = .ok (.iload 8, 2) := by decide +kernel
theorem dX6_tied_132 : decode cX6_tied 132 = .ok (.iload 6, 2) := by decide +kernel
theorem dX6_tied_134 : decode cX6_tied 134 = .ok (.if_icmp .ge 37, 3) := by decide +kernel
theorem dX6_tied_137 : decode cX6_tied 137 = .ok (.iload 8, 2) := by decide +kernel
theorem dX6_tied_139 : decode cX6_tied 139 = .ok (.istore 6, 2) := by decide +kernel
theorem dX6_tied_141 : decode cX6_tied 141 = .ok (.iconst 0, 1) := by decide +kernel
theorem dX6_tied_142 : decode cX6_tied 142 = .ok (.istore 9, 2) := by decide +kernel
theorem dX6_tied_144 : decode cX6_tied 144 = .ok (.iload 9, 2) := by decide +kernel
theorem dX6_tied_146 : decode cX6_tied 146 = .ok (.bipush 8, 2) := by decide +kernel
theorem dX6_tied_148 : decode cX6_tied 148 = .ok (.if_icmp .ge 23, 3) := by decide +kernel
theorem dX6_tied_151 : decode cX6_tied 151 = .ok (.aload_n 0, 1) := by decide +kernel
theorem dX6_tied_152 : decode cX6_tied 152 = .ok (.getfield 25, 3) := by decide +kernel
theorem dX6_tied_155 : decode cX6_tied 155 = .ok (.iload 9, 2) := by decide +kernel
theorem dX6_tied_157 : decode cX6_tied 157 = .ok (.aload_n 0, 1) := by decide +kernel
theorem dX6_tied_158 : decode cX6_tied 158 = .ok (.getfield 22, 3) := by decide +kernel
theorem dX6_tied_161 : decode cX6_tied 161 = .ok (.iload 9, 2) := by decide +kernel
theorem dX6_tied_163 : decode cX6_tied 163 = .ok (.iaload, 1) := by decide +kernel
theorem dX6_tied_164 : decode cX6_tied 164 = .ok (.iastore, 1) := by decide +kernel
theorem dX6_tied_165 : decode cX6_tied 165 = .ok (.iinc 9 1, 3) := by decide +kernel
theorem dX6_tied_168 : decode cX6_tied 168 = .ok (.goto (-24), 3) := by decide +kernel
theorem dX6_tied_171 : decode cX6_tied 171 = .ok (.iinc 7 1, 3) := by decide +kernel
theorem dX6_tied_174 : decode cX6_tied 174 = .ok (.goto (-66), 3) := by decide +kernel
theorem dX6_tied_177 : decode cX6_tied 177 = .ok (.iload_n 3, 1) := by decide +kernel
theorem dX6_tied_178 : decode cX6_tied 178 = .ok (.iconst (-1), 1) := by decide +kernel
theorem dX6_tied_179 : decode cX6_tied 179 = .ok (.if_icmp .ne 8, 3) := by decide +kernel
theorem dX6_tied_182 : decode cX6_tied 182 = .ok (.iload 6, 2) := by decide +kernel
theorem dX6_tied_184 : decode cX6_tied 184 = .ok (.goto 9, 3) := by decide +kernel
theorem dX6_tied_187 : decode cX6_tied 187 = .ok (.aload_n 0, 1) := by decide +kernel
theorem dX6_tied_188 : decode cX6_tied 188 = .ok (.getfield 25, 3) := by decide +kernel
theorem dX6_tied_191 : decode cX6_tied 191 = .ok (.iload_n 3, 1) := by decide +kernel
theorem dX6_tied_192 : decode cX6_tied 192 = .ok (.iaload, 1) := by decide +kernel
theorem dX6_tied_193 : decode cX6_tied 193 = .ok (.ireturn, 1) := by decide +kernel
theorem dX6_tryOne_0 : decode cX6_tryOne 0 = .ok (.aload_n 0, 1) := by decide +kernel
theorem dX6_tryOne_1 : decode cX6_tryOne 1 = .ok (.iload_n 2, 1) := by decide +kernel
theorem dX6_tryOne_2 : decode cX6_tryOne 2 = .ok (.invokevirtual 149, 3) := by decide +kernel
theorem dX6_tryOne_5 : decode cX6_tryOne 5 = .ok (.istore_n 3, 1) := by decide +kernel
theorem dX6_tryOne_6 : decode cX6_tryOne 6 = .ok (.aload_n 0, 1) := by decide +kernel
theorem dX6_tryOne_7 : decode cX6_tryOne 7 = .ok (.iload_n 3, 1) := by decide +kernel
theorem dX6_tryOne_8 : decode cX6_tryOne 8 = .ok (.aload_n 0, 1) := by decide +kernel
theorem dX6_tryOne_9 : decode cX6_tryOne 9 = .ok (.getfield 163, 3) := by decide +kernel
theorem dX6_tryOne_12 : decode cX6_tryOne 12 = .ok (.if_icmp .ge 7, 3) := by decide +kernel
theorem dX6_tryOne_15 : decode cX6_tryOne 15 = .ok (.iload_n 1, 1) := by decide +kernel
theorem dX6_tryOne_16 : decode cX6_tryOne 16 = .ok (.goto 7, 3) := by decide +kernel
theorem dX6_tryOne_19 : decode cX6_tryOne 19 = .ok (.aload_n 0, 1) := by decide +kernel
theorem dX6_tryOne_20 : decode cX6_tryOne 20 = .ok (.getfield 166, 3) := by decide +kernel
theorem dX6_tryOne_23 : decode cX6_tryOne 23 = .ok (.putfield 166, 3) := by decide +kernel
theorem dX6_tryOne_26 : decode cX6_tryOne 26 = .ok (.aload_n 0, 1) := by decide +kernel
theorem dX6_tryOne_27 : decode cX6_tryOne 27 = .ok (.iload_n 3, 1) := by decide +kernel
theorem dX6_tryOne_28 : decode cX6_tryOne 28 = .ok (.aload_n 0, 1) := by decide +kernel
theorem dX6_tryOne_29 : decode cX6_tryOne 29 = .ok (.getfield 163, 3) := by decide +kernel
theorem dX6_tryOne_32 : decode cX6_tryOne 32 = .ok (.if_icmp .ge 7, 3) := by decide +kernel
theorem dX6_tryOne_35 : decode cX6_tryOne 35 = .ok (.iload_n 3, 1) := by decide +kernel
theorem dX6_tryOne_36 : decode cX6_tryOne 36 = .ok (.goto 7, 3) := by decide +kernel
theorem dX6_tryOne_39 : decode cX6_tryOne 39 = .ok (.aload_n 0, 1) := by decide +kernel
theorem dX6_tryOne_40 : decode cX6_tryOne 40 = .ok (.getfield 163, 3) := by decide +kernel
theorem dX6_tryOne_43 : decode cX6_tryOne 43 = .ok (.putfield 163, 3) := by decide +kernel
theorem dX6_tryOne_46 : decode cX6_tryOne 46 = .ok (.return_, 1) := by decide +kernel
theorem dX6_beginTries_0 : decode cX6_beginTries 0 = .ok (.aload_n 0, 1) := by decide +kernel
theorem dX6_beginTries_1 : decode cX6_beginTries 1 = .ok (.bipush (-6), 2) := by decide +kernel
theorem dX6_beginTries_3 : decode cX6_beginTries 3 = .ok (.putfield 166, 3) := by decide +kernel
theorem dX6_beginTries_6 : decode cX6_beginTries 6 = .ok (.aload_n 0, 1) := by decide +kernel
theorem dX6_beginTries_7 : decode cX6_beginTries 7 = .ok (.ldc 135, 2) := by decide +kernel
theorem dX6_beginTries_9 : decode cX6_beginTries 9 = .ok (.putfield 163, 3) := by decide +kernel
theorem dX6_beginTries_12 : decode cX6_beginTries 12 = .ok (.return_, 1) := by decide +kernel
theorem dX6_tellBest_0 : decode cX6_tellBest 0 = .ok (.aload_n 0, 1) := by decide +kernel
theorem dX6_tellBest_1 : decode cX6_tellBest 1 = .ok (.getfield 166, 3) := by decide +kernel
theorem dX6_tellBest_4 : decode cX6_tellBest 4 = .ok (.ifCond .lt 7, 3) := by decide +kernel
theorem dX6_tellBest_7 : decode cX6_tellBest 7 = .ok (.iload_n 1, 1) := by decide +kernel
theorem dX6_tellBest_8 : decode cX6_tellBest 8 = .ok (.ifCond .ne 10, 3) := by decide +kernel
theorem dX6_tellBest_11 : decode cX6_tellBest 11 = .ok (.aload_n 0, 1) := by decide +kernel
theorem dX6_tellBest_12 : decode cX6_tellBest 12 = .ok (.getfield 166, 3) := by decide +kernel
theorem dX6_tellBest_15 : decode cX6_tellBest 15 = .ok (.goto 7, 3) := by decide +kernel
theorem dX6_tellBest_18 : decode cX6_tellBest 18 = .ok (.aload_n 0, 1) := by decide +kernel
theorem dX6_tellBest_19 : decode cX6_tellBest 19 = .ok (.getfield 163, 3) := by decide +kernel
theorem dX6_tellBest_22 : decode cX6_tellBest 22 = .ok (.ireturn, 1) := by decide +kernel
theorem dX6_isAsked_0 : decode cX6_isAsked 0 = .ok (.iload_n 0, 1) := by decide +kernel
theorem dX6_isAsked_1 : decode cX6_isAsked 1 = .ok (.invokestatic 146, 3) := by decide +kernel
theorem dX6_isAsked_4 : decode cX6_isAsked 4 = .ok (.ifCond .eq 17, 3) := by decide +kernel
theorem dX6_isAsked_7 : decode cX6_isAsked 7 = .ok (.iload_n 1, 1) := by decide +kernel
theorem dX6_isAsked_8 : decode cX6_isAsked 8 = .ok (.i2l, 1) := by decide +kernel
theorem dX6_isAsked_9 : decode cX6_isAsked 9 = .ok (.lconst 0, 1) := by decide +kernel
theorem dX6_isAsked_10 : decode cX6_isAsked 10 = .ok (.lconst 1, 1) := by decide +kernel
theorem dX6_isAsked_11 : decode cX6_isAsked 11 = .ok (.invokestatic 50, 3) := by decide +kernel
theorem dX6_isAsked_14 : decode cX6_isAsked 14 = .ok (.ifCond .eq 7, 3) := by decide +kernel
theorem dX6_isAsked_17 : decode cX6_isAsked 17 = .ok (.iconst 1, 1) := by decide +kernel
theorem dX6_isAsked_18 : decode cX6_isAsked 18 = .ok (.goto 4, 3) := by decide +kernel
theorem dX6_isAsked_21 : decode cX6_isAsked 21 = .ok (.iconst 0, 1) := by decide +kernel
theorem dX6_isAsked_22 : decode cX6_isAsked 22 = .ok (.ireturn, 1) := by decide +kernel
theorem dX6_call_0 : decode cX6_call 0 = .ok (.aload_n 0, 1) := by decide +kernel
theorem dX6_call_1 : decode cX6_call 1 = .ok (.iload_n 1, 1) := by decide +kernel
theorem dX6_call_2 : decode cX6_call 2 = .ok (.iload_n 2, 1) := by decide +kernel
theorem dX6_call_3 : decode cX6_call 3 = .ok (.invokevirtual 136, 3) := by decide +kernel
theorem dX6_call_6 : decode cX6_call 6 = .ok (.ifCond .ne 5, 3) := by decide +kernel
theorem dX6_call_9 : decode cX6_call 9 = .ok (.iconst (-1), 1) := by decide +kernel
theorem dX6_call_10 : decode cX6_call 10 = .ok (.ireturn, 1) := by decide +kernel
theorem dX6_call_11 : decode cX6_call 11 = .ok (.iload_n 3, 1) := by decide +kernel
theorem dX6_call_12 : decode cX6_call 12 = .ok (.iload 4, 2) := by decide +kernel
theorem dX6_call_14 : decode cX6_call 14 = .ok (.invokestatic 169, 3) := by decide +kernel
theorem dX6_call_17 : decode cX6_call 17 = .ok (.ifCond .ne 6, 3) := by decide +kernel
theorem dX6_call_20 : decode cX6_call 20 = .ok (.bipush (-2), 2) := by decide +kernel
theorem dX6_call_22 : decode cX6_call 22 = .ok (.ireturn, 1) := by decide +kernel
theorem dX6_call_23 : decode cX6_call 23 = .ok (.aload_n 0, 1) := by decide +kernel
theorem dX6_call_24 : decode cX6_call 24 = .ok (.iload_n 1, 1) := by decide +kernel
theorem dX6_call_25 : decode cX6_call 25 = .ok (.iload_n 2, 1) := by decide +kernel
theorem dX6_call_26 : decode cX6_call 26 = .ok (.invokevirtual 142, 3) := by decide +kernel
theorem dX6_call_29 : decode cX6_call 29 = .ok (.aload_n 0, 1) := by decide +kernel
theorem dX6_call_30 : decode cX6_call 30 = .ok (.invokevirtual 172, 3) := by decide +kernel
theorem dX6_call_33 : decode cX6_call 33 = .ok (.iconst 4, 1) := by decide +kernel
theorem dX6_call_34 : decode cX6_call 34 = .ok (.istore 5, 2) := by decide +kernel
theorem dX6_call_36 : decode cX6_call 36 = .ok (.iload 5, 2) := by decide +kernel
theorem dX6_call_38 : decode cX6_call 38 = .ok (.bipush 20, 2) := by decide +kernel
theorem dX6_call_40 : decode cX6_call 40 = .ok (.if_icmp .gt 28, 3) := by decide +kernel
theorem dX6_call_43 : decode cX6_call 43 = .ok (.aload_n 0, 1) := by decide +kernel
theorem dX6_call_44 : decode cX6_call 44 = .ok (.iload 5, 2) := by decide +kernel
theorem dX6_call_46 : decode cX6_call 46 = .ok (.putfield 73, 3) := by decide +kernel
theorem dX6_call_49 : decode cX6_call 49 = .ok (.aload_n 0, 1) := by decide +kernel
theorem dX6_call_50 : decode cX6_call 50 = .ok (.iload 5, 2) := by decide +kernel
theorem dX6_call_52 : decode cX6_call 52 = .ok (.putfield 76, 3) := by decide +kernel
theorem dX6_call_55 : decode cX6_call 55 = .ok (.aload_n 0, 1) := by decide +kernel
theorem dX6_call_56 : decode cX6_call 56 = .ok (.iload 5, 2) := by decide +kernel
theorem dX6_call_58 : decode cX6_call 58 = .ok (.iload_n 3, 1) := by decide +kernel
theorem dX6_call_59 : decode cX6_call 59 = .ok (.invokevirtual 175, 3) := by decide +kernel
theorem dX6_call_62 : decode cX6_call 62 = .ok (.iinc 5 1, 3) := by decide +kernel
theorem dX6_call_65 : decode cX6_call 65 = .ok (.goto (-29), 3) := by decide +kernel
theorem dX6_call_68 : decode cX6_call 68 = .ok (.aload_n 0, 1) := by decide +kernel
theorem dX6_call_69 : decode cX6_call 69 = .ok (.iload 4, 2) := by decide +kernel
theorem dX6_call_71 : decode cX6_call 71 = .ok (.invokevirtual 178, 3) := by decide +kernel
theorem dX6_call_74 : decode cX6_call 74 = .ok (.ireturn, 1) := by decide +kernel
theorem dX6_quicken_0 : decode cX6_quicken 0 = .ok (.aload_n 0, 1) := by decide +kernel
theorem dX6_quicken_1 : decode cX6_quicken 1 = .ok (.iload_n 1, 1) := by decide +kernel
theorem dX6_quicken_2 : decode cX6_quicken 2 = .ok (.iload_n 2, 1) := by decide +kernel
theorem dX6_quicken_3 : decode cX6_quicken 3 = .ok (.invokevirtual 136, 3) := by decide +kernel
theorem dX6_quicken_6 : decode cX6_quicken 6 = .ok (.ifCond .ne 5, 3) := by decide +kernel
theorem dX6_quicken_9 : decode cX6_quicken 9 = .ok (.iconst (-1), 1) := by decide +kernel
theorem dX6_quicken_10 : decode cX6_quicken 10 = .ok (.ireturn, 1) := by decide +kernel
theorem dX6_quicken_11 : decode cX6_quicken 11 = .ok (.iload_n 3, 1) := by decide +kernel
theorem dX6_quicken_12 : decode cX6_quicken 12 = .ok (.iload 4, 2) := by decide +kernel
theorem dX6_quicken_14 : decode cX6_quicken 14 = .ok (.invokestatic 169, 3) := by decide +kernel
theorem dX6_quicken_17 : decode cX6_quicken 17 = .ok (.ifCond .ne 6, 3) := by decide +kernel
theorem dX6_quicken_20 : decode cX6_quicken 20 = .ok (.bipush (-2), 2) := by decide +kernel
theorem dX6_quicken_22 : decode cX6_quicken 22 = .ok (.ireturn, 1) := by decide +kernel
theorem dX6_quicken_23 : decode cX6_quicken 23 = .ok (.aload_n 0, 1) := by decide +kernel
theorem dX6_quicken_24 : decode cX6_quicken 24 = .ok (.iload_n 1, 1) := by decide +kernel
theorem dX6_quicken_25 : decode cX6_quicken 25 = .ok (.iload_n 2, 1) := by decide +kernel
theorem dX6_quicken_26 : decode cX6_quicken 26 = .ok (.invokevirtual 142, 3) := by decide +kernel
theorem dX6_quicken_29 : decode cX6_quicken 29 = .ok (.aload_n 0, 1) := by decide +kernel
theorem dX6_quicken_30 : decode cX6_quicken 30 = .ok (.invokevirtual 172, 3) := by decide +kernel
theorem dX6_quicken_33 : decode cX6_quicken 33 = .ok (.iconst 0, 1) := by decide +kernel
theorem dX6_quicken_34 : decode cX6_quicken 34 = .ok (.istore 5, 2) := by decide +kernel
theorem dX6_quicken_36 : decode cX6_quicken 36 = .ok (.iload 5, 2) := by decide +kernel
theorem dX6_quicken_38 : decode cX6_quicken 38 = .ok (.bipush 61, 2) := by decide +kernel
theorem dX6_quicken_40 : decode cX6_quicken 40 = .ok (.if_icmp .gt 35, 3) := by decide +kernel
theorem dX6_quicken_43 : decode cX6_quicken 43 = .ok (.aload_n 0, 1) := by decide +kernel
theorem dX6_quicken_44 : decode cX6_quicken 44 = .ok (.iload 5, 2) := by decide +kernel
theorem dX6_quicken_46 : decode cX6_quicken 46 = .ok (.bipush 61, 2) := by decide +kernel
theorem dX6_quicken_48 : decode cX6_quicken 48 = .ok (.if_icmp .ne 9, 3) := by decide +kernel
theorem dX6_quicken_51 : decode cX6_quicken 51 = .ok (.sipush 1000, 3) := by decide +kernel
theorem dX6_quicken_54 : decode cX6_quicken 54 = .ok (.goto 5, 3) := by decide +kernel
theorem dX6_quicken_57 : decode cX6_quicken 57 = .ok (.iload 5, 2) := by decide +kernel
theorem dX6_quicken_59 : decode cX6_quicken 59 = .ok (.putfield 88, 3) := by decide +kernel
theorem dX6_quicken_62 : decode cX6_quicken 62 = .ok (.aload_n 0, 1) := by decide +kernel
theorem dX6_quicken_63 : decode cX6_quicken 63 = .ok (.iload 5, 2) := by decide +kernel
theorem dX6_quicken_65 : decode cX6_quicken 65 = .ok (.iload_n 3, 1) := by decide +kernel
theorem dX6_quicken_66 : decode cX6_quicken 66 = .ok (.invokevirtual 175, 3) := by decide +kernel
theorem dX6_quicken_69 : decode cX6_quicken 69 = .ok (.iinc 5 1, 3) := by decide +kernel
theorem dX6_quicken_72 : decode cX6_quicken 72 = .ok (.goto (-36), 3) := by decide +kernel
theorem dX6_quicken_75 : decode cX6_quicken 75 = .ok (.aload_n 0, 1) := by decide +kernel
theorem dX6_quicken_76 : decode cX6_quicken 76 = .ok (.iload 4, 2) := by decide +kernel
theorem dX6_quicken_78 : decode cX6_quicken 78 = .ok (.invokevirtual 178, 3) := by decide +kernel
theorem dX6_quicken_81 : decode cX6_quicken 81 = .ok (.ireturn, 1) := by decide +kernel
theorem dX6_yields_0 : decode cX6_yields 0 = .ok (.aload_n 0, 1) := by decide +kernel
theorem dX6_yields_1 : decode cX6_yields 1 = .ok (.iload_n 1, 1) := by decide +kernel
theorem dX6_yields_2 : decode cX6_yields 2 = .ok (.iload_n 2, 1) := by decide +kernel
theorem dX6_yields_3 : decode cX6_yields 3 = .ok (.invokevirtual 136, 3) := by decide +kernel
theorem dX6_yields_6 : decode cX6_yields 6 = .ok (.ifCond .ne 5, 3) := by decide +kernel
theorem dX6_yields_9 : decode cX6_yields 9 = .ok (.iconst (-1), 1) := by decide +kernel
theorem dX6_yields_10 : decode cX6_yields 10 = .ok (.ireturn, 1) := by decide +kernel
theorem dX6_yields_11 : decode cX6_yields 11 = .ok (.iload_n 3, 1) := by decide +kernel
theorem dX6_yields_12 : decode cX6_yields 12 = .ok (.iload 4, 2) := by decide +kernel
theorem dX6_yields_14 : decode cX6_yields 14 = .ok (.invokestatic 169, 3) := by decide +kernel
theorem dX6_yields_17 : decode cX6_yields 17 = .ok (.ifCond .ne 6, 3) := by decide +kernel
theorem dX6_yields_20 : decode cX6_yields 20 = .ok (.bipush (-2), 2) := by decide +kernel
theorem dX6_yields_22 : decode cX6_yields 22 = .ok (.ireturn, 1) := by decide +kernel
theorem dX6_yields_23 : decode cX6_yields 23 = .ok (.aload_n 0, 1) := by decide +kernel
theorem dX6_yields_24 : decode cX6_yields 24 = .ok (.iload_n 1, 1) := by decide +kernel
theorem dX6_yields_25 : decode cX6_yields 25 = .ok (.iload_n 2, 1) := by decide +kernel
theorem dX6_yields_26 : decode cX6_yields 26 = .ok (.invokevirtual 142, 3) := by decide +kernel
theorem dX6_yields_29 : decode cX6_yields 29 = .ok (.aload_n 0, 1) := by decide +kernel
theorem dX6_yields_30 : decode cX6_yields 30 = .ok (.invokevirtual 172, 3) := by decide +kernel
theorem dX6_yields_33 : decode cX6_yields 33 = .ok (.iconst 0, 1) := by decide +kernel
theorem dX6_yields_34 : decode cX6_yields 34 = .ok (.istore 5, 2) := by decide +kernel
theorem dX6_yields_36 : decode cX6_yields 36 = .ok (.iload 5, 2) := by decide +kernel
theorem dX6_yields_38 : decode cX6_yields 38 = .ok (.bipush 25, 2) := by decide +kernel
theorem dX6_yields_40 : decode cX6_yields 40 = .ok (.if_icmp .ge 42, 3) := by decide +kernel
theorem dX6_yields_43 : decode cX6_yields 43 = .ok (.aload_n 0, 1) := by decide +kernel
theorem dX6_yields_44 : decode cX6_yields 44 = .ok (.iload 5, 2) := by decide +kernel
theorem dX6_yields_46 : decode cX6_yields 46 = .ok (.iconst 5, 1) := by decide +kernel
theorem dX6_yields_47 : decode cX6_yields 47 = .ok (.idiv, 1) := by decide +kernel
theorem dX6_yields_48 : decode cX6_yields 48 = .ok (.putfield 79, 3) := by decide +kernel
theorem dX6_yields_51 : decode cX6_yields 51 = .ok (.aload_n 0, 1) := by decide +kernel
theorem dX6_yields_52 : decode cX6_yields 52 = .ok (.iload 5, 2) := by decide +kernel
theorem dX6_yields_54 : decode cX6_yields 54 = .ok (.iconst 5, 1) := by decide +kernel
theorem dX6_yields_55 : decode cX6_yields 55 = .ok (.irem, 1) := by decide +kernel
theorem dX6_yields_56 : decode cX6_yields 56 = .ok (.putfield 82, 3) := by decide +kernel
theorem dX6_yields_59 : decode cX6_yields 59 = .ok (.aload_n 0, 1) := by decide +kernel
theorem dX6_yields_60 : decode cX6_yields 60 = .ok (.bipush 10, 2) := by decide +kernel
theorem dX6_yields_62 : decode cX6_yields 62 = .ok (.aload_n 0, 1) := by decide +kernel
theorem dX6_yields_63 : decode cX6_yields 63 = .ok (.getfield 79, 3) := by decide +kernel
theorem dX6_yields_66 : decode cX6_yields 66 = .ok (.imul, 1) := by decide +kernel
theorem dX6_yields_67 : decode cX6_yields 67 = .ok (.aload_n 0, 1) := by decide +kernel
theorem dX6_yields_68 : decode cX6_yields 68 = .ok (.getfield 82, 3) := by decide +kernel
theorem dX6_yields_71 : decode cX6_yields 71 = .ok (.iadd, 1) := by decide +kernel
theorem dX6_yields_72 : decode cX6_yields 72 = .ok (.iload_n 3, 1) := by decide +kernel
theorem dX6_yields_73 : decode cX6_yields 73 = .ok (.invokevirtual 175, 3) := by decide +kernel
theorem dX6_yields_76 : decode cX6_yields 76 = .ok (.iinc 5 1, 3) := by decide +kernel
theorem dX6_yields_79 : decode cX6_yields 79 = .ok (.goto (-43), 3) := by decide +kernel
theorem dX6_yields_82 : decode cX6_yields 82 = .ok (.aload_n 0, 1) := by decide +kernel
theorem dX6_yields_83 : decode cX6_yields 83 = .ok (.iload 4, 2) := by decide +kernel
theorem dX6_yields_85 : decode cX6_yields 85 = .ok (.invokevirtual 178, 3) := by decide +kernel
theorem dX6_yields_88 : decode cX6_yields 88 = .ok (.ireturn, 1) := by decide +kernel
theorem dX6_fallsIn_0 : decode cX6_fallsIn 0 = .ok (.aload_n 0, 1) := by decide +kernel
theorem dX6_fallsIn_1 : decode cX6_fallsIn 1 = .ok (.invokevirtual 125, 3) := by decide +kernel
theorem dX6_fallsIn_4 : decode cX6_fallsIn 4 = .ok (.aload_n 0, 1) := by decide +kernel
theorem dX6_fallsIn_5 : decode cX6_fallsIn 5 = .ok (.getfield 109, 3) := by decide +kernel
theorem dX6_fallsIn_8 : decode cX6_fallsIn 8 = .ok (.iload_n 1, 1) := by decide +kernel
theorem dX6_fallsIn_9 : decode cX6_fallsIn 9 = .ok (.if_icmp .ge 17, 3) := by decide +kernel
theorem dX6_fallsIn_12 : decode cX6_fallsIn 12 = .ok (.aload_n 0, 1) := by decide +kernel
theorem dX6_fallsIn_13 : decode cX6_fallsIn 13 = .ok (.getfield 106, 3) := by decide +kernel
theorem dX6_fallsIn_16 : decode cX6_fallsIn 16 = .ok (.ifCond .ne 10, 3) := by decide +kernel
theorem dX6_fallsIn_19 : decode cX6_fallsIn 19 = .ok (.aload_n 0, 1) := by decide +kernel
theorem dX6_fallsIn_20 : decode cX6_fallsIn 20 = .ok (.invokevirtual 128, 3) := by decide +kernel
theorem dX6_fallsIn_23 : decode cX6_fallsIn 23 = .ok (.goto (-19), 3) := by decide +kernel
theorem dX6_fallsIn_26 : decode cX6_fallsIn 26 = .ok (.aload_n 0, 1) := by decide +kernel
theorem dX6_fallsIn_27 : decode cX6_fallsIn 27 = .ok (.getfield 106, 3) := by decide +kernel
theorem dX6_fallsIn_30 : decode cX6_fallsIn 30 = .ok (.ifCond .le 7, 3) := by decide +kernel
theorem dX6_fallsIn_33 : decode cX6_fallsIn 33 = .ok (.iconst 1, 1) := by decide +kernel
theorem dX6_fallsIn_34 : decode cX6_fallsIn 34 = .ok (.goto 4, 3) := by decide +kernel
theorem dX6_fallsIn_37 : decode cX6_fallsIn 37 = .ok (.iconst 0, 1) := by decide +kernel
theorem dX6_fallsIn_38 : decode cX6_fallsIn 38 = .ok (.ireturn, 1) := by decide +kernel
theorem dX6_practice_0 : decode cX6_practice 0 = .ok (.aload_n 0, 1) := by decide +kernel
theorem dX6_practice_1 : decode cX6_practice 1 = .ok (.iload_n 1, 1) := by decide +kernel
theorem dX6_practice_2 : decode cX6_practice 2 = .ok (.iload_n 2, 1) := by decide +kernel
theorem dX6_practice_3 : decode cX6_practice 3 = .ok (.invokevirtual 136, 3) := by decide +kernel
theorem dX6_practice_6 : decode cX6_practice 6 = .ok (.ifCond .ne 5, 3) := by decide +kernel
theorem dX6_practice_9 : decode cX6_practice 9 = .ok (.iconst (-1), 1) := by decide +kernel
theorem dX6_practice_10 : decode cX6_practice 10 = .ok (.ireturn, 1) := by decide +kernel
theorem dX6_practice_11 : decode cX6_practice 11 = .ok (.iload_n 3, 1) := by decide +kernel
theorem dX6_practice_12 : decode cX6_practice 12 = .ok (.i2l, 1) := by decide +kernel
theorem dX6_practice_13 : decode cX6_practice 13 = .ok (.lconst 0, 1) := by decide +kernel
theorem dX6_practice_14 : decode cX6_practice 14 = .ok (.ldc2_w 140, 3) := by decide +kernel
theorem dX6_practice_17 : decode cX6_practice 17 = .ok (.invokestatic 50, 3) := by decide +kernel
theorem dX6_practice_20 : decode cX6_practice 20 = .ok (.ifCond .eq 14, 3) := by decide +kernel
theorem dX6_practice_23 : decode cX6_practice 23 = .ok (.iload 4, 2) := by decide +kernel
theorem dX6_practice_25 : decode cX6_practice 25 = .ok (.i2l, 1) := by decide +kernel
theorem dX6_practice_26 : decode cX6_practice 26 = .ok (.lconst 0, 1) := by decide +kernel
theorem dX6_practice_27 : decode cX6_practice 27 = .ok (.lconst 1, 1) := by decide +kernel
theorem dX6_practice_28 : decode cX6_practice 28 = .ok (.invokestatic 50, 3) := by decide +kernel
theorem dX6_practice_31 : decode cX6_practice 31 = .ok (.ifCond .ne 6, 3) := by decide +kernel
theorem dX6_practice_34 : decode cX6_practice 34 = .ok (.bipush (-2), 2) := by decide +kernel
theorem dX6_practice_36 : decode cX6_practice 36 = .ok (.ireturn, 1) := by decide +kernel
theorem dX6_practice_37 : decode cX6_practice 37 = .ok (.aload_n 0, 1) := by decide +kernel
theorem dX6_practice_38 : decode cX6_practice 38 = .ok (.iload_n 1, 1) := by decide +kernel
theorem dX6_practice_39 : decode cX6_practice 39 = .ok (.iload_n 2, 1) := by decide +kernel
theorem dX6_practice_40 : decode cX6_practice 40 = .ok (.invokevirtual 142, 3) := by decide +kernel
theorem dX6_practice_43 : decode cX6_practice 43 = .ok (.bipush (-6), 2) := by decide +kernel
theorem dX6_practice_45 : decode cX6_practice 45 = .ok (.istore 5, 2) := by decide +kernel
theorem dX6_practice_47 : decode cX6_practice 47 = .ok (.iconst 0, 1) := by decide +kernel
theorem dX6_practice_48 : decode cX6_practice 48 = .ok (.istore 6, 2) := by decide +kernel
theorem dX6_practice_50 : decode cX6_practice 50 = .ok (.aload_n 0, 1) := by decide +kernel
theorem dX6_practice_51 : decode cX6_practice 51 = .ok (.getfield 16, 3) := by decide +kernel
theorem dX6_practice_54 : decode cX6_practice 54 = .ok (.iload_n 1, 1) := by decide +kernel
theorem dX6_practice_55 : decode cX6_practice 55 = .ok (.iaload, 1) := by decide +kernel
theorem dX6_practice_56 : decode cX6_practice 56 = .ok (.istore 7, 2) := by decide +kernel
theorem dX6_practice_58 : decode cX6_practice 58 = .ok (.iload 7, 2) := by decide +kernel
theorem dX6_practice_60 : decode cX6_practice 60 = .ok (.iconst 5, 1) := by decide +kernel
theorem dX6_practice_61 : decode cX6_practice 61 = .ok (.if_icmp .ge 96, 3) := by decide +kernel
theorem dX6_practice_64 : decode cX6_practice 64 = .ok (.aload_n 0, 1) := by decide +kernel
theorem dX6_practice_65 : decode cX6_practice 65 = .ok (.getfield 16, 3) := by decide +kernel
theorem dX6_practice_68 : decode cX6_practice 68 = .ok (.iload_n 2, 1) := by decide +kernel
theorem dX6_practice_69 : decode cX6_practice 69 = .ok (.iaload, 1) := by decide +kernel
theorem dX6_practice_70 : decode cX6_practice 70 = .ok (.istore 8, 2) := by decide +kernel
theorem dX6_practice_72 : decode cX6_practice 72 = .ok (.iload 8, 2) := by decide +kernel
theorem dX6_practice_74 : decode cX6_practice 74 = .ok (.iconst 5, 1) := by decide +kernel
theorem dX6_practice_75 : decode cX6_practice 75 = .ok (.if_icmp .ge 76, 3) := by decide +kernel
theorem dX6_practice_78 : decode cX6_practice 78 = .ok (.iload 7, 2) := by decide +kernel
theorem dX6_practice_80 : decode cX6_practice 80 = .ok (.aload_n 0, 1) := by decide +kernel
theorem dX6_practice_81 : decode cX6_practice 81 = .ok (.getfield 16, 3) := by decide +kernel
theorem dX6_practice_84 : decode cX6_practice 84 = .ok (.iload_n 1, 1) := by decide +kernel
theorem dX6_practice_85 : decode cX6_practice 85 = .ok (.iaload, 1) := by decide +kernel
theorem dX6_practice_86 : decode cX6_practice 86 = .ok (.isub, 1) := by decide +kernel
theorem dX6_practice_87 : decode cX6_practice 87 = .ok (.iload 8, 2) := by decide +kernel
theorem dX6_practice_89 : decode cX6_practice 89 = .ok (.iadd, 1) := by decide +kernel
theorem dX6_practice_90 : decode cX6_practice 90 = .ok (.aload_n 0, 1) := by decide +kernel
theorem dX6_practice_91 : decode cX6_practice 91 = .ok (.getfield 16, 3) := by decide +kernel
theorem dX6_practice_94 : decode cX6_practice 94 = .ok (.iload_n 2, 1) := by decide +kernel
theorem dX6_practice_95 : decode cX6_practice 95 = .ok (.iaload, 1) := by decide +kernel
theorem dX6_practice_96 : decode cX6_practice 96 = .ok (.isub, 1) := by decide +kernel
theorem dX6_practice_97 : decode cX6_practice 97 = .ok (.istore 9, 2) := by decide +kernel
theorem dX6_practice_99 : decode cX6_practice 99 = .ok (.aload_n 0, 1) := by decide +kernel
theorem dX6_practice_100 : decode cX6_practice 100 = .ok (.iload 7, 2) := by decide +kernel
theorem dX6_practice_102 : decode cX6_practice 102 = .ok (.putfield 79, 3) := by decide +kernel
theorem dX6_practice_105 : decode cX6_practice 105 = .ok (.aload_n 0, 1) := by decide +kernel
theorem dX6_practice_106 : decode cX6_practice 106 = .ok (.iload 8, 2) := by decide +kernel
theorem dX6_practice_108 : decode cX6_practice 108 = .ok (.putfield 82, 3) := by decide +kernel
theorem dX6_practice_111 : decode cX6_practice 111 = .ok (.iload 5, 2) := by decide +kernel
theorem dX6_practice_113 : decode cX6_practice 113 = .ok (.ifCond .lt 10, 3) := by decide +kernel
theorem dX6_practice_116 : decode cX6_practice 116 = .ok (.iload 9, 2) := by decide +kernel
theorem dX6_practice_118 : decode cX6_practice 118 = .ok (.iload 6, 2) := by decide +kernel
theorem dX6_practice_120 : decode cX6_practice 120 = .ok (.if_icmp .ge 25, 3) := by decide +kernel
theorem dX6_practice_123 : decode cX6_practice 123 = .ok (.aload_n 0, 1) := by decide +kernel
theorem dX6_practice_124 : decode cX6_practice 124 = .ok (.iload_n 3, 1) := by decide +kernel
theorem dX6_practice_125 : decode cX6_practice 125 = .ok (.invokevirtual 181, 3) := by decide +kernel
theorem dX6_practice_128 : decode cX6_practice 128 = .ok (.ifCond .ne 17, 3) := by decide +kernel
theorem dX6_practice_131 : decode cX6_practice 131 = .ok (.bipush 10, 2) := by decide +kernel
theorem dX6_practice_133 : decode cX6_practice 133 = .ok (.iload 7, 2) := by decide +kernel
theorem dX6_practice_135 : decode cX6_practice 135 = .ok (.imul, 1) := by decide +kernel
theorem dX6_practice_136 : decode cX6_practice 136 = .ok (.iload 8, 2) := by decide +kernel
theorem dX6_practice_138 : decode cX6_practice 138 = .ok (.iadd, 1) := by decide +kernel
theorem dX6_practice_139 : decode cX6_practice 139 = .ok (.istore 5, 2) := by decide +kernel
theorem dX6_practice_141 : decode cX6_practice 141 = .ok (.iload 9, 2) := by decide +kernel
theorem dX6_practice_143 : decode cX6_practice 143 = .ok (.istore 6, 2) := by decide +kernel
theorem dX6_practice_145 : decode cX6_practice 145 = .ok (.iinc 8 1, 3) := by decide +kernel
theorem dX6_practice_148 : decode cX6_practice 148 = .ok (.goto (-76), 3) := by decide +kernel
theorem dX6_practice_151 : decode cX6_practice 151 = .ok (.iinc 7 1, 3) := by decide +kernel
theorem dX6_practice_154 : decode cX6_practice 154 = .ok (.goto (-96), 3) := by decide +kernel
theorem dX6_practice_157 : decode cX6_practice 157 = .ok (.iload 5, 2) := by decide +kernel
theorem dX6_practice_159 : decode cX6_practice 159 = .ok (.ifCond .lt 9, 3) := by decide +kernel
theorem dX6_practice_162 : decode cX6_practice 162 = .ok (.iload 4, 2) := by decide +kernel
theorem dX6_practice_164 : decode cX6_practice 164 = .ok (.iconst 1, 1) := by decide +kernel
theorem dX6_practice_165 : decode cX6_practice 165 = .ok (.if_icmp .ne 8, 3) := by decide +kernel
theorem dX6_practice_168 : decode cX6_practice 168 = .ok (.iload 5, 2) := by decide +kernel
theorem dX6_practice_170 : decode cX6_practice 170 = .ok (.goto 5, 3) := by decide +kernel
theorem dX6_practice_173 : decode cX6_practice 173 = .ok (.iload 6, 2) := by decide +kernel
theorem dX6_practice_175 : decode cX6_practice 175 = .ok (.ireturn, 1) := by decide +kernel
theorem dX6_scarf_0 : decode cX6_scarf 0 = .ok (.aload_n 0, 1) := by decide +kernel
theorem dX6_scarf_1 : decode cX6_scarf 1 = .ok (.iload_n 1, 1) := by decide +kernel
theorem dX6_scarf_2 : decode cX6_scarf 2 = .ok (.iload_n 2, 1) := by decide +kernel
theorem dX6_scarf_3 : decode cX6_scarf 3 = .ok (.invokevirtual 136, 3) := by decide +kernel
theorem dX6_scarf_6 : decode cX6_scarf 6 = .ok (.ifCond .ne 5, 3) := by decide +kernel
theorem dX6_scarf_9 : decode cX6_scarf 9 = .ok (.iconst (-1), 1) := by decide +kernel
theorem dX6_scarf_10 : decode cX6_scarf 10 = .ok (.ireturn, 1) := by decide +kernel
theorem dX6_scarf_11 : decode cX6_scarf 11 = .ok (.iload_n 3, 1) := by decide +kernel
theorem dX6_scarf_12 : decode cX6_scarf 12 = .ok (.invokestatic 146, 3) := by decide +kernel
theorem dX6_scarf_15 : decode cX6_scarf 15 = .ok (.ifCond .eq 16, 3) := by decide +kernel
theorem dX6_scarf_18 : decode cX6_scarf 18 = .ok (.iload 4, 2) := by decide +kernel
theorem dX6_scarf_20 : decode cX6_scarf 20 = .ok (.i2l, 1) := by decide +kernel
theorem dX6_scarf_21 : decode cX6_scarf 21 = .ok (.lconst 0, 1) := by decide +kernel
theorem dX6_scarf_22 : decode cX6_scarf 22 = .ok (.ldc2_w 184, 3) := by decide +kernel
theorem dX6_scarf_25 : decode cX6_scarf 25 = .ok (.invokestatic 50, 3) := by decide +kernel
theorem dX6_scarf_28 : decode cX6_scarf 28 = .ok (.ifCond .ne 6, 3) := by decide +kernel
theorem dX6_scarf_31 : decode cX6_scarf 31 = .ok (.bipush (-2), 2) := by decide +kernel
theorem dX6_scarf_33 : decode cX6_scarf 33 = .ok (.ireturn, 1) := by decide +kernel
theorem dX6_scarf_34 : decode cX6_scarf 34 = .ok (.aload_n 0, 1) := by decide +kernel
theorem dX6_scarf_35 : decode cX6_scarf 35 = .ok (.iload_n 1, 1) := by decide +kernel
theorem dX6_scarf_36 : decode cX6_scarf 36 = .ok (.iload_n 2, 1) := by decide +kernel
theorem dX6_scarf_37 : decode cX6_scarf 37 = .ok (.invokevirtual 142, 3) := by decide +kernel
theorem dX6_scarf_40 : decode cX6_scarf 40 = .ok (.iconst 0, 1) := by decide +kernel
theorem dX6_scarf_41 : decode cX6_scarf 41 = .ok (.istore 5, 2) := by decide +kernel
theorem dX6_scarf_43 : decode cX6_scarf 43 = .ok (.iload 5, 2) := by decide +kernel
theorem dX6_scarf_45 : decode cX6_scarf 45 = .ok (.aload_n 0, 1) := by decide +kernel
theorem dX6_scarf_46 : decode cX6_scarf 46 = .ok (.getfield 42, 3) := by decide +kernel
theorem dX6_scarf_49 : decode cX6_scarf 49 = .ok (.if_icmp .gt 28, 3) := by decide +kernel
theorem dX6_scarf_52 : decode cX6_scarf 52 = .ok (.aload_n 0, 1) := by decide +kernel
theorem dX6_scarf_53 : decode cX6_scarf 53 = .ok (.iload 5, 2) := by decide +kernel
theorem dX6_scarf_55 : decode cX6_scarf 55 = .ok (.putfield 91, 3) := by decide +kernel
theorem dX6_scarf_58 : decode cX6_scarf 58 = .ok (.aload_n 0, 1) := by decide +kernel
theorem dX6_scarf_59 : decode cX6_scarf 59 = .ok (.iload_n 3, 1) := by decide +kernel
theorem dX6_scarf_60 : decode cX6_scarf 60 = .ok (.invokevirtual 149, 3) := by decide +kernel
theorem dX6_scarf_63 : decode cX6_scarf 63 = .ok (.iload 4, 2) := by decide +kernel
theorem dX6_scarf_65 : decode cX6_scarf 65 = .ok (.if_icmp .gt 6, 3) := by decide +kernel
theorem dX6_scarf_68 : decode cX6_scarf 68 = .ok (.iload 5, 2) := by decide +kernel
theorem dX6_scarf_70 : decode cX6_scarf 70 = .ok (.ireturn, 1) := by decide +kernel
theorem dX6_scarf_71 : decode cX6_scarf 71 = .ok (.iinc 5 1, 3) := by decide +kernel
theorem dX6_scarf_74 : decode cX6_scarf 74 = .ok (.goto (-31), 3) := by decide +kernel
theorem dX6_scarf_77 : decode cX6_scarf 77 = .ok (.bipush (-6), 2) := by decide +kernel
theorem dX6_scarf_79 : decode cX6_scarf 79 = .ok (.ireturn, 1) := by decide +kernel
theorem dX6_even_0 : decode cX6_even 0 = .ok (.aload_n 0, 1) := by decide +kernel
theorem dX6_even_1 : decode cX6_even 1 = .ok (.iload_n 1, 1) := by decide +kernel
theorem dX6_even_2 : decode cX6_even 2 = .ok (.iload_n 2, 1) := by decide +kernel
theorem dX6_even_3 : decode cX6_even 3 = .ok (.invokevirtual 136, 3) := by decide +kernel
theorem dX6_even_6 : decode cX6_even 6 = .ok (.ifCond .eq 13, 3) := by decide +kernel
theorem dX6_even_9 : decode cX6_even 9 = .ok (.aload_n 0, 1) := by decide +kernel
theorem dX6_even_10 : decode cX6_even 10 = .ok (.iload_n 3, 1) := by decide +kernel
theorem dX6_even_11 : decode cX6_even 11 = .ok (.iload 4, 2) := by decide +kernel
theorem dX6_even_13 : decode cX6_even 13 = .ok (.invokevirtual 136, 3) := by decide +kernel
theorem dX6_even_16 : decode cX6_even 16 = .ok (.ifCond .ne 5, 3) := by decide +kernel
theorem dX6_even_19 : decode cX6_even 19 = .ok (.iconst (-1), 1) := by decide +kernel
theorem dX6_even_20 : decode cX6_even 20 = .ok (.ireturn, 1) := by decide +kernel
theorem dX6_even_21 : decode cX6_even 21 = .ok (.iload 5, 2) := by decide +kernel
theorem dX6_even_23 : decode cX6_even 23 = .ok (.invokestatic 146, 3) := by decide +kernel
theorem dX6_even_26 : decode cX6_even 26 = .ok (.ifCond .ne 6, 3) := by decide +kernel
theorem dX6_even_29 : decode cX6_even 29 = .ok (.bipush (-2), 2) := by decide +kernel
theorem dX6_even_31 : decode cX6_even 31 = .ok (.ireturn, 1) := by decide +kernel
theorem dX6_even_32 : decode cX6_even 32 = .ok (.aload_n 0, 1) := by decide +kernel
theorem dX6_even_33 : decode cX6_even 33 = .ok (.iload_n 3, 1) := by decide +kernel
theorem dX6_even_34 : decode cX6_even 34 = .ok (.iload 4, 2) := by decide +kernel
theorem dX6_even_36 : decode cX6_even 36 = .ok (.invokevirtual 142, 3) := by decide +kernel
theorem dX6_even_39 : decode cX6_even 39 = .ok (.aload_n 0, 1) := by decide +kernel
theorem dX6_even_40 : decode cX6_even 40 = .ok (.iload 5, 2) := by decide +kernel
theorem dX6_even_42 : decode cX6_even 42 = .ok (.invokevirtual 149, 3) := by decide +kernel
theorem dX6_even_45 : decode cX6_even 45 = .ok (.istore 6, 2) := by decide +kernel
theorem dX6_even_47 : decode cX6_even 47 = .ok (.iload 6, 2) := by decide +kernel
theorem dX6_even_49 : decode cX6_even 49 = .ok (.ldc 135, 2) := by decide +kernel
theorem dX6_even_51 : decode cX6_even 51 = .ok (.if_icmp .ne 6, 3) := by decide +kernel
theorem dX6_even_54 : decode cX6_even 54 = .ok (.bipush (-6), 2) := by decide +kernel
theorem dX6_even_56 : decode cX6_even 56 = .ok (.ireturn, 1) := by decide +kernel
theorem dX6_even_57 : decode cX6_even 57 = .ok (.aload_n 0, 1) := by decide +kernel
theorem dX6_even_58 : decode cX6_even 58 = .ok (.iload_n 1, 1) := by decide +kernel
theorem dX6_even_59 : decode cX6_even 59 = .ok (.iload_n 2, 1) := by decide +kernel
theorem dX6_even_60 : decode cX6_even 60 = .ok (.invokevirtual 142, 3) := by decide +kernel
theorem dX6_even_63 : decode cX6_even 63 = .ok (.iconst 0, 1) := by decide +kernel
theorem dX6_even_64 : decode cX6_even 64 = .ok (.istore 7, 2) := by decide +kernel
theorem dX6_even_66 : decode cX6_even 66 = .ok (.iload 7, 2) := by decide +kernel
theorem dX6_even_68 : decode cX6_even 68 = .ok (.iload 5, 2) := by decide +kernel
theorem dX6_even_70 : decode cX6_even 70 = .ok (.if_icmp .ge 23, 3) := by decide +kernel
theorem dX6_even_73 : decode cX6_even 73 = .ok (.aload_n 0, 1) := by decide +kernel
theorem dX6_even_74 : decode cX6_even 74 = .ok (.iload 5, 2) := by decide +kernel
theorem dX6_even_76 : decode cX6_even 76 = .ok (.iload 7, 2) := by decide +kernel
theorem dX6_even_78 : decode cX6_even 78 = .ok (.isub, 1) := by decide +kernel
theorem dX6_even_79 : decode cX6_even 79 = .ok (.invokevirtual 149, 3) := by decide +kernel
theorem dX6_even_82 : decode cX6_even 82 = .ok (.iload 6, 2) := by decide +kernel
theorem dX6_even_84 : decode cX6_even 84 = .ok (.if_icmp .le 9, 3) := by decide +kernel
theorem dX6_even_87 : decode cX6_even 87 = .ok (.iinc 7 1, 3) := by decide +kernel
theorem dX6_even_90 : decode cX6_even 90 = .ok (.goto (-24), 3) := by decide +kernel
theorem dX6_even_93 : decode cX6_even 93 = .ok (.iload 7, 2) := by decide +kernel
theorem dX6_even_95 : decode cX6_even 95 = .ok (.ireturn, 1) := by decide +kernel
theorem dX6_say_0 : decode cX6_say 0 = .ok (.iload_n 1, 1) := by decide +kernel
theorem dX6_say_1 : decode cX6_say 1 = .ok (.i2l, 1) := by decide +kernel
theorem dX6_say_2 : decode cX6_say 2 = .ok (.ldc2_w 186, 3) := by decide +kernel
theorem dX6_say_5 : decode cX6_say 5 = .ok (.ldc2_w 188, 3) := by decide +kernel
theorem dX6_say_8 : decode cX6_say 8 = .ok (.invokestatic 50, 3) := by decide +kernel
theorem dX6_say_11 : decode cX6_say 11 = .ok (.ifCond .ne 6, 3) := by decide +kernel
theorem dX6_say_14 : decode cX6_say 14 = .ok (.bipush (-2), 2) := by decide +kernel
theorem dX6_say_16 : decode cX6_say 16 = .ok (.ireturn, 1) := by decide +kernel
theorem dX6_say_17 : decode cX6_say 17 = .ok (.aload_n 0, 1) := by decide +kernel
theorem dX6_say_18 : decode cX6_say 18 = .ok (.getfield 190, 3) := by decide +kernel
theorem dX6_say_21 : decode cX6_say 21 = .ok (.bipush 40, 2) := by decide +kernel
theorem dX6_say_23 : decode cX6_say 23 = .ok (.if_icmp .ne 6, 3) := by decide +kernel
theorem dX6_say_26 : decode cX6_say 26 = .ok (.bipush (-4), 2) := by decide +kernel
theorem dX6_say_28 : decode cX6_say 28 = .ok (.ireturn, 1) := by decide +kernel
theorem dX6_say_29 : decode cX6_say 29 = .ok (.aload_n 0, 1) := by decide +kernel
theorem dX6_say_30 : decode cX6_say 30 = .ok (.getfield 28, 3) := by decide +kernel
theorem dX6_say_33 : decode cX6_say 33 = .ok (.aload_n 0, 1) := by decide +kernel
theorem dX6_say_34 : decode cX6_say 34 = .ok (.getfield 190, 3) := by decide +kernel
theorem dX6_say_37 : decode cX6_say 37 = .ok (.iload_n 1, 1) := by decide +kernel
theorem dX6_say_38 : decode cX6_say 38 = .ok (.iastore, 1) := by decide +kernel
theorem dX6_say_39 : decode cX6_say 39 = .ok (.aload_n 0, 1) := by decide +kernel
theorem dX6_say_40 : decode cX6_say 40 = .ok (.dup, 1) := by decide +kernel
theorem dX6_say_41 : decode cX6_say 41 = .ok (.getfield 190, 3) := by decide +kernel
theorem dX6_say_44 : decode cX6_say 44 = .ok (.iconst 1, 1) := by decide +kernel
theorem dX6_say_45 : decode cX6_say 45 = .ok (.iadd, 1) := by decide +kernel
theorem dX6_say_46 : decode cX6_say 46 = .ok (.putfield 190, 3) := by decide +kernel
theorem dX6_say_49 : decode cX6_say 49 = .ok (.aload_n 0, 1) := by decide +kernel
theorem dX6_say_50 : decode cX6_say 50 = .ok (.getfield 190, 3) := by decide +kernel
theorem dX6_say_53 : decode cX6_say 53 = .ok (.ireturn, 1) := by decide +kernel
theorem dX6_wipe_0 : decode cX6_wipe 0 = .ok (.aload_n 0, 1) := by decide +kernel
theorem dX6_wipe_1 : decode cX6_wipe 1 = .ok (.getfield 190, 3) := by decide +kernel
theorem dX6_wipe_4 : decode cX6_wipe 4 = .ok (.istore_n 1, 1) := by decide +kernel
theorem dX6_wipe_5 : decode cX6_wipe 5 = .ok (.aload_n 0, 1) := by decide +kernel
theorem dX6_wipe_6 : decode cX6_wipe 6 = .ok (.iconst 0, 1) := by decide +kernel
theorem dX6_wipe_7 : decode cX6_wipe 7 = .ok (.putfield 190, 3) := by decide +kernel
theorem dX6_wipe_10 : decode cX6_wipe 10 = .ok (.iload_n 1, 1) := by decide +kernel
theorem dX6_wipe_11 : decode cX6_wipe 11 = .ok (.ireturn, 1) := by decide +kernel
theorem dX6_fault_0 : decode cX6_fault 0 = .ok (.iconst 0, 1) := by decide +kernel
theorem dX6_fault_1 : decode cX6_fault 1 = .ok (.istore_n 1, 1) := by decide +kernel
theorem dX6_fault_2 : decode cX6_fault 2 = .ok (.iload_n 1, 1) := by decide +kernel
theorem dX6_fault_3 : decode cX6_fault 3 = .ok (.aload_n 0, 1) := by decide +kernel
theorem dX6_fault_4 : decode cX6_fault 4 = .ok (.getfield 190, 3) := by decide +kernel
theorem dX6_fault_7 : decode cX6_fault 7 = .ok (.if_icmp .ge 42, 3) := by decide +kernel
theorem dX6_fault_10 : decode cX6_fault 10 = .ok (.aload_n 0, 1) := by decide +kernel
theorem dX6_fault_11 : decode cX6_fault 11 = .ok (.getfield 28, 3) := by decide +kernel
theorem dX6_fault_14 : decode cX6_fault 14 = .ok (.iload_n 1, 1) := by decide +kernel
theorem dX6_fault_15 : decode cX6_fault 15 = .ok (.iaload, 1) := by decide +kernel
theorem dX6_fault_16 : decode cX6_fault 16 = .ok (.istore_n 2, 1) := by decide +kernel
theorem dX6_fault_17 : decode cX6_fault 17 = .ok (.iload_n 2, 1) := by decide +kernel
theorem dX6_fault_18 : decode cX6_fault 18 = .ok (.bipush 115, 2) := by decide +kernel
theorem dX6_fault_20 : decode cX6_fault 20 = .ok (.if_icmp .eq 23, 3) := by decide +kernel
theorem dX6_fault_23 : decode cX6_fault 23 = .ok (.iload_n 2, 1) := by decide +kernel
theorem dX6_fault_24 : decode cX6_fault 24 = .ok (.bipush 108, 2) := by decide +kernel
theorem dX6_fault_26 : decode cX6_fault 26 = .ok (.if_icmp .eq 17, 3) := by decide +kernel
theorem dX6_fault_29 : decode cX6_fault 29 = .ok (.iload_n 2, 1) := by decide +kernel
theorem dX6_fault_30 : decode cX6_fault 30 = .ok (.bipush 102, 2) := by decide +kernel
theorem dX6_fault_32 : decode cX6_fault 32 = .ok (.if_icmp .eq 11, 3) := by decide +kernel
theorem dX6_fault_35 : decode cX6_fault 35 = .ok (.iload_n 2, 1) := by decide +kernel
theorem dX6_fault_36 : decode cX6_fault 36 = .ok (.bipush 63, 2) := by decide +kernel
theorem dX6_fault_38 : decode cX6_fault 38 = .ok (.if_icmp .eq 5, 3) := by decide +kernel
theorem dX6_fault_41 : decode cX6_fault 41 = .ok (.iload_n 1, 1) := by decide +kernel
theorem dX6_fault_42 : decode cX6_fault 42 = .ok (.ireturn, 1) := by decide +kernel
theorem dX6_fault_43 : decode cX6_fault 43 = .ok (.iinc 1 1, 3) := by decide +kernel
theorem dX6_fault_46 : decode cX6_fault 46 = .ok (.goto (-44), 3) := by decide +kernel
theorem dX6_fault_49 : decode cX6_fault 49 = .ok (.bipush (-6), 2) := by decide +kernel
theorem dX6_fault_51 : decode cX6_fault 51 = .ok (.ireturn, 1) := by decide +kernel
theorem dX6_judged_0 : decode cX6_judged 0 = .ok (.aload_n 0, 1) := by decide +kernel
theorem dX6_judged_1 : decode cX6_judged 1 = .ok (.iload_n 1, 1) := by decide +kernel
theorem dX6_judged_2 : decode cX6_judged 2 = .ok (.iload_n 2, 1) := by decide +kernel
theorem dX6_judged_3 : decode cX6_judged 3 = .ok (.invokevirtual 142, 3) := by decide +kernel
theorem dX6_judged_6 : decode cX6_judged 6 = .ok (.aload_n 0, 1) := by decide +kernel
theorem dX6_judged_7 : decode cX6_judged 7 = .ok (.invokevirtual 125, 3) := by decide +kernel
theorem dX6_judged_10 : decode cX6_judged 10 = .ok (.iconst 0, 1) := by decide +kernel
theorem dX6_judged_11 : decode cX6_judged 11 = .ok (.istore_n 3, 1) := by decide +kernel
theorem dX6_judged_12 : decode cX6_judged 12 = .ok (.iload_n 3, 1) := by decide +kernel
theorem dX6_judged_13 : decode cX6_judged 13 = .ok (.aload_n 0, 1) := by decide +kernel
theorem dX6_judged_14 : decode cX6_judged 14 = .ok (.getfield 190, 3) := by decide +kernel
theorem dX6_judged_17 : decode cX6_judged 17 = .ok (.if_icmp .ge 39, 3) := by decide +kernel
theorem dX6_judged_20 : decode cX6_judged 20 = .ok (.aload_n 0, 1) := by decide +kernel
theorem dX6_judged_21 : decode cX6_judged 21 = .ok (.invokevirtual 128, 3) := by decide +kernel
theorem dX6_judged_24 : decode cX6_judged 24 = .ok (.aload_n 0, 1) := by decide +kernel
theorem dX6_judged_25 : decode cX6_judged 25 = .ok (.getfield 28, 3) := by decide +kernel
theorem dX6_judged_28 : decode cX6_judged 28 = .ok (.iload_n 3, 1) := by decide +kernel
theorem dX6_judged_29 : decode cX6_judged 29 = .ok (.iaload, 1) := by decide +kernel
theorem dX6_judged_30 : decode cX6_judged 30 = .ok (.bipush 63, 2) := by decide +kernel
theorem dX6_judged_32 : decode cX6_judged 32 = .ok (.if_icmp .eq 18, 3) := by decide +kernel
theorem dX6_judged_35 : decode cX6_judged 35 = .ok (.aload_n 0, 1) := by decide +kernel
theorem dX6_judged_36 : decode cX6_judged 36 = .ok (.getfield 28, 3) := by decide +kernel
theorem dX6_judged_39 : decode cX6_judged 39 = .ok (.iload_n 3, 1) := by decide +kernel
theorem dX6_judged_40 : decode cX6_judged 40 = .ok (.iaload, 1) := by decide +kernel
theorem dX6_judged_41 : decode cX6_judged 41 = .ok (.aload_n 0, 1) := by decide +kernel
theorem dX6_judged_42 : decode cX6_judged 42 = .ok (.getfield 119, 3) := by decide +kernel
theorem dX6_judged_45 : decode cX6_judged 45 = .ok (.if_icmp .eq 5, 3) := by decide +kernel
theorem dX6_judged_48 : decode cX6_judged 48 = .ok (.iload_n 3, 1) := by decide +kernel
theorem dX6_judged_49 : decode cX6_judged 49 = .ok (.ireturn, 1) := by decide +kernel
theorem dX6_judged_50 : decode cX6_judged 50 = .ok (.iinc 3 1, 3) := by decide +kernel
theorem dX6_judged_53 : decode cX6_judged 53 = .ok (.goto (-41), 3) := by decide +kernel
theorem dX6_judged_56 : decode cX6_judged 56 = .ok (.bipush (-6), 2) := by decide +kernel
theorem dX6_judged_58 : decode cX6_judged 58 = .ok (.ireturn, 1) := by decide +kernel
theorem dX6_judge_0 : decode cX6_judge 0 = .ok (.aload_n 0, 1) := by decide +kernel
theorem dX6_judge_1 : decode cX6_judge 1 = .ok (.iload_n 1, 1) := by decide +kernel
theorem dX6_judge_2 : decode cX6_judge 2 = .ok (.iload_n 2, 1) := by decide +kernel
theorem dX6_judge_3 : decode cX6_judge 3 = .ok (.invokevirtual 136, 3) := by decide +kernel
theorem dX6_judge_6 : decode cX6_judge 6 = .ok (.ifCond .ne 5, 3) := by decide +kernel
theorem dX6_judge_9 : decode cX6_judge 9 = .ok (.iconst (-1), 1) := by decide +kernel
theorem dX6_judge_10 : decode cX6_judge 10 = .ok (.ireturn, 1) := by decide +kernel
theorem dX6_judge_11 : decode cX6_judge 11 = .ok (.aload_n 0, 1) := by decide +kernel
theorem dX6_judge_12 : decode cX6_judge 12 = .ok (.invokevirtual 193, 3) := by decide +kernel
theorem dX6_judge_15 : decode cX6_judge 15 = .ok (.ifCond .lt 8, 3) := by decide +kernel
theorem dX6_judge_18 : decode cX6_judge 18 = .ok (.bipush (-5), 2) := by decide +kernel
theorem dX6_judge_20 : decode cX6_judge 20 = .ok (.goto 9, 3) := by decide +kernel
theorem dX6_judge_23 : decode cX6_judge 23 = .ok (.aload_n 0, 1) := by decide +kernel
theorem dX6_judge_24 : decode cX6_judge 24 = .ok (.iload_n 1, 1) := by decide +kernel
theorem dX6_judge_25 : decode cX6_judge 25 = .ok (.iload_n 2, 1) := by decide +kernel
theorem dX6_judge_26 : decode cX6_judge 26 = .ok (.invokevirtual 196, 3) := by decide +kernel
theorem dX6_judge_29 : decode cX6_judge 29 = .ok (.ireturn, 1) := by decide +kernel
theorem dX6_fits_0 : decode cX6_fits 0 = .ok (.aload_n 0, 1) := by decide +kernel
theorem dX6_fits_1 : decode cX6_fits 1 = .ok (.invokevirtual 193, 3) := by decide +kernel
theorem dX6_fits_4 : decode cX6_fits 4 = .ok (.ifCond .lt 6, 3) := by decide +kernel
theorem dX6_fits_7 : decode cX6_fits 7 = .ok (.bipush (-5), 2) := by decide +kernel
theorem dX6_fits_9 : decode cX6_fits 9 = .ok (.ireturn, 1) := by decide +kernel
theorem dX6_fits_10 : decode cX6_fits 10 = .ok (.iconst 0, 1) := by decide +kernel
theorem dX6_fits_11 : decode cX6_fits 11 = .ok (.istore_n 2, 1) := by decide +kernel
theorem dX6_fits_12 : decode cX6_fits 12 = .ok (.iconst 0, 1) := by decide +kernel
theorem dX6_fits_13 : decode cX6_fits 13 = .ok (.istore_n 3, 1) := by decide +kernel
theorem dX6_fits_14 : decode cX6_fits 14 = .ok (.iload_n 3, 1) := by decide +kernel
theorem dX6_fits_15 : decode cX6_fits 15 = .ok (.bipush 8, 2) := by decide +kernel
theorem dX6_fits_17 : decode cX6_fits 17 = .ok (.if_icmp .ge 63, 3) := by decide +kernel
theorem dX6_fits_20 : decode cX6_fits 20 = .ok (.iload_n 3, 1) := by decide +kernel
theorem dX6_fits_21 : decode cX6_fits 21 = .ok (.iconst 1, 1) := by decide +kernel
theorem dX6_fits_22 : decode cX6_fits 22 = .ok (.iadd, 1) := by decide +kernel
theorem dX6_fits_23 : decode cX6_fits 23 = .ok (.istore 4, 2) := by decide +kernel
theorem dX6_fits_25 : decode cX6_fits 25 = .ok (.iload 4, 2) := by decide +kernel
theorem dX6_fits_27 : decode cX6_fits 27 = .ok (.bipush 8, 2) := by decide +kernel
theorem dX6_fits_29 : decode cX6_fits 29 = .ok (.if_icmp .ge 45, 3) := by decide +kernel
theorem dX6_fits_32 : decode cX6_fits 32 = .ok (.aload_n 0, 1) := by decide +kernel
theorem dX6_fits_33 : decode cX6_fits 33 = .ok (.iload_n 3, 1) := by decide +kernel
theorem dX6_fits_34 : decode cX6_fits 34 = .ok (.iload 4, 2) := by decide +kernel
theorem dX6_fits_36 : decode cX6_fits 36 = .ok (.invokevirtual 136, 3) := by decide +kernel
theorem dX6_fits_39 : decode cX6_fits 39 = .ok (.ifCond .eq 29, 3) := by decide +kernel
theorem dX6_fits_42 : decode cX6_fits 42 = .ok (.aload_n 0, 1) := by decide +kernel
theorem dX6_fits_43 : decode cX6_fits 43 = .ok (.iload_n 3, 1) := by decide +kernel
theorem dX6_fits_44 : decode cX6_fits 44 = .ok (.iload 4, 2) := by decide +kernel
theorem dX6_fits_46 : decode cX6_fits 46 = .ok (.invokevirtual 196, 3) := by decide +kernel
theorem dX6_fits_49 : decode cX6_fits 49 = .ok (.ifCond .ge 19, 3) := by decide +kernel
theorem dX6_fits_52 : decode cX6_fits 52 = .ok (.iload_n 2, 1) := by decide +kernel
theorem dX6_fits_53 : decode cX6_fits 53 = .ok (.iload_n 1, 1) := by decide +kernel
theorem dX6_fits_54 : decode cX6_fits 54 = .ok (.if_icmp .ne 11, 3) := by decide +kernel
theorem dX6_fits_57 : decode cX6_fits 57 = .ok (.bipush 10, 2) := by decide +kernel
theorem dX6_fits_59 : decode cX6_fits 59 = .ok (.iload_n 3, 1) := by decide +kernel
theorem dX6_fits_60 : decode cX6_fits 60 = .ok (.imul, 1) := by decide +kernel
theorem dX6_fits_61 : decode cX6_fits 61 = .ok (.iload 4, 2) := by decide +kernel
theorem dX6_fits_63 : decode cX6_fits 63 = .ok (.iadd, 1) := by decide +kernel
theorem dX6_fits_64 : decode cX6_fits 64 = .ok (.ireturn, 1) := by decide +kernel
theorem dX6_fits_65 : decode cX6_fits 65 = .ok (.iinc 2 1, 3) := by decide +kernel
theorem dX6_fits_68 : decode cX6_fits 68 = .ok (.iinc 4 1, 3) := by decide +kernel
theorem dX6_fits_71 : decode cX6_fits 71 = .ok (.goto (-46), 3) := by decide +kernel
theorem dX6_fits_74 : decode cX6_fits 74 = .ok (.iinc 3 1, 3) := by decide +kernel
theorem dX6_fits_77 : decode cX6_fits 77 = .ok (.goto (-63), 3) := by decide +kernel
theorem dX6_fits_80 : decode cX6_fits 80 = .ok (.iload_n 1, 1) := by decide +kernel
theorem dX6_fits_81 : decode cX6_fits 81 = .ok (.iconst (-1), 1) := by decide +kernel
theorem dX6_fits_82 : decode cX6_fits 82 = .ok (.if_icmp .ne 7, 3) := by decide +kernel
theorem dX6_fits_85 : decode cX6_fits 85 = .ok (.iload_n 2, 1) := by decide +kernel
theorem dX6_fits_86 : decode cX6_fits 86 = .ok (.goto 5, 3) := by decide +kernel
theorem dX6_fits_89 : decode cX6_fits 89 = .ok (.bipush (-6), 2) := by decide +kernel
theorem dX6_fits_91 : decode cX6_fits 91 = .ok (.ireturn, 1) := by decide +kernel
theorem dX6_year_0 : decode cX6_year 0 = .ok (.iload_n 1, 1) := by decide +kernel
theorem dX6_year_1 : decode cX6_year 1 = .ok (.i2l, 1) := by decide +kernel
theorem dX6_year_2 : decode cX6_year 2 = .ok (.lconst 0, 1) := by decide +kernel
theorem dX6_year_3 : decode cX6_year 3 = .ok (.ldc2_w 184, 3) := by decide +kernel
theorem dX6_year_6 : decode cX6_year 6 = .ok (.invokestatic 50, 3) := by decide +kernel
theorem dX6_year_9 : decode cX6_year 9 = .ok (.ifCond .eq 37, 3) := by decide +kernel
theorem dX6_year_12 : decode cX6_year 12 = .ok (.iload_n 2, 1) := by decide +kernel
theorem dX6_year_13 : decode cX6_year 13 = .ok (.i2l, 1) := by decide +kernel
theorem dX6_year_14 : decode cX6_year 14 = .ok (.lconst 1, 1) := by decide +kernel
theorem dX6_year_15 : decode cX6_year 15 = .ok (.ldc2_w 71, 3) := by decide +kernel
theorem dX6_year_18 : decode cX6_year 18 = .ok (.invokestatic 50, 3) := by decide +kernel
theorem dX6_year_21 : decode cX6_year 21 = .ok (.ifCond .eq 25, 3) := by decide +kernel
theorem dX6_year_24 : decode cX6_year 24 = .ok (.iload_n 3, 1) := by decide +kernel
theorem dX6_year_25 : decode cX6_year 25 = .ok (.invokestatic 146, 3) := by decide +kernel
theorem dX6_year_28 : decode cX6_year 28 = .ok (.ifCond .eq 18, 3) := by decide +kernel
theorem dX6_year_31 : decode cX6_year 31 = .ok (.iload 4, 2) := by decide +kernel
theorem dX6_year_33 : decode cX6_year 33 = .ok (.i2l, 1) := by decide +kernel
theorem dX6_year_34 : decode cX6_year 34 = .ok (.ldc2_w 200, 3) := by decide +kernel
theorem dX6_year_37 : decode cX6_year 37 = .ok (.ldc2_w 202, 3) := by decide +kernel
theorem dX6_year_40 : decode cX6_year 40 = .ok (.invokestatic 50, 3) := by decide +kernel
theorem dX6_year_43 : decode cX6_year 43 = .ok (.ifCond .ne 6, 3) := by decide +kernel
theorem dX6_year_46 : decode cX6_year 46 = .ok (.bipush (-2), 2) := by decide +kernel
theorem dX6_year_48 : decode cX6_year 48 = .ok (.ireturn, 1) := by decide +kernel
theorem dX6_year_49 : decode cX6_year 49 = .ok (.aload_n 0, 1) := by decide +kernel
theorem dX6_year_50 : decode cX6_year 50 = .ok (.iload_n 3, 1) := by decide +kernel
theorem dX6_year_51 : decode cX6_year 51 = .ok (.invokevirtual 153, 3) := by decide +kernel
theorem dX6_year_54 : decode cX6_year 54 = .ok (.iload_n 1, 1) := by decide +kernel
theorem dX6_year_55 : decode cX6_year 55 = .ok (.istore 5, 2) := by decide +kernel
theorem dX6_year_57 : decode cX6_year 57 = .ok (.iconst 0, 1) := by decide +kernel
theorem dX6_year_58 : decode cX6_year 58 = .ok (.istore 6, 2) := by decide +kernel
theorem dX6_year_60 : decode cX6_year 60 = .ok (.iconst 0, 1) := by decide +kernel
theorem dX6_year_61 : decode cX6_year 61 = .ok (.istore 7, 2) := by decide +kernel
theorem dX6_year_63 : decode cX6_year 63 = .ok (.ldc 135, 2) := by decide +kernel
theorem dX6_year_65 : decode cX6_year 65 = .ok (.istore 8, 2) := by decide +kernel
theorem dX6_year_67 : decode cX6_year 67 = .ok (.iconst 0, 1) := by decide +kernel
theorem dX6_year_68 : decode cX6_year 68 = .ok (.istore 9, 2) := by decide +kernel
theorem dX6_year_70 : decode cX6_year 70 = .ok (.iload 9, 2) := by decide +kernel
theorem dX6_year_72 : decode cX6_year 72 = .ok (.iload_n 2, 1) := by decide +kernel
theorem dX6_year_73 : decode cX6_year 73 = .ok (.if_icmp .ge 120, 3) := by decide +kernel
theorem dX6_year_76 : decode cX6_year 76 = .ok (.ldc2_w 204, 3) := by decide +kernel
theorem dX6_year_79 : decode cX6_year 79 = .ok (.iload 5, 2) := by decide +kernel
theorem dX6_year_81 : decode cX6_year 81 = .ok (.i2l, 1) := by decide +kernel
theorem dX6_year_82 : decode cX6_year 82 = .ok (.lmul, 1) := by decide +kernel
theorem dX6_year_83 : decode cX6_year 83 = .ok (.ldc2_w 206, 3) := by decide +kernel
theorem dX6_year_86 : decode cX6_year 86 = .ok (.ladd, 1) := by decide +kernel
theorem dX6_year_87 : decode cX6_year 87 = .ok (.ldc2_w 208, 3) := by decide +kernel
theorem dX6_year_90 : decode cX6_year 90 = .ok (.lrem, 1) := by decide +kernel
theorem dX6_year_91 : decode cX6_year 91 = .ok (.l2i, 1) := by decide +kernel
theorem dX6_year_92 : decode cX6_year 92 = .ok (.istore 5, 2) := by decide +kernel
theorem dX6_year_94 : decode cX6_year 94 = .ok (.iload 5, 2) := by decide +kernel
theorem dX6_year_96 : decode cX6_year 96 = .ok (.bipush 8, 2) := by decide +kernel
theorem dX6_year_98 : decode cX6_year 98 = .ok (.irem, 1) := by decide +kernel
theorem dX6_year_99 : decode cX6_year 99 = .ok (.istore 10, 2) := by decide +kernel
theorem dX6_year_101 : decode cX6_year 101 = .ok (.iload 5, 2) := by decide +kernel
theorem dX6_year_103 : decode cX6_year 103 = .ok (.bipush 8, 2) := by decide +kernel
theorem dX6_year_105 : decode cX6_year 105 = .ok (.idiv, 1) := by decide +kernel
theorem dX6_year_106 : decode cX6_year 106 = .ok (.bipush 8, 2) := by decide +kernel
theorem dX6_year_108 : decode cX6_year 108 = .ok (.irem, 1) := by decide +kernel
theorem dX6_year_109 : decode cX6_year 109 = .ok (.istore 11, 2) := by decide +kernel
theorem dX6_year_111 : decode cX6_year 111 = .ok (.aload_n 0, 1) := by decide +kernel
theorem dX6_year_112 : decode cX6_year 112 = .ok (.iload 10, 2) := by decide +kernel
theorem dX6_year_114 : decode cX6_year 114 = .ok (.iload 11, 2) := by decide +kernel
theorem dX6_year_116 : decode cX6_year 116 = .ok (.invokevirtual 136, 3) := by decide +kernel
theorem dX6_year_119 : decode cX6_year 119 = .ok (.ifCond .eq 68, 3) := by decide +kernel
theorem dX6_year_122 : decode cX6_year 122 = .ok (.aload_n 0, 1) := by decide +kernel
theorem dX6_year_123 : decode cX6_year 123 = .ok (.iload 10, 2) := by decide +kernel
theorem dX6_year_125 : decode cX6_year 125 = .ok (.iload 11, 2) := by decide +kernel
theorem dX6_year_127 : decode cX6_year 127 = .ok (.invokevirtual 142, 3) := by decide +kernel
theorem dX6_year_130 : decode cX6_year 130 = .ok (.aload_n 0, 1) := by decide +kernel
theorem dX6_year_131 : decode cX6_year 131 = .ok (.iload_n 3, 1) := by decide +kernel
theorem dX6_year_132 : decode cX6_year 132 = .ok (.invokevirtual 149, 3) := by decide +kernel
theorem dX6_year_135 : decode cX6_year 135 = .ok (.istore 12, 2) := by decide +kernel
theorem dX6_year_137 : decode cX6_year 137 = .ok (.iinc 6 1, 3) := by decide +kernel
theorem dX6_year_140 : decode cX6_year 140 = .ok (.iload 7, 2) := by decide +kernel
theorem dX6_year_142 : decode cX6_year 142 = .ok (.iload 12, 2) := by decide +kernel
theorem dX6_year_144 : decode cX6_year 144 = .ok (.ldc 135, 2) := by decide +kernel
theorem dX6_year_146 : decode cX6_year 146 = .ok (.if_icmp .ge 21, 3) := by decide +kernel
theorem dX6_year_149 : decode cX6_year 149 = .ok (.iload 10, 2) := by decide +kernel
theorem dX6_year_151 : decode cX6_year 151 = .ok (.iload 4, 2) := by decide +kernel
theorem dX6_year_153 : decode cX6_year 153 = .ok (.if_icmp .eq 10, 3) := by decide +kernel
theorem dX6_year_156 : decode cX6_year 156 = .ok (.iload 11, 2) := by decide +kernel
theorem dX6_year_158 : decode cX6_year 158 = .ok (.iload 4, 2) := by decide +kernel
theorem dX6_year_160 : decode cX6_year 160 = .ok (.if_icmp .ne 7, 3) := by decide +kernel
theorem dX6_year_163 : decode cX6_year 163 = .ok (.iconst 1, 1) := by decide +kernel
theorem dX6_year_164 : decode cX6_year 164 = .ok (.goto 4, 3) := by decide +kernel
theorem dX6_year_167 : decode cX6_year 167 = .ok (.iconst 0, 1) := by decide +kernel
theorem dX6_year_168 : decode cX6_year 168 = .ok (.iadd, 1) := by decide +kernel
theorem dX6_year_169 : decode cX6_year 169 = .ok (.istore 7, 2) := by decide +kernel
theorem dX6_year_171 : decode cX6_year 171 = .ok (.iload 12, 2) := by decide +kernel
theorem dX6_year_173 : decode cX6_year 173 = .ok (.iload 8, 2) := by decide +kernel
theorem dX6_year_175 : decode cX6_year 175 = .ok (.if_icmp .ge 8, 3) := by decide +kernel
theorem dX6_year_178 : decode cX6_year 178 = .ok (.iload 12, 2) := by decide +kernel
theorem dX6_year_180 : decode cX6_year 180 = .ok (.goto 5, 3) := by decide +kernel
theorem dX6_year_183 : decode cX6_year 183 = .ok (.iload 8, 2) := by decide +kernel
theorem dX6_year_185 : decode cX6_year 185 = .ok (.istore 8, 2) := by decide +kernel
theorem dX6_year_187 : decode cX6_year 187 = .ok (.iinc 9 1, 3) := by decide +kernel
theorem dX6_year_190 : decode cX6_year 190 = .ok (.goto (-120), 3) := by decide +kernel
theorem dX6_year_193 : decode cX6_year 193 = .ok (.iload 4, 2) := by decide +kernel
theorem dX6_year_195 : decode cX6_year 195 = .ok (.iconst (-1), 1) := by decide +kernel
theorem dX6_year_196 : decode cX6_year 196 = .ok (.if_icmp .ne 8, 3) := by decide +kernel
theorem dX6_year_199 : decode cX6_year 199 = .ok (.iload 6, 2) := by decide +kernel
theorem dX6_year_201 : decode cX6_year 201 = .ok (.goto 29, 3) := by decide +kernel
theorem dX6_year_204 : decode cX6_year 204 = .ok (.iload 4, 2) := by decide +kernel
theorem dX6_year_206 : decode cX6_year 206 = .ok (.bipush 8, 2) := by decide +kernel
theorem dX6_year_208 : decode cX6_year 208 = .ok (.if_icmp .ge 8, 3) := by decide +kernel
theorem dX6_year_211 : decode cX6_year 211 = .ok (.iload 7, 2) := by decide +kernel
theorem dX6_year_213 : decode cX6_year 213 = .ok (.goto 17, 3) := by decide +kernel
theorem dX6_year_216 : decode cX6_year 216 = .ok (.iload 8, 2) := by decide +kernel
theorem dX6_year_218 : decode cX6_year 218 = .ok (.ldc 135, 2) := by decide +kernel
theorem dX6_year_220 : decode cX6_year 220 = .ok (.if_icmp .ne 8, 3) := by decide +kernel
theorem dX6_year_223 : decode cX6_year 223 = .ok (.bipush (-6), 2) := by decide +kernel
theorem dX6_year_225 : decode cX6_year 225 = .ok (.goto 5, 3) := by decide +kernel
theorem dX6_year_228 : decode cX6_year 228 = .ok (.iload 8, 2) := by decide +kernel
theorem dX6_year_230 : decode cX6_year 230 = .ok (.ireturn, 1) := by decide +kernel
theorem dX6_pass_0 : decode cX6_pass 0 = .ok (.aload_n 0, 1) := by decide +kernel
theorem dX6_pass_1 : decode cX6_pass 1 = .ok (.getfield 210, 3) := by decide +kernel
theorem dX6_pass_4 : decode cX6_pass 4 = .ok (.ifCond .eq 7, 3) := by decide +kernel
theorem dX6_pass_7 : decode cX6_pass 7 = .ok (.iload_n 1, 1) := by decide +kernel
theorem dX6_pass_8 : decode cX6_pass 8 = .ok (.goto 12, 3) := by decide +kernel
theorem dX6_pass_11 : decode cX6_pass 11 = .ok (.aload_n 0, 1) := by decide +kernel
theorem dX6_pass_12 : decode cX6_pass 12 = .ok (.getfield 31, 3) := by decide +kernel
theorem dX6_pass_15 : decode cX6_pass 15 = .ok (.aload_n 0, 1) := by decide +kernel
theorem dX6_pass_16 : decode cX6_pass 16 = .ok (.getfield 214, 3) := by decide +kernel
theorem dX6_pass_19 : decode cX6_pass 19 = .ok (.iaload, 1) := by decide +kernel
theorem dX6_pass_20 : decode cX6_pass 20 = .ok (.istore_n 2, 1) := by decide +kernel
theorem dX6_pass_21 : decode cX6_pass 21 = .ok (.aload_n 0, 1) := by decide +kernel
theorem dX6_pass_22 : decode cX6_pass 22 = .ok (.getfield 31, 3) := by decide +kernel
theorem dX6_pass_25 : decode cX6_pass 25 = .ok (.aload_n 0, 1) := by decide +kernel
theorem dX6_pass_26 : decode cX6_pass 26 = .ok (.getfield 214, 3) := by decide +kernel
theorem dX6_pass_29 : decode cX6_pass 29 = .ok (.iload_n 2, 1) := by decide +kernel
theorem dX6_pass_30 : decode cX6_pass 30 = .ok (.iastore, 1) := by decide +kernel
theorem dX6_pass_31 : decode cX6_pass 31 = .ok (.aload_n 0, 1) := by decide +kernel
theorem dX6_pass_32 : decode cX6_pass 32 = .ok (.dup, 1) := by decide +kernel
theorem dX6_pass_33 : decode cX6_pass 33 = .ok (.getfield 214, 3) := by decide +kernel
theorem dX6_pass_36 : decode cX6_pass 36 = .ok (.iconst 1, 1) := by decide +kernel
theorem dX6_pass_37 : decode cX6_pass 37 = .ok (.iadd, 1) := by decide +kernel
theorem dX6_pass_38 : decode cX6_pass 38 = .ok (.putfield 214, 3) := by decide +kernel
theorem dX6_pass_41 : decode cX6_pass 41 = .ok (.iload_n 2, 1) := by decide +kernel
theorem dX6_pass_42 : decode cX6_pass 42 = .ok (.ireturn, 1) := by decide +kernel
theorem dX6_passAll_0 : decode cX6_passAll 0 = .ok (.aload_n 0, 1) := by decide +kernel
theorem dX6_passAll_1 : decode cX6_passAll 1 = .ok (.aload_n 0, 1) := by decide +kernel
theorem dX6_passAll_2 : decode cX6_passAll 2 = .ok (.aload_n 0, 1) := by decide +kernel
theorem dX6_passAll_3 : decode cX6_passAll 3 = .ok (.getfield 54, 3) := by decide +kernel
theorem dX6_passAll_6 : decode cX6_passAll 6 = .ok (.invokevirtual 217, 3) := by decide +kernel
theorem dX6_passAll_9 : decode cX6_passAll 9 = .ok (.putfield 54, 3) := by decide +kernel
theorem dX6_passAll_12 : decode cX6_passAll 12 = .ok (.aload_n 0, 1) := by decide +kernel
theorem dX6_passAll_13 : decode cX6_passAll 13 = .ok (.aload_n 0, 1) := by decide +kernel
theorem dX6_passAll_14 : decode cX6_passAll 14 = .ok (.aload_n 0, 1) := by decide +kernel
theorem dX6_passAll_15 : decode cX6_passAll 15 = .ok (.getfield 38, 3) := by decide +kernel
theorem dX6_passAll_18 : decode cX6_passAll 18 = .ok (.invokevirtual 217, 3) := by decide +kernel
theorem dX6_passAll_21 : decode cX6_passAll 21 = .ok (.putfield 38, 3) := by decide +kernel
theorem dX6_passAll_24 : decode cX6_passAll 24 = .ok (.aload_n 0, 1) := by decide +kernel
theorem dX6_passAll_25 : decode cX6_passAll 25 = .ok (.aload_n 0, 1) := by decide +kernel
theorem dX6_passAll_26 : decode cX6_passAll 26 = .ok (.aload_n 0, 1) := by decide +kernel
theorem dX6_passAll_27 : decode cX6_passAll 27 = .ok (.getfield 42, 3) := by decide +kernel
theorem dX6_passAll_30 : decode cX6_passAll 30 = .ok (.invokevirtual 217, 3) := by decide +kernel
theorem dX6_passAll_33 : decode cX6_passAll 33 = .ok (.putfield 42, 3) := by decide +kernel
theorem dX6_passAll_36 : decode cX6_passAll 36 = .ok (.aload_n 0, 1) := by decide +kernel
theorem dX6_passAll_37 : decode cX6_passAll 37 = .ok (.aload_n 0, 1) := by decide +kernel
theorem dX6_passAll_38 : decode cX6_passAll 38 = .ok (.aload_n 0, 1) := by decide +kernel
theorem dX6_passAll_39 : decode cX6_passAll 39 = .ok (.getfield 45, 3) := by decide +kernel
theorem dX6_passAll_42 : decode cX6_passAll 42 = .ok (.invokevirtual 217, 3) := by decide +kernel
theorem dX6_passAll_45 : decode cX6_passAll 45 = .ok (.putfield 45, 3) := by decide +kernel
theorem dX6_passAll_48 : decode cX6_passAll 48 = .ok (.iconst 0, 1) := by decide +kernel
theorem dX6_passAll_49 : decode cX6_passAll 49 = .ok (.istore_n 1, 1) := by decide +kernel
theorem dX6_passAll_50 : decode cX6_passAll 50 = .ok (.iload_n 1, 1) := by decide +kernel
theorem dX6_passAll_51 : decode cX6_passAll 51 = .ok (.bipush 8, 2) := by decide +kernel
theorem dX6_passAll_53 : decode cX6_passAll 53 = .ok (.if_icmp .ge 57, 3) := by decide +kernel
theorem dX6_passAll_56 : decode cX6_passAll 56 = .ok (.aload_n 0, 1) := by decide +kernel
theorem dX6_passAll_57 : decode cX6_passAll 57 = .ok (.getfield 7, 3) := by decide +kernel
theorem dX6_passAll_60 : decode cX6_passAll 60 = .ok (.iload_n 1, 1) := by decide +kernel
theorem dX6_passAll_61 : decode cX6_passAll 61 = .ok (.aload_n 0, 1) := by decide +kernel
theorem dX6_passAll_62 : decode cX6_passAll 62 = .ok (.aload_n 0, 1) := by decide +kernel
theorem dX6_passAll_63 : decode cX6_passAll 63 = .ok (.getfield 7, 3) := by decide +kernel
theorem dX6_passAll_66 : decode cX6_passAll 66 = .ok (.iload_n 1, 1) := by decide +kernel
theorem dX6_passAll_67 : decode cX6_passAll 67 = .ok (.iaload, 1) := by decide +kernel
theorem dX6_passAll_68 : decode cX6_passAll 68 = .ok (.invokevirtual 217, 3) := by decide +kernel
theorem dX6_passAll_71 : decode cX6_passAll 71 = .ok (.iastore, 1) := by decide +kernel
theorem dX6_passAll_72 : decode cX6_passAll 72 = .ok (.aload_n 0, 1) := by decide +kernel
theorem dX6_passAll_73 : decode cX6_passAll 73 = .ok (.getfield 13, 3) := by decide +kernel
theorem dX6_passAll_76 : decode cX6_passAll 76 = .ok (.iload_n 1, 1) := by decide +kernel
theorem dX6_passAll_77 : decode cX6_passAll 77 = .ok (.aload_n 0, 1) := by decide +kernel
theorem dX6_passAll_78 : decode cX6_passAll 78 = .ok (.aload_n 0, 1) := by decide +kernel
theorem dX6_passAll_79 : decode cX6_passAll 79 = .ok (.getfield 13, 3) := by decide +kernel
theorem dX6_passAll_82 : decode cX6_passAll 82 = .ok (.iload_n 1, 1) := by decide +kernel
theorem dX6_passAll_83 : decode cX6_passAll 83 = .ok (.iaload, 1) := by decide +kernel
theorem dX6_passAll_84 : decode cX6_passAll 84 = .ok (.invokevirtual 217, 3) := by decide +kernel
theorem dX6_passAll_87 : decode cX6_passAll 87 = .ok (.iastore, 1) := by decide +kernel
theorem dX6_passAll_88 : decode cX6_passAll 88 = .ok (.aload_n 0, 1) := by decide +kernel
theorem dX6_passAll_89 : decode cX6_passAll 89 = .ok (.getfield 16, 3) := by decide +kernel
theorem dX6_passAll_92 : decode cX6_passAll 92 = .ok (.iload_n 1, 1) := by decide +kernel
theorem dX6_passAll_93 : decode cX6_passAll 93 = .ok (.aload_n 0, 1) := by decide +kernel
theorem dX6_passAll_94 : decode cX6_passAll 94 = .ok (.aload_n 0, 1) := by decide +kernel
theorem dX6_passAll_95 : decode cX6_passAll 95 = .ok (.getfield 16, 3) := by decide +kernel
theorem dX6_passAll_98 : decode cX6_passAll 98 = .ok (.iload_n 1, 1) := by decide +kernel
theorem dX6_passAll_99 : decode cX6_passAll 99 = .ok (.iaload, 1) := by decide +kernel
theorem dX6_passAll_100 : decode cX6_passAll 100 = .ok (.invokevirtual 217, 3) := by decide +kernel
theorem dX6_passAll_103 : decode cX6_passAll 103 = .ok (.iastore, 1) := by decide +kernel
theorem dX6_passAll_104 : decode cX6_passAll 104 = .ok (.iinc 1 1, 3) := by decide +kernel
theorem dX6_passAll_107 : decode cX6_passAll 107 = .ok (.goto (-57), 3) := by decide +kernel
theorem dX6_passAll_110 : decode cX6_passAll 110 = .ok (.return_, 1) := by decide +kernel
theorem dX6_image_0 : decode cX6_image 0 = .ok (.iload_n 1, 1) := by decide +kernel
theorem dX6_image_1 : decode cX6_image 1 = .ok (.i2l, 1) := by decide +kernel
theorem dX6_image_2 : decode cX6_image 2 = .ok (.lconst 0, 1) := by decide +kernel
theorem dX6_image_3 : decode cX6_image 3 = .ok (.lconst 1, 1) := by decide +kernel
theorem dX6_image_4 : decode cX6_image 4 = .ok (.invokestatic 50, 3) := by decide +kernel
theorem dX6_image_7 : decode cX6_image 7 = .ok (.ifCond .ne 6, 3) := by decide +kernel
theorem dX6_image_10 : decode cX6_image 10 = .ok (.bipush (-2), 2) := by decide +kernel
theorem dX6_image_12 : decode cX6_image 12 = .ok (.ireturn, 1) := by decide +kernel
theorem dX6_image_13 : decode cX6_image 13 = .ok (.aload_n 0, 1) := by decide +kernel
theorem dX6_image_14 : decode cX6_image 14 = .ok (.bipush 40, 2) := by decide +kernel
theorem dX6_image_16 : decode cX6_image 16 = .ok (.iload_n 1, 1) := by decide +kernel
theorem dX6_image_17 : decode cX6_image 17 = .ok (.imul, 1) := by decide +kernel
theorem dX6_image_18 : decode cX6_image 18 = .ok (.putfield 214, 3) := by decide +kernel
theorem dX6_image_21 : decode cX6_image 21 = .ok (.aload_n 0, 1) := by decide +kernel
theorem dX6_image_22 : decode cX6_image 22 = .ok (.iconst 1, 1) := by decide +kernel
theorem dX6_image_23 : decode cX6_image 23 = .ok (.putfield 210, 3) := by decide +kernel
theorem dX6_image_26 : decode cX6_image 26 = .ok (.aload_n 0, 1) := by decide +kernel
theorem dX6_image_27 : decode cX6_image 27 = .ok (.invokevirtual 220, 3) := by decide +kernel
theorem dX6_image_30 : decode cX6_image 30 = .ok (.aload_n 0, 1) := by decide +kernel
theorem dX6_image_31 : decode cX6_image 31 = .ok (.getfield 34, 3) := by decide +kernel
theorem dX6_image_34 : decode cX6_image 34 = .ok (.iload_n 1, 1) := by decide +kernel
theorem dX6_image_35 : decode cX6_image 35 = .ok (.iconst 1, 1) := by decide +kernel
theorem dX6_image_36 : decode cX6_image 36 = .ok (.bastore, 1) := by decide +kernel
theorem dX6_image_37 : decode cX6_image 37 = .ok (.iconst 1, 1) := by decide +kernel
theorem dX6_image_38 : decode cX6_image 38 = .ok (.ireturn, 1) := by decide +kernel
theorem dX6_restore_0 : decode cX6_restore 0 = .ok (.iload_n 1, 1) := by decide +kernel
theorem dX6_restore_1 : decode cX6_restore 1 = .ok (.i2l, 1) := by decide +kernel
theorem dX6_restore_2 : decode cX6_restore 2 = .ok (.lconst 0, 1) := by decide +kernel
theorem dX6_restore_3 : decode cX6_restore 3 = .ok (.lconst 1, 1) := by decide +kernel
theorem dX6_restore_4 : decode cX6_restore 4 = .ok (.invokestatic 50, 3) := by decide +kernel
theorem dX6_restore_7 : decode cX6_restore 7 = .ok (.ifCond .ne 6, 3) := by decide +kernel
theorem dX6_restore_10 : decode cX6_restore 10 = .ok (.bipush (-2), 2) := by decide +kernel
theorem dX6_restore_12 : decode cX6_restore 12 = .ok (.ireturn, 1) := by decide +kernel
theorem dX6_restore_13 : decode cX6_restore 13 = .ok (.aload_n 0, 1) := by decide +kernel
theorem dX6_restore_14 : decode cX6_restore 14 = .ok (.getfield 34, 3) := by decide +kernel
theorem dX6_restore_17 : decode cX6_restore 17 = .ok (.iload_n 1, 1) := by decide +kernel
theorem dX6_restore_18 : decode cX6_restore 18 = .ok (.baload, 1) := by decide +kernel
theorem dX6_restore_19 : decode cX6_restore 19 = .ok (.ifCond .ne 6, 3) := by decide +kernel
theorem dX6_restore_22 : decode cX6_restore 22 = .ok (.bipush (-3), 2) := by decide +kernel
theorem dX6_restore_24 : decode cX6_restore 24 = .ok (.ireturn, 1) := by decide +kernel
theorem dX6_restore_25 : decode cX6_restore 25 = .ok (.aload_n 0, 1) := by decide +kernel
theorem dX6_restore_26 : decode cX6_restore 26 = .ok (.bipush 40, 2) := by decide +kernel
theorem dX6_restore_28 : decode cX6_restore 28 = .ok (.iload_n 1, 1) := by decide +kernel
theorem dX6_restore_29 : decode cX6_restore 29 = .ok (.imul, 1) := by decide +kernel
theorem dX6_restore_30 : decode cX6_restore 30 = .ok (.putfield 214, 3) := by decide +kernel
theorem dX6_restore_33 : decode cX6_restore 33 = .ok (.aload_n 0, 1) := by decide +kernel
theorem dX6_restore_34 : decode cX6_restore 34 = .ok (.iconst 0, 1) := by decide +kernel
theorem dX6_restore_35 : decode cX6_restore 35 = .ok (.putfield 210, 3) := by decide +kernel
theorem dX6_restore_38 : decode cX6_restore 38 = .ok (.aload_n 0, 1) := by decide +kernel
theorem dX6_restore_39 : decode cX6_restore 39 = .ok (.invokevirtual 220, 3) := by decide +kernel
theorem dX6_restore_42 : decode cX6_restore 42 = .ok (.iconst 1, 1) := by decide +kernel
theorem dX6_restore_43 : decode cX6_restore 43 = .ok (.ireturn, 1) := by decide +kernel
theorem dX6_told_0 : decode cX6_told 0 = .ok (.iload_n 1, 1) := by decide +kernel
theorem dX6_told_1 : decode cX6_told 1 = .ok (.i2l, 1) := by decide +kernel
theorem dX6_told_2 : decode cX6_told 2 = .ok (.ldc2_w 223, 3) := by decide +kernel
theorem dX6_told_5 : decode cX6_told 5 = .ok (.ldc2_w 225, 3) := by decide +kernel
theorem dX6_told_8 : decode cX6_told 8 = .ok (.invokestatic 50, 3) := by decide +kernel
theorem dX6_told_11 : decode cX6_told 11 = .ok (.ifCond .eq 67, 3) := by decide +kernel
theorem dX6_told_14 : decode cX6_told 14 = .ok (.iload_n 1, 1) := by decide +kernel
theorem dX6_told_15 : decode cX6_told 15 = .ok (.bipush 10, 2) := by decide +kernel
theorem dX6_told_17 : decode cX6_told 17 = .ok (.idiv, 1) := by decide +kernel
theorem dX6_told_18 : decode cX6_told 18 = .ok (.iconst 1, 1) := by decide +kernel
theorem dX6_told_19 : decode cX6_told 19 = .ok (.isub, 1) := by decide +kernel
theorem dX6_told_20 : decode cX6_told 20 = .ok (.istore_n 2, 1) := by decide +kernel
theorem dX6_told_21 : decode cX6_told 21 = .ok (.iload_n 1, 1) := by decide +kernel
theorem dX6_told_22 : decode cX6_told 22 = .ok (.bipush 10, 2) := by decide +kernel
theorem dX6_told_24 : decode cX6_told 24 = .ok (.irem, 1) := by decide +kernel
theorem dX6_told_25 : decode cX6_told 25 = .ok (.istore_n 3, 1) := by decide +kernel
theorem dX6_told_26 : decode cX6_told 26 = .ok (.aload_n 0, 1) := by decide +kernel
theorem dX6_told_27 : decode cX6_told 27 = .ok (.iload_n 2, 1) := by decide +kernel
theorem dX6_told_28 : decode cX6_told 28 = .ok (.invokevirtual 67, 3) := by decide +kernel
theorem dX6_told_31 : decode cX6_told 31 = .ok (.ifCond .eq 8, 3) := by decide +kernel
theorem dX6_told_34 : decode cX6_told 34 = .ok (.iload_n 3, 1) := by decide +kernel
theorem dX6_told_35 : decode cX6_told 35 = .ok (.iconst 2, 1) := by decide +kernel
theorem dX6_told_36 : decode cX6_told 36 = .ok (.if_icmp .le 8, 3) := by decide +kernel
theorem dX6_told_39 : decode cX6_told 39 = .ok (.bipush (-2), 2) := by decide +kernel
theorem dX6_told_41 : decode cX6_told 41 = .ok (.goto 36, 3) := by decide +kernel
theorem dX6_told_44 : decode cX6_told 44 = .ok (.iload_n 3, 1) := by decide +kernel
theorem dX6_told_45 : decode cX6_told 45 = .ok (.ifCond .ne 12, 3) := by decide +kernel
theorem dX6_told_48 : decode cX6_told 48 = .ok (.aload_n 0, 1) := by decide +kernel
theorem dX6_told_49 : decode cX6_told 49 = .ok (.getfield 7, 3) := by decide +kernel
theorem dX6_told_52 : decode cX6_told 52 = .ok (.iload_n 2, 1) := by decide +kernel
theorem dX6_told_53 : decode cX6_told 53 = .ok (.iaload, 1) := by decide +kernel
theorem dX6_told_54 : decode cX6_told 54 = .ok (.goto 23, 3) := by decide +kernel
theorem dX6_told_57 : decode cX6_told 57 = .ok (.iload_n 3, 1) := by decide +kernel
theorem dX6_told_58 : decode cX6_told 58 = .ok (.iconst 1, 1) := by decide +kernel
theorem dX6_told_59 : decode cX6_told 59 = .ok (.if_icmp .ne 12, 3) := by decide +kernel
theorem dX6_told_62 : decode cX6_told 62 = .ok (.aload_n 0, 1) := by decide +kernel
theorem dX6_told_63 : decode cX6_told 63 = .ok (.getfield 13, 3) := by decide +kernel
theorem dX6_told_66 : decode cX6_told 66 = .ok (.iload_n 2, 1) := by decide +kernel
theorem dX6_told_67 : decode cX6_told 67 = .ok (.iaload, 1) := by decide +kernel
theorem dX6_told_68 : decode cX6_told 68 = .ok (.goto 9, 3) := by decide +kernel
theorem dX6_told_71 : decode cX6_told 71 = .ok (.aload_n 0, 1) := by decide +kernel
theorem dX6_told_72 : decode cX6_told 72 = .ok (.getfield 16, 3) := by decide +kernel
theorem dX6_told_75 : decode cX6_told 75 = .ok (.iload_n 2, 1) := by decide +kernel
theorem dX6_told_76 : decode cX6_told 76 = .ok (.iaload, 1) := by decide +kernel
theorem dX6_told_77 : decode cX6_told 77 = .ok (.ireturn, 1) := by decide +kernel
theorem dX6_told_78 : decode cX6_told 78 = .ok (.iload_n 1, 1) := by decide +kernel
theorem dX6_told_79 : decode cX6_told 79 = .ok (.tableswitch 58 0 4 #[33, 38, 43, 48, 53], 33) := by decide +kernel
theorem dX6_told_112 : decode cX6_told 112 = .ok (.aload_n 0, 1) := by decide +kernel
theorem dX6_told_113 : decode cX6_told 113 = .ok (.getfield 190, 3) := by decide +kernel
theorem dX6_told_116 : decode cX6_told 116 = .ok (.ireturn, 1) := by decide +kernel
theorem dX6_told_117 : decode cX6_told 117 = .ok (.aload_n 0, 1) := by decide +kernel
theorem dX6_told_118 : decode cX6_told 118 = .ok (.getfield 54, 3) := by decide +kernel
theorem dX6_told_121 : decode cX6_told 121 = .ok (.ireturn, 1) := by decide +kernel
theorem dX6_told_122 : decode cX6_told 122 = .ok (.aload_n 0, 1) := by decide +kernel
theorem dX6_told_123 : decode cX6_told 123 = .ok (.getfield 38, 3) := by decide +kernel
theorem dX6_told_126 : decode cX6_told 126 = .ok (.ireturn, 1) := by decide +kernel
theorem dX6_told_127 : decode cX6_told 127 = .ok (.aload_n 0, 1) := by decide +kernel
theorem dX6_told_128 : decode cX6_told 128 = .ok (.getfield 42, 3) := by decide +kernel
theorem dX6_told_131 : decode cX6_told 131 = .ok (.ireturn, 1) := by decide +kernel
theorem dX6_told_132 : decode cX6_told 132 = .ok (.aload_n 0, 1) := by decide +kernel
theorem dX6_told_133 : decode cX6_told 133 = .ok (.getfield 45, 3) := by decide +kernel
theorem dX6_told_136 : decode cX6_told 136 = .ok (.ireturn, 1) := by decide +kernel
theorem dX6_told_137 : decode cX6_told 137 = .ok (.bipush (-2), 2) := by decide +kernel
theorem dX6_told_139 : decode cX6_told 139 = .ok (.ireturn, 1) := by decide +kernel
theorem dJ6_bitCount_0f7a4_0 : decode cJ6_bitCount_0f7a4 0 = .ok (.iload_n 0, 1) := by decide +kernel
theorem dJ6_bitCount_0f7a4_1 : decode cJ6_bitCount_0f7a4 1 = .ok (.iload_n 0, 1) := by decide +kernel
theorem dJ6_bitCount_0f7a4_2 : decode cJ6_bitCount_0f7a4 2 = .ok (.iconst 1, 1) := by decide +kernel
theorem dJ6_bitCount_0f7a4_3 : decode cJ6_bitCount_0f7a4 3 = .ok (.iushr, 1) := by decide +kernel
theorem dJ6_bitCount_0f7a4_4 : decode cJ6_bitCount_0f7a4 4 = .ok (.ldc_w 265, 3) := by decide +kernel
theorem dJ6_bitCount_0f7a4_7 : decode cJ6_bitCount_0f7a4 7 = .ok (.iand, 1) := by decide +kernel
theorem dJ6_bitCount_0f7a4_8 : decode cJ6_bitCount_0f7a4 8 = .ok (.isub, 1) := by decide +kernel
theorem dJ6_bitCount_0f7a4_9 : decode cJ6_bitCount_0f7a4 9 = .ok (.istore_n 0, 1) := by decide +kernel
theorem dJ6_bitCount_0f7a4_10 : decode cJ6_bitCount_0f7a4 10 = .ok (.iload_n 0, 1) := by decide +kernel
theorem dJ6_bitCount_0f7a4_11 : decode cJ6_bitCount_0f7a4 11 = .ok (.ldc_w 266, 3) := by decide +kernel
theorem dJ6_bitCount_0f7a4_14 : decode cJ6_bitCount_0f7a4 14 = .ok (.iand, 1) := by decide +kernel
theorem dJ6_bitCount_0f7a4_15 : decode cJ6_bitCount_0f7a4 15 = .ok (.iload_n 0, 1) := by decide +kernel
theorem dJ6_bitCount_0f7a4_16 : decode cJ6_bitCount_0f7a4 16 = .ok (.iconst 2, 1) := by decide +kernel
theorem dJ6_bitCount_0f7a4_17 : decode cJ6_bitCount_0f7a4 17 = .ok (.iushr, 1) := by decide +kernel
theorem dJ6_bitCount_0f7a4_18 : decode cJ6_bitCount_0f7a4 18 = .ok (.ldc_w 266, 3) := by decide +kernel
theorem dJ6_bitCount_0f7a4_21 : decode cJ6_bitCount_0f7a4 21 = .ok (.iand, 1) := by decide +kernel
theorem dJ6_bitCount_0f7a4_22 : decode cJ6_bitCount_0f7a4 22 = .ok (.iadd, 1) := by decide +kernel
theorem dJ6_bitCount_0f7a4_23 : decode cJ6_bitCount_0f7a4 23 = .ok (.istore_n 0, 1) := by decide +kernel
theorem dJ6_bitCount_0f7a4_24 : decode cJ6_bitCount_0f7a4 24 = .ok (.iload_n 0, 1) := by decide +kernel
theorem dJ6_bitCount_0f7a4_25 : decode cJ6_bitCount_0f7a4 25 = .ok (.iload_n 0, 1) := by decide +kernel
theorem dJ6_bitCount_0f7a4_26 : decode cJ6_bitCount_0f7a4 26 = .ok (.iconst 4, 1) := by decide +kernel
theorem dJ6_bitCount_0f7a4_27 : decode cJ6_bitCount_0f7a4 27 = .ok (.iushr, 1) := by decide +kernel
theorem dJ6_bitCount_0f7a4_28 : decode cJ6_bitCount_0f7a4 28 = .ok (.iadd, 1) := by decide +kernel
theorem dJ6_bitCount_0f7a4_29 : decode cJ6_bitCount_0f7a4 29 = .ok (.ldc_w 267, 3) := by decide +kernel
theorem dJ6_bitCount_0f7a4_32 : decode cJ6_bitCount_0f7a4 32 = .ok (.iand, 1) := by decide +kernel
theorem dJ6_bitCount_0f7a4_33 : decode cJ6_bitCount_0f7a4 33 = .ok (.istore_n 0, 1) := by decide +kernel
theorem dJ6_bitCount_0f7a4_34 : decode cJ6_bitCount_0f7a4 34 = .ok (.iload_n 0, 1) := by decide +kernel
theorem dJ6_bitCount_0f7a4_35 : decode cJ6_bitCount_0f7a4 35 = .ok (.iload_n 0, 1) := by decide +kernel
theorem dJ6_bitCount_0f7a4_36 : decode cJ6_bitCount_0f7a4 36 = .ok (.bipush 8, 2) := by decide +kernel
theorem dJ6_bitCount_0f7a4_38 : decode cJ6_bitCount_0f7a4 38 = .ok (.iushr, 1) := by decide +kernel
theorem dJ6_bitCount_0f7a4_39 : decode cJ6_bitCount_0f7a4 39 = .ok (.iadd, 1) := by decide +kernel
theorem dJ6_bitCount_0f7a4_40 : decode cJ6_bitCount_0f7a4 40 = .ok (.istore_n 0, 1) := by decide +kernel
theorem dJ6_bitCount_0f7a4_41 : decode cJ6_bitCount_0f7a4 41 = .ok (.iload_n 0, 1) := by decide +kernel
theorem dJ6_bitCount_0f7a4_42 : decode cJ6_bitCount_0f7a4 42 = .ok (.iload_n 0, 1) := by decide +kernel
theorem dJ6_bitCount_0f7a4_43 : decode cJ6_bitCount_0f7a4 43 = .ok (.bipush 16, 2) := by decide +kernel
theorem dJ6_bitCount_0f7a4_45 : decode cJ6_bitCount_0f7a4 45 = .ok (.iushr, 1) := by decide +kernel
theorem dJ6_bitCount_0f7a4_46 : decode cJ6_bitCount_0f7a4 46 = .ok (.iadd, 1) := by decide +kernel
theorem dJ6_bitCount_0f7a4_47 : decode cJ6_bitCount_0f7a4 47 = .ok (.istore_n 0, 1) := by decide +kernel
theorem dJ6_bitCount_0f7a4_48 : decode cJ6_bitCount_0f7a4 48 = .ok (.iload_n 0, 1) := by decide +kernel
theorem dJ6_bitCount_0f7a4_49 : decode cJ6_bitCount_0f7a4 49 = .ok (.bipush 63, 2) := by decide +kernel
theorem dJ6_bitCount_0f7a4_51 : decode cJ6_bitCount_0f7a4 51 = .ok (.iand, 1) := by decide +kernel
theorem dJ6_bitCount_0f7a4_52 : decode cJ6_bitCount_0f7a4 52 = .ok (.ireturn, 1) := by decide +kernel
