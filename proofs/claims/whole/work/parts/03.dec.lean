theorem dX0_init_0 : decode cX0_init 0 = .ok (.aload_n 0, 1) := by decide +kernel
theorem dX0_init_1 : decode cX0_init 1 = .ok (.invokespecial 3, 3) := by decide +kernel
theorem dX0_init_4 : decode cX0_init 4 = .ok (.aload_n 0, 1) := by decide +kernel
theorem dX0_init_5 : decode cX0_init 5 = .ok (.bipush 14, 2) := by decide +kernel
theorem dX0_init_7 : decode cX0_init 7 = .ok (.anewarray 9, 3) := by decide +kernel
theorem dX0_init_10 : decode cX0_init 10 = .ok (.putfield 11, 3) := by decide +kernel
theorem dX0_init_13 : decode cX0_init 13 = .ok (.iconst 0, 1) := by decide +kernel
theorem dX0_init_14 : decode cX0_init 14 = .ok (.istore_n 1, 1) := by decide +kernel
theorem dX0_init_15 : decode cX0_init 15 = .ok (.iload_n 1, 1) := by decide +kernel
theorem dX0_init_16 : decode cX0_init 16 = .ok (.bipush 14, 2) := by decide +kernel
theorem dX0_init_18 : decode cX0_init 18 = .ok (.if_icmp .ge 22, 3) := by decide +kernel
theorem dX0_init_21 : decode cX0_init 21 = .ok (.aload_n 0, 1) := by decide +kernel
theorem dX0_init_22 : decode cX0_init 22 = .ok (.getfield 11, 3) := by decide +kernel
theorem dX0_init_25 : decode cX0_init 25 = .ok (.iload_n 1, 1) := by decide +kernel
theorem dX0_init_26 : decode cX0_init 26 = .ok (.new 9, 3) := by decide +kernel
theorem dX0_init_29 : decode cX0_init 29 = .ok (.dup, 1) := by decide +kernel
theorem dX0_init_30 : decode cX0_init 30 = .ok (.invokespecial 17, 3) := by decide +kernel
theorem dX0_init_33 : decode cX0_init 33 = .ok (.aastore, 1) := by decide +kernel
theorem dX0_init_34 : decode cX0_init 34 = .ok (.iinc 1 1, 3) := by decide +kernel
theorem dX0_init_37 : decode cX0_init 37 = .ok (.goto (-22), 3) := by decide +kernel
theorem dX0_init_40 : decode cX0_init 40 = .ok (.return_, 1) := by decide +kernel
theorem dX0_remember_0 : decode cX0_remember 0 = .ok (.aload_n 0, 1) := by decide +kernel
theorem dX0_remember_1 : decode cX0_remember 1 = .ok (.getfield 18, 3) := by decide +kernel
theorem dX0_remember_4 : decode cX0_remember 4 = .ok (.bipush 14, 2) := by decide +kernel
theorem dX0_remember_6 : decode cX0_remember 6 = .ok (.if_icmp .lt 22, 3) := by decide +kernel
theorem dX0_remember_9 : decode cX0_remember 9 = .ok (.aload_n 0, 1) := by decide +kernel
theorem dX0_remember_10 : decode cX0_remember 10 = .ok (.aload_n 0, 1) := by decide +kernel
theorem dX0_remember_11 : decode cX0_remember 11 = .ok (.getfield 22, 3) := by decide +kernel
theorem dX0_remember_14 : decode cX0_remember 14 = .ok (.iconst 1, 1) := by decide +kernel
theorem dX0_remember_15 : decode cX0_remember 15 = .ok (.iadd, 1) := by decide +kernel
theorem dX0_remember_16 : decode cX0_remember 16 = .ok (.bipush 14, 2) := by decide +kernel
theorem dX0_remember_18 : decode cX0_remember 18 = .ok (.irem, 1) := by decide +kernel
theorem dX0_remember_19 : decode cX0_remember 19 = .ok (.putfield 22, 3) := by decide +kernel
theorem dX0_remember_22 : decode cX0_remember 22 = .ok (.aload_n 0, 1) := by decide +kernel
theorem dX0_remember_23 : decode cX0_remember 23 = .ok (.bipush 13, 2) := by decide +kernel
theorem dX0_remember_25 : decode cX0_remember 25 = .ok (.putfield 18, 3) := by decide +kernel
theorem dX0_remember_28 : decode cX0_remember 28 = .ok (.aload_n 0, 1) := by decide +kernel
theorem dX0_remember_29 : decode cX0_remember 29 = .ok (.getfield 11, 3) := by decide +kernel
theorem dX0_remember_32 : decode cX0_remember 32 = .ok (.aload_n 0, 1) := by decide +kernel
theorem dX0_remember_33 : decode cX0_remember 33 = .ok (.getfield 22, 3) := by decide +kernel
theorem dX0_remember_36 : decode cX0_remember 36 = .ok (.aload_n 0, 1) := by decide +kernel
theorem dX0_remember_37 : decode cX0_remember 37 = .ok (.getfield 18, 3) := by decide +kernel
theorem dX0_remember_40 : decode cX0_remember 40 = .ok (.iadd, 1) := by decide +kernel
theorem dX0_remember_41 : decode cX0_remember 41 = .ok (.bipush 14, 2) := by decide +kernel
theorem dX0_remember_43 : decode cX0_remember 43 = .ok (.irem, 1) := by decide +kernel
theorem dX0_remember_44 : decode cX0_remember 44 = .ok (.aaload, 1) := by decide +kernel
theorem dX0_remember_45 : decode cX0_remember 45 = .ok (.aload_n 1, 1) := by decide +kernel
theorem dX0_remember_46 : decode cX0_remember 46 = .ok (.invokevirtual 25, 3) := by decide +kernel
theorem dX0_remember_49 : decode cX0_remember 49 = .ok (.aload_n 0, 1) := by decide +kernel
theorem dX0_remember_50 : decode cX0_remember 50 = .ok (.dup, 1) := by decide +kernel
theorem dX0_remember_51 : decode cX0_remember 51 = .ok (.getfield 18, 3) := by decide +kernel
theorem dX0_remember_54 : decode cX0_remember 54 = .ok (.iconst 1, 1) := by decide +kernel
theorem dX0_remember_55 : decode cX0_remember 55 = .ok (.iadd, 1) := by decide +kernel
theorem dX0_remember_56 : decode cX0_remember 56 = .ok (.putfield 18, 3) := by decide +kernel
theorem dX0_remember_59 : decode cX0_remember 59 = .ok (.return_, 1) := by decide +kernel
theorem dX0_takeBack_0 : decode cX0_takeBack 0 = .ok (.aload_n 0, 1) := by decide +kernel
theorem dX0_takeBack_1 : decode cX0_takeBack 1 = .ok (.getfield 18, 3) := by decide +kernel
theorem dX0_takeBack_4 : decode cX0_takeBack 4 = .ok (.ifCond .gt 5, 3) := by decide +kernel
theorem dX0_takeBack_7 : decode cX0_takeBack 7 = .ok (.iconst 0, 1) := by decide +kernel
theorem dX0_takeBack_8 : decode cX0_takeBack 8 = .ok (.ireturn, 1) := by decide +kernel
theorem dX0_takeBack_9 : decode cX0_takeBack 9 = .ok (.aload_n 0, 1) := by decide +kernel
theorem dX0_takeBack_10 : decode cX0_takeBack 10 = .ok (.dup, 1) := by decide +kernel
theorem dX0_takeBack_11 : decode cX0_takeBack 11 = .ok (.getfield 18, 3) := by decide +kernel
theorem dX0_takeBack_14 : decode cX0_takeBack 14 = .ok (.iconst 1, 1) := by decide +kernel
theorem dX0_takeBack_15 : decode cX0_takeBack 15 = .ok (.isub, 1) := by decide +kernel
theorem dX0_takeBack_16 : decode cX0_takeBack 16 = .ok (.putfield 18, 3) := by decide +kernel
theorem dX0_takeBack_19 : decode cX0_takeBack 19 = .ok (.aload_n 1, 1) := by decide +kernel
theorem dX0_takeBack_20 : decode cX0_takeBack 20 = .ok (.aload_n 0, 1) := by decide +kernel
theorem dX0_takeBack_21 : decode cX0_takeBack 21 = .ok (.getfield 11, 3) := by decide +kernel
theorem dX0_takeBack_24 : decode cX0_takeBack 24 = .ok (.aload_n 0, 1) := by decide +kernel
theorem dX0_takeBack_25 : decode cX0_takeBack 25 = .ok (.getfield 22, 3) := by decide +kernel
theorem dX0_takeBack_28 : decode cX0_takeBack 28 = .ok (.aload_n 0, 1) := by decide +kernel
theorem dX0_takeBack_29 : decode cX0_takeBack 29 = .ok (.getfield 18, 3) := by decide +kernel
theorem dX0_takeBack_32 : decode cX0_takeBack 32 = .ok (.iadd, 1) := by decide +kernel
theorem dX0_takeBack_33 : decode cX0_takeBack 33 = .ok (.bipush 14, 2) := by decide +kernel
theorem dX0_takeBack_35 : decode cX0_takeBack 35 = .ok (.irem, 1) := by decide +kernel
theorem dX0_takeBack_36 : decode cX0_takeBack 36 = .ok (.aaload, 1) := by decide +kernel
theorem dX0_takeBack_37 : decode cX0_takeBack 37 = .ok (.invokevirtual 25, 3) := by decide +kernel
theorem dX0_takeBack_40 : decode cX0_takeBack 40 = .ok (.iconst 1, 1) := by decide +kernel
theorem dX0_takeBack_41 : decode cX0_takeBack 41 = .ok (.ireturn, 1) := by decide +kernel
theorem dX0_forgetAll_0 : decode cX0_forgetAll 0 = .ok (.aload_n 0, 1) := by decide +kernel
theorem dX0_forgetAll_1 : decode cX0_forgetAll 1 = .ok (.iconst 0, 1) := by decide +kernel
theorem dX0_forgetAll_2 : decode cX0_forgetAll 2 = .ok (.putfield 18, 3) := by decide +kernel
theorem dX0_forgetAll_5 : decode cX0_forgetAll 5 = .ok (.return_, 1) := by decide +kernel
theorem dX1_init_0 : decode cX1_init 0 = .ok (.aload_n 0, 1) := by decide +kernel
theorem dX1_init_1 : decode cX1_init 1 = .ok (.invokespecial 3, 3) := by decide +kernel
theorem dX1_init_4 : decode cX1_init 4 = .ok (.aload_n 0, 1) := by decide +kernel
theorem dX1_init_5 : decode cX1_init 5 = .ok (.bipush 8, 2) := by decide +kernel
theorem dX1_init_7 : decode cX1_init 7 = .ok (.newarray .int, 2) := by decide +kernel
theorem dX1_init_9 : decode cX1_init 9 = .ok (.putfield 9, 3) := by decide +kernel
theorem dX1_init_12 : decode cX1_init 12 = .ok (.aload_n 0, 1) := by decide +kernel
theorem dX1_init_13 : decode cX1_init 13 = .ok (.iconst 1, 1) := by decide +kernel
theorem dX1_init_14 : decode cX1_init 14 = .ok (.putfield 15, 3) := by decide +kernel
theorem dX1_init_17 : decode cX1_init 17 = .ok (.aload_n 0, 1) := by decide +kernel
theorem dX1_init_18 : decode cX1_init 18 = .ok (.iconst 1, 1) := by decide +kernel
theorem dX1_init_19 : decode cX1_init 19 = .ok (.putfield 19, 3) := by decide +kernel
theorem dX1_init_22 : decode cX1_init 22 = .ok (.aload_n 0, 1) := by decide +kernel
theorem dX1_init_23 : decode cX1_init 23 = .ok (.iconst 1, 1) := by decide +kernel
theorem dX1_init_24 : decode cX1_init 24 = .ok (.putfield 22, 3) := by decide +kernel
theorem dX1_init_27 : decode cX1_init 27 = .ok (.return_, 1) := by decide +kernel
theorem dX1_hasDot_0 : decode cX1_hasDot 0 = .ok (.iload_n 1, 1) := by decide +kernel
theorem dX1_hasDot_1 : decode cX1_hasDot 1 = .ok (.ifCond .lt 15, 3) := by decide +kernel
theorem dX1_hasDot_4 : decode cX1_hasDot 4 = .ok (.iload_n 1, 1) := by decide +kernel
theorem dX1_hasDot_5 : decode cX1_hasDot 5 = .ok (.aload_n 0, 1) := by decide +kernel
theorem dX1_hasDot_6 : decode cX1_hasDot 6 = .ok (.getfield 15, 3) := by decide +kernel
theorem dX1_hasDot_9 : decode cX1_hasDot 9 = .ok (.if_icmp .ge 7, 3) := by decide +kernel
theorem dX1_hasDot_12 : decode cX1_hasDot 12 = .ok (.iconst 1, 1) := by decide +kernel
theorem dX1_hasDot_13 : decode cX1_hasDot 13 = .ok (.goto 4, 3) := by decide +kernel
theorem dX1_hasDot_16 : decode cX1_hasDot 16 = .ok (.iconst 0, 1) := by decide +kernel
theorem dX1_hasDot_17 : decode cX1_hasDot 17 = .ok (.ireturn, 1) := by decide +kernel
theorem dX1_hasDots_0 : decode cX1_hasDots 0 = .ok (.iload_n 1, 1) := by decide +kernel
theorem dX1_hasDots_1 : decode cX1_hasDots 1 = .ok (.ifCond .lt 15, 3) := by decide +kernel
theorem dX1_hasDots_4 : decode cX1_hasDots 4 = .ok (.iload_n 1, 1) := by decide +kernel
theorem dX1_hasDots_5 : decode cX1_hasDots 5 = .ok (.aload_n 0, 1) := by decide +kernel
theorem dX1_hasDots_6 : decode cX1_hasDots 6 = .ok (.invokevirtual 25, 3) := by decide +kernel
theorem dX1_hasDots_9 : decode cX1_hasDots 9 = .ok (.if_icmp .gt 7, 3) := by decide +kernel
theorem dX1_hasDots_12 : decode cX1_hasDots 12 = .ok (.iconst 1, 1) := by decide +kernel
theorem dX1_hasDots_13 : decode cX1_hasDots 13 = .ok (.goto 4, 3) := by decide +kernel
theorem dX1_hasDots_16 : decode cX1_hasDots 16 = .ok (.iconst 0, 1) := by decide +kernel
theorem dX1_hasDots_17 : decode cX1_hasDots 17 = .ok (.ireturn, 1) := by decide +kernel
theorem dX1_allDots_0 : decode cX1_allDots 0 = .ok (.iconst 1, 1) := by decide +kernel
theorem dX1_allDots_1 : decode cX1_allDots 1 = .ok (.aload_n 0, 1) := by decide +kernel
theorem dX1_allDots_2 : decode cX1_allDots 2 = .ok (.getfield 15, 3) := by decide +kernel
theorem dX1_allDots_5 : decode cX1_allDots 5 = .ok (.ishl, 1) := by decide +kernel
theorem dX1_allDots_6 : decode cX1_allDots 6 = .ok (.iconst 1, 1) := by decide +kernel
theorem dX1_allDots_7 : decode cX1_allDots 7 = .ok (.isub, 1) := by decide +kernel
theorem dX1_allDots_8 : decode cX1_allDots 8 = .ok (.ireturn, 1) := by decide +kernel
theorem dX1_coolDown_0 : decode cX1_coolDown 0 = .ok (.iconst 0, 1) := by decide +kernel
theorem dX1_coolDown_1 : decode cX1_coolDown 1 = .ok (.istore_n 2, 1) := by decide +kernel
theorem dX1_coolDown_2 : decode cX1_coolDown 2 = .ok (.iload_n 2, 1) := by decide +kernel
theorem dX1_coolDown_3 : decode cX1_coolDown 3 = .ok (.aload_n 0, 1) := by decide +kernel
theorem dX1_coolDown_4 : decode cX1_coolDown 4 = .ok (.getfield 15, 3) := by decide +kernel
theorem dX1_coolDown_7 : decode cX1_coolDown 7 = .ok (.if_icmp .ge 29, 3) := by decide +kernel
theorem dX1_coolDown_10 : decode cX1_coolDown 10 = .ok (.aload_n 1, 1) := by decide +kernel
theorem dX1_coolDown_11 : decode cX1_coolDown 11 = .ok (.getfield 29, 3) := by decide +kernel
theorem dX1_coolDown_14 : decode cX1_coolDown 14 = .ok (.iload_n 2, 1) := by decide +kernel
theorem dX1_coolDown_15 : decode cX1_coolDown 15 = .ok (.dup2, 1) := by decide +kernel
theorem dX1_coolDown_16 : decode cX1_coolDown 16 = .ok (.iaload, 1) := by decide +kernel
theorem dX1_coolDown_17 : decode cX1_coolDown 17 = .ok (.aload_n 1, 1) := by decide +kernel
theorem dX1_coolDown_18 : decode cX1_coolDown 18 = .ok (.getfield 29, 3) := by decide +kernel
theorem dX1_coolDown_21 : decode cX1_coolDown 21 = .ok (.iload_n 2, 1) := by decide +kernel
theorem dX1_coolDown_22 : decode cX1_coolDown 22 = .ok (.iaload, 1) := by decide +kernel
theorem dX1_coolDown_23 : decode cX1_coolDown 23 = .ok (.aload_n 0, 1) := by decide +kernel
theorem dX1_coolDown_24 : decode cX1_coolDown 24 = .ok (.getfield 19, 3) := by decide +kernel
theorem dX1_coolDown_27 : decode cX1_coolDown 27 = .ok (.ishr, 1) := by decide +kernel
theorem dX1_coolDown_28 : decode cX1_coolDown 28 = .ok (.isub, 1) := by decide +kernel
theorem dX1_coolDown_29 : decode cX1_coolDown 29 = .ok (.iastore, 1) := by decide +kernel
theorem dX1_coolDown_30 : decode cX1_coolDown 30 = .ok (.iinc 2 1, 3) := by decide +kernel
theorem dX1_coolDown_33 : decode cX1_coolDown 33 = .ok (.goto (-31), 3) := by decide +kernel
theorem dX1_coolDown_36 : decode cX1_coolDown 36 = .ok (.return_, 1) := by decide +kernel
theorem dX1_rest_0 : decode cX1_rest 0 = .ok (.iconst 0, 1) := by decide +kernel
theorem dX1_rest_1 : decode cX1_rest 1 = .ok (.istore_n 3, 1) := by decide +kernel
theorem dX1_rest_2 : decode cX1_rest 2 = .ok (.iload_n 3, 1) := by decide +kernel
theorem dX1_rest_3 : decode cX1_rest 3 = .ok (.iload_n 2, 1) := by decide +kernel
theorem dX1_rest_4 : decode cX1_rest 4 = .ok (.if_icmp .ge 14, 3) := by decide +kernel
theorem dX1_rest_7 : decode cX1_rest 7 = .ok (.aload_n 0, 1) := by decide +kernel
theorem dX1_rest_8 : decode cX1_rest 8 = .ok (.aload_n 1, 1) := by decide +kernel
theorem dX1_rest_9 : decode cX1_rest 9 = .ok (.invokevirtual 34, 3) := by decide +kernel
theorem dX1_rest_12 : decode cX1_rest 12 = .ok (.iinc 3 1, 3) := by decide +kernel
theorem dX1_rest_15 : decode cX1_rest 15 = .ok (.goto (-13), 3) := by decide +kernel
theorem dX1_rest_18 : decode cX1_rest 18 = .ok (.return_, 1) := by decide +kernel
theorem dX1_printSome_0 : decode cX1_printSome 0 = .ok (.iconst 0, 1) := by decide +kernel
theorem dX1_printSome_1 : decode cX1_printSome 1 = .ok (.istore 4, 2) := by decide +kernel
theorem dX1_printSome_3 : decode cX1_printSome 3 = .ok (.iload 4, 2) := by decide +kernel
theorem dX1_printSome_5 : decode cX1_printSome 5 = .ok (.iload_n 2, 1) := by decide +kernel
theorem dX1_printSome_6 : decode cX1_printSome 6 = .ok (.if_icmp .ge 66, 3) := by decide +kernel
theorem dX1_printSome_9 : decode cX1_printSome 9 = .ok (.aload_n 1, 1) := by decide +kernel
theorem dX1_printSome_10 : decode cX1_printSome 10 = .ok (.getfield 38, 3) := by decide +kernel
theorem dX1_printSome_13 : decode cX1_printSome 13 = .ok (.iconst 0, 1) := by decide +kernel
theorem dX1_printSome_14 : decode cX1_printSome 14 = .ok (.iaload, 1) := by decide +kernel
theorem dX1_printSome_15 : decode cX1_printSome 15 = .ok (.istore 5, 2) := by decide +kernel
theorem dX1_printSome_17 : decode cX1_printSome 17 = .ok (.aload_n 1, 1) := by decide +kernel
theorem dX1_printSome_18 : decode cX1_printSome 18 = .ok (.getfield 41, 3) := by decide +kernel
theorem dX1_printSome_21 : decode cX1_printSome 21 = .ok (.ifCond .eq 15, 3) := by decide +kernel
theorem dX1_printSome_24 : decode cX1_printSome 24 = .ok (.aload_n 1, 1) := by decide +kernel
theorem dX1_printSome_25 : decode cX1_printSome 25 = .ok (.getfield 44, 3) := by decide +kernel
theorem dX1_printSome_28 : decode cX1_printSome 28 = .ok (.ifCond .ne 11, 3) := by decide +kernel
theorem dX1_printSome_31 : decode cX1_printSome 31 = .ok (.iload 5, 2) := by decide +kernel
theorem dX1_printSome_33 : decode cX1_printSome 33 = .ok (.ifCond .eq 6, 3) := by decide +kernel
theorem dX1_printSome_36 : decode cX1_printSome 36 = .ok (.iload 4, 2) := by decide +kernel
theorem dX1_printSome_38 : decode cX1_printSome 38 = .ok (.ireturn, 1) := by decide +kernel
theorem dX1_printSome_39 : decode cX1_printSome 39 = .ok (.aload_n 1, 1) := by decide +kernel
theorem dX1_printSome_40 : decode cX1_printSome 40 = .ok (.invokevirtual 47, 3) := by decide +kernel
theorem dX1_printSome_43 : decode cX1_printSome 43 = .ok (.aload_n 0, 1) := by decide +kernel
theorem dX1_printSome_44 : decode cX1_printSome 44 = .ok (.aload_n 1, 1) := by decide +kernel
theorem dX1_printSome_45 : decode cX1_printSome 45 = .ok (.iload 5, 2) := by decide +kernel
theorem dX1_printSome_47 : decode cX1_printSome 47 = .ok (.iload_n 3, 1) := by decide +kernel
theorem dX1_printSome_48 : decode cX1_printSome 48 = .ok (.invokevirtual 50, 3) := by decide +kernel
theorem dX1_printSome_51 : decode cX1_printSome 51 = .ok (.iload 5, 2) := by decide +kernel
theorem dX1_printSome_53 : decode cX1_printSome 53 = .ok (.ifCond .eq 13, 3) := by decide +kernel
theorem dX1_printSome_56 : decode cX1_printSome 56 = .ok (.aload_n 1, 1) := by decide +kernel
theorem dX1_printSome_57 : decode cX1_printSome 57 = .ok (.dup, 1) := by decide +kernel
theorem dX1_printSome_58 : decode cX1_printSome 58 = .ok (.getfield 44, 3) := by decide +kernel
theorem dX1_printSome_61 : decode cX1_printSome 61 = .ok (.iconst 1, 1) := by decide +kernel
theorem dX1_printSome_62 : decode cX1_printSome 62 = .ok (.isub, 1) := by decide +kernel
theorem dX1_printSome_63 : decode cX1_printSome 63 = .ok (.putfield 44, 3) := by decide +kernel
theorem dX1_printSome_66 : decode cX1_printSome 66 = .ok (.iinc 4 1, 3) := by decide +kernel
theorem dX1_printSome_69 : decode cX1_printSome 69 = .ok (.goto (-66), 3) := by decide +kernel
theorem dX1_printSome_72 : decode cX1_printSome 72 = .ok (.iload_n 2, 1) := by decide +kernel
theorem dX1_printSome_73 : decode cX1_printSome 73 = .ok (.ireturn, 1) := by decide +kernel
theorem dX1_printQueue_0 : decode cX1_printQueue 0 = .ok (.aload_n 1, 1) := by decide +kernel
theorem dX1_printQueue_1 : decode cX1_printQueue 1 = .ok (.getfield 54, 3) := by decide +kernel
theorem dX1_printQueue_4 : decode cX1_printQueue 4 = .ok (.istore_n 3, 1) := by decide +kernel
theorem dX1_printQueue_5 : decode cX1_printQueue 5 = .ok (.iconst 0, 1) := by decide +kernel
theorem dX1_printQueue_6 : decode cX1_printQueue 6 = .ok (.istore 4, 2) := by decide +kernel
theorem dX1_printQueue_8 : decode cX1_printQueue 8 = .ok (.iload 4, 2) := by decide +kernel
theorem dX1_printQueue_10 : decode cX1_printQueue 10 = .ok (.aload_n 1, 1) := by decide +kernel
theorem dX1_printQueue_11 : decode cX1_printQueue 11 = .ok (.getfield 41, 3) := by decide +kernel
theorem dX1_printQueue_14 : decode cX1_printQueue 14 = .ok (.if_icmp .ge 22, 3) := by decide +kernel
theorem dX1_printQueue_17 : decode cX1_printQueue 17 = .ok (.aload_n 0, 1) := by decide +kernel
theorem dX1_printQueue_18 : decode cX1_printQueue 18 = .ok (.aload_n 1, 1) := by decide +kernel
theorem dX1_printQueue_19 : decode cX1_printQueue 19 = .ok (.aload_n 1, 1) := by decide +kernel
theorem dX1_printQueue_20 : decode cX1_printQueue 20 = .ok (.getfield 38, 3) := by decide +kernel
theorem dX1_printQueue_23 : decode cX1_printQueue 23 = .ok (.iload 4, 2) := by decide +kernel
theorem dX1_printQueue_25 : decode cX1_printQueue 25 = .ok (.iaload, 1) := by decide +kernel
theorem dX1_printQueue_26 : decode cX1_printQueue 26 = .ok (.iload_n 2, 1) := by decide +kernel
theorem dX1_printQueue_27 : decode cX1_printQueue 27 = .ok (.invokevirtual 50, 3) := by decide +kernel
theorem dX1_printQueue_30 : decode cX1_printQueue 30 = .ok (.iinc 4 1, 3) := by decide +kernel
theorem dX1_printQueue_33 : decode cX1_printQueue 33 = .ok (.goto (-25), 3) := by decide +kernel
theorem dX1_printQueue_36 : decode cX1_printQueue 36 = .ok (.aload_n 1, 1) := by decide +kernel
theorem dX1_printQueue_37 : decode cX1_printQueue 37 = .ok (.getfield 54, 3) := by decide +kernel
theorem dX1_printQueue_40 : decode cX1_printQueue 40 = .ok (.iload_n 3, 1) := by decide +kernel
theorem dX1_printQueue_41 : decode cX1_printQueue 41 = .ok (.isub, 1) := by decide +kernel
theorem dX1_printQueue_42 : decode cX1_printQueue 42 = .ok (.ireturn, 1) := by decide +kernel
theorem dX1_printLine_0 : decode cX1_printLine 0 = .ok (.aload_n 0, 1) := by decide +kernel
theorem dX1_printLine_1 : decode cX1_printLine 1 = .ok (.aload_n 1, 1) := by decide +kernel
theorem dX1_printLine_2 : decode cX1_printLine 2 = .ok (.invokevirtual 34, 3) := by decide +kernel
theorem dX1_printLine_5 : decode cX1_printLine 5 = .ok (.aload_n 0, 1) := by decide +kernel
theorem dX1_printLine_6 : decode cX1_printLine 6 = .ok (.aload_n 1, 1) := by decide +kernel
theorem dX1_printLine_7 : decode cX1_printLine 7 = .ok (.getfield 57, 3) := by decide +kernel
theorem dX1_printLine_10 : decode cX1_printLine 10 = .ok (.iload_n 2, 1) := by decide +kernel
theorem dX1_printLine_11 : decode cX1_printLine 11 = .ok (.aload_n 1, 1) := by decide +kernel
theorem dX1_printLine_12 : decode cX1_printLine 12 = .ok (.getfield 60, 3) := by decide +kernel
theorem dX1_printLine_15 : decode cX1_printLine 15 = .ok (.aload_n 1, 1) := by decide +kernel
theorem dX1_printLine_16 : decode cX1_printLine 16 = .ok (.getfield 63, 3) := by decide +kernel
theorem dX1_printLine_19 : decode cX1_printLine 19 = .ok (.invokevirtual 66, 3) := by decide +kernel
theorem dX1_printLine_22 : decode cX1_printLine 22 = .ok (.aload_n 0, 1) := by decide +kernel
theorem dX1_printLine_23 : decode cX1_printLine 23 = .ok (.aload_n 1, 1) := by decide +kernel
theorem dX1_printLine_24 : decode cX1_printLine 24 = .ok (.getfield 29, 3) := by decide +kernel
theorem dX1_printLine_27 : decode cX1_printLine 27 = .ok (.iload_n 2, 1) := by decide +kernel
theorem dX1_printLine_28 : decode cX1_printLine 28 = .ok (.iload_n 3, 1) := by decide +kernel
theorem dX1_printLine_29 : decode cX1_printLine 29 = .ok (.iconst (-1), 1) := by decide +kernel
theorem dX1_printLine_30 : decode cX1_printLine 30 = .ok (.ixor, 1) := by decide +kernel
theorem dX1_printLine_31 : decode cX1_printLine 31 = .ok (.iand, 1) := by decide +kernel
theorem dX1_printLine_32 : decode cX1_printLine 32 = .ok (.invokevirtual 70, 3) := by decide +kernel
theorem dX1_printLine_35 : decode cX1_printLine 35 = .ok (.aload_n 0, 1) := by decide +kernel
theorem dX1_printLine_36 : decode cX1_printLine 36 = .ok (.aload_n 1, 1) := by decide +kernel
theorem dX1_printLine_37 : decode cX1_printLine 37 = .ok (.iload_n 2, 1) := by decide +kernel
theorem dX1_printLine_38 : decode cX1_printLine 38 = .ok (.invokevirtual 74, 3) := by decide +kernel
theorem dX1_printLine_41 : decode cX1_printLine 41 = .ok (.aload_n 1, 1) := by decide +kernel
theorem dX1_printLine_42 : decode cX1_printLine 42 = .ok (.aload_n 1, 1) := by decide +kernel
theorem dX1_printLine_43 : decode cX1_printLine 43 = .ok (.getfield 60, 3) := by decide +kernel
theorem dX1_printLine_46 : decode cX1_printLine 46 = .ok (.putfield 63, 3) := by decide +kernel
theorem dX1_printLine_49 : decode cX1_printLine 49 = .ok (.aload_n 1, 1) := by decide +kernel
theorem dX1_printLine_50 : decode cX1_printLine 50 = .ok (.iload_n 2, 1) := by decide +kernel
theorem dX1_printLine_51 : decode cX1_printLine 51 = .ok (.putfield 60, 3) := by decide +kernel
theorem dX1_printLine_54 : decode cX1_printLine 54 = .ok (.return_, 1) := by decide +kernel
theorem dX1_findPulses_0 : decode cX1_findPulses 0 = .ok (.iconst 0, 1) := by decide +kernel
theorem dX1_findPulses_1 : decode cX1_findPulses 1 = .ok (.istore 5, 2) := by decide +kernel
theorem dX1_findPulses_3 : decode cX1_findPulses 3 = .ok (.iload 5, 2) := by decide +kernel
theorem dX1_findPulses_5 : decode cX1_findPulses 5 = .ok (.aload_n 0, 1) := by decide +kernel
theorem dX1_findPulses_6 : decode cX1_findPulses 6 = .ok (.getfield 15, 3) := by decide +kernel
theorem dX1_findPulses_9 : decode cX1_findPulses 9 = .ok (.if_icmp .ge 72, 3) := by decide +kernel
theorem dX1_findPulses_12 : decode cX1_findPulses 12 = .ok (.aload_n 0, 1) := by decide +kernel
theorem dX1_findPulses_13 : decode cX1_findPulses 13 = .ok (.getfield 9, 3) := by decide +kernel
theorem dX1_findPulses_16 : decode cX1_findPulses 16 = .ok (.iload 5, 2) := by decide +kernel
theorem dX1_findPulses_18 : decode cX1_findPulses 18 = .ok (.iconst 0, 1) := by decide +kernel
theorem dX1_findPulses_19 : decode cX1_findPulses 19 = .ok (.iastore, 1) := by decide +kernel
theorem dX1_findPulses_20 : decode cX1_findPulses 20 = .ok (.iload_n 2, 1) := by decide +kernel
theorem dX1_findPulses_21 : decode cX1_findPulses 21 = .ok (.iload 5, 2) := by decide +kernel
theorem dX1_findPulses_23 : decode cX1_findPulses 23 = .ok (.invokestatic 78, 3) := by decide +kernel
theorem dX1_findPulses_26 : decode cX1_findPulses 26 = .ok (.iconst 1, 1) := by decide +kernel
theorem dX1_findPulses_27 : decode cX1_findPulses 27 = .ok (.if_icmp .ne 48, 3) := by decide +kernel
theorem dX1_findPulses_30 : decode cX1_findPulses 30 = .ok (.iload_n 2, 1) := by decide +kernel
theorem dX1_findPulses_31 : decode cX1_findPulses 31 = .ok (.iconst 1, 1) := by decide +kernel
theorem dX1_findPulses_32 : decode cX1_findPulses 32 = .ok (.ishl, 1) := by decide +kernel
theorem dX1_findPulses_33 : decode cX1_findPulses 33 = .ok (.iload 5, 2) := by decide +kernel
theorem dX1_findPulses_35 : decode cX1_findPulses 35 = .ok (.invokestatic 78, 3) := by decide +kernel
theorem dX1_findPulses_38 : decode cX1_findPulses 38 = .ok (.iload_n 2, 1) := by decide +kernel
theorem dX1_findPulses_39 : decode cX1_findPulses 39 = .ok (.iconst 1, 1) := by decide +kernel
theorem dX1_findPulses_40 : decode cX1_findPulses 40 = .ok (.ishr, 1) := by decide +kernel
theorem dX1_findPulses_41 : decode cX1_findPulses 41 = .ok (.iload 5, 2) := by decide +kernel
theorem dX1_findPulses_43 : decode cX1_findPulses 43 = .ok (.invokestatic 78, 3) := by decide +kernel
theorem dX1_findPulses_46 : decode cX1_findPulses 46 = .ok (.iadd, 1) := by decide +kernel
theorem dX1_findPulses_47 : decode cX1_findPulses 47 = .ok (.iload_n 3, 1) := by decide +kernel
theorem dX1_findPulses_48 : decode cX1_findPulses 48 = .ok (.iload 5, 2) := by decide +kernel
theorem dX1_findPulses_50 : decode cX1_findPulses 50 = .ok (.invokestatic 78, 3) := by decide +kernel
theorem dX1_findPulses_53 : decode cX1_findPulses 53 = .ok (.iadd, 1) := by decide +kernel
theorem dX1_findPulses_54 : decode cX1_findPulses 54 = .ok (.iload 4, 2) := by decide +kernel
theorem dX1_findPulses_56 : decode cX1_findPulses 56 = .ok (.iload 5, 2) := by decide +kernel
theorem dX1_findPulses_58 : decode cX1_findPulses 58 = .ok (.invokestatic 78, 3) := by decide +kernel
theorem dX1_findPulses_61 : decode cX1_findPulses 61 = .ok (.iadd, 1) := by decide +kernel
theorem dX1_findPulses_62 : decode cX1_findPulses 62 = .ok (.istore 6, 2) := by decide +kernel
theorem dX1_findPulses_64 : decode cX1_findPulses 64 = .ok (.aload_n 0, 1) := by decide +kernel
theorem dX1_findPulses_65 : decode cX1_findPulses 65 = .ok (.getfield 9, 3) := by decide +kernel
theorem dX1_findPulses_68 : decode cX1_findPulses 68 = .ok (.iload 5, 2) := by decide +kernel
theorem dX1_findPulses_70 : decode cX1_findPulses 70 = .ok (.aload_n 1, 1) := by decide +kernel
theorem dX1_findPulses_71 : decode cX1_findPulses 71 = .ok (.iload 6, 2) := by decide +kernel
theorem dX1_findPulses_73 : decode cX1_findPulses 73 = .ok (.iaload, 1) := by decide +kernel
theorem dX1_findPulses_74 : decode cX1_findPulses 74 = .ok (.iastore, 1) := by decide +kernel
theorem dX1_findPulses_75 : decode cX1_findPulses 75 = .ok (.iinc 5 1, 3) := by decide +kernel
theorem dX1_findPulses_78 : decode cX1_findPulses 78 = .ok (.goto (-75), 3) := by decide +kernel
theorem dX1_findPulses_81 : decode cX1_findPulses 81 = .ok (.return_, 1) := by decide +kernel
theorem dX1_heatUp_0 : decode cX1_heatUp 0 = .ok (.iconst 0, 1) := by decide +kernel
theorem dX1_heatUp_1 : decode cX1_heatUp 1 = .ok (.istore_n 3, 1) := by decide +kernel
theorem dX1_heatUp_2 : decode cX1_heatUp 2 = .ok (.iload_n 3, 1) := by decide +kernel
theorem dX1_heatUp_3 : decode cX1_heatUp 3 = .ok (.aload_n 0, 1) := by decide +kernel
theorem dX1_heatUp_4 : decode cX1_heatUp 4 = .ok (.getfield 15, 3) := by decide +kernel
theorem dX1_heatUp_7 : decode cX1_heatUp 7 = .ok (.if_icmp .ge 79, 3) := by decide +kernel
theorem dX1_heatUp_10 : decode cX1_heatUp 10 = .ok (.iload_n 2, 1) := by decide +kernel
theorem dX1_heatUp_11 : decode cX1_heatUp 11 = .ok (.iload_n 3, 1) := by decide +kernel
theorem dX1_heatUp_12 : decode cX1_heatUp 12 = .ok (.invokestatic 78, 3) := by decide +kernel
theorem dX1_heatUp_15 : decode cX1_heatUp 15 = .ok (.iconst 1, 1) := by decide +kernel
theorem dX1_heatUp_16 : decode cX1_heatUp 16 = .ok (.if_icmp .ne 64, 3) := by decide +kernel
theorem dX1_heatUp_19 : decode cX1_heatUp 19 = .ok (.aload_n 1, 1) := by decide +kernel
theorem dX1_heatUp_20 : decode cX1_heatUp 20 = .ok (.iload_n 3, 1) := by decide +kernel
theorem dX1_heatUp_21 : decode cX1_heatUp 21 = .ok (.dup2, 1) := by decide +kernel
theorem dX1_heatUp_22 : decode cX1_heatUp 22 = .ok (.iaload, 1) := by decide +kernel
theorem dX1_heatUp_23 : decode cX1_heatUp 23 = .ok (.bipush 10, 2) := by decide +kernel
theorem dX1_heatUp_25 : decode cX1_heatUp 25 = .ok (.aload_n 0, 1) := by decide +kernel
theorem dX1_heatUp_26 : decode cX1_heatUp 26 = .ok (.getfield 9, 3) := by decide +kernel
theorem dX1_heatUp_29 : decode cX1_heatUp 29 = .ok (.iload_n 3, 1) := by decide +kernel
theorem dX1_heatUp_30 : decode cX1_heatUp 30 = .ok (.iaload, 1) := by decide +kernel
theorem dX1_heatUp_31 : decode cX1_heatUp 31 = .ok (.imul, 1) := by decide +kernel
theorem dX1_heatUp_32 : decode cX1_heatUp 32 = .ok (.iadd, 1) := by decide +kernel
theorem dX1_heatUp_33 : decode cX1_heatUp 33 = .ok (.iastore, 1) := by decide +kernel
theorem dX1_heatUp_34 : decode cX1_heatUp 34 = .ok (.iload_n 3, 1) := by decide +kernel
theorem dX1_heatUp_35 : decode cX1_heatUp 35 = .ok (.ifCond .le 19, 3) := by decide +kernel
theorem dX1_heatUp_38 : decode cX1_heatUp 38 = .ok (.aload_n 1, 1) := by decide +kernel
theorem dX1_heatUp_39 : decode cX1_heatUp 39 = .ok (.iload_n 3, 1) := by decide +kernel
theorem dX1_heatUp_40 : decode cX1_heatUp 40 = .ok (.iconst 1, 1) := by decide +kernel
theorem dX1_heatUp_41 : decode cX1_heatUp 41 = .ok (.isub, 1) := by decide +kernel
theorem dX1_heatUp_42 : decode cX1_heatUp 42 = .ok (.dup2, 1) := by decide +kernel
theorem dX1_heatUp_43 : decode cX1_heatUp 43 = .ok (.iaload, 1) := by decide +kernel
theorem dX1_heatUp_44 : decode cX1_heatUp 44 = .ok (.iconst 2, 1) := by decide +kernel
theorem dX1_heatUp_45 : decode cX1_heatUp 45 = .ok (.aload_n 0, 1) := by decide +kernel
theorem dX1_heatUp_46 : decode cX1_heatUp 46 = .ok (.getfield 9, 3) := by decide +kernel
theorem dX1_heatUp_49 : decode cX1_heatUp 49 = .ok (.iload_n 3, 1) := by decide +kernel
theorem dX1_heatUp_50 : decode cX1_heatUp 50 = .ok (.iaload, 1) := by decide +kernel
theorem dX1_heatUp_51 : decode cX1_heatUp 51 = .ok (.imul, 1) := by decide +kernel
theorem dX1_heatUp_52 : decode cX1_heatUp 52 = .ok (.iadd, 1) := by decide +kernel
theorem dX1_heatUp_53 : decode cX1_heatUp 53 = .ok (.iastore, 1) := by decide +kernel
theorem dX1_heatUp_54 : decode cX1_heatUp 54 = .ok (.iload_n 3, 1) := by decide +kernel
theorem dX1_heatUp_55 : decode cX1_heatUp 55 = .ok (.iconst 1, 1) := by decide +kernel
theorem dX1_heatUp_56 : decode cX1_heatUp 56 = .ok (.iadd, 1) := by decide +kernel
theorem dX1_heatUp_57 : decode cX1_heatUp 57 = .ok (.aload_n 0, 1) := by decide +kernel
theorem dX1_heatUp_58 : decode cX1_heatUp 58 = .ok (.getfield 15, 3) := by decide +kernel
theorem dX1_heatUp_61 : decode cX1_heatUp 61 = .ok (.if_icmp .ge 19, 3) := by decide +kernel
theorem dX1_heatUp_64 : decode cX1_heatUp 64 = .ok (.aload_n 1, 1) := by decide +kernel
theorem dX1_heatUp_65 : decode cX1_heatUp 65 = .ok (.iload_n 3, 1) := by decide +kernel
theorem dX1_heatUp_66 : decode cX1_heatUp 66 = .ok (.iconst 1, 1) := by decide +kernel
theorem dX1_heatUp_67 : decode cX1_heatUp 67 = .ok (.iadd, 1) := by decide +kernel
theorem dX1_heatUp_68 : decode cX1_heatUp 68 = .ok (.dup2, 1) := by decide +kernel
theorem dX1_heatUp_69 : decode cX1_heatUp 69 = .ok (.iaload, 1) := by decide +kernel
theorem dX1_heatUp_70 : decode cX1_heatUp 70 = .ok (.iconst 2, 1) := by decide +kernel
theorem dX1_heatUp_71 : decode cX1_heatUp 71 = .ok (.aload_n 0, 1) := by decide +kernel
theorem dX1_heatUp_72 : decode cX1_heatUp 72 = .ok (.getfield 9, 3) := by decide +kernel
theorem dX1_heatUp_75 : decode cX1_heatUp 75 = .ok (.iload_n 3, 1) := by decide +kernel
theorem dX1_heatUp_76 : decode cX1_heatUp 76 = .ok (.iaload, 1) := by decide +kernel
theorem dX1_heatUp_77 : decode cX1_heatUp 77 = .ok (.imul, 1) := by decide +kernel
theorem dX1_heatUp_78 : decode cX1_heatUp 78 = .ok (.iadd, 1) := by decide +kernel
theorem dX1_heatUp_79 : decode cX1_heatUp 79 = .ok (.iastore, 1) := by decide +kernel
theorem dX1_heatUp_80 : decode cX1_heatUp 80 = .ok (.iinc 3 1, 3) := by decide +kernel
theorem dX1_heatUp_83 : decode cX1_heatUp 83 = .ok (.goto (-81), 3) := by decide +kernel
theorem dX1_heatUp_86 : decode cX1_heatUp 86 = .ok (.iconst 0, 1) := by decide +kernel
theorem dX1_heatUp_87 : decode cX1_heatUp 87 = .ok (.istore_n 3, 1) := by decide +kernel
theorem dX1_heatUp_88 : decode cX1_heatUp 88 = .ok (.iload_n 3, 1) := by decide +kernel
theorem dX1_heatUp_89 : decode cX1_heatUp 89 = .ok (.aload_n 0, 1) := by decide +kernel
theorem dX1_heatUp_90 : decode cX1_heatUp 90 = .ok (.getfield 15, 3) := by decide +kernel
theorem dX1_heatUp_93 : decode cX1_heatUp 93 = .ok (.if_icmp .ge 21, 3) := by decide +kernel
theorem dX1_heatUp_96 : decode cX1_heatUp 96 = .ok (.aload_n 1, 1) := by decide +kernel
theorem dX1_heatUp_97 : decode cX1_heatUp 97 = .ok (.iload_n 3, 1) := by decide +kernel
theorem dX1_heatUp_98 : decode cX1_heatUp 98 = .ok (.sipush 999, 3) := by decide +kernel
theorem dX1_heatUp_101 : decode cX1_heatUp 101 = .ok (.aload_n 1, 1) := by decide +kernel
theorem dX1_heatUp_102 : decode cX1_heatUp 102 = .ok (.iload_n 3, 1) := by decide +kernel
theorem dX1_heatUp_103 : decode cX1_heatUp 103 = .ok (.iaload, 1) := by decide +kernel
theorem dX1_heatUp_104 : decode cX1_heatUp 104 = .ok (.invokestatic 82, 3) := by decide +kernel
theorem dX1_heatUp_107 : decode cX1_heatUp 107 = .ok (.iastore, 1) := by decide +kernel
theorem dX1_heatUp_108 : decode cX1_heatUp 108 = .ok (.iinc 3 1, 3) := by decide +kernel
theorem dX1_heatUp_111 : decode cX1_heatUp 111 = .ok (.goto (-23), 3) := by decide +kernel
theorem dX1_heatUp_114 : decode cX1_heatUp 114 = .ok (.return_, 1) := by decide +kernel
theorem dX1_countMarks_0 : decode cX1_countMarks 0 = .ok (.iconst 0, 1) := by decide +kernel
theorem dX1_countMarks_1 : decode cX1_countMarks 1 = .ok (.istore_n 3, 1) := by decide +kernel
theorem dX1_countMarks_2 : decode cX1_countMarks 2 = .ok (.iload_n 3, 1) := by decide +kernel
theorem dX1_countMarks_3 : decode cX1_countMarks 3 = .ok (.aload_n 0, 1) := by decide +kernel
theorem dX1_countMarks_4 : decode cX1_countMarks 4 = .ok (.getfield 15, 3) := by decide +kernel
theorem dX1_countMarks_7 : decode cX1_countMarks 7 = .ok (.if_icmp .ge 105, 3) := by decide +kernel
theorem dX1_countMarks_10 : decode cX1_countMarks 10 = .ok (.aload_n 1, 1) := by decide +kernel
theorem dX1_countMarks_11 : decode cX1_countMarks 11 = .ok (.getfield 29, 3) := by decide +kernel
theorem dX1_countMarks_14 : decode cX1_countMarks 14 = .ok (.iload_n 3, 1) := by decide +kernel
theorem dX1_countMarks_15 : decode cX1_countMarks 15 = .ok (.iaload, 1) := by decide +kernel
theorem dX1_countMarks_16 : decode cX1_countMarks 16 = .ok (.istore 4, 2) := by decide +kernel
theorem dX1_countMarks_18 : decode cX1_countMarks 18 = .ok (.iload_n 2, 1) := by decide +kernel
theorem dX1_countMarks_19 : decode cX1_countMarks 19 = .ok (.iload_n 3, 1) := by decide +kernel
theorem dX1_countMarks_20 : decode cX1_countMarks 20 = .ok (.invokestatic 78, 3) := by decide +kernel
theorem dX1_countMarks_23 : decode cX1_countMarks 23 = .ok (.ifCond .ne 29, 3) := by decide +kernel
theorem dX1_countMarks_26 : decode cX1_countMarks 26 = .ok (.aload_n 1, 1) := by decide +kernel
theorem dX1_countMarks_27 : decode cX1_countMarks 27 = .ok (.dup, 1) := by decide +kernel
theorem dX1_countMarks_28 : decode cX1_countMarks 28 = .ok (.getfield 87, 3) := by decide +kernel
theorem dX1_countMarks_31 : decode cX1_countMarks 31 = .ok (.iload 4, 2) := by decide +kernel
theorem dX1_countMarks_33 : decode cX1_countMarks 33 = .ok (.aload_n 0, 1) := by decide +kernel
theorem dX1_countMarks_34 : decode cX1_countMarks 34 = .ok (.getfield 90, 3) := by decide +kernel
theorem dX1_countMarks_37 : decode cX1_countMarks 37 = .ok (.if_icmp .le 7, 3) := by decide +kernel
theorem dX1_countMarks_40 : decode cX1_countMarks 40 = .ok (.iconst 1, 1) := by decide +kernel
theorem dX1_countMarks_41 : decode cX1_countMarks 41 = .ok (.goto 4, 3) := by decide +kernel
theorem dX1_countMarks_44 : decode cX1_countMarks 44 = .ok (.iconst 0, 1) := by decide +kernel
theorem dX1_countMarks_45 : decode cX1_countMarks 45 = .ok (.iadd, 1) := by decide +kernel
theorem dX1_countMarks_46 : decode cX1_countMarks 46 = .ok (.putfield 87, 3) := by decide +kernel
theorem dX1_countMarks_49 : decode cX1_countMarks 49 = .ok (.goto 57, 3) := by decide +kernel
theorem dX1_countMarks_52 : decode cX1_countMarks 52 = .ok (.iload 4, 2) := by decide +kernel
theorem dX1_countMarks_54 : decode cX1_countMarks 54 = .ok (.aload_n 0, 1) := by decide +kernel
theorem dX1_countMarks_55 : decode cX1_countMarks 55 = .ok (.getfield 93, 3) := by decide +kernel
theorem dX1_countMarks_58 : decode cX1_countMarks 58 = .ok (.if_icmp .ge 16, 3) := by decide +kernel
theorem dX1_countMarks_61 : decode cX1_countMarks 61 = .ok (.aload_n 1, 1) := by decide +kernel
theorem dX1_countMarks_62 : decode cX1_countMarks 62 = .ok (.dup, 1) := by decide +kernel
theorem dX1_countMarks_63 : decode cX1_countMarks 63 = .ok (.getfield 96, 3) := by decide +kernel
theorem dX1_countMarks_66 : decode cX1_countMarks 66 = .ok (.iconst 1, 1) := by decide +kernel
theorem dX1_countMarks_67 : decode cX1_countMarks 67 = .ok (.iadd, 1) := by decide +kernel
theorem dX1_countMarks_68 : decode cX1_countMarks 68 = .ok (.putfield 96, 3) := by decide +kernel
theorem dX1_countMarks_71 : decode cX1_countMarks 71 = .ok (.goto 35, 3) := by decide +kernel
theorem dX1_countMarks_74 : decode cX1_countMarks 74 = .ok (.iload 4, 2) := by decide +kernel
theorem dX1_countMarks_76 : decode cX1_countMarks 76 = .ok (.aload_n 0, 1) := by decide +kernel
theorem dX1_countMarks_77 : decode cX1_countMarks 77 = .ok (.getfield 99, 3) := by decide +kernel
theorem dX1_countMarks_80 : decode cX1_countMarks 80 = .ok (.if_icmp .gt 16, 3) := by decide +kernel
theorem dX1_countMarks_83 : decode cX1_countMarks 83 = .ok (.aload_n 1, 1) := by decide +kernel
theorem dX1_countMarks_84 : decode cX1_countMarks 84 = .ok (.dup, 1) := by decide +kernel
theorem dX1_countMarks_85 : decode cX1_countMarks 85 = .ok (.getfield 54, 3) := by decide +kernel
theorem dX1_countMarks_88 : decode cX1_countMarks 88 = .ok (.iconst 1, 1) := by decide +kernel
theorem dX1_countMarks_89 : decode cX1_countMarks 89 = .ok (.iadd, 1) := by decide +kernel
theorem dX1_countMarks_90 : decode cX1_countMarks 90 = .ok (.putfield 54, 3) := by decide +kernel
theorem dX1_countMarks_93 : decode cX1_countMarks 93 = .ok (.goto 13, 3) := by decide +kernel
theorem dX1_countMarks_96 : decode cX1_countMarks 96 = .ok (.aload_n 1, 1) := by decide +kernel
theorem dX1_countMarks_97 : decode cX1_countMarks 97 = .ok (.dup, 1) := by decide +kernel
theorem dX1_countMarks_98 : decode cX1_countMarks 98 = .ok (.getfield 102, 3) := by decide +kernel
theorem dX1_countMarks_101 : decode cX1_countMarks 101 = .ok (.iconst 1, 1) := by decide +kernel
theorem dX1_countMarks_102 : decode cX1_countMarks 102 = .ok (.iadd, 1) := by decide +kernel
theorem dX1_countMarks_103 : decode cX1_countMarks 103 = .ok (.putfield 102, 3) := by decide +kernel
theorem dX1_countMarks_106 : decode cX1_countMarks 106 = .ok (.iinc 3 1, 3) := by decide +kernel
theorem dX1_countMarks_109 : decode cX1_countMarks 109 = .ok (.goto (-107), 3) := by decide +kernel
theorem dX1_countMarks_112 : decode cX1_countMarks 112 = .ok (.aload_n 1, 1) := by decide +kernel
theorem dX1_countMarks_113 : decode cX1_countMarks 113 = .ok (.dup, 1) := by decide +kernel
theorem dX1_countMarks_114 : decode cX1_countMarks 114 = .ok (.getfield 105, 3) := by decide +kernel
theorem dX1_countMarks_117 : decode cX1_countMarks 117 = .ok (.iconst 1, 1) := by decide +kernel
theorem dX1_countMarks_118 : decode cX1_countMarks 118 = .ok (.iadd, 1) := by decide +kernel
theorem dX1_countMarks_119 : decode cX1_countMarks 119 = .ok (.putfield 105, 3) := by decide +kernel
theorem dX1_countMarks_122 : decode cX1_countMarks 122 = .ok (.return_, 1) := by decide +kernel
theorem dX1_timeOf_0 : decode cX1_timeOf 0 = .ok (.iconst 0, 1) := by decide +kernel
theorem dX1_timeOf_1 : decode cX1_timeOf 1 = .ok (.istore_n 2, 1) := by decide +kernel
theorem dX1_timeOf_2 : decode cX1_timeOf 2 = .ok (.iconst 0, 1) := by decide +kernel
theorem dX1_timeOf_3 : decode cX1_timeOf 3 = .ok (.istore_n 3, 1) := by decide +kernel
theorem dX1_timeOf_4 : decode cX1_timeOf 4 = .ok (.bipush 9, 2) := by decide +kernel
theorem dX1_timeOf_6 : decode cX1_timeOf 6 = .ok (.istore 4, 2) := by decide +kernel
theorem dX1_timeOf_8 : decode cX1_timeOf 8 = .ok (.iload 4, 2) := by decide +kernel
theorem dX1_timeOf_10 : decode cX1_timeOf 10 = .ok (.ifCond .lt 66, 3) := by decide +kernel
theorem dX1_timeOf_13 : decode cX1_timeOf 13 = .ok (.iconst 0, 1) := by decide +kernel
theorem dX1_timeOf_14 : decode cX1_timeOf 14 = .ok (.istore 5, 2) := by decide +kernel
theorem dX1_timeOf_16 : decode cX1_timeOf 16 = .ok (.iload 5, 2) := by decide +kernel
theorem dX1_timeOf_18 : decode cX1_timeOf 18 = .ok (.aload_n 0, 1) := by decide +kernel
theorem dX1_timeOf_19 : decode cX1_timeOf 19 = .ok (.getfield 15, 3) := by decide +kernel
theorem dX1_timeOf_22 : decode cX1_timeOf 22 = .ok (.if_icmp .ge 48, 3) := by decide +kernel
theorem dX1_timeOf_25 : decode cX1_timeOf 25 = .ok (.iload_n 1, 1) := by decide +kernel
theorem dX1_timeOf_26 : decode cX1_timeOf 26 = .ok (.iload 5, 2) := by decide +kernel
theorem dX1_timeOf_28 : decode cX1_timeOf 28 = .ok (.invokestatic 78, 3) := by decide +kernel
theorem dX1_timeOf_31 : decode cX1_timeOf 31 = .ok (.iconst 1, 1) := by decide +kernel
theorem dX1_timeOf_32 : decode cX1_timeOf 32 = .ok (.if_icmp .ne 32, 3) := by decide +kernel
theorem dX1_timeOf_35 : decode cX1_timeOf 35 = .ok (.aload_n 0, 1) := by decide +kernel
theorem dX1_timeOf_36 : decode cX1_timeOf 36 = .ok (.getfield 9, 3) := by decide +kernel
theorem dX1_timeOf_39 : decode cX1_timeOf 39 = .ok (.iload 5, 2) := by decide +kernel
theorem dX1_timeOf_41 : decode cX1_timeOf 41 = .ok (.iaload, 1) := by decide +kernel
theorem dX1_timeOf_42 : decode cX1_timeOf 42 = .ok (.iload 4, 2) := by decide +kernel
theorem dX1_timeOf_44 : decode cX1_timeOf 44 = .ok (.if_icmp .ne 20, 3) := by decide +kernel
theorem dX1_timeOf_47 : decode cX1_timeOf 47 = .ok (.iload_n 3, 1) := by decide +kernel
theorem dX1_timeOf_48 : decode cX1_timeOf 48 = .ok (.ifCond .ne 13, 3) := by decide +kernel
theorem dX1_timeOf_51 : decode cX1_timeOf 51 = .ok (.iload_n 2, 1) := by decide +kernel
theorem dX1_timeOf_52 : decode cX1_timeOf 52 = .ok (.iload 4, 2) := by decide +kernel
theorem dX1_timeOf_54 : decode cX1_timeOf 54 = .ok (.iadd, 1) := by decide +kernel
theorem dX1_timeOf_55 : decode cX1_timeOf 55 = .ok (.istore_n 2, 1) := by decide +kernel
theorem dX1_timeOf_56 : decode cX1_timeOf 56 = .ok (.aload_n 0, 1) := by decide +kernel
theorem dX1_timeOf_57 : decode cX1_timeOf 57 = .ok (.getfield 22, 3) := by decide +kernel
theorem dX1_timeOf_60 : decode cX1_timeOf 60 = .ok (.istore_n 3, 1) := by decide +kernel
theorem dX1_timeOf_61 : decode cX1_timeOf 61 = .ok (.iinc 3 (-1), 3) := by decide +kernel
theorem dX1_timeOf_64 : decode cX1_timeOf 64 = .ok (.iinc 5 1, 3) := by decide +kernel
theorem dX1_timeOf_67 : decode cX1_timeOf 67 = .ok (.goto (-51), 3) := by decide +kernel
theorem dX1_timeOf_70 : decode cX1_timeOf 70 = .ok (.iinc 4 (-1), 3) := by decide +kernel
theorem dX1_timeOf_73 : decode cX1_timeOf 73 = .ok (.goto (-65), 3) := by decide +kernel
theorem dX1_timeOf_76 : decode cX1_timeOf 76 = .ok (.iload_n 2, 1) := by decide +kernel
theorem dX1_timeOf_77 : decode cX1_timeOf 77 = .ok (.ireturn, 1) := by decide +kernel
theorem dX2_init_0 : decode cX2_init 0 = .ok (.aload_n 0, 1) := by decide +kernel
theorem dX2_init_1 : decode cX2_init 1 = .ok (.invokespecial 3, 3) := by decide +kernel
theorem dX2_init_4 : decode cX2_init 4 = .ok (.aload_n 0, 1) := by decide +kernel
theorem dX2_init_5 : decode cX2_init 5 = .ok (.bipush 8, 2) := by decide +kernel
theorem dX2_init_7 : decode cX2_init 7 = .ok (.newarray .int, 2) := by decide +kernel
theorem dX2_init_9 : decode cX2_init 9 = .ok (.putfield 9, 3) := by decide +kernel
theorem dX2_init_12 : decode cX2_init 12 = .ok (.aload_n 0, 1) := by decide +kernel
theorem dX2_init_13 : decode cX2_init 13 = .ok (.bipush 8, 2) := by decide +kernel
theorem dX2_init_15 : decode cX2_init 15 = .ok (.newarray .int, 2) := by decide +kernel
theorem dX2_init_17 : decode cX2_init 17 = .ok (.putfield 15, 3) := by decide +kernel
theorem dX2_init_20 : decode cX2_init 20 = .ok (.return_, 1) := by decide +kernel
theorem dX2_plan_0 : decode cX2_plan 0 = .ok (.aload_n 0, 1) := by decide +kernel
theorem dX2_plan_1 : decode cX2_plan 1 = .ok (.aload_n 1, 1) := by decide +kernel
theorem dX2_plan_2 : decode cX2_plan 2 = .ok (.aload_n 2, 1) := by decide +kernel
theorem dX2_plan_3 : decode cX2_plan 3 = .ok (.invokevirtual 18, 3) := by decide +kernel
theorem dX2_plan_6 : decode cX2_plan 6 = .ok (.iconst 0, 1) := by decide +kernel
theorem dX2_plan_7 : decode cX2_plan 7 = .ok (.istore_n 3, 1) := by decide +kernel
theorem dX2_plan_8 : decode cX2_plan 8 = .ok (.iconst 0, 1) := by decide +kernel
theorem dX2_plan_9 : decode cX2_plan 9 = .ok (.istore 4, 2) := by decide +kernel
theorem dX2_plan_11 : decode cX2_plan 11 = .ok (.iload 4, 2) := by decide +kernel
theorem dX2_plan_13 : decode cX2_plan 13 = .ok (.aload_n 2, 1) := by decide +kernel
theorem dX2_plan_14 : decode cX2_plan 14 = .ok (.getfield 22, 3) := by decide +kernel
theorem dX2_plan_17 : decode cX2_plan 17 = .ok (.if_icmp .ge 34, 3) := by decide +kernel
theorem dX2_plan_20 : decode cX2_plan 20 = .ok (.iload_n 3, 1) := by decide +kernel
theorem dX2_plan_21 : decode cX2_plan 21 = .ok (.iconst 1, 1) := by decide +kernel
theorem dX2_plan_22 : decode cX2_plan 22 = .ok (.iadd, 1) := by decide +kernel
theorem dX2_plan_23 : decode cX2_plan 23 = .ok (.aload_n 0, 1) := by decide +kernel
theorem dX2_plan_24 : decode cX2_plan 24 = .ok (.getfield 9, 3) := by decide +kernel
theorem dX2_plan_27 : decode cX2_plan 27 = .ok (.iload 4, 2) := by decide +kernel
theorem dX2_plan_29 : decode cX2_plan 29 = .ok (.iaload, 1) := by decide +kernel
theorem dX2_plan_30 : decode cX2_plan 30 = .ok (.invokestatic 28, 3) := by decide +kernel
theorem dX2_plan_33 : decode cX2_plan 33 = .ok (.invokestatic 32, 3) := by decide +kernel
theorem dX2_plan_36 : decode cX2_plan 36 = .ok (.istore_n 3, 1) := by decide +kernel
theorem dX2_plan_37 : decode cX2_plan 37 = .ok (.aload_n 0, 1) := by decide +kernel
theorem dX2_plan_38 : decode cX2_plan 38 = .ok (.getfield 15, 3) := by decide +kernel
theorem dX2_plan_41 : decode cX2_plan 41 = .ok (.iload 4, 2) := by decide +kernel
theorem dX2_plan_43 : decode cX2_plan 43 = .ok (.iload_n 3, 1) := by decide +kernel
theorem dX2_plan_44 : decode cX2_plan 44 = .ok (.iastore, 1) := by decide +kernel
theorem dX2_plan_45 : decode cX2_plan 45 = .ok (.iinc 4 1, 3) := by decide +kernel
theorem dX2_plan_48 : decode cX2_plan 48 = .ok (.goto (-37), 3) := by decide +kernel
theorem dX2_plan_51 : decode cX2_plan 51 = .ok (.iconst 0, 1) := by decide +kernel
theorem dX2_plan_52 : decode cX2_plan 52 = .ok (.istore_n 3, 1) := by decide +kernel
theorem dX2_plan_53 : decode cX2_plan 53 = .ok (.aload_n 2, 1) := by decide +kernel
theorem dX2_plan_54 : decode cX2_plan 54 = .ok (.getfield 22, 3) := by decide +kernel
theorem dX2_plan_57 : decode cX2_plan 57 = .ok (.iconst 1, 1) := by decide +kernel
theorem dX2_plan_58 : decode cX2_plan 58 = .ok (.isub, 1) := by decide +kernel
theorem dX2_plan_59 : decode cX2_plan 59 = .ok (.istore 4, 2) := by decide +kernel
theorem dX2_plan_61 : decode cX2_plan 61 = .ok (.iload 4, 2) := by decide +kernel
theorem dX2_plan_63 : decode cX2_plan 63 = .ok (.ifCond .lt 31, 3) := by decide +kernel
theorem dX2_plan_66 : decode cX2_plan 66 = .ok (.iload_n 3, 1) := by decide +kernel
theorem dX2_plan_67 : decode cX2_plan 67 = .ok (.iconst 1, 1) := by decide +kernel
theorem dX2_plan_68 : decode cX2_plan 68 = .ok (.iadd, 1) := by decide +kernel
theorem dX2_plan_69 : decode cX2_plan 69 = .ok (.aload_n 0, 1) := by decide +kernel
theorem dX2_plan_70 : decode cX2_plan 70 = .ok (.getfield 15, 3) := by decide +kernel
theorem dX2_plan_73 : decode cX2_plan 73 = .ok (.iload 4, 2) := by decide +kernel
theorem dX2_plan_75 : decode cX2_plan 75 = .ok (.iaload, 1) := by decide +kernel
theorem dX2_plan_76 : decode cX2_plan 76 = .ok (.invokestatic 32, 3) := by decide +kernel
theorem dX2_plan_79 : decode cX2_plan 79 = .ok (.istore_n 3, 1) := by decide +kernel
theorem dX2_plan_80 : decode cX2_plan 80 = .ok (.aload_n 0, 1) := by decide +kernel
theorem dX2_plan_81 : decode cX2_plan 81 = .ok (.getfield 15, 3) := by decide +kernel
theorem dX2_plan_84 : decode cX2_plan 84 = .ok (.iload 4, 2) := by decide +kernel
theorem dX2_plan_86 : decode cX2_plan 86 = .ok (.iload_n 3, 1) := by decide +kernel
theorem dX2_plan_87 : decode cX2_plan 87 = .ok (.iastore, 1) := by decide +kernel
theorem dX2_plan_88 : decode cX2_plan 88 = .ok (.iinc 4 (-1), 3) := by decide +kernel
theorem dX2_plan_91 : decode cX2_plan 91 = .ok (.goto (-30), 3) := by decide +kernel
theorem dX2_plan_94 : decode cX2_plan 94 = .ok (.return_, 1) := by decide +kernel
theorem dX2_findTimes_0 : decode cX2_findTimes 0 = .ok (.aload_n 2, 1) := by decide +kernel
theorem dX2_findTimes_1 : decode cX2_findTimes 1 = .ok (.getfield 38, 3) := by decide +kernel
theorem dX2_findTimes_4 : decode cX2_findTimes 4 = .ok (.istore_n 3, 1) := by decide +kernel
theorem dX2_findTimes_5 : decode cX2_findTimes 5 = .ok (.aload_n 2, 1) := by decide +kernel
theorem dX2_findTimes_6 : decode cX2_findTimes 6 = .ok (.getfield 41, 3) := by decide +kernel
theorem dX2_findTimes_9 : decode cX2_findTimes 9 = .ok (.istore 4, 2) := by decide +kernel
theorem dX2_findTimes_11 : decode cX2_findTimes 11 = .ok (.iconst 0, 1) := by decide +kernel
theorem dX2_findTimes_12 : decode cX2_findTimes 12 = .ok (.istore 5, 2) := by decide +kernel
theorem dX2_findTimes_14 : decode cX2_findTimes 14 = .ok (.iload 5, 2) := by decide +kernel
theorem dX2_findTimes_16 : decode cX2_findTimes 16 = .ok (.aload_n 2, 1) := by decide +kernel
theorem dX2_findTimes_17 : decode cX2_findTimes 17 = .ok (.getfield 22, 3) := by decide +kernel
theorem dX2_findTimes_20 : decode cX2_findTimes 20 = .ok (.if_icmp .ge 50, 3) := by decide +kernel
theorem dX2_findTimes_23 : decode cX2_findTimes 23 = .ok (.aload_n 2, 1) := by decide +kernel
theorem dX2_findTimes_24 : decode cX2_findTimes 24 = .ok (.getfield 44, 3) := by decide +kernel
theorem dX2_findTimes_27 : decode cX2_findTimes 27 = .ok (.iload 5, 2) := by decide +kernel
theorem dX2_findTimes_29 : decode cX2_findTimes 29 = .ok (.iaload, 1) := by decide +kernel
theorem dX2_findTimes_30 : decode cX2_findTimes 30 = .ok (.istore 6, 2) := by decide +kernel
theorem dX2_findTimes_32 : decode cX2_findTimes 32 = .ok (.aload_n 1, 1) := by decide +kernel
theorem dX2_findTimes_33 : decode cX2_findTimes 33 = .ok (.aload_n 2, 1) := by decide +kernel
theorem dX2_findTimes_34 : decode cX2_findTimes 34 = .ok (.getfield 47, 3) := by decide +kernel
theorem dX2_findTimes_37 : decode cX2_findTimes 37 = .ok (.iload 6, 2) := by decide +kernel
theorem dX2_findTimes_39 : decode cX2_findTimes 39 = .ok (.iload_n 3, 1) := by decide +kernel
theorem dX2_findTimes_40 : decode cX2_findTimes 40 = .ok (.iload 4, 2) := by decide +kernel
theorem dX2_findTimes_42 : decode cX2_findTimes 42 = .ok (.invokevirtual 50, 3) := by decide +kernel
theorem dX2_findTimes_45 : decode cX2_findTimes 45 = .ok (.aload_n 0, 1) := by decide +kernel
theorem dX2_findTimes_46 : decode cX2_findTimes 46 = .ok (.getfield 9, 3) := by decide +kernel
theorem dX2_findTimes_49 : decode cX2_findTimes 49 = .ok (.iload 5, 2) := by decide +kernel
theorem dX2_findTimes_51 : decode cX2_findTimes 51 = .ok (.aload_n 1, 1) := by decide +kernel
theorem dX2_findTimes_52 : decode cX2_findTimes 52 = .ok (.iload 6, 2) := by decide +kernel
theorem dX2_findTimes_54 : decode cX2_findTimes 54 = .ok (.invokevirtual 56, 3) := by decide +kernel
theorem dX2_findTimes_57 : decode cX2_findTimes 57 = .ok (.iastore, 1) := by decide +kernel
theorem dX2_findTimes_58 : decode cX2_findTimes 58 = .ok (.iload_n 3, 1) := by decide +kernel
theorem dX2_findTimes_59 : decode cX2_findTimes 59 = .ok (.istore 4, 2) := by decide +kernel
theorem dX2_findTimes_61 : decode cX2_findTimes 61 = .ok (.iload 6, 2) := by decide +kernel
theorem dX2_findTimes_63 : decode cX2_findTimes 63 = .ok (.istore_n 3, 1) := by decide +kernel
theorem dX2_findTimes_64 : decode cX2_findTimes 64 = .ok (.iinc 5 1, 3) := by decide +kernel
theorem dX2_findTimes_67 : decode cX2_findTimes 67 = .ok (.goto (-53), 3) := by decide +kernel
theorem dX2_findTimes_70 : decode cX2_findTimes 70 = .ok (.return_, 1) := by decide +kernel
theorem dX2_mostAt_0 : decode cX2_mostAt 0 = .ok (.iconst 1, 1) := by decide +kernel
theorem dX2_mostAt_1 : decode cX2_mostAt 1 = .ok (.bipush 9, 2) := by decide +kernel
theorem dX2_mostAt_3 : decode cX2_mostAt 3 = .ok (.iload_n 0, 1) := by decide +kernel
theorem dX2_mostAt_4 : decode cX2_mostAt 4 = .ok (.bipush 9, 2) := by decide +kernel
theorem dX2_mostAt_6 : decode cX2_mostAt 6 = .ok (.idiv, 1) := by decide +kernel
theorem dX2_mostAt_7 : decode cX2_mostAt 7 = .ok (.isub, 1) := by decide +kernel
theorem dX2_mostAt_8 : decode cX2_mostAt 8 = .ok (.invokestatic 59, 3) := by decide +kernel
theorem dX2_mostAt_11 : decode cX2_mostAt 11 = .ok (.ireturn, 1) := by decide +kernel
theorem dX3_init_0 : decode cX3_init 0 = .ok (.aload_n 0, 1) := by decide +kernel
theorem dX3_init_1 : decode cX3_init 1 = .ok (.invokespecial 3, 3) := by decide +kernel
theorem dX3_init_4 : decode cX3_init 4 = .ok (.aload_n 0, 1) := by decide +kernel
theorem dX3_init_5 : decode cX3_init 5 = .ok (.bipush 6, 2) := by decide +kernel
theorem dX3_init_7 : decode cX3_init 7 = .ok (.newarray .int, 2) := by decide +kernel
theorem dX3_init_9 : decode cX3_init 9 = .ok (.putfield 9, 3) := by decide +kernel
theorem dX3_init_12 : decode cX3_init 12 = .ok (.aload_n 0, 1) := by decide +kernel
theorem dX3_init_13 : decode cX3_init 13 = .ok (.bipush 6, 2) := by decide +kernel
theorem dX3_init_15 : decode cX3_init 15 = .ok (.newarray .int, 2) := by decide +kernel
theorem dX3_init_17 : decode cX3_init 17 = .ok (.putfield 15, 3) := by decide +kernel
theorem dX3_init_20 : decode cX3_init 20 = .ok (.aload_n 0, 1) := by decide +kernel
theorem dX3_init_21 : decode cX3_init 21 = .ok (.bipush 6, 2) := by decide +kernel
theorem dX3_init_23 : decode cX3_init 23 = .ok (.newarray .int, 2) := by decide +kernel
theorem dX3_init_25 : decode cX3_init 25 = .ok (.putfield 18, 3) := by decide +kernel
theorem dX3_init_28 : decode cX3_init 28 = .ok (.return_, 1) := by decide +kernel
theorem dX3_append_0 : decode cX3_append 0 = .ok (.aload_n 0, 1) := by decide +kernel
theorem dX3_append_1 : decode cX3_append 1 = .ok (.getfield 21, 3) := by decide +kernel
theorem dX3_append_4 : decode cX3_append 4 = .ok (.bipush 6, 2) := by decide +kernel
theorem dX3_append_6 : decode cX3_append 6 = .ok (.if_icmp .lt 5, 3) := by decide +kernel
theorem dX3_append_9 : decode cX3_append 9 = .ok (.iconst 0, 1) := by decide +kernel
theorem dX3_append_10 : decode cX3_append 10 = .ok (.ireturn, 1) := by decide +kernel
theorem dX3_append_11 : decode cX3_append 11 = .ok (.aload_n 0, 1) := by decide +kernel
theorem dX3_append_12 : decode cX3_append 12 = .ok (.getfield 9, 3) := by decide +kernel
theorem dX3_append_15 : decode cX3_append 15 = .ok (.aload_n 0, 1) := by decide +kernel
theorem dX3_append_16 : decode cX3_append 16 = .ok (.getfield 21, 3) := by decide +kernel
theorem dX3_append_19 : decode cX3_append 19 = .ok (.iload_n 1, 1) := by decide +kernel
theorem dX3_append_20 : decode cX3_append 20 = .ok (.iastore, 1) := by decide +kernel
theorem dX3_append_21 : decode cX3_append 21 = .ok (.aload_n 0, 1) := by decide +kernel
theorem dX3_append_22 : decode cX3_append 22 = .ok (.getfield 15, 3) := by decide +kernel
theorem dX3_append_25 : decode cX3_append 25 = .ok (.aload_n 0, 1) := by decide +kernel
theorem dX3_append_26 : decode cX3_append 26 = .ok (.getfield 21, 3) := by decide +kernel
theorem dX3_append_29 : decode cX3_append 29 = .ok (.iload_n 2, 1) := by decide +kernel
theorem dX3_append_30 : decode cX3_append 30 = .ok (.iastore, 1) := by decide +kernel
theorem dX3_append_31 : decode cX3_append 31 = .ok (.aload_n 0, 1) := by decide +kernel
theorem dX3_append_32 : decode cX3_append 32 = .ok (.getfield 18, 3) := by decide +kernel
theorem dX3_append_35 : decode cX3_append 35 = .ok (.aload_n 0, 1) := by decide +kernel
theorem dX3_append_36 : decode cX3_append 36 = .ok (.getfield 21, 3) := by decide +kernel
theorem dX3_append_39 : decode cX3_append 39 = .ok (.iload_n 3, 1) := by decide +kernel
theorem dX3_append_40 : decode cX3_append 40 = .ok (.iastore, 1) := by decide +kernel
theorem dX3_append_41 : decode cX3_append 41 = .ok (.aload_n 0, 1) := by decide +kernel
theorem dX3_append_42 : decode cX3_append 42 = .ok (.dup, 1) := by decide +kernel
theorem dX3_append_43 : decode cX3_append 43 = .ok (.getfield 21, 3) := by decide +kernel
theorem dX3_append_46 : decode cX3_append 46 = .ok (.iconst 1, 1) := by decide +kernel
theorem dX3_append_47 : decode cX3_append 47 = .ok (.iadd, 1) := by decide +kernel
theorem dX3_append_48 : decode cX3_append 48 = .ok (.putfield 21, 3) := by decide +kernel
theorem dX3_append_51 : decode cX3_append 51 = .ok (.iconst 1, 1) := by decide +kernel
theorem dX3_append_52 : decode cX3_append 52 = .ok (.ireturn, 1) := by decide +kernel
theorem dX4_init_0 : decode cX4_init 0 = .ok (.aload_n 0, 1) := by decide +kernel
theorem dX4_init_1 : decode cX4_init 1 = .ok (.invokespecial 3, 3) := by decide +kernel
theorem dX4_init_4 : decode cX4_init 4 = .ok (.aload_n 0, 1) := by decide +kernel
theorem dX4_init_5 : decode cX4_init 5 = .ok (.iconst 2, 1) := by decide +kernel
theorem dX4_init_6 : decode cX4_init 6 = .ok (.anewarray 9, 3) := by decide +kernel
theorem dX4_init_9 : decode cX4_init 9 = .ok (.putfield 11, 3) := by decide +kernel
theorem dX4_init_12 : decode cX4_init 12 = .ok (.aload_n 0, 1) := by decide +kernel
theorem dX4_init_13 : decode cX4_init 13 = .ok (.iconst 2, 1) := by decide +kernel
theorem dX4_init_14 : decode cX4_init 14 = .ok (.newarray .boolean, 2) := by decide +kernel
theorem dX4_init_16 : decode cX4_init 16 = .ok (.putfield 17, 3) := by decide +kernel
theorem dX4_init_19 : decode cX4_init 19 = .ok (.iconst 0, 1) := by decide +kernel
theorem dX4_init_20 : decode cX4_init 20 = .ok (.istore_n 1, 1) := by decide +kernel
theorem dX4_init_21 : decode cX4_init 21 = .ok (.iload_n 1, 1) := by decide +kernel
theorem dX4_init_22 : decode cX4_init 22 = .ok (.iconst 2, 1) := by decide +kernel
theorem dX4_init_23 : decode cX4_init 23 = .ok (.if_icmp .ge 22, 3) := by decide +kernel
theorem dX4_init_26 : decode cX4_init 26 = .ok (.aload_n 0, 1) := by decide +kernel
theorem dX4_init_27 : decode cX4_init 27 = .ok (.getfield 11, 3) := by decide +kernel
theorem dX4_init_30 : decode cX4_init 30 = .ok (.iload_n 1, 1) := by decide +kernel
theorem dX4_init_31 : decode cX4_init 31 = .ok (.new 9, 3) := by decide +kernel
theorem dX4_init_34 : decode cX4_init 34 = .ok (.dup, 1) := by decide +kernel
theorem dX4_init_35 : decode cX4_init 35 = .ok (.invokespecial 21, 3) := by decide +kernel
theorem dX4_init_38 : decode cX4_init 38 = .ok (.aastore, 1) := by decide +kernel
theorem dX4_init_39 : decode cX4_init 39 = .ok (.iinc 1 1, 3) := by decide +kernel
theorem dX4_init_42 : decode cX4_init 42 = .ok (.goto (-21), 3) := by decide +kernel
theorem dX4_init_45 : decode cX4_init 45 = .ok (.return_, 1) := by decide +kernel
theorem dX4_isSlot_0 : decode cX4_isSlot 0 = .ok (.iload_n 0, 1) := by decide +kernel
theorem dX4_isSlot_1 : decode cX4_isSlot 1 = .ok (.ifCond .lt 12, 3) := by decide +kernel
theorem dX4_isSlot_4 : decode cX4_isSlot 4 = .ok (.iload_n 0, 1) := by decide +kernel
theorem dX4_isSlot_5 : decode cX4_isSlot 5 = .ok (.iconst 2, 1) := by decide +kernel
theorem dX4_isSlot_6 : decode cX4_isSlot 6 = .ok (.if_icmp .ge 7, 3) := by decide +kernel
theorem dX4_isSlot_9 : decode cX4_isSlot 9 = .ok (.iconst 1, 1) := by decide +kernel
theorem dX4_isSlot_10 : decode cX4_isSlot 10 = .ok (.goto 4, 3) := by decide +kernel
theorem dX4_isSlot_13 : decode cX4_isSlot 13 = .ok (.iconst 0, 1) := by decide +kernel
theorem dX4_isSlot_14 : decode cX4_isSlot 14 = .ok (.ireturn, 1) := by decide +kernel
theorem dX4_store_0 : decode cX4_store 0 = .ok (.iload_n 1, 1) := by decide +kernel
theorem dX4_store_1 : decode cX4_store 1 = .ok (.invokestatic 22, 3) := by decide +kernel
theorem dX4_store_4 : decode cX4_store 4 = .ok (.ifCond .eq 20, 3) := by decide +kernel
theorem dX4_store_7 : decode cX4_store 7 = .ok (.aload_n 0, 1) := by decide +kernel
theorem dX4_store_8 : decode cX4_store 8 = .ok (.getfield 11, 3) := by decide +kernel
theorem dX4_store_11 : decode cX4_store 11 = .ok (.iload_n 1, 1) := by decide +kernel
theorem dX4_store_12 : decode cX4_store 12 = .ok (.aaload, 1) := by decide +kernel
theorem dX4_store_13 : decode cX4_store 13 = .ok (.aload_n 2, 1) := by decide +kernel
theorem dX4_store_14 : decode cX4_store 14 = .ok (.invokevirtual 26, 3) := by decide +kernel
theorem dX4_store_17 : decode cX4_store 17 = .ok (.aload_n 0, 1) := by decide +kernel
theorem dX4_store_18 : decode cX4_store 18 = .ok (.getfield 17, 3) := by decide +kernel
theorem dX4_store_21 : decode cX4_store 21 = .ok (.iload_n 1, 1) := by decide +kernel
theorem dX4_store_22 : decode cX4_store 22 = .ok (.iconst 1, 1) := by decide +kernel
theorem dX4_store_23 : decode cX4_store 23 = .ok (.bastore, 1) := by decide +kernel
theorem dX4_store_24 : decode cX4_store 24 = .ok (.return_, 1) := by decide +kernel
theorem dX4_fetch_0 : decode cX4_fetch 0 = .ok (.iload_n 1, 1) := by decide +kernel
theorem dX4_fetch_1 : decode cX4_fetch 1 = .ok (.invokestatic 22, 3) := by decide +kernel
theorem dX4_fetch_4 : decode cX4_fetch 4 = .ok (.ifCond .eq 12, 3) := by decide +kernel
theorem dX4_fetch_7 : decode cX4_fetch 7 = .ok (.aload_n 0, 1) := by decide +kernel
theorem dX4_fetch_8 : decode cX4_fetch 8 = .ok (.getfield 17, 3) := by decide +kernel
theorem dX4_fetch_11 : decode cX4_fetch 11 = .ok (.iload_n 1, 1) := by decide +kernel
theorem dX4_fetch_12 : decode cX4_fetch 12 = .ok (.baload, 1) := by decide +kernel
theorem dX4_fetch_13 : decode cX4_fetch 13 = .ok (.ifCond .ne 5, 3) := by decide +kernel
theorem dX4_fetch_16 : decode cX4_fetch 16 = .ok (.iconst 0, 1) := by decide +kernel
theorem dX4_fetch_17 : decode cX4_fetch 17 = .ok (.ireturn, 1) := by decide +kernel
theorem dX4_fetch_18 : decode cX4_fetch 18 = .ok (.aload_n 2, 1) := by decide +kernel
theorem dX4_fetch_19 : decode cX4_fetch 19 = .ok (.aload_n 0, 1) := by decide +kernel
theorem dX4_fetch_20 : decode cX4_fetch 20 = .ok (.getfield 11, 3) := by decide +kernel
theorem dX4_fetch_23 : decode cX4_fetch 23 = .ok (.iload_n 1, 1) := by decide +kernel
theorem dX4_fetch_24 : decode cX4_fetch 24 = .ok (.aaload, 1) := by decide +kernel
theorem dX4_fetch_25 : decode cX4_fetch 25 = .ok (.invokevirtual 26, 3) := by decide +kernel
theorem dX4_fetch_28 : decode cX4_fetch 28 = .ok (.iconst 1, 1) := by decide +kernel
theorem dX4_fetch_29 : decode cX4_fetch 29 = .ok (.ireturn, 1) := by decide +kernel
theorem dX4_forgetAll_0 : decode cX4_forgetAll 0 = .ok (.iconst 0, 1) := by decide +kernel
theorem dX4_forgetAll_1 : decode cX4_forgetAll 1 = .ok (.istore_n 1, 1) := by decide +kernel
theorem dX4_forgetAll_2 : decode cX4_forgetAll 2 = .ok (.iload_n 1, 1) := by decide +kernel
theorem dX4_forgetAll_3 : decode cX4_forgetAll 3 = .ok (.iconst 2, 1) := by decide +kernel
theorem dX4_forgetAll_4 : decode cX4_forgetAll 4 = .ok (.if_icmp .ge 16, 3) := by decide +kernel
theorem dX4_forgetAll_7 : decode cX4_forgetAll 7 = .ok (.aload_n 0, 1) := by decide +kernel
theorem dX4_forgetAll_8 : decode cX4_forgetAll 8 = .ok (.getfield 17, 3) := by decide +kernel
theorem dX4_forgetAll_11 : decode cX4_forgetAll 11 = .ok (.iload_n 1, 1) := by decide +kernel
theorem dX4_forgetAll_12 : decode cX4_forgetAll 12 = .ok (.iconst 0, 1) := by decide +kernel
theorem dX4_forgetAll_13 : decode cX4_forgetAll 13 = .ok (.bastore, 1) := by decide +kernel
theorem dX4_forgetAll_14 : decode cX4_forgetAll 14 = .ok (.iinc 1 1, 3) := by decide +kernel
theorem dX4_forgetAll_17 : decode cX4_forgetAll 17 = .ok (.goto (-15), 3) := by decide +kernel
theorem dX4_forgetAll_20 : decode cX4_forgetAll 20 = .ok (.return_, 1) := by decide +kernel
theorem dX5_init_0 : decode cX5_init 0 = .ok (.aload_n 0, 1) := by decide +kernel
theorem dX5_init_1 : decode cX5_init 1 = .ok (.invokespecial 3, 3) := by decide +kernel
theorem dX5_init_4 : decode cX5_init 4 = .ok (.aload_n 0, 1) := by decide +kernel
theorem dX5_init_5 : decode cX5_init 5 = .ok (.bipush 8, 2) := by decide +kernel
theorem dX5_init_7 : decode cX5_init 7 = .ok (.newarray .int, 2) := by decide +kernel
theorem dX5_init_9 : decode cX5_init 9 = .ok (.putfield 9, 3) := by decide +kernel
theorem dX5_init_12 : decode cX5_init 12 = .ok (.aload_n 0, 1) := by decide +kernel
theorem dX5_init_13 : decode cX5_init 13 = .ok (.iconst 5, 1) := by decide +kernel
theorem dX5_init_14 : decode cX5_init 14 = .ok (.newarray .int, 2) := by decide +kernel
theorem dX5_init_16 : decode cX5_init 16 = .ok (.putfield 15, 3) := by decide +kernel
theorem dX5_init_19 : decode cX5_init 19 = .ok (.aload_n 0, 1) := by decide +kernel
theorem dX5_init_20 : decode cX5_init 20 = .ok (.bipush 8, 2) := by decide +kernel
theorem dX5_init_22 : decode cX5_init 22 = .ok (.newarray .int, 2) := by decide +kernel
theorem dX5_init_24 : decode cX5_init 24 = .ok (.putfield 18, 3) := by decide +kernel
theorem dX5_init_27 : decode cX5_init 27 = .ok (.return_, 1) := by decide +kernel
theorem dX5_copyFrom_0 : decode cX5_copyFrom 0 = .ok (.aload_n 1, 1) := by decide +kernel
theorem dX5_copyFrom_1 : decode cX5_copyFrom 1 = .ok (.getfield 9, 3) := by decide +kernel
theorem dX5_copyFrom_4 : decode cX5_copyFrom 4 = .ok (.iconst 0, 1) := by decide +kernel
theorem dX5_copyFrom_5 : decode cX5_copyFrom 5 = .ok (.aload_n 0, 1) := by decide +kernel
theorem dX5_copyFrom_6 : decode cX5_copyFrom 6 = .ok (.getfield 9, 3) := by decide +kernel
theorem dX5_copyFrom_9 : decode cX5_copyFrom 9 = .ok (.iconst 0, 1) := by decide +kernel
theorem dX5_copyFrom_10 : decode cX5_copyFrom 10 = .ok (.bipush 8, 2) := by decide +kernel
theorem dX5_copyFrom_12 : decode cX5_copyFrom 12 = .ok (.invokestatic 21, 3) := by decide +kernel
theorem dX5_copyFrom_15 : decode cX5_copyFrom 15 = .ok (.aload_n 1, 1) := by decide +kernel
theorem dX5_copyFrom_16 : decode cX5_copyFrom 16 = .ok (.getfield 15, 3) := by decide +kernel
theorem dX5_copyFrom_19 : decode cX5_copyFrom 19 = .ok (.iconst 0, 1) := by decide +kernel
theorem dX5_copyFrom_20 : decode cX5_copyFrom 20 = .ok (.aload_n 0, 1) := by decide +kernel
theorem dX5_copyFrom_21 : decode cX5_copyFrom 21 = .ok (.getfield 15, 3) := by decide +kernel
theorem dX5_copyFrom_24 : decode cX5_copyFrom 24 = .ok (.iconst 0, 1) := by decide +kernel
theorem dX5_copyFrom_25 : decode cX5_copyFrom 25 = .ok (.iconst 5, 1) := by decide +kernel
theorem dX5_copyFrom_26 : decode cX5_copyFrom 26 = .ok (.invokestatic 21, 3) := by decide +kernel
theorem dX5_copyFrom_29 : decode cX5_copyFrom 29 = .ok (.aload_n 1, 1) := by decide +kernel
theorem dX5_copyFrom_30 : decode cX5_copyFrom 30 = .ok (.getfield 18, 3) := by decide +kernel
theorem dX5_copyFrom_33 : decode cX5_copyFrom 33 = .ok (.iconst 0, 1) := by decide +kernel
theorem dX5_copyFrom_34 : decode cX5_copyFrom 34 = .ok (.aload_n 0, 1) := by decide +kernel
theorem dX5_copyFrom_35 : decode cX5_copyFrom 35 = .ok (.getfield 18, 3) := by decide +kernel
theorem dX5_copyFrom_38 : decode cX5_copyFrom 38 = .ok (.iconst 0, 1) := by decide +kernel
theorem dX5_copyFrom_39 : decode cX5_copyFrom 39 = .ok (.bipush 8, 2) := by decide +kernel
theorem dX5_copyFrom_41 : decode cX5_copyFrom 41 = .ok (.invokestatic 21, 3) := by decide +kernel
theorem dX5_copyFrom_44 : decode cX5_copyFrom 44 = .ok (.aload_n 0, 1) := by decide +kernel
theorem dX5_copyFrom_45 : decode cX5_copyFrom 45 = .ok (.aload_n 1, 1) := by decide +kernel
theorem dX5_copyFrom_46 : decode cX5_copyFrom 46 = .ok (.getfield 27, 3) := by decide +kernel
theorem dX5_copyFrom_49 : decode cX5_copyFrom 49 = .ok (.putfield 27, 3) := by decide +kernel
theorem dX5_copyFrom_52 : decode cX5_copyFrom 52 = .ok (.aload_n 0, 1) := by decide +kernel
theorem dX5_copyFrom_53 : decode cX5_copyFrom 53 = .ok (.aload_n 1, 1) := by decide +kernel
theorem dX5_copyFrom_54 : decode cX5_copyFrom 54 = .ok (.getfield 31, 3) := by decide +kernel
theorem dX5_copyFrom_57 : decode cX5_copyFrom 57 = .ok (.putfield 31, 3) := by decide +kernel
theorem dX5_copyFrom_60 : decode cX5_copyFrom 60 = .ok (.aload_n 0, 1) := by decide +kernel
theorem dX5_copyFrom_61 : decode cX5_copyFrom 61 = .ok (.aload_n 1, 1) := by decide +kernel
theorem dX5_copyFrom_62 : decode cX5_copyFrom 62 = .ok (.getfield 34, 3) := by decide +kernel
theorem dX5_copyFrom_65 : decode cX5_copyFrom 65 = .ok (.putfield 34, 3) := by decide +kernel
theorem dX5_copyFrom_68 : decode cX5_copyFrom 68 = .ok (.aload_n 0, 1) := by decide +kernel
theorem dX5_copyFrom_69 : decode cX5_copyFrom 69 = .ok (.aload_n 1, 1) := by decide +kernel
theorem dX5_copyFrom_70 : decode cX5_copyFrom 70 = .ok (.getfield 37, 3) := by decide +kernel
theorem dX5_copyFrom_73 : decode cX5_copyFrom 73 = .ok (.putfield 37, 3) := by decide +kernel
theorem dX5_copyFrom_76 : decode cX5_copyFrom 76 = .ok (.aload_n 0, 1) := by decide +kernel
theorem dX5_copyFrom_77 : decode cX5_copyFrom 77 = .ok (.aload_n 1, 1) := by decide +kernel
theorem dX5_copyFrom_78 : decode cX5_copyFrom 78 = .ok (.getfield 40, 3) := by decide +kernel
theorem dX5_copyFrom_81 : decode cX5_copyFrom 81 = .ok (.putfield 40, 3) := by decide +kernel
theorem dX5_copyFrom_84 : decode cX5_copyFrom 84 = .ok (.aload_n 0, 1) := by decide +kernel
theorem dX5_copyFrom_85 : decode cX5_copyFrom 85 = .ok (.aload_n 1, 1) := by decide +kernel
theorem dX5_copyFrom_86 : decode cX5_copyFrom 86 = .ok (.getfield 43, 3) := by decide +kernel
theorem dX5_copyFrom_89 : decode cX5_copyFrom 89 = .ok (.putfield 43, 3) := by decide +kernel
theorem dX5_copyFrom_92 : decode cX5_copyFrom 92 = .ok (.aload_n 0, 1) := by decide +kernel
theorem dX5_copyFrom_93 : decode cX5_copyFrom 93 = .ok (.aload_n 1, 1) := by decide +kernel
theorem dX5_copyFrom_94 : decode cX5_copyFrom 94 = .ok (.getfield 46, 3) := by decide +kernel
theorem dX5_copyFrom_97 : decode cX5_copyFrom 97 = .ok (.putfield 46, 3) := by decide +kernel
theorem dX5_copyFrom_100 : decode cX5_copyFrom 100 = .ok (.aload_n 0, 1) := by decide +kernel
theorem dX5_copyFrom_101 : decode cX5_copyFrom 101 = .ok (.aload_n 1, 1) := by decide +kernel
theorem dX5_copyFrom_102 : decode cX5_copyFrom 102 = .ok (.getfield 49, 3) := by decide +kernel
theorem dX5_copyFrom_105 : decode cX5_copyFrom 105 = .ok (.putfield 49, 3) := by decide +kernel
theorem dX5_copyFrom_108 : decode cX5_copyFrom 108 = .ok (.aload_n 0, 1) := by decide +kernel
theorem dX5_copyFrom_109 : decode cX5_copyFrom 109 = .ok (.aload_n 1, 1) := by decide +kernel
theorem dX5_copyFrom_110 : decode cX5_copyFrom 110 = .ok (.getfield 52, 3) := by decide +kernel
theorem dX5_copyFrom_113 : decode cX5_copyFrom 113 = .ok (.putfield 52, 3) := by decide +kernel
theorem dX5_copyFrom_116 : decode cX5_copyFrom 116 = .ok (.return_, 1) := by decide +kernel
theorem dX5_startAnew_0 : decode cX5_startAnew 0 = .ok (.iconst 0, 1) := by decide +kernel
theorem dX5_startAnew_1 : decode cX5_startAnew 1 = .ok (.istore_n 1, 1) := by decide +kernel
theorem dX5_startAnew_2 : decode cX5_startAnew 2 = .ok (.iload_n 1, 1) := by decide +kernel
theorem dX5_startAnew_3 : decode cX5_startAnew 3 = .ok (.bipush 8, 2) := by decide +kernel
theorem dX5_startAnew_5 : decode cX5_startAnew 5 = .ok (.if_icmp .ge 16, 3) := by decide +kernel
theorem dX5_startAnew_8 : decode cX5_startAnew 8 = .ok (.aload_n 0, 1) := by decide +kernel
theorem dX5_startAnew_9 : decode cX5_startAnew 9 = .ok (.getfield 9, 3) := by decide +kernel
theorem dX5_startAnew_12 : decode cX5_startAnew 12 = .ok (.iload_n 1, 1) := by decide +kernel
theorem dX5_startAnew_13 : decode cX5_startAnew 13 = .ok (.iconst 0, 1) := by decide +kernel
theorem dX5_startAnew_14 : decode cX5_startAnew 14 = .ok (.iastore, 1) := by decide +kernel
theorem dX5_startAnew_15 : decode cX5_startAnew 15 = .ok (.iinc 1 1, 3) := by decide +kernel
theorem dX5_startAnew_18 : decode cX5_startAnew 18 = .ok (.goto (-16), 3) := by decide +kernel
theorem dX5_startAnew_21 : decode cX5_startAnew 21 = .ok (.aload_n 0, 1) := by decide +kernel
theorem dX5_startAnew_22 : decode cX5_startAnew 22 = .ok (.iconst 0, 1) := by decide +kernel
theorem dX5_startAnew_23 : decode cX5_startAnew 23 = .ok (.putfield 27, 3) := by decide +kernel
theorem dX5_startAnew_26 : decode cX5_startAnew 26 = .ok (.aload_n 0, 1) := by decide +kernel
theorem dX5_startAnew_27 : decode cX5_startAnew 27 = .ok (.iconst 0, 1) := by decide +kernel
theorem dX5_startAnew_28 : decode cX5_startAnew 28 = .ok (.putfield 31, 3) := by decide +kernel
theorem dX5_startAnew_31 : decode cX5_startAnew 31 = .ok (.aload_n 0, 1) := by decide +kernel
theorem dX5_startAnew_32 : decode cX5_startAnew 32 = .ok (.iconst 0, 1) := by decide +kernel
theorem dX5_startAnew_33 : decode cX5_startAnew 33 = .ok (.putfield 34, 3) := by decide +kernel
theorem dX5_startAnew_36 : decode cX5_startAnew 36 = .ok (.aload_n 0, 1) := by decide +kernel
theorem dX5_startAnew_37 : decode cX5_startAnew 37 = .ok (.bipush 99, 2) := by decide +kernel
theorem dX5_startAnew_39 : decode cX5_startAnew 39 = .ok (.putfield 37, 3) := by decide +kernel
theorem dX5_startAnew_42 : decode cX5_startAnew 42 = .ok (.aload_n 0, 1) := by decide +kernel
theorem dX5_startAnew_43 : decode cX5_startAnew 43 = .ok (.iconst 0, 1) := by decide +kernel
theorem dX5_startAnew_44 : decode cX5_startAnew 44 = .ok (.putfield 40, 3) := by decide +kernel
theorem dX5_startAnew_47 : decode cX5_startAnew 47 = .ok (.aload_n 0, 1) := by decide +kernel
theorem dX5_startAnew_48 : decode cX5_startAnew 48 = .ok (.iconst 0, 1) := by decide +kernel
theorem dX5_startAnew_49 : decode cX5_startAnew 49 = .ok (.putfield 43, 3) := by decide +kernel
theorem dX5_startAnew_52 : decode cX5_startAnew 52 = .ok (.aload_n 0, 1) := by decide +kernel
theorem dX5_startAnew_53 : decode cX5_startAnew 53 = .ok (.iconst 0, 1) := by decide +kernel
theorem dX5_startAnew_54 : decode cX5_startAnew 54 = .ok (.putfield 46, 3) := by decide +kernel
theorem dX5_startAnew_57 : decode cX5_startAnew 57 = .ok (.aload_n 0, 1) := by decide +kernel
theorem dX5_startAnew_58 : decode cX5_startAnew 58 = .ok (.iconst 0, 1) := by decide +kernel
theorem dX5_startAnew_59 : decode cX5_startAnew 59 = .ok (.putfield 49, 3) := by decide +kernel
theorem dX5_startAnew_62 : decode cX5_startAnew 62 = .ok (.aload_n 0, 1) := by decide +kernel
theorem dX5_startAnew_63 : decode cX5_startAnew 63 = .ok (.iconst 0, 1) := by decide +kernel
theorem dX5_startAnew_64 : decode cX5_startAnew 64 = .ok (.putfield 52, 3) := by decide +kernel
theorem dX5_startAnew_67 : decode cX5_startAnew 67 = .ok (.return_, 1) := by decide +kernel
theorem dX5_isFull_0 : decode cX5_isFull 0 = .ok (.aload_n 0, 1) := by decide +kernel
theorem dX5_isFull_1 : decode cX5_isFull 1 = .ok (.getfield 27, 3) := by decide +kernel
theorem dX5_isFull_4 : decode cX5_isFull 4 = .ok (.bipush 8, 2) := by decide +kernel
theorem dX5_isFull_6 : decode cX5_isFull 6 = .ok (.if_icmp .lt 7, 3) := by decide +kernel
theorem dX5_isFull_9 : decode cX5_isFull 9 = .ok (.iconst 1, 1) := by decide +kernel
theorem dX5_isFull_10 : decode cX5_isFull 10 = .ok (.goto 4, 3) := by decide +kernel
theorem dX5_isFull_13 : decode cX5_isFull 13 = .ok (.iconst 0, 1) := by decide +kernel
theorem dX5_isFull_14 : decode cX5_isFull 14 = .ok (.ireturn, 1) := by decide +kernel
theorem dX5_append_0 : decode cX5_append 0 = .ok (.aload_n 0, 1) := by decide +kernel
theorem dX5_append_1 : decode cX5_append 1 = .ok (.getfield 27, 3) := by decide +kernel
theorem dX5_append_4 : decode cX5_append 4 = .ok (.bipush 8, 2) := by decide +kernel
theorem dX5_append_6 : decode cX5_append 6 = .ok (.if_icmp .ge 23, 3) := by decide +kernel
theorem dX5_append_9 : decode cX5_append 9 = .ok (.aload_n 0, 1) := by decide +kernel
theorem dX5_append_10 : decode cX5_append 10 = .ok (.getfield 18, 3) := by decide +kernel
theorem dX5_append_13 : decode cX5_append 13 = .ok (.aload_n 0, 1) := by decide +kernel
theorem dX5_append_14 : decode cX5_append 14 = .ok (.getfield 27, 3) := by decide +kernel
theorem dX5_append_17 : decode cX5_append 17 = .ok (.iload_n 1, 1) := by decide +kernel
theorem dX5_append_18 : decode cX5_append 18 = .ok (.iastore, 1) := by decide +kernel
theorem dX5_append_19 : decode cX5_append 19 = .ok (.aload_n 0, 1) := by decide +kernel
theorem dX5_append_20 : decode cX5_append 20 = .ok (.dup, 1) := by decide +kernel
theorem dX5_append_21 : decode cX5_append 21 = .ok (.getfield 27, 3) := by decide +kernel
theorem dX5_append_24 : decode cX5_append 24 = .ok (.iconst 1, 1) := by decide +kernel
theorem dX5_append_25 : decode cX5_append 25 = .ok (.iadd, 1) := by decide +kernel
theorem dX5_append_26 : decode cX5_append 26 = .ok (.putfield 27, 3) := by decide +kernel
theorem dX5_append_29 : decode cX5_append 29 = .ok (.return_, 1) := by decide +kernel
theorem dX5_dropFirst_0 : decode cX5_dropFirst 0 = .ok (.iconst 1, 1) := by decide +kernel
theorem dX5_dropFirst_1 : decode cX5_dropFirst 1 = .ok (.istore_n 1, 1) := by decide +kernel
theorem dX5_dropFirst_2 : decode cX5_dropFirst 2 = .ok (.iload_n 1, 1) := by decide +kernel
theorem dX5_dropFirst_3 : decode cX5_dropFirst 3 = .ok (.aload_n 0, 1) := by decide +kernel
theorem dX5_dropFirst_4 : decode cX5_dropFirst 4 = .ok (.getfield 27, 3) := by decide +kernel
theorem dX5_dropFirst_7 : decode cX5_dropFirst 7 = .ok (.if_icmp .ge 23, 3) := by decide +kernel
theorem dX5_dropFirst_10 : decode cX5_dropFirst 10 = .ok (.aload_n 0, 1) := by decide +kernel
theorem dX5_dropFirst_11 : decode cX5_dropFirst 11 = .ok (.getfield 18, 3) := by decide +kernel
theorem dX5_dropFirst_14 : decode cX5_dropFirst 14 = .ok (.iload_n 1, 1) := by decide +kernel
theorem dX5_dropFirst_15 : decode cX5_dropFirst 15 = .ok (.iconst 1, 1) := by decide +kernel
theorem dX5_dropFirst_16 : decode cX5_dropFirst 16 = .ok (.isub, 1) := by decide +kernel
theorem dX5_dropFirst_17 : decode cX5_dropFirst 17 = .ok (.aload_n 0, 1) := by decide +kernel
theorem dX5_dropFirst_18 : decode cX5_dropFirst 18 = .ok (.getfield 18, 3) := by decide +kernel
theorem dX5_dropFirst_21 : decode cX5_dropFirst 21 = .ok (.iload_n 1, 1) := by decide +kernel
theorem dX5_dropFirst_22 : decode cX5_dropFirst 22 = .ok (.iaload, 1) := by decide +kernel
theorem dX5_dropFirst_23 : decode cX5_dropFirst 23 = .ok (.iastore, 1) := by decide +kernel
theorem dX5_dropFirst_24 : decode cX5_dropFirst 24 = .ok (.iinc 1 1, 3) := by decide +kernel
theorem dX5_dropFirst_27 : decode cX5_dropFirst 27 = .ok (.goto (-25), 3) := by decide +kernel
theorem dX5_dropFirst_30 : decode cX5_dropFirst 30 = .ok (.aload_n 0, 1) := by decide +kernel
theorem dX5_dropFirst_31 : decode cX5_dropFirst 31 = .ok (.iconst 0, 1) := by decide +kernel
theorem dX5_dropFirst_32 : decode cX5_dropFirst 32 = .ok (.aload_n 0, 1) := by decide +kernel
theorem dX5_dropFirst_33 : decode cX5_dropFirst 33 = .ok (.getfield 27, 3) := by decide +kernel
theorem dX5_dropFirst_36 : decode cX5_dropFirst 36 = .ok (.iconst 1, 1) := by decide +kernel
theorem dX5_dropFirst_37 : decode cX5_dropFirst 37 = .ok (.isub, 1) := by decide +kernel
theorem dX5_dropFirst_38 : decode cX5_dropFirst 38 = .ok (.invokestatic 55, 3) := by decide +kernel
theorem dX5_dropFirst_41 : decode cX5_dropFirst 41 = .ok (.putfield 27, 3) := by decide +kernel
theorem dX5_dropFirst_44 : decode cX5_dropFirst 44 = .ok (.return_, 1) := by decide +kernel
theorem dX5_mayTell_0 : decode cX5_mayTell 0 = .ok (.iload_n 1, 1) := by decide +kernel
theorem dX5_mayTell_1 : decode cX5_mayTell 1 = .ok (.invokestatic 61, 3) := by decide +kernel
theorem dX5_mayTell_4 : decode cX5_mayTell 4 = .ok (.ifCond .ne 5, 3) := by decide +kernel
theorem dX5_mayTell_7 : decode cX5_mayTell 7 = .ok (.iconst 0, 1) := by decide +kernel
theorem dX5_mayTell_8 : decode cX5_mayTell 8 = .ok (.ireturn, 1) := by decide +kernel
theorem dX5_mayTell_9 : decode cX5_mayTell 9 = .ok (.iload_n 1, 1) := by decide +kernel
theorem dX5_mayTell_10 : decode cX5_mayTell 10 = .ok (.ifCond .ne 8, 3) := by decide +kernel
theorem dX5_mayTell_13 : decode cX5_mayTell 13 = .ok (.bipush 9, 2) := by decide +kernel
theorem dX5_mayTell_15 : decode cX5_mayTell 15 = .ok (.goto 11, 3) := by decide +kernel
theorem dX5_mayTell_18 : decode cX5_mayTell 18 = .ok (.aload_n 0, 1) := by decide +kernel
theorem dX5_mayTell_19 : decode cX5_mayTell 19 = .ok (.getfield 15, 3) := by decide +kernel
theorem dX5_mayTell_22 : decode cX5_mayTell 22 = .ok (.iload_n 1, 1) := by decide +kernel
theorem dX5_mayTell_23 : decode cX5_mayTell 23 = .ok (.iconst 1, 1) := by decide +kernel
theorem dX5_mayTell_24 : decode cX5_mayTell 24 = .ok (.isub, 1) := by decide +kernel
theorem dX5_mayTell_25 : decode cX5_mayTell 25 = .ok (.iaload, 1) := by decide +kernel
theorem dX5_mayTell_26 : decode cX5_mayTell 26 = .ok (.istore_n 3, 1) := by decide +kernel
theorem dX5_mayTell_27 : decode cX5_mayTell 27 = .ok (.iload_n 1, 1) := by decide +kernel
theorem dX5_mayTell_28 : decode cX5_mayTell 28 = .ok (.iconst 4, 1) := by decide +kernel
theorem dX5_mayTell_29 : decode cX5_mayTell 29 = .ok (.if_icmp .ne 7, 3) := by decide +kernel
theorem dX5_mayTell_32 : decode cX5_mayTell 32 = .ok (.iconst 0, 1) := by decide +kernel
theorem dX5_mayTell_33 : decode cX5_mayTell 33 = .ok (.goto 11, 3) := by decide +kernel
theorem dX5_mayTell_36 : decode cX5_mayTell 36 = .ok (.aload_n 0, 1) := by decide +kernel
theorem dX5_mayTell_37 : decode cX5_mayTell 37 = .ok (.getfield 15, 3) := by decide +kernel
theorem dX5_mayTell_40 : decode cX5_mayTell 40 = .ok (.iload_n 1, 1) := by decide +kernel
theorem dX5_mayTell_41 : decode cX5_mayTell 41 = .ok (.iconst 1, 1) := by decide +kernel
theorem dX5_mayTell_42 : decode cX5_mayTell 42 = .ok (.iadd, 1) := by decide +kernel
theorem dX5_mayTell_43 : decode cX5_mayTell 43 = .ok (.iaload, 1) := by decide +kernel
theorem dX5_mayTell_44 : decode cX5_mayTell 44 = .ok (.istore 4, 2) := by decide +kernel
theorem dX5_mayTell_46 : decode cX5_mayTell 46 = .ok (.iload_n 2, 1) := by decide +kernel
theorem dX5_mayTell_47 : decode cX5_mayTell 47 = .ok (.iload 4, 2) := by decide +kernel
theorem dX5_mayTell_49 : decode cX5_mayTell 49 = .ok (.if_icmp .lt 12, 3) := by decide +kernel
theorem dX5_mayTell_52 : decode cX5_mayTell 52 = .ok (.iload_n 2, 1) := by decide +kernel
theorem dX5_mayTell_53 : decode cX5_mayTell 53 = .ok (.iload_n 3, 1) := by decide +kernel
theorem dX5_mayTell_54 : decode cX5_mayTell 54 = .ok (.if_icmp .gt 7, 3) := by decide +kernel
theorem dX5_mayTell_57 : decode cX5_mayTell 57 = .ok (.iconst 1, 1) := by decide +kernel
theorem dX5_mayTell_58 : decode cX5_mayTell 58 = .ok (.goto 4, 3) := by decide +kernel
theorem dX5_mayTell_61 : decode cX5_mayTell 61 = .ok (.iconst 0, 1) := by decide +kernel
theorem dX5_mayTell_62 : decode cX5_mayTell 62 = .ok (.ireturn, 1) := by decide +kernel
theorem dX5_allHeat_0 : decode cX5_allHeat 0 = .ok (.iconst 0, 1) := by decide +kernel
theorem dX5_allHeat_1 : decode cX5_allHeat 1 = .ok (.istore_n 1, 1) := by decide +kernel
theorem dX5_allHeat_2 : decode cX5_allHeat 2 = .ok (.iconst 0, 1) := by decide +kernel
theorem dX5_allHeat_3 : decode cX5_allHeat 3 = .ok (.istore_n 2, 1) := by decide +kernel
theorem dX5_allHeat_4 : decode cX5_allHeat 4 = .ok (.iload_n 2, 1) := by decide +kernel
theorem dX5_allHeat_5 : decode cX5_allHeat 5 = .ok (.bipush 8, 2) := by decide +kernel
theorem dX5_allHeat_7 : decode cX5_allHeat 7 = .ok (.if_icmp .ge 18, 3) := by decide +kernel
theorem dX5_allHeat_10 : decode cX5_allHeat 10 = .ok (.iload_n 1, 1) := by decide +kernel
theorem dX5_allHeat_11 : decode cX5_allHeat 11 = .ok (.aload_n 0, 1) := by decide +kernel
theorem dX5_allHeat_12 : decode cX5_allHeat 12 = .ok (.getfield 9, 3) := by decide +kernel
theorem dX5_allHeat_15 : decode cX5_allHeat 15 = .ok (.iload_n 2, 1) := by decide +kernel
theorem dX5_allHeat_16 : decode cX5_allHeat 16 = .ok (.iaload, 1) := by decide +kernel
theorem dX5_allHeat_17 : decode cX5_allHeat 17 = .ok (.iadd, 1) := by decide +kernel
theorem dX5_allHeat_18 : decode cX5_allHeat 18 = .ok (.istore_n 1, 1) := by decide +kernel
theorem dX5_allHeat_19 : decode cX5_allHeat 19 = .ok (.iinc 2 1, 3) := by decide +kernel
theorem dX5_allHeat_22 : decode cX5_allHeat 22 = .ok (.goto (-18), 3) := by decide +kernel
theorem dX5_allHeat_25 : decode cX5_allHeat 25 = .ok (.iload_n 1, 1) := by decide +kernel
theorem dX5_allHeat_26 : decode cX5_allHeat 26 = .ok (.ireturn, 1) := by decide +kernel
theorem dX6_init_0 : decode cX6_init 0 = .ok (.aload_n 0, 1) := by decide +kernel
theorem dX6_init_1 : decode cX6_init 1 = .ok (.invokespecial 3, 3) := by decide +kernel
theorem dX6_init_4 : decode cX6_init 4 = .ok (.aload_n 0, 1) := by decide +kernel
theorem dX6_init_5 : decode cX6_init 5 = .ok (.bipush 99, 2) := by decide +kernel
theorem dX6_init_7 : decode cX6_init 7 = .ok (.newarray .int, 2) := by decide +kernel
theorem dX6_init_9 : decode cX6_init 9 = .ok (.putfield 9, 3) := by decide +kernel
theorem dX6_init_12 : decode cX6_init 12 = .ok (.return_, 1) := by decide +kernel
theorem dX6_append_0 : decode cX6_append 0 = .ok (.aload_n 0, 1) := by decide +kernel
theorem dX6_append_1 : decode cX6_append 1 = .ok (.getfield 15, 3) := by decide +kernel
theorem dX6_append_4 : decode cX6_append 4 = .ok (.bipush 99, 2) := by decide +kernel
theorem dX6_append_6 : decode cX6_append 6 = .ok (.if_icmp .lt 5, 3) := by decide +kernel
theorem dX6_append_9 : decode cX6_append 9 = .ok (.iconst 0, 1) := by decide +kernel
theorem dX6_append_10 : decode cX6_append 10 = .ok (.ireturn, 1) := by decide +kernel
theorem dX6_append_11 : decode cX6_append 11 = .ok (.aload_n 0, 1) := by decide +kernel
theorem dX6_append_12 : decode cX6_append 12 = .ok (.getfield 9, 3) := by decide +kernel
theorem dX6_append_15 : decode cX6_append 15 = .ok (.aload_n 0, 1) := by decide +kernel
theorem dX6_append_16 : decode cX6_append 16 = .ok (.getfield 15, 3) := by decide +kernel
theorem dX6_append_19 : decode cX6_append 19 = .ok (.iload_n 1, 1) := by decide +kernel
theorem dX6_append_20 : decode cX6_append 20 = .ok (.iastore, 1) := by decide +kernel
theorem dX6_append_21 : decode cX6_append 21 = .ok (.aload_n 0, 1) := by decide +kernel
theorem dX6_append_22 : decode cX6_append 22 = .ok (.dup, 1) := by decide +kernel
theorem dX6_append_23 : decode cX6_append 23 = .ok (.getfield 15, 3) := by decide +kernel
theorem dX6_append_26 : decode cX6_append 26 = .ok (.iconst 1, 1) := by decide +kernel
theorem dX6_append_27 : decode cX6_append 27 = .ok (.iadd, 1) := by decide +kernel
theorem dX6_append_28 : decode cX6_append 28 = .ok (.putfield 15, 3) := by decide +kernel
theorem dX6_append_31 : decode cX6_append 31 = .ok (.iconst 1, 1) := by decide +kernel
theorem dX6_append_32 : decode cX6_append 32 = .ok (.ireturn, 1) := by decide +kernel
theorem dX6_firstFault_0 : decode cX6_firstFault 0 = .ok (.iconst 0, 1) := by decide +kernel
theorem dX6_firstFault_1 : decode cX6_firstFault 1 = .ok (.istore_n 1, 1) := by decide +kernel
theorem dX6_firstFault_2 : decode cX6_firstFault 2 = .ok (.iload_n 1, 1) := by decide +kernel
theorem dX6_firstFault_3 : decode cX6_firstFault 3 = .ok (.aload_n 0, 1) := by decide +kernel
theorem dX6_firstFault_4 : decode cX6_firstFault 4 = .ok (.getfield 15, 3) := by decide +kernel
theorem dX6_firstFault_7 : decode cX6_firstFault 7 = .ok (.if_icmp .ge 19, 3) := by decide +kernel
theorem dX6_firstFault_10 : decode cX6_firstFault 10 = .ok (.aload_n 0, 1) := by decide +kernel
theorem dX6_firstFault_11 : decode cX6_firstFault 11 = .ok (.iload_n 1, 1) := by decide +kernel
theorem dX6_firstFault_12 : decode cX6_firstFault 12 = .ok (.invokevirtual 19, 3) := by decide +kernel
theorem dX6_firstFault_15 : decode cX6_firstFault 15 = .ok (.ifCond .ne 5, 3) := by decide +kernel
theorem dX6_firstFault_18 : decode cX6_firstFault 18 = .ok (.iload_n 1, 1) := by decide +kernel
theorem dX6_firstFault_19 : decode cX6_firstFault 19 = .ok (.ireturn, 1) := by decide +kernel
theorem dX6_firstFault_20 : decode cX6_firstFault 20 = .ok (.iinc 1 1, 3) := by decide +kernel
theorem dX6_firstFault_23 : decode cX6_firstFault 23 = .ok (.goto (-21), 3) := by decide +kernel
theorem dX6_firstFault_26 : decode cX6_firstFault 26 = .ok (.aload_n 0, 1) := by decide +kernel
theorem dX6_firstFault_27 : decode cX6_firstFault 27 = .ok (.getfield 15, 3) := by decide +kernel
theorem dX6_firstFault_30 : decode cX6_firstFault 30 = .ok (.bipush 18, 2) := by decide +kernel
theorem dX6_firstFault_32 : decode cX6_firstFault 32 = .ok (.if_icmp .lt 22, 3) := by decide +kernel
theorem dX6_firstFault_35 : decode cX6_firstFault 35 = .ok (.aload_n 0, 1) := by decide +kernel
theorem dX6_firstFault_36 : decode cX6_firstFault 36 = .ok (.getfield 15, 3) := by decide +kernel
theorem dX6_firstFault_39 : decode cX6_firstFault 39 = .ok (.bipush 18, 2) := by decide +kernel
theorem dX6_firstFault_41 : decode cX6_firstFault 41 = .ok (.isub, 1) := by decide +kernel
theorem dX6_firstFault_42 : decode cX6_firstFault 42 = .ok (.aload_n 0, 1) := by decide +kernel
theorem dX6_firstFault_43 : decode cX6_firstFault 43 = .ok (.invokevirtual 23, 3) := by decide +kernel
theorem dX6_firstFault_46 : decode cX6_firstFault 46 = .ok (.irem, 1) := by decide +kernel
theorem dX6_firstFault_47 : decode cX6_firstFault 47 = .ok (.ifCond .ne 7, 3) := by decide +kernel
theorem dX6_firstFault_50 : decode cX6_firstFault 50 = .ok (.iconst 1, 1) := by decide +kernel
theorem dX6_firstFault_51 : decode cX6_firstFault 51 = .ok (.goto 4, 3) := by decide +kernel
theorem dX6_firstFault_54 : decode cX6_firstFault 54 = .ok (.iconst 0, 1) := by decide +kernel
theorem dX6_firstFault_55 : decode cX6_firstFault 55 = .ok (.istore_n 1, 1) := by decide +kernel
theorem dX6_firstFault_56 : decode cX6_firstFault 56 = .ok (.iload_n 1, 1) := by decide +kernel
theorem dX6_firstFault_57 : decode cX6_firstFault 57 = .ok (.ifCond .eq 8, 3) := by decide +kernel
theorem dX6_firstFault_60 : decode cX6_firstFault 60 = .ok (.bipush (-9), 2) := by decide +kernel
theorem dX6_firstFault_62 : decode cX6_firstFault 62 = .ok (.goto 7, 3) := by decide +kernel
theorem dX6_firstFault_65 : decode cX6_firstFault 65 = .ok (.aload_n 0, 1) := by decide +kernel
theorem dX6_firstFault_66 : decode cX6_firstFault 66 = .ok (.getfield 15, 3) := by decide +kernel
theorem dX6_firstFault_69 : decode cX6_firstFault 69 = .ok (.ireturn, 1) := by decide +kernel
theorem dX6_fits_0 : decode cX6_fits 0 = .ok (.aload_n 0, 1) := by decide +kernel
theorem dX6_fits_1 : decode cX6_fits 1 = .ok (.getfield 9, 3) := by decide +kernel
theorem dX6_fits_4 : decode cX6_fits 4 = .ok (.iload_n 1, 1) := by decide +kernel
theorem dX6_fits_5 : decode cX6_fits 5 = .ok (.iaload, 1) := by decide +kernel
theorem dX6_fits_6 : decode cX6_fits 6 = .ok (.istore_n 2, 1) := by decide +kernel
theorem dX6_fits_7 : decode cX6_fits 7 = .ok (.iload_n 1, 1) := by decide +kernel
theorem dX6_fits_8 : decode cX6_fits 8 = .ok (.tableswitch 98 0 3 #[32, 44, 62, 80], 32) := by decide +kernel
theorem dX6_fits_40 : decode cX6_fits 40 = .ok (.iload_n 2, 1) := by decide +kernel
theorem dX6_fits_41 : decode cX6_fits 41 = .ok (.bipush 72, 2) := by decide +kernel
theorem dX6_fits_43 : decode cX6_fits 43 = .ok (.if_icmp .ne 7, 3) := by decide +kernel
theorem dX6_fits_46 : decode cX6_fits 46 = .ok (.iconst 1, 1) := by decide +kernel
theorem dX6_fits_47 : decode cX6_fits 47 = .ok (.goto 4, 3) := by decide +kernel
theorem dX6_fits_50 : decode cX6_fits 50 = .ok (.iconst 0, 1) := by decide +kernel
theorem dX6_fits_51 : decode cX6_fits 51 = .ok (.ireturn, 1) := by decide +kernel
theorem dX6_fits_52 : decode cX6_fits 52 = .ok (.iload_n 2, 1) := by decide +kernel
theorem dX6_fits_53 : decode cX6_fits 53 = .ok (.bipush 49, 2) := by decide +kernel
theorem dX6_fits_55 : decode cX6_fits 55 = .ok (.if_icmp .lt 13, 3) := by decide +kernel
theorem dX6_fits_58 : decode cX6_fits 58 = .ok (.iload_n 2, 1) := by decide +kernel
theorem dX6_fits_59 : decode cX6_fits 59 = .ok (.bipush 56, 2) := by decide +kernel
theorem dX6_fits_61 : decode cX6_fits 61 = .ok (.if_icmp .gt 7, 3) := by decide +kernel
theorem dX6_fits_64 : decode cX6_fits 64 = .ok (.iconst 1, 1) := by decide +kernel
theorem dX6_fits_65 : decode cX6_fits 65 = .ok (.goto 4, 3) := by decide +kernel
theorem dX6_fits_68 : decode cX6_fits 68 = .ok (.iconst 0, 1) := by decide +kernel
theorem dX6_fits_69 : decode cX6_fits 69 = .ok (.ireturn, 1) := by decide +kernel
theorem dX6_fits_70 : decode cX6_fits 70 = .ok (.iload_n 2, 1) := by decide +kernel
theorem dX6_fits_71 : decode cX6_fits 71 = .ok (.bipush 49, 2) := by decide +kernel
theorem dX6_fits_73 : decode cX6_fits 73 = .ok (.if_icmp .lt 13, 3) := by decide +kernel
theorem dX6_fits_76 : decode cX6_fits 76 = .ok (.iload_n 2, 1) := by decide +kernel
theorem dX6_fits_77 : decode cX6_fits 77 = .ok (.bipush 52, 2) := by decide +kernel
theorem dX6_fits_79 : decode cX6_fits 79 = .ok (.if_icmp .gt 7, 3) := by decide +kernel
theorem dX6_fits_82 : decode cX6_fits 82 = .ok (.iconst 1, 1) := by decide +kernel
theorem dX6_fits_83 : decode cX6_fits 83 = .ok (.goto 4, 3) := by decide +kernel
theorem dX6_fits_86 : decode cX6_fits 86 = .ok (.iconst 0, 1) := by decide +kernel
theorem dX6_fits_87 : decode cX6_fits 87 = .ok (.ireturn, 1) := by decide +kernel
theorem dX6_fits_88 : decode cX6_fits 88 = .ok (.iload_n 2, 1) := by decide +kernel
theorem dX6_fits_89 : decode cX6_fits 89 = .ok (.bipush 49, 2) := by decide +kernel
theorem dX6_fits_91 : decode cX6_fits 91 = .ok (.if_icmp .lt 13, 3) := by decide +kernel
theorem dX6_fits_94 : decode cX6_fits 94 = .ok (.iload_n 2, 1) := by decide +kernel
theorem dX6_fits_95 : decode cX6_fits 95 = .ok (.bipush 56, 2) := by decide +kernel
theorem dX6_fits_97 : decode cX6_fits 97 = .ok (.if_icmp .gt 7, 3) := by decide +kernel
theorem dX6_fits_100 : decode cX6_fits 100 = .ok (.iconst 1, 1) := by decide +kernel
theorem dX6_fits_101 : decode cX6_fits 101 = .ok (.goto 4, 3) := by decide +kernel
theorem dX6_fits_104 : decode cX6_fits 104 = .ok (.iconst 0, 1) := by decide +kernel
theorem dX6_fits_105 : decode cX6_fits 105 = .ok (.ireturn, 1) := by decide +kernel
theorem dX6_fits_106 : decode cX6_fits 106 = .ok (.iload_n 1, 1) := by decide +kernel
theorem dX6_fits_107 : decode cX6_fits 107 = .ok (.bipush 18, 2) := by decide +kernel
theorem dX6_fits_109 : decode cX6_fits 109 = .ok (.if_icmp .ge 49, 3) := by decide +kernel
theorem dX6_fits_112 : decode cX6_fits 112 = .ok (.iload_n 2, 1) := by decide +kernel
theorem dX6_fits_113 : decode cX6_fits 113 = .ok (.bipush 48, 2) := by decide +kernel
theorem dX6_fits_115 : decode cX6_fits 115 = .ok (.if_icmp .lt 13, 3) := by decide +kernel
theorem dX6_fits_118 : decode cX6_fits 118 = .ok (.iload_n 2, 1) := by decide +kernel
theorem dX6_fits_119 : decode cX6_fits 119 = .ok (.bipush 57, 2) := by decide +kernel
theorem dX6_fits_121 : decode cX6_fits 121 = .ok (.if_icmp .gt 7, 3) := by decide +kernel
theorem dX6_fits_124 : decode cX6_fits 124 = .ok (.iconst 1, 1) := by decide +kernel
theorem dX6_fits_125 : decode cX6_fits 125 = .ok (.goto 4, 3) := by decide +kernel
theorem dX6_fits_128 : decode cX6_fits 128 = .ok (.iconst 0, 1) := by decide +kernel
theorem dX6_fits_129 : decode cX6_fits 129 = .ok (.istore_n 3, 1) := by decide +kernel
theorem dX6_fits_130 : decode cX6_fits 130 = .ok (.iload_n 3, 1) := by decide +kernel
theorem dX6_fits_131 : decode cX6_fits 131 = .ok (.ifCond .eq 25, 3) := by decide +kernel
theorem dX6_fits_134 : decode cX6_fits 134 = .ok (.iload_n 1, 1) := by decide +kernel
theorem dX6_fits_135 : decode cX6_fits 135 = .ok (.bipush 13, 2) := by decide +kernel
theorem dX6_fits_137 : decode cX6_fits 137 = .ok (.if_icmp .le 15, 3) := by decide +kernel
theorem dX6_fits_140 : decode cX6_fits 140 = .ok (.iload_n 2, 1) := by decide +kernel
theorem dX6_fits_141 : decode cX6_fits 141 = .ok (.aload_n 0, 1) := by decide +kernel
theorem dX6_fits_142 : decode cX6_fits 142 = .ok (.getfield 9, 3) := by decide +kernel
theorem dX6_fits_145 : decode cX6_fits 145 = .ok (.iload_n 1, 1) := by decide +kernel
theorem dX6_fits_146 : decode cX6_fits 146 = .ok (.iconst 1, 1) := by decide +kernel
theorem dX6_fits_147 : decode cX6_fits 147 = .ok (.isub, 1) := by decide +kernel
theorem dX6_fits_148 : decode cX6_fits 148 = .ok (.iaload, 1) := by decide +kernel
theorem dX6_fits_149 : decode cX6_fits 149 = .ok (.if_icmp .gt 7, 3) := by decide +kernel
theorem dX6_fits_152 : decode cX6_fits 152 = .ok (.iconst 1, 1) := by decide +kernel
theorem dX6_fits_153 : decode cX6_fits 153 = .ok (.goto 4, 3) := by decide +kernel
theorem dX6_fits_156 : decode cX6_fits 156 = .ok (.iconst 0, 1) := by decide +kernel
theorem dX6_fits_157 : decode cX6_fits 157 = .ok (.ireturn, 1) := by decide +kernel
theorem dX6_fits_158 : decode cX6_fits 158 = .ok (.iload_n 1, 1) := by decide +kernel
theorem dX6_fits_159 : decode cX6_fits 159 = .ok (.bipush 18, 2) := by decide +kernel
theorem dX6_fits_161 : decode cX6_fits 161 = .ok (.isub, 1) := by decide +kernel
theorem dX6_fits_162 : decode cX6_fits 162 = .ok (.istore_n 3, 1) := by decide +kernel
theorem dX6_fits_163 : decode cX6_fits 163 = .ok (.iload_n 3, 1) := by decide +kernel
theorem dX6_fits_164 : decode cX6_fits 164 = .ok (.aload_n 0, 1) := by decide +kernel
theorem dX6_fits_165 : decode cX6_fits 165 = .ok (.invokevirtual 23, 3) := by decide +kernel
theorem dX6_fits_168 : decode cX6_fits 168 = .ok (.irem, 1) := by decide +kernel
theorem dX6_fits_169 : decode cX6_fits 169 = .ok (.ifCond .ne 26, 3) := by decide +kernel
theorem dX6_fits_172 : decode cX6_fits 172 = .ok (.iload_n 2, 1) := by decide +kernel
theorem dX6_fits_173 : decode cX6_fits 173 = .ok (.bipush 108, 2) := by decide +kernel
theorem dX6_fits_175 : decode cX6_fits 175 = .ok (.if_icmp .ne 18, 3) := by decide +kernel
theorem dX6_fits_178 : decode cX6_fits 178 = .ok (.iload_n 3, 1) := by decide +kernel
theorem dX6_fits_179 : decode cX6_fits 179 = .ok (.aload_n 0, 1) := by decide +kernel
theorem dX6_fits_180 : decode cX6_fits 180 = .ok (.invokevirtual 23, 3) := by decide +kernel
theorem dX6_fits_183 : decode cX6_fits 183 = .ok (.idiv, 1) := by decide +kernel
theorem dX6_fits_184 : decode cX6_fits 184 = .ok (.bipush 8, 2) := by decide +kernel
theorem dX6_fits_186 : decode cX6_fits 186 = .ok (.if_icmp .ge 7, 3) := by decide +kernel
theorem dX6_fits_189 : decode cX6_fits 189 = .ok (.iconst 1, 1) := by decide +kernel
theorem dX6_fits_190 : decode cX6_fits 190 = .ok (.goto 4, 3) := by decide +kernel
theorem dX6_fits_193 : decode cX6_fits 193 = .ok (.iconst 0, 1) := by decide +kernel
theorem dX6_fits_194 : decode cX6_fits 194 = .ok (.ireturn, 1) := by decide +kernel
theorem dX6_fits_195 : decode cX6_fits 195 = .ok (.iload_n 2, 1) := by decide +kernel
theorem dX6_fits_196 : decode cX6_fits 196 = .ok (.bipush 111, 2) := by decide +kernel
theorem dX6_fits_198 : decode cX6_fits 198 = .ok (.if_icmp .eq 9, 3) := by decide +kernel
theorem dX6_fits_201 : decode cX6_fits 201 = .ok (.iload_n 2, 1) := by decide +kernel
theorem dX6_fits_202 : decode cX6_fits 202 = .ok (.bipush 45, 2) := by decide +kernel
theorem dX6_fits_204 : decode cX6_fits 204 = .ok (.if_icmp .ne 7, 3) := by decide +kernel
theorem dX6_fits_207 : decode cX6_fits 207 = .ok (.iconst 1, 1) := by decide +kernel
theorem dX6_fits_208 : decode cX6_fits 208 = .ok (.goto 4, 3) := by decide +kernel
theorem dX6_fits_211 : decode cX6_fits 211 = .ok (.iconst 0, 1) := by decide +kernel
theorem dX6_fits_212 : decode cX6_fits 212 = .ok (.ireturn, 1) := by decide +kernel
theorem dX6_figureAt_0 : decode cX6_figureAt 0 = .ok (.aload_n 0, 1) := by decide +kernel
theorem dX6_figureAt_1 : decode cX6_figureAt 1 = .ok (.getfield 9, 3) := by decide +kernel
theorem dX6_figureAt_4 : decode cX6_figureAt 4 = .ok (.iload_n 1, 1) := by decide +kernel
theorem dX6_figureAt_5 : decode cX6_figureAt 5 = .ok (.iaload, 1) := by decide +kernel
theorem dX6_figureAt_6 : decode cX6_figureAt 6 = .ok (.bipush 48, 2) := by decide +kernel
theorem dX6_figureAt_8 : decode cX6_figureAt 8 = .ok (.isub, 1) := by decide +kernel
theorem dX6_figureAt_9 : decode cX6_figureAt 9 = .ok (.ireturn, 1) := by decide +kernel
theorem dX6_threeFiguresAt_0 : decode cX6_threeFiguresAt 0 = .ok (.aload_n 0, 1) := by decide +kernel
theorem dX6_threeFiguresAt_1 : decode cX6_threeFiguresAt 1 = .ok (.iload_n 1, 1) := by decide +kernel
theorem dX6_threeFiguresAt_2 : decode cX6_threeFiguresAt 2 = .ok (.invokevirtual 27, 3) := by decide +kernel
theorem dX6_threeFiguresAt_5 : decode cX6_threeFiguresAt 5 = .ok (.bipush 100, 2) := by decide +kernel
theorem dX6_threeFiguresAt_7 : decode cX6_threeFiguresAt 7 = .ok (.imul, 1) := by decide +kernel
theorem dX6_threeFiguresAt_8 : decode cX6_threeFiguresAt 8 = .ok (.aload_n 0, 1) := by decide +kernel
theorem dX6_threeFiguresAt_9 : decode cX6_threeFiguresAt 9 = .ok (.iload_n 1, 1) := by decide +kernel
theorem dX6_threeFiguresAt_10 : decode cX6_threeFiguresAt 10 = .ok (.iconst 1, 1) := by decide +kernel
theorem dX6_threeFiguresAt_11 : decode cX6_threeFiguresAt 11 = .ok (.iadd, 1) := by decide +kernel
theorem dX6_threeFiguresAt_12 : decode cX6_threeFiguresAt 12 = .ok (.invokevirtual 27, 3) := by decide +kernel
theorem dX6_threeFiguresAt_15 : decode cX6_threeFiguresAt 15 = .ok (.bipush 10, 2) := by decide +kernel
theorem dX6_threeFiguresAt_17 : decode cX6_threeFiguresAt 17 = .ok (.imul, 1) := by decide +kernel
theorem dX6_threeFiguresAt_18 : decode cX6_threeFiguresAt 18 = .ok (.iadd, 1) := by decide +kernel
theorem dX6_threeFiguresAt_19 : decode cX6_threeFiguresAt 19 = .ok (.aload_n 0, 1) := by decide +kernel
theorem dX6_threeFiguresAt_20 : decode cX6_threeFiguresAt 20 = .ok (.iload_n 1, 1) := by decide +kernel
theorem dX6_threeFiguresAt_21 : decode cX6_threeFiguresAt 21 = .ok (.iconst 2, 1) := by decide +kernel
theorem dX6_threeFiguresAt_22 : decode cX6_threeFiguresAt 22 = .ok (.iadd, 1) := by decide +kernel
theorem dX6_threeFiguresAt_23 : decode cX6_threeFiguresAt 23 = .ok (.invokevirtual 27, 3) := by decide +kernel
theorem dX6_threeFiguresAt_26 : decode cX6_threeFiguresAt 26 = .ok (.iadd, 1) := by decide +kernel
theorem dX6_threeFiguresAt_27 : decode cX6_threeFiguresAt 27 = .ok (.ireturn, 1) := by decide +kernel
theorem dX6_lineLength_0 : decode cX6_lineLength 0 = .ok (.iconst 1, 1) := by decide +kernel
theorem dX6_lineLength_1 : decode cX6_lineLength 1 = .ok (.aload_n 0, 1) := by decide +kernel
theorem dX6_lineLength_2 : decode cX6_lineLength 2 = .ok (.iconst 1, 1) := by decide +kernel
theorem dX6_lineLength_3 : decode cX6_lineLength 3 = .ok (.invokevirtual 27, 3) := by decide +kernel
theorem dX6_lineLength_6 : decode cX6_lineLength 6 = .ok (.invokestatic 31, 3) := by decide +kernel
theorem dX6_lineLength_9 : decode cX6_lineLength 9 = .ok (.iconst 1, 1) := by decide +kernel
theorem dX6_lineLength_10 : decode cX6_lineLength 10 = .ok (.iadd, 1) := by decide +kernel
theorem dX6_lineLength_11 : decode cX6_lineLength 11 = .ok (.ireturn, 1) := by decide +kernel
theorem dX6_tellHead_0 : decode cX6_tellHead 0 = .ok (.aload_n 1, 1) := by decide +kernel
theorem dX6_tellHead_1 : decode cX6_tellHead 1 = .ok (.bipush 8, 2) := by decide +kernel
theorem dX6_tellHead_3 : decode cX6_tellHead 3 = .ok (.iconst 1, 1) := by decide +kernel
theorem dX6_tellHead_4 : decode cX6_tellHead 4 = .ok (.aload_n 0, 1) := by decide +kernel
theorem dX6_tellHead_5 : decode cX6_tellHead 5 = .ok (.iconst 1, 1) := by decide +kernel
theorem dX6_tellHead_6 : decode cX6_tellHead 6 = .ok (.invokevirtual 27, 3) := by decide +kernel
theorem dX6_tellHead_9 : decode cX6_tellHead 9 = .ok (.invokestatic 31, 3) := by decide +kernel
theorem dX6_tellHead_12 : decode cX6_tellHead 12 = .ok (.invokestatic 37, 3) := by decide +kernel
theorem dX6_tellHead_15 : decode cX6_tellHead 15 = .ok (.putfield 40, 3) := by decide +kernel
theorem dX6_tellHead_18 : decode cX6_tellHead 18 = .ok (.aload_n 1, 1) := by decide +kernel
theorem dX6_tellHead_19 : decode cX6_tellHead 19 = .ok (.aload_n 0, 1) := by decide +kernel
theorem dX6_tellHead_20 : decode cX6_tellHead 20 = .ok (.iconst 2, 1) := by decide +kernel
theorem dX6_tellHead_21 : decode cX6_tellHead 21 = .ok (.invokevirtual 27, 3) := by decide +kernel
theorem dX6_tellHead_24 : decode cX6_tellHead 24 = .ok (.putfield 45, 3) := by decide +kernel
theorem dX6_tellHead_27 : decode cX6_tellHead 27 = .ok (.aload_n 1, 1) := by decide +kernel
theorem dX6_tellHead_28 : decode cX6_tellHead 28 = .ok (.aload_n 0, 1) := by decide +kernel
theorem dX6_tellHead_29 : decode cX6_tellHead 29 = .ok (.iconst 3, 1) := by decide +kernel
theorem dX6_tellHead_30 : decode cX6_tellHead 30 = .ok (.invokevirtual 27, 3) := by decide +kernel
theorem dX6_tellHead_33 : decode cX6_tellHead 33 = .ok (.putfield 48, 3) := by decide +kernel
theorem dX6_tellHead_36 : decode cX6_tellHead 36 = .ok (.aload_n 1, 1) := by decide +kernel
theorem dX6_tellHead_37 : decode cX6_tellHead 37 = .ok (.aload_n 0, 1) := by decide +kernel
theorem dX6_tellHead_38 : decode cX6_tellHead 38 = .ok (.iconst 4, 1) := by decide +kernel
theorem dX6_tellHead_39 : decode cX6_tellHead 39 = .ok (.invokevirtual 51, 3) := by decide +kernel
theorem dX6_tellHead_42 : decode cX6_tellHead 42 = .ok (.putfield 54, 3) := by decide +kernel
theorem dX6_tellHead_45 : decode cX6_tellHead 45 = .ok (.aload_n 1, 1) := by decide +kernel
theorem dX6_tellHead_46 : decode cX6_tellHead 46 = .ok (.aload_n 0, 1) := by decide +kernel
theorem dX6_tellHead_47 : decode cX6_tellHead 47 = .ok (.bipush 7, 2) := by decide +kernel
theorem dX6_tellHead_49 : decode cX6_tellHead 49 = .ok (.invokevirtual 51, 3) := by decide +kernel
theorem dX6_tellHead_52 : decode cX6_tellHead 52 = .ok (.putfield 57, 3) := by decide +kernel
theorem dX6_tellHead_55 : decode cX6_tellHead 55 = .ok (.aload_n 1, 1) := by decide +kernel
theorem dX6_tellHead_56 : decode cX6_tellHead 56 = .ok (.aload_n 0, 1) := by decide +kernel
theorem dX6_tellHead_57 : decode cX6_tellHead 57 = .ok (.bipush 10, 2) := by decide +kernel
theorem dX6_tellHead_59 : decode cX6_tellHead 59 = .ok (.invokevirtual 51, 3) := by decide +kernel
theorem dX6_tellHead_62 : decode cX6_tellHead 62 = .ok (.putfield 60, 3) := by decide +kernel
theorem dX6_tellHead_65 : decode cX6_tellHead 65 = .ok (.return_, 1) := by decide +kernel
theorem dX6_tellTable_0 : decode cX6_tellTable 0 = .ok (.iconst 0, 1) := by decide +kernel
theorem dX6_tellTable_1 : decode cX6_tellTable 1 = .ok (.istore_n 2, 1) := by decide +kernel
theorem dX6_tellTable_2 : decode cX6_tellTable 2 = .ok (.iload_n 2, 1) := by decide +kernel
theorem dX6_tellTable_3 : decode cX6_tellTable 3 = .ok (.iconst 5, 1) := by decide +kernel
theorem dX6_tellTable_4 : decode cX6_tellTable 4 = .ok (.if_icmp .ge 23, 3) := by decide +kernel
theorem dX6_tellTable_7 : decode cX6_tellTable 7 = .ok (.aload_n 1, 1) := by decide +kernel
theorem dX6_tellTable_8 : decode cX6_tellTable 8 = .ok (.getfield 63, 3) := by decide +kernel
theorem dX6_tellTable_11 : decode cX6_tellTable 11 = .ok (.iload_n 2, 1) := by decide +kernel
theorem dX6_tellTable_12 : decode cX6_tellTable 12 = .ok (.aload_n 0, 1) := by decide +kernel
theorem dX6_tellTable_13 : decode cX6_tellTable 13 = .ok (.bipush 13, 2) := by decide +kernel
theorem dX6_tellTable_15 : decode cX6_tellTable 15 = .ok (.iload_n 2, 1) := by decide +kernel
theorem dX6_tellTable_16 : decode cX6_tellTable 16 = .ok (.iadd, 1) := by decide +kernel
theorem dX6_tellTable_17 : decode cX6_tellTable 17 = .ok (.invokevirtual 27, 3) := by decide +kernel
theorem dX6_tellTable_20 : decode cX6_tellTable 20 = .ok (.iastore, 1) := by decide +kernel
theorem dX6_tellTable_21 : decode cX6_tellTable 21 = .ok (.iinc 2 1, 3) := by decide +kernel
theorem dX6_tellTable_24 : decode cX6_tellTable 24 = .ok (.goto (-22), 3) := by decide +kernel
theorem dX6_tellTable_27 : decode cX6_tellTable 27 = .ok (.return_, 1) := by decide +kernel
theorem dX6_tellQueue_0 : decode cX6_tellQueue 0 = .ok (.aload_n 0, 1) := by decide +kernel
theorem dX6_tellQueue_1 : decode cX6_tellQueue 1 = .ok (.invokevirtual 23, 3) := by decide +kernel
theorem dX6_tellQueue_4 : decode cX6_tellQueue 4 = .ok (.istore_n 2, 1) := by decide +kernel
theorem dX6_tellQueue_5 : decode cX6_tellQueue 5 = .ok (.bipush 18, 2) := by decide +kernel
theorem dX6_tellQueue_7 : decode cX6_tellQueue 7 = .ok (.istore_n 3, 1) := by decide +kernel
theorem dX6_tellQueue_8 : decode cX6_tellQueue 8 = .ok (.iload_n 3, 1) := by decide +kernel
theorem dX6_tellQueue_9 : decode cX6_tellQueue 9 = .ok (.iload_n 2, 1) := by decide +kernel
theorem dX6_tellQueue_10 : decode cX6_tellQueue 10 = .ok (.iadd, 1) := by decide +kernel
theorem dX6_tellQueue_11 : decode cX6_tellQueue 11 = .ok (.aload_n 0, 1) := by decide +kernel
theorem dX6_tellQueue_12 : decode cX6_tellQueue 12 = .ok (.getfield 15, 3) := by decide +kernel
theorem dX6_tellQueue_15 : decode cX6_tellQueue 15 = .ok (.if_icmp .gt 61, 3) := by decide +kernel
theorem dX6_tellQueue_18 : decode cX6_tellQueue 18 = .ok (.iconst 0, 1) := by decide +kernel
theorem dX6_tellQueue_19 : decode cX6_tellQueue 19 = .ok (.istore 4, 2) := by decide +kernel
theorem dX6_tellQueue_21 : decode cX6_tellQueue 21 = .ok (.iconst 0, 1) := by decide +kernel
theorem dX6_tellQueue_22 : decode cX6_tellQueue 22 = .ok (.istore 5, 2) := by decide +kernel
theorem dX6_tellQueue_24 : decode cX6_tellQueue 24 = .ok (.iload 5, 2) := by decide +kernel
theorem dX6_tellQueue_26 : decode cX6_tellQueue 26 = .ok (.iconst 1, 1) := by decide +kernel
theorem dX6_tellQueue_27 : decode cX6_tellQueue 27 = .ok (.iadd, 1) := by decide +kernel
theorem dX6_tellQueue_28 : decode cX6_tellQueue 28 = .ok (.iload_n 2, 1) := by decide +kernel
theorem dX6_tellQueue_29 : decode cX6_tellQueue 29 = .ok (.if_icmp .ge 34, 3) := by decide +kernel
theorem dX6_tellQueue_32 : decode cX6_tellQueue 32 = .ok (.aload_n 0, 1) := by decide +kernel
theorem dX6_tellQueue_33 : decode cX6_tellQueue 33 = .ok (.getfield 9, 3) := by decide +kernel
theorem dX6_tellQueue_36 : decode cX6_tellQueue 36 = .ok (.iload_n 3, 1) := by decide +kernel
theorem dX6_tellQueue_37 : decode cX6_tellQueue 37 = .ok (.iconst 1, 1) := by decide +kernel
theorem dX6_tellQueue_38 : decode cX6_tellQueue 38 = .ok (.iadd, 1) := by decide +kernel
theorem dX6_tellQueue_39 : decode cX6_tellQueue 39 = .ok (.iload 5, 2) := by decide +kernel
theorem dX6_tellQueue_41 : decode cX6_tellQueue 41 = .ok (.iadd, 1) := by decide +kernel
theorem dX6_tellQueue_42 : decode cX6_tellQueue 42 = .ok (.iaload, 1) := by decide +kernel
theorem dX6_tellQueue_43 : decode cX6_tellQueue 43 = .ok (.bipush 111, 2) := by decide +kernel
theorem dX6_tellQueue_45 : decode cX6_tellQueue 45 = .ok (.if_icmp .ne 12, 3) := by decide +kernel
theorem dX6_tellQueue_48 : decode cX6_tellQueue 48 = .ok (.iload 4, 2) := by decide +kernel
theorem dX6_tellQueue_50 : decode cX6_tellQueue 50 = .ok (.iconst 1, 1) := by decide +kernel
theorem dX6_tellQueue_51 : decode cX6_tellQueue 51 = .ok (.iload 5, 2) := by decide +kernel
theorem dX6_tellQueue_53 : decode cX6_tellQueue 53 = .ok (.ishl, 1) := by decide +kernel
theorem dX6_tellQueue_54 : decode cX6_tellQueue 54 = .ok (.ior, 1) := by decide +kernel
theorem dX6_tellQueue_55 : decode cX6_tellQueue 55 = .ok (.istore 4, 2) := by decide +kernel
theorem dX6_tellQueue_57 : decode cX6_tellQueue 57 = .ok (.iinc 5 1, 3) := by decide +kernel
theorem dX6_tellQueue_60 : decode cX6_tellQueue 60 = .ok (.goto (-36), 3) := by decide +kernel
theorem dX6_tellQueue_63 : decode cX6_tellQueue 63 = .ok (.aload_n 1, 1) := by decide +kernel
theorem dX6_tellQueue_64 : decode cX6_tellQueue 64 = .ok (.iload 4, 2) := by decide +kernel
theorem dX6_tellQueue_66 : decode cX6_tellQueue 66 = .ok (.invokevirtual 68, 3) := by decide +kernel
theorem dX6_tellQueue_69 : decode cX6_tellQueue 69 = .ok (.iload_n 3, 1) := by decide +kernel
theorem dX6_tellQueue_70 : decode cX6_tellQueue 70 = .ok (.iload_n 2, 1) := by decide +kernel
theorem dX6_tellQueue_71 : decode cX6_tellQueue 71 = .ok (.iadd, 1) := by decide +kernel
theorem dX6_tellQueue_72 : decode cX6_tellQueue 72 = .ok (.istore_n 3, 1) := by decide +kernel
theorem dX6_tellQueue_73 : decode cX6_tellQueue 73 = .ok (.goto (-65), 3) := by decide +kernel
theorem dX6_tellQueue_76 : decode cX6_tellQueue 76 = .ok (.return_, 1) := by decide +kernel
theorem dX7_init_0 : decode cX7_init 0 = .ok (.aload_n 0, 1) := by decide +kernel
theorem dX7_init_1 : decode cX7_init 1 = .ok (.invokespecial 1, 3) := by decide +kernel
theorem dX7_init_4 : decode cX7_init 4 = .ok (.aload_n 0, 1) := by decide +kernel
theorem dX7_init_5 : decode cX7_init 5 = .ok (.new 7, 3) := by decide +kernel
theorem dX7_init_8 : decode cX7_init 8 = .ok (.dup, 1) := by decide +kernel
theorem dX7_init_9 : decode cX7_init 9 = .ok (.invokespecial 9, 3) := by decide +kernel
theorem dX7_init_12 : decode cX7_init 12 = .ok (.putfield 10, 3) := by decide +kernel
theorem dX7_init_15 : decode cX7_init 15 = .ok (.aload_n 0, 1) := by decide +kernel
theorem dX7_init_16 : decode cX7_init 16 = .ok (.new 16, 3) := by decide +kernel
theorem dX7_init_19 : decode cX7_init 19 = .ok (.dup, 1) := by decide +kernel
theorem dX7_init_20 : decode cX7_init 20 = .ok (.invokespecial 18, 3) := by decide +kernel
theorem dX7_init_23 : decode cX7_init 23 = .ok (.putfield 19, 3) := by decide +kernel
theorem dX7_init_26 : decode cX7_init 26 = .ok (.aload_n 0, 1) := by decide +kernel
theorem dX7_init_27 : decode cX7_init 27 = .ok (.new 23, 3) := by decide +kernel
theorem dX7_init_30 : decode cX7_init 30 = .ok (.dup, 1) := by decide +kernel
theorem dX7_init_31 : decode cX7_init 31 = .ok (.invokespecial 25, 3) := by decide +kernel
theorem dX7_init_34 : decode cX7_init 34 = .ok (.putfield 26, 3) := by decide +kernel
theorem dX7_init_37 : decode cX7_init 37 = .ok (.aload_n 0, 1) := by decide +kernel
theorem dX7_init_38 : decode cX7_init 38 = .ok (.new 23, 3) := by decide +kernel
theorem dX7_init_41 : decode cX7_init 41 = .ok (.dup, 1) := by decide +kernel
theorem dX7_init_42 : decode cX7_init 42 = .ok (.invokespecial 25, 3) := by decide +kernel
theorem dX7_init_45 : decode cX7_init 45 = .ok (.putfield 30, 3) := by decide +kernel
theorem dX7_init_48 : decode cX7_init 48 = .ok (.aload_n 0, 1) := by decide +kernel
theorem dX7_init_49 : decode cX7_init 49 = .ok (.new 23, 3) := by decide +kernel
theorem dX7_init_52 : decode cX7_init 52 = .ok (.dup, 1) := by decide +kernel
theorem dX7_init_53 : decode cX7_init 53 = .ok (.invokespecial 25, 3) := by decide +kernel
theorem dX7_init_56 : decode cX7_init 56 = .ok (.putfield 33, 3) := by decide +kernel
theorem dX7_init_59 : decode cX7_init 59 = .ok (.aload_n 0, 1) := by decide +kernel
theorem dX7_init_60 : decode cX7_init 60 = .ok (.new 36, 3) := by decide +kernel
theorem dX7_init_63 : decode cX7_init 63 = .ok (.dup, 1) := by decide +kernel
theorem dX7_init_64 : decode cX7_init 64 = .ok (.invokespecial 38, 3) := by decide +kernel
theorem dX7_init_67 : decode cX7_init 67 = .ok (.putfield 39, 3) := by decide +kernel
theorem dX7_init_70 : decode cX7_init 70 = .ok (.aload_n 0, 1) := by decide +kernel
theorem dX7_init_71 : decode cX7_init 71 = .ok (.new 43, 3) := by decide +kernel
theorem dX7_init_74 : decode cX7_init 74 = .ok (.dup, 1) := by decide +kernel
theorem dX7_init_75 : decode cX7_init 75 = .ok (.invokespecial 45, 3) := by decide +kernel
theorem dX7_init_78 : decode cX7_init 78 = .ok (.putfield 46, 3) := by decide +kernel
theorem dX7_init_81 : decode cX7_init 81 = .ok (.aload_n 0, 1) := by decide +kernel
theorem dX7_init_82 : decode cX7_init 82 = .ok (.new 50, 3) := by decide +kernel
theorem dX7_init_85 : decode cX7_init 85 = .ok (.dup, 1) := by decide +kernel
theorem dX7_init_86 : decode cX7_init 86 = .ok (.invokespecial 52, 3) := by decide +kernel
theorem dX7_init_89 : decode cX7_init 89 = .ok (.putfield 53, 3) := by decide +kernel
theorem dX7_init_92 : decode cX7_init 92 = .ok (.aload_n 0, 1) := by decide +kernel
theorem dX7_init_93 : decode cX7_init 93 = .ok (.new 57, 3) := by decide +kernel
theorem dX7_init_96 : decode cX7_init 96 = .ok (.dup, 1) := by decide +kernel
theorem dX7_init_97 : decode cX7_init 97 = .ok (.invokespecial 59, 3) := by decide +kernel
theorem dX7_init_100 : decode cX7_init 100 = .ok (.putfield 60, 3) := by decide +kernel
theorem dX7_init_103 : decode cX7_init 103 = .ok (.return_, 1) := by decide +kernel
theorem dX7_write_0 : decode cX7_write 0 = .ok (.iload_n 1, 1) := by decide +kernel
theorem dX7_write_1 : decode cX7_write 1 = .ok (.ifCond .lt 10, 3) := by decide +kernel
theorem dX7_write_4 : decode cX7_write 4 = .ok (.iload_n 1, 1) := by decide +kernel
theorem dX7_write_5 : decode cX7_write 5 = .ok (.sipush 255, 3) := by decide +kernel
theorem dX7_write_8 : decode cX7_write 8 = .ok (.if_icmp .le 6, 3) := by decide +kernel
theorem dX7_write_11 : decode cX7_write 11 = .ok (.bipush (-2), 2) := by decide +kernel
theorem dX7_write_13 : decode cX7_write 13 = .ok (.ireturn, 1) := by decide +kernel
theorem dX7_write_14 : decode cX7_write 14 = .ok (.aload_n 0, 1) := by decide +kernel
theorem dX7_write_15 : decode cX7_write 15 = .ok (.getfield 10, 3) := by decide +kernel
theorem dX7_write_18 : decode cX7_write 18 = .ok (.iload_n 1, 1) := by decide +kernel
theorem dX7_write_19 : decode cX7_write 19 = .ok (.invokevirtual 64, 3) := by decide +kernel
theorem dX7_write_22 : decode cX7_write 22 = .ok (.ifCond .eq 13, 3) := by decide +kernel
theorem dX7_write_25 : decode cX7_write 25 = .ok (.aload_n 0, 1) := by decide +kernel
theorem dX7_write_26 : decode cX7_write 26 = .ok (.getfield 10, 3) := by decide +kernel
theorem dX7_write_29 : decode cX7_write 29 = .ok (.getfield 68, 3) := by decide +kernel
theorem dX7_write_32 : decode cX7_write 32 = .ok (.goto 5, 3) := by decide +kernel
theorem dX7_write_35 : decode cX7_write 35 = .ok (.bipush (-4), 2) := by decide +kernel
theorem dX7_write_37 : decode cX7_write 37 = .ok (.ireturn, 1) := by decide +kernel
theorem dX7_wipe_0 : decode cX7_wipe 0 = .ok (.aload_n 0, 1) := by decide +kernel
theorem dX7_wipe_1 : decode cX7_wipe 1 = .ok (.getfield 10, 3) := by decide +kernel
theorem dX7_wipe_4 : decode cX7_wipe 4 = .ok (.getfield 68, 3) := by decide +kernel
theorem dX7_wipe_7 : decode cX7_wipe 7 = .ok (.istore_n 1, 1) := by decide +kernel
theorem dX7_wipe_8 : decode cX7_wipe 8 = .ok (.aload_n 0, 1) := by decide +kernel
theorem dX7_wipe_9 : decode cX7_wipe 9 = .ok (.getfield 10, 3) := by decide +kernel
theorem dX7_wipe_12 : decode cX7_wipe 12 = .ok (.iconst 0, 1) := by decide +kernel
theorem dX7_wipe_13 : decode cX7_wipe 13 = .ok (.putfield 68, 3) := by decide +kernel
theorem dX7_wipe_16 : decode cX7_wipe 16 = .ok (.iload_n 1, 1) := by decide +kernel
theorem dX7_wipe_17 : decode cX7_wipe 17 = .ok (.ireturn, 1) := by decide +kernel
theorem dX7_fault_0 : decode cX7_fault 0 = .ok (.aload_n 0, 1) := by decide +kernel
theorem dX7_fault_1 : decode cX7_fault 1 = .ok (.getfield 10, 3) := by decide +kernel
theorem dX7_fault_4 : decode cX7_fault 4 = .ok (.invokevirtual 72, 3) := by decide +kernel
theorem dX7_fault_7 : decode cX7_fault 7 = .ok (.ireturn, 1) := by decide +kernel
theorem dX7_job_0 : decode cX7_job 0 = .ok (.aload_n 0, 1) := by decide +kernel
theorem dX7_job_1 : decode cX7_job 1 = .ok (.getfield 10, 3) := by decide +kernel
theorem dX7_job_4 : decode cX7_job 4 = .ok (.invokevirtual 72, 3) := by decide +kernel
theorem dX7_job_7 : decode cX7_job 7 = .ok (.bipush (-9), 2) := by decide +kernel
theorem dX7_job_9 : decode cX7_job 9 = .ok (.if_icmp .eq 6, 3) := by decide +kernel
theorem dX7_job_12 : decode cX7_job 12 = .ok (.bipush (-3), 2) := by decide +kernel
theorem dX7_job_14 : decode cX7_job 14 = .ok (.ireturn, 1) := by decide +kernel
theorem dX7_job_15 : decode cX7_job 15 = .ok (.aload_n 0, 1) := by decide +kernel
theorem dX7_job_16 : decode cX7_job 16 = .ok (.getfield 10, 3) := by decide +kernel
theorem dX7_job_19 : decode cX7_job 19 = .ok (.aload_n 0, 1) := by decide +kernel
theorem dX7_job_20 : decode cX7_job 20 = .ok (.getfield 19, 3) := by decide +kernel
theorem dX7_job_23 : decode cX7_job 23 = .ok (.invokevirtual 76, 3) := by decide +kernel
theorem dX7_job_26 : decode cX7_job 26 = .ok (.aload_n 0, 1) := by decide +kernel
theorem dX7_job_27 : decode cX7_job 27 = .ok (.getfield 26, 3) := by decide +kernel
theorem dX7_job_30 : decode cX7_job 30 = .ok (.invokevirtual 80, 3) := by decide +kernel
theorem dX7_job_33 : decode cX7_job 33 = .ok (.aload_n 0, 1) := by decide +kernel
theorem dX7_job_34 : decode cX7_job 34 = .ok (.getfield 10, 3) := by decide +kernel
theorem dX7_job_37 : decode cX7_job 37 = .ok (.aload_n 0, 1) := by decide +kernel
theorem dX7_job_38 : decode cX7_job 38 = .ok (.getfield 26, 3) := by decide +kernel
theorem dX7_job_41 : decode cX7_job 41 = .ok (.invokevirtual 83, 3) := by decide +kernel
theorem dX7_job_44 : decode cX7_job 44 = .ok (.aload_n 0, 1) := by decide +kernel
theorem dX7_job_45 : decode cX7_job 45 = .ok (.getfield 10, 3) := by decide +kernel
theorem dX7_job_48 : decode cX7_job 48 = .ok (.aload_n 0, 1) := by decide +kernel
theorem dX7_job_49 : decode cX7_job 49 = .ok (.getfield 26, 3) := by decide +kernel
theorem dX7_job_52 : decode cX7_job 52 = .ok (.invokevirtual 87, 3) := by decide +kernel
theorem dX7_job_55 : decode cX7_job 55 = .ok (.aload_n 0, 1) := by decide +kernel
theorem dX7_job_56 : decode cX7_job 56 = .ok (.getfield 46, 3) := by decide +kernel
theorem dX7_job_59 : decode cX7_job 59 = .ok (.invokevirtual 90, 3) := by decide +kernel
theorem dX7_job_62 : decode cX7_job 62 = .ok (.aload_n 0, 1) := by decide +kernel
theorem dX7_job_63 : decode cX7_job 63 = .ok (.getfield 60, 3) := by decide +kernel
theorem dX7_job_66 : decode cX7_job 66 = .ok (.invokevirtual 93, 3) := by decide +kernel
theorem dX7_job_69 : decode cX7_job 69 = .ok (.aload_n 0, 1) := by decide +kernel
theorem dX7_job_70 : decode cX7_job 70 = .ok (.getfield 26, 3) := by decide +kernel
theorem dX7_job_73 : decode cX7_job 73 = .ok (.getfield 94, 3) := by decide +kernel
theorem dX7_job_76 : decode cX7_job 76 = .ok (.ireturn, 1) := by decide +kernel
theorem dX7_about_0 : decode cX7_about 0 = .ok (.iload_n 1, 1) := by decide +kernel
theorem dX7_about_1 : decode cX7_about 1 = .ok (.tableswitch 249 0 19 #[95, 103, 111, 119, 127, 135, 143, 151, 159, 167, 175, 183, 191, 199, 207, 215, 220, 225, 233, 241], 95) := by decide +kernel
theorem dX7_about_96 : decode cX7_about 96 = .ok (.aload_n 0, 1) := by decide +kernel
theorem dX7_about_97 : decode cX7_about 97 = .ok (.getfield 19, 3) := by decide +kernel
theorem dX7_about_100 : decode cX7_about 100 = .ok (.getfield 97, 3) := by decide +kernel
theorem dX7_about_103 : decode cX7_about 103 = .ok (.ireturn, 1) := by decide +kernel
theorem dX7_about_104 : decode cX7_about 104 = .ok (.aload_n 0, 1) := by decide +kernel
theorem dX7_about_105 : decode cX7_about 105 = .ok (.getfield 19, 3) := by decide +kernel
theorem dX7_about_108 : decode cX7_about 108 = .ok (.getfield 100, 3) := by decide +kernel
theorem dX7_about_111 : decode cX7_about 111 = .ok (.ireturn, 1) := by decide +kernel
theorem dX7_about_112 : decode cX7_about 112 = .ok (.aload_n 0, 1) := by decide +kernel
theorem dX7_about_113 : decode cX7_about 113 = .ok (.getfield 19, 3) := by decide +kernel
theorem dX7_about_116 : decode cX7_about 116 = .ok (.getfield 103, 3) := by decide +kernel
theorem dX7_about_119 : decode cX7_about 119 = .ok (.ireturn, 1) := by decide +kernel
theorem dX7_about_120 : decode cX7_about 120 = .ok (.aload_n 0, 1) := by decide +kernel
theorem dX7_about_121 : decode cX7_about 121 = .ok (.getfield 19, 3) := by decide +kernel
theorem dX7_about_124 : decode cX7_about 124 = .ok (.getfield 106, 3) := by decide +kernel
theorem dX7_about_127 : decode cX7_about 127 = .ok (.ireturn, 1) := by decide +kernel
theorem dX7_about_128 : decode cX7_about 128 = .ok (.aload_n 0, 1) := by decide +kernel
theorem dX7_about_129 : decode cX7_about 129 = .ok (.getfield 19, 3) := by decide +kernel
theorem dX7_about_132 : decode cX7_about 132 = .ok (.getfield 109, 3) := by decide +kernel
theorem dX7_about_135 : decode cX7_about 135 = .ok (.ireturn, 1) := by decide +kernel
theorem dX7_about_136 : decode cX7_about 136 = .ok (.aload_n 0, 1) := by decide +kernel
theorem dX7_about_137 : decode cX7_about 137 = .ok (.getfield 19, 3) := by decide +kernel
theorem dX7_about_140 : decode cX7_about 140 = .ok (.getfield 112, 3) := by decide +kernel
theorem dX7_about_143 : decode cX7_about 143 = .ok (.ireturn, 1) := by decide +kernel
theorem dX7_about_144 : decode cX7_about 144 = .ok (.aload_n 0, 1) := by decide +kernel
theorem dX7_about_145 : decode cX7_about 145 = .ok (.getfield 26, 3) := by decide +kernel
theorem dX7_about_148 : decode cX7_about 148 = .ok (.getfield 94, 3) := by decide +kernel
theorem dX7_about_151 : decode cX7_about 151 = .ok (.ireturn, 1) := by decide +kernel
theorem dX7_about_152 : decode cX7_about 152 = .ok (.aload_n 0, 1) := by decide +kernel
theorem dX7_about_153 : decode cX7_about 153 = .ok (.getfield 26, 3) := by decide +kernel
theorem dX7_about_156 : decode cX7_about 156 = .ok (.getfield 115, 3) := by decide +kernel
theorem dX7_about_159 : decode cX7_about 159 = .ok (.ireturn, 1) := by decide +kernel
theorem dX7_about_160 : decode cX7_about 160 = .ok (.aload_n 0, 1) := by decide +kernel
theorem dX7_about_161 : decode cX7_about 161 = .ok (.getfield 26, 3) := by decide +kernel
theorem dX7_about_164 : decode cX7_about 164 = .ok (.getfield 118, 3) := by decide +kernel
theorem dX7_about_167 : decode cX7_about 167 = .ok (.ireturn, 1) := by decide +kernel
theorem dX7_about_168 : decode cX7_about 168 = .ok (.aload_n 0, 1) := by decide +kernel
theorem dX7_about_169 : decode cX7_about 169 = .ok (.getfield 26, 3) := by decide +kernel
theorem dX7_about_172 : decode cX7_about 172 = .ok (.getfield 121, 3) := by decide +kernel
theorem dX7_about_175 : decode cX7_about 175 = .ok (.ireturn, 1) := by decide +kernel
theorem dX7_about_176 : decode cX7_about 176 = .ok (.aload_n 0, 1) := by decide +kernel
theorem dX7_about_177 : decode cX7_about 177 = .ok (.getfield 26, 3) := by decide +kernel
theorem dX7_about_180 : decode cX7_about 180 = .ok (.getfield 124, 3) := by decide +kernel
theorem dX7_about_183 : decode cX7_about 183 = .ok (.ireturn, 1) := by decide +kernel
theorem dX7_about_184 : decode cX7_about 184 = .ok (.aload_n 0, 1) := by decide +kernel
theorem dX7_about_185 : decode cX7_about 185 = .ok (.getfield 26, 3) := by decide +kernel
theorem dX7_about_188 : decode cX7_about 188 = .ok (.getfield 127, 3) := by decide +kernel
theorem dX7_about_191 : decode cX7_about 191 = .ok (.ireturn, 1) := by decide +kernel
theorem dX7_about_192 : decode cX7_about 192 = .ok (.aload_n 0, 1) := by decide +kernel
theorem dX7_about_193 : decode cX7_about 193 = .ok (.getfield 26, 3) := by decide +kernel
theorem dX7_about_196 : decode cX7_about 196 = .ok (.getfield 130, 3) := by decide +kernel
theorem dX7_about_199 : decode cX7_about 199 = .ok (.ireturn, 1) := by decide +kernel
theorem dX7_about_200 : decode cX7_about 200 = .ok (.aload_n 0, 1) := by decide +kernel
theorem dX7_about_201 : decode cX7_about 201 = .ok (.getfield 26, 3) := by decide +kernel
theorem dX7_about_204 : decode cX7_about 204 = .ok (.getfield 133, 3) := by decide +kernel
theorem dX7_about_207 : decode cX7_about 207 = .ok (.ireturn, 1) := by decide +kernel
theorem dX7_about_208 : decode cX7_about 208 = .ok (.aload_n 0, 1) := by decide +kernel
theorem dX7_about_209 : decode cX7_about 209 = .ok (.getfield 26, 3) := by decide +kernel
theorem dX7_about_212 : decode cX7_about 212 = .ok (.getfield 136, 3) := by decide +kernel
theorem dX7_about_215 : decode cX7_about 215 = .ok (.ireturn, 1) := by decide +kernel
theorem dX7_about_216 : decode cX7_about 216 = .ok (.aload_n 0, 1) := by decide +kernel
theorem dX7_about_217 : decode cX7_about 217 = .ok (.invokevirtual 139, 3) := by decide +kernel
theorem dX7_about_220 : decode cX7_about 220 = .ok (.ireturn, 1) := by decide +kernel
theorem dX7_about_221 : decode cX7_about 221 = .ok (.aload_n 0, 1) := by decide +kernel
theorem dX7_about_222 : decode cX7_about 222 = .ok (.invokevirtual 142, 3) := by decide +kernel
theorem dX7_about_225 : decode cX7_about 225 = .ok (.ireturn, 1) := by decide +kernel
theorem dX7_about_226 : decode cX7_about 226 = .ok (.aload_n 0, 1) := by decide +kernel
theorem dX7_about_227 : decode cX7_about 227 = .ok (.getfield 46, 3) := by decide +kernel
theorem dX7_about_230 : decode cX7_about 230 = .ok (.getfield 145, 3) := by decide +kernel
theorem dX7_about_233 : decode cX7_about 233 = .ok (.ireturn, 1) := by decide +kernel
theorem dX7_about_234 : decode cX7_about 234 = .ok (.aload_n 0, 1) := by decide +kernel
theorem dX7_about_235 : decode cX7_about 235 = .ok (.getfield 53, 3) := by decide +kernel
theorem dX7_about_238 : decode cX7_about 238 = .ok (.getfield 148, 3) := by decide +kernel
theorem dX7_about_241 : decode cX7_about 241 = .ok (.ireturn, 1) := by decide +kernel
theorem dX7_about_242 : decode cX7_about 242 = .ok (.aload_n 0, 1) := by decide +kernel
theorem dX7_about_243 : decode cX7_about 243 = .ok (.getfield 10, 3) := by decide +kernel
theorem dX7_about_246 : decode cX7_about 246 = .ok (.getfield 68, 3) := by decide +kernel
theorem dX7_about_249 : decode cX7_about 249 = .ok (.ireturn, 1) := by decide +kernel
theorem dX7_about_250 : decode cX7_about 250 = .ok (.bipush (-2), 2) := by decide +kernel
theorem dX7_about_252 : decode cX7_about 252 = .ok (.ireturn, 1) := by decide +kernel
theorem dX7_heat_0 : decode cX7_heat 0 = .ok (.aload_n 0, 1) := by decide +kernel
theorem dX7_heat_1 : decode cX7_heat 1 = .ok (.getfield 19, 3) := by decide +kernel
theorem dX7_heat_4 : decode cX7_heat 4 = .ok (.iload_n 1, 1) := by decide +kernel
theorem dX7_heat_5 : decode cX7_heat 5 = .ok (.invokevirtual 149, 3) := by decide +kernel
theorem dX7_heat_8 : decode cX7_heat 8 = .ok (.ifCond .eq 15, 3) := by decide +kernel
theorem dX7_heat_11 : decode cX7_heat 11 = .ok (.aload_n 0, 1) := by decide +kernel
theorem dX7_heat_12 : decode cX7_heat 12 = .ok (.getfield 26, 3) := by decide +kernel
theorem dX7_heat_15 : decode cX7_heat 15 = .ok (.getfield 152, 3) := by decide +kernel
theorem dX7_heat_18 : decode cX7_heat 18 = .ok (.iload_n 1, 1) := by decide +kernel
theorem dX7_heat_19 : decode cX7_heat 19 = .ok (.iaload, 1) := by decide +kernel
theorem dX7_heat_20 : decode cX7_heat 20 = .ok (.goto 4, 3) := by decide +kernel
theorem dX7_heat_23 : decode cX7_heat 23 = .ok (.iconst (-1), 1) := by decide +kernel
theorem dX7_heat_24 : decode cX7_heat 24 = .ok (.ireturn, 1) := by decide +kernel
theorem dX7_table_0 : decode cX7_table 0 = .ok (.iload_n 1, 1) := by decide +kernel
theorem dX7_table_1 : decode cX7_table 1 = .ok (.invokestatic 156, 3) := by decide +kernel
theorem dX7_table_4 : decode cX7_table 4 = .ok (.ifCond .eq 15, 3) := by decide +kernel
theorem dX7_table_7 : decode cX7_table 7 = .ok (.aload_n 0, 1) := by decide +kernel
theorem dX7_table_8 : decode cX7_table 8 = .ok (.getfield 26, 3) := by decide +kernel
theorem dX7_table_11 : decode cX7_table 11 = .ok (.getfield 159, 3) := by decide +kernel
theorem dX7_table_14 : decode cX7_table 14 = .ok (.iload_n 1, 1) := by decide +kernel
theorem dX7_table_15 : decode cX7_table 15 = .ok (.iaload, 1) := by decide +kernel
theorem dX7_table_16 : decode cX7_table 16 = .ok (.goto 5, 3) := by decide +kernel
theorem dX7_table_19 : decode cX7_table 19 = .ok (.bipush (-2), 2) := by decide +kernel
theorem dX7_table_21 : decode cX7_table 21 = .ok (.ireturn, 1) := by decide +kernel
theorem dX7_line_0 : decode cX7_line 0 = .ok (.iload_n 2, 1) := by decide +kernel
theorem dX7_line_1 : decode cX7_line 1 = .ok (.ifCond .lt 8, 3) := by decide +kernel
theorem dX7_line_4 : decode cX7_line 4 = .ok (.iload_n 2, 1) := by decide +kernel
theorem dX7_line_5 : decode cX7_line 5 = .ok (.iconst 3, 1) := by decide +kernel
theorem dX7_line_6 : decode cX7_line 6 = .ok (.if_icmp .le 6, 3) := by decide +kernel
theorem dX7_line_9 : decode cX7_line 9 = .ok (.bipush (-2), 2) := by decide +kernel
theorem dX7_line_11 : decode cX7_line 11 = .ok (.ireturn, 1) := by decide +kernel
theorem dX7_line_12 : decode cX7_line 12 = .ok (.iload_n 1, 1) := by decide +kernel
theorem dX7_line_13 : decode cX7_line 13 = .ok (.ifCond .lt 14, 3) := by decide +kernel
theorem dX7_line_16 : decode cX7_line 16 = .ok (.iload_n 1, 1) := by decide +kernel
theorem dX7_line_17 : decode cX7_line 17 = .ok (.aload_n 0, 1) := by decide +kernel
theorem dX7_line_18 : decode cX7_line 18 = .ok (.getfield 26, 3) := by decide +kernel
theorem dX7_line_21 : decode cX7_line 21 = .ok (.getfield 94, 3) := by decide +kernel
theorem dX7_line_24 : decode cX7_line 24 = .ok (.if_icmp .lt 6, 3) := by decide +kernel
theorem dX7_line_27 : decode cX7_line 27 = .ok (.bipush (-9), 2) := by decide +kernel
theorem dX7_line_29 : decode cX7_line 29 = .ok (.ireturn, 1) := by decide +kernel
theorem dX7_line_30 : decode cX7_line 30 = .ok (.iload_n 2, 1) := by decide +kernel
theorem dX7_line_31 : decode cX7_line 31 = .ok (.ifCond .ne 13, 3) := by decide +kernel
theorem dX7_line_34 : decode cX7_line 34 = .ok (.aload_n 0, 1) := by decide +kernel
theorem dX7_line_35 : decode cX7_line 35 = .ok (.getfield 26, 3) := by decide +kernel
theorem dX7_line_38 : decode cX7_line 38 = .ok (.getfield 162, 3) := by decide +kernel
theorem dX7_line_41 : decode cX7_line 41 = .ok (.iload_n 1, 1) := by decide +kernel
theorem dX7_line_42 : decode cX7_line 42 = .ok (.iaload, 1) := by decide +kernel
theorem dX7_line_43 : decode cX7_line 43 = .ok (.ireturn, 1) := by decide +kernel
theorem dX7_line_44 : decode cX7_line 44 = .ok (.aload_n 0, 1) := by decide +kernel
theorem dX7_line_45 : decode cX7_line 45 = .ok (.getfield 39, 3) := by decide +kernel
theorem dX7_line_48 : decode cX7_line 48 = .ok (.aload_n 0, 1) := by decide +kernel
theorem dX7_line_49 : decode cX7_line 49 = .ok (.getfield 19, 3) := by decide +kernel
theorem dX7_line_52 : decode cX7_line 52 = .ok (.aload_n 0, 1) := by decide +kernel
theorem dX7_line_53 : decode cX7_line 53 = .ok (.getfield 26, 3) := by decide +kernel
theorem dX7_line_56 : decode cX7_line 56 = .ok (.invokevirtual 165, 3) := by decide +kernel
theorem dX7_line_59 : decode cX7_line 59 = .ok (.iload_n 2, 1) := by decide +kernel
theorem dX7_line_60 : decode cX7_line 60 = .ok (.lookupswitch 51 #[(1, 28), (2, 38)], 28) := by decide +kernel
theorem dX7_line_88 : decode cX7_line 88 = .ok (.aload_n 0, 1) := by decide +kernel
theorem dX7_line_89 : decode cX7_line 89 = .ok (.getfield 39, 3) := by decide +kernel
theorem dX7_line_92 : decode cX7_line 92 = .ok (.getfield 169, 3) := by decide +kernel
theorem dX7_line_95 : decode cX7_line 95 = .ok (.iload_n 1, 1) := by decide +kernel
theorem dX7_line_96 : decode cX7_line 96 = .ok (.iaload, 1) := by decide +kernel
theorem dX7_line_97 : decode cX7_line 97 = .ok (.ireturn, 1) := by decide +kernel
theorem dX7_line_98 : decode cX7_line 98 = .ok (.aload_n 0, 1) := by decide +kernel
theorem dX7_line_99 : decode cX7_line 99 = .ok (.getfield 39, 3) := by decide +kernel
theorem dX7_line_102 : decode cX7_line 102 = .ok (.getfield 169, 3) := by decide +kernel
theorem dX7_line_105 : decode cX7_line 105 = .ok (.iload_n 1, 1) := by decide +kernel
theorem dX7_line_106 : decode cX7_line 106 = .ok (.iaload, 1) := by decide +kernel
theorem dX7_line_107 : decode cX7_line 107 = .ok (.invokestatic 172, 3) := by decide +kernel
theorem dX7_line_110 : decode cX7_line 110 = .ok (.ireturn, 1) := by decide +kernel
theorem dX7_line_111 : decode cX7_line 111 = .ok (.aload_n 0, 1) := by decide +kernel
theorem dX7_line_112 : decode cX7_line 112 = .ok (.getfield 39, 3) := by decide +kernel
theorem dX7_line_115 : decode cX7_line 115 = .ok (.getfield 176, 3) := by decide +kernel
theorem dX7_line_118 : decode cX7_line 118 = .ok (.iload_n 1, 1) := by decide +kernel
theorem dX7_line_119 : decode cX7_line 119 = .ok (.iaload, 1) := by decide +kernel
theorem dX7_line_120 : decode cX7_line 120 = .ok (.ireturn, 1) := by decide +kernel
theorem dX7_put_0 : decode cX7_put 0 = .ok (.aload_n 0, 1) := by decide +kernel
theorem dX7_put_1 : decode cX7_put 1 = .ok (.getfield 19, 3) := by decide +kernel
theorem dX7_put_4 : decode cX7_put 4 = .ok (.iload_n 1, 1) := by decide +kernel
theorem dX7_put_5 : decode cX7_put 5 = .ok (.invokevirtual 179, 3) := by decide +kernel
theorem dX7_put_8 : decode cX7_put 8 = .ok (.ifCond .ne 6, 3) := by decide +kernel
theorem dX7_put_11 : decode cX7_put 11 = .ok (.bipush (-2), 2) := by decide +kernel
theorem dX7_put_13 : decode cX7_put 13 = .ok (.ireturn, 1) := by decide +kernel
theorem dX7_put_14 : decode cX7_put 14 = .ok (.aload_n 0, 1) := by decide +kernel
theorem dX7_put_15 : decode cX7_put 15 = .ok (.getfield 26, 3) := by decide +kernel
theorem dX7_put_18 : decode cX7_put 18 = .ok (.invokevirtual 182, 3) := by decide +kernel
theorem dX7_put_21 : decode cX7_put 21 = .ok (.ifCond .eq 6, 3) := by decide +kernel
theorem dX7_put_24 : decode cX7_put 24 = .ok (.bipush (-4), 2) := by decide +kernel
theorem dX7_put_26 : decode cX7_put 26 = .ok (.ireturn, 1) := by decide +kernel
theorem dX7_put_27 : decode cX7_put 27 = .ok (.aload_n 0, 1) := by decide +kernel
theorem dX7_put_28 : decode cX7_put 28 = .ok (.getfield 46, 3) := by decide +kernel
theorem dX7_put_31 : decode cX7_put 31 = .ok (.aload_n 0, 1) := by decide +kernel
theorem dX7_put_32 : decode cX7_put 32 = .ok (.getfield 26, 3) := by decide +kernel
theorem dX7_put_35 : decode cX7_put 35 = .ok (.invokevirtual 186, 3) := by decide +kernel
theorem dX7_put_38 : decode cX7_put 38 = .ok (.aload_n 0, 1) := by decide +kernel
theorem dX7_put_39 : decode cX7_put 39 = .ok (.getfield 26, 3) := by decide +kernel
theorem dX7_put_42 : decode cX7_put 42 = .ok (.iload_n 1, 1) := by decide +kernel
theorem dX7_put_43 : decode cX7_put 43 = .ok (.invokevirtual 189, 3) := by decide +kernel
theorem dX7_put_46 : decode cX7_put 46 = .ok (.aload_n 0, 1) := by decide +kernel
theorem dX7_put_47 : decode cX7_put 47 = .ok (.getfield 26, 3) := by decide +kernel
theorem dX7_put_50 : decode cX7_put 50 = .ok (.getfield 94, 3) := by decide +kernel
theorem dX7_put_53 : decode cX7_put 53 = .ok (.ireturn, 1) := by decide +kernel
theorem dX7_print_0 : decode cX7_print 0 = .ok (.iload_n 1, 1) := by decide +kernel
theorem dX7_print_1 : decode cX7_print 1 = .ok (.iconst 1, 1) := by decide +kernel
theorem dX7_print_2 : decode cX7_print 2 = .ok (.if_icmp .lt 9, 3) := by decide +kernel
theorem dX7_print_5 : decode cX7_print 5 = .ok (.iload_n 1, 1) := by decide +kernel
theorem dX7_print_6 : decode cX7_print 6 = .ok (.bipush 9, 2) := by decide +kernel
theorem dX7_print_8 : decode cX7_print 8 = .ok (.if_icmp .le 6, 3) := by decide +kernel
theorem dX7_print_11 : decode cX7_print 11 = .ok (.bipush (-2), 2) := by decide +kernel
theorem dX7_print_13 : decode cX7_print 13 = .ok (.ireturn, 1) := by decide +kernel
theorem dX7_print_14 : decode cX7_print 14 = .ok (.aload_n 0, 1) := by decide +kernel
theorem dX7_print_15 : decode cX7_print 15 = .ok (.getfield 46, 3) := by decide +kernel
theorem dX7_print_18 : decode cX7_print 18 = .ok (.aload_n 0, 1) := by decide +kernel
theorem dX7_print_19 : decode cX7_print 19 = .ok (.getfield 26, 3) := by decide +kernel
theorem dX7_print_22 : decode cX7_print 22 = .ok (.invokevirtual 186, 3) := by decide +kernel
theorem dX7_print_25 : decode cX7_print 25 = .ok (.aload_n 0, 1) := by decide +kernel
theorem dX7_print_26 : decode cX7_print 26 = .ok (.getfield 19, 3) := by decide +kernel
theorem dX7_print_29 : decode cX7_print 29 = .ok (.aload_n 0, 1) := by decide +kernel
theorem dX7_print_30 : decode cX7_print 30 = .ok (.getfield 26, 3) := by decide +kernel
theorem dX7_print_33 : decode cX7_print 33 = .ok (.iload_n 1, 1) := by decide +kernel
theorem dX7_print_34 : decode cX7_print 34 = .ok (.iconst 0, 1) := by decide +kernel
theorem dX7_print_35 : decode cX7_print 35 = .ok (.invokevirtual 192, 3) := by decide +kernel
theorem dX7_print_38 : decode cX7_print 38 = .ok (.ireturn, 1) := by decide +kernel
theorem dX7_pause_0 : decode cX7_pause 0 = .ok (.iload_n 1, 1) := by decide +kernel
theorem dX7_pause_1 : decode cX7_pause 1 = .ok (.invokestatic 196, 3) := by decide +kernel
theorem dX7_pause_4 : decode cX7_pause 4 = .ok (.ifCond .ne 6, 3) := by decide +kernel
theorem dX7_pause_7 : decode cX7_pause 7 = .ok (.bipush (-2), 2) := by decide +kernel
theorem dX7_pause_9 : decode cX7_pause 9 = .ok (.ireturn, 1) := by decide +kernel
theorem dX7_pause_10 : decode cX7_pause 10 = .ok (.aload_n 0, 1) := by decide +kernel
theorem dX7_pause_11 : decode cX7_pause 11 = .ok (.getfield 46, 3) := by decide +kernel
theorem dX7_pause_14 : decode cX7_pause 14 = .ok (.aload_n 0, 1) := by decide +kernel
theorem dX7_pause_15 : decode cX7_pause 15 = .ok (.getfield 26, 3) := by decide +kernel
theorem dX7_pause_18 : decode cX7_pause 18 = .ok (.invokevirtual 186, 3) := by decide +kernel
theorem dX7_pause_21 : decode cX7_pause 21 = .ok (.aload_n 0, 1) := by decide +kernel
theorem dX7_pause_22 : decode cX7_pause 22 = .ok (.getfield 19, 3) := by decide +kernel
theorem dX7_pause_25 : decode cX7_pause 25 = .ok (.aload_n 0, 1) := by decide +kernel
theorem dX7_pause_26 : decode cX7_pause 26 = .ok (.getfield 26, 3) := by decide +kernel
theorem dX7_pause_29 : decode cX7_pause 29 = .ok (.iload_n 1, 1) := by decide +kernel
theorem dX7_pause_30 : decode cX7_pause 30 = .ok (.invokevirtual 199, 3) := by decide +kernel
theorem dX7_pause_33 : decode cX7_pause 33 = .ok (.aload_n 0, 1) := by decide +kernel
theorem dX7_pause_34 : decode cX7_pause 34 = .ok (.getfield 26, 3) := by decide +kernel
theorem dX7_pause_37 : decode cX7_pause 37 = .ok (.invokevirtual 203, 3) := by decide +kernel
theorem dX7_pause_40 : decode cX7_pause 40 = .ok (.ireturn, 1) := by decide +kernel
theorem dX7_set_0 : decode cX7_set 0 = .ok (.aload_n 0, 1) := by decide +kernel
theorem dX7_set_1 : decode cX7_set 1 = .ok (.getfield 26, 3) := by decide +kernel
theorem dX7_set_4 : decode cX7_set 4 = .ok (.iload_n 1, 1) := by decide +kernel
theorem dX7_set_5 : decode cX7_set 5 = .ok (.iload_n 2, 1) := by decide +kernel
theorem dX7_set_6 : decode cX7_set 6 = .ok (.invokevirtual 206, 3) := by decide +kernel
theorem dX7_set_9 : decode cX7_set 9 = .ok (.ifCond .ne 6, 3) := by decide +kernel
theorem dX7_set_12 : decode cX7_set 12 = .ok (.bipush (-2), 2) := by decide +kernel
theorem dX7_set_14 : decode cX7_set 14 = .ok (.ireturn, 1) := by decide +kernel
theorem dX7_set_15 : decode cX7_set 15 = .ok (.aload_n 0, 1) := by decide +kernel
theorem dX7_set_16 : decode cX7_set 16 = .ok (.getfield 46, 3) := by decide +kernel
theorem dX7_set_19 : decode cX7_set 19 = .ok (.aload_n 0, 1) := by decide +kernel
theorem dX7_set_20 : decode cX7_set 20 = .ok (.getfield 26, 3) := by decide +kernel
theorem dX7_set_23 : decode cX7_set 23 = .ok (.invokevirtual 186, 3) := by decide +kernel
theorem dX7_set_26 : decode cX7_set 26 = .ok (.aload_n 0, 1) := by decide +kernel
theorem dX7_set_27 : decode cX7_set 27 = .ok (.getfield 26, 3) := by decide +kernel
theorem dX7_set_30 : decode cX7_set 30 = .ok (.getfield 159, 3) := by decide +kernel
theorem dX7_set_33 : decode cX7_set 33 = .ok (.iload_n 1, 1) := by decide +kernel
theorem dX7_set_34 : decode cX7_set 34 = .ok (.iaload, 1) := by decide +kernel
theorem dX7_set_35 : decode cX7_set 35 = .ok (.istore_n 3, 1) := by decide +kernel
theorem dX7_set_36 : decode cX7_set 36 = .ok (.aload_n 0, 1) := by decide +kernel
theorem dX7_set_37 : decode cX7_set 37 = .ok (.getfield 26, 3) := by decide +kernel
theorem dX7_set_40 : decode cX7_set 40 = .ok (.getfield 159, 3) := by decide +kernel
theorem dX7_set_43 : decode cX7_set 43 = .ok (.iload_n 1, 1) := by decide +kernel
theorem dX7_set_44 : decode cX7_set 44 = .ok (.iload_n 2, 1) := by decide +kernel
theorem dX7_set_45 : decode cX7_set 45 = .ok (.iastore, 1) := by decide +kernel
theorem dX7_set_46 : decode cX7_set 46 = .ok (.iload_n 3, 1) := by decide +kernel
theorem dX7_set_47 : decode cX7_set 47 = .ok (.ireturn, 1) := by decide +kernel
theorem dX7_ribbon_0 : decode cX7_ribbon 0 = .ok (.iload_n 1, 1) := by decide +kernel
theorem dX7_ribbon_1 : decode cX7_ribbon 1 = .ok (.ifCond .lt 10, 3) := by decide +kernel
theorem dX7_ribbon_4 : decode cX7_ribbon 4 = .ok (.iload_n 1, 1) := by decide +kernel
theorem dX7_ribbon_5 : decode cX7_ribbon 5 = .ok (.sipush 999, 3) := by decide +kernel
theorem dX7_ribbon_8 : decode cX7_ribbon 8 = .ok (.if_icmp .le 6, 3) := by decide +kernel
theorem dX7_ribbon_11 : decode cX7_ribbon 11 = .ok (.bipush (-2), 2) := by decide +kernel
theorem dX7_ribbon_13 : decode cX7_ribbon 13 = .ok (.ireturn, 1) := by decide +kernel
theorem dX7_ribbon_14 : decode cX7_ribbon 14 = .ok (.aload_n 0, 1) := by decide +kernel
theorem dX7_ribbon_15 : decode cX7_ribbon 15 = .ok (.getfield 46, 3) := by decide +kernel
theorem dX7_ribbon_18 : decode cX7_ribbon 18 = .ok (.aload_n 0, 1) := by decide +kernel
theorem dX7_ribbon_19 : decode cX7_ribbon 19 = .ok (.getfield 26, 3) := by decide +kernel
theorem dX7_ribbon_22 : decode cX7_ribbon 22 = .ok (.invokevirtual 186, 3) := by decide +kernel
theorem dX7_ribbon_25 : decode cX7_ribbon 25 = .ok (.aload_n 0, 1) := by decide +kernel
theorem dX7_ribbon_26 : decode cX7_ribbon 26 = .ok (.getfield 26, 3) := by decide +kernel
theorem dX7_ribbon_29 : decode cX7_ribbon 29 = .ok (.getfield 121, 3) := by decide +kernel
theorem dX7_ribbon_32 : decode cX7_ribbon 32 = .ok (.istore_n 2, 1) := by decide +kernel
theorem dX7_ribbon_33 : decode cX7_ribbon 33 = .ok (.aload_n 0, 1) := by decide +kernel
theorem dX7_ribbon_34 : decode cX7_ribbon 34 = .ok (.getfield 26, 3) := by decide +kernel
theorem dX7_ribbon_37 : decode cX7_ribbon 37 = .ok (.iload_n 1, 1) := by decide +kernel
theorem dX7_ribbon_38 : decode cX7_ribbon 38 = .ok (.putfield 121, 3) := by decide +kernel
theorem dX7_ribbon_41 : decode cX7_ribbon 41 = .ok (.iload_n 2, 1) := by decide +kernel
theorem dX7_ribbon_42 : decode cX7_ribbon 42 = .ok (.ireturn, 1) := by decide +kernel
theorem dX7_undo_0 : decode cX7_undo 0 = .ok (.aload_n 0, 1) := by decide +kernel
theorem dX7_undo_1 : decode cX7_undo 1 = .ok (.getfield 46, 3) := by decide +kernel
theorem dX7_undo_4 : decode cX7_undo 4 = .ok (.aload_n 0, 1) := by decide +kernel
theorem dX7_undo_5 : decode cX7_undo 5 = .ok (.getfield 26, 3) := by decide +kernel
theorem dX7_undo_8 : decode cX7_undo 8 = .ok (.invokevirtual 210, 3) := by decide +kernel
theorem dX7_undo_11 : decode cX7_undo 11 = .ok (.ifCond .eq 13, 3) := by decide +kernel
theorem dX7_undo_14 : decode cX7_undo 14 = .ok (.aload_n 0, 1) := by decide +kernel
theorem dX7_undo_15 : decode cX7_undo 15 = .ok (.getfield 46, 3) := by decide +kernel
theorem dX7_undo_18 : decode cX7_undo 18 = .ok (.getfield 145, 3) := by decide +kernel
theorem dX7_undo_21 : decode cX7_undo 21 = .ok (.goto 5, 3) := by decide +kernel
theorem dX7_undo_24 : decode cX7_undo 24 = .ok (.bipush (-3), 2) := by decide +kernel
theorem dX7_undo_26 : decode cX7_undo 26 = .ok (.ireturn, 1) := by decide +kernel
theorem dX7_ahead_0 : decode cX7_ahead 0 = .ok (.aload_n 0, 1) := by decide +kernel
theorem dX7_ahead_1 : decode cX7_ahead 1 = .ok (.getfield 19, 3) := by decide +kernel
theorem dX7_ahead_4 : decode cX7_ahead 4 = .ok (.iload_n 2, 1) := by decide +kernel
theorem dX7_ahead_5 : decode cX7_ahead 5 = .ok (.invokevirtual 149, 3) := by decide +kernel
theorem dX7_ahead_8 : decode cX7_ahead 8 = .ok (.ifCond .ne 5, 3) := by decide +kernel
theorem dX7_ahead_11 : decode cX7_ahead 11 = .ok (.iconst (-1), 1) := by decide +kernel
theorem dX7_ahead_12 : decode cX7_ahead 12 = .ok (.ireturn, 1) := by decide +kernel
theorem dX7_ahead_13 : decode cX7_ahead 13 = .ok (.iload_n 1, 1) := by decide +kernel
theorem dX7_ahead_14 : decode cX7_ahead 14 = .ok (.ifCond .lt 9, 3) := by decide +kernel
theorem dX7_ahead_17 : decode cX7_ahead 17 = .ok (.iload_n 1, 1) := by decide +kernel
theorem dX7_ahead_18 : decode cX7_ahead 18 = .ok (.bipush 9, 2) := by decide +kernel
theorem dX7_ahead_20 : decode cX7_ahead 20 = .ok (.if_icmp .le 6, 3) := by decide +kernel
theorem dX7_ahead_23 : decode cX7_ahead 23 = .ok (.bipush (-2), 2) := by decide +kernel
theorem dX7_ahead_25 : decode cX7_ahead 25 = .ok (.ireturn, 1) := by decide +kernel
theorem dX7_ahead_26 : decode cX7_ahead 26 = .ok (.aload_n 0, 1) := by decide +kernel
theorem dX7_ahead_27 : decode cX7_ahead 27 = .ok (.iload_n 1, 1) := by decide +kernel
theorem dX7_ahead_28 : decode cX7_ahead 28 = .ok (.iload_n 2, 1) := by decide +kernel
theorem dX7_ahead_29 : decode cX7_ahead 29 = .ok (.iconst 0, 1) := by decide +kernel
theorem dX7_ahead_30 : decode cX7_ahead 30 = .ok (.invokevirtual 214, 3) := by decide +kernel
theorem dX7_ahead_33 : decode cX7_ahead 33 = .ok (.ireturn, 1) := by decide +kernel
theorem dX7_fit_0 : decode cX7_fit 0 = .ok (.iload_n 1, 1) := by decide +kernel
theorem dX7_fit_1 : decode cX7_fit 1 = .ok (.invokestatic 156, 3) := by decide +kernel
theorem dX7_fit_4 : decode cX7_fit 4 = .ok (.ifCond .ne 6, 3) := by decide +kernel
theorem dX7_fit_7 : decode cX7_fit 7 = .ok (.bipush (-2), 2) := by decide +kernel
theorem dX7_fit_9 : decode cX7_fit 9 = .ok (.ireturn, 1) := by decide +kernel
theorem dX7_fit_10 : decode cX7_fit 10 = .ok (.aload_n 0, 1) := by decide +kernel
theorem dX7_fit_11 : decode cX7_fit 11 = .ok (.getfield 26, 3) := by decide +kernel
theorem dX7_fit_14 : decode cX7_fit 14 = .ok (.getfield 159, 3) := by decide +kernel
theorem dX7_fit_17 : decode cX7_fit 17 = .ok (.iload_n 1, 1) := by decide +kernel
theorem dX7_fit_18 : decode cX7_fit 18 = .ok (.iaload, 1) := by decide +kernel
theorem dX7_fit_19 : decode cX7_fit 19 = .ok (.istore_n 2, 1) := by decide +kernel
theorem dX7_fit_20 : decode cX7_fit 20 = .ok (.iconst (-1), 1) := by decide +kernel
theorem dX7_fit_21 : decode cX7_fit 21 = .ok (.istore_n 3, 1) := by decide +kernel
theorem dX7_fit_22 : decode cX7_fit 22 = .ok (.iconst 0, 1) := by decide +kernel
theorem dX7_fit_23 : decode cX7_fit 23 = .ok (.istore 4, 2) := by decide +kernel
theorem dX7_fit_25 : decode cX7_fit 25 = .ok (.iload 4, 2) := by decide +kernel
theorem dX7_fit_27 : decode cX7_fit 27 = .ok (.bipush 9, 2) := by decide +kernel
theorem dX7_fit_29 : decode cX7_fit 29 = .ok (.if_icmp .gt 70, 3) := by decide +kernel
theorem dX7_fit_32 : decode cX7_fit 32 = .ok (.aload_n 0, 1) := by decide +kernel
theorem dX7_fit_33 : decode cX7_fit 33 = .ok (.getfield 26, 3) := by decide +kernel
theorem dX7_fit_36 : decode cX7_fit 36 = .ok (.iload_n 1, 1) := by decide +kernel
theorem dX7_fit_37 : decode cX7_fit 37 = .ok (.iload 4, 2) := by decide +kernel
theorem dX7_fit_39 : decode cX7_fit 39 = .ok (.invokevirtual 206, 3) := by decide +kernel
theorem dX7_fit_42 : decode cX7_fit 42 = .ok (.ifCond .eq 51, 3) := by decide +kernel
theorem dX7_fit_45 : decode cX7_fit 45 = .ok (.aload_n 0, 1) := by decide +kernel
theorem dX7_fit_46 : decode cX7_fit 46 = .ok (.getfield 30, 3) := by decide +kernel
theorem dX7_fit_49 : decode cX7_fit 49 = .ok (.aload_n 0, 1) := by decide +kernel
theorem dX7_fit_50 : decode cX7_fit 50 = .ok (.getfield 26, 3) := by decide +kernel
theorem dX7_fit_53 : decode cX7_fit 53 = .ok (.invokevirtual 218, 3) := by decide +kernel
theorem dX7_fit_56 : decode cX7_fit 56 = .ok (.aload_n 0, 1) := by decide +kernel
theorem dX7_fit_57 : decode cX7_fit 57 = .ok (.getfield 30, 3) := by decide +kernel
theorem dX7_fit_60 : decode cX7_fit 60 = .ok (.getfield 159, 3) := by decide +kernel
theorem dX7_fit_63 : decode cX7_fit 63 = .ok (.iload_n 1, 1) := by decide +kernel
theorem dX7_fit_64 : decode cX7_fit 64 = .ok (.iload 4, 2) := by decide +kernel
theorem dX7_fit_66 : decode cX7_fit 66 = .ok (.iastore, 1) := by decide +kernel
theorem dX7_fit_67 : decode cX7_fit 67 = .ok (.aload_n 0, 1) := by decide +kernel
theorem dX7_fit_68 : decode cX7_fit 68 = .ok (.getfield 19, 3) := by decide +kernel
theorem dX7_fit_71 : decode cX7_fit 71 = .ok (.aload_n 0, 1) := by decide +kernel
theorem dX7_fit_72 : decode cX7_fit 72 = .ok (.getfield 30, 3) := by decide +kernel
theorem dX7_fit_75 : decode cX7_fit 75 = .ok (.iconst 0, 1) := by decide +kernel
theorem dX7_fit_76 : decode cX7_fit 76 = .ok (.invokevirtual 221, 3) := by decide +kernel
theorem dX7_fit_79 : decode cX7_fit 79 = .ok (.istore 5, 2) := by decide +kernel
theorem dX7_fit_81 : decode cX7_fit 81 = .ok (.iload 5, 2) := by decide +kernel
theorem dX7_fit_83 : decode cX7_fit 83 = .ok (.iload_n 3, 1) := by decide +kernel
theorem dX7_fit_84 : decode cX7_fit 84 = .ok (.if_icmp .le 9, 3) := by decide +kernel
theorem dX7_fit_87 : decode cX7_fit 87 = .ok (.iload 5, 2) := by decide +kernel
theorem dX7_fit_89 : decode cX7_fit 89 = .ok (.istore_n 3, 1) := by decide +kernel
theorem dX7_fit_90 : decode cX7_fit 90 = .ok (.iload 4, 2) := by decide +kernel
theorem dX7_fit_92 : decode cX7_fit 92 = .ok (.istore_n 2, 1) := by decide +kernel
theorem dX7_fit_93 : decode cX7_fit 93 = .ok (.iinc 4 1, 3) := by decide +kernel
theorem dX7_fit_96 : decode cX7_fit 96 = .ok (.goto (-71), 3) := by decide +kernel
theorem dX7_fit_99 : decode cX7_fit 99 = .ok (.iload_n 2, 1) := by decide +kernel
theorem dX7_fit_100 : decode cX7_fit 100 = .ok (.ireturn, 1) := by decide +kernel
theorem dX7_judge_0 : decode cX7_judge 0 = .ok (.iload_n 1, 1) := by decide +kernel
theorem dX7_judge_1 : decode cX7_judge 1 = .ok (.iconst 1, 1) := by decide +kernel
theorem dX7_judge_2 : decode cX7_judge 2 = .ok (.if_icmp .lt 8, 3) := by decide +kernel
theorem dX7_judge_5 : decode cX7_judge 5 = .ok (.iload_n 1, 1) := by decide +kernel
theorem dX7_judge_6 : decode cX7_judge 6 = .ok (.iconst 4, 1) := by decide +kernel
theorem dX7_judge_7 : decode cX7_judge 7 = .ok (.if_icmp .le 6, 3) := by decide +kernel
theorem dX7_judge_10 : decode cX7_judge 10 = .ok (.bipush (-2), 2) := by decide +kernel
theorem dX7_judge_12 : decode cX7_judge 12 = .ok (.ireturn, 1) := by decide +kernel
theorem dX7_judge_13 : decode cX7_judge 13 = .ok (.lconst 1, 1) := by decide +kernel
theorem dX7_judge_14 : decode cX7_judge 14 = .ok (.lstore 4, 2) := by decide +kernel
theorem dX7_judge_16 : decode cX7_judge 16 = .ok (.iconst 1, 1) := by decide +kernel
theorem dX7_judge_17 : decode cX7_judge 17 = .ok (.istore 6, 2) := by decide +kernel
theorem dX7_judge_19 : decode cX7_judge 19 = .ok (.iload 6, 2) := by decide +kernel
theorem dX7_judge_21 : decode cX7_judge 21 = .ok (.iload_n 1, 1) := by decide +kernel
theorem dX7_judge_22 : decode cX7_judge 22 = .ok (.if_icmp .ge 17, 3) := by decide +kernel
theorem dX7_judge_25 : decode cX7_judge 25 = .ok (.lload 4, 2) := by decide +kernel
theorem dX7_judge_27 : decode cX7_judge 27 = .ok (.ldc2_w 225, 3) := by decide +kernel
theorem dX7_judge_30 : decode cX7_judge 30 = .ok (.lmul, 1) := by decide +kernel
theorem dX7_judge_31 : decode cX7_judge 31 = .ok (.lstore 4, 2) := by decide +kernel
theorem dX7_judge_33 : decode cX7_judge 33 = .ok (.iinc 6 1, 3) := by decide +kernel
theorem dX7_judge_36 : decode cX7_judge 36 = .ok (.goto (-17), 3) := by decide +kernel
theorem dX7_judge_39 : decode cX7_judge 39 = .ok (.lload_n 2, 1) := by decide +kernel
theorem dX7_judge_40 : decode cX7_judge 40 = .ok (.lconst 0, 1) := by decide +kernel
theorem dX7_judge_41 : decode cX7_judge 41 = .ok (.lcmp, 1) := by decide +kernel
theorem dX7_judge_42 : decode cX7_judge 42 = .ok (.ifCond .lt 14, 3) := by decide +kernel
theorem dX7_judge_45 : decode cX7_judge 45 = .ok (.lload_n 2, 1) := by decide +kernel
theorem dX7_judge_46 : decode cX7_judge 46 = .ok (.lload 4, 2) := by decide +kernel
theorem dX7_judge_48 : decode cX7_judge 48 = .ok (.ldc2_w 225, 3) := by decide +kernel
theorem dX7_judge_51 : decode cX7_judge 51 = .ok (.lmul, 1) := by decide +kernel
theorem dX7_judge_52 : decode cX7_judge 52 = .ok (.lcmp, 1) := by decide +kernel
theorem dX7_judge_53 : decode cX7_judge 53 = .ok (.ifCond .lt 6, 3) := by decide +kernel
theorem dX7_judge_56 : decode cX7_judge 56 = .ok (.bipush (-2), 2) := by decide +kernel
theorem dX7_judge_58 : decode cX7_judge 58 = .ok (.ireturn, 1) := by decide +kernel
theorem dX7_judge_59 : decode cX7_judge 59 = .ok (.aload_n 0, 1) := by decide +kernel
theorem dX7_judge_60 : decode cX7_judge 60 = .ok (.getfield 30, 3) := by decide +kernel
theorem dX7_judge_63 : decode cX7_judge 63 = .ok (.aload_n 0, 1) := by decide +kernel
theorem dX7_judge_64 : decode cX7_judge 64 = .ok (.getfield 26, 3) := by decide +kernel
theorem dX7_judge_67 : decode cX7_judge 67 = .ok (.invokevirtual 218, 3) := by decide +kernel
theorem dX7_judge_70 : decode cX7_judge 70 = .ok (.iconst 0, 1) := by decide +kernel
theorem dX7_judge_71 : decode cX7_judge 71 = .ok (.istore 6, 2) := by decide +kernel
theorem dX7_judge_73 : decode cX7_judge 73 = .ok (.iload 6, 2) := by decide +kernel
theorem dX7_judge_75 : decode cX7_judge 75 = .ok (.iload_n 1, 1) := by decide +kernel
theorem dX7_judge_76 : decode cX7_judge 76 = .ok (.if_icmp .ge 55, 3) := by decide +kernel
theorem dX7_judge_79 : decode cX7_judge 79 = .ok (.lload_n 2, 1) := by decide +kernel
theorem dX7_judge_80 : decode cX7_judge 80 = .ok (.lstore 7, 2) := by decide +kernel
theorem dX7_judge_82 : decode cX7_judge 82 = .ok (.iload 6, 2) := by decide +kernel
theorem dX7_judge_84 : decode cX7_judge 84 = .ok (.iconst 1, 1) := by decide +kernel
theorem dX7_judge_85 : decode cX7_judge 85 = .ok (.iadd, 1) := by decide +kernel
theorem dX7_judge_86 : decode cX7_judge 86 = .ok (.istore 9, 2) := by decide +kernel
theorem dX7_judge_88 : decode cX7_judge 88 = .ok (.iload 9, 2) := by decide +kernel
theorem dX7_judge_90 : decode cX7_judge 90 = .ok (.iload_n 1, 1) := by decide +kernel
theorem dX7_judge_91 : decode cX7_judge 91 = .ok (.if_icmp .ge 17, 3) := by decide +kernel
theorem dX7_judge_94 : decode cX7_judge 94 = .ok (.lload 7, 2) := by decide +kernel
theorem dX7_judge_96 : decode cX7_judge 96 = .ok (.ldc2_w 225, 3) := by decide +kernel
theorem dX7_judge_99 : decode cX7_judge 99 = .ok (.ldiv, 1) := by decide +kernel
theorem dX7_judge_100 : decode cX7_judge 100 = .ok (.lstore 7, 2) := by decide +kernel
theorem dX7_judge_102 : decode cX7_judge 102 = .ok (.iinc 9 1, 3) := by decide +kernel
theorem dX7_judge_105 : decode cX7_judge 105 = .ok (.goto (-17), 3) := by decide +kernel
theorem dX7_judge_108 : decode cX7_judge 108 = .ok (.aload_n 0, 1) := by decide +kernel
theorem dX7_judge_109 : decode cX7_judge 109 = .ok (.lload 7, 2) := by decide +kernel
theorem dX7_judge_111 : decode cX7_judge 111 = .ok (.ldc2_w 225, 3) := by decide +kernel
theorem dX7_judge_114 : decode cX7_judge 114 = .ok (.lrem, 1) := by decide +kernel
theorem dX7_judge_115 : decode cX7_judge 115 = .ok (.l2i, 1) := by decide +kernel
theorem dX7_judge_116 : decode cX7_judge 116 = .ok (.invokevirtual 227, 3) := by decide +kernel
theorem dX7_judge_119 : decode cX7_judge 119 = .ok (.ifCond .ne 6, 3) := by decide +kernel
theorem dX7_judge_122 : decode cX7_judge 122 = .ok (.iload 6, 2) := by decide +kernel
theorem dX7_judge_124 : decode cX7_judge 124 = .ok (.ireturn, 1) := by decide +kernel
theorem dX7_judge_125 : decode cX7_judge 125 = .ok (.iinc 6 1, 3) := by decide +kernel
theorem dX7_judge_128 : decode cX7_judge 128 = .ok (.goto (-55), 3) := by decide +kernel
theorem dX7_judge_131 : decode cX7_judge 131 = .ok (.bipush (-9), 2) := by decide +kernel
theorem dX7_judge_133 : decode cX7_judge 133 = .ok (.ireturn, 1) := by decide +kernel
theorem dX7_see_0 : decode cX7_see 0 = .ok (.aload_n 0, 1) := by decide +kernel
theorem dX7_see_1 : decode cX7_see 1 = .ok (.getfield 19, 3) := by decide +kernel
theorem dX7_see_4 : decode cX7_see 4 = .ok (.iload_n 1, 1) := by decide +kernel
theorem dX7_see_5 : decode cX7_see 5 = .ok (.invokevirtual 149, 3) := by decide +kernel
theorem dX7_see_8 : decode cX7_see 8 = .ok (.ifCond .ne 5, 3) := by decide +kernel
theorem dX7_see_11 : decode cX7_see 11 = .ok (.iconst (-1), 1) := by decide +kernel
theorem dX7_see_12 : decode cX7_see 12 = .ok (.ireturn, 1) := by decide +kernel
theorem dX7_see_13 : decode cX7_see 13 = .ok (.iload_n 2, 1) := by decide +kernel
theorem dX7_see_14 : decode cX7_see 14 = .ok (.ifCond .lt 20, 3) := by decide +kernel
theorem dX7_see_17 : decode cX7_see 17 = .ok (.iload_n 2, 1) := by decide +kernel
theorem dX7_see_18 : decode cX7_see 18 = .ok (.bipush 8, 2) := by decide +kernel
theorem dX7_see_20 : decode cX7_see 20 = .ok (.if_icmp .gt 14, 3) := by decide +kernel
theorem dX7_see_23 : decode cX7_see 23 = .ok (.iload_n 3, 1) := by decide +kernel
theorem dX7_see_24 : decode cX7_see 24 = .ok (.ifCond .lt 10, 3) := by decide +kernel
theorem dX7_see_27 : decode cX7_see 27 = .ok (.iload_n 3, 1) := by decide +kernel
theorem dX7_see_28 : decode cX7_see 28 = .ok (.sipush 999, 3) := by decide +kernel
theorem dX7_see_31 : decode cX7_see 31 = .ok (.if_icmp .le 6, 3) := by decide +kernel
theorem dX7_see_34 : decode cX7_see 34 = .ok (.bipush (-2), 2) := by decide +kernel
theorem dX7_see_36 : decode cX7_see 36 = .ok (.ireturn, 1) := by decide +kernel
theorem dX7_see_37 : decode cX7_see 37 = .ok (.aload_n 0, 1) := by decide +kernel
theorem dX7_see_38 : decode cX7_see 38 = .ok (.getfield 53, 3) := by decide +kernel
theorem dX7_see_41 : decode cX7_see 41 = .ok (.iload_n 1, 1) := by decide +kernel
theorem dX7_see_42 : decode cX7_see 42 = .ok (.iload_n 2, 1) := by decide +kernel
theorem dX7_see_43 : decode cX7_see 43 = .ok (.iload_n 3, 1) := by decide +kernel
theorem dX7_see_44 : decode cX7_see 44 = .ok (.invokevirtual 230, 3) := by decide +kernel
theorem dX7_see_47 : decode cX7_see 47 = .ok (.ifCond .eq 13, 3) := by decide +kernel
theorem dX7_see_50 : decode cX7_see 50 = .ok (.aload_n 0, 1) := by decide +kernel
theorem dX7_see_51 : decode cX7_see 51 = .ok (.getfield 53, 3) := by decide +kernel
theorem dX7_see_54 : decode cX7_see 54 = .ok (.getfield 148, 3) := by decide +kernel
theorem dX7_see_57 : decode cX7_see 57 = .ok (.goto 5, 3) := by decide +kernel
theorem dX7_see_60 : decode cX7_see 60 = .ok (.bipush (-4), 2) := by decide +kernel
theorem dX7_see_62 : decode cX7_see 62 = .ok (.ireturn, 1) := by decide +kernel
theorem dX7_unsee_0 : decode cX7_unsee 0 = .ok (.aload_n 0, 1) := by decide +kernel
theorem dX7_unsee_1 : decode cX7_unsee 1 = .ok (.getfield 53, 3) := by decide +kernel
theorem dX7_unsee_4 : decode cX7_unsee 4 = .ok (.getfield 148, 3) := by decide +kernel
theorem dX7_unsee_7 : decode cX7_unsee 7 = .ok (.istore_n 1, 1) := by decide +kernel
theorem dX7_unsee_8 : decode cX7_unsee 8 = .ok (.aload_n 0, 1) := by decide +kernel
theorem dX7_unsee_9 : decode cX7_unsee 9 = .ok (.getfield 53, 3) := by decide +kernel
theorem dX7_unsee_12 : decode cX7_unsee 12 = .ok (.iconst 0, 1) := by decide +kernel
theorem dX7_unsee_13 : decode cX7_unsee 13 = .ok (.putfield 148, 3) := by decide +kernel
theorem dX7_unsee_16 : decode cX7_unsee 16 = .ok (.iload_n 1, 1) := by decide +kernel
theorem dX7_unsee_17 : decode cX7_unsee 17 = .ok (.ireturn, 1) := by decide +kernel
theorem dX7_which_0 : decode cX7_which 0 = .ok (.iconst 0, 1) := by decide +kernel
theorem dX7_which_1 : decode cX7_which 1 = .ok (.istore_n 1, 1) := by decide +kernel
theorem dX7_which_2 : decode cX7_which 2 = .ok (.iconst 0, 1) := by decide +kernel
theorem dX7_which_3 : decode cX7_which 3 = .ok (.istore_n 2, 1) := by decide +kernel
theorem dX7_which_4 : decode cX7_which 4 = .ok (.iload_n 2, 1) := by decide +kernel
theorem dX7_which_5 : decode cX7_which 5 = .ok (.aload_n 0, 1) := by decide +kernel
theorem dX7_which_6 : decode cX7_which 6 = .ok (.getfield 19, 3) := by decide +kernel
theorem dX7_which_9 : decode cX7_which 9 = .ok (.getfield 97, 3) := by decide +kernel
theorem dX7_which_12 : decode cX7_which 12 = .ok (.if_icmp .ge 25, 3) := by decide +kernel
theorem dX7_which_15 : decode cX7_which 15 = .ok (.aload_n 0, 1) := by decide +kernel
theorem dX7_which_16 : decode cX7_which 16 = .ok (.iconst 1, 1) := by decide +kernel
theorem dX7_which_17 : decode cX7_which 17 = .ok (.iload_n 2, 1) := by decide +kernel
theorem dX7_which_18 : decode cX7_which 18 = .ok (.ishl, 1) := by decide +kernel
theorem dX7_which_19 : decode cX7_which 19 = .ok (.invokevirtual 233, 3) := by decide +kernel
theorem dX7_which_22 : decode cX7_which 22 = .ok (.ifCond .eq 9, 3) := by decide +kernel
theorem dX7_which_25 : decode cX7_which 25 = .ok (.iload_n 1, 1) := by decide +kernel
theorem dX7_which_26 : decode cX7_which 26 = .ok (.iconst 1, 1) := by decide +kernel
theorem dX7_which_27 : decode cX7_which 27 = .ok (.iload_n 2, 1) := by decide +kernel
theorem dX7_which_28 : decode cX7_which 28 = .ok (.ishl, 1) := by decide +kernel
theorem dX7_which_29 : decode cX7_which 29 = .ok (.ior, 1) := by decide +kernel
theorem dX7_which_30 : decode cX7_which 30 = .ok (.istore_n 1, 1) := by decide +kernel
theorem dX7_which_31 : decode cX7_which 31 = .ok (.iinc 2 1, 3) := by decide +kernel
theorem dX7_which_34 : decode cX7_which 34 = .ok (.goto (-30), 3) := by decide +kernel
theorem dX7_which_37 : decode cX7_which 37 = .ok (.iload_n 1, 1) := by decide +kernel
theorem dX7_which_38 : decode cX7_which 38 = .ok (.ireturn, 1) := by decide +kernel
theorem dX7_share_0 : decode cX7_share 0 = .ok (.aload_n 0, 1) := by decide +kernel
theorem dX7_share_1 : decode cX7_share 1 = .ok (.getfield 19, 3) := by decide +kernel
theorem dX7_share_4 : decode cX7_share 4 = .ok (.iload_n 1, 1) := by decide +kernel
theorem dX7_share_5 : decode cX7_share 5 = .ok (.invokevirtual 149, 3) := by decide +kernel
theorem dX7_share_8 : decode cX7_share 8 = .ok (.ifCond .ne 5, 3) := by decide +kernel
theorem dX7_share_11 : decode cX7_share 11 = .ok (.iconst (-1), 1) := by decide +kernel
theorem dX7_share_12 : decode cX7_share 12 = .ok (.ireturn, 1) := by decide +kernel
theorem dX7_share_13 : decode cX7_share 13 = .ok (.aload_n 0, 1) := by decide +kernel
theorem dX7_share_14 : decode cX7_share 14 = .ok (.getfield 19, 3) := by decide +kernel
theorem dX7_share_17 : decode cX7_share 17 = .ok (.invokevirtual 236, 3) := by decide +kernel
theorem dX7_share_20 : decode cX7_share 20 = .ok (.istore_n 3, 1) := by decide +kernel
theorem dX7_share_21 : decode cX7_share 21 = .ok (.iconst 1, 1) := by decide +kernel
theorem dX7_share_22 : decode cX7_share 22 = .ok (.iload_n 1, 1) := by decide +kernel
theorem dX7_share_23 : decode cX7_share 23 = .ok (.ishl, 1) := by decide +kernel
theorem dX7_share_24 : decode cX7_share 24 = .ok (.istore 4, 2) := by decide +kernel
theorem dX7_share_26 : decode cX7_share 26 = .ok (.lconst 0, 1) := by decide +kernel
theorem dX7_share_27 : decode cX7_share 27 = .ok (.lstore 5, 2) := by decide +kernel
theorem dX7_share_29 : decode cX7_share 29 = .ok (.iconst 0, 1) := by decide +kernel
theorem dX7_share_30 : decode cX7_share 30 = .ok (.istore 7, 2) := by decide +kernel
theorem dX7_share_32 : decode cX7_share 32 = .ok (.iload 7, 2) := by decide +kernel
theorem dX7_share_34 : decode cX7_share 34 = .ok (.iload_n 3, 1) := by decide +kernel
theorem dX7_share_35 : decode cX7_share 35 = .ok (.if_icmp .gt 61, 3) := by decide +kernel
theorem dX7_share_38 : decode cX7_share 38 = .ok (.iload 7, 2) := by decide +kernel
theorem dX7_share_40 : decode cX7_share 40 = .ok (.iload 4, 2) := by decide +kernel
theorem dX7_share_42 : decode cX7_share 42 = .ok (.iand, 1) := by decide +kernel
theorem dX7_share_43 : decode cX7_share 43 = .ok (.ifCond .ne 47, 3) := by decide +kernel
theorem dX7_share_46 : decode cX7_share 46 = .ok (.aload_n 0, 1) := by decide +kernel
theorem dX7_share_47 : decode cX7_share 47 = .ok (.iload_n 3, 1) := by decide +kernel
theorem dX7_share_48 : decode cX7_share 48 = .ok (.iload 7, 2) := by decide +kernel
theorem dX7_share_50 : decode cX7_share 50 = .ok (.iload 4, 2) := by decide +kernel
theorem dX7_share_52 : decode cX7_share 52 = .ok (.ior, 1) := by decide +kernel
theorem dX7_share_53 : decode cX7_share 53 = .ok (.iconst (-1), 1) := by decide +kernel
theorem dX7_share_54 : decode cX7_share 54 = .ok (.ixor, 1) := by decide +kernel
theorem dX7_share_55 : decode cX7_share 55 = .ok (.iand, 1) := by decide +kernel
theorem dX7_share_56 : decode cX7_share 56 = .ok (.invokevirtual 239, 3) := by decide +kernel
theorem dX7_share_59 : decode cX7_share 59 = .ok (.aload_n 0, 1) := by decide +kernel
theorem dX7_share_60 : decode cX7_share 60 = .ok (.iload_n 3, 1) := by decide +kernel
theorem dX7_share_61 : decode cX7_share 61 = .ok (.iload 7, 2) := by decide +kernel
theorem dX7_share_63 : decode cX7_share 63 = .ok (.iconst (-1), 1) := by decide +kernel
theorem dX7_share_64 : decode cX7_share 64 = .ok (.ixor, 1) := by decide +kernel
theorem dX7_share_65 : decode cX7_share 65 = .ok (.iand, 1) := by decide +kernel
theorem dX7_share_66 : decode cX7_share 66 = .ok (.invokevirtual 239, 3) := by decide +kernel
theorem dX7_share_69 : decode cX7_share 69 = .ok (.isub, 1) := by decide +kernel
theorem dX7_share_70 : decode cX7_share 70 = .ok (.istore 8, 2) := by decide +kernel
theorem dX7_share_72 : decode cX7_share 72 = .ok (.lload 5, 2) := by decide +kernel
theorem dX7_share_74 : decode cX7_share 74 = .ok (.iload 8, 2) := by decide +kernel
theorem dX7_share_76 : decode cX7_share 76 = .ok (.i2l, 1) := by decide +kernel
theorem dX7_share_77 : decode cX7_share 77 = .ok (.aload_n 0, 1) := by decide +kernel
theorem dX7_share_78 : decode cX7_share 78 = .ok (.iload 7, 2) := by decide +kernel
theorem dX7_share_80 : decode cX7_share 80 = .ok (.invokestatic 242, 3) := by decide +kernel
theorem dX7_share_83 : decode cX7_share 83 = .ok (.invokevirtual 247, 3) := by decide +kernel
theorem dX7_share_86 : decode cX7_share 86 = .ok (.lmul, 1) := by decide +kernel
theorem dX7_share_87 : decode cX7_share 87 = .ok (.ladd, 1) := by decide +kernel
theorem dX7_share_88 : decode cX7_share 88 = .ok (.lstore 5, 2) := by decide +kernel
theorem dX7_share_90 : decode cX7_share 90 = .ok (.iinc 7 1, 3) := by decide +kernel
theorem dX7_share_93 : decode cX7_share 93 = .ok (.goto (-61), 3) := by decide +kernel
theorem dX7_share_96 : decode cX7_share 96 = .ok (.lload 5, 2) := by decide +kernel
theorem dX7_share_98 : decode cX7_share 98 = .ok (.getstatic 251, 3) := by decide +kernel
theorem dX7_share_101 : decode cX7_share 101 = .ok (.aload_n 0, 1) := by decide +kernel
theorem dX7_share_102 : decode cX7_share 102 = .ok (.getfield 19, 3) := by decide +kernel
theorem dX7_share_105 : decode cX7_share 105 = .ok (.getfield 97, 3) := by decide +kernel
theorem dX7_share_108 : decode cX7_share 108 = .ok (.iaload, 1) := by decide +kernel
theorem dX7_share_109 : decode cX7_share 109 = .ok (.i2l, 1) := by decide +kernel
theorem dX7_share_110 : decode cX7_share 110 = .ok (.iload_n 2, 1) := by decide +kernel
theorem dX7_share_111 : decode cX7_share 111 = .ok (.invokestatic 254, 3) := by decide +kernel
theorem dX7_share_114 : decode cX7_share 114 = .ok (.ireturn, 1) := by decide +kernel
theorem dX7_chance_0 : decode cX7_chance 0 = .ok (.iload_n 1, 1) := by decide +kernel
theorem dX7_chance_1 : decode cX7_chance 1 = .ok (.ifCond .lt 19, 3) := by decide +kernel
theorem dX7_chance_4 : decode cX7_chance 4 = .ok (.iload_n 1, 1) := by decide +kernel
theorem dX7_chance_5 : decode cX7_chance 5 = .ok (.bipush 64, 2) := by decide +kernel
theorem dX7_chance_7 : decode cX7_chance 7 = .ok (.if_icmp .gt 13, 3) := by decide +kernel
theorem dX7_chance_10 : decode cX7_chance 10 = .ok (.iload_n 2, 1) := by decide +kernel
theorem dX7_chance_11 : decode cX7_chance 11 = .ok (.ifCond .lt 9, 3) := by decide +kernel
theorem dX7_chance_14 : decode cX7_chance 14 = .ok (.iload_n 2, 1) := by decide +kernel
theorem dX7_chance_15 : decode cX7_chance 15 = .ok (.bipush 10, 2) := by decide +kernel
theorem dX7_chance_17 : decode cX7_chance 17 = .ok (.if_icmp .le 6, 3) := by decide +kernel
theorem dX7_chance_20 : decode cX7_chance 20 = .ok (.bipush (-2), 2) := by decide +kernel
theorem dX7_chance_22 : decode cX7_chance 22 = .ok (.ireturn, 1) := by decide +kernel
theorem dX7_chance_23 : decode cX7_chance 23 = .ok (.aload_n 0, 1) := by decide +kernel
theorem dX7_chance_24 : decode cX7_chance 24 = .ok (.getfield 19, 3) := by decide +kernel
theorem dX7_chance_27 : decode cX7_chance 27 = .ok (.invokevirtual 236, 3) := by decide +kernel
theorem dX7_chance_30 : decode cX7_chance 30 = .ok (.istore 4, 2) := by decide +kernel
theorem dX7_chance_32 : decode cX7_chance 32 = .ok (.lconst 0, 1) := by decide +kernel
theorem dX7_chance_33 : decode cX7_chance 33 = .ok (.lstore 5, 2) := by decide +kernel
theorem dX7_chance_35 : decode cX7_chance 35 = .ok (.iconst 0, 1) := by decide +kernel
theorem dX7_chance_36 : decode cX7_chance 36 = .ok (.istore 7, 2) := by decide +kernel
theorem dX7_chance_38 : decode cX7_chance 38 = .ok (.iload 7, 2) := by decide +kernel
theorem dX7_chance_40 : decode cX7_chance 40 = .ok (.iload 4, 2) := by decide +kernel
theorem dX7_chance_42 : decode cX7_chance 42 = .ok (.if_icmp .gt 66, 3) := by decide +kernel
theorem dX7_chance_45 : decode cX7_chance 45 = .ok (.iload 7, 2) := by decide +kernel
theorem dX7_chance_47 : decode cX7_chance 47 = .ok (.invokestatic 242, 3) := by decide +kernel
theorem dX7_chance_50 : decode cX7_chance 50 = .ok (.istore 8, 2) := by decide +kernel
theorem dX7_chance_52 : decode cX7_chance 52 = .ok (.iload_n 2, 1) := by decide +kernel
theorem dX7_chance_53 : decode cX7_chance 53 = .ok (.iload 8, 2) := by decide +kernel
theorem dX7_chance_55 : decode cX7_chance 55 = .ok (.invokestatic 258, 3) := by decide +kernel
theorem dX7_chance_58 : decode cX7_chance 58 = .ok (.bipush 10, 2) := by decide +kernel
theorem dX7_chance_60 : decode cX7_chance 60 = .ok (.iload_n 2, 1) := by decide +kernel
theorem dX7_chance_61 : decode cX7_chance 61 = .ok (.isub, 1) := by decide +kernel
theorem dX7_chance_62 : decode cX7_chance 62 = .ok (.aload_n 0, 1) := by decide +kernel
theorem dX7_chance_63 : decode cX7_chance 63 = .ok (.getfield 19, 3) := by decide +kernel
theorem dX7_chance_66 : decode cX7_chance 66 = .ok (.getfield 97, 3) := by decide +kernel
theorem dX7_chance_69 : decode cX7_chance 69 = .ok (.iload 8, 2) := by decide +kernel
theorem dX7_chance_71 : decode cX7_chance 71 = .ok (.isub, 1) := by decide +kernel
theorem dX7_chance_72 : decode cX7_chance 72 = .ok (.invokestatic 258, 3) := by decide +kernel
theorem dX7_chance_75 : decode cX7_chance 75 = .ok (.lmul, 1) := by decide +kernel
theorem dX7_chance_76 : decode cX7_chance 76 = .ok (.lstore 9, 2) := by decide +kernel
theorem dX7_chance_78 : decode cX7_chance 78 = .ok (.lload 9, 2) := by decide +kernel
theorem dX7_chance_80 : decode cX7_chance 80 = .ok (.lconst 0, 1) := by decide +kernel
theorem dX7_chance_81 : decode cX7_chance 81 = .ok (.lcmp, 1) := by decide +kernel
theorem dX7_chance_82 : decode cX7_chance 82 = .ok (.ifCond .le 20, 3) := by decide +kernel
theorem dX7_chance_85 : decode cX7_chance 85 = .ok (.aload_n 0, 1) := by decide +kernel
theorem dX7_chance_86 : decode cX7_chance 86 = .ok (.iload 7, 2) := by decide +kernel
theorem dX7_chance_88 : decode cX7_chance 88 = .ok (.invokevirtual 239, 3) := by decide +kernel
theorem dX7_chance_91 : decode cX7_chance 91 = .ok (.iload_n 1, 1) := by decide +kernel
theorem dX7_chance_92 : decode cX7_chance 92 = .ok (.if_icmp .lt 10, 3) := by decide +kernel
theorem dX7_chance_95 : decode cX7_chance 95 = .ok (.lload 5, 2) := by decide +kernel
theorem dX7_chance_97 : decode cX7_chance 97 = .ok (.lload 9, 2) := by decide +kernel
theorem dX7_chance_99 : decode cX7_chance 99 = .ok (.ladd, 1) := by decide +kernel
theorem dX7_chance_100 : decode cX7_chance 100 = .ok (.lstore 5, 2) := by decide +kernel
theorem dX7_chance_102 : decode cX7_chance 102 = .ok (.iinc 7 1, 3) := by decide +kernel
theorem dX7_chance_105 : decode cX7_chance 105 = .ok (.goto (-67), 3) := by decide +kernel
theorem dX7_chance_108 : decode cX7_chance 108 = .ok (.lload 5, 2) := by decide +kernel
theorem dX7_chance_110 : decode cX7_chance 110 = .ok (.bipush 10, 2) := by decide +kernel
theorem dX7_chance_112 : decode cX7_chance 112 = .ok (.aload_n 0, 1) := by decide +kernel
theorem dX7_chance_113 : decode cX7_chance 113 = .ok (.getfield 19, 3) := by decide +kernel
theorem dX7_chance_116 : decode cX7_chance 116 = .ok (.getfield 97, 3) := by decide +kernel
theorem dX7_chance_119 : decode cX7_chance 119 = .ok (.invokestatic 258, 3) := by decide +kernel
theorem dX7_chance_122 : decode cX7_chance 122 = .ok (.iload_n 3, 1) := by decide +kernel
theorem dX7_chance_123 : decode cX7_chance 123 = .ok (.invokestatic 254, 3) := by decide +kernel
theorem dX7_chance_126 : decode cX7_chance 126 = .ok (.ireturn, 1) := by decide +kernel
theorem dX7_seed_0 : decode cX7_seed 0 = .ok (.aload_n 0, 1) := by decide +kernel
theorem dX7_seed_1 : decode cX7_seed 1 = .ok (.getfield 261, 3) := by decide +kernel
theorem dX7_seed_4 : decode cX7_seed 4 = .ok (.lstore_n 3, 1) := by decide +kernel
theorem dX7_seed_5 : decode cX7_seed 5 = .ok (.aload_n 0, 1) := by decide +kernel
theorem dX7_seed_6 : decode cX7_seed 6 = .ok (.lload_n 1, 1) := by decide +kernel
theorem dX7_seed_7 : decode cX7_seed 7 = .ok (.putfield 261, 3) := by decide +kernel
theorem dX7_seed_10 : decode cX7_seed 10 = .ok (.lload_n 3, 1) := by decide +kernel
theorem dX7_seed_11 : decode cX7_seed 11 = .ok (.lreturn, 1) := by decide +kernel
theorem dX7_drawn_0 : decode cX7_drawn 0 = .ok (.iload_n 1, 1) := by decide +kernel
theorem dX7_drawn_1 : decode cX7_drawn 1 = .ok (.iconst 1, 1) := by decide +kernel
theorem dX7_drawn_2 : decode cX7_drawn 2 = .ok (.if_icmp .lt 9, 3) := by decide +kernel
theorem dX7_drawn_5 : decode cX7_drawn 5 = .ok (.iload_n 1, 1) := by decide +kernel
theorem dX7_drawn_6 : decode cX7_drawn 6 = .ok (.bipush 20, 2) := by decide +kernel
theorem dX7_drawn_8 : decode cX7_drawn 8 = .ok (.if_icmp .le 6, 3) := by decide +kernel
theorem dX7_drawn_11 : decode cX7_drawn 11 = .ok (.bipush (-2), 2) := by decide +kernel
theorem dX7_drawn_13 : decode cX7_drawn 13 = .ok (.ireturn, 1) := by decide +kernel
theorem dX7_drawn_14 : decode cX7_drawn 14 = .ok (.aload_n 0, 1) := by decide +kernel
theorem dX7_drawn_15 : decode cX7_drawn 15 = .ok (.getfield 30, 3) := by decide +kernel
theorem dX7_drawn_18 : decode cX7_drawn 18 = .ok (.aload_n 0, 1) := by decide +kernel
theorem dX7_drawn_19 : decode cX7_drawn 19 = .ok (.getfield 26, 3) := by decide +kernel
theorem dX7_drawn_22 : decode cX7_drawn 22 = .ok (.invokevirtual 218, 3) := by decide +kernel
theorem dX7_drawn_25 : decode cX7_drawn 25 = .ok (.iconst 0, 1) := by decide +kernel
theorem dX7_drawn_26 : decode cX7_drawn 26 = .ok (.istore_n 2, 1) := by decide +kernel
theorem dX7_drawn_27 : decode cX7_drawn 27 = .ok (.iload_n 2, 1) := by decide +kernel
theorem dX7_drawn_28 : decode cX7_drawn 28 = .ok (.iload_n 1, 1) := by decide +kernel
theorem dX7_drawn_29 : decode cX7_drawn 29 = .ok (.if_icmp .ge 55, 3) := by decide +kernel
theorem dX7_drawn_32 : decode cX7_drawn 32 = .ok (.aload_n 0, 1) := by decide +kernel
theorem dX7_drawn_33 : decode cX7_drawn 33 = .ok (.aload_n 0, 1) := by decide +kernel
theorem dX7_drawn_34 : decode cX7_drawn 34 = .ok (.getfield 261, 3) := by decide +kernel
theorem dX7_drawn_37 : decode cX7_drawn 37 = .ok (.ldc2_w 265, 3) := by decide +kernel
theorem dX7_drawn_40 : decode cX7_drawn 40 = .ok (.lmul, 1) := by decide +kernel
theorem dX7_drawn_41 : decode cX7_drawn 41 = .ok (.ldc2_w 267, 3) := by decide +kernel
theorem dX7_drawn_44 : decode cX7_drawn 44 = .ok (.ladd, 1) := by decide +kernel
theorem dX7_drawn_45 : decode cX7_drawn 45 = .ok (.putfield 261, 3) := by decide +kernel
theorem dX7_drawn_48 : decode cX7_drawn 48 = .ok (.aload_n 0, 1) := by decide +kernel
theorem dX7_drawn_49 : decode cX7_drawn 49 = .ok (.getfield 261, 3) := by decide +kernel
theorem dX7_drawn_52 : decode cX7_drawn 52 = .ok (.bipush 33, 2) := by decide +kernel
theorem dX7_drawn_54 : decode cX7_drawn 54 = .ok (.lushr, 1) := by decide +kernel
theorem dX7_drawn_55 : decode cX7_drawn 55 = .ok (.l2i, 1) := by decide +kernel
theorem dX7_drawn_56 : decode cX7_drawn 56 = .ok (.istore_n 3, 1) := by decide +kernel
theorem dX7_drawn_57 : decode cX7_drawn 57 = .ok (.aload_n 0, 1) := by decide +kernel
theorem dX7_drawn_58 : decode cX7_drawn 58 = .ok (.getfield 19, 3) := by decide +kernel
theorem dX7_drawn_61 : decode cX7_drawn 61 = .ok (.aload_n 0, 1) := by decide +kernel
theorem dX7_drawn_62 : decode cX7_drawn 62 = .ok (.getfield 30, 3) := by decide +kernel
theorem dX7_drawn_65 : decode cX7_drawn 65 = .ok (.iload_n 3, 1) := by decide +kernel
theorem dX7_drawn_66 : decode cX7_drawn 66 = .ok (.aload_n 0, 1) := by decide +kernel
theorem dX7_drawn_67 : decode cX7_drawn 67 = .ok (.getfield 19, 3) := by decide +kernel
theorem dX7_drawn_70 : decode cX7_drawn 70 = .ok (.invokevirtual 236, 3) := by decide +kernel
theorem dX7_drawn_73 : decode cX7_drawn 73 = .ok (.iand, 1) := by decide +kernel
theorem dX7_drawn_74 : decode cX7_drawn 74 = .ok (.iconst 0, 1) := by decide +kernel
theorem dX7_drawn_75 : decode cX7_drawn 75 = .ok (.invokevirtual 269, 3) := by decide +kernel
theorem dX7_drawn_78 : decode cX7_drawn 78 = .ok (.iinc 2 1, 3) := by decide +kernel
theorem dX7_drawn_81 : decode cX7_drawn 81 = .ok (.goto (-54), 3) := by decide +kernel
theorem dX7_drawn_84 : decode cX7_drawn 84 = .ok (.aload_n 0, 1) := by decide +kernel
theorem dX7_drawn_85 : decode cX7_drawn 85 = .ok (.getfield 30, 3) := by decide +kernel
theorem dX7_drawn_88 : decode cX7_drawn 88 = .ok (.getfield 124, 3) := by decide +kernel
theorem dX7_drawn_91 : decode cX7_drawn 91 = .ok (.aload_n 0, 1) := by decide +kernel
theorem dX7_drawn_92 : decode cX7_drawn 92 = .ok (.getfield 26, 3) := by decide +kernel
theorem dX7_drawn_95 : decode cX7_drawn 95 = .ok (.getfield 124, 3) := by decide +kernel
theorem dX7_drawn_98 : decode cX7_drawn 98 = .ok (.isub, 1) := by decide +kernel
theorem dX7_drawn_99 : decode cX7_drawn 99 = .ok (.ireturn, 1) := by decide +kernel
theorem dX7_keep_0 : decode cX7_keep 0 = .ok (.iload_n 1, 1) := by decide +kernel
theorem dX7_keep_1 : decode cX7_keep 1 = .ok (.invokestatic 273, 3) := by decide +kernel
theorem dX7_keep_4 : decode cX7_keep 4 = .ok (.ifCond .ne 5, 3) := by decide +kernel
theorem dX7_keep_7 : decode cX7_keep 7 = .ok (.iconst (-1), 1) := by decide +kernel
theorem dX7_keep_8 : decode cX7_keep 8 = .ok (.ireturn, 1) := by decide +kernel
theorem dX7_keep_9 : decode cX7_keep 9 = .ok (.aload_n 0, 1) := by decide +kernel
theorem dX7_keep_10 : decode cX7_keep 10 = .ok (.getfield 60, 3) := by decide +kernel
theorem dX7_keep_13 : decode cX7_keep 13 = .ok (.iload_n 1, 1) := by decide +kernel
theorem dX7_keep_14 : decode cX7_keep 14 = .ok (.aload_n 0, 1) := by decide +kernel
theorem dX7_keep_15 : decode cX7_keep 15 = .ok (.getfield 26, 3) := by decide +kernel
theorem dX7_keep_18 : decode cX7_keep 18 = .ok (.invokevirtual 276, 3) := by decide +kernel
theorem dX7_keep_21 : decode cX7_keep 21 = .ok (.aload_n 0, 1) := by decide +kernel
theorem dX7_keep_22 : decode cX7_keep 22 = .ok (.getfield 26, 3) := by decide +kernel
theorem dX7_keep_25 : decode cX7_keep 25 = .ok (.getfield 136, 3) := by decide +kernel
theorem dX7_keep_28 : decode cX7_keep 28 = .ok (.ireturn, 1) := by decide +kernel
theorem dX7_again_0 : decode cX7_again 0 = .ok (.iload_n 1, 1) := by decide +kernel
theorem dX7_again_1 : decode cX7_again 1 = .ok (.invokestatic 273, 3) := by decide +kernel
theorem dX7_again_4 : decode cX7_again 4 = .ok (.ifCond .ne 5, 3) := by decide +kernel
theorem dX7_again_7 : decode cX7_again 7 = .ok (.iconst (-1), 1) := by decide +kernel
theorem dX7_again_8 : decode cX7_again 8 = .ok (.ireturn, 1) := by decide +kernel
theorem dX7_again_9 : decode cX7_again 9 = .ok (.aload_n 0, 1) := by decide +kernel
theorem dX7_again_10 : decode cX7_again 10 = .ok (.getfield 60, 3) := by decide +kernel
theorem dX7_again_13 : decode cX7_again 13 = .ok (.iload_n 1, 1) := by decide +kernel
theorem dX7_again_14 : decode cX7_again 14 = .ok (.aload_n 0, 1) := by decide +kernel
theorem dX7_again_15 : decode cX7_again 15 = .ok (.getfield 26, 3) := by decide +kernel
theorem dX7_again_18 : decode cX7_again 18 = .ok (.invokevirtual 280, 3) := by decide +kernel
theorem dX7_again_21 : decode cX7_again 21 = .ok (.ifCond .ne 6, 3) := by decide +kernel
theorem dX7_again_24 : decode cX7_again 24 = .ok (.bipush (-3), 2) := by decide +kernel
theorem dX7_again_26 : decode cX7_again 26 = .ok (.ireturn, 1) := by decide +kernel
theorem dX7_again_27 : decode cX7_again 27 = .ok (.aload_n 0, 1) := by decide +kernel
theorem dX7_again_28 : decode cX7_again 28 = .ok (.getfield 46, 3) := by decide +kernel
theorem dX7_again_31 : decode cX7_again 31 = .ok (.invokevirtual 90, 3) := by decide +kernel
theorem dX7_again_34 : decode cX7_again 34 = .ok (.aload_n 0, 1) := by decide +kernel
theorem dX7_again_35 : decode cX7_again 35 = .ok (.getfield 26, 3) := by decide +kernel
theorem dX7_again_38 : decode cX7_again 38 = .ok (.getfield 136, 3) := by decide +kernel
theorem dX7_again_41 : decode cX7_again 41 = .ok (.ireturn, 1) := by decide +kernel
theorem dX7_isFigurePlace_0 : decode cX7_isFigurePlace 0 = .ok (.iload_n 0, 1) := by decide +kernel
theorem dX7_isFigurePlace_1 : decode cX7_isFigurePlace 1 = .ok (.ifCond .lt 12, 3) := by decide +kernel
theorem dX7_isFigurePlace_4 : decode cX7_isFigurePlace 4 = .ok (.iload_n 0, 1) := by decide +kernel
theorem dX7_isFigurePlace_5 : decode cX7_isFigurePlace 5 = .ok (.iconst 5, 1) := by decide +kernel
theorem dX7_isFigurePlace_6 : decode cX7_isFigurePlace 6 = .ok (.if_icmp .ge 7, 3) := by decide +kernel
theorem dX7_isFigurePlace_9 : decode cX7_isFigurePlace 9 = .ok (.iconst 1, 1) := by decide +kernel
theorem dX7_isFigurePlace_10 : decode cX7_isFigurePlace 10 = .ok (.goto 4, 3) := by decide +kernel
theorem dX7_isFigurePlace_13 : decode cX7_isFigurePlace 13 = .ok (.iconst 0, 1) := by decide +kernel
theorem dX7_isFigurePlace_14 : decode cX7_isFigurePlace 14 = .ok (.ireturn, 1) := by decide +kernel
theorem dX7_isPause_0 : decode cX7_isPause 0 = .ok (.iload_n 0, 1) := by decide +kernel
theorem dX7_isPause_1 : decode cX7_isPause 1 = .ok (.iconst 1, 1) := by decide +kernel
theorem dX7_isPause_2 : decode cX7_isPause 2 = .ok (.if_icmp .lt 13, 3) := by decide +kernel
theorem dX7_isPause_5 : decode cX7_isPause 5 = .ok (.iload_n 0, 1) := by decide +kernel
theorem dX7_isPause_6 : decode cX7_isPause 6 = .ok (.bipush 99, 2) := by decide +kernel
theorem dX7_isPause_8 : decode cX7_isPause 8 = .ok (.if_icmp .gt 7, 3) := by decide +kernel
theorem dX7_isPause_11 : decode cX7_isPause 11 = .ok (.iconst 1, 1) := by decide +kernel
theorem dX7_isPause_12 : decode cX7_isPause 12 = .ok (.goto 4, 3) := by decide +kernel
theorem dX7_isPause_15 : decode cX7_isPause 15 = .ok (.iconst 0, 1) := by decide +kernel
theorem dX7_isPause_16 : decode cX7_isPause 16 = .ok (.ireturn, 1) := by decide +kernel
theorem dX7_ticks_0 : decode cX7_ticks 0 = .ok (.aload_n 0, 1) := by decide +kernel
theorem dX7_ticks_1 : decode cX7_ticks 1 = .ok (.getfield 39, 3) := by decide +kernel
theorem dX7_ticks_4 : decode cX7_ticks 4 = .ok (.aload_n 0, 1) := by decide +kernel
theorem dX7_ticks_5 : decode cX7_ticks 5 = .ok (.getfield 19, 3) := by decide +kernel
theorem dX7_ticks_8 : decode cX7_ticks 8 = .ok (.aload_n 0, 1) := by decide +kernel
theorem dX7_ticks_9 : decode cX7_ticks 9 = .ok (.getfield 26, 3) := by decide +kernel
theorem dX7_ticks_12 : decode cX7_ticks 12 = .ok (.invokevirtual 165, 3) := by decide +kernel
theorem dX7_ticks_15 : decode cX7_ticks 15 = .ok (.iconst 0, 1) := by decide +kernel
theorem dX7_ticks_16 : decode cX7_ticks 16 = .ok (.istore_n 1, 1) := by decide +kernel
theorem dX7_ticks_17 : decode cX7_ticks 17 = .ok (.iconst 0, 1) := by decide +kernel
theorem dX7_ticks_18 : decode cX7_ticks 18 = .ok (.istore_n 2, 1) := by decide +kernel
theorem dX7_ticks_19 : decode cX7_ticks 19 = .ok (.iload_n 2, 1) := by decide +kernel
theorem dX7_ticks_20 : decode cX7_ticks 20 = .ok (.aload_n 0, 1) := by decide +kernel
theorem dX7_ticks_21 : decode cX7_ticks 21 = .ok (.getfield 26, 3) := by decide +kernel
theorem dX7_ticks_24 : decode cX7_ticks 24 = .ok (.getfield 94, 3) := by decide +kernel
theorem dX7_ticks_27 : decode cX7_ticks 27 = .ok (.if_icmp .ge 28, 3) := by decide +kernel
theorem dX7_ticks_30 : decode cX7_ticks 30 = .ok (.iload_n 1, 1) := by decide +kernel
theorem dX7_ticks_31 : decode cX7_ticks 31 = .ok (.bipush 60, 2) := by decide +kernel
theorem dX7_ticks_33 : decode cX7_ticks 33 = .ok (.iconst 1, 1) := by decide +kernel
theorem dX7_ticks_34 : decode cX7_ticks 34 = .ok (.aload_n 0, 1) := by decide +kernel
theorem dX7_ticks_35 : decode cX7_ticks 35 = .ok (.getfield 39, 3) := by decide +kernel
theorem dX7_ticks_38 : decode cX7_ticks 38 = .ok (.getfield 176, 3) := by decide +kernel
theorem dX7_ticks_41 : decode cX7_ticks 41 = .ok (.iload_n 2, 1) := by decide +kernel
theorem dX7_ticks_42 : decode cX7_ticks 42 = .ok (.iaload, 1) := by decide +kernel
theorem dX7_ticks_43 : decode cX7_ticks 43 = .ok (.invokestatic 284, 3) := by decide +kernel
theorem dX7_ticks_46 : decode cX7_ticks 46 = .ok (.idiv, 1) := by decide +kernel
theorem dX7_ticks_47 : decode cX7_ticks 47 = .ok (.iadd, 1) := by decide +kernel
theorem dX7_ticks_48 : decode cX7_ticks 48 = .ok (.istore_n 1, 1) := by decide +kernel
theorem dX7_ticks_49 : decode cX7_ticks 49 = .ok (.iinc 2 1, 3) := by decide +kernel
theorem dX7_ticks_52 : decode cX7_ticks 52 = .ok (.goto (-33), 3) := by decide +kernel
theorem dX7_ticks_55 : decode cX7_ticks 55 = .ok (.iload_n 1, 1) := by decide +kernel
theorem dX7_ticks_56 : decode cX7_ticks 56 = .ok (.ireturn, 1) := by decide +kernel
theorem dX7_leastRest_0 : decode cX7_leastRest 0 = .ok (.aload_n 0, 1) := by decide +kernel
theorem dX7_leastRest_1 : decode cX7_leastRest 1 = .ok (.getfield 26, 3) := by decide +kernel
theorem dX7_leastRest_4 : decode cX7_leastRest 4 = .ok (.getfield 94, 3) := by decide +kernel
theorem dX7_leastRest_7 : decode cX7_leastRest 7 = .ok (.ifCond .ne 6, 3) := by decide +kernel
theorem dX7_leastRest_10 : decode cX7_leastRest 10 = .ok (.bipush (-9), 2) := by decide +kernel
theorem dX7_leastRest_12 : decode cX7_leastRest 12 = .ok (.ireturn, 1) := by decide +kernel
theorem dX7_leastRest_13 : decode cX7_leastRest 13 = .ok (.aload_n 0, 1) := by decide +kernel
theorem dX7_leastRest_14 : decode cX7_leastRest 14 = .ok (.getfield 33, 3) := by decide +kernel
theorem dX7_leastRest_17 : decode cX7_leastRest 17 = .ok (.aload_n 0, 1) := by decide +kernel
theorem dX7_leastRest_18 : decode cX7_leastRest 18 = .ok (.getfield 26, 3) := by decide +kernel
theorem dX7_leastRest_21 : decode cX7_leastRest 21 = .ok (.invokevirtual 218, 3) := by decide +kernel
theorem dX7_leastRest_24 : decode cX7_leastRest 24 = .ok (.iconst 0, 1) := by decide +kernel
theorem dX7_leastRest_25 : decode cX7_leastRest 25 = .ok (.istore_n 1, 1) := by decide +kernel
theorem dX7_leastRest_26 : decode cX7_leastRest 26 = .ok (.iload_n 1, 1) := by decide +kernel
theorem dX7_leastRest_27 : decode cX7_leastRest 27 = .ok (.bipush 60, 2) := by decide +kernel
theorem dX7_leastRest_29 : decode cX7_leastRest 29 = .ok (.if_icmp .gt 88, 3) := by decide +kernel
theorem dX7_leastRest_32 : decode cX7_leastRest 32 = .ok (.aload_n 0, 1) := by decide +kernel
theorem dX7_leastRest_33 : decode cX7_leastRest 33 = .ok (.getfield 30, 3) := by decide +kernel
theorem dX7_leastRest_36 : decode cX7_leastRest 36 = .ok (.aload_n 0, 1) := by decide +kernel
theorem dX7_leastRest_37 : decode cX7_leastRest 37 = .ok (.getfield 33, 3) := by decide +kernel
theorem dX7_leastRest_40 : decode cX7_leastRest 40 = .ok (.invokevirtual 218, 3) := by decide +kernel
theorem dX7_leastRest_43 : decode cX7_leastRest 43 = .ok (.aload_n 0, 1) := by decide +kernel
theorem dX7_leastRest_44 : decode cX7_leastRest 44 = .ok (.getfield 19, 3) := by decide +kernel
theorem dX7_leastRest_47 : decode cX7_leastRest 47 = .ok (.aload_n 0, 1) := by decide +kernel
theorem dX7_leastRest_48 : decode cX7_leastRest 48 = .ok (.getfield 30, 3) := by decide +kernel
theorem dX7_leastRest_51 : decode cX7_leastRest 51 = .ok (.aload_n 0, 1) := by decide +kernel
theorem dX7_leastRest_52 : decode cX7_leastRest 52 = .ok (.getfield 26, 3) := by decide +kernel
theorem dX7_leastRest_55 : decode cX7_leastRest 55 = .ok (.getfield 162, 3) := by decide +kernel
theorem dX7_leastRest_58 : decode cX7_leastRest 58 = .ok (.iconst 0, 1) := by decide +kernel
theorem dX7_leastRest_59 : decode cX7_leastRest 59 = .ok (.iaload, 1) := by decide +kernel
theorem dX7_leastRest_60 : decode cX7_leastRest 60 = .ok (.iconst 0, 1) := by decide +kernel
theorem dX7_leastRest_61 : decode cX7_leastRest 61 = .ok (.invokevirtual 269, 3) := by decide +kernel
theorem dX7_leastRest_64 : decode cX7_leastRest 64 = .ok (.aload_n 0, 1) := by decide +kernel
theorem dX7_leastRest_65 : decode cX7_leastRest 65 = .ok (.getfield 30, 3) := by decide +kernel
theorem dX7_leastRest_68 : decode cX7_leastRest 68 = .ok (.getfield 130, 3) := by decide +kernel
theorem dX7_leastRest_71 : decode cX7_leastRest 71 = .ok (.aload_n 0, 1) := by decide +kernel
theorem dX7_leastRest_72 : decode cX7_leastRest 72 = .ok (.getfield 26, 3) := by decide +kernel
theorem dX7_leastRest_75 : decode cX7_leastRest 75 = .ok (.getfield 130, 3) := by decide +kernel
theorem dX7_leastRest_78 : decode cX7_leastRest 78 = .ok (.if_icmp .ne 22, 3) := by decide +kernel
theorem dX7_leastRest_81 : decode cX7_leastRest 81 = .ok (.aload_n 0, 1) := by decide +kernel
theorem dX7_leastRest_82 : decode cX7_leastRest 82 = .ok (.getfield 30, 3) := by decide +kernel
theorem dX7_leastRest_85 : decode cX7_leastRest 85 = .ok (.getfield 133, 3) := by decide +kernel
theorem dX7_leastRest_88 : decode cX7_leastRest 88 = .ok (.aload_n 0, 1) := by decide +kernel
theorem dX7_leastRest_89 : decode cX7_leastRest 89 = .ok (.getfield 26, 3) := by decide +kernel
theorem dX7_leastRest_92 : decode cX7_leastRest 92 = .ok (.getfield 133, 3) := by decide +kernel
theorem dX7_leastRest_95 : decode cX7_leastRest 95 = .ok (.if_icmp .ne 5, 3) := by decide +kernel
theorem dX7_leastRest_98 : decode cX7_leastRest 98 = .ok (.iload_n 1, 1) := by decide +kernel
theorem dX7_leastRest_99 : decode cX7_leastRest 99 = .ok (.ireturn, 1) := by decide +kernel
theorem dX7_leastRest_100 : decode cX7_leastRest 100 = .ok (.aload_n 0, 1) := by decide +kernel
theorem dX7_leastRest_101 : decode cX7_leastRest 101 = .ok (.getfield 19, 3) := by decide +kernel
theorem dX7_leastRest_104 : decode cX7_leastRest 104 = .ok (.aload_n 0, 1) := by decide +kernel
theorem dX7_leastRest_105 : decode cX7_leastRest 105 = .ok (.getfield 33, 3) := by decide +kernel
theorem dX7_leastRest_108 : decode cX7_leastRest 108 = .ok (.invokevirtual 290, 3) := by decide +kernel
theorem dX7_leastRest_111 : decode cX7_leastRest 111 = .ok (.iinc 1 1, 3) := by decide +kernel
theorem dX7_leastRest_114 : decode cX7_leastRest 114 = .ok (.goto (-88), 3) := by decide +kernel
theorem dX7_leastRest_117 : decode cX7_leastRest 117 = .ok (.bipush (-9), 2) := by decide +kernel
theorem dX7_leastRest_119 : decode cX7_leastRest 119 = .ok (.ireturn, 1) := by decide +kernel
theorem dX7_heatBehind_0 : decode cX7_heatBehind 0 = .ok (.aload_n 0, 1) := by decide +kernel
theorem dX7_heatBehind_1 : decode cX7_heatBehind 1 = .ok (.getfield 30, 3) := by decide +kernel
theorem dX7_heatBehind_4 : decode cX7_heatBehind 4 = .ok (.aload_n 0, 1) := by decide +kernel
theorem dX7_heatBehind_5 : decode cX7_heatBehind 5 = .ok (.getfield 26, 3) := by decide +kernel
theorem dX7_heatBehind_8 : decode cX7_heatBehind 8 = .ok (.invokevirtual 218, 3) := by decide +kernel
theorem dX7_heatBehind_11 : decode cX7_heatBehind 11 = .ok (.aload_n 0, 1) := by decide +kernel
theorem dX7_heatBehind_12 : decode cX7_heatBehind 12 = .ok (.getfield 19, 3) := by decide +kernel
theorem dX7_heatBehind_15 : decode cX7_heatBehind 15 = .ok (.aload_n 0, 1) := by decide +kernel
theorem dX7_heatBehind_16 : decode cX7_heatBehind 16 = .ok (.getfield 30, 3) := by decide +kernel
theorem dX7_heatBehind_19 : decode cX7_heatBehind 19 = .ok (.iload_n 1, 1) := by decide +kernel
theorem dX7_heatBehind_20 : decode cX7_heatBehind 20 = .ok (.iload_n 3, 1) := by decide +kernel
theorem dX7_heatBehind_21 : decode cX7_heatBehind 21 = .ok (.invokevirtual 192, 3) := by decide +kernel
theorem dX7_heatBehind_24 : decode cX7_heatBehind 24 = .ok (.pop, 1) := by decide +kernel
theorem dX7_heatBehind_25 : decode cX7_heatBehind 25 = .ok (.aload_n 0, 1) := by decide +kernel
theorem dX7_heatBehind_26 : decode cX7_heatBehind 26 = .ok (.getfield 30, 3) := by decide +kernel
theorem dX7_heatBehind_29 : decode cX7_heatBehind 29 = .ok (.getfield 152, 3) := by decide +kernel
theorem dX7_heatBehind_32 : decode cX7_heatBehind 32 = .ok (.iload_n 2, 1) := by decide +kernel
theorem dX7_heatBehind_33 : decode cX7_heatBehind 33 = .ok (.iaload, 1) := by decide +kernel
theorem dX7_heatBehind_34 : decode cX7_heatBehind 34 = .ok (.ireturn, 1) := by decide +kernel
theorem dX7_agreesWithSights_0 : decode cX7_agreesWithSights 0 = .ok (.iconst 0, 1) := by decide +kernel
theorem dX7_agreesWithSights_1 : decode cX7_agreesWithSights 1 = .ok (.istore_n 2, 1) := by decide +kernel
theorem dX7_agreesWithSights_2 : decode cX7_agreesWithSights 2 = .ok (.iload_n 2, 1) := by decide +kernel
theorem dX7_agreesWithSights_3 : decode cX7_agreesWithSights 3 = .ok (.aload_n 0, 1) := by decide +kernel
theorem dX7_agreesWithSights_4 : decode cX7_agreesWithSights 4 = .ok (.getfield 53, 3) := by decide +kernel
theorem dX7_agreesWithSights_7 : decode cX7_agreesWithSights 7 = .ok (.getfield 148, 3) := by decide +kernel
theorem dX7_agreesWithSights_10 : decode cX7_agreesWithSights 10 = .ok (.if_icmp .ge 59, 3) := by decide +kernel
theorem dX7_agreesWithSights_13 : decode cX7_agreesWithSights 13 = .ok (.aload_n 0, 1) := by decide +kernel
theorem dX7_agreesWithSights_14 : decode cX7_agreesWithSights 14 = .ok (.getfield 53, 3) := by decide +kernel
theorem dX7_agreesWithSights_17 : decode cX7_agreesWithSights 17 = .ok (.getfield 293, 3) := by decide +kernel
theorem dX7_agreesWithSights_20 : decode cX7_agreesWithSights 20 = .ok (.iload_n 2, 1) := by decide +kernel
theorem dX7_agreesWithSights_21 : decode cX7_agreesWithSights 21 = .ok (.iaload, 1) := by decide +kernel
theorem dX7_agreesWithSights_22 : decode cX7_agreesWithSights 22 = .ok (.istore_n 3, 1) := by decide +kernel
theorem dX7_agreesWithSights_23 : decode cX7_agreesWithSights 23 = .ok (.aload_n 0, 1) := by decide +kernel
theorem dX7_agreesWithSights_24 : decode cX7_agreesWithSights 24 = .ok (.getfield 19, 3) := by decide +kernel
theorem dX7_agreesWithSights_27 : decode cX7_agreesWithSights 27 = .ok (.iload_n 3, 1) := by decide +kernel
theorem dX7_agreesWithSights_28 : decode cX7_agreesWithSights 28 = .ok (.invokevirtual 149, 3) := by decide +kernel
theorem dX7_agreesWithSights_31 : decode cX7_agreesWithSights 31 = .ok (.ifCond .eq 32, 3) := by decide +kernel
theorem dX7_agreesWithSights_34 : decode cX7_agreesWithSights 34 = .ok (.aload_n 0, 1) := by decide +kernel
theorem dX7_agreesWithSights_35 : decode cX7_agreesWithSights 35 = .ok (.aload_n 0, 1) := by decide +kernel
theorem dX7_agreesWithSights_36 : decode cX7_agreesWithSights 36 = .ok (.getfield 53, 3) := by decide +kernel
theorem dX7_agreesWithSights_39 : decode cX7_agreesWithSights 39 = .ok (.getfield 295, 3) := by decide +kernel
theorem dX7_agreesWithSights_42 : decode cX7_agreesWithSights 42 = .ok (.iload_n 2, 1) := by decide +kernel
theorem dX7_agreesWithSights_43 : decode cX7_agreesWithSights 43 = .ok (.iaload, 1) := by decide +kernel
theorem dX7_agreesWithSights_44 : decode cX7_agreesWithSights 44 = .ok (.iload_n 3, 1) := by decide +kernel
theorem dX7_agreesWithSights_45 : decode cX7_agreesWithSights 45 = .ok (.iload_n 1, 1) := by decide +kernel
theorem dX7_agreesWithSights_46 : decode cX7_agreesWithSights 46 = .ok (.invokevirtual 214, 3) := by decide +kernel
theorem dX7_agreesWithSights_49 : decode cX7_agreesWithSights 49 = .ok (.aload_n 0, 1) := by decide +kernel
theorem dX7_agreesWithSights_50 : decode cX7_agreesWithSights 50 = .ok (.getfield 53, 3) := by decide +kernel
theorem dX7_agreesWithSights_53 : decode cX7_agreesWithSights 53 = .ok (.getfield 298, 3) := by decide +kernel
theorem dX7_agreesWithSights_56 : decode cX7_agreesWithSights 56 = .ok (.iload_n 2, 1) := by decide +kernel
theorem dX7_agreesWithSights_57 : decode cX7_agreesWithSights 57 = .ok (.iaload, 1) := by decide +kernel
theorem dX7_agreesWithSights_58 : decode cX7_agreesWithSights 58 = .ok (.if_icmp .eq 5, 3) := by decide +kernel
theorem dX7_agreesWithSights_61 : decode cX7_agreesWithSights 61 = .ok (.iconst 0, 1) := by decide +kernel
theorem dX7_agreesWithSights_62 : decode cX7_agreesWithSights 62 = .ok (.ireturn, 1) := by decide +kernel
theorem dX7_agreesWithSights_63 : decode cX7_agreesWithSights 63 = .ok (.iinc 2 1, 3) := by decide +kernel
theorem dX7_agreesWithSights_66 : decode cX7_agreesWithSights 66 = .ok (.goto (-64), 3) := by decide +kernel
theorem dX7_agreesWithSights_69 : decode cX7_agreesWithSights 69 = .ok (.iconst 1, 1) := by decide +kernel
theorem dX7_agreesWithSights_70 : decode cX7_agreesWithSights 70 = .ok (.ireturn, 1) := by decide +kernel
theorem dX7_canBe_0 : decode cX7_canBe 0 = .ok (.iload_n 1, 1) := by decide +kernel
theorem dX7_canBe_1 : decode cX7_canBe 1 = .ok (.sipush 1000, 3) := by decide +kernel
theorem dX7_canBe_4 : decode cX7_canBe 4 = .ok (.irem, 1) := by decide +kernel
theorem dX7_canBe_5 : decode cX7_canBe 5 = .ok (.istore_n 2, 1) := by decide +kernel
theorem dX7_canBe_6 : decode cX7_canBe 6 = .ok (.iload_n 2, 1) := by decide +kernel
theorem dX7_canBe_7 : decode cX7_canBe 7 = .ok (.bipush 100, 2) := by decide +kernel
theorem dX7_canBe_9 : decode cX7_canBe 9 = .ok (.idiv, 1) := by decide +kernel
theorem dX7_canBe_10 : decode cX7_canBe 10 = .ok (.istore_n 3, 1) := by decide +kernel
theorem dX7_canBe_11 : decode cX7_canBe 11 = .ok (.iload_n 2, 1) := by decide +kernel
theorem dX7_canBe_12 : decode cX7_canBe 12 = .ok (.bipush 10, 2) := by decide +kernel
theorem dX7_canBe_14 : decode cX7_canBe 14 = .ok (.idiv, 1) := by decide +kernel
theorem dX7_canBe_15 : decode cX7_canBe 15 = .ok (.bipush 10, 2) := by decide +kernel
theorem dX7_canBe_17 : decode cX7_canBe 17 = .ok (.irem, 1) := by decide +kernel
theorem dX7_canBe_18 : decode cX7_canBe 18 = .ok (.istore 4, 2) := by decide +kernel
theorem dX7_canBe_20 : decode cX7_canBe 20 = .ok (.iload_n 2, 1) := by decide +kernel
theorem dX7_canBe_21 : decode cX7_canBe 21 = .ok (.bipush 10, 2) := by decide +kernel
theorem dX7_canBe_23 : decode cX7_canBe 23 = .ok (.irem, 1) := by decide +kernel
theorem dX7_canBe_24 : decode cX7_canBe 24 = .ok (.istore 5, 2) := by decide +kernel
theorem dX7_canBe_26 : decode cX7_canBe 26 = .ok (.iload_n 1, 1) := by decide +kernel
theorem dX7_canBe_27 : decode cX7_canBe 27 = .ok (.sipush 1000, 3) := by decide +kernel
theorem dX7_canBe_30 : decode cX7_canBe 30 = .ok (.idiv, 1) := by decide +kernel
theorem dX7_canBe_31 : decode cX7_canBe 31 = .ok (.tableswitch 159 1 6 #[37, 43, 77, 83, 100, 138], 37) := by decide +kernel
theorem dX7_canBe_68 : decode cX7_canBe 68 = .ok (.aload_n 0, 1) := by decide +kernel
theorem dX7_canBe_69 : decode cX7_canBe 69 = .ok (.iload_n 2, 1) := by decide +kernel
theorem dX7_canBe_70 : decode cX7_canBe 70 = .ok (.invokevirtual 299, 3) := by decide +kernel
theorem dX7_canBe_73 : decode cX7_canBe 73 = .ok (.ireturn, 1) := by decide +kernel
theorem dX7_canBe_74 : decode cX7_canBe 74 = .ok (.iload_n 2, 1) := by decide +kernel
theorem dX7_canBe_75 : decode cX7_canBe 75 = .ok (.iconst 1, 1) := by decide +kernel
theorem dX7_canBe_76 : decode cX7_canBe 76 = .ok (.if_icmp .lt 30, 3) := by decide +kernel
theorem dX7_canBe_79 : decode cX7_canBe 79 = .ok (.iload_n 2, 1) := by decide +kernel
theorem dX7_canBe_80 : decode cX7_canBe 80 = .ok (.bipush 9, 2) := by decide +kernel
theorem dX7_canBe_82 : decode cX7_canBe 82 = .ok (.if_icmp .gt 24, 3) := by decide +kernel
theorem dX7_canBe_85 : decode cX7_canBe 85 = .ok (.aload_n 0, 1) := by decide +kernel
theorem dX7_canBe_86 : decode cX7_canBe 86 = .ok (.getfield 19, 3) := by decide +kernel
theorem dX7_canBe_89 : decode cX7_canBe 89 = .ok (.aload_n 0, 1) := by decide +kernel
theorem dX7_canBe_90 : decode cX7_canBe 90 = .ok (.getfield 30, 3) := by decide +kernel
theorem dX7_canBe_93 : decode cX7_canBe 93 = .ok (.iload_n 2, 1) := by decide +kernel
theorem dX7_canBe_94 : decode cX7_canBe 94 = .ok (.iconst 0, 1) := by decide +kernel
theorem dX7_canBe_95 : decode cX7_canBe 95 = .ok (.invokevirtual 192, 3) := by decide +kernel
theorem dX7_canBe_98 : decode cX7_canBe 98 = .ok (.iload_n 2, 1) := by decide +kernel
theorem dX7_canBe_99 : decode cX7_canBe 99 = .ok (.if_icmp .ne 7, 3) := by decide +kernel
theorem dX7_canBe_102 : decode cX7_canBe 102 = .ok (.iconst 1, 1) := by decide +kernel
theorem dX7_canBe_103 : decode cX7_canBe 103 = .ok (.goto 4, 3) := by decide +kernel
theorem dX7_canBe_106 : decode cX7_canBe 106 = .ok (.iconst 0, 1) := by decide +kernel
theorem dX7_canBe_107 : decode cX7_canBe 107 = .ok (.ireturn, 1) := by decide +kernel
theorem dX7_canBe_108 : decode cX7_canBe 108 = .ok (.aload_n 0, 1) := by decide +kernel
theorem dX7_canBe_109 : decode cX7_canBe 109 = .ok (.iload_n 2, 1) := by decide +kernel
theorem dX7_canBe_110 : decode cX7_canBe 110 = .ok (.invokevirtual 302, 3) := by decide +kernel
theorem dX7_canBe_113 : decode cX7_canBe 113 = .ok (.ireturn, 1) := by decide +kernel
theorem dX7_canBe_114 : decode cX7_canBe 114 = .ok (.aload_n 0, 1) := by decide +kernel
theorem dX7_canBe_115 : decode cX7_canBe 115 = .ok (.getfield 30, 3) := by decide +kernel
theorem dX7_canBe_118 : decode cX7_canBe 118 = .ok (.getfield 124, 3) := by decide +kernel
theorem dX7_canBe_121 : decode cX7_canBe 121 = .ok (.iload_n 2, 1) := by decide +kernel
theorem dX7_canBe_122 : decode cX7_canBe 122 = .ok (.if_icmp .ne 7, 3) := by decide +kernel
theorem dX7_canBe_125 : decode cX7_canBe 125 = .ok (.iconst 1, 1) := by decide +kernel
theorem dX7_canBe_126 : decode cX7_canBe 126 = .ok (.goto 4, 3) := by decide +kernel
theorem dX7_canBe_129 : decode cX7_canBe 129 = .ok (.iconst 0, 1) := by decide +kernel
theorem dX7_canBe_130 : decode cX7_canBe 130 = .ok (.ireturn, 1) := by decide +kernel
theorem dX7_canBe_131 : decode cX7_canBe 131 = .ok (.iload 4, 2) := by decide +kernel
theorem dX7_canBe_133 : decode cX7_canBe 133 = .ok (.ifCond .ne 34, 3) := by decide +kernel
theorem dX7_canBe_136 : decode cX7_canBe 136 = .ok (.aload_n 0, 1) := by decide +kernel
theorem dX7_canBe_137 : decode cX7_canBe 137 = .ok (.getfield 19, 3) := by decide +kernel
theorem dX7_canBe_140 : decode cX7_canBe 140 = .ok (.iload_n 3, 1) := by decide +kernel
theorem dX7_canBe_141 : decode cX7_canBe 141 = .ok (.invokevirtual 149, 3) := by decide +kernel
theorem dX7_canBe_144 : decode cX7_canBe 144 = .ok (.ifCond .eq 23, 3) := by decide +kernel
theorem dX7_canBe_147 : decode cX7_canBe 147 = .ok (.aload_n 0, 1) := by decide +kernel
theorem dX7_canBe_148 : decode cX7_canBe 148 = .ok (.getfield 30, 3) := by decide +kernel
theorem dX7_canBe_151 : decode cX7_canBe 151 = .ok (.getfield 115, 3) := by decide +kernel
theorem dX7_canBe_154 : decode cX7_canBe 154 = .ok (.iload_n 3, 1) := by decide +kernel
theorem dX7_canBe_155 : decode cX7_canBe 155 = .ok (.invokestatic 305, 3) := by decide +kernel
theorem dX7_canBe_158 : decode cX7_canBe 158 = .ok (.iload 5, 2) := by decide +kernel
theorem dX7_canBe_160 : decode cX7_canBe 160 = .ok (.if_icmp .ne 7, 3) := by decide +kernel
theorem dX7_canBe_163 : decode cX7_canBe 163 = .ok (.iconst 1, 1) := by decide +kernel
theorem dX7_canBe_164 : decode cX7_canBe 164 = .ok (.goto 4, 3) := by decide +kernel
theorem dX7_canBe_167 : decode cX7_canBe 167 = .ok (.iconst 0, 1) := by decide +kernel
theorem dX7_canBe_168 : decode cX7_canBe 168 = .ok (.ireturn, 1) := by decide +kernel
theorem dX7_canBe_169 : decode cX7_canBe 169 = .ok (.iload_n 3, 1) := by decide +kernel
theorem dX7_canBe_170 : decode cX7_canBe 170 = .ok (.ifCond .ne 18, 3) := by decide +kernel
theorem dX7_canBe_173 : decode cX7_canBe 173 = .ok (.aload_n 0, 1) := by decide +kernel
theorem dX7_canBe_174 : decode cX7_canBe 174 = .ok (.iload 4, 2) := by decide +kernel
theorem dX7_canBe_176 : decode cX7_canBe 176 = .ok (.iload 5, 2) := by decide +kernel
theorem dX7_canBe_178 : decode cX7_canBe 178 = .ok (.invokevirtual 308, 3) := by decide +kernel
theorem dX7_canBe_181 : decode cX7_canBe 181 = .ok (.ifCond .eq 7, 3) := by decide +kernel
theorem dX7_canBe_184 : decode cX7_canBe 184 = .ok (.iconst 1, 1) := by decide +kernel
theorem dX7_canBe_185 : decode cX7_canBe 185 = .ok (.goto 4, 3) := by decide +kernel
theorem dX7_canBe_188 : decode cX7_canBe 188 = .ok (.iconst 0, 1) := by decide +kernel
theorem dX7_canBe_189 : decode cX7_canBe 189 = .ok (.ireturn, 1) := by decide +kernel
theorem dX7_canBe_190 : decode cX7_canBe 190 = .ok (.iconst 0, 1) := by decide +kernel
theorem dX7_canBe_191 : decode cX7_canBe 191 = .ok (.ireturn, 1) := by decide +kernel
theorem dX7_canPut_0 : decode cX7_canPut 0 = .ok (.aload_n 0, 1) := by decide +kernel
theorem dX7_canPut_1 : decode cX7_canPut 1 = .ok (.getfield 19, 3) := by decide +kernel
theorem dX7_canPut_4 : decode cX7_canPut 4 = .ok (.iload_n 1, 1) := by decide +kernel
theorem dX7_canPut_5 : decode cX7_canPut 5 = .ok (.invokevirtual 179, 3) := by decide +kernel
theorem dX7_canPut_8 : decode cX7_canPut 8 = .ok (.ifCond .eq 13, 3) := by decide +kernel
theorem dX7_canPut_11 : decode cX7_canPut 11 = .ok (.aload_n 0, 1) := by decide +kernel
theorem dX7_canPut_12 : decode cX7_canPut 12 = .ok (.getfield 30, 3) := by decide +kernel
theorem dX7_canPut_15 : decode cX7_canPut 15 = .ok (.invokevirtual 182, 3) := by decide +kernel
theorem dX7_canPut_18 : decode cX7_canPut 18 = .ok (.ifCond .eq 5, 3) := by decide +kernel
theorem dX7_canPut_21 : decode cX7_canPut 21 = .ok (.iconst 0, 1) := by decide +kernel
theorem dX7_canPut_22 : decode cX7_canPut 22 = .ok (.ireturn, 1) := by decide +kernel
theorem dX7_canPut_23 : decode cX7_canPut 23 = .ok (.aload_n 0, 1) := by decide +kernel
theorem dX7_canPut_24 : decode cX7_canPut 24 = .ok (.getfield 30, 3) := by decide +kernel
theorem dX7_canPut_27 : decode cX7_canPut 27 = .ok (.iload_n 1, 1) := by decide +kernel
theorem dX7_canPut_28 : decode cX7_canPut 28 = .ok (.invokevirtual 189, 3) := by decide +kernel
theorem dX7_canPut_31 : decode cX7_canPut 31 = .ok (.iconst 1, 1) := by decide +kernel
theorem dX7_canPut_32 : decode cX7_canPut 32 = .ok (.ireturn, 1) := by decide +kernel
theorem dX7_canPause_0 : decode cX7_canPause 0 = .ok (.iload_n 1, 1) := by decide +kernel
theorem dX7_canPause_1 : decode cX7_canPause 1 = .ok (.invokestatic 196, 3) := by decide +kernel
theorem dX7_canPause_4 : decode cX7_canPause 4 = .ok (.ifCond .ne 5, 3) := by decide +kernel
theorem dX7_canPause_7 : decode cX7_canPause 7 = .ok (.iconst 0, 1) := by decide +kernel
theorem dX7_canPause_8 : decode cX7_canPause 8 = .ok (.ireturn, 1) := by decide +kernel
theorem dX7_canPause_9 : decode cX7_canPause 9 = .ok (.aload_n 0, 1) := by decide +kernel
theorem dX7_canPause_10 : decode cX7_canPause 10 = .ok (.getfield 19, 3) := by decide +kernel
theorem dX7_canPause_13 : decode cX7_canPause 13 = .ok (.aload_n 0, 1) := by decide +kernel
theorem dX7_canPause_14 : decode cX7_canPause 14 = .ok (.getfield 30, 3) := by decide +kernel
theorem dX7_canPause_17 : decode cX7_canPause 17 = .ok (.iload_n 1, 1) := by decide +kernel
theorem dX7_canPause_18 : decode cX7_canPause 18 = .ok (.invokevirtual 199, 3) := by decide +kernel
theorem dX7_canPause_21 : decode cX7_canPause 21 = .ok (.iconst 1, 1) := by decide +kernel
theorem dX7_canPause_22 : decode cX7_canPause 22 = .ok (.ireturn, 1) := by decide +kernel
theorem dX7_canTell_0 : decode cX7_canTell 0 = .ok (.aload_n 0, 1) := by decide +kernel
theorem dX7_canTell_1 : decode cX7_canTell 1 = .ok (.getfield 30, 3) := by decide +kernel
theorem dX7_canTell_4 : decode cX7_canTell 4 = .ok (.iload_n 1, 1) := by decide +kernel
theorem dX7_canTell_5 : decode cX7_canTell 5 = .ok (.iload_n 2, 1) := by decide +kernel
theorem dX7_canTell_6 : decode cX7_canTell 6 = .ok (.invokevirtual 206, 3) := by decide +kernel
theorem dX7_canTell_9 : decode cX7_canTell 9 = .ok (.ifCond .ne 5, 3) := by decide +kernel
theorem dX7_canTell_12 : decode cX7_canTell 12 = .ok (.iconst 0, 1) := by decide +kernel
theorem dX7_canTell_13 : decode cX7_canTell 13 = .ok (.ireturn, 1) := by decide +kernel
theorem dX7_canTell_14 : decode cX7_canTell 14 = .ok (.aload_n 0, 1) := by decide +kernel
theorem dX7_canTell_15 : decode cX7_canTell 15 = .ok (.getfield 30, 3) := by decide +kernel
theorem dX7_canTell_18 : decode cX7_canTell 18 = .ok (.getfield 159, 3) := by decide +kernel
theorem dX7_canTell_21 : decode cX7_canTell 21 = .ok (.iload_n 1, 1) := by decide +kernel
theorem dX7_canTell_22 : decode cX7_canTell 22 = .ok (.iload_n 2, 1) := by decide +kernel
theorem dX7_canTell_23 : decode cX7_canTell 23 = .ok (.iastore, 1) := by decide +kernel
theorem dX7_canTell_24 : decode cX7_canTell 24 = .ok (.iconst 1, 1) := by decide +kernel
theorem dX7_canTell_25 : decode cX7_canTell 25 = .ok (.ireturn, 1) := by decide +kernel
theorem dX7_rightWithDead_0 : decode cX7_rightWithDead 0 = .ok (.aload_n 0, 1) := by decide +kernel
theorem dX7_rightWithDead_1 : decode cX7_rightWithDead 1 = .ok (.getfield 30, 3) := by decide +kernel
theorem dX7_rightWithDead_4 : decode cX7_rightWithDead 4 = .ok (.aload_n 0, 1) := by decide +kernel
theorem dX7_rightWithDead_5 : decode cX7_rightWithDead 5 = .ok (.getfield 26, 3) := by decide +kernel
theorem dX7_rightWithDead_8 : decode cX7_rightWithDead 8 = .ok (.invokevirtual 218, 3) := by decide +kernel
theorem dX7_rightWithDead_11 : decode cX7_rightWithDead 11 = .ok (.aload_n 0, 1) := by decide +kernel
theorem dX7_rightWithDead_12 : decode cX7_rightWithDead 12 = .ok (.getfield 19, 3) := by decide +kernel
theorem dX7_rightWithDead_15 : decode cX7_rightWithDead 15 = .ok (.aload_n 0, 1) := by decide +kernel
theorem dX7_rightWithDead_16 : decode cX7_rightWithDead 16 = .ok (.getfield 30, 3) := by decide +kernel
theorem dX7_rightWithDead_19 : decode cX7_rightWithDead 19 = .ok (.iload_n 1, 1) := by decide +kernel
theorem dX7_rightWithDead_20 : decode cX7_rightWithDead 20 = .ok (.invokevirtual 221, 3) := by decide +kernel
theorem dX7_rightWithDead_23 : decode cX7_rightWithDead 23 = .ok (.ireturn, 1) := by decide +kernel
theorem dX7_ordersWith_0 : decode cX7_ordersWith 0 = .ok (.aload_n 0, 1) := by decide +kernel
theorem dX7_ordersWith_1 : decode cX7_ordersWith 1 = .ok (.getfield 19, 3) := by decide +kernel
theorem dX7_ordersWith_4 : decode cX7_ordersWith 4 = .ok (.getfield 97, 3) := by decide +kernel
theorem dX7_ordersWith_7 : decode cX7_ordersWith 7 = .ok (.iconst 1, 1) := by decide +kernel
theorem dX7_ordersWith_8 : decode cX7_ordersWith 8 = .ok (.isub, 1) := by decide +kernel
theorem dX7_ordersWith_9 : decode cX7_ordersWith 9 = .ok (.iload_n 1, 1) := by decide +kernel
theorem dX7_ordersWith_10 : decode cX7_ordersWith 10 = .ok (.isub, 1) := by decide +kernel
theorem dX7_ordersWith_11 : decode cX7_ordersWith 11 = .ok (.istore_n 2, 1) := by decide +kernel
theorem dX7_ordersWith_12 : decode cX7_ordersWith 12 = .ok (.iload_n 1, 1) := by decide +kernel
theorem dX7_ordersWith_13 : decode cX7_ordersWith 13 = .ok (.ifCond .lt 23, 3) := by decide +kernel
theorem dX7_ordersWith_16 : decode cX7_ordersWith 16 = .ok (.iload_n 2, 1) := by decide +kernel
theorem dX7_ordersWith_17 : decode cX7_ordersWith 17 = .ok (.ifCond .lt 19, 3) := by decide +kernel
theorem dX7_ordersWith_20 : decode cX7_ordersWith 20 = .ok (.iload_n 1, 1) := by decide +kernel
theorem dX7_ordersWith_21 : decode cX7_ordersWith 21 = .ok (.getstatic 251, 3) := by decide +kernel
theorem dX7_ordersWith_24 : decode cX7_ordersWith 24 = .ok (.arraylength, 1) := by decide +kernel
theorem dX7_ordersWith_25 : decode cX7_ordersWith 25 = .ok (.if_icmp .ge 11, 3) := by decide +kernel
theorem dX7_ordersWith_28 : decode cX7_ordersWith 28 = .ok (.iload_n 2, 1) := by decide +kernel
theorem dX7_ordersWith_29 : decode cX7_ordersWith 29 = .ok (.getstatic 251, 3) := by decide +kernel
theorem dX7_ordersWith_32 : decode cX7_ordersWith 32 = .ok (.arraylength, 1) := by decide +kernel
theorem dX7_ordersWith_33 : decode cX7_ordersWith 33 = .ok (.if_icmp .lt 5, 3) := by decide +kernel
theorem dX7_ordersWith_36 : decode cX7_ordersWith 36 = .ok (.lconst 0, 1) := by decide +kernel
theorem dX7_ordersWith_37 : decode cX7_ordersWith 37 = .ok (.lreturn, 1) := by decide +kernel
theorem dX7_ordersWith_38 : decode cX7_ordersWith 38 = .ok (.getstatic 251, 3) := by decide +kernel
theorem dX7_ordersWith_41 : decode cX7_ordersWith 41 = .ok (.iload_n 1, 1) := by decide +kernel
theorem dX7_ordersWith_42 : decode cX7_ordersWith 42 = .ok (.iaload, 1) := by decide +kernel
theorem dX7_ordersWith_43 : decode cX7_ordersWith 43 = .ok (.i2l, 1) := by decide +kernel
theorem dX7_ordersWith_44 : decode cX7_ordersWith 44 = .ok (.getstatic 251, 3) := by decide +kernel
theorem dX7_ordersWith_47 : decode cX7_ordersWith 47 = .ok (.iload_n 2, 1) := by decide +kernel
theorem dX7_ordersWith_48 : decode cX7_ordersWith 48 = .ok (.iaload, 1) := by decide +kernel
theorem dX7_ordersWith_49 : decode cX7_ordersWith 49 = .ok (.i2l, 1) := by decide +kernel
theorem dX7_ordersWith_50 : decode cX7_ordersWith 50 = .ok (.lmul, 1) := by decide +kernel
theorem dX7_ordersWith_51 : decode cX7_ordersWith 51 = .ok (.lreturn, 1) := by decide +kernel
theorem dX7_bit_0 : decode cX7_bit 0 = .ok (.iload_n 0, 1) := by decide +kernel
theorem dX7_bit_1 : decode cX7_bit 1 = .ok (.iload_n 1, 1) := by decide +kernel
theorem dX7_bit_2 : decode cX7_bit 2 = .ok (.ishr, 1) := by decide +kernel
theorem dX7_bit_3 : decode cX7_bit 3 = .ok (.iconst 1, 1) := by decide +kernel
theorem dX7_bit_4 : decode cX7_bit 4 = .ok (.iand, 1) := by decide +kernel
theorem dX7_bit_5 : decode cX7_bit 5 = .ok (.ireturn, 1) := by decide +kernel
theorem dX7_power_0 : decode cX7_power 0 = .ok (.lconst 1, 1) := by decide +kernel
theorem dX7_power_1 : decode cX7_power 1 = .ok (.lstore_n 2, 1) := by decide +kernel
theorem dX7_power_2 : decode cX7_power 2 = .ok (.iconst 0, 1) := by decide +kernel
theorem dX7_power_3 : decode cX7_power 3 = .ok (.istore 4, 2) := by decide +kernel
theorem dX7_power_5 : decode cX7_power 5 = .ok (.iload 4, 2) := by decide +kernel
theorem dX7_power_7 : decode cX7_power 7 = .ok (.iload_n 1, 1) := by decide +kernel
theorem dX7_power_8 : decode cX7_power 8 = .ok (.if_icmp .ge 14, 3) := by decide +kernel
theorem dX7_power_11 : decode cX7_power 11 = .ok (.lload_n 2, 1) := by decide +kernel
theorem dX7_power_12 : decode cX7_power 12 = .ok (.iload_n 0, 1) := by decide +kernel
theorem dX7_power_13 : decode cX7_power 13 = .ok (.i2l, 1) := by decide +kernel
theorem dX7_power_14 : decode cX7_power 14 = .ok (.lmul, 1) := by decide +kernel
theorem dX7_power_15 : decode cX7_power 15 = .ok (.lstore_n 2, 1) := by decide +kernel
theorem dX7_power_16 : decode cX7_power 16 = .ok (.iinc 4 1, 3) := by decide +kernel
theorem dX7_power_19 : decode cX7_power 19 = .ok (.goto (-14), 3) := by decide +kernel
theorem dX7_power_22 : decode cX7_power 22 = .ok (.lload_n 2, 1) := by decide +kernel
theorem dX7_power_23 : decode cX7_power 23 = .ok (.lreturn, 1) := by decide +kernel
theorem dX7_toldFraction_0 : decode cX7_toldFraction 0 = .ok (.lconst 1, 1) := by decide +kernel
theorem dX7_toldFraction_1 : decode cX7_toldFraction 1 = .ok (.lload_n 0, 1) := by decide +kernel
theorem dX7_toldFraction_2 : decode cX7_toldFraction 2 = .ok (.invokestatic 311, 3) := by decide +kernel
theorem dX7_toldFraction_5 : decode cX7_toldFraction 5 = .ok (.lload_n 2, 1) := by decide +kernel
theorem dX7_toldFraction_6 : decode cX7_toldFraction 6 = .ok (.invokestatic 315, 3) := by decide +kernel
theorem dX7_toldFraction_9 : decode cX7_toldFraction 9 = .ok (.invokestatic 319, 3) := by decide +kernel
theorem dX7_toldFraction_12 : decode cX7_toldFraction 12 = .ok (.lstore 5, 2) := by decide +kernel
theorem dX7_toldFraction_14 : decode cX7_toldFraction 14 = .ok (.iload 4, 2) := by decide +kernel
theorem dX7_toldFraction_16 : decode cX7_toldFraction 16 = .ok (.ifCond .eq 7, 3) := by decide +kernel
theorem dX7_toldFraction_19 : decode cX7_toldFraction 19 = .ok (.lload_n 0, 1) := by decide +kernel
theorem dX7_toldFraction_20 : decode cX7_toldFraction 20 = .ok (.goto 4, 3) := by decide +kernel
theorem dX7_toldFraction_23 : decode cX7_toldFraction 23 = .ok (.lload_n 2, 1) := by decide +kernel
theorem dX7_toldFraction_24 : decode cX7_toldFraction 24 = .ok (.lload 5, 2) := by decide +kernel
theorem dX7_toldFraction_26 : decode cX7_toldFraction 26 = .ok (.ldiv, 1) := by decide +kernel
theorem dX7_toldFraction_27 : decode cX7_toldFraction 27 = .ok (.l2i, 1) := by decide +kernel
theorem dX7_toldFraction_28 : decode cX7_toldFraction 28 = .ok (.ireturn, 1) := by decide +kernel
theorem dX7_commonDivisor_0 : decode cX7_commonDivisor 0 = .ok (.lload_n 0, 1) := by decide +kernel
theorem dX7_commonDivisor_1 : decode cX7_commonDivisor 1 = .ok (.lstore 4, 2) := by decide +kernel
theorem dX7_commonDivisor_3 : decode cX7_commonDivisor 3 = .ok (.lload_n 2, 1) := by decide +kernel
theorem dX7_commonDivisor_4 : decode cX7_commonDivisor 4 = .ok (.lstore 6, 2) := by decide +kernel
theorem dX7_commonDivisor_6 : decode cX7_commonDivisor 6 = .ok (.iconst 0, 1) := by decide +kernel
theorem dX7_commonDivisor_7 : decode cX7_commonDivisor 7 = .ok (.istore 8, 2) := by decide +kernel
theorem dX7_commonDivisor_9 : decode cX7_commonDivisor 9 = .ok (.iload 8, 2) := by decide +kernel
theorem dX7_commonDivisor_11 : decode cX7_commonDivisor 11 = .ok (.bipush 100, 2) := by decide +kernel
theorem dX7_commonDivisor_13 : decode cX7_commonDivisor 13 = .ok (.if_icmp .ge 31, 3) := by decide +kernel
theorem dX7_commonDivisor_16 : decode cX7_commonDivisor 16 = .ok (.lload 6, 2) := by decide +kernel
theorem dX7_commonDivisor_18 : decode cX7_commonDivisor 18 = .ok (.lconst 0, 1) := by decide +kernel
theorem dX7_commonDivisor_19 : decode cX7_commonDivisor 19 = .ok (.lcmp, 1) := by decide +kernel
theorem dX7_commonDivisor_20 : decode cX7_commonDivisor 20 = .ok (.ifCond .eq 24, 3) := by decide +kernel
theorem dX7_commonDivisor_23 : decode cX7_commonDivisor 23 = .ok (.lload 4, 2) := by decide +kernel
theorem dX7_commonDivisor_25 : decode cX7_commonDivisor 25 = .ok (.lload 6, 2) := by decide +kernel
theorem dX7_commonDivisor_27 : decode cX7_commonDivisor 27 = .ok (.lrem, 1) := by decide +kernel
theorem dX7_commonDivisor_28 : decode cX7_commonDivisor 28 = .ok (.lstore 9, 2) := by decide +kernel
theorem dX7_commonDivisor_30 : decode cX7_commonDivisor 30 = .ok (.lload 6, 2) := by decide +kernel
theorem dX7_commonDivisor_32 : decode cX7_commonDivisor 32 = .ok (.lstore 4, 2) := by decide +kernel
theorem dX7_commonDivisor_34 : decode cX7_commonDivisor 34 = .ok (.lload 9, 2) := by decide +kernel
theorem dX7_commonDivisor_36 : decode cX7_commonDivisor 36 = .ok (.lstore 6, 2) := by decide +kernel
theorem dX7_commonDivisor_38 : decode cX7_commonDivisor 38 = .ok (.iinc 8 1, 3) := by decide +kernel
theorem dX7_commonDivisor_41 : decode cX7_commonDivisor 41 = .ok (.goto (-32), 3) := by decide +kernel
theorem dX7_commonDivisor_44 : decode cX7_commonDivisor 44 = .ok (.lload 4, 2) := by decide +kernel
theorem dX7_commonDivisor_46 : decode cX7_commonDivisor 46 = .ok (.lreturn, 1) := by decide +kernel
theorem dX8_init_0 : decode cX8_init 0 = .ok (.aload_n 0, 1) := by decide +kernel
theorem dX8_init_1 : decode cX8_init 1 = .ok (.invokespecial 1, 3) := by decide +kernel
theorem dX8_init_4 : decode cX8_init 4 = .ok (.aload_n 0, 1) := by decide +kernel
theorem dX8_init_5 : decode cX8_init 5 = .ok (.bipush 99, 2) := by decide +kernel
theorem dX8_init_7 : decode cX8_init 7 = .ok (.newarray .int, 2) := by decide +kernel
theorem dX8_init_9 : decode cX8_init 9 = .ok (.putfield 7, 3) := by decide +kernel
theorem dX8_init_12 : decode cX8_init 12 = .ok (.aload_n 0, 1) := by decide +kernel
theorem dX8_init_13 : decode cX8_init 13 = .ok (.bipush 30, 2) := by decide +kernel
theorem dX8_init_15 : decode cX8_init 15 = .ok (.newarray .int, 2) := by decide +kernel
theorem dX8_init_17 : decode cX8_init 17 = .ok (.putfield 13, 3) := by decide +kernel
theorem dX8_init_20 : decode cX8_init 20 = .ok (.aload_n 0, 1) := by decide +kernel
theorem dX8_init_21 : decode cX8_init 21 = .ok (.bipush 30, 2) := by decide +kernel
theorem dX8_init_23 : decode cX8_init 23 = .ok (.newarray .int, 2) := by decide +kernel
theorem dX8_init_25 : decode cX8_init 25 = .ok (.putfield 16, 3) := by decide +kernel
theorem dX8_init_28 : decode cX8_init 28 = .ok (.aload_n 0, 1) := by decide +kernel
theorem dX8_init_29 : decode cX8_init 29 = .ok (.sipush 420, 3) := by decide +kernel
theorem dX8_init_32 : decode cX8_init 32 = .ok (.newarray .int, 2) := by decide +kernel
theorem dX8_init_34 : decode cX8_init 34 = .ok (.putfield 19, 3) := by decide +kernel
theorem dX8_init_37 : decode cX8_init 37 = .ok (.aload_n 0, 1) := by decide +kernel
theorem dX8_init_38 : decode cX8_init 38 = .ok (.bipush 60, 2) := by decide +kernel
theorem dX8_init_40 : decode cX8_init 40 = .ok (.newarray .int, 2) := by decide +kernel
theorem dX8_init_42 : decode cX8_init 42 = .ok (.putfield 22, 3) := by decide +kernel
theorem dX8_init_45 : decode cX8_init 45 = .ok (.aload_n 0, 1) := by decide +kernel
theorem dX8_init_46 : decode cX8_init 46 = .ok (.iconst 2, 1) := by decide +kernel
theorem dX8_init_47 : decode cX8_init 47 = .ok (.newarray .boolean, 2) := by decide +kernel
theorem dX8_init_49 : decode cX8_init 49 = .ok (.putfield 25, 3) := by decide +kernel
theorem dX8_init_52 : decode cX8_init 52 = .ok (.aload_n 0, 1) := by decide +kernel
theorem dX8_init_53 : decode cX8_init 53 = .ok (.bipush 6, 2) := by decide +kernel
theorem dX8_init_55 : decode cX8_init 55 = .ok (.newarray .int, 2) := by decide +kernel
theorem dX8_init_57 : decode cX8_init 57 = .ok (.putfield 29, 3) := by decide +kernel
theorem dX8_init_60 : decode cX8_init 60 = .ok (.aload_n 0, 1) := by decide +kernel
theorem dX8_init_61 : decode cX8_init 61 = .ok (.bipush 6, 2) := by decide +kernel
theorem dX8_init_63 : decode cX8_init 63 = .ok (.newarray .int, 2) := by decide +kernel
theorem dX8_init_65 : decode cX8_init 65 = .ok (.putfield 32, 3) := by decide +kernel
theorem dX8_init_68 : decode cX8_init 68 = .ok (.aload_n 0, 1) := by decide +kernel
theorem dX8_init_69 : decode cX8_init 69 = .ok (.bipush 6, 2) := by decide +kernel
theorem dX8_init_71 : decode cX8_init 71 = .ok (.newarray .int, 2) := by decide +kernel
theorem dX8_init_73 : decode cX8_init 73 = .ok (.putfield 35, 3) := by decide +kernel
theorem dX8_init_76 : decode cX8_init 76 = .ok (.aload_n 0, 1) := by decide +kernel
theorem dX8_init_77 : decode cX8_init 77 = .ok (.bipush 8, 2) := by decide +kernel
theorem dX8_init_79 : decode cX8_init 79 = .ok (.newarray .int, 2) := by decide +kernel
theorem dX8_init_81 : decode cX8_init 81 = .ok (.putfield 38, 3) := by decide +kernel
theorem dX8_init_84 : decode cX8_init 84 = .ok (.aload_n 0, 1) := by decide +kernel
theorem dX8_init_85 : decode cX8_init 85 = .ok (.bipush 8, 2) := by decide +kernel
theorem dX8_init_87 : decode cX8_init 87 = .ok (.newarray .int, 2) := by decide +kernel
theorem dX8_init_89 : decode cX8_init 89 = .ok (.putfield 41, 3) := by decide +kernel
theorem dX8_init_92 : decode cX8_init 92 = .ok (.aload_n 0, 1) := by decide +kernel
theorem dX8_init_93 : decode cX8_init 93 = .ok (.bipush 8, 2) := by decide +kernel
theorem dX8_init_95 : decode cX8_init 95 = .ok (.newarray .int, 2) := by decide +kernel
theorem dX8_init_97 : decode cX8_init 97 = .ok (.putfield 44, 3) := by decide +kernel
theorem dX8_init_100 : decode cX8_init 100 = .ok (.aload_n 0, 1) := by decide +kernel
theorem dX8_init_101 : decode cX8_init 101 = .ok (.sipush 256, 3) := by decide +kernel
theorem dX8_init_104 : decode cX8_init 104 = .ok (.newarray .int, 2) := by decide +kernel
theorem dX8_init_106 : decode cX8_init 106 = .ok (.putfield 47, 3) := by decide +kernel
theorem dX8_init_109 : decode cX8_init 109 = .ok (.aload_n 0, 1) := by decide +kernel
theorem dX8_init_110 : decode cX8_init 110 = .ok (.iconst 3, 1) := by decide +kernel
theorem dX8_init_111 : decode cX8_init 111 = .ok (.newarray .int, 2) := by decide +kernel
theorem dX8_init_113 : decode cX8_init 113 = .ok (.putfield 50, 3) := by decide +kernel
theorem dX8_init_116 : decode cX8_init 116 = .ok (.aload_n 0, 1) := by decide +kernel
theorem dX8_init_117 : decode cX8_init 117 = .ok (.iconst 5, 1) := by decide +kernel
theorem dX8_init_118 : decode cX8_init 118 = .ok (.newarray .int, 2) := by decide +kernel
theorem dX8_init_120 : decode cX8_init 120 = .ok (.putfield 53, 3) := by decide +kernel
theorem dX8_init_123 : decode cX8_init 123 = .ok (.aload_n 0, 1) := by decide +kernel
theorem dX8_init_124 : decode cX8_init 124 = .ok (.bipush 8, 2) := by decide +kernel
theorem dX8_init_126 : decode cX8_init 126 = .ok (.newarray .int, 2) := by decide +kernel
theorem dX8_init_128 : decode cX8_init 128 = .ok (.putfield 56, 3) := by decide +kernel
theorem dX8_init_131 : decode cX8_init 131 = .ok (.aload_n 0, 1) := by decide +kernel
theorem dX8_init_132 : decode cX8_init 132 = .ok (.iconst 1, 1) := by decide +kernel
theorem dX8_init_133 : decode cX8_init 133 = .ok (.putfield 59, 3) := by decide +kernel
theorem dX8_init_136 : decode cX8_init 136 = .ok (.aload_n 0, 1) := by decide +kernel
theorem dX8_init_137 : decode cX8_init 137 = .ok (.iconst 1, 1) := by decide +kernel
theorem dX8_init_138 : decode cX8_init 138 = .ok (.putfield 63, 3) := by decide +kernel
theorem dX8_init_141 : decode cX8_init 141 = .ok (.aload_n 0, 1) := by decide +kernel
theorem dX8_init_142 : decode cX8_init 142 = .ok (.iconst 1, 1) := by decide +kernel
theorem dX8_init_143 : decode cX8_init 143 = .ok (.putfield 66, 3) := by decide +kernel
theorem dX8_init_146 : decode cX8_init 146 = .ok (.return_, 1) := by decide +kernel
theorem dX8_copy_0 : decode cX8_copy 0 = .ok (.iconst 0, 1) := by decide +kernel
theorem dX8_copy_1 : decode cX8_copy 1 = .ok (.istore_n 2, 1) := by decide +kernel
theorem dX8_copy_2 : decode cX8_copy 2 = .ok (.iload_n 2, 1) := by decide +kernel
theorem dX8_copy_3 : decode cX8_copy 3 = .ok (.bipush 30, 2) := by decide +kernel
theorem dX8_copy_5 : decode cX8_copy 5 = .ok (.if_icmp .ge 15, 3) := by decide +kernel
theorem dX8_copy_8 : decode cX8_copy 8 = .ok (.aload_n 1, 1) := by decide +kernel
theorem dX8_copy_9 : decode cX8_copy 9 = .ok (.iload_n 2, 1) := by decide +kernel
theorem dX8_copy_10 : decode cX8_copy 10 = .ok (.aload_n 0, 1) := by decide +kernel
theorem dX8_copy_11 : decode cX8_copy 11 = .ok (.iload_n 2, 1) := by decide +kernel
theorem dX8_copy_12 : decode cX8_copy 12 = .ok (.iaload, 1) := by decide +kernel
theorem dX8_copy_13 : decode cX8_copy 13 = .ok (.iastore, 1) := by decide +kernel
theorem dX8_copy_14 : decode cX8_copy 14 = .ok (.iinc 2 1, 3) := by decide +kernel
theorem dX8_copy_17 : decode cX8_copy 17 = .ok (.goto (-15), 3) := by decide +kernel
theorem dX8_copy_20 : decode cX8_copy 20 = .ok (.return_, 1) := by decide +kernel
theorem dX8_in_0 : decode cX8_in 0 = .ok (.lload_n 0, 1) := by decide +kernel
theorem dX8_in_1 : decode cX8_in 1 = .ok (.lload_n 2, 1) := by decide +kernel
theorem dX8_in_2 : decode cX8_in 2 = .ok (.lcmp, 1) := by decide +kernel
theorem dX8_in_3 : decode cX8_in 3 = .ok (.ifCond .lt 14, 3) := by decide +kernel
theorem dX8_in_6 : decode cX8_in 6 = .ok (.lload_n 0, 1) := by decide +kernel
theorem dX8_in_7 : decode cX8_in 7 = .ok (.lload 4, 2) := by decide +kernel
theorem dX8_in_9 : decode cX8_in 9 = .ok (.lcmp, 1) := by decide +kernel
theorem dX8_in_10 : decode cX8_in 10 = .ok (.ifCond .gt 7, 3) := by decide +kernel
theorem dX8_in_13 : decode cX8_in 13 = .ok (.iconst 1, 1) := by decide +kernel
theorem dX8_in_14 : decode cX8_in 14 = .ok (.goto 4, 3) := by decide +kernel
theorem dX8_in_17 : decode cX8_in 17 = .ok (.iconst 0, 1) := by decide +kernel
theorem dX8_in_18 : decode cX8_in 18 = .ok (.ireturn, 1) := by decide +kernel
theorem dX8_has_0 : decode cX8_has 0 = .ok (.iload_n 1, 1) := by decide +kernel
theorem dX8_has_1 : decode cX8_has 1 = .ok (.ifCond .lt 16, 3) := by decide +kernel
theorem dX8_has_4 : decode cX8_has 4 = .ok (.iload_n 0, 1) := by decide +kernel
theorem dX8_has_5 : decode cX8_has 5 = .ok (.iload_n 1, 1) := by decide +kernel
theorem dX8_has_6 : decode cX8_has 6 = .ok (.ishr, 1) := by decide +kernel
theorem dX8_has_7 : decode cX8_has 7 = .ok (.iconst 1, 1) := by decide +kernel
theorem dX8_has_8 : decode cX8_has 8 = .ok (.iand, 1) := by decide +kernel
theorem dX8_has_9 : decode cX8_has 9 = .ok (.iconst 1, 1) := by decide +kernel
theorem dX8_has_10 : decode cX8_has 10 = .ok (.if_icmp .ne 7, 3) := by decide +kernel
theorem dX8_has_13 : decode cX8_has 13 = .ok (.iconst 1, 1) := by decide +kernel
theorem dX8_has_14 : decode cX8_has 14 = .ok (.goto 4, 3) := by decide +kernel
theorem dX8_has_17 : decode cX8_has 17 = .ok (.iconst 0, 1) := by decide +kernel
theorem dX8_has_18 : decode cX8_has 18 = .ok (.ireturn, 1) := by decide +kernel
theorem dX8_ones_0 : decode cX8_ones 0 = .ok (.iconst 0, 1) := by decide +kernel
theorem dX8_ones_1 : decode cX8_ones 1 = .ok (.istore_n 1, 1) := by decide +kernel
theorem dX8_ones_2 : decode cX8_ones 2 = .ok (.iconst 0, 1) := by decide +kernel
theorem dX8_ones_3 : decode cX8_ones 3 = .ok (.istore_n 2, 1) := by decide +kernel
theorem dX8_ones_4 : decode cX8_ones 4 = .ok (.iload_n 2, 1) := by decide +kernel
theorem dX8_ones_5 : decode cX8_ones 5 = .ok (.bipush 8, 2) := by decide +kernel
theorem dX8_ones_7 : decode cX8_ones 7 = .ok (.if_icmp .ge 17, 3) := by decide +kernel
theorem dX8_ones_10 : decode cX8_ones 10 = .ok (.iload_n 1, 1) := by decide +kernel
theorem dX8_ones_11 : decode cX8_ones 11 = .ok (.iload_n 0, 1) := by decide +kernel
theorem dX8_ones_12 : decode cX8_ones 12 = .ok (.iload_n 2, 1) := by decide +kernel
theorem dX8_ones_13 : decode cX8_ones 13 = .ok (.ishr, 1) := by decide +kernel
theorem dX8_ones_14 : decode cX8_ones 14 = .ok (.iconst 1, 1) := by decide +kernel
theorem dX8_ones_15 : decode cX8_ones 15 = .ok (.iand, 1) := by decide +kernel
theorem dX8_ones_16 : decode cX8_ones 16 = .ok (.iadd, 1) := by decide +kernel
theorem dX8_ones_17 : decode cX8_ones 17 = .ok (.istore_n 1, 1) := by decide +kernel
theorem dX8_ones_18 : decode cX8_ones 18 = .ok (.iinc 2 1, 3) := by decide +kernel
theorem dX8_ones_21 : decode cX8_ones 21 = .ok (.goto (-17), 3) := by decide +kernel
theorem dX8_ones_24 : decode cX8_ones 24 = .ok (.iload_n 1, 1) := by decide +kernel
theorem dX8_ones_25 : decode cX8_ones 25 = .ok (.ireturn, 1) := by decide +kernel
theorem dX8_raised_0 : decode cX8_raised 0 = .ok (.iconst 1, 1) := by decide +kernel
theorem dX8_raised_1 : decode cX8_raised 1 = .ok (.istore_n 2, 1) := by decide +kernel
theorem dX8_raised_2 : decode cX8_raised 2 = .ok (.iconst 0, 1) := by decide +kernel
theorem dX8_raised_3 : decode cX8_raised 3 = .ok (.istore_n 3, 1) := by decide +kernel
theorem dX8_raised_4 : decode cX8_raised 4 = .ok (.iload_n 3, 1) := by decide +kernel
theorem dX8_raised_5 : decode cX8_raised 5 = .ok (.iload_n 1, 1) := by decide +kernel
theorem dX8_raised_6 : decode cX8_raised 6 = .ok (.if_icmp .ge 13, 3) := by decide +kernel
theorem dX8_raised_9 : decode cX8_raised 9 = .ok (.iload_n 2, 1) := by decide +kernel
theorem dX8_raised_10 : decode cX8_raised 10 = .ok (.iload_n 0, 1) := by decide +kernel
theorem dX8_raised_11 : decode cX8_raised 11 = .ok (.imul, 1) := by decide +kernel
theorem dX8_raised_12 : decode cX8_raised 12 = .ok (.istore_n 2, 1) := by decide +kernel
theorem dX8_raised_13 : decode cX8_raised 13 = .ok (.iinc 3 1, 3) := by decide +kernel
theorem dX8_raised_16 : decode cX8_raised 16 = .ok (.goto (-12), 3) := by decide +kernel
theorem dX8_raised_19 : decode cX8_raised 19 = .ok (.iload_n 2, 1) := by decide +kernel
theorem dX8_raised_20 : decode cX8_raised 20 = .ok (.ireturn, 1) := by decide +kernel
theorem dX8_factorial_0 : decode cX8_factorial 0 = .ok (.iconst 1, 1) := by decide +kernel
theorem dX8_factorial_1 : decode cX8_factorial 1 = .ok (.istore_n 1, 1) := by decide +kernel
theorem dX8_factorial_2 : decode cX8_factorial 2 = .ok (.iconst 2, 1) := by decide +kernel
theorem dX8_factorial_3 : decode cX8_factorial 3 = .ok (.istore_n 2, 1) := by decide +kernel
theorem dX8_factorial_4 : decode cX8_factorial 4 = .ok (.iload_n 2, 1) := by decide +kernel
theorem dX8_factorial_5 : decode cX8_factorial 5 = .ok (.iload_n 0, 1) := by decide +kernel
theorem dX8_factorial_6 : decode cX8_factorial 6 = .ok (.if_icmp .gt 13, 3) := by decide +kernel
theorem dX8_factorial_9 : decode cX8_factorial 9 = .ok (.iload_n 1, 1) := by decide +kernel
theorem dX8_factorial_10 : decode cX8_factorial 10 = .ok (.iload_n 2, 1) := by decide +kernel
theorem dX8_factorial_11 : decode cX8_factorial 11 = .ok (.imul, 1) := by decide +kernel
theorem dX8_factorial_12 : decode cX8_factorial 12 = .ok (.istore_n 1, 1) := by decide +kernel
theorem dX8_factorial_13 : decode cX8_factorial 13 = .ok (.iinc 2 1, 3) := by decide +kernel
theorem dX8_factorial_16 : decode cX8_factorial 16 = .ok (.goto (-12), 3) := by decide +kernel
theorem dX8_factorial_19 : decode cX8_factorial 19 = .ok (.iload_n 1, 1) := by decide +kernel
theorem dX8_factorial_20 : decode cX8_factorial 20 = .ok (.ireturn, 1) := by decide +kernel
theorem dX8_fraction_0 : decode cX8_fraction 0 = .ok (.iload_n 0, 1) := by decide +kernel
theorem dX8_fraction_1 : decode cX8_fraction 1 = .ok (.ifCond .ge 8, 3) := by decide +kernel
theorem dX8_fraction_4 : decode cX8_fraction 4 = .ok (.iload_n 0, 1) := by decide +kernel
theorem dX8_fraction_5 : decode cX8_fraction 5 = .ok (.ineg, 1) := by decide +kernel
theorem dX8_fraction_6 : decode cX8_fraction 6 = .ok (.goto 4, 3) := by decide +kernel
theorem dX8_fraction_9 : decode cX8_fraction 9 = .ok (.iload_n 0, 1) := by decide +kernel
theorem dX8_fraction_10 : decode cX8_fraction 10 = .ok (.istore_n 3, 1) := by decide +kernel
theorem dX8_fraction_11 : decode cX8_fraction 11 = .ok (.iload_n 1, 1) := by decide +kernel
theorem dX8_fraction_12 : decode cX8_fraction 12 = .ok (.istore 4, 2) := by decide +kernel
theorem dX8_fraction_14 : decode cX8_fraction 14 = .ok (.iload 4, 2) := by decide +kernel
theorem dX8_fraction_16 : decode cX8_fraction 16 = .ok (.ifCond .eq 19, 3) := by decide +kernel
theorem dX8_fraction_19 : decode cX8_fraction 19 = .ok (.iload_n 3, 1) := by decide +kernel
theorem dX8_fraction_20 : decode cX8_fraction 20 = .ok (.iload 4, 2) := by decide +kernel
theorem dX8_fraction_22 : decode cX8_fraction 22 = .ok (.irem, 1) := by decide +kernel
theorem dX8_fraction_23 : decode cX8_fraction 23 = .ok (.istore 5, 2) := by decide +kernel
theorem dX8_fraction_25 : decode cX8_fraction 25 = .ok (.iload 4, 2) := by decide +kernel
theorem dX8_fraction_27 : decode cX8_fraction 27 = .ok (.istore_n 3, 1) := by decide +kernel
theorem dX8_fraction_28 : decode cX8_fraction 28 = .ok (.iload 5, 2) := by decide +kernel
theorem dX8_fraction_30 : decode cX8_fraction 30 = .ok (.istore 4, 2) := by decide +kernel
theorem dX8_fraction_32 : decode cX8_fraction 32 = .ok (.goto (-18), 3) := by decide +kernel
theorem dX8_fraction_35 : decode cX8_fraction 35 = .ok (.iload_n 2, 1) := by decide +kernel
theorem dX8_fraction_36 : decode cX8_fraction 36 = .ok (.ifCond .eq 9, 3) := by decide +kernel
theorem dX8_fraction_39 : decode cX8_fraction 39 = .ok (.iload_n 0, 1) := by decide +kernel
theorem dX8_fraction_40 : decode cX8_fraction 40 = .ok (.iload_n 3, 1) := by decide +kernel
theorem dX8_fraction_41 : decode cX8_fraction 41 = .ok (.idiv, 1) := by decide +kernel
theorem dX8_fraction_42 : decode cX8_fraction 42 = .ok (.goto 6, 3) := by decide +kernel
theorem dX8_fraction_45 : decode cX8_fraction 45 = .ok (.iload_n 1, 1) := by decide +kernel
theorem dX8_fraction_46 : decode cX8_fraction 46 = .ok (.iload_n 3, 1) := by decide +kernel
theorem dX8_fraction_47 : decode cX8_fraction 47 = .ok (.idiv, 1) := by decide +kernel
theorem dX8_fraction_48 : decode cX8_fraction 48 = .ok (.ireturn, 1) := by decide +kernel
theorem dX8_isDot_0 : decode cX8_isDot 0 = .ok (.iload_n 1, 1) := by decide +kernel
theorem dX8_isDot_1 : decode cX8_isDot 1 = .ok (.i2l, 1) := by decide +kernel
theorem dX8_isDot_2 : decode cX8_isDot 2 = .ok (.lconst 0, 1) := by decide +kernel
theorem dX8_isDot_3 : decode cX8_isDot 3 = .ok (.aload_n 0, 1) := by decide +kernel
theorem dX8_isDot_4 : decode cX8_isDot 4 = .ok (.getfield 59, 3) := by decide +kernel
theorem dX8_isDot_7 : decode cX8_isDot 7 = .ok (.iconst 1, 1) := by decide +kernel
theorem dX8_isDot_8 : decode cX8_isDot 8 = .ok (.isub, 1) := by decide +kernel
theorem dX8_isDot_9 : decode cX8_isDot 9 = .ok (.i2l, 1) := by decide +kernel
theorem dX8_isDot_10 : decode cX8_isDot 10 = .ok (.invokestatic 69, 3) := by decide +kernel
theorem dX8_isDot_13 : decode cX8_isDot 13 = .ok (.ireturn, 1) := by decide +kernel
theorem dX8_isLine_0 : decode cX8_isLine 0 = .ok (.iload_n 1, 1) := by decide +kernel
theorem dX8_isLine_1 : decode cX8_isLine 1 = .ok (.i2l, 1) := by decide +kernel
theorem dX8_isLine_2 : decode cX8_isLine 2 = .ok (.lconst 0, 1) := by decide +kernel
theorem dX8_isLine_3 : decode cX8_isLine 3 = .ok (.iconst 1, 1) := by decide +kernel
theorem dX8_isLine_4 : decode cX8_isLine 4 = .ok (.aload_n 0, 1) := by decide +kernel
theorem dX8_isLine_5 : decode cX8_isLine 5 = .ok (.getfield 59, 3) := by decide +kernel
theorem dX8_isLine_8 : decode cX8_isLine 8 = .ok (.ishl, 1) := by decide +kernel
theorem dX8_isLine_9 : decode cX8_isLine 9 = .ok (.iconst 1, 1) := by decide +kernel
theorem dX8_isLine_10 : decode cX8_isLine 10 = .ok (.isub, 1) := by decide +kernel
theorem dX8_isLine_11 : decode cX8_isLine 11 = .ok (.i2l, 1) := by decide +kernel
theorem dX8_isLine_12 : decode cX8_isLine 12 = .ok (.invokestatic 69, 3) := by decide +kernel
theorem dX8_isLine_15 : decode cX8_isLine 15 = .ok (.ireturn, 1) := by decide +kernel
theorem dX8_write_0 : decode cX8_write 0 = .ok (.iload_n 1, 1) := by decide +kernel
theorem dX8_write_1 : decode cX8_write 1 = .ok (.i2l, 1) := by decide +kernel
theorem dX8_write_2 : decode cX8_write 2 = .ok (.lconst 0, 1) := by decide +kernel
theorem dX8_write_3 : decode cX8_write 3 = .ok (.ldc2_w 73, 3) := by decide +kernel
theorem dX8_write_6 : decode cX8_write 6 = .ok (.invokestatic 69, 3) := by decide +kernel
theorem dX8_write_9 : decode cX8_write 9 = .ok (.ifCond .ne 6, 3) := by decide +kernel
theorem dX8_write_12 : decode cX8_write 12 = .ok (.bipush (-2), 2) := by decide +kernel
theorem dX8_write_14 : decode cX8_write 14 = .ok (.ireturn, 1) := by decide +kernel
theorem dX8_write_15 : decode cX8_write 15 = .ok (.aload_n 0, 1) := by decide +kernel
theorem dX8_write_16 : decode cX8_write 16 = .ok (.getfield 75, 3) := by decide +kernel
theorem dX8_write_19 : decode cX8_write 19 = .ok (.bipush 99, 2) := by decide +kernel
theorem dX8_write_21 : decode cX8_write 21 = .ok (.if_icmp .ne 6, 3) := by decide +kernel
theorem dX8_write_24 : decode cX8_write 24 = .ok (.bipush (-4), 2) := by decide +kernel
theorem dX8_write_26 : decode cX8_write 26 = .ok (.ireturn, 1) := by decide +kernel
theorem dX8_write_27 : decode cX8_write 27 = .ok (.aload_n 0, 1) := by decide +kernel
theorem dX8_write_28 : decode cX8_write 28 = .ok (.getfield 7, 3) := by decide +kernel
theorem dX8_write_31 : decode cX8_write 31 = .ok (.aload_n 0, 1) := by decide +kernel
theorem dX8_write_32 : decode cX8_write 32 = .ok (.getfield 75, 3) := by decide +kernel
theorem dX8_write_35 : decode cX8_write 35 = .ok (.iload_n 1, 1) := by decide +kernel
theorem dX8_write_36 : decode cX8_write 36 = .ok (.iastore, 1) := by decide +kernel
theorem dX8_write_37 : decode cX8_write 37 = .ok (.aload_n 0, 1) := by decide +kernel
theorem dX8_write_38 : decode cX8_write 38 = .ok (.dup, 1) := by decide +kernel
theorem dX8_write_39 : decode cX8_write 39 = .ok (.getfield 75, 3) := by decide +kernel
theorem dX8_write_42 : decode cX8_write 42 = .ok (.iconst 1, 1) := by decide +kernel
theorem dX8_write_43 : decode cX8_write 43 = .ok (.iadd, 1) := by decide +kernel
theorem dX8_write_44 : decode cX8_write 44 = .ok (.putfield 75, 3) := by decide +kernel
theorem dX8_write_47 : decode cX8_write 47 = .ok (.aload_n 0, 1) := by decide +kernel
theorem dX8_write_48 : decode cX8_write 48 = .ok (.getfield 75, 3) := by decide +kernel
theorem dX8_write_51 : decode cX8_write 51 = .ok (.ireturn, 1) := by decide +kernel
theorem dX8_wipe_0 : decode cX8_wipe 0 = .ok (.aload_n 0, 1) := by decide +kernel
theorem dX8_wipe_1 : decode cX8_wipe 1 = .ok (.getfield 75, 3) := by decide +kernel
theorem dX8_wipe_4 : decode cX8_wipe 4 = .ok (.istore_n 1, 1) := by decide +kernel
theorem dX8_wipe_5 : decode cX8_wipe 5 = .ok (.aload_n 0, 1) := by decide +kernel
theorem dX8_wipe_6 : decode cX8_wipe 6 = .ok (.iconst 0, 1) := by decide +kernel
theorem dX8_wipe_7 : decode cX8_wipe 7 = .ok (.putfield 75, 3) := by decide +kernel
theorem dX8_wipe_10 : decode cX8_wipe 10 = .ok (.iload_n 1, 1) := by decide +kernel
theorem dX8_wipe_11 : decode cX8_wipe 11 = .ok (.ireturn, 1) := by decide +kernel
theorem dX8_takeHead_0 : decode cX8_takeHead 0 = .ok (.iload_n 1, 1) := by decide +kernel
theorem dX8_takeHead_1 : decode cX8_takeHead 1 = .ok (.iconst 1, 1) := by decide +kernel
theorem dX8_takeHead_2 : decode cX8_takeHead 2 = .ok (.if_icmp .ne 18, 3) := by decide +kernel
theorem dX8_takeHead_5 : decode cX8_takeHead 5 = .ok (.aload_n 0, 1) := by decide +kernel
theorem dX8_takeHead_6 : decode cX8_takeHead 6 = .ok (.iload_n 2, 1) := by decide +kernel
theorem dX8_takeHead_7 : decode cX8_takeHead 7 = .ok (.putfield 78, 3) := by decide +kernel
theorem dX8_takeHead_10 : decode cX8_takeHead 10 = .ok (.iload_n 2, 1) := by decide +kernel
theorem dX8_takeHead_11 : decode cX8_takeHead 11 = .ok (.i2l, 1) := by decide +kernel
theorem dX8_takeHead_12 : decode cX8_takeHead 12 = .ok (.lconst 1, 1) := by decide +kernel
theorem dX8_takeHead_13 : decode cX8_takeHead 13 = .ok (.ldc2_w 81, 3) := by decide +kernel
theorem dX8_takeHead_16 : decode cX8_takeHead 16 = .ok (.invokestatic 69, 3) := by decide +kernel
theorem dX8_takeHead_19 : decode cX8_takeHead 19 = .ok (.ireturn, 1) := by decide +kernel
theorem dX8_takeHead_20 : decode cX8_takeHead 20 = .ok (.iload_n 1, 1) := by decide +kernel
theorem dX8_takeHead_21 : decode cX8_takeHead 21 = .ok (.iconst 2, 1) := by decide +kernel
theorem dX8_takeHead_22 : decode cX8_takeHead 22 = .ok (.if_icmp .ne 18, 3) := by decide +kernel
theorem dX8_takeHead_25 : decode cX8_takeHead 25 = .ok (.aload_n 0, 1) := by decide +kernel
theorem dX8_takeHead_26 : decode cX8_takeHead 26 = .ok (.iload_n 2, 1) := by decide +kernel
theorem dX8_takeHead_27 : decode cX8_takeHead 27 = .ok (.putfield 83, 3) := by decide +kernel
theorem dX8_takeHead_30 : decode cX8_takeHead 30 = .ok (.iload_n 2, 1) := by decide +kernel
theorem dX8_takeHead_31 : decode cX8_takeHead 31 = .ok (.i2l, 1) := by decide +kernel
theorem dX8_takeHead_32 : decode cX8_takeHead 32 = .ok (.lconst 1, 1) := by decide +kernel
theorem dX8_takeHead_33 : decode cX8_takeHead 33 = .ok (.ldc2_w 86, 3) := by decide +kernel
theorem dX8_takeHead_36 : decode cX8_takeHead 36 = .ok (.invokestatic 69, 3) := by decide +kernel
theorem dX8_takeHead_39 : decode cX8_takeHead 39 = .ok (.ireturn, 1) := by decide +kernel
theorem dX8_takeHead_40 : decode cX8_takeHead 40 = .ok (.iload_n 1, 1) := by decide +kernel
theorem dX8_takeHead_41 : decode cX8_takeHead 41 = .ok (.iconst 3, 1) := by decide +kernel
theorem dX8_takeHead_42 : decode cX8_takeHead 42 = .ok (.if_icmp .ne 18, 3) := by decide +kernel
theorem dX8_takeHead_45 : decode cX8_takeHead 45 = .ok (.aload_n 0, 1) := by decide +kernel
theorem dX8_takeHead_46 : decode cX8_takeHead 46 = .ok (.iload_n 2, 1) := by decide +kernel
theorem dX8_takeHead_47 : decode cX8_takeHead 47 = .ok (.putfield 88, 3) := by decide +kernel
theorem dX8_takeHead_50 : decode cX8_takeHead 50 = .ok (.iload_n 2, 1) := by decide +kernel
theorem dX8_takeHead_51 : decode cX8_takeHead 51 = .ok (.i2l, 1) := by decide +kernel
theorem dX8_takeHead_52 : decode cX8_takeHead 52 = .ok (.lconst 1, 1) := by decide +kernel
theorem dX8_takeHead_53 : decode cX8_takeHead 53 = .ok (.ldc2_w 81, 3) := by decide +kernel
theorem dX8_takeHead_56 : decode cX8_takeHead 56 = .ok (.invokestatic 69, 3) := by decide +kernel
theorem dX8_takeHead_59 : decode cX8_takeHead 59 = .ok (.ireturn, 1) := by decide +kernel
theorem dX8_takeHead_60 : decode cX8_takeHead 60 = .ok (.iload_n 1, 1) := by decide +kernel
theorem dX8_takeHead_61 : decode cX8_takeHead 61 = .ok (.bipush 13, 2) := by decide +kernel
theorem dX8_takeHead_63 : decode cX8_takeHead 63 = .ok (.if_icmp .ge 48, 3) := by decide +kernel
theorem dX8_takeHead_66 : decode cX8_takeHead 66 = .ok (.iload_n 1, 1) := by decide +kernel
theorem dX8_takeHead_67 : decode cX8_takeHead 67 = .ok (.iconst 4, 1) := by decide +kernel
theorem dX8_takeHead_68 : decode cX8_takeHead 68 = .ok (.isub, 1) := by decide +kernel
theorem dX8_takeHead_69 : decode cX8_takeHead 69 = .ok (.iconst 3, 1) := by decide +kernel
theorem dX8_takeHead_70 : decode cX8_takeHead 70 = .ok (.idiv, 1) := by decide +kernel
theorem dX8_takeHead_71 : decode cX8_takeHead 71 = .ok (.istore_n 3, 1) := by decide +kernel
theorem dX8_takeHead_72 : decode cX8_takeHead 72 = .ok (.aload_n 0, 1) := by decide +kernel
theorem dX8_takeHead_73 : decode cX8_takeHead 73 = .ok (.getfield 50, 3) := by decide +kernel
theorem dX8_takeHead_76 : decode cX8_takeHead 76 = .ok (.iload_n 3, 1) := by decide +kernel
theorem dX8_takeHead_77 : decode cX8_takeHead 77 = .ok (.iload_n 1, 1) := by decide +kernel
theorem dX8_takeHead_78 : decode cX8_takeHead 78 = .ok (.iconst 4, 1) := by decide +kernel
theorem dX8_takeHead_79 : decode cX8_takeHead 79 = .ok (.isub, 1) := by decide +kernel
theorem dX8_takeHead_80 : decode cX8_takeHead 80 = .ok (.iconst 3, 1) := by decide +kernel
theorem dX8_takeHead_81 : decode cX8_takeHead 81 = .ok (.irem, 1) := by decide +kernel
theorem dX8_takeHead_82 : decode cX8_takeHead 82 = .ok (.ifCond .ne 7, 3) := by decide +kernel
theorem dX8_takeHead_85 : decode cX8_takeHead 85 = .ok (.iload_n 2, 1) := by decide +kernel
theorem dX8_takeHead_86 : decode cX8_takeHead 86 = .ok (.goto 14, 3) := by decide +kernel
theorem dX8_takeHead_89 : decode cX8_takeHead 89 = .ok (.bipush 10, 2) := by decide +kernel
theorem dX8_takeHead_91 : decode cX8_takeHead 91 = .ok (.aload_n 0, 1) := by decide +kernel
theorem dX8_takeHead_92 : decode cX8_takeHead 92 = .ok (.getfield 50, 3) := by decide +kernel
theorem dX8_takeHead_95 : decode cX8_takeHead 95 = .ok (.iload_n 3, 1) := by decide +kernel
theorem dX8_takeHead_96 : decode cX8_takeHead 96 = .ok (.iaload, 1) := by decide +kernel
theorem dX8_takeHead_97 : decode cX8_takeHead 97 = .ok (.imul, 1) := by decide +kernel
theorem dX8_takeHead_98 : decode cX8_takeHead 98 = .ok (.iload_n 2, 1) := by decide +kernel
theorem dX8_takeHead_99 : decode cX8_takeHead 99 = .ok (.iadd, 1) := by decide +kernel
theorem dX8_takeHead_100 : decode cX8_takeHead 100 = .ok (.iastore, 1) := by decide +kernel
theorem dX8_takeHead_101 : decode cX8_takeHead 101 = .ok (.iload_n 2, 1) := by decide +kernel
theorem dX8_takeHead_102 : decode cX8_takeHead 102 = .ok (.i2l, 1) := by decide +kernel
theorem dX8_takeHead_103 : decode cX8_takeHead 103 = .ok (.lconst 0, 1) := by decide +kernel
theorem dX8_takeHead_104 : decode cX8_takeHead 104 = .ok (.ldc2_w 91, 3) := by decide +kernel
theorem dX8_takeHead_107 : decode cX8_takeHead 107 = .ok (.invokestatic 69, 3) := by decide +kernel
theorem dX8_takeHead_110 : decode cX8_takeHead 110 = .ok (.ireturn, 1) := by decide +kernel
theorem dX8_takeHead_111 : decode cX8_takeHead 111 = .ok (.aload_n 0, 1) := by decide +kernel
theorem dX8_takeHead_112 : decode cX8_takeHead 112 = .ok (.getfield 53, 3) := by decide +kernel
theorem dX8_takeHead_115 : decode cX8_takeHead 115 = .ok (.iload_n 1, 1) := by decide +kernel
theorem dX8_takeHead_116 : decode cX8_takeHead 116 = .ok (.bipush 13, 2) := by decide +kernel
theorem dX8_takeHead_118 : decode cX8_takeHead 118 = .ok (.isub, 1) := by decide +kernel
theorem dX8_takeHead_119 : decode cX8_takeHead 119 = .ok (.iload_n 2, 1) := by decide +kernel
theorem dX8_takeHead_120 : decode cX8_takeHead 120 = .ok (.iastore, 1) := by decide +kernel
theorem dX8_takeHead_121 : decode cX8_takeHead 121 = .ok (.iload_n 2, 1) := by decide +kernel
theorem dX8_takeHead_122 : decode cX8_takeHead 122 = .ok (.i2l, 1) := by decide +kernel
theorem dX8_takeHead_123 : decode cX8_takeHead 123 = .ok (.lconst 0, 1) := by decide +kernel
theorem dX8_takeHead_124 : decode cX8_takeHead 124 = .ok (.iload_n 1, 1) := by decide +kernel
theorem dX8_takeHead_125 : decode cX8_takeHead 125 = .ok (.bipush 13, 2) := by decide +kernel
theorem dX8_takeHead_127 : decode cX8_takeHead 127 = .ok (.if_icmp .ne 9, 3) := by decide +kernel
theorem dX8_takeHead_130 : decode cX8_takeHead 130 = .ok (.ldc2_w 91, 3) := by decide +kernel
theorem dX8_takeHead_133 : decode cX8_takeHead 133 = .ok (.goto 13, 3) := by decide +kernel
theorem dX8_takeHead_136 : decode cX8_takeHead 136 = .ok (.aload_n 0, 1) := by decide +kernel
theorem dX8_takeHead_137 : decode cX8_takeHead 137 = .ok (.getfield 53, 3) := by decide +kernel
theorem dX8_takeHead_140 : decode cX8_takeHead 140 = .ok (.iload_n 1, 1) := by decide +kernel
theorem dX8_takeHead_141 : decode cX8_takeHead 141 = .ok (.bipush 14, 2) := by decide +kernel
theorem dX8_takeHead_143 : decode cX8_takeHead 143 = .ok (.isub, 1) := by decide +kernel
theorem dX8_takeHead_144 : decode cX8_takeHead 144 = .ok (.iaload, 1) := by decide +kernel
theorem dX8_takeHead_145 : decode cX8_takeHead 145 = .ok (.i2l, 1) := by decide +kernel
theorem dX8_takeHead_146 : decode cX8_takeHead 146 = .ok (.invokestatic 69, 3) := by decide +kernel
theorem dX8_takeHead_149 : decode cX8_takeHead 149 = .ok (.ireturn, 1) := by decide +kernel
theorem dX8_takeOfLine_0 : decode cX8_takeOfLine 0 = .ok (.aload_n 0, 1) := by decide +kernel
theorem dX8_takeOfLine_1 : decode cX8_takeOfLine 1 = .ok (.getfield 93, 3) := by decide +kernel
theorem dX8_takeOfLine_4 : decode cX8_takeOfLine 4 = .ok (.ifCond .ge 37, 3) := by decide +kernel
theorem dX8_takeOfLine_7 : decode cX8_takeOfLine 7 = .ok (.aload_n 0, 1) := by decide +kernel
theorem dX8_takeOfLine_8 : decode cX8_takeOfLine 8 = .ok (.iconst 0, 1) := by decide +kernel
theorem dX8_takeOfLine_9 : decode cX8_takeOfLine 9 = .ok (.putfield 93, 3) := by decide +kernel
theorem dX8_takeOfLine_12 : decode cX8_takeOfLine 12 = .ok (.iload_n 1, 1) := by decide +kernel
theorem dX8_takeOfLine_13 : decode cX8_takeOfLine 13 = .ok (.bipush 108, 2) := by decide +kernel
theorem dX8_takeOfLine_15 : decode cX8_takeOfLine 15 = .ok (.if_icmp .ne 12, 3) := by decide +kernel
theorem dX8_takeOfLine_18 : decode cX8_takeOfLine 18 = .ok (.aload_n 0, 1) := by decide +kernel
theorem dX8_takeOfLine_19 : decode cX8_takeOfLine 19 = .ok (.getfield 96, 3) := by decide +kernel
theorem dX8_takeOfLine_22 : decode cX8_takeOfLine 22 = .ok (.bipush 8, 2) := by decide +kernel
theorem dX8_takeOfLine_24 : decode cX8_takeOfLine 24 = .ok (.if_icmp .ne 5, 3) := by decide +kernel
theorem dX8_takeOfLine_27 : decode cX8_takeOfLine 27 = .ok (.iconst 0, 1) := by decide +kernel
theorem dX8_takeOfLine_28 : decode cX8_takeOfLine 28 = .ok (.ireturn, 1) := by decide +kernel
theorem dX8_takeOfLine_29 : decode cX8_takeOfLine 29 = .ok (.aload_n 0, 1) := by decide +kernel
theorem dX8_takeOfLine_30 : decode cX8_takeOfLine 30 = .ok (.getfield 56, 3) := by decide +kernel
theorem dX8_takeOfLine_33 : decode cX8_takeOfLine 33 = .ok (.aload_n 0, 1) := by decide +kernel
theorem dX8_takeOfLine_34 : decode cX8_takeOfLine 34 = .ok (.getfield 96, 3) := by decide +kernel
theorem dX8_takeOfLine_37 : decode cX8_takeOfLine 37 = .ok (.iconst 0, 1) := by decide +kernel
theorem dX8_takeOfLine_38 : decode cX8_takeOfLine 38 = .ok (.iastore, 1) := by decide +kernel
theorem dX8_takeOfLine_39 : decode cX8_takeOfLine 39 = .ok (.iconst 1, 1) := by decide +kernel
theorem dX8_takeOfLine_40 : decode cX8_takeOfLine 40 = .ok (.ireturn, 1) := by decide +kernel
theorem dX8_takeOfLine_41 : decode cX8_takeOfLine 41 = .ok (.aload_n 0, 1) := by decide +kernel
theorem dX8_takeOfLine_42 : decode cX8_takeOfLine 42 = .ok (.getfield 56, 3) := by decide +kernel
theorem dX8_takeOfLine_45 : decode cX8_takeOfLine 45 = .ok (.aload_n 0, 1) := by decide +kernel
theorem dX8_takeOfLine_46 : decode cX8_takeOfLine 46 = .ok (.getfield 96, 3) := by decide +kernel
theorem dX8_takeOfLine_49 : decode cX8_takeOfLine 49 = .ok (.dup2, 1) := by decide +kernel
theorem dX8_takeOfLine_50 : decode cX8_takeOfLine 50 = .ok (.iaload, 1) := by decide +kernel
theorem dX8_takeOfLine_51 : decode cX8_takeOfLine 51 = .ok (.iload_n 1, 1) := by decide +kernel
theorem dX8_takeOfLine_52 : decode cX8_takeOfLine 52 = .ok (.bipush 111, 2) := by decide +kernel
theorem dX8_takeOfLine_54 : decode cX8_takeOfLine 54 = .ok (.if_icmp .ne 12, 3) := by decide +kernel
theorem dX8_takeOfLine_57 : decode cX8_takeOfLine 57 = .ok (.iconst 1, 1) := by decide +kernel
theorem dX8_takeOfLine_58 : decode cX8_takeOfLine 58 = .ok (.aload_n 0, 1) := by decide +kernel
theorem dX8_takeOfLine_59 : decode cX8_takeOfLine 59 = .ok (.getfield 93, 3) := by decide +kernel
theorem dX8_takeOfLine_62 : decode cX8_takeOfLine 62 = .ok (.ishl, 1) := by decide +kernel
theorem dX8_takeOfLine_63 : decode cX8_takeOfLine 63 = .ok (.goto 4, 3) := by decide +kernel
theorem dX8_takeOfLine_66 : decode cX8_takeOfLine 66 = .ok (.iconst 0, 1) := by decide +kernel
theorem dX8_takeOfLine_67 : decode cX8_takeOfLine 67 = .ok (.ior, 1) := by decide +kernel
theorem dX8_takeOfLine_68 : decode cX8_takeOfLine 68 = .ok (.iastore, 1) := by decide +kernel
theorem dX8_takeOfLine_69 : decode cX8_takeOfLine 69 = .ok (.aload_n 0, 1) := by decide +kernel
theorem dX8_takeOfLine_70 : decode cX8_takeOfLine 70 = .ok (.dup, 1) := by decide +kernel
theorem dX8_takeOfLine_71 : decode cX8_takeOfLine 71 = .ok (.getfield 93, 3) := by decide +kernel
theorem dX8_takeOfLine_74 : decode cX8_takeOfLine 74 = .ok (.iconst 1, 1) := by decide +kernel
theorem dX8_takeOfLine_75 : decode cX8_takeOfLine 75 = .ok (.iadd, 1) := by decide +kernel
theorem dX8_takeOfLine_76 : decode cX8_takeOfLine 76 = .ok (.putfield 93, 3) := by decide +kernel
theorem dX8_takeOfLine_79 : decode cX8_takeOfLine 79 = .ok (.aload_n 0, 1) := by decide +kernel
theorem dX8_takeOfLine_80 : decode cX8_takeOfLine 80 = .ok (.getfield 93, 3) := by decide +kernel
theorem dX8_takeOfLine_83 : decode cX8_takeOfLine 83 = .ok (.aload_n 0, 1) := by decide +kernel
theorem dX8_takeOfLine_84 : decode cX8_takeOfLine 84 = .ok (.getfield 78, 3) := by decide +kernel
theorem dX8_takeOfLine_87 : decode cX8_takeOfLine 87 = .ok (.if_icmp .ne 18, 3) := by decide +kernel
theorem dX8_takeOfLine_90 : decode cX8_takeOfLine 90 = .ok (.aload_n 0, 1) := by decide +kernel
theorem dX8_takeOfLine_91 : decode cX8_takeOfLine 91 = .ok (.iconst (-1), 1) := by decide +kernel
theorem dX8_takeOfLine_92 : decode cX8_takeOfLine 92 = .ok (.putfield 93, 3) := by decide +kernel
theorem dX8_takeOfLine_95 : decode cX8_takeOfLine 95 = .ok (.aload_n 0, 1) := by decide +kernel
theorem dX8_takeOfLine_96 : decode cX8_takeOfLine 96 = .ok (.dup, 1) := by decide +kernel
theorem dX8_takeOfLine_97 : decode cX8_takeOfLine 97 = .ok (.getfield 96, 3) := by decide +kernel
theorem dX8_takeOfLine_100 : decode cX8_takeOfLine 100 = .ok (.iconst 1, 1) := by decide +kernel
theorem dX8_takeOfLine_101 : decode cX8_takeOfLine 101 = .ok (.iadd, 1) := by decide +kernel
theorem dX8_takeOfLine_102 : decode cX8_takeOfLine 102 = .ok (.putfield 96, 3) := by decide +kernel
theorem dX8_takeOfLine_105 : decode cX8_takeOfLine 105 = .ok (.iload_n 1, 1) := by decide +kernel
theorem dX8_takeOfLine_106 : decode cX8_takeOfLine 106 = .ok (.bipush 111, 2) := by decide +kernel
theorem dX8_takeOfLine_108 : decode cX8_takeOfLine 108 = .ok (.if_icmp .eq 9, 3) := by decide +kernel
theorem dX8_takeOfLine_111 : decode cX8_takeOfLine 111 = .ok (.iload_n 1, 1) := by decide +kernel
theorem dX8_takeOfLine_112 : decode cX8_takeOfLine 112 = .ok (.bipush 45, 2) := by decide +kernel
theorem dX8_takeOfLine_114 : decode cX8_takeOfLine 114 = .ok (.if_icmp .ne 7, 3) := by decide +kernel
theorem dX8_takeOfLine_117 : decode cX8_takeOfLine 117 = .ok (.iconst 1, 1) := by decide +kernel
theorem dX8_takeOfLine_118 : decode cX8_takeOfLine 118 = .ok (.goto 4, 3) := by decide +kernel
theorem dX8_takeOfLine_121 : decode cX8_takeOfLine 121 = .ok (.iconst 0, 1) := by decide +kernel
theorem dX8_takeOfLine_122 : decode cX8_takeOfLine 122 = .ok (.ireturn, 1) := by decide +kernel
theorem dX8_readText_0 : decode cX8_readText 0 = .ok (.aload_n 0, 1) := by decide +kernel
theorem dX8_readText_1 : decode cX8_readText 1 = .ok (.iconst 0, 1) := by decide +kernel
theorem dX8_readText_2 : decode cX8_readText 2 = .ok (.putfield 96, 3) := by decide +kernel
theorem dX8_readText_5 : decode cX8_readText 5 = .ok (.aload_n 0, 1) := by decide +kernel
theorem dX8_readText_6 : decode cX8_readText 6 = .ok (.iconst (-1), 1) := by decide +kernel
theorem dX8_readText_7 : decode cX8_readText 7 = .ok (.putfield 93, 3) := by decide +kernel
theorem dX8_readText_10 : decode cX8_readText 10 = .ok (.aload_n 0, 1) := by decide +kernel
theorem dX8_readText_11 : decode cX8_readText 11 = .ok (.getfield 75, 3) := by decide +kernel
theorem dX8_readText_14 : decode cX8_readText 14 = .ok (.ifCond .eq 14, 3) := by decide +kernel
theorem dX8_readText_17 : decode cX8_readText 17 = .ok (.aload_n 0, 1) := by decide +kernel
theorem dX8_readText_18 : decode cX8_readText 18 = .ok (.getfield 7, 3) := by decide +kernel
theorem dX8_readText_21 : decode cX8_readText 21 = .ok (.iconst 0, 1) := by decide +kernel
theorem dX8_readText_22 : decode cX8_readText 22 = .ok (.iaload, 1) := by decide +kernel
theorem dX8_readText_23 : decode cX8_readText 23 = .ok (.bipush 72, 2) := by decide +kernel
theorem dX8_readText_25 : decode cX8_readText 25 = .ok (.if_icmp .eq 5, 3) := by decide +kernel
theorem dX8_readText_28 : decode cX8_readText 28 = .ok (.iconst 0, 1) := by decide +kernel
theorem dX8_readText_29 : decode cX8_readText 29 = .ok (.ireturn, 1) := by decide +kernel
theorem dX8_readText_30 : decode cX8_readText 30 = .ok (.iconst 1, 1) := by decide +kernel
theorem dX8_readText_31 : decode cX8_readText 31 = .ok (.istore_n 1, 1) := by decide +kernel
theorem dX8_readText_32 : decode cX8_readText 32 = .ok (.iload_n 1, 1) := by decide +kernel
theorem dX8_readText_33 : decode cX8_readText 33 = .ok (.aload_n 0, 1) := by decide +kernel
theorem dX8_readText_34 : decode cX8_readText 34 = .ok (.getfield 75, 3) := by decide +kernel
theorem dX8_readText_37 : decode cX8_readText 37 = .ok (.if_icmp .ge 50, 3) := by decide +kernel
theorem dX8_readText_40 : decode cX8_readText 40 = .ok (.iload_n 1, 1) := by decide +kernel
theorem dX8_readText_41 : decode cX8_readText 41 = .ok (.bipush 18, 2) := by decide +kernel
theorem dX8_readText_43 : decode cX8_readText 43 = .ok (.if_icmp .ge 23, 3) := by decide +kernel
theorem dX8_readText_46 : decode cX8_readText 46 = .ok (.aload_n 0, 1) := by decide +kernel
theorem dX8_readText_47 : decode cX8_readText 47 = .ok (.iload_n 1, 1) := by decide +kernel
theorem dX8_readText_48 : decode cX8_readText 48 = .ok (.aload_n 0, 1) := by decide +kernel
theorem dX8_readText_49 : decode cX8_readText 49 = .ok (.getfield 7, 3) := by decide +kernel
theorem dX8_readText_52 : decode cX8_readText 52 = .ok (.iload_n 1, 1) := by decide +kernel
theorem dX8_readText_53 : decode cX8_readText 53 = .ok (.iaload, 1) := by decide +kernel
theorem dX8_readText_54 : decode cX8_readText 54 = .ok (.bipush 48, 2) := by decide +kernel
theorem dX8_readText_56 : decode cX8_readText 56 = .ok (.isub, 1) := by decide +kernel
theorem dX8_readText_57 : decode cX8_readText 57 = .ok (.invokevirtual 99, 3) := by decide +kernel
theorem dX8_readText_60 : decode cX8_readText 60 = .ok (.ifCond .eq 19, 3) := by decide +kernel
theorem dX8_readText_63 : decode cX8_readText 63 = .ok (.goto 18, 3) := by decide +kernel
theorem dX8_readText_66 : decode cX8_readText 66 = .ok (.aload_n 0, 1) := by decide +kernel
theorem dX8_readText_67 : decode cX8_readText 67 = .ok (.aload_n 0, 1) := by decide +kernel
theorem dX8_readText_68 : decode cX8_readText 68 = .ok (.getfield 7, 3) := by decide +kernel
theorem dX8_readText_71 : decode cX8_readText 71 = .ok (.iload_n 1, 1) := by decide +kernel
theorem dX8_readText_72 : decode cX8_readText 72 = .ok (.iaload, 1) := by decide +kernel
theorem dX8_readText_73 : decode cX8_readText 73 = .ok (.invokevirtual 103, 3) := by decide +kernel
theorem dX8_readText_76 : decode cX8_readText 76 = .ok (.ifCond .ne 5, 3) := by decide +kernel
theorem dX8_readText_79 : decode cX8_readText 79 = .ok (.iload_n 1, 1) := by decide +kernel
theorem dX8_readText_80 : decode cX8_readText 80 = .ok (.ireturn, 1) := by decide +kernel
theorem dX8_readText_81 : decode cX8_readText 81 = .ok (.iinc 1 1, 3) := by decide +kernel
theorem dX8_readText_84 : decode cX8_readText 84 = .ok (.goto (-52), 3) := by decide +kernel
theorem dX8_readText_87 : decode cX8_readText 87 = .ok (.aload_n 0, 1) := by decide +kernel
theorem dX8_readText_88 : decode cX8_readText 88 = .ok (.getfield 75, 3) := by decide +kernel
theorem dX8_readText_91 : decode cX8_readText 91 = .ok (.bipush 17, 2) := by decide +kernel
theorem dX8_readText_93 : decode cX8_readText 93 = .ok (.if_icmp .le 15, 3) := by decide +kernel
theorem dX8_readText_96 : decode cX8_readText 96 = .ok (.aload_n 0, 1) := by decide +kernel
theorem dX8_readText_97 : decode cX8_readText 97 = .ok (.getfield 93, 3) := by decide +kernel
theorem dX8_readText_100 : decode cX8_readText 100 = .ok (.ifCond .ge 8, 3) := by decide +kernel
theorem dX8_readText_103 : decode cX8_readText 103 = .ok (.bipush (-9), 2) := by decide +kernel
theorem dX8_readText_105 : decode cX8_readText 105 = .ok (.goto 7, 3) := by decide +kernel
theorem dX8_readText_108 : decode cX8_readText 108 = .ok (.aload_n 0, 1) := by decide +kernel
theorem dX8_readText_109 : decode cX8_readText 109 = .ok (.getfield 75, 3) := by decide +kernel
theorem dX8_readText_112 : decode cX8_readText 112 = .ok (.ireturn, 1) := by decide +kernel
theorem dX8_fault_0 : decode cX8_fault 0 = .ok (.aload_n 0, 1) := by decide +kernel
theorem dX8_fault_1 : decode cX8_fault 1 = .ok (.invokevirtual 107, 3) := by decide +kernel
theorem dX8_fault_4 : decode cX8_fault 4 = .ok (.ireturn, 1) := by decide +kernel
theorem dX8_job_0 : decode cX8_job 0 = .ok (.aload_n 0, 1) := by decide +kernel
theorem dX8_job_1 : decode cX8_job 1 = .ok (.invokevirtual 107, 3) := by decide +kernel
theorem dX8_job_4 : decode cX8_job 4 = .ok (.bipush (-9), 2) := by decide +kernel
theorem dX8_job_6 : decode cX8_job 6 = .ok (.if_icmp .eq 6, 3) := by decide +kernel
theorem dX8_job_9 : decode cX8_job 9 = .ok (.bipush (-3), 2) := by decide +kernel
theorem dX8_job_11 : decode cX8_job 11 = .ok (.ireturn, 1) := by decide +kernel
theorem dX8_job_12 : decode cX8_job 12 = .ok (.iconst 0, 1) := by decide +kernel
theorem dX8_job_13 : decode cX8_job 13 = .ok (.istore_n 1, 1) := by decide +kernel
theorem dX8_job_14 : decode cX8_job 14 = .ok (.iload_n 1, 1) := by decide +kernel
theorem dX8_job_15 : decode cX8_job 15 = .ok (.bipush 30, 2) := by decide +kernel
theorem dX8_job_17 : decode cX8_job 17 = .ok (.if_icmp .ge 16, 3) := by decide +kernel
theorem dX8_job_20 : decode cX8_job 20 = .ok (.aload_n 0, 1) := by decide +kernel
theorem dX8_job_21 : decode cX8_job 21 = .ok (.getfield 13, 3) := by decide +kernel
theorem dX8_job_24 : decode cX8_job 24 = .ok (.iload_n 1, 1) := by decide +kernel
theorem dX8_job_25 : decode cX8_job 25 = .ok (.iconst 0, 1) := by decide +kernel
theorem dX8_job_26 : decode cX8_job 26 = .ok (.iastore, 1) := by decide +kernel
theorem dX8_job_27 : decode cX8_job 27 = .ok (.iinc 1 1, 3) := by decide +kernel
theorem dX8_job_30 : decode cX8_job 30 = .ok (.goto (-16), 3) := by decide +kernel
theorem dX8_job_33 : decode cX8_job 33 = .ok (.aload_n 0, 1) := by decide +kernel
theorem dX8_job_34 : decode cX8_job 34 = .ok (.aload_n 0, 1) := by decide +kernel
theorem dX8_job_35 : decode cX8_job 35 = .ok (.getfield 78, 3) := by decide +kernel
theorem dX8_job_38 : decode cX8_job 38 = .ok (.putfield 59, 3) := by decide +kernel
theorem dX8_job_41 : decode cX8_job 41 = .ok (.aload_n 0, 1) := by decide +kernel
theorem dX8_job_42 : decode cX8_job 42 = .ok (.aload_n 0, 1) := by decide +kernel
theorem dX8_job_43 : decode cX8_job 43 = .ok (.getfield 83, 3) := by decide +kernel
theorem dX8_job_46 : decode cX8_job 46 = .ok (.putfield 63, 3) := by decide +kernel
theorem dX8_job_49 : decode cX8_job 49 = .ok (.aload_n 0, 1) := by decide +kernel
theorem dX8_job_50 : decode cX8_job 50 = .ok (.aload_n 0, 1) := by decide +kernel
theorem dX8_job_51 : decode cX8_job 51 = .ok (.getfield 88, 3) := by decide +kernel
theorem dX8_job_54 : decode cX8_job 54 = .ok (.putfield 66, 3) := by decide +kernel
theorem dX8_job_57 : decode cX8_job 57 = .ok (.aload_n 0, 1) := by decide +kernel
theorem dX8_job_58 : decode cX8_job 58 = .ok (.aload_n 0, 1) := by decide +kernel
theorem dX8_job_59 : decode cX8_job 59 = .ok (.getfield 50, 3) := by decide +kernel
theorem dX8_job_62 : decode cX8_job 62 = .ok (.iconst 0, 1) := by decide +kernel
theorem dX8_job_63 : decode cX8_job 63 = .ok (.iaload, 1) := by decide +kernel
theorem dX8_job_64 : decode cX8_job 64 = .ok (.putfield 111, 3) := by decide +kernel
theorem dX8_job_67 : decode cX8_job 67 = .ok (.aload_n 0, 1) := by decide +kernel
theorem dX8_job_68 : decode cX8_job 68 = .ok (.aload_n 0, 1) := by decide +kernel
theorem dX8_job_69 : decode cX8_job 69 = .ok (.getfield 50, 3) := by decide +kernel
theorem dX8_job_72 : decode cX8_job 72 = .ok (.iconst 1, 1) := by decide +kernel
theorem dX8_job_73 : decode cX8_job 73 = .ok (.iaload, 1) := by decide +kernel
theorem dX8_job_74 : decode cX8_job 74 = .ok (.putfield 114, 3) := by decide +kernel
theorem dX8_job_77 : decode cX8_job 77 = .ok (.aload_n 0, 1) := by decide +kernel
theorem dX8_job_78 : decode cX8_job 78 = .ok (.aload_n 0, 1) := by decide +kernel
theorem dX8_job_79 : decode cX8_job 79 = .ok (.getfield 50, 3) := by decide +kernel
theorem dX8_job_82 : decode cX8_job 82 = .ok (.iconst 2, 1) := by decide +kernel
theorem dX8_job_83 : decode cX8_job 83 = .ok (.iaload, 1) := by decide +kernel
theorem dX8_job_84 : decode cX8_job 84 = .ok (.putfield 117, 3) := by decide +kernel
theorem dX8_job_87 : decode cX8_job 87 = .ok (.iconst 0, 1) := by decide +kernel
theorem dX8_job_88 : decode cX8_job 88 = .ok (.istore_n 1, 1) := by decide +kernel
theorem dX8_job_89 : decode cX8_job 89 = .ok (.iload_n 1, 1) := by decide +kernel
theorem dX8_job_90 : decode cX8_job 90 = .ok (.iconst 5, 1) := by decide +kernel
theorem dX8_job_91 : decode cX8_job 91 = .ok (.if_icmp .ge 24, 3) := by decide +kernel
theorem dX8_job_94 : decode cX8_job 94 = .ok (.aload_n 0, 1) := by decide +kernel
theorem dX8_job_95 : decode cX8_job 95 = .ok (.getfield 13, 3) := by decide +kernel
theorem dX8_job_98 : decode cX8_job 98 = .ok (.bipush 8, 2) := by decide +kernel
theorem dX8_job_100 : decode cX8_job 100 = .ok (.iload_n 1, 1) := by decide +kernel
theorem dX8_job_101 : decode cX8_job 101 = .ok (.iadd, 1) := by decide +kernel
theorem dX8_job_102 : decode cX8_job 102 = .ok (.aload_n 0, 1) := by decide +kernel
theorem dX8_job_103 : decode cX8_job 103 = .ok (.getfield 53, 3) := by decide +kernel
theorem dX8_job_106 : decode cX8_job 106 = .ok (.iload_n 1, 1) := by decide +kernel
theorem dX8_job_107 : decode cX8_job 107 = .ok (.iaload, 1) := by decide +kernel
theorem dX8_job_108 : decode cX8_job 108 = .ok (.iastore, 1) := by decide +kernel
theorem dX8_job_109 : decode cX8_job 109 = .ok (.iinc 1 1, 3) := by decide +kernel
theorem dX8_job_112 : decode cX8_job 112 = .ok (.goto (-23), 3) := by decide +kernel
theorem dX8_job_115 : decode cX8_job 115 = .ok (.iconst 0, 1) := by decide +kernel
theorem dX8_job_116 : decode cX8_job 116 = .ok (.istore_n 1, 1) := by decide +kernel
theorem dX8_job_117 : decode cX8_job 117 = .ok (.iload_n 1, 1) := by decide +kernel
theorem dX8_job_118 : decode cX8_job 118 = .ok (.aload_n 0, 1) := by decide +kernel
theorem dX8_job_119 : decode cX8_job 119 = .ok (.getfield 96, 3) := by decide +kernel
theorem dX8_job_122 : decode cX8_job 122 = .ok (.if_icmp .ge 24, 3) := by decide +kernel
theorem dX8_job_125 : decode cX8_job 125 = .ok (.aload_n 0, 1) := by decide +kernel
theorem dX8_job_126 : decode cX8_job 126 = .ok (.getfield 13, 3) := by decide +kernel
theorem dX8_job_129 : decode cX8_job 129 = .ok (.bipush 13, 2) := by decide +kernel
theorem dX8_job_131 : decode cX8_job 131 = .ok (.iload_n 1, 1) := by decide +kernel
theorem dX8_job_132 : decode cX8_job 132 = .ok (.iadd, 1) := by decide +kernel
theorem dX8_job_133 : decode cX8_job 133 = .ok (.aload_n 0, 1) := by decide +kernel
theorem dX8_job_134 : decode cX8_job 134 = .ok (.getfield 56, 3) := by decide +kernel
theorem dX8_job_137 : decode cX8_job 137 = .ok (.iload_n 1, 1) := by decide +kernel
theorem dX8_job_138 : decode cX8_job 138 = .ok (.iaload, 1) := by decide +kernel
theorem dX8_job_139 : decode cX8_job 139 = .ok (.iastore, 1) := by decide +kernel
theorem dX8_job_140 : decode cX8_job 140 = .ok (.iinc 1 1, 3) := by decide +kernel
theorem dX8_job_143 : decode cX8_job 143 = .ok (.goto (-26), 3) := by decide +kernel
theorem dX8_job_146 : decode cX8_job 146 = .ok (.aload_n 0, 1) := by decide +kernel
theorem dX8_job_147 : decode cX8_job 147 = .ok (.getfield 13, 3) := by decide +kernel
theorem dX8_job_150 : decode cX8_job 150 = .ok (.bipush 21, 2) := by decide +kernel
theorem dX8_job_152 : decode cX8_job 152 = .ok (.aload_n 0, 1) := by decide +kernel
theorem dX8_job_153 : decode cX8_job 153 = .ok (.getfield 96, 3) := by decide +kernel
theorem dX8_job_156 : decode cX8_job 156 = .ok (.iastore, 1) := by decide +kernel
theorem dX8_job_157 : decode cX8_job 157 = .ok (.aload_n 0, 1) := by decide +kernel
theorem dX8_job_158 : decode cX8_job 158 = .ok (.getfield 13, 3) := by decide +kernel
theorem dX8_job_161 : decode cX8_job 161 = .ok (.bipush 24, 2) := by decide +kernel
theorem dX8_job_163 : decode cX8_job 163 = .ok (.bipush 99, 2) := by decide +kernel
theorem dX8_job_165 : decode cX8_job 165 = .ok (.iastore, 1) := by decide +kernel
theorem dX8_job_166 : decode cX8_job 166 = .ok (.aload_n 0, 1) := by decide +kernel
theorem dX8_job_167 : decode cX8_job 167 = .ok (.iconst 0, 1) := by decide +kernel
theorem dX8_job_168 : decode cX8_job 168 = .ok (.putfield 120, 3) := by decide +kernel
theorem dX8_job_171 : decode cX8_job 171 = .ok (.aload_n 0, 1) := by decide +kernel
theorem dX8_job_172 : decode cX8_job 172 = .ok (.getfield 25, 3) := by decide +kernel
theorem dX8_job_175 : decode cX8_job 175 = .ok (.iconst 0, 1) := by decide +kernel
theorem dX8_job_176 : decode cX8_job 176 = .ok (.iconst 0, 1) := by decide +kernel
theorem dX8_job_177 : decode cX8_job 177 = .ok (.bastore, 1) := by decide +kernel
theorem dX8_job_178 : decode cX8_job 178 = .ok (.aload_n 0, 1) := by decide +kernel
theorem dX8_job_179 : decode cX8_job 179 = .ok (.getfield 25, 3) := by decide +kernel
theorem dX8_job_182 : decode cX8_job 182 = .ok (.iconst 1, 1) := by decide +kernel
theorem dX8_job_183 : decode cX8_job 183 = .ok (.iconst 0, 1) := by decide +kernel
theorem dX8_job_184 : decode cX8_job 184 = .ok (.bastore, 1) := by decide +kernel
theorem dX8_job_185 : decode cX8_job 185 = .ok (.aload_n 0, 1) := by decide +kernel
theorem dX8_job_186 : decode cX8_job 186 = .ok (.getfield 96, 3) := by decide +kernel
theorem dX8_job_189 : decode cX8_job 189 = .ok (.ireturn, 1) := by decide +kernel
theorem dX8_coolOn_0 : decode cX8_coolOn 0 = .ok (.iconst 0, 1) := by decide +kernel
theorem dX8_coolOn_1 : decode cX8_coolOn 1 = .ok (.istore_n 2, 1) := by decide +kernel
theorem dX8_coolOn_2 : decode cX8_coolOn 2 = .ok (.iload_n 2, 1) := by decide +kernel
theorem dX8_coolOn_3 : decode cX8_coolOn 3 = .ok (.aload_n 0, 1) := by decide +kernel
theorem dX8_coolOn_4 : decode cX8_coolOn 4 = .ok (.getfield 59, 3) := by decide +kernel
theorem dX8_coolOn_7 : decode cX8_coolOn 7 = .ok (.if_icmp .ge 23, 3) := by decide +kernel
theorem dX8_coolOn_10 : decode cX8_coolOn 10 = .ok (.aload_n 1, 1) := by decide +kernel
theorem dX8_coolOn_11 : decode cX8_coolOn 11 = .ok (.iload_n 2, 1) := by decide +kernel
theorem dX8_coolOn_12 : decode cX8_coolOn 12 = .ok (.dup2, 1) := by decide +kernel
theorem dX8_coolOn_13 : decode cX8_coolOn 13 = .ok (.iaload, 1) := by decide +kernel
theorem dX8_coolOn_14 : decode cX8_coolOn 14 = .ok (.aload_n 1, 1) := by decide +kernel
theorem dX8_coolOn_15 : decode cX8_coolOn 15 = .ok (.iload_n 2, 1) := by decide +kernel
theorem dX8_coolOn_16 : decode cX8_coolOn 16 = .ok (.iaload, 1) := by decide +kernel
theorem dX8_coolOn_17 : decode cX8_coolOn 17 = .ok (.aload_n 0, 1) := by decide +kernel
theorem dX8_coolOn_18 : decode cX8_coolOn 18 = .ok (.getfield 63, 3) := by decide +kernel
theorem dX8_coolOn_21 : decode cX8_coolOn 21 = .ok (.ishr, 1) := by decide +kernel
theorem dX8_coolOn_22 : decode cX8_coolOn 22 = .ok (.isub, 1) := by decide +kernel
theorem dX8_coolOn_23 : decode cX8_coolOn 23 = .ok (.iastore, 1) := by decide +kernel
theorem dX8_coolOn_24 : decode cX8_coolOn 24 = .ok (.iinc 2 1, 3) := by decide +kernel
theorem dX8_coolOn_27 : decode cX8_coolOn 27 = .ok (.goto (-25), 3) := by decide +kernel
theorem dX8_coolOn_30 : decode cX8_coolOn 30 = .ok (.return_, 1) := by decide +kernel
theorem dX8_bit_0 : decode cX8_bit 0 = .ok (.iload_n 0, 1) := by decide +kernel
theorem dX8_bit_1 : decode cX8_bit 1 = .ok (.ifCond .eq 7, 3) := by decide +kernel
theorem dX8_bit_4 : decode cX8_bit 4 = .ok (.iconst 1, 1) := by decide +kernel
theorem dX8_bit_5 : decode cX8_bit 5 = .ok (.goto 4, 3) := by decide +kernel
theorem dX8_bit_8 : decode cX8_bit 8 = .ok (.iconst 0, 1) := by decide +kernel
theorem dX8_bit_9 : decode cX8_bit 9 = .ok (.ireturn, 1) := by decide +kernel
theorem dX8_layPulses_0 : decode cX8_layPulses 0 = .ok (.iconst 0, 1) := by decide +kernel
theorem dX8_layPulses_1 : decode cX8_layPulses 1 = .ok (.istore 5, 2) := by decide +kernel
theorem dX8_layPulses_3 : decode cX8_layPulses 3 = .ok (.iload 5, 2) := by decide +kernel
theorem dX8_layPulses_5 : decode cX8_layPulses 5 = .ok (.aload_n 0, 1) := by decide +kernel
theorem dX8_layPulses_6 : decode cX8_layPulses 6 = .ok (.getfield 59, 3) := by decide +kernel
theorem dX8_layPulses_9 : decode cX8_layPulses 9 = .ok (.if_icmp .ge 83, 3) := by decide +kernel
theorem dX8_layPulses_12 : decode cX8_layPulses 12 = .ok (.iload_n 2, 1) := by decide +kernel
theorem dX8_layPulses_13 : decode cX8_layPulses 13 = .ok (.iload 5, 2) := by decide +kernel
theorem dX8_layPulses_15 : decode cX8_layPulses 15 = .ok (.iconst 1, 1) := by decide +kernel
theorem dX8_layPulses_16 : decode cX8_layPulses 16 = .ok (.isub, 1) := by decide +kernel
theorem dX8_layPulses_17 : decode cX8_layPulses 17 = .ok (.invokestatic 123, 3) := by decide +kernel
theorem dX8_layPulses_20 : decode cX8_layPulses 20 = .ok (.invokestatic 126, 3) := by decide +kernel
theorem dX8_layPulses_23 : decode cX8_layPulses 23 = .ok (.iload_n 2, 1) := by decide +kernel
theorem dX8_layPulses_24 : decode cX8_layPulses 24 = .ok (.iload 5, 2) := by decide +kernel
theorem dX8_layPulses_26 : decode cX8_layPulses 26 = .ok (.iconst 1, 1) := by decide +kernel
theorem dX8_layPulses_27 : decode cX8_layPulses 27 = .ok (.iadd, 1) := by decide +kernel
theorem dX8_layPulses_28 : decode cX8_layPulses 28 = .ok (.invokestatic 123, 3) := by decide +kernel
theorem dX8_layPulses_31 : decode cX8_layPulses 31 = .ok (.invokestatic 126, 3) := by decide +kernel
theorem dX8_layPulses_34 : decode cX8_layPulses 34 = .ok (.iadd, 1) := by decide +kernel
theorem dX8_layPulses_35 : decode cX8_layPulses 35 = .ok (.iload_n 3, 1) := by decide +kernel
theorem dX8_layPulses_36 : decode cX8_layPulses 36 = .ok (.iload 5, 2) := by decide +kernel
theorem dX8_layPulses_38 : decode cX8_layPulses 38 = .ok (.invokestatic 123, 3) := by decide +kernel
theorem dX8_layPulses_41 : decode cX8_layPulses 41 = .ok (.invokestatic 126, 3) := by decide +kernel
theorem dX8_layPulses_44 : decode cX8_layPulses 44 = .ok (.iadd, 1) := by decide +kernel
theorem dX8_layPulses_45 : decode cX8_layPulses 45 = .ok (.iload 4, 2) := by decide +kernel
theorem dX8_layPulses_47 : decode cX8_layPulses 47 = .ok (.iload 5, 2) := by decide +kernel
theorem dX8_layPulses_49 : decode cX8_layPulses 49 = .ok (.invokestatic 123, 3) := by decide +kernel
theorem dX8_layPulses_52 : decode cX8_layPulses 52 = .ok (.invokestatic 126, 3) := by decide +kernel
theorem dX8_layPulses_55 : decode cX8_layPulses 55 = .ok (.iadd, 1) := by decide +kernel
theorem dX8_layPulses_56 : decode cX8_layPulses 56 = .ok (.istore 6, 2) := by decide +kernel
theorem dX8_layPulses_58 : decode cX8_layPulses 58 = .ok (.aload_n 0, 1) := by decide +kernel
theorem dX8_layPulses_59 : decode cX8_layPulses 59 = .ok (.getfield 38, 3) := by decide +kernel
theorem dX8_layPulses_62 : decode cX8_layPulses 62 = .ok (.iload 5, 2) := by decide +kernel
theorem dX8_layPulses_64 : decode cX8_layPulses 64 = .ok (.iload_n 2, 1) := by decide +kernel
theorem dX8_layPulses_65 : decode cX8_layPulses 65 = .ok (.iload 5, 2) := by decide +kernel
theorem dX8_layPulses_67 : decode cX8_layPulses 67 = .ok (.invokestatic 123, 3) := by decide +kernel
theorem dX8_layPulses_70 : decode cX8_layPulses 70 = .ok (.ifCond .eq 13, 3) := by decide +kernel
theorem dX8_layPulses_73 : decode cX8_layPulses 73 = .ok (.aload_n 1, 1) := by decide +kernel
theorem dX8_layPulses_74 : decode cX8_layPulses 74 = .ok (.bipush 8, 2) := by decide +kernel
theorem dX8_layPulses_76 : decode cX8_layPulses 76 = .ok (.iload 6, 2) := by decide +kernel
theorem dX8_layPulses_78 : decode cX8_layPulses 78 = .ok (.iadd, 1) := by decide +kernel
theorem dX8_layPulses_79 : decode cX8_layPulses 79 = .ok (.iaload, 1) := by decide +kernel
theorem dX8_layPulses_80 : decode cX8_layPulses 80 = .ok (.goto 5, 3) := by decide +kernel
theorem dX8_layPulses_83 : decode cX8_layPulses 83 = .ok (.bipush (-9), 2) := by decide +kernel
theorem dX8_layPulses_85 : decode cX8_layPulses 85 = .ok (.iastore, 1) := by decide +kernel
theorem dX8_layPulses_86 : decode cX8_layPulses 86 = .ok (.iinc 5 1, 3) := by decide +kernel
theorem dX8_layPulses_89 : decode cX8_layPulses 89 = .ok (.goto (-86), 3) := by decide +kernel
theorem dX8_layPulses_92 : decode cX8_layPulses 92 = .ok (.return_, 1) := by decide +kernel
theorem dX8_heatOn_0 : decode cX8_heatOn 0 = .ok (.iconst 0, 1) := by decide +kernel
theorem dX8_heatOn_1 : decode cX8_heatOn 1 = .ok (.istore_n 2, 1) := by decide +kernel
theorem dX8_heatOn_2 : decode cX8_heatOn 2 = .ok (.iload_n 2, 1) := by decide +kernel
theorem dX8_heatOn_3 : decode cX8_heatOn 3 = .ok (.aload_n 0, 1) := by decide +kernel
theorem dX8_heatOn_4 : decode cX8_heatOn 4 = .ok (.getfield 59, 3) := by decide +kernel
theorem dX8_heatOn_7 : decode cX8_heatOn 7 = .ok (.if_icmp .ge 92, 3) := by decide +kernel
theorem dX8_heatOn_10 : decode cX8_heatOn 10 = .ok (.aload_n 0, 1) := by decide +kernel
theorem dX8_heatOn_11 : decode cX8_heatOn 11 = .ok (.getfield 38, 3) := by decide +kernel
theorem dX8_heatOn_14 : decode cX8_heatOn 14 = .ok (.iload_n 2, 1) := by decide +kernel
theorem dX8_heatOn_15 : decode cX8_heatOn 15 = .ok (.iaload, 1) := by decide +kernel
theorem dX8_heatOn_16 : decode cX8_heatOn 16 = .ok (.bipush (-9), 2) := by decide +kernel
theorem dX8_heatOn_18 : decode cX8_heatOn 18 = .ok (.if_icmp .eq 75, 3) := by decide +kernel
theorem dX8_heatOn_21 : decode cX8_heatOn 21 = .ok (.aload_n 0, 1) := by decide +kernel
theorem dX8_heatOn_22 : decode cX8_heatOn 22 = .ok (.getfield 130, 3) := by decide +kernel
theorem dX8_heatOn_25 : decode cX8_heatOn 25 = .ok (.iload_n 2, 1) := by decide +kernel
theorem dX8_heatOn_26 : decode cX8_heatOn 26 = .ok (.invokestatic 123, 3) := by decide +kernel
theorem dX8_heatOn_29 : decode cX8_heatOn 29 = .ok (.ifCond .ne 64, 3) := by decide +kernel
theorem dX8_heatOn_32 : decode cX8_heatOn 32 = .ok (.aload_n 1, 1) := by decide +kernel
theorem dX8_heatOn_33 : decode cX8_heatOn 33 = .ok (.iload_n 2, 1) := by decide +kernel
theorem dX8_heatOn_34 : decode cX8_heatOn 34 = .ok (.dup2, 1) := by decide +kernel
theorem dX8_heatOn_35 : decode cX8_heatOn 35 = .ok (.iaload, 1) := by decide +kernel
theorem dX8_heatOn_36 : decode cX8_heatOn 36 = .ok (.bipush 10, 2) := by decide +kernel
theorem dX8_heatOn_38 : decode cX8_heatOn 38 = .ok (.aload_n 0, 1) := by decide +kernel
theorem dX8_heatOn_39 : decode cX8_heatOn 39 = .ok (.getfield 38, 3) := by decide +kernel
theorem dX8_heatOn_42 : decode cX8_heatOn 42 = .ok (.iload_n 2, 1) := by decide +kernel
theorem dX8_heatOn_43 : decode cX8_heatOn 43 = .ok (.iaload, 1) := by decide +kernel
theorem dX8_heatOn_44 : decode cX8_heatOn 44 = .ok (.imul, 1) := by decide +kernel
theorem dX8_heatOn_45 : decode cX8_heatOn 45 = .ok (.iadd, 1) := by decide +kernel
theorem dX8_heatOn_46 : decode cX8_heatOn 46 = .ok (.iastore, 1) := by decide +kernel
theorem dX8_heatOn_47 : decode cX8_heatOn 47 = .ok (.iload_n 2, 1) := by decide +kernel
theorem dX8_heatOn_48 : decode cX8_heatOn 48 = .ok (.ifCond .le 19, 3) := by decide +kernel
theorem dX8_heatOn_51 : decode cX8_heatOn 51 = .ok (.aload_n 1, 1) := by decide +kernel
theorem dX8_heatOn_52 : decode cX8_heatOn 52 = .ok (.iload_n 2, 1) := by decide +kernel
theorem dX8_heatOn_53 : decode cX8_heatOn 53 = .ok (.iconst 1, 1) := by decide +kernel
theorem dX8_heatOn_54 : decode cX8_heatOn 54 = .ok (.isub, 1) := by decide +kernel
theorem dX8_heatOn_55 : decode cX8_heatOn 55 = .ok (.dup2, 1) := by decide +kernel
theorem dX8_heatOn_56 : decode cX8_heatOn 56 = .ok (.iaload, 1) := by decide +kernel
theorem dX8_heatOn_57 : decode cX8_heatOn 57 = .ok (.iconst 2, 1) := by decide +kernel
theorem dX8_heatOn_58 : decode cX8_heatOn 58 = .ok (.aload_n 0, 1) := by decide +kernel
theorem dX8_heatOn_59 : decode cX8_heatOn 59 = .ok (.getfield 38, 3) := by decide +kernel
theorem dX8_heatOn_62 : decode cX8_heatOn 62 = .ok (.iload_n 2, 1) := by decide +kernel
theorem dX8_heatOn_63 : decode cX8_heatOn 63 = .ok (.iaload, 1) := by decide +kernel
theorem dX8_heatOn_64 : decode cX8_heatOn 64 = .ok (.imul, 1) := by decide +kernel
theorem dX8_heatOn_65 : decode cX8_heatOn 65 = .ok (.iadd, 1) := by decide +kernel
theorem dX8_heatOn_66 : decode cX8_heatOn 66 = .ok (.iastore, 1) := by decide +kernel
theorem dX8_heatOn_67 : decode cX8_heatOn 67 = .ok (.iload_n 2, 1) := by decide +kernel
theorem dX8_heatOn_68 : decode cX8_heatOn 68 = .ok (.iconst 1, 1) := by decide +kernel
theorem dX8_heatOn_69 : decode cX8_heatOn 69 = .ok (.iadd, 1) := by decide +kernel
theorem dX8_heatOn_70 : decode cX8_heatOn 70 = .ok (.aload_n 0, 1) := by decide +kernel
theorem dX8_heatOn_71 : decode cX8_heatOn 71 = .ok (.getfield 59, 3) := by decide +kernel
theorem dX8_heatOn_74 : decode cX8_heatOn 74 = .ok (.if_icmp .ge 19, 3) := by decide +kernel
theorem dX8_heatOn_77 : decode cX8_heatOn 77 = .ok (.aload_n 1, 1) := by decide +kernel
theorem dX8_heatOn_78 : decode cX8_heatOn 78 = .ok (.iload_n 2, 1) := by decide +kernel
theorem dX8_heatOn_79 : decode cX8_heatOn 79 = .ok (.iconst 1, 1) := by decide +kernel
theorem dX8_heatOn_80 : decode cX8_heatOn 80 = .ok (.iadd, 1) := by decide +kernel
theorem dX8_heatOn_81 : decode cX8_heatOn 81 = .ok (.dup2, 1) := by decide +kernel
theorem dX8_heatOn_82 : decode cX8_heatOn 82 = .ok (.iaload, 1) := by decide +kernel
theorem dX8_heatOn_83 : decode cX8_heatOn 83 = .ok (.iconst 2, 1) := by decide +kernel
theorem dX8_heatOn_84 : decode cX8_heatOn 84 = .ok (.aload_n 0, 1) := by decide +kernel
theorem dX8_heatOn_85 : decode cX8_heatOn 85 = .ok (.getfield 38, 3) := by decide +kernel
theorem dX8_heatOn_88 : decode cX8_heatOn 88 = .ok (.iload_n 2, 1) := by decide +kernel
theorem dX8_heatOn_89 : decode cX8_heatOn 89 = .ok (.iaload, 1) := by decide +kernel
theorem dX8_heatOn_90 : decode cX8_heatOn 90 = .ok (.imul, 1) := by decide +kernel
theorem dX8_heatOn_91 : decode cX8_heatOn 91 = .ok (.iadd, 1) := by decide +kernel
theorem dX8_heatOn_92 : decode cX8_heatOn 92 = .ok (.iastore, 1) := by decide +kernel
theorem dX8_heatOn_93 : decode cX8_heatOn 93 = .ok (.iinc 2 1, 3) := by decide +kernel
theorem dX8_heatOn_96 : decode cX8_heatOn 96 = .ok (.goto (-94), 3) := by decide +kernel
theorem dX8_heatOn_99 : decode cX8_heatOn 99 = .ok (.iconst 0, 1) := by decide +kernel
theorem dX8_heatOn_100 : decode cX8_heatOn 100 = .ok (.istore_n 2, 1) := by decide +kernel
theorem dX8_heatOn_101 : decode cX8_heatOn 101 = .ok (.iload_n 2, 1) := by decide +kernel
theorem dX8_heatOn_102 : decode cX8_heatOn 102 = .ok (.aload_n 0, 1) := by decide +kernel
theorem dX8_heatOn_103 : decode cX8_heatOn 103 = .ok (.getfield 59, 3) := by decide +kernel
theorem dX8_heatOn_106 : decode cX8_heatOn 106 = .ok (.if_icmp .ge 30, 3) := by decide +kernel
theorem dX8_heatOn_109 : decode cX8_heatOn 109 = .ok (.aload_n 1, 1) := by decide +kernel
theorem dX8_heatOn_110 : decode cX8_heatOn 110 = .ok (.iload_n 2, 1) := by decide +kernel
theorem dX8_heatOn_111 : decode cX8_heatOn 111 = .ok (.aload_n 1, 1) := by decide +kernel
theorem dX8_heatOn_112 : decode cX8_heatOn 112 = .ok (.iload_n 2, 1) := by decide +kernel
theorem dX8_heatOn_113 : decode cX8_heatOn 113 = .ok (.iaload, 1) := by decide +kernel
theorem dX8_heatOn_114 : decode cX8_heatOn 114 = .ok (.sipush 999, 3) := by decide +kernel
theorem dX8_heatOn_117 : decode cX8_heatOn 117 = .ok (.if_icmp .le 9, 3) := by decide +kernel
theorem dX8_heatOn_120 : decode cX8_heatOn 120 = .ok (.sipush 999, 3) := by decide +kernel
theorem dX8_heatOn_123 : decode cX8_heatOn 123 = .ok (.goto 6, 3) := by decide +kernel
theorem dX8_heatOn_126 : decode cX8_heatOn 126 = .ok (.aload_n 1, 1) := by decide +kernel
theorem dX8_heatOn_127 : decode cX8_heatOn 127 = .ok (.iload_n 2, 1) := by decide +kernel
theorem dX8_heatOn_128 : decode cX8_heatOn 128 = .ok (.iaload, 1) := by decide +kernel
theorem dX8_heatOn_129 : decode cX8_heatOn 129 = .ok (.iastore, 1) := by decide +kernel
theorem dX8_heatOn_130 : decode cX8_heatOn 130 = .ok (.iinc 2 1, 3) := by decide +kernel
theorem dX8_heatOn_133 : decode cX8_heatOn 133 = .ok (.goto (-32), 3) := by decide +kernel
theorem dX8_heatOn_136 : decode cX8_heatOn 136 = .ok (.return_, 1) := by decide +kernel
theorem dX8_markOn_0 : decode cX8_markOn 0 = .ok (.iconst 0, 1) := by decide +kernel
theorem dX8_markOn_1 : decode cX8_markOn 1 = .ok (.istore_n 3, 1) := by decide +kernel
theorem dX8_markOn_2 : decode cX8_markOn 2 = .ok (.iload_n 3, 1) := by decide +kernel
theorem dX8_markOn_3 : decode cX8_markOn 3 = .ok (.aload_n 0, 1) := by decide +kernel
theorem dX8_markOn_4 : decode cX8_markOn 4 = .ok (.getfield 59, 3) := by decide +kernel
theorem dX8_markOn_7 : decode cX8_markOn 7 = .ok (.if_icmp .ge 92, 3) := by decide +kernel
theorem dX8_markOn_10 : decode cX8_markOn 10 = .ok (.iload_n 2, 1) := by decide +kernel
theorem dX8_markOn_11 : decode cX8_markOn 11 = .ok (.iload_n 3, 1) := by decide +kernel
theorem dX8_markOn_12 : decode cX8_markOn 12 = .ok (.invokestatic 123, 3) := by decide +kernel
theorem dX8_markOn_15 : decode cX8_markOn 15 = .ok (.ifCond .ne 28, 3) := by decide +kernel
theorem dX8_markOn_18 : decode cX8_markOn 18 = .ok (.aload_n 1, 1) := by decide +kernel
theorem dX8_markOn_19 : decode cX8_markOn 19 = .ok (.bipush 28, 2) := by decide +kernel
theorem dX8_markOn_21 : decode cX8_markOn 21 = .ok (.dup2, 1) := by decide +kernel
theorem dX8_markOn_22 : decode cX8_markOn 22 = .ok (.iaload, 1) := by decide +kernel
theorem dX8_markOn_23 : decode cX8_markOn 23 = .ok (.aload_n 1, 1) := by decide +kernel
theorem dX8_markOn_24 : decode cX8_markOn 24 = .ok (.iload_n 3, 1) := by decide +kernel
theorem dX8_markOn_25 : decode cX8_markOn 25 = .ok (.iaload, 1) := by decide +kernel
theorem dX8_markOn_26 : decode cX8_markOn 26 = .ok (.aload_n 0, 1) := by decide +kernel
theorem dX8_markOn_27 : decode cX8_markOn 27 = .ok (.getfield 117, 3) := by decide +kernel
theorem dX8_markOn_30 : decode cX8_markOn 30 = .ok (.if_icmp .le 7, 3) := by decide +kernel
theorem dX8_markOn_33 : decode cX8_markOn 33 = .ok (.iconst 1, 1) := by decide +kernel
theorem dX8_markOn_34 : decode cX8_markOn 34 = .ok (.goto 4, 3) := by decide +kernel
theorem dX8_markOn_37 : decode cX8_markOn 37 = .ok (.iconst 0, 1) := by decide +kernel
theorem dX8_markOn_38 : decode cX8_markOn 38 = .ok (.iadd, 1) := by decide +kernel
theorem dX8_markOn_39 : decode cX8_markOn 39 = .ok (.iastore, 1) := by decide +kernel
theorem dX8_markOn_40 : decode cX8_markOn 40 = .ok (.goto 53, 3) := by decide +kernel
theorem dX8_markOn_43 : decode cX8_markOn 43 = .ok (.aload_n 1, 1) := by decide +kernel
theorem dX8_markOn_44 : decode cX8_markOn 44 = .ok (.iload_n 3, 1) := by decide +kernel
theorem dX8_markOn_45 : decode cX8_markOn 45 = .ok (.iaload, 1) := by decide +kernel
theorem dX8_markOn_46 : decode cX8_markOn 46 = .ok (.aload_n 0, 1) := by decide +kernel
theorem dX8_markOn_47 : decode cX8_markOn 47 = .ok (.getfield 111, 3) := by decide +kernel
theorem dX8_markOn_50 : decode cX8_markOn 50 = .ok (.if_icmp .ge 14, 3) := by decide +kernel
theorem dX8_markOn_53 : decode cX8_markOn 53 = .ok (.aload_n 1, 1) := by decide +kernel
theorem dX8_markOn_54 : decode cX8_markOn 54 = .ok (.bipush 26, 2) := by decide +kernel
theorem dX8_markOn_56 : decode cX8_markOn 56 = .ok (.dup2, 1) := by decide +kernel
theorem dX8_markOn_57 : decode cX8_markOn 57 = .ok (.iaload, 1) := by decide +kernel
theorem dX8_markOn_58 : decode cX8_markOn 58 = .ok (.iconst 1, 1) := by decide +kernel
theorem dX8_markOn_59 : decode cX8_markOn 59 = .ok (.iadd, 1) := by decide +kernel
theorem dX8_markOn_60 : decode cX8_markOn 60 = .ok (.iastore, 1) := by decide +kernel
theorem dX8_markOn_61 : decode cX8_markOn 61 = .ok (.goto 32, 3) := by decide +kernel
theorem dX8_markOn_64 : decode cX8_markOn 64 = .ok (.aload_n 1, 1) := by decide +kernel
theorem dX8_markOn_65 : decode cX8_markOn 65 = .ok (.iload_n 3, 1) := by decide +kernel
theorem dX8_markOn_66 : decode cX8_markOn 66 = .ok (.iaload, 1) := by decide +kernel
theorem dX8_markOn_67 : decode cX8_markOn 67 = .ok (.aload_n 0, 1) := by decide +kernel
theorem dX8_markOn_68 : decode cX8_markOn 68 = .ok (.getfield 114, 3) := by decide +kernel
theorem dX8_markOn_71 : decode cX8_markOn 71 = .ok (.if_icmp .le 14, 3) := by decide +kernel
theorem dX8_markOn_74 : decode cX8_markOn 74 = .ok (.aload_n 1, 1) := by decide +kernel
theorem dX8_markOn_75 : decode cX8_markOn 75 = .ok (.bipush 27, 2) := by decide +kernel
theorem dX8_markOn_77 : decode cX8_markOn 77 = .ok (.dup2, 1) := by decide +kernel
theorem dX8_markOn_78 : decode cX8_markOn 78 = .ok (.iaload, 1) := by decide +kernel
theorem dX8_markOn_79 : decode cX8_markOn 79 = .ok (.iconst 1, 1) := by decide +kernel
theorem dX8_markOn_80 : decode cX8_markOn 80 = .ok (.iadd, 1) := by decide +kernel
theorem dX8_markOn_81 : decode cX8_markOn 81 = .ok (.iastore, 1) := by decide +kernel
theorem dX8_markOn_82 : decode cX8_markOn 82 = .ok (.goto 11, 3) := by decide +kernel
theorem dX8_markOn_85 : decode cX8_markOn 85 = .ok (.aload_n 1, 1) := by decide +kernel
theorem dX8_markOn_86 : decode cX8_markOn 86 = .ok (.bipush 25, 2) := by decide +kernel
theorem dX8_markOn_88 : decode cX8_markOn 88 = .ok (.dup2, 1) := by decide +kernel
theorem dX8_markOn_89 : decode cX8_markOn 89 = .ok (.iaload, 1) := by decide +kernel
theorem dX8_markOn_90 : decode cX8_markOn 90 = .ok (.iconst 1, 1) := by decide +kernel
theorem dX8_markOn_91 : decode cX8_markOn 91 = .ok (.iadd, 1) := by decide +kernel
theorem dX8_markOn_92 : decode cX8_markOn 92 = .ok (.iastore, 1) := by decide +kernel
theorem dX8_markOn_93 : decode cX8_markOn 93 = .ok (.iinc 3 1, 3) := by decide +kernel
theorem dX8_markOn_96 : decode cX8_markOn 96 = .ok (.goto (-94), 3) := by decide +kernel
theorem dX8_markOn_99 : decode cX8_markOn 99 = .ok (.return_, 1) := by decide +kernel
theorem dX8_printOn_0 : decode cX8_printOn 0 = .ok (.aload_n 0, 1) := by decide +kernel
theorem dX8_printOn_1 : decode cX8_printOn 1 = .ok (.aload_n 1, 1) := by decide +kernel
theorem dX8_printOn_2 : decode cX8_printOn 2 = .ok (.invokevirtual 133, 3) := by decide +kernel
theorem dX8_printOn_5 : decode cX8_printOn 5 = .ok (.aload_n 0, 1) := by decide +kernel
theorem dX8_printOn_6 : decode cX8_printOn 6 = .ok (.aload_n 1, 1) := by decide +kernel
theorem dX8_printOn_7 : decode cX8_printOn 7 = .ok (.iload_n 2, 1) := by decide +kernel
theorem dX8_printOn_8 : decode cX8_printOn 8 = .ok (.aload_n 1, 1) := by decide +kernel
theorem dX8_printOn_9 : decode cX8_printOn 9 = .ok (.bipush 22, 2) := by decide +kernel
theorem dX8_printOn_11 : decode cX8_printOn 11 = .ok (.iaload, 1) := by decide +kernel
theorem dX8_printOn_12 : decode cX8_printOn 12 = .ok (.aload_n 1, 1) := by decide +kernel
theorem dX8_printOn_13 : decode cX8_printOn 13 = .ok (.bipush 23, 2) := by decide +kernel
theorem dX8_printOn_15 : decode cX8_printOn 15 = .ok (.iaload, 1) := by decide +kernel
theorem dX8_printOn_16 : decode cX8_printOn 16 = .ok (.invokevirtual 137, 3) := by decide +kernel
theorem dX8_printOn_19 : decode cX8_printOn 19 = .ok (.aload_n 0, 1) := by decide +kernel
theorem dX8_printOn_20 : decode cX8_printOn 20 = .ok (.aload_n 1, 1) := by decide +kernel
theorem dX8_printOn_21 : decode cX8_printOn 21 = .ok (.invokevirtual 141, 3) := by decide +kernel
theorem dX8_printOn_24 : decode cX8_printOn 24 = .ok (.aload_n 0, 1) := by decide +kernel
theorem dX8_printOn_25 : decode cX8_printOn 25 = .ok (.aload_n 1, 1) := by decide +kernel
theorem dX8_printOn_26 : decode cX8_printOn 26 = .ok (.iload_n 2, 1) := by decide +kernel
theorem dX8_printOn_27 : decode cX8_printOn 27 = .ok (.invokevirtual 144, 3) := by decide +kernel
theorem dX8_printOn_30 : decode cX8_printOn 30 = .ok (.aload_n 1, 1) := by decide +kernel
theorem dX8_printOn_31 : decode cX8_printOn 31 = .ok (.bipush 23, 2) := by decide +kernel
theorem dX8_printOn_33 : decode cX8_printOn 33 = .ok (.aload_n 1, 1) := by decide +kernel
theorem dX8_printOn_34 : decode cX8_printOn 34 = .ok (.bipush 22, 2) := by decide +kernel
theorem dX8_printOn_36 : decode cX8_printOn 36 = .ok (.iaload, 1) := by decide +kernel
theorem dX8_printOn_37 : decode cX8_printOn 37 = .ok (.iastore, 1) := by decide +kernel
theorem dX8_printOn_38 : decode cX8_printOn 38 = .ok (.aload_n 1, 1) := by decide +kernel
theorem dX8_printOn_39 : decode cX8_printOn 39 = .ok (.bipush 22, 2) := by decide +kernel
theorem dX8_printOn_41 : decode cX8_printOn 41 = .ok (.iload_n 2, 1) := by decide +kernel
theorem dX8_printOn_42 : decode cX8_printOn 42 = .ok (.iastore, 1) := by decide +kernel
theorem dX8_printOn_43 : decode cX8_printOn 43 = .ok (.aload_n 1, 1) := by decide +kernel
theorem dX8_printOn_44 : decode cX8_printOn 44 = .ok (.bipush 29, 2) := by decide +kernel
theorem dX8_printOn_46 : decode cX8_printOn 46 = .ok (.dup2, 1) := by decide +kernel
theorem dX8_printOn_47 : decode cX8_printOn 47 = .ok (.iaload, 1) := by decide +kernel
theorem dX8_printOn_48 : decode cX8_printOn 48 = .ok (.iconst 1, 1) := by decide +kernel
theorem dX8_printOn_49 : decode cX8_printOn 49 = .ok (.iadd, 1) := by decide +kernel
theorem dX8_printOn_50 : decode cX8_printOn 50 = .ok (.iastore, 1) := by decide +kernel
theorem dX8_printOn_51 : decode cX8_printOn 51 = .ok (.return_, 1) := by decide +kernel
theorem dX8_takeLine_0 : decode cX8_takeLine 0 = .ok (.aload_n 0, 1) := by decide +kernel
theorem dX8_takeLine_1 : decode cX8_takeLine 1 = .ok (.bipush 13, 2) := by decide +kernel
theorem dX8_takeLine_3 : decode cX8_takeLine 3 = .ok (.iaload, 1) := by decide +kernel
theorem dX8_takeLine_4 : decode cX8_takeLine 4 = .ok (.istore_n 1, 1) := by decide +kernel
theorem dX8_takeLine_5 : decode cX8_takeLine 5 = .ok (.aload_n 0, 1) := by decide +kernel
theorem dX8_takeLine_6 : decode cX8_takeLine 6 = .ok (.bipush 21, 2) := by decide +kernel
theorem dX8_takeLine_8 : decode cX8_takeLine 8 = .ok (.dup2, 1) := by decide +kernel
theorem dX8_takeLine_9 : decode cX8_takeLine 9 = .ok (.iaload, 1) := by decide +kernel
theorem dX8_takeLine_10 : decode cX8_takeLine 10 = .ok (.iconst 1, 1) := by decide +kernel
theorem dX8_takeLine_11 : decode cX8_takeLine 11 = .ok (.isub, 1) := by decide +kernel
theorem dX8_takeLine_12 : decode cX8_takeLine 12 = .ok (.iastore, 1) := by decide +kernel
theorem dX8_takeLine_13 : decode cX8_takeLine 13 = .ok (.iconst 0, 1) := by decide +kernel
theorem dX8_takeLine_14 : decode cX8_takeLine 14 = .ok (.istore_n 2, 1) := by decide +kernel
theorem dX8_takeLine_15 : decode cX8_takeLine 15 = .ok (.iload_n 2, 1) := by decide +kernel
theorem dX8_takeLine_16 : decode cX8_takeLine 16 = .ok (.aload_n 0, 1) := by decide +kernel
theorem dX8_takeLine_17 : decode cX8_takeLine 17 = .ok (.bipush 21, 2) := by decide +kernel
theorem dX8_takeLine_19 : decode cX8_takeLine 19 = .ok (.iaload, 1) := by decide +kernel
theorem dX8_takeLine_20 : decode cX8_takeLine 20 = .ok (.if_icmp .ge 23, 3) := by decide +kernel
theorem dX8_takeLine_23 : decode cX8_takeLine 23 = .ok (.aload_n 0, 1) := by decide +kernel
theorem dX8_takeLine_24 : decode cX8_takeLine 24 = .ok (.bipush 13, 2) := by decide +kernel
theorem dX8_takeLine_26 : decode cX8_takeLine 26 = .ok (.iload_n 2, 1) := by decide +kernel
theorem dX8_takeLine_27 : decode cX8_takeLine 27 = .ok (.iadd, 1) := by decide +kernel
theorem dX8_takeLine_28 : decode cX8_takeLine 28 = .ok (.aload_n 0, 1) := by decide +kernel
theorem dX8_takeLine_29 : decode cX8_takeLine 29 = .ok (.bipush 13, 2) := by decide +kernel
theorem dX8_takeLine_31 : decode cX8_takeLine 31 = .ok (.iload_n 2, 1) := by decide +kernel
theorem dX8_takeLine_32 : decode cX8_takeLine 32 = .ok (.iadd, 1) := by decide +kernel
theorem dX8_takeLine_33 : decode cX8_takeLine 33 = .ok (.iconst 1, 1) := by decide +kernel
theorem dX8_takeLine_34 : decode cX8_takeLine 34 = .ok (.iadd, 1) := by decide +kernel
theorem dX8_takeLine_35 : decode cX8_takeLine 35 = .ok (.iaload, 1) := by decide +kernel
theorem dX8_takeLine_36 : decode cX8_takeLine 36 = .ok (.iastore, 1) := by decide +kernel
theorem dX8_takeLine_37 : decode cX8_takeLine 37 = .ok (.iinc 2 1, 3) := by decide +kernel
theorem dX8_takeLine_40 : decode cX8_takeLine 40 = .ok (.goto (-25), 3) := by decide +kernel
theorem dX8_takeLine_43 : decode cX8_takeLine 43 = .ok (.aload_n 0, 1) := by decide +kernel
theorem dX8_takeLine_44 : decode cX8_takeLine 44 = .ok (.bipush 13, 2) := by decide +kernel
theorem dX8_takeLine_46 : decode cX8_takeLine 46 = .ok (.aload_n 0, 1) := by decide +kernel
theorem dX8_takeLine_47 : decode cX8_takeLine 47 = .ok (.bipush 21, 2) := by decide +kernel
theorem dX8_takeLine_49 : decode cX8_takeLine 49 = .ok (.iaload, 1) := by decide +kernel
theorem dX8_takeLine_50 : decode cX8_takeLine 50 = .ok (.iadd, 1) := by decide +kernel
theorem dX8_takeLine_51 : decode cX8_takeLine 51 = .ok (.iconst 0, 1) := by decide +kernel
theorem dX8_takeLine_52 : decode cX8_takeLine 52 = .ok (.iastore, 1) := by decide +kernel
theorem dX8_takeLine_53 : decode cX8_takeLine 53 = .ok (.iload_n 1, 1) := by decide +kernel
theorem dX8_takeLine_54 : decode cX8_takeLine 54 = .ok (.ireturn, 1) := by decide +kernel
theorem dX8_printLines_0 : decode cX8_printLines 0 = .ok (.iconst 0, 1) := by decide +kernel
theorem dX8_printLines_1 : decode cX8_printLines 1 = .ok (.istore_n 3, 1) := by decide +kernel
theorem dX8_printLines_2 : decode cX8_printLines 2 = .ok (.iload_n 3, 1) := by decide +kernel
theorem dX8_printLines_3 : decode cX8_printLines 3 = .ok (.iload_n 2, 1) := by decide +kernel
theorem dX8_printLines_4 : decode cX8_printLines 4 = .ok (.if_icmp .ge 60, 3) := by decide +kernel
theorem dX8_printLines_7 : decode cX8_printLines 7 = .ok (.aload_n 1, 1) := by decide +kernel
theorem dX8_printLines_8 : decode cX8_printLines 8 = .ok (.bipush 21, 2) := by decide +kernel
theorem dX8_printLines_10 : decode cX8_printLines 10 = .ok (.iaload, 1) := by decide +kernel
theorem dX8_printLines_11 : decode cX8_printLines 11 = .ok (.ifCond .le 53, 3) := by decide +kernel
theorem dX8_printLines_14 : decode cX8_printLines 14 = .ok (.aload_n 1, 1) := by decide +kernel
theorem dX8_printLines_15 : decode cX8_printLines 15 = .ok (.bipush 24, 2) := by decide +kernel
theorem dX8_printLines_17 : decode cX8_printLines 17 = .ok (.iaload, 1) := by decide +kernel
theorem dX8_printLines_18 : decode cX8_printLines 18 = .ok (.ifCond .gt 10, 3) := by decide +kernel
theorem dX8_printLines_21 : decode cX8_printLines 21 = .ok (.aload_n 1, 1) := by decide +kernel
theorem dX8_printLines_22 : decode cX8_printLines 22 = .ok (.bipush 13, 2) := by decide +kernel
theorem dX8_printLines_24 : decode cX8_printLines 24 = .ok (.iaload, 1) := by decide +kernel
theorem dX8_printLines_25 : decode cX8_printLines 25 = .ok (.ifCond .ne 39, 3) := by decide +kernel
theorem dX8_printLines_28 : decode cX8_printLines 28 = .ok (.aload_n 1, 1) := by decide +kernel
theorem dX8_printLines_29 : decode cX8_printLines 29 = .ok (.invokestatic 148, 3) := by decide +kernel
theorem dX8_printLines_32 : decode cX8_printLines 32 = .ok (.istore 4, 2) := by decide +kernel
theorem dX8_printLines_34 : decode cX8_printLines 34 = .ok (.aload_n 0, 1) := by decide +kernel
theorem dX8_printLines_35 : decode cX8_printLines 35 = .ok (.aload_n 1, 1) := by decide +kernel
theorem dX8_printLines_36 : decode cX8_printLines 36 = .ok (.iload 4, 2) := by decide +kernel
theorem dX8_printLines_38 : decode cX8_printLines 38 = .ok (.invokevirtual 152, 3) := by decide +kernel
theorem dX8_printLines_41 : decode cX8_printLines 41 = .ok (.aload_n 1, 1) := by decide +kernel
theorem dX8_printLines_42 : decode cX8_printLines 42 = .ok (.bipush 24, 2) := by decide +kernel
theorem dX8_printLines_44 : decode cX8_printLines 44 = .ok (.dup2, 1) := by decide +kernel
theorem dX8_printLines_45 : decode cX8_printLines 45 = .ok (.iaload, 1) := by decide +kernel
theorem dX8_printLines_46 : decode cX8_printLines 46 = .ok (.iload 4, 2) := by decide +kernel
theorem dX8_printLines_48 : decode cX8_printLines 48 = .ok (.ifCond .eq 7, 3) := by decide +kernel
theorem dX8_printLines_51 : decode cX8_printLines 51 = .ok (.iconst 1, 1) := by decide +kernel
theorem dX8_printLines_52 : decode cX8_printLines 52 = .ok (.goto 4, 3) := by decide +kernel
theorem dX8_printLines_55 : decode cX8_printLines 55 = .ok (.iconst 0, 1) := by decide +kernel
theorem dX8_printLines_56 : decode cX8_printLines 56 = .ok (.isub, 1) := by decide +kernel
theorem dX8_printLines_57 : decode cX8_printLines 57 = .ok (.iastore, 1) := by decide +kernel
theorem dX8_printLines_58 : decode cX8_printLines 58 = .ok (.iinc 3 1, 3) := by decide +kernel
theorem dX8_printLines_61 : decode cX8_printLines 61 = .ok (.goto (-59), 3) := by decide +kernel
theorem dX8_printLines_64 : decode cX8_printLines 64 = .ok (.iload_n 3, 1) := by decide +kernel
theorem dX8_printLines_65 : decode cX8_printLines 65 = .ok (.ireturn, 1) := by decide +kernel
theorem dX8_rightOfAll_0 : decode cX8_rightOfAll 0 = .ok (.aload_n 0, 1) := by decide +kernel
theorem dX8_rightOfAll_1 : decode cX8_rightOfAll 1 = .ok (.getfield 16, 3) := by decide +kernel
theorem dX8_rightOfAll_4 : decode cX8_rightOfAll 4 = .ok (.bipush 25, 2) := by decide +kernel
theorem dX8_rightOfAll_6 : decode cX8_rightOfAll 6 = .ok (.iaload, 1) := by decide +kernel
theorem dX8_rightOfAll_7 : decode cX8_rightOfAll 7 = .ok (.istore_n 1, 1) := by decide +kernel
theorem dX8_rightOfAll_8 : decode cX8_rightOfAll 8 = .ok (.aload_n 0, 1) := by decide +kernel
theorem dX8_rightOfAll_9 : decode cX8_rightOfAll 9 = .ok (.getfield 16, 3) := by decide +kernel
theorem dX8_rightOfAll_12 : decode cX8_rightOfAll 12 = .ok (.bipush 21, 2) := by decide +kernel
theorem dX8_rightOfAll_14 : decode cX8_rightOfAll 14 = .ok (.iaload, 1) := by decide +kernel
theorem dX8_rightOfAll_15 : decode cX8_rightOfAll 15 = .ok (.ifCond .le 21, 3) := by decide +kernel
theorem dX8_rightOfAll_18 : decode cX8_rightOfAll 18 = .ok (.aload_n 0, 1) := by decide +kernel
theorem dX8_rightOfAll_19 : decode cX8_rightOfAll 19 = .ok (.aload_n 0, 1) := by decide +kernel
theorem dX8_rightOfAll_20 : decode cX8_rightOfAll 20 = .ok (.getfield 16, 3) := by decide +kernel
theorem dX8_rightOfAll_23 : decode cX8_rightOfAll 23 = .ok (.aload_n 0, 1) := by decide +kernel
theorem dX8_rightOfAll_24 : decode cX8_rightOfAll 24 = .ok (.getfield 16, 3) := by decide +kernel
theorem dX8_rightOfAll_27 : decode cX8_rightOfAll 27 = .ok (.invokestatic 148, 3) := by decide +kernel
theorem dX8_rightOfAll_30 : decode cX8_rightOfAll 30 = .ok (.invokevirtual 152, 3) := by decide +kernel
theorem dX8_rightOfAll_33 : decode cX8_rightOfAll 33 = .ok (.goto (-25), 3) := by decide +kernel
theorem dX8_rightOfAll_36 : decode cX8_rightOfAll 36 = .ok (.aload_n 0, 1) := by decide +kernel
theorem dX8_rightOfAll_37 : decode cX8_rightOfAll 37 = .ok (.getfield 16, 3) := by decide +kernel
theorem dX8_rightOfAll_40 : decode cX8_rightOfAll 40 = .ok (.bipush 25, 2) := by decide +kernel
theorem dX8_rightOfAll_42 : decode cX8_rightOfAll 42 = .ok (.iaload, 1) := by decide +kernel
theorem dX8_rightOfAll_43 : decode cX8_rightOfAll 43 = .ok (.iload_n 1, 1) := by decide +kernel
theorem dX8_rightOfAll_44 : decode cX8_rightOfAll 44 = .ok (.isub, 1) := by decide +kernel
theorem dX8_rightOfAll_45 : decode cX8_rightOfAll 45 = .ok (.ireturn, 1) := by decide +kernel
theorem dX8_timeNow_0 : decode cX8_timeNow 0 = .ok (.iconst 0, 1) := by decide +kernel
theorem dX8_timeNow_1 : decode cX8_timeNow 1 = .ok (.istore_n 1, 1) := by decide +kernel
theorem dX8_timeNow_2 : decode cX8_timeNow 2 = .ok (.iconst 0, 1) := by decide +kernel
theorem dX8_timeNow_3 : decode cX8_timeNow 3 = .ok (.istore_n 2, 1) := by decide +kernel
theorem dX8_timeNow_4 : decode cX8_timeNow 4 = .ok (.bipush 9, 2) := by decide +kernel
theorem dX8_timeNow_6 : decode cX8_timeNow 6 = .ok (.istore_n 3, 1) := by decide +kernel
theorem dX8_timeNow_7 : decode cX8_timeNow 7 = .ok (.iload_n 3, 1) := by decide +kernel
theorem dX8_timeNow_8 : decode cX8_timeNow 8 = .ok (.ifCond .lt 58, 3) := by decide +kernel
theorem dX8_timeNow_11 : decode cX8_timeNow 11 = .ok (.iconst 0, 1) := by decide +kernel
theorem dX8_timeNow_12 : decode cX8_timeNow 12 = .ok (.istore 4, 2) := by decide +kernel
theorem dX8_timeNow_14 : decode cX8_timeNow 14 = .ok (.iload 4, 2) := by decide +kernel
theorem dX8_timeNow_16 : decode cX8_timeNow 16 = .ok (.aload_n 0, 1) := by decide +kernel
theorem dX8_timeNow_17 : decode cX8_timeNow 17 = .ok (.getfield 59, 3) := by decide +kernel
theorem dX8_timeNow_20 : decode cX8_timeNow 20 = .ok (.if_icmp .ge 40, 3) := by decide +kernel
theorem dX8_timeNow_23 : decode cX8_timeNow 23 = .ok (.aload_n 0, 1) := by decide +kernel
theorem dX8_timeNow_24 : decode cX8_timeNow 24 = .ok (.getfield 38, 3) := by decide +kernel
theorem dX8_timeNow_27 : decode cX8_timeNow 27 = .ok (.iload 4, 2) := by decide +kernel
theorem dX8_timeNow_29 : decode cX8_timeNow 29 = .ok (.iaload, 1) := by decide +kernel
theorem dX8_timeNow_30 : decode cX8_timeNow 30 = .ok (.iload_n 3, 1) := by decide +kernel
theorem dX8_timeNow_31 : decode cX8_timeNow 31 = .ok (.if_icmp .ne 23, 3) := by decide +kernel
theorem dX8_timeNow_34 : decode cX8_timeNow 34 = .ok (.iload_n 1, 1) := by decide +kernel
theorem dX8_timeNow_35 : decode cX8_timeNow 35 = .ok (.iload_n 2, 1) := by decide +kernel
theorem dX8_timeNow_36 : decode cX8_timeNow 36 = .ok (.aload_n 0, 1) := by decide +kernel
theorem dX8_timeNow_37 : decode cX8_timeNow 37 = .ok (.getfield 66, 3) := by decide +kernel
theorem dX8_timeNow_40 : decode cX8_timeNow 40 = .ok (.irem, 1) := by decide +kernel
theorem dX8_timeNow_41 : decode cX8_timeNow 41 = .ok (.ifCond .ne 7, 3) := by decide +kernel
theorem dX8_timeNow_44 : decode cX8_timeNow 44 = .ok (.iload_n 3, 1) := by decide +kernel
theorem dX8_timeNow_45 : decode cX8_timeNow 45 = .ok (.goto 4, 3) := by decide +kernel
theorem dX8_timeNow_48 : decode cX8_timeNow 48 = .ok (.iconst 0, 1) := by decide +kernel
theorem dX8_timeNow_49 : decode cX8_timeNow 49 = .ok (.iadd, 1) := by decide +kernel
theorem dX8_timeNow_50 : decode cX8_timeNow 50 = .ok (.istore_n 1, 1) := by decide +kernel
theorem dX8_timeNow_51 : decode cX8_timeNow 51 = .ok (.iinc 2 1, 3) := by decide +kernel
theorem dX8_timeNow_54 : decode cX8_timeNow 54 = .ok (.iinc 4 1, 3) := by decide +kernel
theorem dX8_timeNow_57 : decode cX8_timeNow 57 = .ok (.goto (-43), 3) := by decide +kernel
theorem dX8_timeNow_60 : decode cX8_timeNow 60 = .ok (.iinc 3 (-1), 3) := by decide +kernel
theorem dX8_timeNow_63 : decode cX8_timeNow 63 = .ok (.goto (-56), 3) := by decide +kernel
theorem dX8_timeNow_66 : decode cX8_timeNow 66 = .ok (.iload_n 1, 1) := by decide +kernel
theorem dX8_timeNow_67 : decode cX8_timeNow 67 = .ok (.ireturn, 1) := by decide +kernel
theorem dX8_timeOf_0 : decode cX8_timeOf 0 = .ok (.iload_n 1, 1) := by decide +kernel
theorem dX8_timeOf_1 : decode cX8_timeOf 1 = .ok (.ifCond .le 17, 3) := by decide +kernel
theorem dX8_timeOf_4 : decode cX8_timeOf 4 = .ok (.aload_n 0, 1) := by decide +kernel
theorem dX8_timeOf_5 : decode cX8_timeOf 5 = .ok (.getfield 13, 3) := by decide +kernel
theorem dX8_timeOf_8 : decode cX8_timeOf 8 = .ok (.bipush 13, 2) := by decide +kernel
theorem dX8_timeOf_10 : decode cX8_timeOf 10 = .ok (.iload_n 1, 1) := by decide +kernel
theorem dX8_timeOf_11 : decode cX8_timeOf 11 = .ok (.iadd, 1) := by decide +kernel
theorem dX8_timeOf_12 : decode cX8_timeOf 12 = .ok (.iconst 1, 1) := by decide +kernel
theorem dX8_timeOf_13 : decode cX8_timeOf 13 = .ok (.isub, 1) := by decide +kernel
theorem dX8_timeOf_14 : decode cX8_timeOf 14 = .ok (.iaload, 1) := by decide +kernel
theorem dX8_timeOf_15 : decode cX8_timeOf 15 = .ok (.goto 10, 3) := by decide +kernel
theorem dX8_timeOf_18 : decode cX8_timeOf 18 = .ok (.aload_n 0, 1) := by decide +kernel
theorem dX8_timeOf_19 : decode cX8_timeOf 19 = .ok (.getfield 13, 3) := by decide +kernel
theorem dX8_timeOf_22 : decode cX8_timeOf 22 = .ok (.bipush 22, 2) := by decide +kernel
theorem dX8_timeOf_24 : decode cX8_timeOf 24 = .ok (.iaload, 1) := by decide +kernel
theorem dX8_timeOf_25 : decode cX8_timeOf 25 = .ok (.istore_n 2, 1) := by decide +kernel
theorem dX8_timeOf_26 : decode cX8_timeOf 26 = .ok (.iload_n 1, 1) := by decide +kernel
theorem dX8_timeOf_27 : decode cX8_timeOf 27 = .ok (.iconst 1, 1) := by decide +kernel
theorem dX8_timeOf_28 : decode cX8_timeOf 28 = .ok (.if_icmp .le 17, 3) := by decide +kernel
theorem dX8_timeOf_31 : decode cX8_timeOf 31 = .ok (.aload_n 0, 1) := by decide +kernel
theorem dX8_timeOf_32 : decode cX8_timeOf 32 = .ok (.getfield 13, 3) := by decide +kernel
theorem dX8_timeOf_35 : decode cX8_timeOf 35 = .ok (.bipush 13, 2) := by decide +kernel
theorem dX8_timeOf_37 : decode cX8_timeOf 37 = .ok (.iload_n 1, 1) := by decide +kernel
theorem dX8_timeOf_38 : decode cX8_timeOf 38 = .ok (.iadd, 1) := by decide +kernel
theorem dX8_timeOf_39 : decode cX8_timeOf 39 = .ok (.iconst 2, 1) := by decide +kernel
theorem dX8_timeOf_40 : decode cX8_timeOf 40 = .ok (.isub, 1) := by decide +kernel
theorem dX8_timeOf_41 : decode cX8_timeOf 41 = .ok (.iaload, 1) := by decide +kernel
theorem dX8_timeOf_42 : decode cX8_timeOf 42 = .ok (.goto 25, 3) := by decide +kernel
theorem dX8_timeOf_45 : decode cX8_timeOf 45 = .ok (.iload_n 1, 1) := by decide +kernel
theorem dX8_timeOf_46 : decode cX8_timeOf 46 = .ok (.iconst 1, 1) := by decide +kernel
theorem dX8_timeOf_47 : decode cX8_timeOf 47 = .ok (.if_icmp .ne 13, 3) := by decide +kernel
theorem dX8_timeOf_50 : decode cX8_timeOf 50 = .ok (.aload_n 0, 1) := by decide +kernel
theorem dX8_timeOf_51 : decode cX8_timeOf 51 = .ok (.getfield 13, 3) := by decide +kernel
theorem dX8_timeOf_54 : decode cX8_timeOf 54 = .ok (.bipush 22, 2) := by decide +kernel
theorem dX8_timeOf_56 : decode cX8_timeOf 56 = .ok (.iaload, 1) := by decide +kernel
theorem dX8_timeOf_57 : decode cX8_timeOf 57 = .ok (.goto 10, 3) := by decide +kernel
theorem dX8_timeOf_60 : decode cX8_timeOf 60 = .ok (.aload_n 0, 1) := by decide +kernel
theorem dX8_timeOf_61 : decode cX8_timeOf 61 = .ok (.getfield 13, 3) := by decide +kernel
theorem dX8_timeOf_64 : decode cX8_timeOf 64 = .ok (.bipush 23, 2) := by decide +kernel
theorem dX8_timeOf_66 : decode cX8_timeOf 66 = .ok (.iaload, 1) := by decide +kernel
theorem dX8_timeOf_67 : decode cX8_timeOf 67 = .ok (.istore_n 3, 1) := by decide +kernel
theorem dX8_timeOf_68 : decode cX8_timeOf 68 = .ok (.aload_n 0, 1) := by decide +kernel
theorem dX8_timeOf_69 : decode cX8_timeOf 69 = .ok (.aload_n 0, 1) := by decide +kernel
theorem dX8_timeOf_70 : decode cX8_timeOf 70 = .ok (.getfield 13, 3) := by decide +kernel
theorem dX8_timeOf_73 : decode cX8_timeOf 73 = .ok (.aload_n 0, 1) := by decide +kernel
theorem dX8_timeOf_74 : decode cX8_timeOf 74 = .ok (.getfield 13, 3) := by decide +kernel
theorem dX8_timeOf_77 : decode cX8_timeOf 77 = .ok (.bipush 13, 2) := by decide +kernel
theorem dX8_timeOf_79 : decode cX8_timeOf 79 = .ok (.iload_n 1, 1) := by decide +kernel
theorem dX8_timeOf_80 : decode cX8_timeOf 80 = .ok (.iadd, 1) := by decide +kernel
theorem dX8_timeOf_81 : decode cX8_timeOf 81 = .ok (.iaload, 1) := by decide +kernel
theorem dX8_timeOf_82 : decode cX8_timeOf 82 = .ok (.iload_n 2, 1) := by decide +kernel
theorem dX8_timeOf_83 : decode cX8_timeOf 83 = .ok (.iload_n 3, 1) := by decide +kernel
theorem dX8_timeOf_84 : decode cX8_timeOf 84 = .ok (.invokevirtual 137, 3) := by decide +kernel
theorem dX8_timeOf_87 : decode cX8_timeOf 87 = .ok (.aload_n 0, 1) := by decide +kernel
theorem dX8_timeOf_88 : decode cX8_timeOf 88 = .ok (.invokevirtual 155, 3) := by decide +kernel
theorem dX8_timeOf_91 : decode cX8_timeOf 91 = .ok (.ireturn, 1) := by decide +kernel
theorem dX8_mostOf_0 : decode cX8_mostOf 0 = .ok (.bipush 9, 2) := by decide +kernel
theorem dX8_mostOf_2 : decode cX8_mostOf 2 = .ok (.aload_n 0, 1) := by decide +kernel
theorem dX8_mostOf_3 : decode cX8_mostOf 3 = .ok (.iload_n 1, 1) := by decide +kernel
theorem dX8_mostOf_4 : decode cX8_mostOf 4 = .ok (.invokevirtual 158, 3) := by decide +kernel
theorem dX8_mostOf_7 : decode cX8_mostOf 7 = .ok (.bipush 9, 2) := by decide +kernel
theorem dX8_mostOf_9 : decode cX8_mostOf 9 = .ok (.idiv, 1) := by decide +kernel
theorem dX8_mostOf_10 : decode cX8_mostOf 10 = .ok (.isub, 1) := by decide +kernel
theorem dX8_mostOf_11 : decode cX8_mostOf 11 = .ok (.istore_n 2, 1) := by decide +kernel
theorem dX8_mostOf_12 : decode cX8_mostOf 12 = .ok (.iload_n 2, 1) := by decide +kernel
theorem dX8_mostOf_13 : decode cX8_mostOf 13 = .ok (.iconst 1, 1) := by decide +kernel
theorem dX8_mostOf_14 : decode cX8_mostOf 14 = .ok (.if_icmp .le 7, 3) := by decide +kernel
theorem dX8_mostOf_17 : decode cX8_mostOf 17 = .ok (.iload_n 2, 1) := by decide +kernel
theorem dX8_mostOf_18 : decode cX8_mostOf 18 = .ok (.goto 4, 3) := by decide +kernel
theorem dX8_mostOf_21 : decode cX8_mostOf 21 = .ok (.iconst 1, 1) := by decide +kernel
theorem dX8_mostOf_22 : decode cX8_mostOf 22 = .ok (.ireturn, 1) := by decide +kernel
theorem dX8_laySpeeds_0 : decode cX8_laySpeeds 0 = .ok (.aload_n 0, 1) := by decide +kernel
theorem dX8_laySpeeds_1 : decode cX8_laySpeeds 1 = .ok (.getfield 13, 3) := by decide +kernel
theorem dX8_laySpeeds_4 : decode cX8_laySpeeds 4 = .ok (.bipush 21, 2) := by decide +kernel
theorem dX8_laySpeeds_6 : decode cX8_laySpeeds 6 = .ok (.iaload, 1) := by decide +kernel
theorem dX8_laySpeeds_7 : decode cX8_laySpeeds 7 = .ok (.istore_n 1, 1) := by decide +kernel
theorem dX8_laySpeeds_8 : decode cX8_laySpeeds 8 = .ok (.iconst 0, 1) := by decide +kernel
theorem dX8_laySpeeds_9 : decode cX8_laySpeeds 9 = .ok (.istore_n 2, 1) := by decide +kernel
theorem dX8_laySpeeds_10 : decode cX8_laySpeeds 10 = .ok (.iload_n 2, 1) := by decide +kernel
theorem dX8_laySpeeds_11 : decode cX8_laySpeeds 11 = .ok (.iload_n 1, 1) := by decide +kernel
theorem dX8_laySpeeds_12 : decode cX8_laySpeeds 12 = .ok (.if_icmp .ge 65, 3) := by decide +kernel
theorem dX8_laySpeeds_15 : decode cX8_laySpeeds 15 = .ok (.aload_n 0, 1) := by decide +kernel
theorem dX8_laySpeeds_16 : decode cX8_laySpeeds 16 = .ok (.getfield 41, 3) := by decide +kernel
theorem dX8_laySpeeds_19 : decode cX8_laySpeeds 19 = .ok (.iload_n 2, 1) := by decide +kernel
theorem dX8_laySpeeds_20 : decode cX8_laySpeeds 20 = .ok (.aload_n 0, 1) := by decide +kernel
theorem dX8_laySpeeds_21 : decode cX8_laySpeeds 21 = .ok (.iload_n 2, 1) := by decide +kernel
theorem dX8_laySpeeds_22 : decode cX8_laySpeeds 22 = .ok (.invokevirtual 162, 3) := by decide +kernel
theorem dX8_laySpeeds_25 : decode cX8_laySpeeds 25 = .ok (.iastore, 1) := by decide +kernel
theorem dX8_laySpeeds_26 : decode cX8_laySpeeds 26 = .ok (.iload_n 2, 1) := by decide +kernel
theorem dX8_laySpeeds_27 : decode cX8_laySpeeds 27 = .ok (.ifCond .ne 7, 3) := by decide +kernel
theorem dX8_laySpeeds_30 : decode cX8_laySpeeds 30 = .ok (.iconst 1, 1) := by decide +kernel
theorem dX8_laySpeeds_31 : decode cX8_laySpeeds 31 = .ok (.goto 13, 3) := by decide +kernel
theorem dX8_laySpeeds_34 : decode cX8_laySpeeds 34 = .ok (.aload_n 0, 1) := by decide +kernel
theorem dX8_laySpeeds_35 : decode cX8_laySpeeds 35 = .ok (.getfield 44, 3) := by decide +kernel
theorem dX8_laySpeeds_38 : decode cX8_laySpeeds 38 = .ok (.iload_n 2, 1) := by decide +kernel
theorem dX8_laySpeeds_39 : decode cX8_laySpeeds 39 = .ok (.iconst 1, 1) := by decide +kernel
theorem dX8_laySpeeds_40 : decode cX8_laySpeeds 40 = .ok (.isub, 1) := by decide +kernel
theorem dX8_laySpeeds_41 : decode cX8_laySpeeds 41 = .ok (.iaload, 1) := by decide +kernel
theorem dX8_laySpeeds_42 : decode cX8_laySpeeds 42 = .ok (.iconst 1, 1) := by decide +kernel
theorem dX8_laySpeeds_43 : decode cX8_laySpeeds 43 = .ok (.iadd, 1) := by decide +kernel
theorem dX8_laySpeeds_44 : decode cX8_laySpeeds 44 = .ok (.istore_n 3, 1) := by decide +kernel
theorem dX8_laySpeeds_45 : decode cX8_laySpeeds 45 = .ok (.aload_n 0, 1) := by decide +kernel
theorem dX8_laySpeeds_46 : decode cX8_laySpeeds 46 = .ok (.getfield 44, 3) := by decide +kernel
theorem dX8_laySpeeds_49 : decode cX8_laySpeeds 49 = .ok (.iload_n 2, 1) := by decide +kernel
theorem dX8_laySpeeds_50 : decode cX8_laySpeeds 50 = .ok (.aload_n 0, 1) := by decide +kernel
theorem dX8_laySpeeds_51 : decode cX8_laySpeeds 51 = .ok (.getfield 41, 3) := by decide +kernel
theorem dX8_laySpeeds_54 : decode cX8_laySpeeds 54 = .ok (.iload_n 2, 1) := by decide +kernel
theorem dX8_laySpeeds_55 : decode cX8_laySpeeds 55 = .ok (.iaload, 1) := by decide +kernel
theorem dX8_laySpeeds_56 : decode cX8_laySpeeds 56 = .ok (.iload_n 3, 1) := by decide +kernel
theorem dX8_laySpeeds_57 : decode cX8_laySpeeds 57 = .ok (.if_icmp .ge 12, 3) := by decide +kernel
theorem dX8_laySpeeds_60 : decode cX8_laySpeeds 60 = .ok (.aload_n 0, 1) := by decide +kernel
theorem dX8_laySpeeds_61 : decode cX8_laySpeeds 61 = .ok (.getfield 41, 3) := by decide +kernel
theorem dX8_laySpeeds_64 : decode cX8_laySpeeds 64 = .ok (.iload_n 2, 1) := by decide +kernel
theorem dX8_laySpeeds_65 : decode cX8_laySpeeds 65 = .ok (.iaload, 1) := by decide +kernel
theorem dX8_laySpeeds_66 : decode cX8_laySpeeds 66 = .ok (.goto 4, 3) := by decide +kernel
theorem dX8_laySpeeds_69 : decode cX8_laySpeeds 69 = .ok (.iload_n 3, 1) := by decide +kernel
theorem dX8_laySpeeds_70 : decode cX8_laySpeeds 70 = .ok (.iastore, 1) := by decide +kernel
theorem dX8_laySpeeds_71 : decode cX8_laySpeeds 71 = .ok (.iinc 2 1, 3) := by decide +kernel
theorem dX8_laySpeeds_74 : decode cX8_laySpeeds 74 = .ok (.goto (-64), 3) := by decide +kernel
theorem dX8_laySpeeds_77 : decode cX8_laySpeeds 77 = .ok (.iload_n 1, 1) := by decide +kernel
theorem dX8_laySpeeds_78 : decode cX8_laySpeeds 78 = .ok (.iconst 1, 1) := by decide +kernel
theorem dX8_laySpeeds_79 : decode cX8_laySpeeds 79 = .ok (.isub, 1) := by decide +kernel
theorem dX8_laySpeeds_80 : decode cX8_laySpeeds 80 = .ok (.istore_n 2, 1) := by decide +kernel
theorem dX8_laySpeeds_81 : decode cX8_laySpeeds 81 = .ok (.iload_n 2, 1) := by decide +kernel
theorem dX8_laySpeeds_82 : decode cX8_laySpeeds 82 = .ok (.ifCond .lt 57, 3) := by decide +kernel
theorem dX8_laySpeeds_85 : decode cX8_laySpeeds 85 = .ok (.iload_n 2, 1) := by decide +kernel
theorem dX8_laySpeeds_86 : decode cX8_laySpeeds 86 = .ok (.iload_n 1, 1) := by decide +kernel
theorem dX8_laySpeeds_87 : decode cX8_laySpeeds 87 = .ok (.iconst 1, 1) := by decide +kernel
theorem dX8_laySpeeds_88 : decode cX8_laySpeeds 88 = .ok (.isub, 1) := by decide +kernel
theorem dX8_laySpeeds_89 : decode cX8_laySpeeds 89 = .ok (.if_icmp .ne 7, 3) := by decide +kernel
theorem dX8_laySpeeds_92 : decode cX8_laySpeeds 92 = .ok (.iconst 1, 1) := by decide +kernel
theorem dX8_laySpeeds_93 : decode cX8_laySpeeds 93 = .ok (.goto 13, 3) := by decide +kernel
theorem dX8_laySpeeds_96 : decode cX8_laySpeeds 96 = .ok (.aload_n 0, 1) := by decide +kernel
theorem dX8_laySpeeds_97 : decode cX8_laySpeeds 97 = .ok (.getfield 44, 3) := by decide +kernel
theorem dX8_laySpeeds_100 : decode cX8_laySpeeds 100 = .ok (.iload_n 2, 1) := by decide +kernel
theorem dX8_laySpeeds_101 : decode cX8_laySpeeds 101 = .ok (.iconst 1, 1) := by decide +kernel
theorem dX8_laySpeeds_102 : decode cX8_laySpeeds 102 = .ok (.iadd, 1) := by decide +kernel
theorem dX8_laySpeeds_103 : decode cX8_laySpeeds 103 = .ok (.iaload, 1) := by decide +kernel
theorem dX8_laySpeeds_104 : decode cX8_laySpeeds 104 = .ok (.iconst 1, 1) := by decide +kernel
theorem dX8_laySpeeds_105 : decode cX8_laySpeeds 105 = .ok (.iadd, 1) := by decide +kernel
theorem dX8_laySpeeds_106 : decode cX8_laySpeeds 106 = .ok (.istore_n 3, 1) := by decide +kernel
theorem dX8_laySpeeds_107 : decode cX8_laySpeeds 107 = .ok (.aload_n 0, 1) := by decide +kernel
theorem dX8_laySpeeds_108 : decode cX8_laySpeeds 108 = .ok (.getfield 44, 3) := by decide +kernel
theorem dX8_laySpeeds_111 : decode cX8_laySpeeds 111 = .ok (.iload_n 2, 1) := by decide +kernel
theorem dX8_laySpeeds_112 : decode cX8_laySpeeds 112 = .ok (.aload_n 0, 1) := by decide +kernel
theorem dX8_laySpeeds_113 : decode cX8_laySpeeds 113 = .ok (.getfield 44, 3) := by decide +kernel
theorem dX8_laySpeeds_116 : decode cX8_laySpeeds 116 = .ok (.iload_n 2, 1) := by decide +kernel
theorem dX8_laySpeeds_117 : decode cX8_laySpeeds 117 = .ok (.iaload, 1) := by decide +kernel
theorem dX8_laySpeeds_118 : decode cX8_laySpeeds 118 = .ok (.iload_n 3, 1) := by decide +kernel
theorem dX8_laySpeeds_119 : decode cX8_laySpeeds 119 = .ok (.if_icmp .ge 12, 3) := by decide +kernel
theorem dX8_laySpeeds_122 : decode cX8_laySpeeds 122 = .ok (.aload_n 0, 1) := by decide +kernel
theorem dX8_laySpeeds_123 : decode cX8_laySpeeds 123 = .ok (.getfield 44, 3) := by decide +kernel
theorem dX8_laySpeeds_126 : decode cX8_laySpeeds 126 = .ok (.iload_n 2, 1) := by decide +kernel
theorem dX8_laySpeeds_127 : decode cX8_laySpeeds 127 = .ok (.iaload, 1) := by decide +kernel
theorem dX8_laySpeeds_128 : decode cX8_laySpeeds 128 = .ok (.goto 4, 3) := by decide +kernel
theorem dX8_laySpeeds_131 : decode cX8_laySpeeds 131 = .ok (.iload_n 3, 1) := by decide +kernel
theorem dX8_laySpeeds_132 : decode cX8_laySpeeds 132 = .ok (.iastore, 1) := by decide +kernel
theorem dX8_laySpeeds_133 : decode cX8_laySpeeds 133 = .ok (.iinc 2 (-1), 3) := by decide +kernel
theorem dX8_laySpeeds_136 : decode cX8_laySpeeds 136 = .ok (.goto (-55), 3) := by decide +kernel
theorem dX8_laySpeeds_139 : decode cX8_laySpeeds 139 = .ok (.return_, 1) := by decide +kernel
theorem dX8_ticks_0 : decode cX8_ticks 0 = .ok (.aload_n 0, 1) := by decide +kernel
theorem dX8_ticks_1 : decode cX8_ticks 1 = .ok (.invokevirtual 165, 3) := by decide +kernel
theorem dX8_ticks_4 : decode cX8_ticks 4 = .ok (.iconst 0, 1) := by decide +kernel
theorem dX8_ticks_5 : decode cX8_ticks 5 = .ok (.istore_n 1, 1) := by decide +kernel
theorem dX8_ticks_6 : decode cX8_ticks 6 = .ok (.iconst 0, 1) := by decide +kernel
theorem dX8_ticks_7 : decode cX8_ticks 7 = .ok (.istore_n 2, 1) := by decide +kernel
theorem dX8_ticks_8 : decode cX8_ticks 8 = .ok (.iload_n 2, 1) := by decide +kernel
theorem dX8_ticks_9 : decode cX8_ticks 9 = .ok (.aload_n 0, 1) := by decide +kernel
theorem dX8_ticks_10 : decode cX8_ticks 10 = .ok (.getfield 13, 3) := by decide +kernel
theorem dX8_ticks_13 : decode cX8_ticks 13 = .ok (.bipush 21, 2) := by decide +kernel
theorem dX8_ticks_15 : decode cX8_ticks 15 = .ok (.iaload, 1) := by decide +kernel
theorem dX8_ticks_16 : decode cX8_ticks 16 = .ok (.if_icmp .ge 21, 3) := by decide +kernel
theorem dX8_ticks_19 : decode cX8_ticks 19 = .ok (.iload_n 1, 1) := by decide +kernel
theorem dX8_ticks_20 : decode cX8_ticks 20 = .ok (.bipush 60, 2) := by decide +kernel
theorem dX8_ticks_22 : decode cX8_ticks 22 = .ok (.aload_n 0, 1) := by decide +kernel
theorem dX8_ticks_23 : decode cX8_ticks 23 = .ok (.getfield 44, 3) := by decide +kernel
theorem dX8_ticks_26 : decode cX8_ticks 26 = .ok (.iload_n 2, 1) := by decide +kernel
theorem dX8_ticks_27 : decode cX8_ticks 27 = .ok (.iaload, 1) := by decide +kernel
theorem dX8_ticks_28 : decode cX8_ticks 28 = .ok (.idiv, 1) := by decide +kernel
theorem dX8_ticks_29 : decode cX8_ticks 29 = .ok (.iadd, 1) := by decide +kernel
theorem dX8_ticks_30 : decode cX8_ticks 30 = .ok (.istore_n 1, 1) := by decide +kernel
theorem dX8_ticks_31 : decode cX8_ticks 31 = .ok (.iinc 2 1, 3) := by decide +kernel
theorem dX8_ticks_34 : decode cX8_ticks 34 = .ok (.goto (-26), 3) := by decide +kernel
theorem dX8_ticks_37 : decode cX8_ticks 37 = .ok (.iload_n 1, 1) := by decide +kernel
theorem dX8_ticks_38 : decode cX8_ticks 38 = .ok (.ireturn, 1) := by decide +kernel
theorem dX8_restNow_0 : decode cX8_restNow 0 = .ok (.iconst 0, 1) := by decide +kernel
theorem dX8_restNow_1 : decode cX8_restNow 1 = .ok (.istore_n 1, 1) := by decide +kernel
theorem dX8_restNow_2 : decode cX8_restNow 2 = .ok (.iload_n 1, 1) := by decide +kernel
theorem dX8_restNow_3 : decode cX8_restNow 3 = .ok (.bipush 60, 2) := by decide +kernel
theorem dX8_restNow_5 : decode cX8_restNow 5 = .ok (.if_icmp .gt 102, 3) := by decide +kernel
theorem dX8_restNow_8 : decode cX8_restNow 8 = .ok (.aload_n 0, 1) := by decide +kernel
theorem dX8_restNow_9 : decode cX8_restNow 9 = .ok (.getfield 13, 3) := by decide +kernel
theorem dX8_restNow_12 : decode cX8_restNow 12 = .ok (.bipush 21, 2) := by decide +kernel
theorem dX8_restNow_14 : decode cX8_restNow 14 = .ok (.iaload, 1) := by decide +kernel
theorem dX8_restNow_15 : decode cX8_restNow 15 = .ok (.ifCond .le 92, 3) := by decide +kernel
theorem dX8_restNow_18 : decode cX8_restNow 18 = .ok (.aload_n 0, 1) := by decide +kernel
theorem dX8_restNow_19 : decode cX8_restNow 19 = .ok (.getfield 13, 3) := by decide +kernel
theorem dX8_restNow_22 : decode cX8_restNow 22 = .ok (.aload_n 0, 1) := by decide +kernel
theorem dX8_restNow_23 : decode cX8_restNow 23 = .ok (.getfield 16, 3) := by decide +kernel
theorem dX8_restNow_26 : decode cX8_restNow 26 = .ok (.invokestatic 168, 3) := by decide +kernel
theorem dX8_restNow_29 : decode cX8_restNow 29 = .ok (.iconst 0, 1) := by decide +kernel
theorem dX8_restNow_30 : decode cX8_restNow 30 = .ok (.istore_n 2, 1) := by decide +kernel
theorem dX8_restNow_31 : decode cX8_restNow 31 = .ok (.iload_n 2, 1) := by decide +kernel
theorem dX8_restNow_32 : decode cX8_restNow 32 = .ok (.iload_n 1, 1) := by decide +kernel
theorem dX8_restNow_33 : decode cX8_restNow 33 = .ok (.if_icmp .ge 17, 3) := by decide +kernel
theorem dX8_restNow_36 : decode cX8_restNow 36 = .ok (.aload_n 0, 1) := by decide +kernel
theorem dX8_restNow_37 : decode cX8_restNow 37 = .ok (.aload_n 0, 1) := by decide +kernel
theorem dX8_restNow_38 : decode cX8_restNow 38 = .ok (.getfield 16, 3) := by decide +kernel
theorem dX8_restNow_41 : decode cX8_restNow 41 = .ok (.invokevirtual 133, 3) := by decide +kernel
theorem dX8_restNow_44 : decode cX8_restNow 44 = .ok (.iinc 2 1, 3) := by decide +kernel
theorem dX8_restNow_47 : decode cX8_restNow 47 = .ok (.goto (-16), 3) := by decide +kernel
theorem dX8_restNow_50 : decode cX8_restNow 50 = .ok (.aload_n 0, 1) := by decide +kernel
theorem dX8_restNow_51 : decode cX8_restNow 51 = .ok (.aload_n 0, 1) := by decide +kernel
theorem dX8_restNow_52 : decode cX8_restNow 52 = .ok (.getfield 16, 3) := by decide +kernel
theorem dX8_restNow_55 : decode cX8_restNow 55 = .ok (.aload_n 0, 1) := by decide +kernel
theorem dX8_restNow_56 : decode cX8_restNow 56 = .ok (.getfield 16, 3) := by decide +kernel
theorem dX8_restNow_59 : decode cX8_restNow 59 = .ok (.invokestatic 148, 3) := by decide +kernel
theorem dX8_restNow_62 : decode cX8_restNow 62 = .ok (.invokevirtual 152, 3) := by decide +kernel
theorem dX8_restNow_65 : decode cX8_restNow 65 = .ok (.aload_n 0, 1) := by decide +kernel
theorem dX8_restNow_66 : decode cX8_restNow 66 = .ok (.getfield 16, 3) := by decide +kernel
theorem dX8_restNow_69 : decode cX8_restNow 69 = .ok (.bipush 27, 2) := by decide +kernel
theorem dX8_restNow_71 : decode cX8_restNow 71 = .ok (.iaload, 1) := by decide +kernel
theorem dX8_restNow_72 : decode cX8_restNow 72 = .ok (.aload_n 0, 1) := by decide +kernel
theorem dX8_restNow_73 : decode cX8_restNow 73 = .ok (.getfield 13, 3) := by decide +kernel
theorem dX8_restNow_76 : decode cX8_restNow 76 = .ok (.bipush 27, 2) := by decide +kernel
theorem dX8_restNow_78 : decode cX8_restNow 78 = .ok (.iaload, 1) := by decide +kernel
theorem dX8_restNow_79 : decode cX8_restNow 79 = .ok (.if_icmp .ne 22, 3) := by decide +kernel
theorem dX8_restNow_82 : decode cX8_restNow 82 = .ok (.aload_n 0, 1) := by decide +kernel
theorem dX8_restNow_83 : decode cX8_restNow 83 = .ok (.getfield 16, 3) := by decide +kernel
theorem dX8_restNow_86 : decode cX8_restNow 86 = .ok (.bipush 28, 2) := by decide +kernel
theorem dX8_restNow_88 : decode cX8_restNow 88 = .ok (.iaload, 1) := by decide +kernel
theorem dX8_restNow_89 : decode cX8_restNow 89 = .ok (.aload_n 0, 1) := by decide +kernel
theorem dX8_restNow_90 : decode cX8_restNow 90 = .ok (.getfield 13, 3) := by decide +kernel
theorem dX8_restNow_93 : decode cX8_restNow 93 = .ok (.bipush 28, 2) := by decide +kernel
theorem dX8_restNow_95 : decode cX8_restNow 95 = .ok (.iaload, 1) := by decide +kernel
theorem dX8_restNow_96 : decode cX8_restNow 96 = .ok (.if_icmp .ne 5, 3) := by decide +kernel
theorem dX8_restNow_99 : decode cX8_restNow 99 = .ok (.iload_n 1, 1) := by decide +kernel
theorem dX8_restNow_100 : decode cX8_restNow 100 = .ok (.ireturn, 1) := by decide +kernel
theorem dX8_restNow_101 : decode cX8_restNow 101 = .ok (.iinc 1 1, 3) := by decide +kernel
theorem dX8_restNow_104 : decode cX8_restNow 104 = .ok (.goto (-102), 3) := by decide +kernel
theorem dX8_restNow_107 : decode cX8_restNow 107 = .ok (.bipush (-9), 2) := by decide +kernel
theorem dX8_restNow_109 : decode cX8_restNow 109 = .ok (.ireturn, 1) := by decide +kernel
theorem dX8_counted_0 : decode cX8_counted 0 = .ok (.iload_n 1, 1) := by decide +kernel
theorem dX8_counted_1 : decode cX8_counted 1 = .ok (.tableswitch 63 6 9 #[31, 39, 47, 55], 31) := by decide +kernel
theorem dX8_counted_32 : decode cX8_counted 32 = .ok (.aload_n 0, 1) := by decide +kernel
theorem dX8_counted_33 : decode cX8_counted 33 = .ok (.getfield 13, 3) := by decide +kernel
theorem dX8_counted_36 : decode cX8_counted 36 = .ok (.bipush 21, 2) := by decide +kernel
theorem dX8_counted_38 : decode cX8_counted 38 = .ok (.iaload, 1) := by decide +kernel
theorem dX8_counted_39 : decode cX8_counted 39 = .ok (.ireturn, 1) := by decide +kernel
theorem dX8_counted_40 : decode cX8_counted 40 = .ok (.aload_n 0, 1) := by decide +kernel
theorem dX8_counted_41 : decode cX8_counted 41 = .ok (.getfield 13, 3) := by decide +kernel
theorem dX8_counted_44 : decode cX8_counted 44 = .ok (.bipush 22, 2) := by decide +kernel
theorem dX8_counted_46 : decode cX8_counted 46 = .ok (.iaload, 1) := by decide +kernel
theorem dX8_counted_47 : decode cX8_counted 47 = .ok (.ireturn, 1) := by decide +kernel
theorem dX8_counted_48 : decode cX8_counted 48 = .ok (.aload_n 0, 1) := by decide +kernel
theorem dX8_counted_49 : decode cX8_counted 49 = .ok (.getfield 13, 3) := by decide +kernel
theorem dX8_counted_52 : decode cX8_counted 52 = .ok (.bipush 23, 2) := by decide +kernel
theorem dX8_counted_54 : decode cX8_counted 54 = .ok (.iaload, 1) := by decide +kernel
theorem dX8_counted_55 : decode cX8_counted 55 = .ok (.ireturn, 1) := by decide +kernel
theorem dX8_counted_56 : decode cX8_counted 56 = .ok (.aload_n 0, 1) := by decide +kernel
theorem dX8_counted_57 : decode cX8_counted 57 = .ok (.getfield 13, 3) := by decide +kernel
theorem dX8_counted_60 : decode cX8_counted 60 = .ok (.bipush 24, 2) := by decide +kernel
theorem dX8_counted_62 : decode cX8_counted 62 = .ok (.iaload, 1) := by decide +kernel
theorem dX8_counted_63 : decode cX8_counted 63 = .ok (.ireturn, 1) := by decide +kernel
theorem dX8_counted_64 : decode cX8_counted 64 = .ok (.aload_n 0, 1) := by decide +kernel
theorem dX8_counted_65 : decode cX8_counted 65 = .ok (.getfield 13, 3) := by decide +kernel
theorem dX8_counted_68 : decode cX8_counted 68 = .ok (.bipush 25, 2) := by decide +kernel
theorem dX8_counted_70 : decode cX8_counted 70 = .ok (.iload_n 1, 1) := by decide +kernel
theorem dX8_counted_71 : decode cX8_counted 71 = .ok (.iadd, 1) := by decide +kernel
theorem dX8_counted_72 : decode cX8_counted 72 = .ok (.bipush 10, 2) := by decide +kernel
theorem dX8_counted_74 : decode cX8_counted 74 = .ok (.isub, 1) := by decide +kernel
theorem dX8_counted_75 : decode cX8_counted 75 = .ok (.iaload, 1) := by decide +kernel
theorem dX8_counted_76 : decode cX8_counted 76 = .ok (.ireturn, 1) := by decide +kernel
theorem dX8_about_0 : decode cX8_about 0 = .ok (.iload_n 1, 1) := by decide +kernel
theorem dX8_about_1 : decode cX8_about 1 = .ok (.tableswitch 150 0 19 #[95, 100, 105, 110, 115, 120, 150, 150, 150, 150, 150, 150, 150, 150, 150, 125, 130, 135, 140, 145], 95) := by decide +kernel
theorem dX8_about_96 : decode cX8_about 96 = .ok (.aload_n 0, 1) := by decide +kernel
theorem dX8_about_97 : decode cX8_about 97 = .ok (.getfield 59, 3) := by decide +kernel
theorem dX8_about_100 : decode cX8_about 100 = .ok (.ireturn, 1) := by decide +kernel
theorem dX8_about_101 : decode cX8_about 101 = .ok (.aload_n 0, 1) := by decide +kernel
theorem dX8_about_102 : decode cX8_about 102 = .ok (.getfield 63, 3) := by decide +kernel
theorem dX8_about_105 : decode cX8_about 105 = .ok (.ireturn, 1) := by decide +kernel
theorem dX8_about_106 : decode cX8_about 106 = .ok (.aload_n 0, 1) := by decide +kernel
theorem dX8_about_107 : decode cX8_about 107 = .ok (.getfield 66, 3) := by decide +kernel
theorem dX8_about_110 : decode cX8_about 110 = .ok (.ireturn, 1) := by decide +kernel
theorem dX8_about_111 : decode cX8_about 111 = .ok (.aload_n 0, 1) := by decide +kernel
theorem dX8_about_112 : decode cX8_about 112 = .ok (.getfield 111, 3) := by decide +kernel
theorem dX8_about_115 : decode cX8_about 115 = .ok (.ireturn, 1) := by decide +kernel
theorem dX8_about_116 : decode cX8_about 116 = .ok (.aload_n 0, 1) := by decide +kernel
theorem dX8_about_117 : decode cX8_about 117 = .ok (.getfield 114, 3) := by decide +kernel
theorem dX8_about_120 : decode cX8_about 120 = .ok (.ireturn, 1) := by decide +kernel
theorem dX8_about_121 : decode cX8_about 121 = .ok (.aload_n 0, 1) := by decide +kernel
theorem dX8_about_122 : decode cX8_about 122 = .ok (.getfield 117, 3) := by decide +kernel
theorem dX8_about_125 : decode cX8_about 125 = .ok (.ireturn, 1) := by decide +kernel
theorem dX8_about_126 : decode cX8_about 126 = .ok (.aload_n 0, 1) := by decide +kernel
theorem dX8_about_127 : decode cX8_about 127 = .ok (.invokevirtual 172, 3) := by decide +kernel
theorem dX8_about_130 : decode cX8_about 130 = .ok (.ireturn, 1) := by decide +kernel
theorem dX8_about_131 : decode cX8_about 131 = .ok (.aload_n 0, 1) := by decide +kernel
theorem dX8_about_132 : decode cX8_about 132 = .ok (.invokevirtual 175, 3) := by decide +kernel
theorem dX8_about_135 : decode cX8_about 135 = .ok (.ireturn, 1) := by decide +kernel
theorem dX8_about_136 : decode cX8_about 136 = .ok (.aload_n 0, 1) := by decide +kernel
theorem dX8_about_137 : decode cX8_about 137 = .ok (.getfield 120, 3) := by decide +kernel
theorem dX8_about_140 : decode cX8_about 140 = .ok (.ireturn, 1) := by decide +kernel
theorem dX8_about_141 : decode cX8_about 141 = .ok (.aload_n 0, 1) := by decide +kernel
theorem dX8_about_142 : decode cX8_about 142 = .ok (.getfield 178, 3) := by decide +kernel
theorem dX8_about_145 : decode cX8_about 145 = .ok (.ireturn, 1) := by decide +kernel
theorem dX8_about_146 : decode cX8_about 146 = .ok (.aload_n 0, 1) := by decide +kernel
theorem dX8_about_147 : decode cX8_about 147 = .ok (.getfield 75, 3) := by decide +kernel
theorem dX8_about_150 : decode cX8_about 150 = .ok (.ireturn, 1) := by decide +kernel
theorem dX8_about_151 : decode cX8_about 151 = .ok (.iload_n 1, 1) := by decide +kernel
theorem dX8_about_152 : decode cX8_about 152 = .ok (.i2l, 1) := by decide +kernel
theorem dX8_about_153 : decode cX8_about 153 = .ok (.ldc2_w 181, 3) := by decide +kernel
theorem dX8_about_156 : decode cX8_about 156 = .ok (.ldc2_w 183, 3) := by decide +kernel
theorem dX8_about_159 : decode cX8_about 159 = .ok (.invokestatic 69, 3) := by decide +kernel
theorem dX8_about_162 : decode cX8_about 162 = .ok (.ifCond .eq 11, 3) := by decide +kernel
theorem dX8_about_165 : decode cX8_about 165 = .ok (.aload_n 0, 1) := by decide +kernel
theorem dX8_about_166 : decode cX8_about 166 = .ok (.iload_n 1, 1) := by decide +kernel
theorem dX8_about_167 : decode cX8_about 167 = .ok (.invokevirtual 185, 3) := by decide +kernel
theorem dX8_about_170 : decode cX8_about 170 = .ok (.goto 5, 3) := by decide +kernel
theorem dX8_about_173 : decode cX8_about 173 = .ok (.bipush (-2), 2) := by decide +kernel
theorem dX8_about_175 : decode cX8_about 175 = .ok (.ireturn, 1) := by decide +kernel
theorem dX8_heat_0 : decode cX8_heat 0 = .ok (.aload_n 0, 1) := by decide +kernel
theorem dX8_heat_1 : decode cX8_heat 1 = .ok (.iload_n 1, 1) := by decide +kernel
theorem dX8_heat_2 : decode cX8_heat 2 = .ok (.invokevirtual 188, 3) := by decide +kernel
theorem dX8_heat_5 : decode cX8_heat 5 = .ok (.ifCond .eq 12, 3) := by decide +kernel
theorem dX8_heat_8 : decode cX8_heat 8 = .ok (.aload_n 0, 1) := by decide +kernel
theorem dX8_heat_9 : decode cX8_heat 9 = .ok (.getfield 13, 3) := by decide +kernel
theorem dX8_heat_12 : decode cX8_heat 12 = .ok (.iload_n 1, 1) := by decide +kernel
theorem dX8_heat_13 : decode cX8_heat 13 = .ok (.iaload, 1) := by decide +kernel
theorem dX8_heat_14 : decode cX8_heat 14 = .ok (.goto 4, 3) := by decide +kernel
theorem dX8_heat_17 : decode cX8_heat 17 = .ok (.iconst (-1), 1) := by decide +kernel
theorem dX8_heat_18 : decode cX8_heat 18 = .ok (.ireturn, 1) := by decide +kernel
theorem dX8_table_0 : decode cX8_table 0 = .ok (.iload_n 1, 1) := by decide +kernel
theorem dX8_table_1 : decode cX8_table 1 = .ok (.i2l, 1) := by decide +kernel
theorem dX8_table_2 : decode cX8_table 2 = .ok (.lconst 0, 1) := by decide +kernel
theorem dX8_table_3 : decode cX8_table 3 = .ok (.ldc2_w 86, 3) := by decide +kernel
theorem dX8_table_6 : decode cX8_table 6 = .ok (.invokestatic 69, 3) := by decide +kernel
theorem dX8_table_9 : decode cX8_table 9 = .ok (.ifCond .eq 15, 3) := by decide +kernel
theorem dX8_table_12 : decode cX8_table 12 = .ok (.aload_n 0, 1) := by decide +kernel
theorem dX8_table_13 : decode cX8_table 13 = .ok (.getfield 13, 3) := by decide +kernel
theorem dX8_table_16 : decode cX8_table 16 = .ok (.bipush 8, 2) := by decide +kernel
theorem dX8_table_18 : decode cX8_table 18 = .ok (.iload_n 1, 1) := by decide +kernel
theorem dX8_table_19 : decode cX8_table 19 = .ok (.iadd, 1) := by decide +kernel
theorem dX8_table_20 : decode cX8_table 20 = .ok (.iaload, 1) := by decide +kernel
theorem dX8_table_21 : decode cX8_table 21 = .ok (.goto 5, 3) := by decide +kernel
theorem dX8_table_24 : decode cX8_table 24 = .ok (.bipush (-2), 2) := by decide +kernel
theorem dX8_table_26 : decode cX8_table 26 = .ok (.ireturn, 1) := by decide +kernel
theorem dX8_line_0 : decode cX8_line 0 = .ok (.iload_n 2, 1) := by decide +kernel
theorem dX8_line_1 : decode cX8_line 1 = .ok (.i2l, 1) := by decide +kernel
theorem dX8_line_2 : decode cX8_line 2 = .ok (.lconst 0, 1) := by decide +kernel
theorem dX8_line_3 : decode cX8_line 3 = .ok (.ldc2_w 191, 3) := by decide +kernel
theorem dX8_line_6 : decode cX8_line 6 = .ok (.invokestatic 69, 3) := by decide +kernel
theorem dX8_line_9 : decode cX8_line 9 = .ok (.ifCond .ne 6, 3) := by decide +kernel
theorem dX8_line_12 : decode cX8_line 12 = .ok (.bipush (-2), 2) := by decide +kernel
theorem dX8_line_14 : decode cX8_line 14 = .ok (.ireturn, 1) := by decide +kernel
theorem dX8_line_15 : decode cX8_line 15 = .ok (.iload_n 1, 1) := by decide +kernel
theorem dX8_line_16 : decode cX8_line 16 = .ok (.i2l, 1) := by decide +kernel
theorem dX8_line_17 : decode cX8_line 17 = .ok (.lconst 0, 1) := by decide +kernel
theorem dX8_line_18 : decode cX8_line 18 = .ok (.aload_n 0, 1) := by decide +kernel
theorem dX8_line_19 : decode cX8_line 19 = .ok (.getfield 13, 3) := by decide +kernel
theorem dX8_line_22 : decode cX8_line 22 = .ok (.bipush 21, 2) := by decide +kernel
theorem dX8_line_24 : decode cX8_line 24 = .ok (.iaload, 1) := by decide +kernel
theorem dX8_line_25 : decode cX8_line 25 = .ok (.iconst 1, 1) := by decide +kernel
theorem dX8_line_26 : decode cX8_line 26 = .ok (.isub, 1) := by decide +kernel
theorem dX8_line_27 : decode cX8_line 27 = .ok (.i2l, 1) := by decide +kernel
theorem dX8_line_28 : decode cX8_line 28 = .ok (.invokestatic 69, 3) := by decide +kernel
theorem dX8_line_31 : decode cX8_line 31 = .ok (.ifCond .ne 6, 3) := by decide +kernel
theorem dX8_line_34 : decode cX8_line 34 = .ok (.bipush (-9), 2) := by decide +kernel
theorem dX8_line_36 : decode cX8_line 36 = .ok (.ireturn, 1) := by decide +kernel
theorem dX8_line_37 : decode cX8_line 37 = .ok (.iload_n 2, 1) := by decide +kernel
theorem dX8_line_38 : decode cX8_line 38 = .ok (.tableswitch 48 0 2 #[26, 36, 42], 26) := by decide +kernel
theorem dX8_line_64 : decode cX8_line 64 = .ok (.aload_n 0, 1) := by decide +kernel
theorem dX8_line_65 : decode cX8_line 65 = .ok (.getfield 13, 3) := by decide +kernel
theorem dX8_line_68 : decode cX8_line 68 = .ok (.bipush 13, 2) := by decide +kernel
theorem dX8_line_70 : decode cX8_line 70 = .ok (.iload_n 1, 1) := by decide +kernel
theorem dX8_line_71 : decode cX8_line 71 = .ok (.iadd, 1) := by decide +kernel
theorem dX8_line_72 : decode cX8_line 72 = .ok (.iaload, 1) := by decide +kernel
theorem dX8_line_73 : decode cX8_line 73 = .ok (.ireturn, 1) := by decide +kernel
theorem dX8_line_74 : decode cX8_line 74 = .ok (.aload_n 0, 1) := by decide +kernel
theorem dX8_line_75 : decode cX8_line 75 = .ok (.iload_n 1, 1) := by decide +kernel
theorem dX8_line_76 : decode cX8_line 76 = .ok (.invokevirtual 158, 3) := by decide +kernel
theorem dX8_line_79 : decode cX8_line 79 = .ok (.ireturn, 1) := by decide +kernel
theorem dX8_line_80 : decode cX8_line 80 = .ok (.aload_n 0, 1) := by decide +kernel
theorem dX8_line_81 : decode cX8_line 81 = .ok (.iload_n 1, 1) := by decide +kernel
theorem dX8_line_82 : decode cX8_line 82 = .ok (.invokevirtual 162, 3) := by decide +kernel
theorem dX8_line_85 : decode cX8_line 85 = .ok (.ireturn, 1) := by decide +kernel
theorem dX8_line_86 : decode cX8_line 86 = .ok (.aload_n 0, 1) := by decide +kernel
theorem dX8_line_87 : decode cX8_line 87 = .ok (.invokevirtual 165, 3) := by decide +kernel
theorem dX8_line_90 : decode cX8_line 90 = .ok (.aload_n 0, 1) := by decide +kernel
theorem dX8_line_91 : decode cX8_line 91 = .ok (.getfield 44, 3) := by decide +kernel
theorem dX8_line_94 : decode cX8_line 94 = .ok (.iload_n 1, 1) := by decide +kernel
theorem dX8_line_95 : decode cX8_line 95 = .ok (.iaload, 1) := by decide +kernel
theorem dX8_line_96 : decode cX8_line 96 = .ok (.ireturn, 1) := by decide +kernel
theorem dX8_note_0 : decode cX8_note 0 = .ok (.iconst 0, 1) := by decide +kernel
theorem dX8_note_1 : decode cX8_note 1 = .ok (.istore_n 1, 1) := by decide +kernel
theorem dX8_note_2 : decode cX8_note 2 = .ok (.iload_n 1, 1) := by decide +kernel
theorem dX8_note_3 : decode cX8_note 3 = .ok (.bipush 30, 2) := by decide +kernel
theorem dX8_note_5 : decode cX8_note 5 = .ok (.if_icmp .ge 29, 3) := by decide +kernel
theorem dX8_note_8 : decode cX8_note 8 = .ok (.aload_n 0, 1) := by decide +kernel
theorem dX8_note_9 : decode cX8_note 9 = .ok (.getfield 19, 3) := by decide +kernel
theorem dX8_note_12 : decode cX8_note 12 = .ok (.bipush 30, 2) := by decide +kernel
theorem dX8_note_14 : decode cX8_note 14 = .ok (.aload_n 0, 1) := by decide +kernel
theorem dX8_note_15 : decode cX8_note 15 = .ok (.getfield 193, 3) := by decide +kernel
theorem dX8_note_18 : decode cX8_note 18 = .ok (.imul, 1) := by decide +kernel
theorem dX8_note_19 : decode cX8_note 19 = .ok (.iload_n 1, 1) := by decide +kernel
theorem dX8_note_20 : decode cX8_note 20 = .ok (.iadd, 1) := by decide +kernel
theorem dX8_note_21 : decode cX8_note 21 = .ok (.aload_n 0, 1) := by decide +kernel
theorem dX8_note_22 : decode cX8_note 22 = .ok (.getfield 13, 3) := by decide +kernel
theorem dX8_note_25 : decode cX8_note 25 = .ok (.iload_n 1, 1) := by decide +kernel
theorem dX8_note_26 : decode cX8_note 26 = .ok (.iaload, 1) := by decide +kernel
theorem dX8_note_27 : decode cX8_note 27 = .ok (.iastore, 1) := by decide +kernel
theorem dX8_note_28 : decode cX8_note 28 = .ok (.iinc 1 1, 3) := by decide +kernel
theorem dX8_note_31 : decode cX8_note 31 = .ok (.goto (-29), 3) := by decide +kernel
theorem dX8_note_34 : decode cX8_note 34 = .ok (.aload_n 0, 1) := by decide +kernel
theorem dX8_note_35 : decode cX8_note 35 = .ok (.aload_n 0, 1) := by decide +kernel
theorem dX8_note_36 : decode cX8_note 36 = .ok (.getfield 193, 3) := by decide +kernel
theorem dX8_note_39 : decode cX8_note 39 = .ok (.iconst 1, 1) := by decide +kernel
theorem dX8_note_40 : decode cX8_note 40 = .ok (.iadd, 1) := by decide +kernel
theorem dX8_note_41 : decode cX8_note 41 = .ok (.bipush 14, 2) := by decide +kernel
theorem dX8_note_43 : decode cX8_note 43 = .ok (.irem, 1) := by decide +kernel
theorem dX8_note_44 : decode cX8_note 44 = .ok (.putfield 193, 3) := by decide +kernel
theorem dX8_note_47 : decode cX8_note 47 = .ok (.aload_n 0, 1) := by decide +kernel
theorem dX8_note_48 : decode cX8_note 48 = .ok (.aload_n 0, 1) := by decide +kernel
theorem dX8_note_49 : decode cX8_note 49 = .ok (.getfield 120, 3) := by decide +kernel
theorem dX8_note_52 : decode cX8_note 52 = .ok (.bipush 14, 2) := by decide +kernel
theorem dX8_note_54 : decode cX8_note 54 = .ok (.if_icmp .ge 12, 3) := by decide +kernel
theorem dX8_note_57 : decode cX8_note 57 = .ok (.aload_n 0, 1) := by decide +kernel
theorem dX8_note_58 : decode cX8_note 58 = .ok (.getfield 120, 3) := by decide +kernel
theorem dX8_note_61 : decode cX8_note 61 = .ok (.iconst 1, 1) := by decide +kernel
theorem dX8_note_62 : decode cX8_note 62 = .ok (.iadd, 1) := by decide +kernel
theorem dX8_note_63 : decode cX8_note 63 = .ok (.goto 5, 3) := by decide +kernel
theorem dX8_note_66 : decode cX8_note 66 = .ok (.bipush 14, 2) := by decide +kernel
theorem dX8_note_68 : decode cX8_note 68 = .ok (.putfield 120, 3) := by decide +kernel
theorem dX8_note_71 : decode cX8_note 71 = .ok (.return_, 1) := by decide +kernel
theorem dX8_putOn_0 : decode cX8_putOn 0 = .ok (.aload_n 0, 1) := by decide +kernel
theorem dX8_putOn_1 : decode cX8_putOn 1 = .ok (.bipush 13, 2) := by decide +kernel
theorem dX8_putOn_3 : decode cX8_putOn 3 = .ok (.aload_n 0, 1) := by decide +kernel
theorem dX8_putOn_4 : decode cX8_putOn 4 = .ok (.bipush 21, 2) := by decide +kernel
theorem dX8_putOn_6 : decode cX8_putOn 6 = .ok (.iaload, 1) := by decide +kernel
theorem dX8_putOn_7 : decode cX8_putOn 7 = .ok (.iadd, 1) := by decide +kernel
theorem dX8_putOn_8 : decode cX8_putOn 8 = .ok (.iload_n 1, 1) := by decide +kernel
theorem dX8_putOn_9 : decode cX8_putOn 9 = .ok (.iastore, 1) := by decide +kernel
theorem dX8_putOn_10 : decode cX8_putOn 10 = .ok (.aload_n 0, 1) := by decide +kernel
theorem dX8_putOn_11 : decode cX8_putOn 11 = .ok (.bipush 21, 2) := by decide +kernel
theorem dX8_putOn_13 : decode cX8_putOn 13 = .ok (.dup2, 1) := by decide +kernel
theorem dX8_putOn_14 : decode cX8_putOn 14 = .ok (.iaload, 1) := by decide +kernel
theorem dX8_putOn_15 : decode cX8_putOn 15 = .ok (.iconst 1, 1) := by decide +kernel
theorem dX8_putOn_16 : decode cX8_putOn 16 = .ok (.iadd, 1) := by decide +kernel
theorem dX8_putOn_17 : decode cX8_putOn 17 = .ok (.iastore, 1) := by decide +kernel
theorem dX8_putOn_18 : decode cX8_putOn 18 = .ok (.return_, 1) := by decide +kernel
theorem dX8_put_0 : decode cX8_put 0 = .ok (.aload_n 0, 1) := by decide +kernel
theorem dX8_put_1 : decode cX8_put 1 = .ok (.iload_n 1, 1) := by decide +kernel
theorem dX8_put_2 : decode cX8_put 2 = .ok (.invokevirtual 196, 3) := by decide +kernel
theorem dX8_put_5 : decode cX8_put 5 = .ok (.ifCond .ne 6, 3) := by decide +kernel
theorem dX8_put_8 : decode cX8_put 8 = .ok (.bipush (-2), 2) := by decide +kernel
theorem dX8_put_10 : decode cX8_put 10 = .ok (.ireturn, 1) := by decide +kernel
theorem dX8_put_11 : decode cX8_put 11 = .ok (.aload_n 0, 1) := by decide +kernel
theorem dX8_put_12 : decode cX8_put 12 = .ok (.getfield 13, 3) := by decide +kernel
theorem dX8_put_15 : decode cX8_put 15 = .ok (.bipush 21, 2) := by decide +kernel
theorem dX8_put_17 : decode cX8_put 17 = .ok (.iaload, 1) := by decide +kernel
theorem dX8_put_18 : decode cX8_put 18 = .ok (.bipush 8, 2) := by decide +kernel
theorem dX8_put_20 : decode cX8_put 20 = .ok (.if_icmp .ne 6, 3) := by decide +kernel
theorem dX8_put_23 : decode cX8_put 23 = .ok (.bipush (-4), 2) := by decide +kernel
theorem dX8_put_25 : decode cX8_put 25 = .ok (.ireturn, 1) := by decide +kernel
theorem dX8_put_26 : decode cX8_put 26 = .ok (.aload_n 0, 1) := by decide +kernel
theorem dX8_put_27 : decode cX8_put 27 = .ok (.invokevirtual 199, 3) := by decide +kernel
theorem dX8_put_30 : decode cX8_put 30 = .ok (.aload_n 0, 1) := by decide +kernel
theorem dX8_put_31 : decode cX8_put 31 = .ok (.getfield 13, 3) := by decide +kernel
theorem dX8_put_34 : decode cX8_put 34 = .ok (.iload_n 1, 1) := by decide +kernel
theorem dX8_put_35 : decode cX8_put 35 = .ok (.invokestatic 202, 3) := by decide +kernel
theorem dX8_put_38 : decode cX8_put 38 = .ok (.aload_n 0, 1) := by decide +kernel
theorem dX8_put_39 : decode cX8_put 39 = .ok (.getfield 13, 3) := by decide +kernel
theorem dX8_put_42 : decode cX8_put 42 = .ok (.bipush 21, 2) := by decide +kernel
theorem dX8_put_44 : decode cX8_put 44 = .ok (.iaload, 1) := by decide +kernel
theorem dX8_put_45 : decode cX8_put 45 = .ok (.ireturn, 1) := by decide +kernel
theorem dX8_print_0 : decode cX8_print 0 = .ok (.iload_n 1, 1) := by decide +kernel
theorem dX8_print_1 : decode cX8_print 1 = .ok (.i2l, 1) := by decide +kernel
theorem dX8_print_2 : decode cX8_print 2 = .ok (.lconst 1, 1) := by decide +kernel
theorem dX8_print_3 : decode cX8_print 3 = .ok (.ldc2_w 91, 3) := by decide +kernel
theorem dX8_print_6 : decode cX8_print 6 = .ok (.invokestatic 69, 3) := by decide +kernel
theorem dX8_print_9 : decode cX8_print 9 = .ok (.ifCond .ne 6, 3) := by decide +kernel
theorem dX8_print_12 : decode cX8_print 12 = .ok (.bipush (-2), 2) := by decide +kernel
theorem dX8_print_14 : decode cX8_print 14 = .ok (.ireturn, 1) := by decide +kernel
theorem dX8_print_15 : decode cX8_print 15 = .ok (.aload_n 0, 1) := by decide +kernel
theorem dX8_print_16 : decode cX8_print 16 = .ok (.invokevirtual 199, 3) := by decide +kernel
theorem dX8_print_19 : decode cX8_print 19 = .ok (.aload_n 0, 1) := by decide +kernel
theorem dX8_print_20 : decode cX8_print 20 = .ok (.aload_n 0, 1) := by decide +kernel
theorem dX8_print_21 : decode cX8_print 21 = .ok (.getfield 13, 3) := by decide +kernel
theorem dX8_print_24 : decode cX8_print 24 = .ok (.iload_n 1, 1) := by decide +kernel
theorem dX8_print_25 : decode cX8_print 25 = .ok (.invokevirtual 205, 3) := by decide +kernel
theorem dX8_print_28 : decode cX8_print 28 = .ok (.ireturn, 1) := by decide +kernel
theorem dX8_pause_0 : decode cX8_pause 0 = .ok (.iload_n 1, 1) := by decide +kernel
theorem dX8_pause_1 : decode cX8_pause 1 = .ok (.i2l, 1) := by decide +kernel
theorem dX8_pause_2 : decode cX8_pause 2 = .ok (.lconst 1, 1) := by decide +kernel
theorem dX8_pause_3 : decode cX8_pause 3 = .ok (.ldc2_w 209, 3) := by decide +kernel
theorem dX8_pause_6 : decode cX8_pause 6 = .ok (.invokestatic 69, 3) := by decide +kernel
theorem dX8_pause_9 : decode cX8_pause 9 = .ok (.ifCond .ne 6, 3) := by decide +kernel
theorem dX8_pause_12 : decode cX8_pause 12 = .ok (.bipush (-2), 2) := by decide +kernel
theorem dX8_pause_14 : decode cX8_pause 14 = .ok (.ireturn, 1) := by decide +kernel
theorem dX8_pause_15 : decode cX8_pause 15 = .ok (.aload_n 0, 1) := by decide +kernel
theorem dX8_pause_16 : decode cX8_pause 16 = .ok (.invokevirtual 199, 3) := by decide +kernel
theorem dX8_pause_19 : decode cX8_pause 19 = .ok (.iconst 0, 1) := by decide +kernel
theorem dX8_pause_20 : decode cX8_pause 20 = .ok (.istore_n 2, 1) := by decide +kernel
theorem dX8_pause_21 : decode cX8_pause 21 = .ok (.iconst 0, 1) := by decide +kernel
theorem dX8_pause_22 : decode cX8_pause 22 = .ok (.istore_n 3, 1) := by decide +kernel
theorem dX8_pause_23 : decode cX8_pause 23 = .ok (.iload_n 3, 1) := by decide +kernel
theorem dX8_pause_24 : decode cX8_pause 24 = .ok (.iload_n 1, 1) := by decide +kernel
theorem dX8_pause_25 : decode cX8_pause 25 = .ok (.if_icmp .ge 17, 3) := by decide +kernel
theorem dX8_pause_28 : decode cX8_pause 28 = .ok (.aload_n 0, 1) := by decide +kernel
theorem dX8_pause_29 : decode cX8_pause 29 = .ok (.aload_n 0, 1) := by decide +kernel
theorem dX8_pause_30 : decode cX8_pause 30 = .ok (.getfield 13, 3) := by decide +kernel
theorem dX8_pause_33 : decode cX8_pause 33 = .ok (.invokevirtual 133, 3) := by decide +kernel
theorem dX8_pause_36 : decode cX8_pause 36 = .ok (.iinc 3 1, 3) := by decide +kernel
theorem dX8_pause_39 : decode cX8_pause 39 = .ok (.goto (-16), 3) := by decide +kernel
theorem dX8_pause_42 : decode cX8_pause 42 = .ok (.iconst 0, 1) := by decide +kernel
theorem dX8_pause_43 : decode cX8_pause 43 = .ok (.istore_n 3, 1) := by decide +kernel
theorem dX8_pause_44 : decode cX8_pause 44 = .ok (.iload_n 3, 1) := by decide +kernel
theorem dX8_pause_45 : decode cX8_pause 45 = .ok (.aload_n 0, 1) := by decide +kernel
theorem dX8_pause_46 : decode cX8_pause 46 = .ok (.getfield 59, 3) := by decide +kernel
theorem dX8_pause_49 : decode cX8_pause 49 = .ok (.if_icmp .ge 18, 3) := by decide +kernel
theorem dX8_pause_52 : decode cX8_pause 52 = .ok (.iload_n 2, 1) := by decide +kernel
theorem dX8_pause_53 : decode cX8_pause 53 = .ok (.aload_n 0, 1) := by decide +kernel
theorem dX8_pause_54 : decode cX8_pause 54 = .ok (.getfield 13, 3) := by decide +kernel
theorem dX8_pause_57 : decode cX8_pause 57 = .ok (.iload_n 3, 1) := by decide +kernel
theorem dX8_pause_58 : decode cX8_pause 58 = .ok (.iaload, 1) := by decide +kernel
theorem dX8_pause_59 : decode cX8_pause 59 = .ok (.iadd, 1) := by decide +kernel
theorem dX8_pause_60 : decode cX8_pause 60 = .ok (.istore_n 2, 1) := by decide +kernel
theorem dX8_pause_61 : decode cX8_pause 61 = .ok (.iinc 3 1, 3) := by decide +kernel
theorem dX8_pause_64 : decode cX8_pause 64 = .ok (.goto (-20), 3) := by decide +kernel
theorem dX8_pause_67 : decode cX8_pause 67 = .ok (.iload_n 2, 1) := by decide +kernel
theorem dX8_pause_68 : decode cX8_pause 68 = .ok (.ireturn, 1) := by decide +kernel
theorem dX8_maySet_0 : decode cX8_maySet 0 = .ok (.iload_n 1, 1) := by decide +kernel
theorem dX8_maySet_1 : decode cX8_maySet 1 = .ok (.i2l, 1) := by decide +kernel
theorem dX8_maySet_2 : decode cX8_maySet 2 = .ok (.lconst 0, 1) := by decide +kernel
theorem dX8_maySet_3 : decode cX8_maySet 3 = .ok (.ldc2_w 86, 3) := by decide +kernel
theorem dX8_maySet_6 : decode cX8_maySet 6 = .ok (.invokestatic 69, 3) := by decide +kernel
theorem dX8_maySet_9 : decode cX8_maySet 9 = .ok (.ifCond .eq 52, 3) := by decide +kernel
theorem dX8_maySet_12 : decode cX8_maySet 12 = .ok (.iload_n 2, 1) := by decide +kernel
theorem dX8_maySet_13 : decode cX8_maySet 13 = .ok (.i2l, 1) := by decide +kernel
theorem dX8_maySet_14 : decode cX8_maySet 14 = .ok (.iload_n 1, 1) := by decide +kernel
theorem dX8_maySet_15 : decode cX8_maySet 15 = .ok (.iconst 4, 1) := by decide +kernel
theorem dX8_maySet_16 : decode cX8_maySet 16 = .ok (.if_icmp .ne 7, 3) := by decide +kernel
theorem dX8_maySet_19 : decode cX8_maySet 19 = .ok (.lconst 0, 1) := by decide +kernel
theorem dX8_maySet_20 : decode cX8_maySet 20 = .ok (.goto 12, 3) := by decide +kernel
theorem dX8_maySet_23 : decode cX8_maySet 23 = .ok (.aload_n 0, 1) := by decide +kernel
theorem dX8_maySet_24 : decode cX8_maySet 24 = .ok (.bipush 8, 2) := by decide +kernel
theorem dX8_maySet_26 : decode cX8_maySet 26 = .ok (.iload_n 1, 1) := by decide +kernel
theorem dX8_maySet_27 : decode cX8_maySet 27 = .ok (.iadd, 1) := by decide +kernel
theorem dX8_maySet_28 : decode cX8_maySet 28 = .ok (.iconst 1, 1) := by decide +kernel
theorem dX8_maySet_29 : decode cX8_maySet 29 = .ok (.iadd, 1) := by decide +kernel
theorem dX8_maySet_30 : decode cX8_maySet 30 = .ok (.iaload, 1) := by decide +kernel
theorem dX8_maySet_31 : decode cX8_maySet 31 = .ok (.i2l, 1) := by decide +kernel
theorem dX8_maySet_32 : decode cX8_maySet 32 = .ok (.iload_n 1, 1) := by decide +kernel
theorem dX8_maySet_33 : decode cX8_maySet 33 = .ok (.ifCond .ne 9, 3) := by decide +kernel
theorem dX8_maySet_36 : decode cX8_maySet 36 = .ok (.ldc2_w 91, 3) := by decide +kernel
theorem dX8_maySet_39 : decode cX8_maySet 39 = .ok (.goto 12, 3) := by decide +kernel
theorem dX8_maySet_42 : decode cX8_maySet 42 = .ok (.aload_n 0, 1) := by decide +kernel
theorem dX8_maySet_43 : decode cX8_maySet 43 = .ok (.bipush 8, 2) := by decide +kernel
theorem dX8_maySet_45 : decode cX8_maySet 45 = .ok (.iload_n 1, 1) := by decide +kernel
theorem dX8_maySet_46 : decode cX8_maySet 46 = .ok (.iadd, 1) := by decide +kernel
theorem dX8_maySet_47 : decode cX8_maySet 47 = .ok (.iconst 1, 1) := by decide +kernel
theorem dX8_maySet_48 : decode cX8_maySet 48 = .ok (.isub, 1) := by decide +kernel
theorem dX8_maySet_49 : decode cX8_maySet 49 = .ok (.iaload, 1) := by decide +kernel
theorem dX8_maySet_50 : decode cX8_maySet 50 = .ok (.i2l, 1) := by decide +kernel
theorem dX8_maySet_51 : decode cX8_maySet 51 = .ok (.invokestatic 69, 3) := by decide +kernel
theorem dX8_maySet_54 : decode cX8_maySet 54 = .ok (.ifCond .eq 7, 3) := by decide +kernel
theorem dX8_maySet_57 : decode cX8_maySet 57 = .ok (.iconst 1, 1) := by decide +kernel
theorem dX8_maySet_58 : decode cX8_maySet 58 = .ok (.goto 4, 3) := by decide +kernel
theorem dX8_maySet_61 : decode cX8_maySet 61 = .ok (.iconst 0, 1) := by decide +kernel
theorem dX8_maySet_62 : decode cX8_maySet 62 = .ok (.ireturn, 1) := by decide +kernel
theorem dX8_set_0 : decode cX8_set 0 = .ok (.aload_n 0, 1) := by decide +kernel
theorem dX8_set_1 : decode cX8_set 1 = .ok (.getfield 13, 3) := by decide +kernel
theorem dX8_set_4 : decode cX8_set 4 = .ok (.iload_n 1, 1) := by decide +kernel
theorem dX8_set_5 : decode cX8_set 5 = .ok (.iload_n 2, 1) := by decide +kernel
theorem dX8_set_6 : decode cX8_set 6 = .ok (.invokestatic 211, 3) := by decide +kernel
theorem dX8_set_9 : decode cX8_set 9 = .ok (.ifCond .ne 6, 3) := by decide +kernel
theorem dX8_set_12 : decode cX8_set 12 = .ok (.bipush (-2), 2) := by decide +kernel
theorem dX8_set_14 : decode cX8_set 14 = .ok (.ireturn, 1) := by decide +kernel
theorem dX8_set_15 : decode cX8_set 15 = .ok (.aload_n 0, 1) := by decide +kernel
theorem dX8_set_16 : decode cX8_set 16 = .ok (.invokevirtual 199, 3) := by decide +kernel
theorem dX8_set_19 : decode cX8_set 19 = .ok (.aload_n 0, 1) := by decide +kernel
theorem dX8_set_20 : decode cX8_set 20 = .ok (.getfield 13, 3) := by decide +kernel
theorem dX8_set_23 : decode cX8_set 23 = .ok (.bipush 8, 2) := by decide +kernel
theorem dX8_set_25 : decode cX8_set 25 = .ok (.iload_n 1, 1) := by decide +kernel
theorem dX8_set_26 : decode cX8_set 26 = .ok (.iadd, 1) := by decide +kernel
theorem dX8_set_27 : decode cX8_set 27 = .ok (.iaload, 1) := by decide +kernel
theorem dX8_set_28 : decode cX8_set 28 = .ok (.istore_n 3, 1) := by decide +kernel
theorem dX8_set_29 : decode cX8_set 29 = .ok (.aload_n 0, 1) := by decide +kernel
theorem dX8_set_30 : decode cX8_set 30 = .ok (.getfield 13, 3) := by decide +kernel
theorem dX8_set_33 : decode cX8_set 33 = .ok (.bipush 8, 2) := by decide +kernel
theorem dX8_set_35 : decode cX8_set 35 = .ok (.iload_n 1, 1) := by decide +kernel
theorem dX8_set_36 : decode cX8_set 36 = .ok (.iadd, 1) := by decide +kernel
theorem dX8_set_37 : decode cX8_set 37 = .ok (.iload_n 2, 1) := by decide +kernel
theorem dX8_set_38 : decode cX8_set 38 = .ok (.iastore, 1) := by decide +kernel
theorem dX8_set_39 : decode cX8_set 39 = .ok (.iload_n 3, 1) := by decide +kernel
theorem dX8_set_40 : decode cX8_set 40 = .ok (.ireturn, 1) := by decide +kernel
theorem dX8_ribbon_0 : decode cX8_ribbon 0 = .ok (.iload_n 1, 1) := by decide +kernel
theorem dX8_ribbon_1 : decode cX8_ribbon 1 = .ok (.i2l, 1) := by decide +kernel
theorem dX8_ribbon_2 : decode cX8_ribbon 2 = .ok (.lconst 0, 1) := by decide +kernel
theorem dX8_ribbon_3 : decode cX8_ribbon 3 = .ok (.ldc2_w 215, 3) := by decide +kernel
theorem dX8_ribbon_6 : decode cX8_ribbon 6 = .ok (.invokestatic 69, 3) := by decide +kernel
theorem dX8_ribbon_9 : decode cX8_ribbon 9 = .ok (.ifCond .ne 6, 3) := by decide +kernel
theorem dX8_ribbon_12 : decode cX8_ribbon 12 = .ok (.bipush (-2), 2) := by decide +kernel
theorem dX8_ribbon_14 : decode cX8_ribbon 14 = .ok (.ireturn, 1) := by decide +kernel
theorem dX8_ribbon_15 : decode cX8_ribbon 15 = .ok (.aload_n 0, 1) := by decide +kernel
theorem dX8_ribbon_16 : decode cX8_ribbon 16 = .ok (.invokevirtual 199, 3) := by decide +kernel
theorem dX8_ribbon_19 : decode cX8_ribbon 19 = .ok (.aload_n 0, 1) := by decide +kernel
theorem dX8_ribbon_20 : decode cX8_ribbon 20 = .ok (.getfield 13, 3) := by decide +kernel
theorem dX8_ribbon_23 : decode cX8_ribbon 23 = .ok (.bipush 24, 2) := by decide +kernel
theorem dX8_ribbon_25 : decode cX8_ribbon 25 = .ok (.iaload, 1) := by decide +kernel
theorem dX8_ribbon_26 : decode cX8_ribbon 26 = .ok (.istore_n 2, 1) := by decide +kernel
theorem dX8_ribbon_27 : decode cX8_ribbon 27 = .ok (.aload_n 0, 1) := by decide +kernel
theorem dX8_ribbon_28 : decode cX8_ribbon 28 = .ok (.getfield 13, 3) := by decide +kernel
theorem dX8_ribbon_31 : decode cX8_ribbon 31 = .ok (.bipush 24, 2) := by decide +kernel
theorem dX8_ribbon_33 : decode cX8_ribbon 33 = .ok (.iload_n 1, 1) := by decide +kernel
theorem dX8_ribbon_34 : decode cX8_ribbon 34 = .ok (.iastore, 1) := by decide +kernel
theorem dX8_ribbon_35 : decode cX8_ribbon 35 = .ok (.iload_n 2, 1) := by decide +kernel
theorem dX8_ribbon_36 : decode cX8_ribbon 36 = .ok (.ireturn, 1) := by decide +kernel
theorem dX8_undo_0 : decode cX8_undo 0 = .ok (.aload_n 0, 1) := by decide +kernel
theorem dX8_undo_1 : decode cX8_undo 1 = .ok (.getfield 120, 3) := by decide +kernel
theorem dX8_undo_4 : decode cX8_undo 4 = .ok (.ifCond .ne 6, 3) := by decide +kernel
theorem dX8_undo_7 : decode cX8_undo 7 = .ok (.bipush (-3), 2) := by decide +kernel
theorem dX8_undo_9 : decode cX8_undo 9 = .ok (.ireturn, 1) := by decide +kernel
theorem dX8_undo_10 : decode cX8_undo 10 = .ok (.aload_n 0, 1) := by decide +kernel
theorem dX8_undo_11 : decode cX8_undo 11 = .ok (.dup, 1) := by decide +kernel
theorem dX8_undo_12 : decode cX8_undo 12 = .ok (.getfield 120, 3) := by decide +kernel
theorem dX8_undo_15 : decode cX8_undo 15 = .ok (.iconst 1, 1) := by decide +kernel
theorem dX8_undo_16 : decode cX8_undo 16 = .ok (.isub, 1) := by decide +kernel
theorem dX8_undo_17 : decode cX8_undo 17 = .ok (.putfield 120, 3) := by decide +kernel
theorem dX8_undo_20 : decode cX8_undo 20 = .ok (.aload_n 0, 1) := by decide +kernel
theorem dX8_undo_21 : decode cX8_undo 21 = .ok (.aload_n 0, 1) := by decide +kernel
theorem dX8_undo_22 : decode cX8_undo 22 = .ok (.getfield 193, 3) := by decide +kernel
theorem dX8_undo_25 : decode cX8_undo 25 = .ok (.bipush 14, 2) := by decide +kernel
theorem dX8_undo_27 : decode cX8_undo 27 = .ok (.iadd, 1) := by decide +kernel
theorem dX8_undo_28 : decode cX8_undo 28 = .ok (.iconst 1, 1) := by decide +kernel
theorem dX8_undo_29 : decode cX8_undo 29 = .ok (.isub, 1) := by decide +kernel
theorem dX8_undo_30 : decode cX8_undo 30 = .ok (.bipush 14, 2) := by decide +kernel
theorem dX8_undo_32 : decode cX8_undo 32 = .ok (.irem, 1) := by decide +kernel
theorem dX8_undo_33 : decode cX8_undo 33 = .ok (.putfield 193, 3) := by decide +kernel
theorem dX8_undo_36 : decode cX8_undo 36 = .ok (.iconst 0, 1) := by decide +kernel
theorem dX8_undo_37 : decode cX8_undo 37 = .ok (.istore_n 1, 1) := by decide +kernel
theorem dX8_undo_38 : decode cX8_undo 38 = .ok (.iload_n 1, 1) := by decide +kernel
theorem dX8_undo_39 : decode cX8_undo 39 = .ok (.bipush 30, 2) := by decide +kernel
theorem dX8_undo_41 : decode cX8_undo 41 = .ok (.if_icmp .ge 29, 3) := by decide +kernel
theorem dX8_undo_44 : decode cX8_undo 44 = .ok (.aload_n 0, 1) := by decide +kernel
theorem dX8_undo_45 : decode cX8_undo 45 = .ok (.getfield 13, 3) := by decide +kernel
theorem dX8_undo_48 : decode cX8_undo 48 = .ok (.iload_n 1, 1) := by decide +kernel
theorem dX8_undo_49 : decode cX8_undo 49 = .ok (.aload_n 0, 1) := by decide +kernel
theorem dX8_undo_50 : decode cX8_undo 50 = .ok (.getfield 19, 3) := by decide +kernel
theorem dX8_undo_53 : decode cX8_undo 53 = .ok (.bipush 30, 2) := by decide +kernel
theorem dX8_undo_55 : decode cX8_undo 55 = .ok (.aload_n 0, 1) := by decide +kernel
theorem dX8_undo_56 : decode cX8_undo 56 = .ok (.getfield 193, 3) := by decide +kernel
theorem dX8_undo_59 : decode cX8_undo 59 = .ok (.imul, 1) := by decide +kernel
theorem dX8_undo_60 : decode cX8_undo 60 = .ok (.iload_n 1, 1) := by decide +kernel
theorem dX8_undo_61 : decode cX8_undo 61 = .ok (.iadd, 1) := by decide +kernel
theorem dX8_undo_62 : decode cX8_undo 62 = .ok (.iaload, 1) := by decide +kernel
theorem dX8_undo_63 : decode cX8_undo 63 = .ok (.iastore, 1) := by decide +kernel
theorem dX8_undo_64 : decode cX8_undo 64 = .ok (.iinc 1 1, 3) := by decide +kernel
theorem dX8_undo_67 : decode cX8_undo 67 = .ok (.goto (-29), 3) := by decide +kernel
theorem dX8_undo_70 : decode cX8_undo 70 = .ok (.aload_n 0, 1) := by decide +kernel
theorem dX8_undo_71 : decode cX8_undo 71 = .ok (.getfield 120, 3) := by decide +kernel
theorem dX8_undo_74 : decode cX8_undo 74 = .ok (.ireturn, 1) := by decide +kernel
theorem dX8_ahead_0 : decode cX8_ahead 0 = .ok (.aload_n 0, 1) := by decide +kernel
theorem dX8_ahead_1 : decode cX8_ahead 1 = .ok (.iload_n 2, 1) := by decide +kernel
theorem dX8_ahead_2 : decode cX8_ahead 2 = .ok (.invokevirtual 188, 3) := by decide +kernel
theorem dX8_ahead_5 : decode cX8_ahead 5 = .ok (.ifCond .ne 5, 3) := by decide +kernel
theorem dX8_ahead_8 : decode cX8_ahead 8 = .ok (.iconst (-1), 1) := by decide +kernel
theorem dX8_ahead_9 : decode cX8_ahead 9 = .ok (.ireturn, 1) := by decide +kernel
theorem dX8_ahead_10 : decode cX8_ahead 10 = .ok (.iload_n 1, 1) := by decide +kernel
theorem dX8_ahead_11 : decode cX8_ahead 11 = .ok (.i2l, 1) := by decide +kernel
theorem dX8_ahead_12 : decode cX8_ahead 12 = .ok (.lconst 0, 1) := by decide +kernel
theorem dX8_ahead_13 : decode cX8_ahead 13 = .ok (.ldc2_w 91, 3) := by decide +kernel
theorem dX8_ahead_16 : decode cX8_ahead 16 = .ok (.invokestatic 69, 3) := by decide +kernel
theorem dX8_ahead_19 : decode cX8_ahead 19 = .ok (.ifCond .ne 6, 3) := by decide +kernel
theorem dX8_ahead_22 : decode cX8_ahead 22 = .ok (.bipush (-2), 2) := by decide +kernel
theorem dX8_ahead_24 : decode cX8_ahead 24 = .ok (.ireturn, 1) := by decide +kernel
theorem dX8_ahead_25 : decode cX8_ahead 25 = .ok (.aload_n 0, 1) := by decide +kernel
theorem dX8_ahead_26 : decode cX8_ahead 26 = .ok (.getfield 13, 3) := by decide +kernel
theorem dX8_ahead_29 : decode cX8_ahead 29 = .ok (.aload_n 0, 1) := by decide +kernel
theorem dX8_ahead_30 : decode cX8_ahead 30 = .ok (.getfield 16, 3) := by decide +kernel
theorem dX8_ahead_33 : decode cX8_ahead 33 = .ok (.invokestatic 168, 3) := by decide +kernel
theorem dX8_ahead_36 : decode cX8_ahead 36 = .ok (.aload_n 0, 1) := by decide +kernel
theorem dX8_ahead_37 : decode cX8_ahead 37 = .ok (.aload_n 0, 1) := by decide +kernel
theorem dX8_ahead_38 : decode cX8_ahead 38 = .ok (.getfield 16, 3) := by decide +kernel
theorem dX8_ahead_41 : decode cX8_ahead 41 = .ok (.iload_n 1, 1) := by decide +kernel
theorem dX8_ahead_42 : decode cX8_ahead 42 = .ok (.invokevirtual 205, 3) := by decide +kernel
theorem dX8_ahead_45 : decode cX8_ahead 45 = .ok (.istore_n 3, 1) := by decide +kernel
theorem dX8_ahead_46 : decode cX8_ahead 46 = .ok (.aload_n 0, 1) := by decide +kernel
theorem dX8_ahead_47 : decode cX8_ahead 47 = .ok (.getfield 16, 3) := by decide +kernel
theorem dX8_ahead_50 : decode cX8_ahead 50 = .ok (.iload_n 2, 1) := by decide +kernel
theorem dX8_ahead_51 : decode cX8_ahead 51 = .ok (.iaload, 1) := by decide +kernel
theorem dX8_ahead_52 : decode cX8_ahead 52 = .ok (.ireturn, 1) := by decide +kernel
theorem dX8_fit_0 : decode cX8_fit 0 = .ok (.iload_n 1, 1) := by decide +kernel
theorem dX8_fit_1 : decode cX8_fit 1 = .ok (.i2l, 1) := by decide +kernel
theorem dX8_fit_2 : decode cX8_fit 2 = .ok (.lconst 0, 1) := by decide +kernel
theorem dX8_fit_3 : decode cX8_fit 3 = .ok (.ldc2_w 86, 3) := by decide +kernel
theorem dX8_fit_6 : decode cX8_fit 6 = .ok (.invokestatic 69, 3) := by decide +kernel
theorem dX8_fit_9 : decode cX8_fit 9 = .ok (.ifCond .ne 6, 3) := by decide +kernel
theorem dX8_fit_12 : decode cX8_fit 12 = .ok (.bipush (-2), 2) := by decide +kernel
theorem dX8_fit_14 : decode cX8_fit 14 = .ok (.ireturn, 1) := by decide +kernel
theorem dX8_fit_15 : decode cX8_fit 15 = .ok (.bipush (-9), 2) := by decide +kernel
theorem dX8_fit_17 : decode cX8_fit 17 = .ok (.istore_n 2, 1) := by decide +kernel
theorem dX8_fit_18 : decode cX8_fit 18 = .ok (.iconst 0, 1) := by decide +kernel
theorem dX8_fit_19 : decode cX8_fit 19 = .ok (.istore_n 3, 1) := by decide +kernel
theorem dX8_fit_20 : decode cX8_fit 20 = .ok (.iconst 0, 1) := by decide +kernel
theorem dX8_fit_21 : decode cX8_fit 21 = .ok (.istore 4, 2) := by decide +kernel
theorem dX8_fit_23 : decode cX8_fit 23 = .ok (.iload 4, 2) := by decide +kernel
theorem dX8_fit_25 : decode cX8_fit 25 = .ok (.bipush 10, 2) := by decide +kernel
theorem dX8_fit_27 : decode cX8_fit 27 = .ok (.if_icmp .ge 68, 3) := by decide +kernel
theorem dX8_fit_30 : decode cX8_fit 30 = .ok (.aload_n 0, 1) := by decide +kernel
theorem dX8_fit_31 : decode cX8_fit 31 = .ok (.getfield 13, 3) := by decide +kernel
theorem dX8_fit_34 : decode cX8_fit 34 = .ok (.iload_n 1, 1) := by decide +kernel
theorem dX8_fit_35 : decode cX8_fit 35 = .ok (.iload 4, 2) := by decide +kernel
theorem dX8_fit_37 : decode cX8_fit 37 = .ok (.invokestatic 211, 3) := by decide +kernel
theorem dX8_fit_40 : decode cX8_fit 40 = .ok (.ifCond .eq 49, 3) := by decide +kernel
theorem dX8_fit_43 : decode cX8_fit 43 = .ok (.aload_n 0, 1) := by decide +kernel
theorem dX8_fit_44 : decode cX8_fit 44 = .ok (.getfield 13, 3) := by decide +kernel
theorem dX8_fit_47 : decode cX8_fit 47 = .ok (.aload_n 0, 1) := by decide +kernel
theorem dX8_fit_48 : decode cX8_fit 48 = .ok (.getfield 16, 3) := by decide +kernel
theorem dX8_fit_51 : decode cX8_fit 51 = .ok (.invokestatic 168, 3) := by decide +kernel
theorem dX8_fit_54 : decode cX8_fit 54 = .ok (.aload_n 0, 1) := by decide +kernel
theorem dX8_fit_55 : decode cX8_fit 55 = .ok (.getfield 16, 3) := by decide +kernel
theorem dX8_fit_58 : decode cX8_fit 58 = .ok (.bipush 8, 2) := by decide +kernel
theorem dX8_fit_60 : decode cX8_fit 60 = .ok (.iload_n 1, 1) := by decide +kernel
theorem dX8_fit_61 : decode cX8_fit 61 = .ok (.iadd, 1) := by decide +kernel
theorem dX8_fit_62 : decode cX8_fit 62 = .ok (.iload 4, 2) := by decide +kernel
theorem dX8_fit_64 : decode cX8_fit 64 = .ok (.iastore, 1) := by decide +kernel
theorem dX8_fit_65 : decode cX8_fit 65 = .ok (.aload_n 0, 1) := by decide +kernel
theorem dX8_fit_66 : decode cX8_fit 66 = .ok (.invokevirtual 217, 3) := by decide +kernel
theorem dX8_fit_69 : decode cX8_fit 69 = .ok (.istore 5, 2) := by decide +kernel
theorem dX8_fit_71 : decode cX8_fit 71 = .ok (.iload_n 2, 1) := by decide +kernel
theorem dX8_fit_72 : decode cX8_fit 72 = .ok (.bipush (-9), 2) := by decide +kernel
theorem dX8_fit_74 : decode cX8_fit 74 = .ok (.if_icmp .eq 9, 3) := by decide +kernel
theorem dX8_fit_77 : decode cX8_fit 77 = .ok (.iload 5, 2) := by decide +kernel
theorem dX8_fit_79 : decode cX8_fit 79 = .ok (.iload_n 3, 1) := by decide +kernel
theorem dX8_fit_80 : decode cX8_fit 80 = .ok (.if_icmp .le 9, 3) := by decide +kernel
theorem dX8_fit_83 : decode cX8_fit 83 = .ok (.iload 4, 2) := by decide +kernel
theorem dX8_fit_85 : decode cX8_fit 85 = .ok (.istore_n 2, 1) := by decide +kernel
theorem dX8_fit_86 : decode cX8_fit 86 = .ok (.iload 5, 2) := by decide +kernel
theorem dX8_fit_88 : decode cX8_fit 88 = .ok (.istore_n 3, 1) := by decide +kernel
theorem dX8_fit_89 : decode cX8_fit 89 = .ok (.iinc 4 1, 3) := by decide +kernel
theorem dX8_fit_92 : decode cX8_fit 92 = .ok (.goto (-69), 3) := by decide +kernel
theorem dX8_fit_95 : decode cX8_fit 95 = .ok (.iload_n 2, 1) := by decide +kernel
theorem dX8_fit_96 : decode cX8_fit 96 = .ok (.ireturn, 1) := by decide +kernel
theorem dX8_judged_0 : decode cX8_judged 0 = .ok (.iload_n 2, 1) := by decide +kernel
theorem dX8_judged_1 : decode cX8_judged 1 = .ok (.bipush 100, 2) := by decide +kernel
theorem dX8_judged_3 : decode cX8_judged 3 = .ok (.idiv, 1) := by decide +kernel
theorem dX8_judged_4 : decode cX8_judged 4 = .ok (.istore_n 3, 1) := by decide +kernel
theorem dX8_judged_5 : decode cX8_judged 5 = .ok (.iload_n 2, 1) := by decide +kernel
theorem dX8_judged_6 : decode cX8_judged 6 = .ok (.bipush 100, 2) := by decide +kernel
theorem dX8_judged_8 : decode cX8_judged 8 = .ok (.irem, 1) := by decide +kernel
theorem dX8_judged_9 : decode cX8_judged 9 = .ok (.istore 4, 2) := by decide +kernel
theorem dX8_judged_11 : decode cX8_judged 11 = .ok (.iload_n 1, 1) := by decide +kernel
theorem dX8_judged_12 : decode cX8_judged 12 = .ok (.tableswitch 254 1 6 #[40, 72, 103, 146, 163, 208], 40) := by decide +kernel
theorem dX8_judged_52 : decode cX8_judged 52 = .ok (.aload_n 0, 1) := by decide +kernel
theorem dX8_judged_53 : decode cX8_judged 53 = .ok (.iload_n 2, 1) := by decide +kernel
theorem dX8_judged_54 : decode cX8_judged 54 = .ok (.invokevirtual 196, 3) := by decide +kernel
theorem dX8_judged_57 : decode cX8_judged 57 = .ok (.ifCond .eq 15, 3) := by decide +kernel
theorem dX8_judged_60 : decode cX8_judged 60 = .ok (.aload_n 0, 1) := by decide +kernel
theorem dX8_judged_61 : decode cX8_judged 61 = .ok (.getfield 16, 3) := by decide +kernel
theorem dX8_judged_64 : decode cX8_judged 64 = .ok (.bipush 21, 2) := by decide +kernel
theorem dX8_judged_66 : decode cX8_judged 66 = .ok (.iaload, 1) := by decide +kernel
theorem dX8_judged_67 : decode cX8_judged 67 = .ok (.bipush 8, 2) := by decide +kernel
theorem dX8_judged_69 : decode cX8_judged 69 = .ok (.if_icmp .ne 5, 3) := by decide +kernel
theorem dX8_judged_72 : decode cX8_judged 72 = .ok (.iconst 0, 1) := by decide +kernel
theorem dX8_judged_73 : decode cX8_judged 73 = .ok (.ireturn, 1) := by decide +kernel
theorem dX8_judged_74 : decode cX8_judged 74 = .ok (.aload_n 0, 1) := by decide +kernel
theorem dX8_judged_75 : decode cX8_judged 75 = .ok (.getfield 16, 3) := by decide +kernel
theorem dX8_judged_78 : decode cX8_judged 78 = .ok (.iload_n 2, 1) := by decide +kernel
theorem dX8_judged_79 : decode cX8_judged 79 = .ok (.invokestatic 202, 3) := by decide +kernel
theorem dX8_judged_82 : decode cX8_judged 82 = .ok (.iconst 1, 1) := by decide +kernel
theorem dX8_judged_83 : decode cX8_judged 83 = .ok (.ireturn, 1) := by decide +kernel
theorem dX8_judged_84 : decode cX8_judged 84 = .ok (.iload_n 2, 1) := by decide +kernel
theorem dX8_judged_85 : decode cX8_judged 85 = .ok (.i2l, 1) := by decide +kernel
theorem dX8_judged_86 : decode cX8_judged 86 = .ok (.lconst 1, 1) := by decide +kernel
theorem dX8_judged_87 : decode cX8_judged 87 = .ok (.ldc2_w 91, 3) := by decide +kernel
theorem dX8_judged_90 : decode cX8_judged 90 = .ok (.invokestatic 69, 3) := by decide +kernel
theorem dX8_judged_93 : decode cX8_judged 93 = .ok (.ifCond .eq 20, 3) := by decide +kernel
theorem dX8_judged_96 : decode cX8_judged 96 = .ok (.aload_n 0, 1) := by decide +kernel
theorem dX8_judged_97 : decode cX8_judged 97 = .ok (.aload_n 0, 1) := by decide +kernel
theorem dX8_judged_98 : decode cX8_judged 98 = .ok (.getfield 16, 3) := by decide +kernel
theorem dX8_judged_101 : decode cX8_judged 101 = .ok (.iload_n 2, 1) := by decide +kernel
theorem dX8_judged_102 : decode cX8_judged 102 = .ok (.invokevirtual 205, 3) := by decide +kernel
theorem dX8_judged_105 : decode cX8_judged 105 = .ok (.iload_n 2, 1) := by decide +kernel
theorem dX8_judged_106 : decode cX8_judged 106 = .ok (.if_icmp .ne 7, 3) := by decide +kernel
theorem dX8_judged_109 : decode cX8_judged 109 = .ok (.iconst 1, 1) := by decide +kernel
theorem dX8_judged_110 : decode cX8_judged 110 = .ok (.goto 4, 3) := by decide +kernel
theorem dX8_judged_113 : decode cX8_judged 113 = .ok (.iconst 0, 1) := by decide +kernel
theorem dX8_judged_114 : decode cX8_judged 114 = .ok (.ireturn, 1) := by decide +kernel
theorem dX8_judged_115 : decode cX8_judged 115 = .ok (.iconst 0, 1) := by decide +kernel
theorem dX8_judged_116 : decode cX8_judged 116 = .ok (.istore 5, 2) := by decide +kernel
theorem dX8_judged_118 : decode cX8_judged 118 = .ok (.iload 5, 2) := by decide +kernel
theorem dX8_judged_120 : decode cX8_judged 120 = .ok (.iload 4, 2) := by decide +kernel
theorem dX8_judged_122 : decode cX8_judged 122 = .ok (.if_icmp .ge 21, 3) := by decide +kernel
theorem dX8_judged_125 : decode cX8_judged 125 = .ok (.iload_n 3, 1) := by decide +kernel
theorem dX8_judged_126 : decode cX8_judged 126 = .ok (.ifCond .ne 17, 3) := by decide +kernel
theorem dX8_judged_129 : decode cX8_judged 129 = .ok (.aload_n 0, 1) := by decide +kernel
theorem dX8_judged_130 : decode cX8_judged 130 = .ok (.aload_n 0, 1) := by decide +kernel
theorem dX8_judged_131 : decode cX8_judged 131 = .ok (.getfield 16, 3) := by decide +kernel
theorem dX8_judged_134 : decode cX8_judged 134 = .ok (.invokevirtual 133, 3) := by decide +kernel
theorem dX8_judged_137 : decode cX8_judged 137 = .ok (.iinc 5 1, 3) := by decide +kernel
theorem dX8_judged_140 : decode cX8_judged 140 = .ok (.goto (-22), 3) := by decide +kernel
theorem dX8_judged_143 : decode cX8_judged 143 = .ok (.iload_n 3, 1) := by decide +kernel
theorem dX8_judged_144 : decode cX8_judged 144 = .ok (.ifCond .ne 12, 3) := by decide +kernel
theorem dX8_judged_147 : decode cX8_judged 147 = .ok (.iload 4, 2) := by decide +kernel
theorem dX8_judged_149 : decode cX8_judged 149 = .ok (.ifCond .le 7, 3) := by decide +kernel
theorem dX8_judged_152 : decode cX8_judged 152 = .ok (.iconst 1, 1) := by decide +kernel
theorem dX8_judged_153 : decode cX8_judged 153 = .ok (.goto 4, 3) := by decide +kernel
theorem dX8_judged_156 : decode cX8_judged 156 = .ok (.iconst 0, 1) := by decide +kernel
theorem dX8_judged_157 : decode cX8_judged 157 = .ok (.ireturn, 1) := by decide +kernel
theorem dX8_judged_158 : decode cX8_judged 158 = .ok (.aload_n 0, 1) := by decide +kernel
theorem dX8_judged_159 : decode cX8_judged 159 = .ok (.getfield 16, 3) := by decide +kernel
theorem dX8_judged_162 : decode cX8_judged 162 = .ok (.bipush 25, 2) := by decide +kernel
theorem dX8_judged_164 : decode cX8_judged 164 = .ok (.iaload, 1) := by decide +kernel
theorem dX8_judged_165 : decode cX8_judged 165 = .ok (.iload_n 2, 1) := by decide +kernel
theorem dX8_judged_166 : decode cX8_judged 166 = .ok (.if_icmp .ne 7, 3) := by decide +kernel
theorem dX8_judged_169 : decode cX8_judged 169 = .ok (.iconst 1, 1) := by decide +kernel
theorem dX8_judged_170 : decode cX8_judged 170 = .ok (.goto 4, 3) := by decide +kernel
theorem dX8_judged_173 : decode cX8_judged 173 = .ok (.iconst 0, 1) := by decide +kernel
theorem dX8_judged_174 : decode cX8_judged 174 = .ok (.ireturn, 1) := by decide +kernel
theorem dX8_judged_175 : decode cX8_judged 175 = .ok (.aload_n 0, 1) := by decide +kernel
theorem dX8_judged_176 : decode cX8_judged 176 = .ok (.iload_n 3, 1) := by decide +kernel
theorem dX8_judged_177 : decode cX8_judged 177 = .ok (.invokevirtual 188, 3) := by decide +kernel
theorem dX8_judged_180 : decode cX8_judged 180 = .ok (.ifCond .eq 38, 3) := by decide +kernel
theorem dX8_judged_183 : decode cX8_judged 183 = .ok (.iload 4, 2) := by decide +kernel
theorem dX8_judged_185 : decode cX8_judged 185 = .ok (.iconst 2, 1) := by decide +kernel
theorem dX8_judged_186 : decode cX8_judged 186 = .ok (.if_icmp .ge 32, 3) := by decide +kernel
theorem dX8_judged_189 : decode cX8_judged 189 = .ok (.aload_n 0, 1) := by decide +kernel
theorem dX8_judged_190 : decode cX8_judged 190 = .ok (.getfield 16, 3) := by decide +kernel
theorem dX8_judged_193 : decode cX8_judged 193 = .ok (.bipush 22, 2) := by decide +kernel
theorem dX8_judged_195 : decode cX8_judged 195 = .ok (.iaload, 1) := by decide +kernel
theorem dX8_judged_196 : decode cX8_judged 196 = .ok (.iload_n 3, 1) := by decide +kernel
theorem dX8_judged_197 : decode cX8_judged 197 = .ok (.invokestatic 123, 3) := by decide +kernel
theorem dX8_judged_200 : decode cX8_judged 200 = .ok (.iload 4, 2) := by decide +kernel
theorem dX8_judged_202 : decode cX8_judged 202 = .ok (.iconst 1, 1) := by decide +kernel
theorem dX8_judged_203 : decode cX8_judged 203 = .ok (.if_icmp .ne 7, 3) := by decide +kernel
theorem dX8_judged_206 : decode cX8_judged 206 = .ok (.iconst 1, 1) := by decide +kernel
theorem dX8_judged_207 : decode cX8_judged 207 = .ok (.goto 4, 3) := by decide +kernel
theorem dX8_judged_210 : decode cX8_judged 210 = .ok (.iconst 0, 1) := by decide +kernel
theorem dX8_judged_211 : decode cX8_judged 211 = .ok (.if_icmp .ne 7, 3) := by decide +kernel
theorem dX8_judged_214 : decode cX8_judged 214 = .ok (.iconst 1, 1) := by decide +kernel
theorem dX8_judged_215 : decode cX8_judged 215 = .ok (.goto 4, 3) := by decide +kernel
theorem dX8_judged_218 : decode cX8_judged 218 = .ok (.iconst 0, 1) := by decide +kernel
theorem dX8_judged_219 : decode cX8_judged 219 = .ok (.ireturn, 1) := by decide +kernel
theorem dX8_judged_220 : decode cX8_judged 220 = .ok (.iload_n 3, 1) := by decide +kernel
theorem dX8_judged_221 : decode cX8_judged 221 = .ok (.ifCond .ne 23, 3) := by decide +kernel
theorem dX8_judged_224 : decode cX8_judged 224 = .ok (.aload_n 0, 1) := by decide +kernel
theorem dX8_judged_225 : decode cX8_judged 225 = .ok (.getfield 16, 3) := by decide +kernel
theorem dX8_judged_228 : decode cX8_judged 228 = .ok (.iload 4, 2) := by decide +kernel
theorem dX8_judged_230 : decode cX8_judged 230 = .ok (.bipush 10, 2) := by decide +kernel
theorem dX8_judged_232 : decode cX8_judged 232 = .ok (.idiv, 1) := by decide +kernel
theorem dX8_judged_233 : decode cX8_judged 233 = .ok (.iload 4, 2) := by decide +kernel
theorem dX8_judged_235 : decode cX8_judged 235 = .ok (.bipush 10, 2) := by decide +kernel
theorem dX8_judged_237 : decode cX8_judged 237 = .ok (.irem, 1) := by decide +kernel
theorem dX8_judged_238 : decode cX8_judged 238 = .ok (.invokestatic 211, 3) := by decide +kernel
theorem dX8_judged_241 : decode cX8_judged 241 = .ok (.ifCond .ne 5, 3) := by decide +kernel
theorem dX8_judged_244 : decode cX8_judged 244 = .ok (.iconst 0, 1) := by decide +kernel
theorem dX8_judged_245 : decode cX8_judged 245 = .ok (.ireturn, 1) := by decide +kernel
theorem dX8_judged_246 : decode cX8_judged 246 = .ok (.aload_n 0, 1) := by decide +kernel
theorem dX8_judged_247 : decode cX8_judged 247 = .ok (.getfield 16, 3) := by decide +kernel
theorem dX8_judged_250 : decode cX8_judged 250 = .ok (.bipush 8, 2) := by decide +kernel
theorem dX8_judged_252 : decode cX8_judged 252 = .ok (.iload 4, 2) := by decide +kernel
theorem dX8_judged_254 : decode cX8_judged 254 = .ok (.bipush 10, 2) := by decide +kernel
theorem dX8_judged_256 : decode cX8_judged 256 = .ok (.idiv, 1) := by decide +kernel
theorem dX8_judged_257 : decode cX8_judged 257 = .ok (.iadd, 1) := by decide +kernel
theorem dX8_judged_258 : decode cX8_judged 258 = .ok (.iload 4, 2) := by decide +kernel
theorem dX8_judged_260 : decode cX8_judged 260 = .ok (.bipush 10, 2) := by decide +kernel
theorem dX8_judged_262 : decode cX8_judged 262 = .ok (.irem, 1) := by decide +kernel
theorem dX8_judged_263 : decode cX8_judged 263 = .ok (.iastore, 1) := by decide +kernel
theorem dX8_judged_264 : decode cX8_judged 264 = .ok (.iconst 1, 1) := by decide +kernel
theorem dX8_judged_265 : decode cX8_judged 265 = .ok (.ireturn, 1) := by decide +kernel
theorem dX8_judged_266 : decode cX8_judged 266 = .ok (.iconst 0, 1) := by decide +kernel
theorem dX8_judged_267 : decode cX8_judged 267 = .ok (.ireturn, 1) := by decide +kernel
theorem dX8_tenThousands_0 : decode cX8_tenThousands 0 = .ok (.lconst 1, 1) := by decide +kernel
theorem dX8_tenThousands_1 : decode cX8_tenThousands 1 = .ok (.lstore_n 1, 1) := by decide +kernel
theorem dX8_tenThousands_2 : decode cX8_tenThousands 2 = .ok (.iconst 0, 1) := by decide +kernel
theorem dX8_tenThousands_3 : decode cX8_tenThousands 3 = .ok (.istore_n 3, 1) := by decide +kernel
theorem dX8_tenThousands_4 : decode cX8_tenThousands 4 = .ok (.iload_n 3, 1) := by decide +kernel
theorem dX8_tenThousands_5 : decode cX8_tenThousands 5 = .ok (.iload_n 0, 1) := by decide +kernel
theorem dX8_tenThousands_6 : decode cX8_tenThousands 6 = .ok (.if_icmp .ge 15, 3) := by decide +kernel
theorem dX8_tenThousands_9 : decode cX8_tenThousands 9 = .ok (.lload_n 1, 1) := by decide +kernel
theorem dX8_tenThousands_10 : decode cX8_tenThousands 10 = .ok (.ldc2_w 220, 3) := by decide +kernel
theorem dX8_tenThousands_13 : decode cX8_tenThousands 13 = .ok (.lmul, 1) := by decide +kernel
theorem dX8_tenThousands_14 : decode cX8_tenThousands 14 = .ok (.lstore_n 1, 1) := by decide +kernel
theorem dX8_tenThousands_15 : decode cX8_tenThousands 15 = .ok (.iinc 3 1, 3) := by decide +kernel
theorem dX8_tenThousands_18 : decode cX8_tenThousands 18 = .ok (.goto (-14), 3) := by decide +kernel
theorem dX8_tenThousands_21 : decode cX8_tenThousands 21 = .ok (.lload_n 1, 1) := by decide +kernel
theorem dX8_tenThousands_22 : decode cX8_tenThousands 22 = .ok (.lreturn, 1) := by decide +kernel
theorem dX8_judge_0 : decode cX8_judge 0 = .ok (.iload_n 1, 1) := by decide +kernel
theorem dX8_judge_1 : decode cX8_judge 1 = .ok (.i2l, 1) := by decide +kernel
theorem dX8_judge_2 : decode cX8_judge 2 = .ok (.lconst 1, 1) := by decide +kernel
theorem dX8_judge_3 : decode cX8_judge 3 = .ok (.ldc2_w 86, 3) := by decide +kernel
theorem dX8_judge_6 : decode cX8_judge 6 = .ok (.invokestatic 69, 3) := by decide +kernel
theorem dX8_judge_9 : decode cX8_judge 9 = .ok (.ifCond .eq 17, 3) := by decide +kernel
theorem dX8_judge_12 : decode cX8_judge 12 = .ok (.lload_n 2, 1) := by decide +kernel
theorem dX8_judge_13 : decode cX8_judge 13 = .ok (.lconst 0, 1) := by decide +kernel
theorem dX8_judge_14 : decode cX8_judge 14 = .ok (.iload_n 1, 1) := by decide +kernel
theorem dX8_judge_15 : decode cX8_judge 15 = .ok (.invokestatic 222, 3) := by decide +kernel
theorem dX8_judge_18 : decode cX8_judge 18 = .ok (.lconst 1, 1) := by decide +kernel
theorem dX8_judge_19 : decode cX8_judge 19 = .ok (.lsub, 1) := by decide +kernel
theorem dX8_judge_20 : decode cX8_judge 20 = .ok (.invokestatic 69, 3) := by decide +kernel
theorem dX8_judge_23 : decode cX8_judge 23 = .ok (.ifCond .ne 6, 3) := by decide +kernel
theorem dX8_judge_26 : decode cX8_judge 26 = .ok (.bipush (-2), 2) := by decide +kernel
theorem dX8_judge_28 : decode cX8_judge 28 = .ok (.ireturn, 1) := by decide +kernel
theorem dX8_judge_29 : decode cX8_judge 29 = .ok (.aload_n 0, 1) := by decide +kernel
theorem dX8_judge_30 : decode cX8_judge 30 = .ok (.getfield 13, 3) := by decide +kernel
theorem dX8_judge_33 : decode cX8_judge 33 = .ok (.aload_n 0, 1) := by decide +kernel
theorem dX8_judge_34 : decode cX8_judge 34 = .ok (.getfield 16, 3) := by decide +kernel
theorem dX8_judge_37 : decode cX8_judge 37 = .ok (.invokestatic 168, 3) := by decide +kernel
theorem dX8_judge_40 : decode cX8_judge 40 = .ok (.iconst 0, 1) := by decide +kernel
theorem dX8_judge_41 : decode cX8_judge 41 = .ok (.istore 4, 2) := by decide +kernel
theorem dX8_judge_43 : decode cX8_judge 43 = .ok (.iload 4, 2) := by decide +kernel
theorem dX8_judge_45 : decode cX8_judge 45 = .ok (.iload_n 1, 1) := by decide +kernel
theorem dX8_judge_46 : decode cX8_judge 46 = .ok (.if_icmp .ge 49, 3) := by decide +kernel
theorem dX8_judge_49 : decode cX8_judge 49 = .ok (.lload_n 2, 1) := by decide +kernel
theorem dX8_judge_50 : decode cX8_judge 50 = .ok (.iload_n 1, 1) := by decide +kernel
theorem dX8_judge_51 : decode cX8_judge 51 = .ok (.iconst 1, 1) := by decide +kernel
theorem dX8_judge_52 : decode cX8_judge 52 = .ok (.isub, 1) := by decide +kernel
theorem dX8_judge_53 : decode cX8_judge 53 = .ok (.iload 4, 2) := by decide +kernel
theorem dX8_judge_55 : decode cX8_judge 55 = .ok (.isub, 1) := by decide +kernel
theorem dX8_judge_56 : decode cX8_judge 56 = .ok (.invokestatic 222, 3) := by decide +kernel
theorem dX8_judge_59 : decode cX8_judge 59 = .ok (.ldiv, 1) := by decide +kernel
theorem dX8_judge_60 : decode cX8_judge 60 = .ok (.ldc2_w 220, 3) := by decide +kernel
theorem dX8_judge_63 : decode cX8_judge 63 = .ok (.lrem, 1) := by decide +kernel
theorem dX8_judge_64 : decode cX8_judge 64 = .ok (.l2i, 1) := by decide +kernel
theorem dX8_judge_65 : decode cX8_judge 65 = .ok (.istore 5, 2) := by decide +kernel
theorem dX8_judge_67 : decode cX8_judge 67 = .ok (.aload_n 0, 1) := by decide +kernel
theorem dX8_judge_68 : decode cX8_judge 68 = .ok (.iload 5, 2) := by decide +kernel
theorem dX8_judge_70 : decode cX8_judge 70 = .ok (.sipush 1000, 3) := by decide +kernel
theorem dX8_judge_73 : decode cX8_judge 73 = .ok (.idiv, 1) := by decide +kernel
theorem dX8_judge_74 : decode cX8_judge 74 = .ok (.iload 5, 2) := by decide +kernel
theorem dX8_judge_76 : decode cX8_judge 76 = .ok (.sipush 1000, 3) := by decide +kernel
theorem dX8_judge_79 : decode cX8_judge 79 = .ok (.irem, 1) := by decide +kernel
theorem dX8_judge_80 : decode cX8_judge 80 = .ok (.invokevirtual 226, 3) := by decide +kernel
theorem dX8_judge_83 : decode cX8_judge 83 = .ok (.ifCond .ne 6, 3) := by decide +kernel
theorem dX8_judge_86 : decode cX8_judge 86 = .ok (.iload 4, 2) := by decide +kernel
theorem dX8_judge_88 : decode cX8_judge 88 = .ok (.ireturn, 1) := by decide +kernel
theorem dX8_judge_89 : decode cX8_judge 89 = .ok (.iinc 4 1, 3) := by decide +kernel
theorem dX8_judge_92 : decode cX8_judge 92 = .ok (.goto (-49), 3) := by decide +kernel
theorem dX8_judge_95 : decode cX8_judge 95 = .ok (.bipush (-9), 2) := by decide +kernel
theorem dX8_judge_97 : decode cX8_judge 97 = .ok (.ireturn, 1) := by decide +kernel
theorem dX8_see_0 : decode cX8_see 0 = .ok (.aload_n 0, 1) := by decide +kernel
theorem dX8_see_1 : decode cX8_see 1 = .ok (.iload_n 1, 1) := by decide +kernel
theorem dX8_see_2 : decode cX8_see 2 = .ok (.invokevirtual 188, 3) := by decide +kernel
theorem dX8_see_5 : decode cX8_see 5 = .ok (.ifCond .ne 5, 3) := by decide +kernel
theorem dX8_see_8 : decode cX8_see 8 = .ok (.iconst (-1), 1) := by decide +kernel
theorem dX8_see_9 : decode cX8_see 9 = .ok (.ireturn, 1) := by decide +kernel
theorem dX8_see_10 : decode cX8_see 10 = .ok (.iload_n 2, 1) := by decide +kernel
theorem dX8_see_11 : decode cX8_see 11 = .ok (.i2l, 1) := by decide +kernel
theorem dX8_see_12 : decode cX8_see 12 = .ok (.lconst 0, 1) := by decide +kernel
theorem dX8_see_13 : decode cX8_see 13 = .ok (.ldc2_w 81, 3) := by decide +kernel
theorem dX8_see_16 : decode cX8_see 16 = .ok (.invokestatic 69, 3) := by decide +kernel
theorem dX8_see_19 : decode cX8_see 19 = .ok (.ifCond .eq 15, 3) := by decide +kernel
theorem dX8_see_22 : decode cX8_see 22 = .ok (.iload_n 3, 1) := by decide +kernel
theorem dX8_see_23 : decode cX8_see 23 = .ok (.i2l, 1) := by decide +kernel
theorem dX8_see_24 : decode cX8_see 24 = .ok (.lconst 0, 1) := by decide +kernel
theorem dX8_see_25 : decode cX8_see 25 = .ok (.ldc2_w 215, 3) := by decide +kernel
theorem dX8_see_28 : decode cX8_see 28 = .ok (.invokestatic 69, 3) := by decide +kernel
theorem dX8_see_31 : decode cX8_see 31 = .ok (.ifCond .ne 6, 3) := by decide +kernel
theorem dX8_see_34 : decode cX8_see 34 = .ok (.bipush (-2), 2) := by decide +kernel
theorem dX8_see_36 : decode cX8_see 36 = .ok (.ireturn, 1) := by decide +kernel
theorem dX8_see_37 : decode cX8_see 37 = .ok (.aload_n 0, 1) := by decide +kernel
theorem dX8_see_38 : decode cX8_see 38 = .ok (.getfield 178, 3) := by decide +kernel
theorem dX8_see_41 : decode cX8_see 41 = .ok (.bipush 6, 2) := by decide +kernel
theorem dX8_see_43 : decode cX8_see 43 = .ok (.if_icmp .ne 6, 3) := by decide +kernel
theorem dX8_see_46 : decode cX8_see 46 = .ok (.bipush (-4), 2) := by decide +kernel
theorem dX8_see_48 : decode cX8_see 48 = .ok (.ireturn, 1) := by decide +kernel
theorem dX8_see_49 : decode cX8_see 49 = .ok (.aload_n 0, 1) := by decide +kernel
theorem dX8_see_50 : decode cX8_see 50 = .ok (.getfield 29, 3) := by decide +kernel
theorem dX8_see_53 : decode cX8_see 53 = .ok (.aload_n 0, 1) := by decide +kernel
theorem dX8_see_54 : decode cX8_see 54 = .ok (.getfield 178, 3) := by decide +kernel
theorem dX8_see_57 : decode cX8_see 57 = .ok (.iload_n 1, 1) := by decide +kernel
theorem dX8_see_58 : decode cX8_see 58 = .ok (.iastore, 1) := by decide +kernel
theorem dX8_see_59 : decode cX8_see 59 = .ok (.aload_n 0, 1) := by decide +kernel
theorem dX8_see_60 : decode cX8_see 60 = .ok (.getfield 32, 3) := by decide +kernel
theorem dX8_see_63 : decode cX8_see 63 = .ok (.aload_n 0, 1) := by decide +kernel
theorem dX8_see_64 : decode cX8_see 64 = .ok (.getfield 178, 3) := by decide +kernel
theorem dX8_see_67 : decode cX8_see 67 = .ok (.iload_n 2, 1) := by decide +kernel
theorem dX8_see_68 : decode cX8_see 68 = .ok (.iastore, 1) := by decide +kernel
theorem dX8_see_69 : decode cX8_see 69 = .ok (.aload_n 0, 1) := by decide +kernel
theorem dX8_see_70 : decode cX8_see 70 = .ok (.getfield 35, 3) := by decide +kernel
theorem dX8_see_73 : decode cX8_see 73 = .ok (.aload_n 0, 1) := by decide +kernel
theorem dX8_see_74 : decode cX8_see 74 = .ok (.getfield 178, 3) := by decide +kernel
theorem dX8_see_77 : decode cX8_see 77 = .ok (.iload_n 3, 1) := by decide +kernel
theorem dX8_see_78 : decode cX8_see 78 = .ok (.iastore, 1) := by decide +kernel
theorem dX8_see_79 : decode cX8_see 79 = .ok (.aload_n 0, 1) := by decide +kernel
theorem dX8_see_80 : decode cX8_see 80 = .ok (.dup, 1) := by decide +kernel
theorem dX8_see_81 : decode cX8_see 81 = .ok (.getfield 178, 3) := by decide +kernel
theorem dX8_see_84 : decode cX8_see 84 = .ok (.iconst 1, 1) := by decide +kernel
theorem dX8_see_85 : decode cX8_see 85 = .ok (.iadd, 1) := by decide +kernel
theorem dX8_see_86 : decode cX8_see 86 = .ok (.putfield 178, 3) := by decide +kernel
theorem dX8_see_89 : decode cX8_see 89 = .ok (.aload_n 0, 1) := by decide +kernel
theorem dX8_see_90 : decode cX8_see 90 = .ok (.getfield 178, 3) := by decide +kernel
theorem dX8_see_93 : decode cX8_see 93 = .ok (.ireturn, 1) := by decide +kernel
theorem dX8_unsee_0 : decode cX8_unsee 0 = .ok (.aload_n 0, 1) := by decide +kernel
theorem dX8_unsee_1 : decode cX8_unsee 1 = .ok (.getfield 178, 3) := by decide +kernel
theorem dX8_unsee_4 : decode cX8_unsee 4 = .ok (.istore_n 1, 1) := by decide +kernel
theorem dX8_unsee_5 : decode cX8_unsee 5 = .ok (.aload_n 0, 1) := by decide +kernel
theorem dX8_unsee_6 : decode cX8_unsee 6 = .ok (.iconst 0, 1) := by decide +kernel
theorem dX8_unsee_7 : decode cX8_unsee 7 = .ok (.putfield 178, 3) := by decide +kernel
theorem dX8_unsee_10 : decode cX8_unsee 10 = .ok (.iload_n 1, 1) := by decide +kernel
theorem dX8_unsee_11 : decode cX8_unsee 11 = .ok (.ireturn, 1) := by decide +kernel
theorem dX8_isSoBy_0 : decode cX8_isSoBy 0 = .ok (.aload_n 0, 1) := by decide +kernel
theorem dX8_isSoBy_1 : decode cX8_isSoBy 1 = .ok (.aload_n 0, 1) := by decide +kernel
theorem dX8_isSoBy_2 : decode cX8_isSoBy 2 = .ok (.getfield 29, 3) := by decide +kernel
theorem dX8_isSoBy_5 : decode cX8_isSoBy 5 = .ok (.iload_n 2, 1) := by decide +kernel
theorem dX8_isSoBy_6 : decode cX8_isSoBy 6 = .ok (.iaload, 1) := by decide +kernel
theorem dX8_isSoBy_7 : decode cX8_isSoBy 7 = .ok (.invokevirtual 188, 3) := by decide +kernel
theorem dX8_isSoBy_10 : decode cX8_isSoBy 10 = .ok (.ifCond .ne 5, 3) := by decide +kernel
theorem dX8_isSoBy_13 : decode cX8_isSoBy 13 = .ok (.iconst 1, 1) := by decide +kernel
theorem dX8_isSoBy_14 : decode cX8_isSoBy 14 = .ok (.ireturn, 1) := by decide +kernel
theorem dX8_isSoBy_15 : decode cX8_isSoBy 15 = .ok (.aload_n 0, 1) := by decide +kernel
theorem dX8_isSoBy_16 : decode cX8_isSoBy 16 = .ok (.iconst 1, 1) := by decide +kernel
theorem dX8_isSoBy_17 : decode cX8_isSoBy 17 = .ok (.iload_n 1, 1) := by decide +kernel
theorem dX8_isSoBy_18 : decode cX8_isSoBy 18 = .ok (.ishl, 1) := by decide +kernel
theorem dX8_isSoBy_19 : decode cX8_isSoBy 19 = .ok (.putfield 130, 3) := by decide +kernel
theorem dX8_isSoBy_22 : decode cX8_isSoBy 22 = .ok (.aload_n 0, 1) := by decide +kernel
theorem dX8_isSoBy_23 : decode cX8_isSoBy 23 = .ok (.getfield 13, 3) := by decide +kernel
theorem dX8_isSoBy_26 : decode cX8_isSoBy 26 = .ok (.aload_n 0, 1) := by decide +kernel
theorem dX8_isSoBy_27 : decode cX8_isSoBy 27 = .ok (.getfield 16, 3) := by decide +kernel
theorem dX8_isSoBy_30 : decode cX8_isSoBy 30 = .ok (.invokestatic 168, 3) := by decide +kernel
theorem dX8_isSoBy_33 : decode cX8_isSoBy 33 = .ok (.aload_n 0, 1) := by decide +kernel
theorem dX8_isSoBy_34 : decode cX8_isSoBy 34 = .ok (.aload_n 0, 1) := by decide +kernel
theorem dX8_isSoBy_35 : decode cX8_isSoBy 35 = .ok (.getfield 16, 3) := by decide +kernel
theorem dX8_isSoBy_38 : decode cX8_isSoBy 38 = .ok (.aload_n 0, 1) := by decide +kernel
theorem dX8_isSoBy_39 : decode cX8_isSoBy 39 = .ok (.getfield 32, 3) := by decide +kernel
theorem dX8_isSoBy_42 : decode cX8_isSoBy 42 = .ok (.iload_n 2, 1) := by decide +kernel
theorem dX8_isSoBy_43 : decode cX8_isSoBy 43 = .ok (.iaload, 1) := by decide +kernel
theorem dX8_isSoBy_44 : decode cX8_isSoBy 44 = .ok (.invokevirtual 205, 3) := by decide +kernel
theorem dX8_isSoBy_47 : decode cX8_isSoBy 47 = .ok (.istore_n 3, 1) := by decide +kernel
theorem dX8_isSoBy_48 : decode cX8_isSoBy 48 = .ok (.aload_n 0, 1) := by decide +kernel
theorem dX8_isSoBy_49 : decode cX8_isSoBy 49 = .ok (.iconst 0, 1) := by decide +kernel
theorem dX8_isSoBy_50 : decode cX8_isSoBy 50 = .ok (.putfield 130, 3) := by decide +kernel
theorem dX8_isSoBy_53 : decode cX8_isSoBy 53 = .ok (.aload_n 0, 1) := by decide +kernel
theorem dX8_isSoBy_54 : decode cX8_isSoBy 54 = .ok (.getfield 16, 3) := by decide +kernel
theorem dX8_isSoBy_57 : decode cX8_isSoBy 57 = .ok (.aload_n 0, 1) := by decide +kernel
theorem dX8_isSoBy_58 : decode cX8_isSoBy 58 = .ok (.getfield 29, 3) := by decide +kernel
theorem dX8_isSoBy_61 : decode cX8_isSoBy 61 = .ok (.iload_n 2, 1) := by decide +kernel
theorem dX8_isSoBy_62 : decode cX8_isSoBy 62 = .ok (.iaload, 1) := by decide +kernel
theorem dX8_isSoBy_63 : decode cX8_isSoBy 63 = .ok (.iaload, 1) := by decide +kernel
theorem dX8_isSoBy_64 : decode cX8_isSoBy 64 = .ok (.aload_n 0, 1) := by decide +kernel
theorem dX8_isSoBy_65 : decode cX8_isSoBy 65 = .ok (.getfield 35, 3) := by decide +kernel
theorem dX8_isSoBy_68 : decode cX8_isSoBy 68 = .ok (.iload_n 2, 1) := by decide +kernel
theorem dX8_isSoBy_69 : decode cX8_isSoBy 69 = .ok (.iaload, 1) := by decide +kernel
theorem dX8_isSoBy_70 : decode cX8_isSoBy 70 = .ok (.if_icmp .ne 7, 3) := by decide +kernel
theorem dX8_isSoBy_73 : decode cX8_isSoBy 73 = .ok (.iconst 1, 1) := by decide +kernel
theorem dX8_isSoBy_74 : decode cX8_isSoBy 74 = .ok (.goto 4, 3) := by decide +kernel
theorem dX8_isSoBy_77 : decode cX8_isSoBy 77 = .ok (.iconst 0, 1) := by decide +kernel
theorem dX8_isSoBy_78 : decode cX8_isSoBy 78 = .ok (.ireturn, 1) := by decide +kernel
theorem dX8_which_0 : decode cX8_which 0 = .ok (.iconst 0, 1) := by decide +kernel
theorem dX8_which_1 : decode cX8_which 1 = .ok (.istore_n 1, 1) := by decide +kernel
theorem dX8_which_2 : decode cX8_which 2 = .ok (.iconst 0, 1) := by decide +kernel
theorem dX8_which_3 : decode cX8_which 3 = .ok (.istore_n 2, 1) := by decide +kernel
theorem dX8_which_4 : decode cX8_which 4 = .ok (.iload_n 2, 1) := by decide +kernel
theorem dX8_which_5 : decode cX8_which 5 = .ok (.aload_n 0, 1) := by decide +kernel
theorem dX8_which_6 : decode cX8_which 6 = .ok (.getfield 59, 3) := by decide +kernel
theorem dX8_which_9 : decode cX8_which 9 = .ok (.if_icmp .ge 63, 3) := by decide +kernel
theorem dX8_which_12 : decode cX8_which 12 = .ok (.iconst 1, 1) := by decide +kernel
theorem dX8_which_13 : decode cX8_which 13 = .ok (.istore_n 3, 1) := by decide +kernel
theorem dX8_which_14 : decode cX8_which 14 = .ok (.iconst 0, 1) := by decide +kernel
theorem dX8_which_15 : decode cX8_which 15 = .ok (.istore 4, 2) := by decide +kernel
theorem dX8_which_17 : decode cX8_which 17 = .ok (.iload 4, 2) := by decide +kernel
theorem dX8_which_19 : decode cX8_which 19 = .ok (.aload_n 0, 1) := by decide +kernel
theorem dX8_which_20 : decode cX8_which 20 = .ok (.getfield 178, 3) := by decide +kernel
theorem dX8_which_23 : decode cX8_which 23 = .ok (.if_icmp .ge 29, 3) := by decide +kernel
theorem dX8_which_26 : decode cX8_which 26 = .ok (.iload_n 3, 1) := by decide +kernel
theorem dX8_which_27 : decode cX8_which 27 = .ok (.ifCond .eq 17, 3) := by decide +kernel
theorem dX8_which_30 : decode cX8_which 30 = .ok (.aload_n 0, 1) := by decide +kernel
theorem dX8_which_31 : decode cX8_which 31 = .ok (.iload_n 2, 1) := by decide +kernel
theorem dX8_which_32 : decode cX8_which 32 = .ok (.iload 4, 2) := by decide +kernel
theorem dX8_which_34 : decode cX8_which 34 = .ok (.invokevirtual 229, 3) := by decide +kernel
theorem dX8_which_37 : decode cX8_which 37 = .ok (.ifCond .eq 7, 3) := by decide +kernel
theorem dX8_which_40 : decode cX8_which 40 = .ok (.iconst 1, 1) := by decide +kernel
theorem dX8_which_41 : decode cX8_which 41 = .ok (.goto 4, 3) := by decide +kernel
theorem dX8_which_44 : decode cX8_which 44 = .ok (.iconst 0, 1) := by decide +kernel
theorem dX8_which_45 : decode cX8_which 45 = .ok (.istore_n 3, 1) := by decide +kernel
theorem dX8_which_46 : decode cX8_which 46 = .ok (.iinc 4 1, 3) := by decide +kernel
theorem dX8_which_49 : decode cX8_which 49 = .ok (.goto (-32), 3) := by decide +kernel
theorem dX8_which_52 : decode cX8_which 52 = .ok (.iload_n 1, 1) := by decide +kernel
theorem dX8_which_53 : decode cX8_which 53 = .ok (.iload_n 3, 1) := by decide +kernel
theorem dX8_which_54 : decode cX8_which 54 = .ok (.ifCond .eq 9, 3) := by decide +kernel
theorem dX8_which_57 : decode cX8_which 57 = .ok (.iconst 1, 1) := by decide +kernel
theorem dX8_which_58 : decode cX8_which 58 = .ok (.iload_n 2, 1) := by decide +kernel
theorem dX8_which_59 : decode cX8_which 59 = .ok (.ishl, 1) := by decide +kernel
theorem dX8_which_60 : decode cX8_which 60 = .ok (.goto 4, 3) := by decide +kernel
theorem dX8_which_63 : decode cX8_which 63 = .ok (.iconst 0, 1) := by decide +kernel
theorem dX8_which_64 : decode cX8_which 64 = .ok (.ior, 1) := by decide +kernel
theorem dX8_which_65 : decode cX8_which 65 = .ok (.istore_n 1, 1) := by decide +kernel
theorem dX8_which_66 : decode cX8_which 66 = .ok (.iinc 2 1, 3) := by decide +kernel
theorem dX8_which_69 : decode cX8_which 69 = .ok (.goto (-65), 3) := by decide +kernel
theorem dX8_which_72 : decode cX8_which 72 = .ok (.iload_n 1, 1) := by decide +kernel
theorem dX8_which_73 : decode cX8_which 73 = .ok (.ireturn, 1) := by decide +kernel
theorem dX8_rightWith_0 : decode cX8_rightWith 0 = .ok (.aload_n 0, 1) := by decide +kernel
theorem dX8_rightWith_1 : decode cX8_rightWith 1 = .ok (.iconst 1, 1) := by decide +kernel
theorem dX8_rightWith_2 : decode cX8_rightWith 2 = .ok (.aload_n 0, 1) := by decide +kernel
theorem dX8_rightWith_3 : decode cX8_rightWith 3 = .ok (.getfield 59, 3) := by decide +kernel
theorem dX8_rightWith_6 : decode cX8_rightWith 6 = .ok (.ishl, 1) := by decide +kernel
theorem dX8_rightWith_7 : decode cX8_rightWith 7 = .ok (.iconst 1, 1) := by decide +kernel
theorem dX8_rightWith_8 : decode cX8_rightWith 8 = .ok (.isub, 1) := by decide +kernel
theorem dX8_rightWith_9 : decode cX8_rightWith 9 = .ok (.iload_n 1, 1) := by decide +kernel
theorem dX8_rightWith_10 : decode cX8_rightWith 10 = .ok (.iconst (-1), 1) := by decide +kernel
theorem dX8_rightWith_11 : decode cX8_rightWith 11 = .ok (.ixor, 1) := by decide +kernel
theorem dX8_rightWith_12 : decode cX8_rightWith 12 = .ok (.iand, 1) := by decide +kernel
theorem dX8_rightWith_13 : decode cX8_rightWith 13 = .ok (.putfield 130, 3) := by decide +kernel
theorem dX8_rightWith_16 : decode cX8_rightWith 16 = .ok (.aload_n 0, 1) := by decide +kernel
theorem dX8_rightWith_17 : decode cX8_rightWith 17 = .ok (.getfield 13, 3) := by decide +kernel
theorem dX8_rightWith_20 : decode cX8_rightWith 20 = .ok (.aload_n 0, 1) := by decide +kernel
theorem dX8_rightWith_21 : decode cX8_rightWith 21 = .ok (.getfield 16, 3) := by decide +kernel
theorem dX8_rightWith_24 : decode cX8_rightWith 24 = .ok (.invokestatic 168, 3) := by decide +kernel
theorem dX8_rightWith_27 : decode cX8_rightWith 27 = .ok (.aload_n 0, 1) := by decide +kernel
theorem dX8_rightWith_28 : decode cX8_rightWith 28 = .ok (.invokevirtual 217, 3) := by decide +kernel
theorem dX8_rightWith_31 : decode cX8_rightWith 31 = .ok (.istore_n 2, 1) := by decide +kernel
theorem dX8_rightWith_32 : decode cX8_rightWith 32 = .ok (.aload_n 0, 1) := by decide +kernel
theorem dX8_rightWith_33 : decode cX8_rightWith 33 = .ok (.iconst 0, 1) := by decide +kernel
theorem dX8_rightWith_34 : decode cX8_rightWith 34 = .ok (.putfield 130, 3) := by decide +kernel
theorem dX8_rightWith_37 : decode cX8_rightWith 37 = .ok (.iload_n 2, 1) := by decide +kernel
theorem dX8_rightWith_38 : decode cX8_rightWith 38 = .ok (.ireturn, 1) := by decide +kernel
theorem dX8_share_0 : decode cX8_share 0 = .ok (.aload_n 0, 1) := by decide +kernel
theorem dX8_share_1 : decode cX8_share 1 = .ok (.iload_n 1, 1) := by decide +kernel
theorem dX8_share_2 : decode cX8_share 2 = .ok (.invokevirtual 188, 3) := by decide +kernel
theorem dX8_share_5 : decode cX8_share 5 = .ok (.ifCond .ne 5, 3) := by decide +kernel
theorem dX8_share_8 : decode cX8_share 8 = .ok (.iconst (-1), 1) := by decide +kernel
theorem dX8_share_9 : decode cX8_share 9 = .ok (.ireturn, 1) := by decide +kernel
theorem dX8_share_10 : decode cX8_share 10 = .ok (.iconst 0, 1) := by decide +kernel
theorem dX8_share_11 : decode cX8_share 11 = .ok (.istore_n 3, 1) := by decide +kernel
theorem dX8_share_12 : decode cX8_share 12 = .ok (.iload_n 3, 1) := by decide +kernel
theorem dX8_share_13 : decode cX8_share 13 = .ok (.iconst 1, 1) := by decide +kernel
theorem dX8_share_14 : decode cX8_share 14 = .ok (.aload_n 0, 1) := by decide +kernel
theorem dX8_share_15 : decode cX8_share 15 = .ok (.getfield 59, 3) := by decide +kernel
theorem dX8_share_18 : decode cX8_share 18 = .ok (.ishl, 1) := by decide +kernel
theorem dX8_share_19 : decode cX8_share 19 = .ok (.if_icmp .ge 20, 3) := by decide +kernel
theorem dX8_share_22 : decode cX8_share 22 = .ok (.aload_n 0, 1) := by decide +kernel
theorem dX8_share_23 : decode cX8_share 23 = .ok (.getfield 47, 3) := by decide +kernel
theorem dX8_share_26 : decode cX8_share 26 = .ok (.iload_n 3, 1) := by decide +kernel
theorem dX8_share_27 : decode cX8_share 27 = .ok (.aload_n 0, 1) := by decide +kernel
theorem dX8_share_28 : decode cX8_share 28 = .ok (.iload_n 3, 1) := by decide +kernel
theorem dX8_share_29 : decode cX8_share 29 = .ok (.invokevirtual 232, 3) := by decide +kernel
theorem dX8_share_32 : decode cX8_share 32 = .ok (.iastore, 1) := by decide +kernel
theorem dX8_share_33 : decode cX8_share 33 = .ok (.iinc 3 1, 3) := by decide +kernel
theorem dX8_share_36 : decode cX8_share 36 = .ok (.goto (-24), 3) := by decide +kernel
theorem dX8_share_39 : decode cX8_share 39 = .ok (.iconst 0, 1) := by decide +kernel
theorem dX8_share_40 : decode cX8_share 40 = .ok (.istore_n 3, 1) := by decide +kernel
theorem dX8_share_41 : decode cX8_share 41 = .ok (.iconst 0, 1) := by decide +kernel
theorem dX8_share_42 : decode cX8_share 42 = .ok (.istore 4, 2) := by decide +kernel
theorem dX8_share_44 : decode cX8_share 44 = .ok (.iload 4, 2) := by decide +kernel
theorem dX8_share_46 : decode cX8_share 46 = .ok (.iconst 1, 1) := by decide +kernel
theorem dX8_share_47 : decode cX8_share 47 = .ok (.aload_n 0, 1) := by decide +kernel
theorem dX8_share_48 : decode cX8_share 48 = .ok (.getfield 59, 3) := by decide +kernel
theorem dX8_share_51 : decode cX8_share 51 = .ok (.ishl, 1) := by decide +kernel
theorem dX8_share_52 : decode cX8_share 52 = .ok (.if_icmp .ge 66, 3) := by decide +kernel
theorem dX8_share_55 : decode cX8_share 55 = .ok (.iload 4, 2) := by decide +kernel
theorem dX8_share_57 : decode cX8_share 57 = .ok (.iload_n 1, 1) := by decide +kernel
theorem dX8_share_58 : decode cX8_share 58 = .ok (.invokestatic 123, 3) := by decide +kernel
theorem dX8_share_61 : decode cX8_share 61 = .ok (.ifCond .ne 51, 3) := by decide +kernel
theorem dX8_share_64 : decode cX8_share 64 = .ok (.iload 4, 2) := by decide +kernel
theorem dX8_share_66 : decode cX8_share 66 = .ok (.invokestatic 235, 3) := by decide +kernel
theorem dX8_share_69 : decode cX8_share 69 = .ok (.istore 5, 2) := by decide +kernel
theorem dX8_share_71 : decode cX8_share 71 = .ok (.iload_n 3, 1) := by decide +kernel
theorem dX8_share_72 : decode cX8_share 72 = .ok (.iload 5, 2) := by decide +kernel
theorem dX8_share_74 : decode cX8_share 74 = .ok (.invokestatic 238, 3) := by decide +kernel
theorem dX8_share_77 : decode cX8_share 77 = .ok (.aload_n 0, 1) := by decide +kernel
theorem dX8_share_78 : decode cX8_share 78 = .ok (.getfield 59, 3) := by decide +kernel
theorem dX8_share_81 : decode cX8_share 81 = .ok (.iconst 1, 1) := by decide +kernel
theorem dX8_share_82 : decode cX8_share 82 = .ok (.isub, 1) := by decide +kernel
theorem dX8_share_83 : decode cX8_share 83 = .ok (.iload 5, 2) := by decide +kernel
theorem dX8_share_85 : decode cX8_share 85 = .ok (.isub, 1) := by decide +kernel
theorem dX8_share_86 : decode cX8_share 86 = .ok (.invokestatic 238, 3) := by decide +kernel
theorem dX8_share_89 : decode cX8_share 89 = .ok (.imul, 1) := by decide +kernel
theorem dX8_share_90 : decode cX8_share 90 = .ok (.aload_n 0, 1) := by decide +kernel
theorem dX8_share_91 : decode cX8_share 91 = .ok (.getfield 47, 3) := by decide +kernel
theorem dX8_share_94 : decode cX8_share 94 = .ok (.iload 4, 2) := by decide +kernel
theorem dX8_share_96 : decode cX8_share 96 = .ok (.iconst 1, 1) := by decide +kernel
theorem dX8_share_97 : decode cX8_share 97 = .ok (.iload_n 1, 1) := by decide +kernel
theorem dX8_share_98 : decode cX8_share 98 = .ok (.ishl, 1) := by decide +kernel
theorem dX8_share_99 : decode cX8_share 99 = .ok (.ior, 1) := by decide +kernel
theorem dX8_share_100 : decode cX8_share 100 = .ok (.iaload, 1) := by decide +kernel
theorem dX8_share_101 : decode cX8_share 101 = .ok (.aload_n 0, 1) := by decide +kernel
theorem dX8_share_102 : decode cX8_share 102 = .ok (.getfield 47, 3) := by decide +kernel
theorem dX8_share_105 : decode cX8_share 105 = .ok (.iload 4, 2) := by decide +kernel
theorem dX8_share_107 : decode cX8_share 107 = .ok (.iaload, 1) := by decide +kernel
theorem dX8_share_108 : decode cX8_share 108 = .ok (.isub, 1) := by decide +kernel
theorem dX8_share_109 : decode cX8_share 109 = .ok (.imul, 1) := by decide +kernel
theorem dX8_share_110 : decode cX8_share 110 = .ok (.iadd, 1) := by decide +kernel
theorem dX8_share_111 : decode cX8_share 111 = .ok (.istore_n 3, 1) := by decide +kernel
theorem dX8_share_112 : decode cX8_share 112 = .ok (.iinc 4 1, 3) := by decide +kernel
theorem dX8_share_115 : decode cX8_share 115 = .ok (.goto (-71), 3) := by decide +kernel
theorem dX8_share_118 : decode cX8_share 118 = .ok (.iload_n 3, 1) := by decide +kernel
theorem dX8_share_119 : decode cX8_share 119 = .ok (.aload_n 0, 1) := by decide +kernel
theorem dX8_share_120 : decode cX8_share 120 = .ok (.getfield 59, 3) := by decide +kernel
theorem dX8_share_123 : decode cX8_share 123 = .ok (.invokestatic 238, 3) := by decide +kernel
theorem dX8_share_126 : decode cX8_share 126 = .ok (.iload_n 2, 1) := by decide +kernel
theorem dX8_share_127 : decode cX8_share 127 = .ok (.invokestatic 241, 3) := by decide +kernel
theorem dX8_share_130 : decode cX8_share 130 = .ok (.ireturn, 1) := by decide +kernel
theorem dX8_chance_0 : decode cX8_chance 0 = .ok (.iload_n 1, 1) := by decide +kernel
theorem dX8_chance_1 : decode cX8_chance 1 = .ok (.i2l, 1) := by decide +kernel
theorem dX8_chance_2 : decode cX8_chance 2 = .ok (.lconst 0, 1) := by decide +kernel
theorem dX8_chance_3 : decode cX8_chance 3 = .ok (.ldc2_w 245, 3) := by decide +kernel
theorem dX8_chance_6 : decode cX8_chance 6 = .ok (.invokestatic 69, 3) := by decide +kernel
theorem dX8_chance_9 : decode cX8_chance 9 = .ok (.ifCond .eq 15, 3) := by decide +kernel
theorem dX8_chance_12 : decode cX8_chance 12 = .ok (.iload_n 2, 1) := by decide +kernel
theorem dX8_chance_13 : decode cX8_chance 13 = .ok (.i2l, 1) := by decide +kernel
theorem dX8_chance_14 : decode cX8_chance 14 = .ok (.lconst 0, 1) := by decide +kernel
theorem dX8_chance_15 : decode cX8_chance 15 = .ok (.ldc2_w 247, 3) := by decide +kernel
theorem dX8_chance_18 : decode cX8_chance 18 = .ok (.invokestatic 69, 3) := by decide +kernel
theorem dX8_chance_21 : decode cX8_chance 21 = .ok (.ifCond .ne 6, 3) := by decide +kernel
theorem dX8_chance_24 : decode cX8_chance 24 = .ok (.bipush (-2), 2) := by decide +kernel
theorem dX8_chance_26 : decode cX8_chance 26 = .ok (.ireturn, 1) := by decide +kernel
theorem dX8_chance_27 : decode cX8_chance 27 = .ok (.iconst 0, 1) := by decide +kernel
theorem dX8_chance_28 : decode cX8_chance 28 = .ok (.istore 4, 2) := by decide +kernel
theorem dX8_chance_30 : decode cX8_chance 30 = .ok (.iconst 0, 1) := by decide +kernel
theorem dX8_chance_31 : decode cX8_chance 31 = .ok (.istore 5, 2) := by decide +kernel
theorem dX8_chance_33 : decode cX8_chance 33 = .ok (.iload 5, 2) := by decide +kernel
theorem dX8_chance_35 : decode cX8_chance 35 = .ok (.iconst 1, 1) := by decide +kernel
theorem dX8_chance_36 : decode cX8_chance 36 = .ok (.aload_n 0, 1) := by decide +kernel
theorem dX8_chance_37 : decode cX8_chance 37 = .ok (.getfield 59, 3) := by decide +kernel
theorem dX8_chance_40 : decode cX8_chance 40 = .ok (.ishl, 1) := by decide +kernel
theorem dX8_chance_41 : decode cX8_chance 41 = .ok (.if_icmp .ge 55, 3) := by decide +kernel
theorem dX8_chance_44 : decode cX8_chance 44 = .ok (.iload 4, 2) := by decide +kernel
theorem dX8_chance_46 : decode cX8_chance 46 = .ok (.aload_n 0, 1) := by decide +kernel
theorem dX8_chance_47 : decode cX8_chance 47 = .ok (.iload 5, 2) := by decide +kernel
theorem dX8_chance_49 : decode cX8_chance 49 = .ok (.invokevirtual 232, 3) := by decide +kernel
theorem dX8_chance_52 : decode cX8_chance 52 = .ok (.iload_n 1, 1) := by decide +kernel
theorem dX8_chance_53 : decode cX8_chance 53 = .ok (.if_icmp .lt 33, 3) := by decide +kernel
theorem dX8_chance_56 : decode cX8_chance 56 = .ok (.bipush 10, 2) := by decide +kernel
theorem dX8_chance_58 : decode cX8_chance 58 = .ok (.iload_n 2, 1) := by decide +kernel
theorem dX8_chance_59 : decode cX8_chance 59 = .ok (.isub, 1) := by decide +kernel
theorem dX8_chance_60 : decode cX8_chance 60 = .ok (.iload 5, 2) := by decide +kernel
theorem dX8_chance_62 : decode cX8_chance 62 = .ok (.invokestatic 235, 3) := by decide +kernel
theorem dX8_chance_65 : decode cX8_chance 65 = .ok (.invokestatic 249, 3) := by decide +kernel
theorem dX8_chance_68 : decode cX8_chance 68 = .ok (.iload_n 2, 1) := by decide +kernel
theorem dX8_chance_69 : decode cX8_chance 69 = .ok (.aload_n 0, 1) := by decide +kernel
theorem dX8_chance_70 : decode cX8_chance 70 = .ok (.getfield 59, 3) := by decide +kernel
theorem dX8_chance_73 : decode cX8_chance 73 = .ok (.iload 5, 2) := by decide +kernel
theorem dX8_chance_75 : decode cX8_chance 75 = .ok (.invokestatic 235, 3) := by decide +kernel
theorem dX8_chance_78 : decode cX8_chance 78 = .ok (.isub, 1) := by decide +kernel
theorem dX8_chance_79 : decode cX8_chance 79 = .ok (.invokestatic 249, 3) := by decide +kernel
theorem dX8_chance_82 : decode cX8_chance 82 = .ok (.imul, 1) := by decide +kernel
theorem dX8_chance_83 : decode cX8_chance 83 = .ok (.goto 4, 3) := by decide +kernel
theorem dX8_chance_86 : decode cX8_chance 86 = .ok (.iconst 0, 1) := by decide +kernel
theorem dX8_chance_87 : decode cX8_chance 87 = .ok (.iadd, 1) := by decide +kernel
theorem dX8_chance_88 : decode cX8_chance 88 = .ok (.istore 4, 2) := by decide +kernel
theorem dX8_chance_90 : decode cX8_chance 90 = .ok (.iinc 5 1, 3) := by decide +kernel
theorem dX8_chance_93 : decode cX8_chance 93 = .ok (.goto (-60), 3) := by decide +kernel
theorem dX8_chance_96 : decode cX8_chance 96 = .ok (.iload 4, 2) := by decide +kernel
theorem dX8_chance_98 : decode cX8_chance 98 = .ok (.bipush 10, 2) := by decide +kernel
theorem dX8_chance_100 : decode cX8_chance 100 = .ok (.aload_n 0, 1) := by decide +kernel
theorem dX8_chance_101 : decode cX8_chance 101 = .ok (.getfield 59, 3) := by decide +kernel
theorem dX8_chance_104 : decode cX8_chance 104 = .ok (.invokestatic 249, 3) := by decide +kernel
theorem dX8_chance_107 : decode cX8_chance 107 = .ok (.iload_n 3, 1) := by decide +kernel
theorem dX8_chance_108 : decode cX8_chance 108 = .ok (.invokestatic 241, 3) := by decide +kernel
theorem dX8_chance_111 : decode cX8_chance 111 = .ok (.ireturn, 1) := by decide +kernel
theorem dX8_seed_0 : decode cX8_seed 0 = .ok (.aload_n 0, 1) := by decide +kernel
theorem dX8_seed_1 : decode cX8_seed 1 = .ok (.getfield 253, 3) := by decide +kernel
theorem dX8_seed_4 : decode cX8_seed 4 = .ok (.lstore_n 3, 1) := by decide +kernel
theorem dX8_seed_5 : decode cX8_seed 5 = .ok (.aload_n 0, 1) := by decide +kernel
theorem dX8_seed_6 : decode cX8_seed 6 = .ok (.lload_n 1, 1) := by decide +kernel
theorem dX8_seed_7 : decode cX8_seed 7 = .ok (.putfield 253, 3) := by decide +kernel
theorem dX8_seed_10 : decode cX8_seed 10 = .ok (.lload_n 3, 1) := by decide +kernel
theorem dX8_seed_11 : decode cX8_seed 11 = .ok (.lreturn, 1) := by decide +kernel
theorem dX8_drawn_0 : decode cX8_drawn 0 = .ok (.iload_n 1, 1) := by decide +kernel
theorem dX8_drawn_1 : decode cX8_drawn 1 = .ok (.i2l, 1) := by decide +kernel
theorem dX8_drawn_2 : decode cX8_drawn 2 = .ok (.lconst 1, 1) := by decide +kernel
theorem dX8_drawn_3 : decode cX8_drawn 3 = .ok (.ldc2_w 257, 3) := by decide +kernel
theorem dX8_drawn_6 : decode cX8_drawn 6 = .ok (.invokestatic 69, 3) := by decide +kernel
theorem dX8_drawn_9 : decode cX8_drawn 9 = .ok (.ifCond .ne 6, 3) := by decide +kernel
theorem dX8_drawn_12 : decode cX8_drawn 12 = .ok (.bipush (-2), 2) := by decide +kernel
theorem dX8_drawn_14 : decode cX8_drawn 14 = .ok (.ireturn, 1) := by decide +kernel
theorem dX8_drawn_15 : decode cX8_drawn 15 = .ok (.aload_n 0, 1) := by decide +kernel
theorem dX8_drawn_16 : decode cX8_drawn 16 = .ok (.getfield 13, 3) := by decide +kernel
theorem dX8_drawn_19 : decode cX8_drawn 19 = .ok (.aload_n 0, 1) := by decide +kernel
theorem dX8_drawn_20 : decode cX8_drawn 20 = .ok (.getfield 16, 3) := by decide +kernel
theorem dX8_drawn_23 : decode cX8_drawn 23 = .ok (.invokestatic 168, 3) := by decide +kernel
theorem dX8_drawn_26 : decode cX8_drawn 26 = .ok (.iconst 0, 1) := by decide +kernel
theorem dX8_drawn_27 : decode cX8_drawn 27 = .ok (.istore_n 2, 1) := by decide +kernel
theorem dX8_drawn_28 : decode cX8_drawn 28 = .ok (.iload_n 2, 1) := by decide +kernel
theorem dX8_drawn_29 : decode cX8_drawn 29 = .ok (.iload_n 1, 1) := by decide +kernel
theorem dX8_drawn_30 : decode cX8_drawn 30 = .ok (.if_icmp .ge 52, 3) := by decide +kernel
theorem dX8_drawn_33 : decode cX8_drawn 33 = .ok (.aload_n 0, 1) := by decide +kernel
theorem dX8_drawn_34 : decode cX8_drawn 34 = .ok (.aload_n 0, 1) := by decide +kernel
theorem dX8_drawn_35 : decode cX8_drawn 35 = .ok (.getfield 253, 3) := by decide +kernel
theorem dX8_drawn_38 : decode cX8_drawn 38 = .ok (.ldc2_w 259, 3) := by decide +kernel
theorem dX8_drawn_41 : decode cX8_drawn 41 = .ok (.lmul, 1) := by decide +kernel
theorem dX8_drawn_42 : decode cX8_drawn 42 = .ok (.ldc2_w 261, 3) := by decide +kernel
theorem dX8_drawn_45 : decode cX8_drawn 45 = .ok (.ladd, 1) := by decide +kernel
theorem dX8_drawn_46 : decode cX8_drawn 46 = .ok (.putfield 253, 3) := by decide +kernel
theorem dX8_drawn_49 : decode cX8_drawn 49 = .ok (.aload_n 0, 1) := by decide +kernel
theorem dX8_drawn_50 : decode cX8_drawn 50 = .ok (.getfield 253, 3) := by decide +kernel
theorem dX8_drawn_53 : decode cX8_drawn 53 = .ok (.bipush 33, 2) := by decide +kernel
theorem dX8_drawn_55 : decode cX8_drawn 55 = .ok (.lushr, 1) := by decide +kernel
theorem dX8_drawn_56 : decode cX8_drawn 56 = .ok (.l2i, 1) := by decide +kernel
theorem dX8_drawn_57 : decode cX8_drawn 57 = .ok (.istore_n 3, 1) := by decide +kernel
theorem dX8_drawn_58 : decode cX8_drawn 58 = .ok (.aload_n 0, 1) := by decide +kernel
theorem dX8_drawn_59 : decode cX8_drawn 59 = .ok (.aload_n 0, 1) := by decide +kernel
theorem dX8_drawn_60 : decode cX8_drawn 60 = .ok (.getfield 16, 3) := by decide +kernel
theorem dX8_drawn_63 : decode cX8_drawn 63 = .ok (.iload_n 3, 1) := by decide +kernel
theorem dX8_drawn_64 : decode cX8_drawn 64 = .ok (.iconst 1, 1) := by decide +kernel
theorem dX8_drawn_65 : decode cX8_drawn 65 = .ok (.aload_n 0, 1) := by decide +kernel
theorem dX8_drawn_66 : decode cX8_drawn 66 = .ok (.getfield 59, 3) := by decide +kernel
theorem dX8_drawn_69 : decode cX8_drawn 69 = .ok (.ishl, 1) := by decide +kernel
theorem dX8_drawn_70 : decode cX8_drawn 70 = .ok (.iconst 1, 1) := by decide +kernel
theorem dX8_drawn_71 : decode cX8_drawn 71 = .ok (.isub, 1) := by decide +kernel
theorem dX8_drawn_72 : decode cX8_drawn 72 = .ok (.iand, 1) := by decide +kernel
theorem dX8_drawn_73 : decode cX8_drawn 73 = .ok (.invokevirtual 152, 3) := by decide +kernel
theorem dX8_drawn_76 : decode cX8_drawn 76 = .ok (.iinc 2 1, 3) := by decide +kernel
theorem dX8_drawn_79 : decode cX8_drawn 79 = .ok (.goto (-51), 3) := by decide +kernel
theorem dX8_drawn_82 : decode cX8_drawn 82 = .ok (.aload_n 0, 1) := by decide +kernel
theorem dX8_drawn_83 : decode cX8_drawn 83 = .ok (.getfield 16, 3) := by decide +kernel
theorem dX8_drawn_86 : decode cX8_drawn 86 = .ok (.bipush 25, 2) := by decide +kernel
theorem dX8_drawn_88 : decode cX8_drawn 88 = .ok (.iaload, 1) := by decide +kernel
theorem dX8_drawn_89 : decode cX8_drawn 89 = .ok (.aload_n 0, 1) := by decide +kernel
theorem dX8_drawn_90 : decode cX8_drawn 90 = .ok (.getfield 13, 3) := by decide +kernel
theorem dX8_drawn_93 : decode cX8_drawn 93 = .ok (.bipush 25, 2) := by decide +kernel
theorem dX8_drawn_95 : decode cX8_drawn 95 = .ok (.iaload, 1) := by decide +kernel
theorem dX8_drawn_96 : decode cX8_drawn 96 = .ok (.isub, 1) := by decide +kernel
theorem dX8_drawn_97 : decode cX8_drawn 97 = .ok (.ireturn, 1) := by decide +kernel
theorem dX8_keep_0 : decode cX8_keep 0 = .ok (.iload_n 1, 1) := by decide +kernel
theorem dX8_keep_1 : decode cX8_keep 1 = .ok (.i2l, 1) := by decide +kernel
theorem dX8_keep_2 : decode cX8_keep 2 = .ok (.lconst 0, 1) := by decide +kernel
theorem dX8_keep_3 : decode cX8_keep 3 = .ok (.lconst 1, 1) := by decide +kernel
theorem dX8_keep_4 : decode cX8_keep 4 = .ok (.invokestatic 69, 3) := by decide +kernel
theorem dX8_keep_7 : decode cX8_keep 7 = .ok (.ifCond .ne 5, 3) := by decide +kernel
theorem dX8_keep_10 : decode cX8_keep 10 = .ok (.iconst (-1), 1) := by decide +kernel
theorem dX8_keep_11 : decode cX8_keep 11 = .ok (.ireturn, 1) := by decide +kernel
theorem dX8_keep_12 : decode cX8_keep 12 = .ok (.aload_n 0, 1) := by decide +kernel
theorem dX8_keep_13 : decode cX8_keep 13 = .ok (.getfield 25, 3) := by decide +kernel
theorem dX8_keep_16 : decode cX8_keep 16 = .ok (.iload_n 1, 1) := by decide +kernel
theorem dX8_keep_17 : decode cX8_keep 17 = .ok (.iconst 1, 1) := by decide +kernel
theorem dX8_keep_18 : decode cX8_keep 18 = .ok (.bastore, 1) := by decide +kernel
theorem dX8_keep_19 : decode cX8_keep 19 = .ok (.iconst 0, 1) := by decide +kernel
theorem dX8_keep_20 : decode cX8_keep 20 = .ok (.istore_n 2, 1) := by decide +kernel
theorem dX8_keep_21 : decode cX8_keep 21 = .ok (.iload_n 2, 1) := by decide +kernel
theorem dX8_keep_22 : decode cX8_keep 22 = .ok (.bipush 30, 2) := by decide +kernel
theorem dX8_keep_24 : decode cX8_keep 24 = .ok (.if_icmp .ge 26, 3) := by decide +kernel
theorem dX8_keep_27 : decode cX8_keep 27 = .ok (.aload_n 0, 1) := by decide +kernel
theorem dX8_keep_28 : decode cX8_keep 28 = .ok (.getfield 22, 3) := by decide +kernel
theorem dX8_keep_31 : decode cX8_keep 31 = .ok (.bipush 30, 2) := by decide +kernel
theorem dX8_keep_33 : decode cX8_keep 33 = .ok (.iload_n 1, 1) := by decide +kernel
theorem dX8_keep_34 : decode cX8_keep 34 = .ok (.imul, 1) := by decide +kernel
theorem dX8_keep_35 : decode cX8_keep 35 = .ok (.iload_n 2, 1) := by decide +kernel
theorem dX8_keep_36 : decode cX8_keep 36 = .ok (.iadd, 1) := by decide +kernel
theorem dX8_keep_37 : decode cX8_keep 37 = .ok (.aload_n 0, 1) := by decide +kernel
theorem dX8_keep_38 : decode cX8_keep 38 = .ok (.getfield 13, 3) := by decide +kernel
theorem dX8_keep_41 : decode cX8_keep 41 = .ok (.iload_n 2, 1) := by decide +kernel
theorem dX8_keep_42 : decode cX8_keep 42 = .ok (.iaload, 1) := by decide +kernel
theorem dX8_keep_43 : decode cX8_keep 43 = .ok (.iastore, 1) := by decide +kernel
theorem dX8_keep_44 : decode cX8_keep 44 = .ok (.iinc 2 1, 3) := by decide +kernel
theorem dX8_keep_47 : decode cX8_keep 47 = .ok (.goto (-26), 3) := by decide +kernel
theorem dX8_keep_50 : decode cX8_keep 50 = .ok (.aload_n 0, 1) := by decide +kernel
theorem dX8_keep_51 : decode cX8_keep 51 = .ok (.getfield 13, 3) := by decide +kernel
theorem dX8_keep_54 : decode cX8_keep 54 = .ok (.bipush 29, 2) := by decide +kernel
theorem dX8_keep_56 : decode cX8_keep 56 = .ok (.iaload, 1) := by decide +kernel
theorem dX8_keep_57 : decode cX8_keep 57 = .ok (.ireturn, 1) := by decide +kernel
theorem dX8_again_0 : decode cX8_again 0 = .ok (.iload_n 1, 1) := by decide +kernel
theorem dX8_again_1 : decode cX8_again 1 = .ok (.i2l, 1) := by decide +kernel
theorem dX8_again_2 : decode cX8_again 2 = .ok (.lconst 0, 1) := by decide +kernel
theorem dX8_again_3 : decode cX8_again 3 = .ok (.lconst 1, 1) := by decide +kernel
theorem dX8_again_4 : decode cX8_again 4 = .ok (.invokestatic 69, 3) := by decide +kernel
theorem dX8_again_7 : decode cX8_again 7 = .ok (.ifCond .ne 5, 3) := by decide +kernel
theorem dX8_again_10 : decode cX8_again 10 = .ok (.iconst (-1), 1) := by decide +kernel
theorem dX8_again_11 : decode cX8_again 11 = .ok (.ireturn, 1) := by decide +kernel
theorem dX8_again_12 : decode cX8_again 12 = .ok (.aload_n 0, 1) := by decide +kernel
theorem dX8_again_13 : decode cX8_again 13 = .ok (.getfield 25, 3) := by decide +kernel
theorem dX8_again_16 : decode cX8_again 16 = .ok (.iload_n 1, 1) := by decide +kernel
theorem dX8_again_17 : decode cX8_again 17 = .ok (.baload, 1) := by decide +kernel
theorem dX8_again_18 : decode cX8_again 18 = .ok (.ifCond .ne 6, 3) := by decide +kernel
theorem dX8_again_21 : decode cX8_again 21 = .ok (.bipush (-3), 2) := by decide +kernel
theorem dX8_again_23 : decode cX8_again 23 = .ok (.ireturn, 1) := by decide +kernel
theorem dX8_again_24 : decode cX8_again 24 = .ok (.iconst 0, 1) := by decide +kernel
theorem dX8_again_25 : decode cX8_again 25 = .ok (.istore_n 2, 1) := by decide +kernel
theorem dX8_again_26 : decode cX8_again 26 = .ok (.iload_n 2, 1) := by decide +kernel
theorem dX8_again_27 : decode cX8_again 27 = .ok (.bipush 30, 2) := by decide +kernel
theorem dX8_again_29 : decode cX8_again 29 = .ok (.if_icmp .ge 26, 3) := by decide +kernel
theorem dX8_again_32 : decode cX8_again 32 = .ok (.aload_n 0, 1) := by decide +kernel
theorem dX8_again_33 : decode cX8_again 33 = .ok (.getfield 13, 3) := by decide +kernel
theorem dX8_again_36 : decode cX8_again 36 = .ok (.iload_n 2, 1) := by decide +kernel
theorem dX8_again_37 : decode cX8_again 37 = .ok (.aload_n 0, 1) := by decide +kernel
theorem dX8_again_38 : decode cX8_again 38 = .ok (.getfield 22, 3) := by decide +kernel
theorem dX8_again_41 : decode cX8_again 41 = .ok (.bipush 30, 2) := by decide +kernel
theorem dX8_again_43 : decode cX8_again 43 = .ok (.iload_n 1, 1) := by decide +kernel
theorem dX8_again_44 : decode cX8_again 44 = .ok (.imul, 1) := by decide +kernel
theorem dX8_again_45 : decode cX8_again 45 = .ok (.iload_n 2, 1) := by decide +kernel
theorem dX8_again_46 : decode cX8_again 46 = .ok (.iadd, 1) := by decide +kernel
theorem dX8_again_47 : decode cX8_again 47 = .ok (.iaload, 1) := by decide +kernel
theorem dX8_again_48 : decode cX8_again 48 = .ok (.iastore, 1) := by decide +kernel
theorem dX8_again_49 : decode cX8_again 49 = .ok (.iinc 2 1, 3) := by decide +kernel
theorem dX8_again_52 : decode cX8_again 52 = .ok (.goto (-26), 3) := by decide +kernel
theorem dX8_again_55 : decode cX8_again 55 = .ok (.aload_n 0, 1) := by decide +kernel
theorem dX8_again_56 : decode cX8_again 56 = .ok (.iconst 0, 1) := by decide +kernel
theorem dX8_again_57 : decode cX8_again 57 = .ok (.putfield 120, 3) := by decide +kernel
theorem dX8_again_60 : decode cX8_again 60 = .ok (.aload_n 0, 1) := by decide +kernel
theorem dX8_again_61 : decode cX8_again 61 = .ok (.getfield 13, 3) := by decide +kernel
theorem dX8_again_64 : decode cX8_again 64 = .ok (.bipush 29, 2) := by decide +kernel
theorem dX8_again_66 : decode cX8_again 66 = .ok (.iaload, 1) := by decide +kernel
theorem dX8_again_67 : decode cX8_again 67 = .ok (.ireturn, 1) := by decide +kernel
theorem dJ6_bitCount_0f7a4_0 : decode cJ6_bitCount_0f7a4 0 = .ok (.iload_n 0, 1) := by decide +kernel
theorem dJ6_bitCount_0f7a4_1 : decode cJ6_bitCount_0f7a4 1 = .ok (.iload_n 0, 1) := by decide +kernel
theorem dJ6_bitCount_0f7a4_2 : decode cJ6_bitCount_0f7a4 2 = .ok (.iconst 1, 1) := by decide +kernel
theorem dJ6_bitCount_0f7a4_3 : decode cJ6_bitCount_0f7a4 3 = .ok (.iushr, 1) := by decide +kernel
theorem dJ6_bitCount_0f7a4_4 : decode cJ6_bitCount_0f7a4 4 = .ok (.ldc_w 265, 3) := by decide +kernel
theorem dJ6_bitCount_0f7a4_7 : decode cJ6_bitCount_0f7a4 7 = .ok (.iand, 1) := by decide +kernel
theorem dJ6_bitCount_0f7a4_8 : decode cJ6_bitCount_0f7a4 8 = .ok (.isub, 1) := by decide +kernel
theorem dJ6_bitCount_0f7a4_9 : decode cJ6_bitCount_0f7a4 9 = .ok (.istore_n 0, 1) := by decide +kernel
theorem dJ6_bitCount_0f7a4_10 : decode cJ6_bitCount_0f7a4 10 = .ok (.iload_n 0, 1) := by decide +kernel
theorem dJ6_bitCount_0f7a4_11 : decode cJ6_bitCount_0f7a4 11 = .ok (.ldc_w 266, 3) := by decide +kernel
theorem dJ6_bitCount_0f7a4_14 : decode cJ6_bitCount_0f7a4 14 = .ok (.iand, 1) := by decide +kernel
theorem dJ6_bitCount_0f7a4_15 : decode cJ6_bitCount_0f7a4 15 = .ok (.iload_n 0, 1) := by decide +kernel
theorem dJ6_bitCount_0f7a4_16 : decode cJ6_bitCount_0f7a4 16 = .ok (.iconst 2, 1) := by decide +kernel
theorem dJ6_bitCount_0f7a4_17 : decode cJ6_bitCount_0f7a4 17 = .ok (.iushr, 1) := by decide +kernel
theorem dJ6_bitCount_0f7a4_18 : decode cJ6_bitCount_0f7a4 18 = .ok (.ldc_w 266, 3) := by decide +kernel
theorem dJ6_bitCount_0f7a4_21 : decode cJ6_bitCount_0f7a4 21 = .ok (.iand, 1) := by decide +kernel
theorem dJ6_bitCount_0f7a4_22 : decode cJ6_bitCount_0f7a4 22 = .ok (.iadd, 1) := by decide +kernel
theorem dJ6_bitCount_0f7a4_23 : decode cJ6_bitCount_0f7a4 23 = .ok (.istore_n 0, 1) := by decide +kernel
theorem dJ6_bitCount_0f7a4_24 : decode cJ6_bitCount_0f7a4 24 = .ok (.iload_n 0, 1) := by decide +kernel
theorem dJ6_bitCount_0f7a4_25 : decode cJ6_bitCount_0f7a4 25 = .ok (.iload_n 0, 1) := by decide +kernel
theorem dJ6_bitCount_0f7a4_26 : decode cJ6_bitCount_0f7a4 26 = .ok (.iconst 4, 1) := by decide +kernel
theorem dJ6_bitCount_0f7a4_27 : decode cJ6_bitCount_0f7a4 27 = .ok (.iushr, 1) := by decide +kernel
theorem dJ6_bitCount_0f7a4_28 : decode cJ6_bitCount_0f7a4 28 = .ok (.iadd, 1) := by decide +kernel
theorem dJ6_bitCount_0f7a4_29 : decode cJ6_bitCount_0f7a4 29 = .ok (.ldc_w 267, 3) := by decide +kernel
theorem dJ6_bitCount_0f7a4_32 : decode cJ6_bitCount_0f7a4 32 = .ok (.iand, 1) := by decide +kernel
theorem dJ6_bitCount_0f7a4_33 : decode cJ6_bitCount_0f7a4 33 = .ok (.istore_n 0, 1) := by decide +kernel
theorem dJ6_bitCount_0f7a4_34 : decode cJ6_bitCount_0f7a4 34 = .ok (.iload_n 0, 1) := by decide +kernel
theorem dJ6_bitCount_0f7a4_35 : decode cJ6_bitCount_0f7a4 35 = .ok (.iload_n 0, 1) := by decide +kernel
theorem dJ6_bitCount_0f7a4_36 : decode cJ6_bitCount_0f7a4 36 = .ok (.bipush 8, 2) := by decide +kernel
theorem dJ6_bitCount_0f7a4_38 : decode cJ6_bitCount_0f7a4 38 = .ok (.iushr, 1) := by decide +kernel
theorem dJ6_bitCount_0f7a4_39 : decode cJ6_bitCount_0f7a4 39 = .ok (.iadd, 1) := by decide +kernel
theorem dJ6_bitCount_0f7a4_40 : decode cJ6_bitCount_0f7a4 40 = .ok (.istore_n 0, 1) := by decide +kernel
theorem dJ6_bitCount_0f7a4_41 : decode cJ6_bitCount_0f7a4 41 = .ok (.iload_n 0, 1) := by decide +kernel
theorem dJ6_bitCount_0f7a4_42 : decode cJ6_bitCount_0f7a4 42 = .ok (.iload_n 0, 1) := by decide +kernel
theorem dJ6_bitCount_0f7a4_43 : decode cJ6_bitCount_0f7a4 43 = .ok (.bipush 16, 2) := by decide +kernel
theorem dJ6_bitCount_0f7a4_45 : decode cJ6_bitCount_0f7a4 45 = .ok (.iushr, 1) := by decide +kernel
theorem dJ6_bitCount_0f7a4_46 : decode cJ6_bitCount_0f7a4 46 = .ok (.iadd, 1) := by decide +kernel
theorem dJ6_bitCount_0f7a4_47 : decode cJ6_bitCount_0f7a4 47 = .ok (.istore_n 0, 1) := by decide +kernel
theorem dJ6_bitCount_0f7a4_48 : decode cJ6_bitCount_0f7a4 48 = .ok (.iload_n 0, 1) := by decide +kernel
theorem dJ6_bitCount_0f7a4_49 : decode cJ6_bitCount_0f7a4 49 = .ok (.bipush 63, 2) := by decide +kernel
theorem dJ6_bitCount_0f7a4_51 : decode cJ6_bitCount_0f7a4 51 = .ok (.iand, 1) := by decide +kernel
theorem dJ6_bitCount_0f7a4_52 : decode cJ6_bitCount_0f7a4 52 = .ok (.ireturn, 1) := by decide +kernel
theorem dJ9_abs_067f4_0 : decode cJ9_abs_067f4 0 = .ok (.lload_n 0, 1) := by decide +kernel
theorem dJ9_abs_067f4_1 : decode cJ9_abs_067f4 1 = .ok (.lconst 0, 1) := by decide +kernel
theorem dJ9_abs_067f4_2 : decode cJ9_abs_067f4 2 = .ok (.lcmp, 1) := by decide +kernel
theorem dJ9_abs_067f4_3 : decode cJ9_abs_067f4 3 = .ok (.ifCond .ge 8, 3) := by decide +kernel
theorem dJ9_abs_067f4_6 : decode cJ9_abs_067f4 6 = .ok (.lload_n 0, 1) := by decide +kernel
theorem dJ9_abs_067f4_7 : decode cJ9_abs_067f4 7 = .ok (.lneg, 1) := by decide +kernel
theorem dJ9_abs_067f4_8 : decode cJ9_abs_067f4 8 = .ok (.goto 4, 3) := by decide +kernel
theorem dJ9_abs_067f4_11 : decode cJ9_abs_067f4 11 = .ok (.lload_n 0, 1) := by decide +kernel
theorem dJ9_abs_067f4_12 : decode cJ9_abs_067f4 12 = .ok (.lreturn, 1) := by decide +kernel
theorem dJ9_max_7cf53_0 : decode cJ9_max_7cf53 0 = .ok (.iload_n 0, 1) := by decide +kernel
theorem dJ9_max_7cf53_1 : decode cJ9_max_7cf53 1 = .ok (.iload_n 1, 1) := by decide +kernel
theorem dJ9_max_7cf53_2 : decode cJ9_max_7cf53 2 = .ok (.if_icmp .lt 7, 3) := by decide +kernel
theorem dJ9_max_7cf53_5 : decode cJ9_max_7cf53 5 = .ok (.iload_n 0, 1) := by decide +kernel
theorem dJ9_max_7cf53_6 : decode cJ9_max_7cf53 6 = .ok (.goto 4, 3) := by decide +kernel
theorem dJ9_max_7cf53_9 : decode cJ9_max_7cf53 9 = .ok (.iload_n 1, 1) := by decide +kernel
theorem dJ9_max_7cf53_10 : decode cJ9_max_7cf53 10 = .ok (.ireturn, 1) := by decide +kernel
theorem dJ9_max_f86c9_0 : decode cJ9_max_f86c9 0 = .ok (.lload_n 0, 1) := by decide +kernel
theorem dJ9_max_f86c9_1 : decode cJ9_max_f86c9 1 = .ok (.lload_n 2, 1) := by decide +kernel
theorem dJ9_max_f86c9_2 : decode cJ9_max_f86c9 2 = .ok (.lcmp, 1) := by decide +kernel
theorem dJ9_max_f86c9_3 : decode cJ9_max_f86c9 3 = .ok (.ifCond .lt 7, 3) := by decide +kernel
theorem dJ9_max_f86c9_6 : decode cJ9_max_f86c9 6 = .ok (.lload_n 0, 1) := by decide +kernel
theorem dJ9_max_f86c9_7 : decode cJ9_max_f86c9 7 = .ok (.goto 4, 3) := by decide +kernel
theorem dJ9_max_f86c9_10 : decode cJ9_max_f86c9 10 = .ok (.lload_n 2, 1) := by decide +kernel
theorem dJ9_max_f86c9_11 : decode cJ9_max_f86c9 11 = .ok (.lreturn, 1) := by decide +kernel
theorem dJ9_min_7cf53_0 : decode cJ9_min_7cf53 0 = .ok (.iload_n 0, 1) := by decide +kernel
theorem dJ9_min_7cf53_1 : decode cJ9_min_7cf53 1 = .ok (.iload_n 1, 1) := by decide +kernel
theorem dJ9_min_7cf53_2 : decode cJ9_min_7cf53 2 = .ok (.if_icmp .gt 7, 3) := by decide +kernel
theorem dJ9_min_7cf53_5 : decode cJ9_min_7cf53 5 = .ok (.iload_n 0, 1) := by decide +kernel
theorem dJ9_min_7cf53_6 : decode cJ9_min_7cf53 6 = .ok (.goto 4, 3) := by decide +kernel
theorem dJ9_min_7cf53_9 : decode cJ9_min_7cf53 9 = .ok (.iload_n 1, 1) := by decide +kernel
theorem dJ9_min_7cf53_10 : decode cJ9_min_7cf53 10 = .ok (.ireturn, 1) := by decide +kernel
theorem dL_law_0 : decode cL_law 0 = .ok (.new 7, 3) := by decide +kernel
theorem dL_law_3 : decode cL_law 3 = .ok (.dup, 1) := by decide +kernel
theorem dL_law_4 : decode cL_law 4 = .ok (.invokespecial 9, 3) := by decide +kernel
theorem dL_law_7 : decode cL_law 7 = .ok (.astore_n 1, 1) := by decide +kernel
theorem dL_law_8 : decode cL_law 8 = .ok (.new 10, 3) := by decide +kernel
theorem dL_law_11 : decode cL_law 11 = .ok (.dup, 1) := by decide +kernel
theorem dL_law_12 : decode cL_law 12 = .ok (.invokespecial 12, 3) := by decide +kernel
theorem dL_law_15 : decode cL_law 15 = .ok (.astore_n 2, 1) := by decide +kernel
theorem dL_law_16 : decode cL_law 16 = .ok (.iconst 0, 1) := by decide +kernel
theorem dL_law_17 : decode cL_law 17 = .ok (.istore_n 3, 1) := by decide +kernel
theorem dL_law_18 : decode cL_law 18 = .ok (.iload_n 3, 1) := by decide +kernel
theorem dL_law_19 : decode cL_law 19 = .ok (.aload_n 0, 1) := by decide +kernel
theorem dL_law_20 : decode cL_law 20 = .ok (.arraylength, 1) := by decide +kernel
theorem dL_law_21 : decode cL_law 21 = .ok (.iconst 4, 1) := by decide +kernel
theorem dL_law_22 : decode cL_law 22 = .ok (.isub, 1) := by decide +kernel
theorem dL_law_23 : decode cL_law 23 = .ok (.if_icmp .gt 856, 3) := by decide +kernel
theorem dL_law_26 : decode cL_law 26 = .ok (.aload_n 0, 1) := by decide +kernel
theorem dL_law_27 : decode cL_law 27 = .ok (.iload_n 3, 1) := by decide +kernel
theorem dL_law_28 : decode cL_law 28 = .ok (.iaload, 1) := by decide +kernel
theorem dL_law_29 : decode cL_law 29 = .ok (.bipush 31, 2) := by decide +kernel
theorem dL_law_31 : decode cL_law 31 = .ok (.iand, 1) := by decide +kernel
theorem dL_law_32 : decode cL_law 32 = .ok (.tableswitch 841 0 25 #[120, 143, 156, 169, 182, 205, 228, 251, 284, 307, 330, 353, 386, 409, 422, 455, 478, 541, 584, 597, 610, 659, 718, 772, 795, 818], 120) := by decide +kernel
theorem dL_law_152 : decode cL_law 152 = .ok (.aload_n 1, 1) := by decide +kernel
theorem dL_law_153 : decode cL_law 153 = .ok (.aload_n 0, 1) := by decide +kernel
theorem dL_law_154 : decode cL_law 154 = .ok (.iload_n 3, 1) := by decide +kernel
theorem dL_law_155 : decode cL_law 155 = .ok (.iconst 1, 1) := by decide +kernel
theorem dL_law_156 : decode cL_law 156 = .ok (.iadd, 1) := by decide +kernel
theorem dL_law_157 : decode cL_law 157 = .ok (.iaload, 1) := by decide +kernel
theorem dL_law_158 : decode cL_law 158 = .ok (.invokevirtual 13, 3) := by decide +kernel
theorem dL_law_161 : decode cL_law 161 = .ok (.aload_n 2, 1) := by decide +kernel
theorem dL_law_162 : decode cL_law 162 = .ok (.aload_n 0, 1) := by decide +kernel
theorem dL_law_163 : decode cL_law 163 = .ok (.iload_n 3, 1) := by decide +kernel
theorem dL_law_164 : decode cL_law 164 = .ok (.iconst 1, 1) := by decide +kernel
theorem dL_law_165 : decode cL_law 165 = .ok (.iadd, 1) := by decide +kernel
theorem dL_law_166 : decode cL_law 166 = .ok (.iaload, 1) := by decide +kernel
theorem dL_law_167 : decode cL_law 167 = .ok (.invokevirtual 17, 3) := by decide +kernel
theorem dL_law_170 : decode cL_law 170 = .ok (.if_icmp .eq 703, 3) := by decide +kernel
theorem dL_law_173 : decode cL_law 173 = .ok (.iconst 0, 1) := by decide +kernel
theorem dL_law_174 : decode cL_law 174 = .ok (.ireturn, 1) := by decide +kernel
theorem dL_law_175 : decode cL_law 175 = .ok (.aload_n 1, 1) := by decide +kernel
theorem dL_law_176 : decode cL_law 176 = .ok (.invokevirtual 18, 3) := by decide +kernel
theorem dL_law_179 : decode cL_law 179 = .ok (.aload_n 2, 1) := by decide +kernel
theorem dL_law_180 : decode cL_law 180 = .ok (.invokevirtual 22, 3) := by decide +kernel
theorem dL_law_183 : decode cL_law 183 = .ok (.if_icmp .eq 690, 3) := by decide +kernel
theorem dL_law_186 : decode cL_law 186 = .ok (.iconst 0, 1) := by decide +kernel
theorem dL_law_187 : decode cL_law 187 = .ok (.ireturn, 1) := by decide +kernel
theorem dL_law_188 : decode cL_law 188 = .ok (.aload_n 1, 1) := by decide +kernel
theorem dL_law_189 : decode cL_law 189 = .ok (.invokevirtual 23, 3) := by decide +kernel
theorem dL_law_192 : decode cL_law 192 = .ok (.aload_n 2, 1) := by decide +kernel
theorem dL_law_193 : decode cL_law 193 = .ok (.invokevirtual 26, 3) := by decide +kernel
theorem dL_law_196 : decode cL_law 196 = .ok (.if_icmp .eq 677, 3) := by decide +kernel
theorem dL_law_199 : decode cL_law 199 = .ok (.iconst 0, 1) := by decide +kernel
theorem dL_law_200 : decode cL_law 200 = .ok (.ireturn, 1) := by decide +kernel
theorem dL_law_201 : decode cL_law 201 = .ok (.aload_n 1, 1) := by decide +kernel
theorem dL_law_202 : decode cL_law 202 = .ok (.invokevirtual 27, 3) := by decide +kernel
theorem dL_law_205 : decode cL_law 205 = .ok (.aload_n 2, 1) := by decide +kernel
theorem dL_law_206 : decode cL_law 206 = .ok (.invokevirtual 30, 3) := by decide +kernel
theorem dL_law_209 : decode cL_law 209 = .ok (.if_icmp .eq 664, 3) := by decide +kernel
theorem dL_law_212 : decode cL_law 212 = .ok (.iconst 0, 1) := by decide +kernel
theorem dL_law_213 : decode cL_law 213 = .ok (.ireturn, 1) := by decide +kernel
theorem dL_law_214 : decode cL_law 214 = .ok (.aload_n 1, 1) := by decide +kernel
theorem dL_law_215 : decode cL_law 215 = .ok (.aload_n 0, 1) := by decide +kernel
theorem dL_law_216 : decode cL_law 216 = .ok (.iload_n 3, 1) := by decide +kernel
theorem dL_law_217 : decode cL_law 217 = .ok (.iconst 1, 1) := by decide +kernel
theorem dL_law_218 : decode cL_law 218 = .ok (.iadd, 1) := by decide +kernel
theorem dL_law_219 : decode cL_law 219 = .ok (.iaload, 1) := by decide +kernel
theorem dL_law_220 : decode cL_law 220 = .ok (.invokevirtual 31, 3) := by decide +kernel
theorem dL_law_223 : decode cL_law 223 = .ok (.aload_n 2, 1) := by decide +kernel
theorem dL_law_224 : decode cL_law 224 = .ok (.aload_n 0, 1) := by decide +kernel
theorem dL_law_225 : decode cL_law 225 = .ok (.iload_n 3, 1) := by decide +kernel
theorem dL_law_226 : decode cL_law 226 = .ok (.iconst 1, 1) := by decide +kernel
theorem dL_law_227 : decode cL_law 227 = .ok (.iadd, 1) := by decide +kernel
theorem dL_law_228 : decode cL_law 228 = .ok (.iaload, 1) := by decide +kernel
theorem dL_law_229 : decode cL_law 229 = .ok (.invokevirtual 34, 3) := by decide +kernel
theorem dL_law_232 : decode cL_law 232 = .ok (.if_icmp .eq 641, 3) := by decide +kernel
theorem dL_law_235 : decode cL_law 235 = .ok (.iconst 0, 1) := by decide +kernel
theorem dL_law_236 : decode cL_law 236 = .ok (.ireturn, 1) := by decide +kernel
theorem dL_law_237 : decode cL_law 237 = .ok (.aload_n 1, 1) := by decide +kernel
theorem dL_law_238 : decode cL_law 238 = .ok (.aload_n 0, 1) := by decide +kernel
theorem dL_law_239 : decode cL_law 239 = .ok (.iload_n 3, 1) := by decide +kernel
theorem dL_law_240 : decode cL_law 240 = .ok (.iconst 1, 1) := by decide +kernel
theorem dL_law_241 : decode cL_law 241 = .ok (.iadd, 1) := by decide +kernel
theorem dL_law_242 : decode cL_law 242 = .ok (.iaload, 1) := by decide +kernel
theorem dL_law_243 : decode cL_law 243 = .ok (.invokevirtual 35, 3) := by decide +kernel
theorem dL_law_246 : decode cL_law 246 = .ok (.aload_n 2, 1) := by decide +kernel
theorem dL_law_247 : decode cL_law 247 = .ok (.aload_n 0, 1) := by decide +kernel
theorem dL_law_248 : decode cL_law 248 = .ok (.iload_n 3, 1) := by decide +kernel
theorem dL_law_249 : decode cL_law 249 = .ok (.iconst 1, 1) := by decide +kernel
theorem dL_law_250 : decode cL_law 250 = .ok (.iadd, 1) := by decide +kernel
theorem dL_law_251 : decode cL_law 251 = .ok (.iaload, 1) := by decide +kernel
theorem dL_law_252 : decode cL_law 252 = .ok (.invokevirtual 38, 3) := by decide +kernel
theorem dL_law_255 : decode cL_law 255 = .ok (.if_icmp .eq 618, 3) := by decide +kernel
theorem dL_law_258 : decode cL_law 258 = .ok (.iconst 0, 1) := by decide +kernel
theorem dL_law_259 : decode cL_law 259 = .ok (.ireturn, 1) := by decide +kernel
theorem dL_law_260 : decode cL_law 260 = .ok (.aload_n 1, 1) := by decide +kernel
theorem dL_law_261 : decode cL_law 261 = .ok (.aload_n 0, 1) := by decide +kernel
theorem dL_law_262 : decode cL_law 262 = .ok (.iload_n 3, 1) := by decide +kernel
theorem dL_law_263 : decode cL_law 263 = .ok (.iconst 1, 1) := by decide +kernel
theorem dL_law_264 : decode cL_law 264 = .ok (.iadd, 1) := by decide +kernel
theorem dL_law_265 : decode cL_law 265 = .ok (.iaload, 1) := by decide +kernel
theorem dL_law_266 : decode cL_law 266 = .ok (.invokevirtual 39, 3) := by decide +kernel
theorem dL_law_269 : decode cL_law 269 = .ok (.aload_n 2, 1) := by decide +kernel
theorem dL_law_270 : decode cL_law 270 = .ok (.aload_n 0, 1) := by decide +kernel
theorem dL_law_271 : decode cL_law 271 = .ok (.iload_n 3, 1) := by decide +kernel
theorem dL_law_272 : decode cL_law 272 = .ok (.iconst 1, 1) := by decide +kernel
theorem dL_law_273 : decode cL_law 273 = .ok (.iadd, 1) := by decide +kernel
theorem dL_law_274 : decode cL_law 274 = .ok (.iaload, 1) := by decide +kernel
theorem dL_law_275 : decode cL_law 275 = .ok (.invokevirtual 42, 3) := by decide +kernel
theorem dL_law_278 : decode cL_law 278 = .ok (.if_icmp .eq 595, 3) := by decide +kernel
theorem dL_law_281 : decode cL_law 281 = .ok (.iconst 0, 1) := by decide +kernel
theorem dL_law_282 : decode cL_law 282 = .ok (.ireturn, 1) := by decide +kernel
theorem dL_law_283 : decode cL_law 283 = .ok (.aload_n 1, 1) := by decide +kernel
theorem dL_law_284 : decode cL_law 284 = .ok (.aload_n 0, 1) := by decide +kernel
theorem dL_law_285 : decode cL_law 285 = .ok (.iload_n 3, 1) := by decide +kernel
theorem dL_law_286 : decode cL_law 286 = .ok (.iconst 1, 1) := by decide +kernel
theorem dL_law_287 : decode cL_law 287 = .ok (.iadd, 1) := by decide +kernel
theorem dL_law_288 : decode cL_law 288 = .ok (.iaload, 1) := by decide +kernel
theorem dL_law_289 : decode cL_law 289 = .ok (.aload_n 0, 1) := by decide +kernel
theorem dL_law_290 : decode cL_law 290 = .ok (.iload_n 3, 1) := by decide +kernel
theorem dL_law_291 : decode cL_law 291 = .ok (.iconst 2, 1) := by decide +kernel
theorem dL_law_292 : decode cL_law 292 = .ok (.iadd, 1) := by decide +kernel
theorem dL_law_293 : decode cL_law 293 = .ok (.iaload, 1) := by decide +kernel
theorem dL_law_294 : decode cL_law 294 = .ok (.invokevirtual 43, 3) := by decide +kernel
theorem dL_law_297 : decode cL_law 297 = .ok (.aload_n 2, 1) := by decide +kernel
theorem dL_law_298 : decode cL_law 298 = .ok (.aload_n 0, 1) := by decide +kernel
theorem dL_law_299 : decode cL_law 299 = .ok (.iload_n 3, 1) := by decide +kernel
theorem dL_law_300 : decode cL_law 300 = .ok (.iconst 1, 1) := by decide +kernel
theorem dL_law_301 : decode cL_law 301 = .ok (.iadd, 1) := by decide +kernel
theorem dL_law_302 : decode cL_law 302 = .ok (.iaload, 1) := by decide +kernel
theorem dL_law_303 : decode cL_law 303 = .ok (.aload_n 0, 1) := by decide +kernel
theorem dL_law_304 : decode cL_law 304 = .ok (.iload_n 3, 1) := by decide +kernel
theorem dL_law_305 : decode cL_law 305 = .ok (.iconst 2, 1) := by decide +kernel
theorem dL_law_306 : decode cL_law 306 = .ok (.iadd, 1) := by decide +kernel
theorem dL_law_307 : decode cL_law 307 = .ok (.iaload, 1) := by decide +kernel
theorem dL_law_308 : decode cL_law 308 = .ok (.invokevirtual 47, 3) := by decide +kernel
theorem dL_law_311 : decode cL_law 311 = .ok (.if_icmp .eq 562, 3) := by decide +kernel
theorem dL_law_314 : decode cL_law 314 = .ok (.iconst 0, 1) := by decide +kernel
theorem dL_law_315 : decode cL_law 315 = .ok (.ireturn, 1) := by decide +kernel
theorem dL_law_316 : decode cL_law 316 = .ok (.aload_n 1, 1) := by decide +kernel
theorem dL_law_317 : decode cL_law 317 = .ok (.aload_n 0, 1) := by decide +kernel
theorem dL_law_318 : decode cL_law 318 = .ok (.iload_n 3, 1) := by decide +kernel
theorem dL_law_319 : decode cL_law 319 = .ok (.iconst 1, 1) := by decide +kernel
theorem dL_law_320 : decode cL_law 320 = .ok (.iadd, 1) := by decide +kernel
theorem dL_law_321 : decode cL_law 321 = .ok (.iaload, 1) := by decide +kernel
theorem dL_law_322 : decode cL_law 322 = .ok (.invokevirtual 48, 3) := by decide +kernel
theorem dL_law_325 : decode cL_law 325 = .ok (.aload_n 2, 1) := by decide +kernel
theorem dL_law_326 : decode cL_law 326 = .ok (.aload_n 0, 1) := by decide +kernel
theorem dL_law_327 : decode cL_law 327 = .ok (.iload_n 3, 1) := by decide +kernel
theorem dL_law_328 : decode cL_law 328 = .ok (.iconst 1, 1) := by decide +kernel
theorem dL_law_329 : decode cL_law 329 = .ok (.iadd, 1) := by decide +kernel
theorem dL_law_330 : decode cL_law 330 = .ok (.iaload, 1) := by decide +kernel
theorem dL_law_331 : decode cL_law 331 = .ok (.invokevirtual 51, 3) := by decide +kernel
theorem dL_law_334 : decode cL_law 334 = .ok (.if_icmp .eq 539, 3) := by decide +kernel
theorem dL_law_337 : decode cL_law 337 = .ok (.iconst 0, 1) := by decide +kernel
theorem dL_law_338 : decode cL_law 338 = .ok (.ireturn, 1) := by decide +kernel
theorem dL_law_339 : decode cL_law 339 = .ok (.aload_n 1, 1) := by decide +kernel
theorem dL_law_340 : decode cL_law 340 = .ok (.aload_n 0, 1) := by decide +kernel
theorem dL_law_341 : decode cL_law 341 = .ok (.iload_n 3, 1) := by decide +kernel
theorem dL_law_342 : decode cL_law 342 = .ok (.iconst 1, 1) := by decide +kernel
theorem dL_law_343 : decode cL_law 343 = .ok (.iadd, 1) := by decide +kernel
theorem dL_law_344 : decode cL_law 344 = .ok (.iaload, 1) := by decide +kernel
theorem dL_law_345 : decode cL_law 345 = .ok (.invokevirtual 52, 3) := by decide +kernel
theorem dL_law_348 : decode cL_law 348 = .ok (.aload_n 2, 1) := by decide +kernel
theorem dL_law_349 : decode cL_law 349 = .ok (.aload_n 0, 1) := by decide +kernel
theorem dL_law_350 : decode cL_law 350 = .ok (.iload_n 3, 1) := by decide +kernel
theorem dL_law_351 : decode cL_law 351 = .ok (.iconst 1, 1) := by decide +kernel
theorem dL_law_352 : decode cL_law 352 = .ok (.iadd, 1) := by decide +kernel
theorem dL_law_353 : decode cL_law 353 = .ok (.iaload, 1) := by decide +kernel
theorem dL_law_354 : decode cL_law 354 = .ok (.invokevirtual 55, 3) := by decide +kernel
theorem dL_law_357 : decode cL_law 357 = .ok (.if_icmp .eq 516, 3) := by decide +kernel
theorem dL_law_360 : decode cL_law 360 = .ok (.iconst 0, 1) := by decide +kernel
theorem dL_law_361 : decode cL_law 361 = .ok (.ireturn, 1) := by decide +kernel
theorem dL_law_362 : decode cL_law 362 = .ok (.aload_n 1, 1) := by decide +kernel
theorem dL_law_363 : decode cL_law 363 = .ok (.aload_n 0, 1) := by decide +kernel
theorem dL_law_364 : decode cL_law 364 = .ok (.iload_n 3, 1) := by decide +kernel
theorem dL_law_365 : decode cL_law 365 = .ok (.iconst 1, 1) := by decide +kernel
theorem dL_law_366 : decode cL_law 366 = .ok (.iadd, 1) := by decide +kernel
theorem dL_law_367 : decode cL_law 367 = .ok (.iaload, 1) := by decide +kernel
theorem dL_law_368 : decode cL_law 368 = .ok (.invokevirtual 56, 3) := by decide +kernel
theorem dL_law_371 : decode cL_law 371 = .ok (.aload_n 2, 1) := by decide +kernel
theorem dL_law_372 : decode cL_law 372 = .ok (.aload_n 0, 1) := by decide +kernel
theorem dL_law_373 : decode cL_law 373 = .ok (.iload_n 3, 1) := by decide +kernel
theorem dL_law_374 : decode cL_law 374 = .ok (.iconst 1, 1) := by decide +kernel
theorem dL_law_375 : decode cL_law 375 = .ok (.iadd, 1) := by decide +kernel
theorem dL_law_376 : decode cL_law 376 = .ok (.iaload, 1) := by decide +kernel
theorem dL_law_377 : decode cL_law 377 = .ok (.invokevirtual 59, 3) := by decide +kernel
theorem dL_law_380 : decode cL_law 380 = .ok (.if_icmp .eq 493, 3) := by decide +kernel
theorem dL_law_383 : decode cL_law 383 = .ok (.iconst 0, 1) := by decide +kernel
theorem dL_law_384 : decode cL_law 384 = .ok (.ireturn, 1) := by decide +kernel
theorem dL_law_385 : decode cL_law 385 = .ok (.aload_n 1, 1) := by decide +kernel
theorem dL_law_386 : decode cL_law 386 = .ok (.aload_n 0, 1) := by decide +kernel
theorem dL_law_387 : decode cL_law 387 = .ok (.iload_n 3, 1) := by decide +kernel
theorem dL_law_388 : decode cL_law 388 = .ok (.iconst 1, 1) := by decide +kernel
theorem dL_law_389 : decode cL_law 389 = .ok (.iadd, 1) := by decide +kernel
theorem dL_law_390 : decode cL_law 390 = .ok (.iaload, 1) := by decide +kernel
theorem dL_law_391 : decode cL_law 391 = .ok (.aload_n 0, 1) := by decide +kernel
theorem dL_law_392 : decode cL_law 392 = .ok (.iload_n 3, 1) := by decide +kernel
theorem dL_law_393 : decode cL_law 393 = .ok (.iconst 2, 1) := by decide +kernel
theorem dL_law_394 : decode cL_law 394 = .ok (.iadd, 1) := by decide +kernel
theorem dL_law_395 : decode cL_law 395 = .ok (.iaload, 1) := by decide +kernel
theorem dL_law_396 : decode cL_law 396 = .ok (.invokevirtual 60, 3) := by decide +kernel
theorem dL_law_399 : decode cL_law 399 = .ok (.aload_n 2, 1) := by decide +kernel
theorem dL_law_400 : decode cL_law 400 = .ok (.aload_n 0, 1) := by decide +kernel
theorem dL_law_401 : decode cL_law 401 = .ok (.iload_n 3, 1) := by decide +kernel
theorem dL_law_402 : decode cL_law 402 = .ok (.iconst 1, 1) := by decide +kernel
theorem dL_law_403 : decode cL_law 403 = .ok (.iadd, 1) := by decide +kernel
theorem dL_law_404 : decode cL_law 404 = .ok (.iaload, 1) := by decide +kernel
theorem dL_law_405 : decode cL_law 405 = .ok (.aload_n 0, 1) := by decide +kernel
theorem dL_law_406 : decode cL_law 406 = .ok (.iload_n 3, 1) := by decide +kernel
theorem dL_law_407 : decode cL_law 407 = .ok (.iconst 2, 1) := by decide +kernel
theorem dL_law_408 : decode cL_law 408 = .ok (.iadd, 1) := by decide +kernel
theorem dL_law_409 : decode cL_law 409 = .ok (.iaload, 1) := by decide +kernel
theorem dL_law_410 : decode cL_law 410 = .ok (.invokevirtual 63, 3) := by decide +kernel
theorem dL_law_413 : decode cL_law 413 = .ok (.if_icmp .eq 460, 3) := by decide +kernel
theorem dL_law_416 : decode cL_law 416 = .ok (.iconst 0, 1) := by decide +kernel
theorem dL_law_417 : decode cL_law 417 = .ok (.ireturn, 1) := by decide +kernel
theorem dL_law_418 : decode cL_law 418 = .ok (.aload_n 1, 1) := by decide +kernel
theorem dL_law_419 : decode cL_law 419 = .ok (.aload_n 0, 1) := by decide +kernel
theorem dL_law_420 : decode cL_law 420 = .ok (.iload_n 3, 1) := by decide +kernel
theorem dL_law_421 : decode cL_law 421 = .ok (.iconst 1, 1) := by decide +kernel
theorem dL_law_422 : decode cL_law 422 = .ok (.iadd, 1) := by decide +kernel
theorem dL_law_423 : decode cL_law 423 = .ok (.iaload, 1) := by decide +kernel
theorem dL_law_424 : decode cL_law 424 = .ok (.invokevirtual 64, 3) := by decide +kernel
theorem dL_law_427 : decode cL_law 427 = .ok (.aload_n 2, 1) := by decide +kernel
theorem dL_law_428 : decode cL_law 428 = .ok (.aload_n 0, 1) := by decide +kernel
theorem dL_law_429 : decode cL_law 429 = .ok (.iload_n 3, 1) := by decide +kernel
theorem dL_law_430 : decode cL_law 430 = .ok (.iconst 1, 1) := by decide +kernel
theorem dL_law_431 : decode cL_law 431 = .ok (.iadd, 1) := by decide +kernel
theorem dL_law_432 : decode cL_law 432 = .ok (.iaload, 1) := by decide +kernel
theorem dL_law_433 : decode cL_law 433 = .ok (.invokevirtual 67, 3) := by decide +kernel
theorem dL_law_436 : decode cL_law 436 = .ok (.if_icmp .eq 437, 3) := by decide +kernel
theorem dL_law_439 : decode cL_law 439 = .ok (.iconst 0, 1) := by decide +kernel
theorem dL_law_440 : decode cL_law 440 = .ok (.ireturn, 1) := by decide +kernel
theorem dL_law_441 : decode cL_law 441 = .ok (.aload_n 1, 1) := by decide +kernel
theorem dL_law_442 : decode cL_law 442 = .ok (.invokevirtual 68, 3) := by decide +kernel
theorem dL_law_445 : decode cL_law 445 = .ok (.aload_n 2, 1) := by decide +kernel
theorem dL_law_446 : decode cL_law 446 = .ok (.invokevirtual 71, 3) := by decide +kernel
theorem dL_law_449 : decode cL_law 449 = .ok (.if_icmp .eq 424, 3) := by decide +kernel
theorem dL_law_452 : decode cL_law 452 = .ok (.iconst 0, 1) := by decide +kernel
theorem dL_law_453 : decode cL_law 453 = .ok (.ireturn, 1) := by decide +kernel
theorem dL_law_454 : decode cL_law 454 = .ok (.aload_n 1, 1) := by decide +kernel
theorem dL_law_455 : decode cL_law 455 = .ok (.aload_n 0, 1) := by decide +kernel
theorem dL_law_456 : decode cL_law 456 = .ok (.iload_n 3, 1) := by decide +kernel
theorem dL_law_457 : decode cL_law 457 = .ok (.iconst 1, 1) := by decide +kernel
theorem dL_law_458 : decode cL_law 458 = .ok (.iadd, 1) := by decide +kernel
theorem dL_law_459 : decode cL_law 459 = .ok (.iaload, 1) := by decide +kernel
theorem dL_law_460 : decode cL_law 460 = .ok (.aload_n 0, 1) := by decide +kernel
theorem dL_law_461 : decode cL_law 461 = .ok (.iload_n 3, 1) := by decide +kernel
theorem dL_law_462 : decode cL_law 462 = .ok (.iconst 2, 1) := by decide +kernel
theorem dL_law_463 : decode cL_law 463 = .ok (.iadd, 1) := by decide +kernel
theorem dL_law_464 : decode cL_law 464 = .ok (.iaload, 1) := by decide +kernel
theorem dL_law_465 : decode cL_law 465 = .ok (.invokevirtual 72, 3) := by decide +kernel
theorem dL_law_468 : decode cL_law 468 = .ok (.aload_n 2, 1) := by decide +kernel
theorem dL_law_469 : decode cL_law 469 = .ok (.aload_n 0, 1) := by decide +kernel
theorem dL_law_470 : decode cL_law 470 = .ok (.iload_n 3, 1) := by decide +kernel
theorem dL_law_471 : decode cL_law 471 = .ok (.iconst 1, 1) := by decide +kernel
theorem dL_law_472 : decode cL_law 472 = .ok (.iadd, 1) := by decide +kernel
theorem dL_law_473 : decode cL_law 473 = .ok (.iaload, 1) := by decide +kernel
theorem dL_law_474 : decode cL_law 474 = .ok (.aload_n 0, 1) := by decide +kernel
theorem dL_law_475 : decode cL_law 475 = .ok (.iload_n 3, 1) := by decide +kernel
theorem dL_law_476 : decode cL_law 476 = .ok (.iconst 2, 1) := by decide +kernel
theorem dL_law_477 : decode cL_law 477 = .ok (.iadd, 1) := by decide +kernel
theorem dL_law_478 : decode cL_law 478 = .ok (.iaload, 1) := by decide +kernel
theorem dL_law_479 : decode cL_law 479 = .ok (.invokevirtual 75, 3) := by decide +kernel
theorem dL_law_482 : decode cL_law 482 = .ok (.if_icmp .eq 391, 3) := by decide +kernel
theorem dL_law_485 : decode cL_law 485 = .ok (.iconst 0, 1) := by decide +kernel
theorem dL_law_486 : decode cL_law 486 = .ok (.ireturn, 1) := by decide +kernel
theorem dL_law_487 : decode cL_law 487 = .ok (.aload_n 1, 1) := by decide +kernel
theorem dL_law_488 : decode cL_law 488 = .ok (.aload_n 0, 1) := by decide +kernel
theorem dL_law_489 : decode cL_law 489 = .ok (.iload_n 3, 1) := by decide +kernel
theorem dL_law_490 : decode cL_law 490 = .ok (.iconst 1, 1) := by decide +kernel
theorem dL_law_491 : decode cL_law 491 = .ok (.iadd, 1) := by decide +kernel
theorem dL_law_492 : decode cL_law 492 = .ok (.iaload, 1) := by decide +kernel
theorem dL_law_493 : decode cL_law 493 = .ok (.invokevirtual 76, 3) := by decide +kernel
theorem dL_law_496 : decode cL_law 496 = .ok (.aload_n 2, 1) := by decide +kernel
theorem dL_law_497 : decode cL_law 497 = .ok (.aload_n 0, 1) := by decide +kernel
theorem dL_law_498 : decode cL_law 498 = .ok (.iload_n 3, 1) := by decide +kernel
theorem dL_law_499 : decode cL_law 499 = .ok (.iconst 1, 1) := by decide +kernel
theorem dL_law_500 : decode cL_law 500 = .ok (.iadd, 1) := by decide +kernel
theorem dL_law_501 : decode cL_law 501 = .ok (.iaload, 1) := by decide +kernel
theorem dL_law_502 : decode cL_law 502 = .ok (.invokevirtual 79, 3) := by decide +kernel
theorem dL_law_505 : decode cL_law 505 = .ok (.if_icmp .eq 368, 3) := by decide +kernel
theorem dL_law_508 : decode cL_law 508 = .ok (.iconst 0, 1) := by decide +kernel
theorem dL_law_509 : decode cL_law 509 = .ok (.ireturn, 1) := by decide +kernel
theorem dL_law_510 : decode cL_law 510 = .ok (.aload_n 1, 1) := by decide +kernel
theorem dL_law_511 : decode cL_law 511 = .ok (.aload_n 0, 1) := by decide +kernel
theorem dL_law_512 : decode cL_law 512 = .ok (.iload_n 3, 1) := by decide +kernel
theorem dL_law_513 : decode cL_law 513 = .ok (.iconst 1, 1) := by decide +kernel
theorem dL_law_514 : decode cL_law 514 = .ok (.iadd, 1) := by decide +kernel
theorem dL_law_515 : decode cL_law 515 = .ok (.iaload, 1) := by decide +kernel
theorem dL_law_516 : decode cL_law 516 = .ok (.aload_n 0, 1) := by decide +kernel
theorem dL_law_517 : decode cL_law 517 = .ok (.iload_n 3, 1) := by decide +kernel
theorem dL_law_518 : decode cL_law 518 = .ok (.iconst 2, 1) := by decide +kernel
theorem dL_law_519 : decode cL_law 519 = .ok (.iadd, 1) := by decide +kernel
theorem dL_law_520 : decode cL_law 520 = .ok (.iaload, 1) := by decide +kernel
theorem dL_law_521 : decode cL_law 521 = .ok (.i2l, 1) := by decide +kernel
theorem dL_law_522 : decode cL_law 522 = .ok (.bipush 32, 2) := by decide +kernel
theorem dL_law_524 : decode cL_law 524 = .ok (.lshl, 1) := by decide +kernel
theorem dL_law_525 : decode cL_law 525 = .ok (.aload_n 0, 1) := by decide +kernel
theorem dL_law_526 : decode cL_law 526 = .ok (.iload_n 3, 1) := by decide +kernel
theorem dL_law_527 : decode cL_law 527 = .ok (.iconst 3, 1) := by decide +kernel
theorem dL_law_528 : decode cL_law 528 = .ok (.iadd, 1) := by decide +kernel
theorem dL_law_529 : decode cL_law 529 = .ok (.iaload, 1) := by decide +kernel
theorem dL_law_530 : decode cL_law 530 = .ok (.i2l, 1) := by decide +kernel
theorem dL_law_531 : decode cL_law 531 = .ok (.ldc2_w 80, 3) := by decide +kernel
theorem dL_law_534 : decode cL_law 534 = .ok (.land, 1) := by decide +kernel
theorem dL_law_535 : decode cL_law 535 = .ok (.lor, 1) := by decide +kernel
theorem dL_law_536 : decode cL_law 536 = .ok (.invokevirtual 82, 3) := by decide +kernel
theorem dL_law_539 : decode cL_law 539 = .ok (.aload_n 2, 1) := by decide +kernel
theorem dL_law_540 : decode cL_law 540 = .ok (.aload_n 0, 1) := by decide +kernel
theorem dL_law_541 : decode cL_law 541 = .ok (.iload_n 3, 1) := by decide +kernel
theorem dL_law_542 : decode cL_law 542 = .ok (.iconst 1, 1) := by decide +kernel
theorem dL_law_543 : decode cL_law 543 = .ok (.iadd, 1) := by decide +kernel
theorem dL_law_544 : decode cL_law 544 = .ok (.iaload, 1) := by decide +kernel
theorem dL_law_545 : decode cL_law 545 = .ok (.aload_n 0, 1) := by decide +kernel
theorem dL_law_546 : decode cL_law 546 = .ok (.iload_n 3, 1) := by decide +kernel
theorem dL_law_547 : decode cL_law 547 = .ok (.iconst 2, 1) := by decide +kernel
theorem dL_law_548 : decode cL_law 548 = .ok (.iadd, 1) := by decide +kernel
theorem dL_law_549 : decode cL_law 549 = .ok (.iaload, 1) := by decide +kernel
theorem dL_law_550 : decode cL_law 550 = .ok (.i2l, 1) := by decide +kernel
theorem dL_law_551 : decode cL_law 551 = .ok (.bipush 32, 2) := by decide +kernel
theorem dL_law_553 : decode cL_law 553 = .ok (.lshl, 1) := by decide +kernel
theorem dL_law_554 : decode cL_law 554 = .ok (.aload_n 0, 1) := by decide +kernel
theorem dL_law_555 : decode cL_law 555 = .ok (.iload_n 3, 1) := by decide +kernel
theorem dL_law_556 : decode cL_law 556 = .ok (.iconst 3, 1) := by decide +kernel
theorem dL_law_557 : decode cL_law 557 = .ok (.iadd, 1) := by decide +kernel
theorem dL_law_558 : decode cL_law 558 = .ok (.iaload, 1) := by decide +kernel
theorem dL_law_559 : decode cL_law 559 = .ok (.i2l, 1) := by decide +kernel
theorem dL_law_560 : decode cL_law 560 = .ok (.ldc2_w 80, 3) := by decide +kernel
theorem dL_law_563 : decode cL_law 563 = .ok (.land, 1) := by decide +kernel
theorem dL_law_564 : decode cL_law 564 = .ok (.lor, 1) := by decide +kernel
theorem dL_law_565 : decode cL_law 565 = .ok (.invokevirtual 86, 3) := by decide +kernel
theorem dL_law_568 : decode cL_law 568 = .ok (.if_icmp .eq 305, 3) := by decide +kernel
theorem dL_law_571 : decode cL_law 571 = .ok (.iconst 0, 1) := by decide +kernel
theorem dL_law_572 : decode cL_law 572 = .ok (.ireturn, 1) := by decide +kernel
theorem dL_law_573 : decode cL_law 573 = .ok (.aload_n 1, 1) := by decide +kernel
theorem dL_law_574 : decode cL_law 574 = .ok (.aload_n 0, 1) := by decide +kernel
theorem dL_law_575 : decode cL_law 575 = .ok (.iload_n 3, 1) := by decide +kernel
theorem dL_law_576 : decode cL_law 576 = .ok (.iconst 1, 1) := by decide +kernel
theorem dL_law_577 : decode cL_law 577 = .ok (.iadd, 1) := by decide +kernel
theorem dL_law_578 : decode cL_law 578 = .ok (.iaload, 1) := by decide +kernel
theorem dL_law_579 : decode cL_law 579 = .ok (.aload_n 0, 1) := by decide +kernel
theorem dL_law_580 : decode cL_law 580 = .ok (.iload_n 3, 1) := by decide +kernel
theorem dL_law_581 : decode cL_law 581 = .ok (.iconst 2, 1) := by decide +kernel
theorem dL_law_582 : decode cL_law 582 = .ok (.iadd, 1) := by decide +kernel
theorem dL_law_583 : decode cL_law 583 = .ok (.iaload, 1) := by decide +kernel
theorem dL_law_584 : decode cL_law 584 = .ok (.aload_n 0, 1) := by decide +kernel
theorem dL_law_585 : decode cL_law 585 = .ok (.iload_n 3, 1) := by decide +kernel
theorem dL_law_586 : decode cL_law 586 = .ok (.iconst 3, 1) := by decide +kernel
theorem dL_law_587 : decode cL_law 587 = .ok (.iadd, 1) := by decide +kernel
theorem dL_law_588 : decode cL_law 588 = .ok (.iaload, 1) := by decide +kernel
theorem dL_law_589 : decode cL_law 589 = .ok (.invokevirtual 87, 3) := by decide +kernel
theorem dL_law_592 : decode cL_law 592 = .ok (.aload_n 2, 1) := by decide +kernel
theorem dL_law_593 : decode cL_law 593 = .ok (.aload_n 0, 1) := by decide +kernel
theorem dL_law_594 : decode cL_law 594 = .ok (.iload_n 3, 1) := by decide +kernel
theorem dL_law_595 : decode cL_law 595 = .ok (.iconst 1, 1) := by decide +kernel
theorem dL_law_596 : decode cL_law 596 = .ok (.iadd, 1) := by decide +kernel
theorem dL_law_597 : decode cL_law 597 = .ok (.iaload, 1) := by decide +kernel
theorem dL_law_598 : decode cL_law 598 = .ok (.aload_n 0, 1) := by decide +kernel
theorem dL_law_599 : decode cL_law 599 = .ok (.iload_n 3, 1) := by decide +kernel
theorem dL_law_600 : decode cL_law 600 = .ok (.iconst 2, 1) := by decide +kernel
theorem dL_law_601 : decode cL_law 601 = .ok (.iadd, 1) := by decide +kernel
theorem dL_law_602 : decode cL_law 602 = .ok (.iaload, 1) := by decide +kernel
theorem dL_law_603 : decode cL_law 603 = .ok (.aload_n 0, 1) := by decide +kernel
theorem dL_law_604 : decode cL_law 604 = .ok (.iload_n 3, 1) := by decide +kernel
theorem dL_law_605 : decode cL_law 605 = .ok (.iconst 3, 1) := by decide +kernel
theorem dL_law_606 : decode cL_law 606 = .ok (.iadd, 1) := by decide +kernel
theorem dL_law_607 : decode cL_law 607 = .ok (.iaload, 1) := by decide +kernel
theorem dL_law_608 : decode cL_law 608 = .ok (.invokevirtual 91, 3) := by decide +kernel
theorem dL_law_611 : decode cL_law 611 = .ok (.if_icmp .eq 262, 3) := by decide +kernel
theorem dL_law_614 : decode cL_law 614 = .ok (.iconst 0, 1) := by decide +kernel
theorem dL_law_615 : decode cL_law 615 = .ok (.ireturn, 1) := by decide +kernel
theorem dL_law_616 : decode cL_law 616 = .ok (.aload_n 1, 1) := by decide +kernel
theorem dL_law_617 : decode cL_law 617 = .ok (.invokevirtual 92, 3) := by decide +kernel
theorem dL_law_620 : decode cL_law 620 = .ok (.aload_n 2, 1) := by decide +kernel
theorem dL_law_621 : decode cL_law 621 = .ok (.invokevirtual 95, 3) := by decide +kernel
theorem dL_law_624 : decode cL_law 624 = .ok (.if_icmp .eq 249, 3) := by decide +kernel
theorem dL_law_627 : decode cL_law 627 = .ok (.iconst 0, 1) := by decide +kernel
theorem dL_law_628 : decode cL_law 628 = .ok (.ireturn, 1) := by decide +kernel
theorem dL_law_629 : decode cL_law 629 = .ok (.aload_n 1, 1) := by decide +kernel
theorem dL_law_630 : decode cL_law 630 = .ok (.invokevirtual 96, 3) := by decide +kernel
theorem dL_law_633 : decode cL_law 633 = .ok (.aload_n 2, 1) := by decide +kernel
theorem dL_law_634 : decode cL_law 634 = .ok (.invokevirtual 99, 3) := by decide +kernel
theorem dL_law_637 : decode cL_law 637 = .ok (.if_icmp .eq 236, 3) := by decide +kernel
theorem dL_law_640 : decode cL_law 640 = .ok (.iconst 0, 1) := by decide +kernel
theorem dL_law_641 : decode cL_law 641 = .ok (.ireturn, 1) := by decide +kernel
theorem dL_law_642 : decode cL_law 642 = .ok (.aload_n 1, 1) := by decide +kernel
theorem dL_law_643 : decode cL_law 643 = .ok (.aload_n 0, 1) := by decide +kernel
theorem dL_law_644 : decode cL_law 644 = .ok (.iload_n 3, 1) := by decide +kernel
theorem dL_law_645 : decode cL_law 645 = .ok (.iconst 1, 1) := by decide +kernel
theorem dL_law_646 : decode cL_law 646 = .ok (.iadd, 1) := by decide +kernel
theorem dL_law_647 : decode cL_law 647 = .ok (.iaload, 1) := by decide +kernel
theorem dL_law_648 : decode cL_law 648 = .ok (.aload_n 0, 1) := by decide +kernel
theorem dL_law_649 : decode cL_law 649 = .ok (.iload_n 3, 1) := by decide +kernel
theorem dL_law_650 : decode cL_law 650 = .ok (.iconst 2, 1) := by decide +kernel
theorem dL_law_651 : decode cL_law 651 = .ok (.iadd, 1) := by decide +kernel
theorem dL_law_652 : decode cL_law 652 = .ok (.iaload, 1) := by decide +kernel
theorem dL_law_653 : decode cL_law 653 = .ok (.ifCond .eq 7, 3) := by decide +kernel
theorem dL_law_656 : decode cL_law 656 = .ok (.iconst 1, 1) := by decide +kernel
theorem dL_law_657 : decode cL_law 657 = .ok (.goto 4, 3) := by decide +kernel
theorem dL_law_660 : decode cL_law 660 = .ok (.iconst 0, 1) := by decide +kernel
theorem dL_law_661 : decode cL_law 661 = .ok (.invokevirtual 100, 3) := by decide +kernel
theorem dL_law_664 : decode cL_law 664 = .ok (.aload_n 2, 1) := by decide +kernel
theorem dL_law_665 : decode cL_law 665 = .ok (.aload_n 0, 1) := by decide +kernel
theorem dL_law_666 : decode cL_law 666 = .ok (.iload_n 3, 1) := by decide +kernel
theorem dL_law_667 : decode cL_law 667 = .ok (.iconst 1, 1) := by decide +kernel
theorem dL_law_668 : decode cL_law 668 = .ok (.iadd, 1) := by decide +kernel
theorem dL_law_669 : decode cL_law 669 = .ok (.iaload, 1) := by decide +kernel
theorem dL_law_670 : decode cL_law 670 = .ok (.aload_n 0, 1) := by decide +kernel
theorem dL_law_671 : decode cL_law 671 = .ok (.iload_n 3, 1) := by decide +kernel
theorem dL_law_672 : decode cL_law 672 = .ok (.iconst 2, 1) := by decide +kernel
theorem dL_law_673 : decode cL_law 673 = .ok (.iadd, 1) := by decide +kernel
theorem dL_law_674 : decode cL_law 674 = .ok (.iaload, 1) := by decide +kernel
theorem dL_law_675 : decode cL_law 675 = .ok (.ifCond .eq 7, 3) := by decide +kernel
theorem dL_law_678 : decode cL_law 678 = .ok (.iconst 1, 1) := by decide +kernel
theorem dL_law_679 : decode cL_law 679 = .ok (.goto 4, 3) := by decide +kernel
theorem dL_law_682 : decode cL_law 682 = .ok (.iconst 0, 1) := by decide +kernel
theorem dL_law_683 : decode cL_law 683 = .ok (.invokevirtual 104, 3) := by decide +kernel
theorem dL_law_686 : decode cL_law 686 = .ok (.if_icmp .eq 187, 3) := by decide +kernel
theorem dL_law_689 : decode cL_law 689 = .ok (.iconst 0, 1) := by decide +kernel
theorem dL_law_690 : decode cL_law 690 = .ok (.ireturn, 1) := by decide +kernel
theorem dL_law_691 : decode cL_law 691 = .ok (.aload_n 1, 1) := by decide +kernel
theorem dL_law_692 : decode cL_law 692 = .ok (.aload_n 0, 1) := by decide +kernel
theorem dL_law_693 : decode cL_law 693 = .ok (.iload_n 3, 1) := by decide +kernel
theorem dL_law_694 : decode cL_law 694 = .ok (.iconst 1, 1) := by decide +kernel
theorem dL_law_695 : decode cL_law 695 = .ok (.iadd, 1) := by decide +kernel
theorem dL_law_696 : decode cL_law 696 = .ok (.iaload, 1) := by decide +kernel
theorem dL_law_697 : decode cL_law 697 = .ok (.aload_n 0, 1) := by decide +kernel
theorem dL_law_698 : decode cL_law 698 = .ok (.iload_n 3, 1) := by decide +kernel
theorem dL_law_699 : decode cL_law 699 = .ok (.iconst 2, 1) := by decide +kernel
theorem dL_law_700 : decode cL_law 700 = .ok (.iadd, 1) := by decide +kernel
theorem dL_law_701 : decode cL_law 701 = .ok (.iaload, 1) := by decide +kernel
theorem dL_law_702 : decode cL_law 702 = .ok (.aload_n 0, 1) := by decide +kernel
theorem dL_law_703 : decode cL_law 703 = .ok (.iload_n 3, 1) := by decide +kernel
theorem dL_law_704 : decode cL_law 704 = .ok (.iconst 3, 1) := by decide +kernel
theorem dL_law_705 : decode cL_law 705 = .ok (.iadd, 1) := by decide +kernel
theorem dL_law_706 : decode cL_law 706 = .ok (.iaload, 1) := by decide +kernel
theorem dL_law_707 : decode cL_law 707 = .ok (.ifCond .eq 7, 3) := by decide +kernel
theorem dL_law_710 : decode cL_law 710 = .ok (.iconst 1, 1) := by decide +kernel
theorem dL_law_711 : decode cL_law 711 = .ok (.goto 4, 3) := by decide +kernel
theorem dL_law_714 : decode cL_law 714 = .ok (.iconst 0, 1) := by decide +kernel
theorem dL_law_715 : decode cL_law 715 = .ok (.invokevirtual 105, 3) := by decide +kernel
theorem dL_law_718 : decode cL_law 718 = .ok (.aload_n 2, 1) := by decide +kernel
theorem dL_law_719 : decode cL_law 719 = .ok (.aload_n 0, 1) := by decide +kernel
theorem dL_law_720 : decode cL_law 720 = .ok (.iload_n 3, 1) := by decide +kernel
theorem dL_law_721 : decode cL_law 721 = .ok (.iconst 1, 1) := by decide +kernel
theorem dL_law_722 : decode cL_law 722 = .ok (.iadd, 1) := by decide +kernel
theorem dL_law_723 : decode cL_law 723 = .ok (.iaload, 1) := by decide +kernel
theorem dL_law_724 : decode cL_law 724 = .ok (.aload_n 0, 1) := by decide +kernel
theorem dL_law_725 : decode cL_law 725 = .ok (.iload_n 3, 1) := by decide +kernel
theorem dL_law_726 : decode cL_law 726 = .ok (.iconst 2, 1) := by decide +kernel
theorem dL_law_727 : decode cL_law 727 = .ok (.iadd, 1) := by decide +kernel
theorem dL_law_728 : decode cL_law 728 = .ok (.iaload, 1) := by decide +kernel
theorem dL_law_729 : decode cL_law 729 = .ok (.aload_n 0, 1) := by decide +kernel
theorem dL_law_730 : decode cL_law 730 = .ok (.iload_n 3, 1) := by decide +kernel
theorem dL_law_731 : decode cL_law 731 = .ok (.iconst 3, 1) := by decide +kernel
theorem dL_law_732 : decode cL_law 732 = .ok (.iadd, 1) := by decide +kernel
theorem dL_law_733 : decode cL_law 733 = .ok (.iaload, 1) := by decide +kernel
theorem dL_law_734 : decode cL_law 734 = .ok (.ifCond .eq 7, 3) := by decide +kernel
theorem dL_law_737 : decode cL_law 737 = .ok (.iconst 1, 1) := by decide +kernel
theorem dL_law_738 : decode cL_law 738 = .ok (.goto 4, 3) := by decide +kernel
theorem dL_law_741 : decode cL_law 741 = .ok (.iconst 0, 1) := by decide +kernel
theorem dL_law_742 : decode cL_law 742 = .ok (.invokevirtual 109, 3) := by decide +kernel
theorem dL_law_745 : decode cL_law 745 = .ok (.if_icmp .eq 128, 3) := by decide +kernel
theorem dL_law_748 : decode cL_law 748 = .ok (.iconst 0, 1) := by decide +kernel
theorem dL_law_749 : decode cL_law 749 = .ok (.ireturn, 1) := by decide +kernel
theorem dL_law_750 : decode cL_law 750 = .ok (.aload_n 1, 1) := by decide +kernel
theorem dL_law_751 : decode cL_law 751 = .ok (.aload_n 0, 1) := by decide +kernel
theorem dL_law_752 : decode cL_law 752 = .ok (.iload_n 3, 1) := by decide +kernel
theorem dL_law_753 : decode cL_law 753 = .ok (.iconst 1, 1) := by decide +kernel
theorem dL_law_754 : decode cL_law 754 = .ok (.iadd, 1) := by decide +kernel
theorem dL_law_755 : decode cL_law 755 = .ok (.iaload, 1) := by decide +kernel
theorem dL_law_756 : decode cL_law 756 = .ok (.i2l, 1) := by decide +kernel
theorem dL_law_757 : decode cL_law 757 = .ok (.bipush 32, 2) := by decide +kernel
theorem dL_law_759 : decode cL_law 759 = .ok (.lshl, 1) := by decide +kernel
theorem dL_law_760 : decode cL_law 760 = .ok (.aload_n 0, 1) := by decide +kernel
theorem dL_law_761 : decode cL_law 761 = .ok (.iload_n 3, 1) := by decide +kernel
theorem dL_law_762 : decode cL_law 762 = .ok (.iconst 2, 1) := by decide +kernel
theorem dL_law_763 : decode cL_law 763 = .ok (.iadd, 1) := by decide +kernel
theorem dL_law_764 : decode cL_law 764 = .ok (.iaload, 1) := by decide +kernel
theorem dL_law_765 : decode cL_law 765 = .ok (.i2l, 1) := by decide +kernel
theorem dL_law_766 : decode cL_law 766 = .ok (.ldc2_w 80, 3) := by decide +kernel
theorem dL_law_769 : decode cL_law 769 = .ok (.land, 1) := by decide +kernel
theorem dL_law_770 : decode cL_law 770 = .ok (.lor, 1) := by decide +kernel
theorem dL_law_771 : decode cL_law 771 = .ok (.invokevirtual 110, 3) := by decide +kernel
theorem dL_law_774 : decode cL_law 774 = .ok (.aload_n 2, 1) := by decide +kernel
theorem dL_law_775 : decode cL_law 775 = .ok (.aload_n 0, 1) := by decide +kernel
theorem dL_law_776 : decode cL_law 776 = .ok (.iload_n 3, 1) := by decide +kernel
theorem dL_law_777 : decode cL_law 777 = .ok (.iconst 1, 1) := by decide +kernel
theorem dL_law_778 : decode cL_law 778 = .ok (.iadd, 1) := by decide +kernel
theorem dL_law_779 : decode cL_law 779 = .ok (.iaload, 1) := by decide +kernel
theorem dL_law_780 : decode cL_law 780 = .ok (.i2l, 1) := by decide +kernel
theorem dL_law_781 : decode cL_law 781 = .ok (.bipush 32, 2) := by decide +kernel
theorem dL_law_783 : decode cL_law 783 = .ok (.lshl, 1) := by decide +kernel
theorem dL_law_784 : decode cL_law 784 = .ok (.aload_n 0, 1) := by decide +kernel
theorem dL_law_785 : decode cL_law 785 = .ok (.iload_n 3, 1) := by decide +kernel
theorem dL_law_786 : decode cL_law 786 = .ok (.iconst 2, 1) := by decide +kernel
theorem dL_law_787 : decode cL_law 787 = .ok (.iadd, 1) := by decide +kernel
theorem dL_law_788 : decode cL_law 788 = .ok (.iaload, 1) := by decide +kernel
theorem dL_law_789 : decode cL_law 789 = .ok (.i2l, 1) := by decide +kernel
theorem dL_law_790 : decode cL_law 790 = .ok (.ldc2_w 80, 3) := by decide +kernel
theorem dL_law_793 : decode cL_law 793 = .ok (.land, 1) := by decide +kernel
theorem dL_law_794 : decode cL_law 794 = .ok (.lor, 1) := by decide +kernel
theorem dL_law_795 : decode cL_law 795 = .ok (.invokevirtual 114, 3) := by decide +kernel
theorem dL_law_798 : decode cL_law 798 = .ok (.lcmp, 1) := by decide +kernel
theorem dL_law_799 : decode cL_law 799 = .ok (.ifCond .eq 74, 3) := by decide +kernel
theorem dL_law_802 : decode cL_law 802 = .ok (.iconst 0, 1) := by decide +kernel
theorem dL_law_803 : decode cL_law 803 = .ok (.ireturn, 1) := by decide +kernel
theorem dL_law_804 : decode cL_law 804 = .ok (.aload_n 1, 1) := by decide +kernel
theorem dL_law_805 : decode cL_law 805 = .ok (.aload_n 0, 1) := by decide +kernel
theorem dL_law_806 : decode cL_law 806 = .ok (.iload_n 3, 1) := by decide +kernel
theorem dL_law_807 : decode cL_law 807 = .ok (.iconst 1, 1) := by decide +kernel
theorem dL_law_808 : decode cL_law 808 = .ok (.iadd, 1) := by decide +kernel
theorem dL_law_809 : decode cL_law 809 = .ok (.iaload, 1) := by decide +kernel
theorem dL_law_810 : decode cL_law 810 = .ok (.invokevirtual 115, 3) := by decide +kernel
theorem dL_law_813 : decode cL_law 813 = .ok (.aload_n 2, 1) := by decide +kernel
theorem dL_law_814 : decode cL_law 814 = .ok (.aload_n 0, 1) := by decide +kernel
theorem dL_law_815 : decode cL_law 815 = .ok (.iload_n 3, 1) := by decide +kernel
theorem dL_law_816 : decode cL_law 816 = .ok (.iconst 1, 1) := by decide +kernel
theorem dL_law_817 : decode cL_law 817 = .ok (.iadd, 1) := by decide +kernel
theorem dL_law_818 : decode cL_law 818 = .ok (.iaload, 1) := by decide +kernel
theorem dL_law_819 : decode cL_law 819 = .ok (.invokevirtual 118, 3) := by decide +kernel
theorem dL_law_822 : decode cL_law 822 = .ok (.if_icmp .eq 51, 3) := by decide +kernel
theorem dL_law_825 : decode cL_law 825 = .ok (.iconst 0, 1) := by decide +kernel
theorem dL_law_826 : decode cL_law 826 = .ok (.ireturn, 1) := by decide +kernel
theorem dL_law_827 : decode cL_law 827 = .ok (.aload_n 1, 1) := by decide +kernel
theorem dL_law_828 : decode cL_law 828 = .ok (.aload_n 0, 1) := by decide +kernel
theorem dL_law_829 : decode cL_law 829 = .ok (.iload_n 3, 1) := by decide +kernel
theorem dL_law_830 : decode cL_law 830 = .ok (.iconst 1, 1) := by decide +kernel
theorem dL_law_831 : decode cL_law 831 = .ok (.iadd, 1) := by decide +kernel
theorem dL_law_832 : decode cL_law 832 = .ok (.iaload, 1) := by decide +kernel
theorem dL_law_833 : decode cL_law 833 = .ok (.invokevirtual 119, 3) := by decide +kernel
theorem dL_law_836 : decode cL_law 836 = .ok (.aload_n 2, 1) := by decide +kernel
theorem dL_law_837 : decode cL_law 837 = .ok (.aload_n 0, 1) := by decide +kernel
theorem dL_law_838 : decode cL_law 838 = .ok (.iload_n 3, 1) := by decide +kernel
theorem dL_law_839 : decode cL_law 839 = .ok (.iconst 1, 1) := by decide +kernel
theorem dL_law_840 : decode cL_law 840 = .ok (.iadd, 1) := by decide +kernel
theorem dL_law_841 : decode cL_law 841 = .ok (.iaload, 1) := by decide +kernel
theorem dL_law_842 : decode cL_law 842 = .ok (.invokevirtual 122, 3) := by decide +kernel
theorem dL_law_845 : decode cL_law 845 = .ok (.if_icmp .eq 28, 3) := by decide +kernel
theorem dL_law_848 : decode cL_law 848 = .ok (.iconst 0, 1) := by decide +kernel
theorem dL_law_849 : decode cL_law 849 = .ok (.ireturn, 1) := by decide +kernel
theorem dL_law_850 : decode cL_law 850 = .ok (.aload_n 1, 1) := by decide +kernel
theorem dL_law_851 : decode cL_law 851 = .ok (.aload_n 0, 1) := by decide +kernel
theorem dL_law_852 : decode cL_law 852 = .ok (.iload_n 3, 1) := by decide +kernel
theorem dL_law_853 : decode cL_law 853 = .ok (.iconst 1, 1) := by decide +kernel
theorem dL_law_854 : decode cL_law 854 = .ok (.iadd, 1) := by decide +kernel
theorem dL_law_855 : decode cL_law 855 = .ok (.iaload, 1) := by decide +kernel
theorem dL_law_856 : decode cL_law 856 = .ok (.invokevirtual 123, 3) := by decide +kernel
theorem dL_law_859 : decode cL_law 859 = .ok (.aload_n 2, 1) := by decide +kernel
theorem dL_law_860 : decode cL_law 860 = .ok (.aload_n 0, 1) := by decide +kernel
theorem dL_law_861 : decode cL_law 861 = .ok (.iload_n 3, 1) := by decide +kernel
theorem dL_law_862 : decode cL_law 862 = .ok (.iconst 1, 1) := by decide +kernel
theorem dL_law_863 : decode cL_law 863 = .ok (.iadd, 1) := by decide +kernel
theorem dL_law_864 : decode cL_law 864 = .ok (.iaload, 1) := by decide +kernel
theorem dL_law_865 : decode cL_law 865 = .ok (.invokevirtual 126, 3) := by decide +kernel
theorem dL_law_868 : decode cL_law 868 = .ok (.if_icmp .eq 5, 3) := by decide +kernel
theorem dL_law_871 : decode cL_law 871 = .ok (.iconst 0, 1) := by decide +kernel
theorem dL_law_872 : decode cL_law 872 = .ok (.ireturn, 1) := by decide +kernel
theorem dL_law_873 : decode cL_law 873 = .ok (.iinc 3 4, 3) := by decide +kernel
theorem dL_law_876 : decode cL_law 876 = .ok (.goto (-858), 3) := by decide +kernel
theorem dL_law_879 : decode cL_law 879 = .ok (.iconst 1, 1) := by decide +kernel
theorem dL_law_880 : decode cL_law 880 = .ok (.ireturn, 1) := by decide +kernel
