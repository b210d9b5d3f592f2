theorem dX8_copyGuild_28 : decode cX8_copyGuild 28 = .ok (.goto (-26), 3) := by decide +kernel
theorem dX8_copyGuild_31 : decode cX8_copyGuild 31 = .ok (.return_, 1) := by decide +kernel
theorem dX8_keep_0 : decode cX8_keep 0 = .ok (.iload_n 1, 1) := by decide +kernel
theorem dX8_keep_1 : decode cX8_keep 1 = .ok (.i2l, 1) := by decide +kernel
theorem dX8_keep_2 : decode cX8_keep 2 = .ok (.lconst 0, 1) := by decide +kernel
theorem dX8_keep_3 : decode cX8_keep 3 = .ok (.ldc2_w 227, 3) := by decide +kernel
theorem dX8_keep_6 : decode cX8_keep 6 = .ok (.invokestatic 86, 3) := by decide +kernel
theorem dX8_keep_9 : decode cX8_keep 9 = .ok (.ifCond .ne 5, 3) := by decide +kernel
theorem dX8_keep_12 : decode cX8_keep 12 = .ok (.iconst (-1), 1) := by decide +kernel
theorem dX8_keep_13 : decode cX8_keep 13 = .ok (.ireturn, 1) := by decide +kernel
theorem dX8_keep_14 : decode cX8_keep 14 = .ok (.aload_n 0, 1) := by decide +kernel
theorem dX8_keep_15 : decode cX8_keep 15 = .ok (.getfield 156, 3) := by decide +kernel
theorem dX8_keep_18 : decode cX8_keep 18 = .ok (.ifCond .ne 6, 3) := by decide +kernel
theorem dX8_keep_21 : decode cX8_keep 21 = .ok (.bipush (-4), 2) := by decide +kernel
theorem dX8_keep_23 : decode cX8_keep 23 = .ok (.ireturn, 1) := by decide +kernel
theorem dX8_keep_24 : decode cX8_keep 24 = .ok (.aload_n 0, 1) := by decide +kernel
theorem dX8_keep_25 : decode cX8_keep 25 = .ok (.iconst 0, 1) := by decide +kernel
theorem dX8_keep_26 : decode cX8_keep 26 = .ok (.sipush 493, 3) := by decide +kernel
theorem dX8_keep_29 : decode cX8_keep 29 = .ok (.iconst 1, 1) := by decide +kernel
theorem dX8_keep_30 : decode cX8_keep 30 = .ok (.iload_n 1, 1) := by decide +kernel
theorem dX8_keep_31 : decode cX8_keep 31 = .ok (.iadd, 1) := by decide +kernel
theorem dX8_keep_32 : decode cX8_keep 32 = .ok (.imul, 1) := by decide +kernel
theorem dX8_keep_33 : decode cX8_keep 33 = .ok (.invokevirtual 229, 3) := by decide +kernel
theorem dX8_keep_36 : decode cX8_keep 36 = .ok (.aload_n 0, 1) := by decide +kernel
theorem dX8_keep_37 : decode cX8_keep 37 = .ok (.getfield 7, 3) := by decide +kernel
theorem dX8_keep_40 : decode cX8_keep 40 = .ok (.iconst 0, 1) := by decide +kernel
theorem dX8_keep_41 : decode cX8_keep 41 = .ok (.iaload, 1) := by decide +kernel
theorem dX8_keep_42 : decode cX8_keep 42 = .ok (.ireturn, 1) := by decide +kernel
theorem dX8_on_0 : decode cX8_on 0 = .ok (.iload_n 1, 1) := by decide +kernel
theorem dX8_on_1 : decode cX8_on 1 = .ok (.i2l, 1) := by decide +kernel
theorem dX8_on_2 : decode cX8_on 2 = .ok (.lconst 0, 1) := by decide +kernel
theorem dX8_on_3 : decode cX8_on 3 = .ok (.ldc2_w 227, 3) := by decide +kernel
theorem dX8_on_6 : decode cX8_on 6 = .ok (.invokestatic 86, 3) := by decide +kernel
theorem dX8_on_9 : decode cX8_on 9 = .ok (.ifCond .ne 5, 3) := by decide +kernel
theorem dX8_on_12 : decode cX8_on 12 = .ok (.iconst (-1), 1) := by decide +kernel
theorem dX8_on_13 : decode cX8_on 13 = .ok (.ireturn, 1) := by decide +kernel
theorem dX8_on_14 : decode cX8_on 14 = .ok (.aload_n 0, 1) := by decide +kernel
theorem dX8_on_15 : decode cX8_on 15 = .ok (.getfield 7, 3) := by decide +kernel
theorem dX8_on_18 : decode cX8_on 18 = .ok (.sipush 493, 3) := by decide +kernel
theorem dX8_on_21 : decode cX8_on 21 = .ok (.iconst 1, 1) := by decide +kernel
theorem dX8_on_22 : decode cX8_on 22 = .ok (.iload_n 1, 1) := by decide +kernel
theorem dX8_on_23 : decode cX8_on 23 = .ok (.iadd, 1) := by decide +kernel
theorem dX8_on_24 : decode cX8_on 24 = .ok (.imul, 1) := by decide +kernel
theorem dX8_on_25 : decode cX8_on 25 = .ok (.iconst 0, 1) := by decide +kernel
theorem dX8_on_26 : decode cX8_on 26 = .ok (.iadd, 1) := by decide +kernel
theorem dX8_on_27 : decode cX8_on 27 = .ok (.iaload, 1) := by decide +kernel
theorem dX8_on_28 : decode cX8_on 28 = .ok (.ifCond .ge 9, 3) := by decide +kernel
theorem dX8_on_31 : decode cX8_on 31 = .ok (.aload_n 0, 1) := by decide +kernel
theorem dX8_on_32 : decode cX8_on 32 = .ok (.iconst 1, 1) := by decide +kernel
theorem dX8_on_33 : decode cX8_on 33 = .ok (.invokevirtual 96, 3) := by decide +kernel
theorem dX8_on_36 : decode cX8_on 36 = .ok (.ireturn, 1) := by decide +kernel
theorem dX8_on_37 : decode cX8_on 37 = .ok (.aload_n 0, 1) := by decide +kernel
theorem dX8_on_38 : decode cX8_on 38 = .ok (.sipush 493, 3) := by decide +kernel
theorem dX8_on_41 : decode cX8_on 41 = .ok (.iconst 1, 1) := by decide +kernel
theorem dX8_on_42 : decode cX8_on 42 = .ok (.iload_n 1, 1) := by decide +kernel
theorem dX8_on_43 : decode cX8_on 43 = .ok (.iadd, 1) := by decide +kernel
theorem dX8_on_44 : decode cX8_on 44 = .ok (.imul, 1) := by decide +kernel
theorem dX8_on_45 : decode cX8_on 45 = .ok (.iconst 0, 1) := by decide +kernel
theorem dX8_on_46 : decode cX8_on 46 = .ok (.invokevirtual 229, 3) := by decide +kernel
theorem dX8_on_49 : decode cX8_on 49 = .ok (.aload_n 0, 1) := by decide +kernel
theorem dX8_on_50 : decode cX8_on 50 = .ok (.getfield 7, 3) := by decide +kernel
theorem dX8_on_53 : decode cX8_on 53 = .ok (.iconst 0, 1) := by decide +kernel
theorem dX8_on_54 : decode cX8_on 54 = .ok (.iaload, 1) := by decide +kernel
theorem dX8_on_55 : decode cX8_on 55 = .ok (.ireturn, 1) := by decide +kernel
theorem dX8_takes_0 : decode cX8_takes 0 = .ok (.aload_n 0, 1) := by decide +kernel
theorem dX8_takes_1 : decode cX8_takes 1 = .ok (.iload_n 1, 1) := by decide +kernel
theorem dX8_takes_2 : decode cX8_takes 2 = .ok (.invokevirtual 187, 3) := by decide +kernel
theorem dX8_takes_5 : decode cX8_takes 5 = .ok (.ifCond .eq 11, 3) := by decide +kernel
theorem dX8_takes_8 : decode cX8_takes 8 = .ok (.aload_n 0, 1) := by decide +kernel
theorem dX8_takes_9 : decode cX8_takes 9 = .ok (.iload_n 2, 1) := by decide +kernel
theorem dX8_takes_10 : decode cX8_takes 10 = .ok (.invokevirtual 195, 3) := by decide +kernel
theorem dX8_takes_13 : decode cX8_takes 13 = .ok (.ifCond .ne 5, 3) := by decide +kernel
theorem dX8_takes_16 : decode cX8_takes 16 = .ok (.iconst (-1), 1) := by decide +kernel
theorem dX8_takes_17 : decode cX8_takes 17 = .ok (.ireturn, 1) := by decide +kernel
theorem dX8_takes_18 : decode cX8_takes 18 = .ok (.aload_n 0, 1) := by decide +kernel
theorem dX8_takes_19 : decode cX8_takes 19 = .ok (.getfield 13, 3) := by decide +kernel
theorem dX8_takes_22 : decode cX8_takes 22 = .ok (.iload_n 1, 1) := by decide +kernel
theorem dX8_takes_23 : decode cX8_takes 23 = .ok (.iaload, 1) := by decide +kernel
theorem dX8_takes_24 : decode cX8_takes 24 = .ok (.aload_n 0, 1) := by decide +kernel
theorem dX8_takes_25 : decode cX8_takes 25 = .ok (.getfield 22, 3) := by decide +kernel
theorem dX8_takes_28 : decode cX8_takes 28 = .ok (.iload_n 2, 1) := by decide +kernel
theorem dX8_takes_29 : decode cX8_takes 29 = .ok (.iaload, 1) := by decide +kernel
theorem dX8_takes_30 : decode cX8_takes 30 = .ok (.invokestatic 178, 3) := by decide +kernel
theorem dX8_takes_33 : decode cX8_takes 33 = .ok (.ifCond .eq 8, 3) := by decide +kernel
theorem dX8_takes_36 : decode cX8_takes 36 = .ok (.bipush (-9), 2) := by decide +kernel
theorem dX8_takes_38 : decode cX8_takes 38 = .ok (.goto 9, 3) := by decide +kernel
theorem dX8_takes_41 : decode cX8_takes 41 = .ok (.aload_n 0, 1) := by decide +kernel
theorem dX8_takes_42 : decode cX8_takes 42 = .ok (.iload_n 1, 1) := by decide +kernel
theorem dX8_takes_43 : decode cX8_takes 43 = .ok (.iload_n 2, 1) := by decide +kernel
theorem dX8_takes_44 : decode cX8_takes 44 = .ok (.invokevirtual 181, 3) := by decide +kernel
theorem dX8_takes_47 : decode cX8_takes 47 = .ok (.ireturn, 1) := by decide +kernel
theorem dX8_brings_0 : decode cX8_brings 0 = .ok (.aload_n 0, 1) := by decide +kernel
theorem dX8_brings_1 : decode cX8_brings 1 = .ok (.iload_n 1, 1) := by decide +kernel
theorem dX8_brings_2 : decode cX8_brings 2 = .ok (.invokevirtual 187, 3) := by decide +kernel
theorem dX8_brings_5 : decode cX8_brings 5 = .ok (.ifCond .eq 20, 3) := by decide +kernel
theorem dX8_brings_8 : decode cX8_brings 8 = .ok (.aload_n 0, 1) := by decide +kernel
theorem dX8_brings_9 : decode cX8_brings 9 = .ok (.iload_n 2, 1) := by decide +kernel
theorem dX8_brings_10 : decode cX8_brings 10 = .ok (.invokevirtual 195, 3) := by decide +kernel
theorem dX8_brings_13 : decode cX8_brings 13 = .ok (.ifCond .eq 12, 3) := by decide +kernel
theorem dX8_brings_16 : decode cX8_brings 16 = .ok (.aload_n 0, 1) := by decide +kernel
theorem dX8_brings_17 : decode cX8_brings 17 = .ok (.iload_n 1, 1) := by decide +kernel
theorem dX8_brings_18 : decode cX8_brings 18 = .ok (.iload_n 2, 1) := by decide +kernel
theorem dX8_brings_19 : decode cX8_brings 19 = .ok (.invokevirtual 201, 3) := by decide +kernel
theorem dX8_brings_22 : decode cX8_brings 22 = .ok (.goto 4, 3) := by decide +kernel
theorem dX8_brings_25 : decode cX8_brings 25 = .ok (.iconst (-1), 1) := by decide +kernel
theorem dX8_brings_26 : decode cX8_brings 26 = .ok (.ireturn, 1) := by decide +kernel
theorem dX8_copyPart_0 : decode cX8_copyPart 0 = .ok (.iconst 0, 1) := by decide +kernel
theorem dX8_copyPart_1 : decode cX8_copyPart 1 = .ok (.istore_n 3, 1) := by decide +kernel
theorem dX8_copyPart_2 : decode cX8_copyPart 2 = .ok (.iload_n 3, 1) := by decide +kernel
theorem dX8_copyPart_3 : decode cX8_copyPart 3 = .ok (.bipush 13, 2) := by decide +kernel
theorem dX8_copyPart_5 : decode cX8_copyPart 5 = .ok (.if_icmp .ge 25, 3) := by decide +kernel
theorem dX8_copyPart_8 : decode cX8_copyPart 8 = .ok (.aload_n 0, 1) := by decide +kernel
theorem dX8_copyPart_9 : decode cX8_copyPart 9 = .ok (.getfield 7, 3) := by decide +kernel
theorem dX8_copyPart_12 : decode cX8_copyPart 12 = .ok (.iload_n 2, 1) := by decide +kernel
theorem dX8_copyPart_13 : decode cX8_copyPart 13 = .ok (.iload_n 3, 1) := by decide +kernel
theorem dX8_copyPart_14 : decode cX8_copyPart 14 = .ok (.iadd, 1) := by decide +kernel
theorem dX8_copyPart_15 : decode cX8_copyPart 15 = .ok (.aload_n 0, 1) := by decide +kernel
theorem dX8_copyPart_16 : decode cX8_copyPart 16 = .ok (.getfield 7, 3) := by decide +kernel
theorem dX8_copyPart_19 : decode cX8_copyPart 19 = .ok (.iload_n 1, 1) := by decide +kernel
theorem dX8_copyPart_20 : decode cX8_copyPart 20 = .ok (.iload_n 3, 1) := by decide +kernel
theorem dX8_copyPart_21 : decode cX8_copyPart 21 = .ok (.iadd, 1) := by decide +kernel
theorem dX8_copyPart_22 : decode cX8_copyPart 22 = .ok (.iaload, 1) := by decide +kernel
theorem dX8_copyPart_23 : decode cX8_copyPart 23 = .ok (.iastore, 1) := by decide +kernel
theorem dX8_copyPart_24 : decode cX8_copyPart 24 = .ok (.iinc 3 1, 3) := by decide +kernel
theorem dX8_copyPart_27 : decode cX8_copyPart 27 = .ok (.goto (-25), 3) := by decide +kernel
theorem dX8_copyPart_30 : decode cX8_copyPart 30 = .ok (.return_, 1) := by decide +kernel
theorem dX8_nextGivens_0 : decode cX8_nextGivens 0 = .ok (.aload_n 0, 1) := by decide +kernel
theorem dX8_nextGivens_1 : decode cX8_nextGivens 1 = .ok (.getfield 159, 3) := by decide +kernel
theorem dX8_nextGivens_4 : decode cX8_nextGivens 4 = .ok (.iconst 1, 1) := by decide +kernel
theorem dX8_nextGivens_5 : decode cX8_nextGivens 5 = .ok (.isub, 1) := by decide +kernel
theorem dX8_nextGivens_6 : decode cX8_nextGivens 6 = .ok (.istore_n 1, 1) := by decide +kernel
theorem dX8_nextGivens_7 : decode cX8_nextGivens 7 = .ok (.iload_n 1, 1) := by decide +kernel
theorem dX8_nextGivens_8 : decode cX8_nextGivens 8 = .ok (.ifCond .lt 29, 3) := by decide +kernel
theorem dX8_nextGivens_11 : decode cX8_nextGivens 11 = .ok (.aload_n 0, 1) := by decide +kernel
theorem dX8_nextGivens_12 : decode cX8_nextGivens 12 = .ok (.getfield 53, 3) := by decide +kernel
theorem dX8_nextGivens_15 : decode cX8_nextGivens 15 = .ok (.iload_n 1, 1) := by decide +kernel
theorem dX8_nextGivens_16 : decode cX8_nextGivens 16 = .ok (.iaload, 1) := by decide +kernel
theorem dX8_nextGivens_17 : decode cX8_nextGivens 17 = .ok (.aload_n 0, 1) := by decide +kernel
theorem dX8_nextGivens_18 : decode cX8_nextGivens 18 = .ok (.getfield 156, 3) := by decide +kernel
theorem dX8_nextGivens_21 : decode cX8_nextGivens 21 = .ok (.if_icmp .ne 16, 3) := by decide +kernel
theorem dX8_nextGivens_24 : decode cX8_nextGivens 24 = .ok (.aload_n 0, 1) := by decide +kernel
theorem dX8_nextGivens_25 : decode cX8_nextGivens 25 = .ok (.getfield 53, 3) := by decide +kernel
theorem dX8_nextGivens_28 : decode cX8_nextGivens 28 = .ok (.iload_n 1, 1) := by decide +kernel
theorem dX8_nextGivens_29 : decode cX8_nextGivens 29 = .ok (.iconst 0, 1) := by decide +kernel
theorem dX8_nextGivens_30 : decode cX8_nextGivens 30 = .ok (.iastore, 1) := by decide +kernel
theorem dX8_nextGivens_31 : decode cX8_nextGivens 31 = .ok (.iinc 1 (-1), 3) := by decide +kernel
theorem dX8_nextGivens_34 : decode cX8_nextGivens 34 = .ok (.goto (-27), 3) := by decide +kernel
theorem dX8_nextGivens_37 : decode cX8_nextGivens 37 = .ok (.iload_n 1, 1) := by decide +kernel
theorem dX8_nextGivens_38 : decode cX8_nextGivens 38 = .ok (.ifCond .ge 5, 3) := by decide +kernel
theorem dX8_nextGivens_41 : decode cX8_nextGivens 41 = .ok (.iconst 0, 1) := by decide +kernel
theorem dX8_nextGivens_42 : decode cX8_nextGivens 42 = .ok (.ireturn, 1) := by decide +kernel
theorem dX8_nextGivens_43 : decode cX8_nextGivens 43 = .ok (.aload_n 0, 1) := by decide +kernel
theorem dX8_nextGivens_44 : decode cX8_nextGivens 44 = .ok (.getfield 53, 3) := by decide +kernel
theorem dX8_nextGivens_47 : decode cX8_nextGivens 47 = .ok (.iload_n 1, 1) := by decide +kernel
theorem dX8_nextGivens_48 : decode cX8_nextGivens 48 = .ok (.dup2, 1) := by decide +kernel
theorem dX8_nextGivens_49 : decode cX8_nextGivens 49 = .ok (.iaload, 1) := by decide +kernel
theorem dX8_nextGivens_50 : decode cX8_nextGivens 50 = .ok (.iconst 1, 1) := by decide +kernel
theorem dX8_nextGivens_51 : decode cX8_nextGivens 51 = .ok (.iadd, 1) := by decide +kernel
theorem dX8_nextGivens_52 : decode cX8_nextGivens 52 = .ok (.iastore, 1) := by decide +kernel
theorem dX8_nextGivens_53 : decode cX8_nextGivens 53 = .ok (.iconst 1, 1) := by decide +kernel
theorem dX8_nextGivens_54 : decode cX8_nextGivens 54 = .ok (.ireturn, 1) := by decide +kernel
theorem dX8_doesGivens_0 : decode cX8_doesGivens 0 = .ok (.aload_n 0, 1) := by decide +kernel
theorem dX8_doesGivens_1 : decode cX8_doesGivens 1 = .ok (.iconst 0, 1) := by decide +kernel
theorem dX8_doesGivens_2 : decode cX8_doesGivens 2 = .ok (.sipush 1972, 3) := by decide +kernel
theorem dX8_doesGivens_5 : decode cX8_doesGivens 5 = .ok (.invokevirtual 232, 3) := by decide +kernel
theorem dX8_doesGivens_8 : decode cX8_doesGivens 8 = .ok (.iconst 0, 1) := by decide +kernel
theorem dX8_doesGivens_9 : decode cX8_doesGivens 9 = .ok (.istore_n 1, 1) := by decide +kernel
theorem dX8_doesGivens_10 : decode cX8_doesGivens 10 = .ok (.iload_n 1, 1) := by decide +kernel
theorem dX8_doesGivens_11 : decode cX8_doesGivens 11 = .ok (.aload_n 0, 1) := by decide +kernel
theorem dX8_doesGivens_12 : decode cX8_doesGivens 12 = .ok (.getfield 159, 3) := by decide +kernel
theorem dX8_doesGivens_15 : decode cX8_doesGivens 15 = .ok (.if_icmp .ge 45, 3) := by decide +kernel
theorem dX8_doesGivens_18 : decode cX8_doesGivens 18 = .ok (.aload_n 0, 1) := by decide +kernel
theorem dX8_doesGivens_19 : decode cX8_doesGivens 19 = .ok (.getfield 53, 3) := by decide +kernel
theorem dX8_doesGivens_22 : decode cX8_doesGivens 22 = .ok (.iload_n 1, 1) := by decide +kernel
theorem dX8_doesGivens_23 : decode cX8_doesGivens 23 = .ok (.iaload, 1) := by decide +kernel
theorem dX8_doesGivens_24 : decode cX8_doesGivens 24 = .ok (.iconst 1, 1) := by decide +kernel
theorem dX8_doesGivens_25 : decode cX8_doesGivens 25 = .ok (.isub, 1) := by decide +kernel
theorem dX8_doesGivens_26 : decode cX8_doesGivens 26 = .ok (.istore_n 2, 1) := by decide +kernel
theorem dX8_doesGivens_27 : decode cX8_doesGivens 27 = .ok (.iload_n 2, 1) := by decide +kernel
theorem dX8_doesGivens_28 : decode cX8_doesGivens 28 = .ok (.ifCond .lt 26, 3) := by decide +kernel
theorem dX8_doesGivens_31 : decode cX8_doesGivens 31 = .ok (.aload_n 0, 1) := by decide +kernel
theorem dX8_doesGivens_32 : decode cX8_doesGivens 32 = .ok (.sipush 1972, 3) := by decide +kernel
theorem dX8_doesGivens_35 : decode cX8_doesGivens 35 = .ok (.iload_n 2, 1) := by decide +kernel
theorem dX8_doesGivens_36 : decode cX8_doesGivens 36 = .ok (.iload_n 1, 1) := by decide +kernel
theorem dX8_doesGivens_37 : decode cX8_doesGivens 37 = .ok (.invokevirtual 184, 3) := by decide +kernel
theorem dX8_doesGivens_40 : decode cX8_doesGivens 40 = .ok (.ifCond .ne 5, 3) := by decide +kernel
theorem dX8_doesGivens_43 : decode cX8_doesGivens 43 = .ok (.iconst 0, 1) := by decide +kernel
theorem dX8_doesGivens_44 : decode cX8_doesGivens 44 = .ok (.ireturn, 1) := by decide +kernel
theorem dX8_doesGivens_45 : decode cX8_doesGivens 45 = .ok (.aload_n 0, 1) := by decide +kernel
theorem dX8_doesGivens_46 : decode cX8_doesGivens 46 = .ok (.sipush 1972, 3) := by decide +kernel
theorem dX8_doesGivens_49 : decode cX8_doesGivens 49 = .ok (.iload_n 2, 1) := by decide +kernel
theorem dX8_doesGivens_50 : decode cX8_doesGivens 50 = .ok (.iload_n 1, 1) := by decide +kernel
theorem dX8_doesGivens_51 : decode cX8_doesGivens 51 = .ok (.invokevirtual 219, 3) := by decide +kernel
theorem dX8_doesGivens_54 : decode cX8_doesGivens 54 = .ok (.iinc 1 1, 3) := by decide +kernel
theorem dX8_doesGivens_57 : decode cX8_doesGivens 57 = .ok (.goto (-47), 3) := by decide +kernel
theorem dX8_doesGivens_60 : decode cX8_doesGivens 60 = .ok (.iconst 1, 1) := by decide +kernel
theorem dX8_doesGivens_61 : decode cX8_doesGivens 61 = .ok (.ireturn, 1) := by decide +kernel
theorem dX8_giveMost_0 : decode cX8_giveMost 0 = .ok (.iconst (-1), 1) := by decide +kernel
theorem dX8_giveMost_1 : decode cX8_giveMost 1 = .ok (.istore_n 3, 1) := by decide +kernel
theorem dX8_giveMost_2 : decode cX8_giveMost 2 = .ok (.iconst 1, 1) := by decide +kernel
theorem dX8_giveMost_3 : decode cX8_giveMost 3 = .ok (.istore 4, 2) := by decide +kernel
theorem dX8_giveMost_5 : decode cX8_giveMost 5 = .ok (.iconst 0, 1) := by decide +kernel
theorem dX8_giveMost_6 : decode cX8_giveMost 6 = .ok (.istore 5, 2) := by decide +kernel
theorem dX8_giveMost_8 : decode cX8_giveMost 8 = .ok (.iload 5, 2) := by decide +kernel
theorem dX8_giveMost_10 : decode cX8_giveMost 10 = .ok (.bipush 6, 2) := by decide +kernel
theorem dX8_giveMost_12 : decode cX8_giveMost 12 = .ok (.if_icmp .ge 17, 3) := by decide +kernel
theorem dX8_giveMost_15 : decode cX8_giveMost 15 = .ok (.aload_n 0, 1) := by decide +kernel
theorem dX8_giveMost_16 : decode cX8_giveMost 16 = .ok (.getfield 53, 3) := by decide +kernel
theorem dX8_giveMost_19 : decode cX8_giveMost 19 = .ok (.iload 5, 2) := by decide +kernel
theorem dX8_giveMost_21 : decode cX8_giveMost 21 = .ok (.iconst 0, 1) := by decide +kernel
theorem dX8_giveMost_22 : decode cX8_giveMost 22 = .ok (.iastore, 1) := by decide +kernel
theorem dX8_giveMost_23 : decode cX8_giveMost 23 = .ok (.iinc 5 1, 3) := by decide +kernel
theorem dX8_giveMost_26 : decode cX8_giveMost 26 = .ok (.goto (-18), 3) := by decide +kernel
theorem dX8_giveMost_29 : decode cX8_giveMost 29 = .ok (.iload 4, 2) := by decide +kernel
theorem dX8_giveMost_31 : decode cX8_giveMost 31 = .ok (.ifCond .eq 103, 3) := by decide +kernel
theorem dX8_giveMost_34 : decode cX8_giveMost 34 = .ok (.aload_n 0, 1) := by decide +kernel
theorem dX8_giveMost_35 : decode cX8_giveMost 35 = .ok (.invokevirtual 235, 3) := by decide +kernel
theorem dX8_giveMost_38 : decode cX8_giveMost 38 = .ok (.ifCond .eq 87, 3) := by decide +kernel
theorem dX8_giveMost_41 : decode cX8_giveMost 41 = .ok (.iload_n 2, 1) := by decide +kernel
theorem dX8_giveMost_42 : decode cX8_giveMost 42 = .ok (.ifCond .eq 21, 3) := by decide +kernel
theorem dX8_giveMost_45 : decode cX8_giveMost 45 = .ok (.aload_n 0, 1) := by decide +kernel
theorem dX8_giveMost_46 : decode cX8_giveMost 46 = .ok (.getfield 7, 3) := by decide +kernel
theorem dX8_giveMost_49 : decode cX8_giveMost 49 = .ok (.sipush 1973, 3) := by decide +kernel
theorem dX8_giveMost_52 : decode cX8_giveMost 52 = .ok (.iaload, 1) := by decide +kernel
theorem dX8_giveMost_53 : decode cX8_giveMost 53 = .ok (.aload_n 0, 1) := by decide +kernel
theorem dX8_giveMost_54 : decode cX8_giveMost 54 = .ok (.getfield 7, 3) := by decide +kernel
theorem dX8_giveMost_57 : decode cX8_giveMost 57 = .ok (.iconst 1, 1) := by decide +kernel
theorem dX8_giveMost_58 : decode cX8_giveMost 58 = .ok (.iaload, 1) := by decide +kernel
theorem dX8_giveMost_59 : decode cX8_giveMost 59 = .ok (.isub, 1) := by decide +kernel
theorem dX8_giveMost_60 : decode cX8_giveMost 60 = .ok (.goto 24, 3) := by decide +kernel
theorem dX8_giveMost_63 : decode cX8_giveMost 63 = .ok (.aload_n 0, 1) := by decide +kernel
theorem dX8_giveMost_64 : decode cX8_giveMost 64 = .ok (.getfield 7, 3) := by decide +kernel
theorem dX8_giveMost_67 : decode cX8_giveMost 67 = .ok (.sipush 1974, 3) := by decide +kernel
theorem dX8_giveMost_70 : decode cX8_giveMost 70 = .ok (.iaload, 1) := by decide +kernel
theorem dX8_giveMost_71 : decode cX8_giveMost 71 = .ok (.invokestatic 238, 3) := by decide +kernel
theorem dX8_giveMost_74 : decode cX8_giveMost 74 = .ok (.aload_n 0, 1) := by decide +kernel
theorem dX8_giveMost_75 : decode cX8_giveMost 75 = .ok (.getfield 7, 3) := by decide +kernel
theorem dX8_giveMost_78 : decode cX8_giveMost 78 = .ok (.iconst 2, 1) := by decide +kernel
theorem dX8_giveMost_79 : decode cX8_giveMost 79 = .ok (.iaload, 1) := by decide +kernel
theorem dX8_giveMost_80 : decode cX8_giveMost 80 = .ok (.invokestatic 238, 3) := by decide +kernel
theorem dX8_giveMost_83 : decode cX8_giveMost 83 = .ok (.isub, 1) := by decide +kernel
theorem dX8_giveMost_84 : decode cX8_giveMost 84 = .ok (.istore 5, 2) := by decide +kernel
theorem dX8_giveMost_86 : decode cX8_giveMost 86 = .ok (.iload 5, 2) := by decide +kernel
theorem dX8_giveMost_88 : decode cX8_giveMost 88 = .ok (.iload_n 3, 1) := by decide +kernel
theorem dX8_giveMost_89 : decode cX8_giveMost 89 = .ok (.if_icmp .le 36, 3) := by decide +kernel
theorem dX8_giveMost_92 : decode cX8_giveMost 92 = .ok (.iload 5, 2) := by decide +kernel
theorem dX8_giveMost_94 : decode cX8_giveMost 94 = .ok (.istore_n 3, 1) := by decide +kernel
theorem dX8_giveMost_95 : decode cX8_giveMost 95 = .ok (.iconst 0, 1) := by decide +kernel
theorem dX8_giveMost_96 : decode cX8_giveMost 96 = .ok (.istore 6, 2) := by decide +kernel
theorem dX8_giveMost_98 : decode cX8_giveMost 98 = .ok (.iload 6, 2) := by decide +kernel
theorem dX8_giveMost_100 : decode cX8_giveMost 100 = .ok (.bipush 6, 2) := by decide +kernel
theorem dX8_giveMost_102 : decode cX8_giveMost 102 = .ok (.if_icmp .ge 23, 3) := by decide +kernel
theorem dX8_giveMost_105 : decode cX8_giveMost 105 = .ok (.aload_n 0, 1) := by decide +kernel
theorem dX8_giveMost_106 : decode cX8_giveMost 106 = .ok (.getfield 56, 3) := by decide +kernel
theorem dX8_giveMost_109 : decode cX8_giveMost 109 = .ok (.iload 6, 2) := by decide +kernel
theorem dX8_giveMost_111 : decode cX8_giveMost 111 = .ok (.aload_n 0, 1) := by decide +kernel
theorem dX8_giveMost_112 : decode cX8_giveMost 112 = .ok (.getfield 53, 3) := by decide +kernel
theorem dX8_giveMost_115 : decode cX8_giveMost 115 = .ok (.iload 6, 2) := by decide +kernel
theorem dX8_giveMost_117 : decode cX8_giveMost 117 = .ok (.iaload, 1) := by decide +kernel
theorem dX8_giveMost_118 : decode cX8_giveMost 118 = .ok (.iastore, 1) := by decide +kernel
theorem dX8_giveMost_119 : decode cX8_giveMost 119 = .ok (.iinc 6 1, 3) := by decide +kernel
theorem dX8_giveMost_122 : decode cX8_giveMost 122 = .ok (.goto (-24), 3) := by decide +kernel
theorem dX8_giveMost_125 : decode cX8_giveMost 125 = .ok (.aload_n 0, 1) := by decide +kernel
theorem dX8_giveMost_126 : decode cX8_giveMost 126 = .ok (.invokevirtual 241, 3) := by decide +kernel
theorem dX8_giveMost_129 : decode cX8_giveMost 129 = .ok (.istore 4, 2) := by decide +kernel
theorem dX8_giveMost_131 : decode cX8_giveMost 131 = .ok (.goto (-102), 3) := by decide +kernel
theorem dX8_giveMost_134 : decode cX8_giveMost 134 = .ok (.aload_n 0, 1) := by decide +kernel
theorem dX8_giveMost_135 : decode cX8_giveMost 135 = .ok (.iload_n 1, 1) := by decide +kernel
theorem dX8_giveMost_136 : decode cX8_giveMost 136 = .ok (.aload_n 0, 1) := by decide +kernel
theorem dX8_giveMost_137 : decode cX8_giveMost 137 = .ok (.getfield 159, 3) := by decide +kernel
theorem dX8_giveMost_140 : decode cX8_giveMost 140 = .ok (.invokevirtual 100, 3) := by decide +kernel
theorem dX8_giveMost_143 : decode cX8_giveMost 143 = .ok (.iconst 0, 1) := by decide +kernel
theorem dX8_giveMost_144 : decode cX8_giveMost 144 = .ok (.istore 5, 2) := by decide +kernel
theorem dX8_giveMost_146 : decode cX8_giveMost 146 = .ok (.iload 5, 2) := by decide +kernel
theorem dX8_giveMost_148 : decode cX8_giveMost 148 = .ok (.aload_n 0, 1) := by decide +kernel
theorem dX8_giveMost_149 : decode cX8_giveMost 149 = .ok (.getfield 159, 3) := by decide +kernel
theorem dX8_giveMost_152 : decode cX8_giveMost 152 = .ok (.if_icmp .ge 45, 3) := by decide +kernel
theorem dX8_giveMost_155 : decode cX8_giveMost 155 = .ok (.aload_n 0, 1) := by decide +kernel
theorem dX8_giveMost_156 : decode cX8_giveMost 156 = .ok (.getfield 31, 3) := by decide +kernel
theorem dX8_giveMost_159 : decode cX8_giveMost 159 = .ok (.bipush 40, 2) := by decide +kernel
theorem dX8_giveMost_161 : decode cX8_giveMost 161 = .ok (.iload_n 1, 1) := by decide +kernel
theorem dX8_giveMost_162 : decode cX8_giveMost 162 = .ok (.imul, 1) := by decide +kernel
theorem dX8_giveMost_163 : decode cX8_giveMost 163 = .ok (.iload 5, 2) := by decide +kernel
theorem dX8_giveMost_165 : decode cX8_giveMost 165 = .ok (.iadd, 1) := by decide +kernel
theorem dX8_giveMost_166 : decode cX8_giveMost 166 = .ok (.aload_n 0, 1) := by decide +kernel
theorem dX8_giveMost_167 : decode cX8_giveMost 167 = .ok (.getfield 56, 3) := by decide +kernel
theorem dX8_giveMost_170 : decode cX8_giveMost 170 = .ok (.iload 5, 2) := by decide +kernel
theorem dX8_giveMost_172 : decode cX8_giveMost 172 = .ok (.iaload, 1) := by decide +kernel
theorem dX8_giveMost_173 : decode cX8_giveMost 173 = .ok (.ifCond .ne 8, 3) := by decide +kernel
theorem dX8_giveMost_176 : decode cX8_giveMost 176 = .ok (.bipush (-9), 2) := by decide +kernel
theorem dX8_giveMost_178 : decode cX8_giveMost 178 = .ok (.goto 12, 3) := by decide +kernel
theorem dX8_giveMost_181 : decode cX8_giveMost 181 = .ok (.aload_n 0, 1) := by decide +kernel
theorem dX8_giveMost_182 : decode cX8_giveMost 182 = .ok (.getfield 56, 3) := by decide +kernel
theorem dX8_giveMost_185 : decode cX8_giveMost 185 = .ok (.iload 5, 2) := by decide +kernel
theorem dX8_giveMost_187 : decode cX8_giveMost 187 = .ok (.iaload, 1) := by decide +kernel
theorem dX8_giveMost_188 : decode cX8_giveMost 188 = .ok (.iconst 1, 1) := by decide +kernel
theorem dX8_giveMost_189 : decode cX8_giveMost 189 = .ok (.isub, 1) := by decide +kernel
theorem dX8_giveMost_190 : decode cX8_giveMost 190 = .ok (.iastore, 1) := by decide +kernel
theorem dX8_giveMost_191 : decode cX8_giveMost 191 = .ok (.iinc 5 1, 3) := by decide +kernel
theorem dX8_giveMost_194 : decode cX8_giveMost 194 = .ok (.goto (-48), 3) := by decide +kernel
theorem dX8_giveMost_197 : decode cX8_giveMost 197 = .ok (.iload_n 3, 1) := by decide +kernel
theorem dX8_giveMost_198 : decode cX8_giveMost 198 = .ok (.ireturn, 1) := by decide +kernel
theorem dX8_give_0 : decode cX8_give 0 = .ok (.iload_n 1, 1) := by decide +kernel
theorem dX8_give_1 : decode cX8_give 1 = .ok (.invokestatic 92, 3) := by decide +kernel
theorem dX8_give_4 : decode cX8_give 4 = .ok (.ifCond .ne 5, 3) := by decide +kernel
theorem dX8_give_7 : decode cX8_give 7 = .ok (.iconst (-1), 1) := by decide +kernel
theorem dX8_give_8 : decode cX8_give 8 = .ok (.ireturn, 1) := by decide +kernel
theorem dX8_give_9 : decode cX8_give 9 = .ok (.aload_n 0, 1) := by decide +kernel
theorem dX8_give_10 : decode cX8_give 10 = .ok (.getfield 156, 3) := by decide +kernel
theorem dX8_give_13 : decode cX8_give 13 = .ok (.ifCond .ne 8, 3) := by decide +kernel
theorem dX8_give_16 : decode cX8_give 16 = .ok (.bipush (-4), 2) := by decide +kernel
theorem dX8_give_18 : decode cX8_give 18 = .ok (.goto 9, 3) := by decide +kernel
theorem dX8_give_21 : decode cX8_give 21 = .ok (.aload_n 0, 1) := by decide +kernel
theorem dX8_give_22 : decode cX8_give 22 = .ok (.iload_n 1, 1) := by decide +kernel
theorem dX8_give_23 : decode cX8_give 23 = .ok (.iconst 1, 1) := by decide +kernel
theorem dX8_give_24 : decode cX8_give 24 = .ok (.invokevirtual 244, 3) := by decide +kernel
theorem dX8_give_27 : decode cX8_give 27 = .ok (.ireturn, 1) := by decide +kernel
theorem dX8_most_0 : decode cX8_most 0 = .ok (.iload_n 1, 1) := by decide +kernel
theorem dX8_most_1 : decode cX8_most 1 = .ok (.invokestatic 92, 3) := by decide +kernel
theorem dX8_most_4 : decode cX8_most 4 = .ok (.ifCond .ne 5, 3) := by decide +kernel
theorem dX8_most_7 : decode cX8_most 7 = .ok (.iconst (-1), 1) := by decide +kernel
theorem dX8_most_8 : decode cX8_most 8 = .ok (.ireturn, 1) := by decide +kernel
theorem dX8_most_9 : decode cX8_most 9 = .ok (.aload_n 0, 1) := by decide +kernel
theorem dX8_most_10 : decode cX8_most 10 = .ok (.getfield 156, 3) := by decide +kernel
theorem dX8_most_13 : decode cX8_most 13 = .ok (.ifCond .ne 8, 3) := by decide +kernel
theorem dX8_most_16 : decode cX8_most 16 = .ok (.bipush (-4), 2) := by decide +kernel
theorem dX8_most_18 : decode cX8_most 18 = .ok (.goto 9, 3) := by decide +kernel
theorem dX8_most_21 : decode cX8_most 21 = .ok (.aload_n 0, 1) := by decide +kernel
theorem dX8_most_22 : decode cX8_most 22 = .ok (.iload_n 1, 1) := by decide +kernel
theorem dX8_most_23 : decode cX8_most 23 = .ok (.iconst 0, 1) := by decide +kernel
theorem dX8_most_24 : decode cX8_most 24 = .ok (.invokevirtual 244, 3) := by decide +kernel
theorem dX8_most_27 : decode cX8_most 27 = .ok (.ireturn, 1) := by decide +kernel
theorem dX8_doesPlain_0 : decode cX8_doesPlain 0 = .ok (.aload_n 0, 1) := by decide +kernel
theorem dX8_doesPlain_1 : decode cX8_doesPlain 1 = .ok (.iconst 0, 1) := by decide +kernel
theorem dX8_doesPlain_2 : decode cX8_doesPlain 2 = .ok (.sipush 1972, 3) := by decide +kernel
theorem dX8_doesPlain_5 : decode cX8_doesPlain 5 = .ok (.invokevirtual 232, 3) := by decide +kernel
theorem dX8_doesPlain_8 : decode cX8_doesPlain 8 = .ok (.iconst 0, 1) := by decide +kernel
theorem dX8_doesPlain_9 : decode cX8_doesPlain 9 = .ok (.istore_n 2, 1) := by decide +kernel
theorem dX8_doesPlain_10 : decode cX8_doesPlain 10 = .ok (.iload_n 2, 1) := by decide +kernel
theorem dX8_doesPlain_11 : decode cX8_doesPlain 11 = .ok (.aload_n 0, 1) := by decide +kernel
theorem dX8_doesPlain_12 : decode cX8_doesPlain 12 = .ok (.getfield 159, 3) := by decide +kernel
theorem dX8_doesPlain_15 : decode cX8_doesPlain 15 = .ok (.if_icmp .ge 54, 3) := by decide +kernel
theorem dX8_doesPlain_18 : decode cX8_doesPlain 18 = .ok (.iconst 0, 1) := by decide +kernel
theorem dX8_doesPlain_19 : decode cX8_doesPlain 19 = .ok (.istore_n 3, 1) := by decide +kernel
theorem dX8_doesPlain_20 : decode cX8_doesPlain 20 = .ok (.iload_n 3, 1) := by decide +kernel
theorem dX8_doesPlain_21 : decode cX8_doesPlain 21 = .ok (.aload_n 0, 1) := by decide +kernel
theorem dX8_doesPlain_22 : decode cX8_doesPlain 22 = .ok (.getfield 156, 3) := by decide +kernel
theorem dX8_doesPlain_25 : decode cX8_doesPlain 25 = .ok (.if_icmp .ge 38, 3) := by decide +kernel
theorem dX8_doesPlain_28 : decode cX8_doesPlain 28 = .ok (.iload_n 1, 1) := by decide +kernel
theorem dX8_doesPlain_29 : decode cX8_doesPlain 29 = .ok (.iload_n 2, 1) := by decide +kernel
theorem dX8_doesPlain_30 : decode cX8_doesPlain 30 = .ok (.invokestatic 174, 3) := by decide +kernel
theorem dX8_doesPlain_33 : decode cX8_doesPlain 33 = .ok (.ifCond .ne 24, 3) := by decide +kernel
theorem dX8_doesPlain_36 : decode cX8_doesPlain 36 = .ok (.aload_n 0, 1) := by decide +kernel
theorem dX8_doesPlain_37 : decode cX8_doesPlain 37 = .ok (.sipush 1972, 3) := by decide +kernel
theorem dX8_doesPlain_40 : decode cX8_doesPlain 40 = .ok (.iload_n 3, 1) := by decide +kernel
theorem dX8_doesPlain_41 : decode cX8_doesPlain 41 = .ok (.iload_n 2, 1) := by decide +kernel
theorem dX8_doesPlain_42 : decode cX8_doesPlain 42 = .ok (.invokevirtual 184, 3) := by decide +kernel
theorem dX8_doesPlain_45 : decode cX8_doesPlain 45 = .ok (.ifCond .eq 12, 3) := by decide +kernel
theorem dX8_doesPlain_48 : decode cX8_doesPlain 48 = .ok (.aload_n 0, 1) := by decide +kernel
theorem dX8_doesPlain_49 : decode cX8_doesPlain 49 = .ok (.sipush 1972, 3) := by decide +kernel
theorem dX8_doesPlain_52 : decode cX8_doesPlain 52 = .ok (.iload_n 3, 1) := by decide +kernel
theorem dX8_doesPlain_53 : decode cX8_doesPlain 53 = .ok (.iload_n 2, 1) := by decide +kernel
theorem dX8_doesPlain_54 : decode cX8_doesPlain 54 = .ok (.invokevirtual 219, 3) := by decide +kernel
theorem dX8_doesPlain_57 : decode cX8_doesPlain 57 = .ok (.iinc 3 1, 3) := by decide +kernel
theorem dX8_doesPlain_60 : decode cX8_doesPlain 60 = .ok (.goto (-40), 3) := by decide +kernel
theorem dX8_doesPlain_63 : decode cX8_doesPlain 63 = .ok (.iinc 2 1, 3) := by decide +kernel
theorem dX8_doesPlain_66 : decode cX8_doesPlain 66 = .ok (.goto (-56), 3) := by decide +kernel
theorem dX8_doesPlain_69 : decode cX8_doesPlain 69 = .ok (.return_, 1) := by decide +kernel
theorem dX8_plain_0 : decode cX8_plain 0 = .ok (.aload_n 0, 1) := by decide +kernel
theorem dX8_plain_1 : decode cX8_plain 1 = .ok (.getfield 156, 3) := by decide +kernel
theorem dX8_plain_4 : decode cX8_plain 4 = .ok (.ifCond .ne 6, 3) := by decide +kernel
theorem dX8_plain_7 : decode cX8_plain 7 = .ok (.bipush (-4), 2) := by decide +kernel
theorem dX8_plain_9 : decode cX8_plain 9 = .ok (.ireturn, 1) := by decide +kernel
theorem dX8_plain_10 : decode cX8_plain 10 = .ok (.aload_n 0, 1) := by decide +kernel
theorem dX8_plain_11 : decode cX8_plain 11 = .ok (.iconst 0, 1) := by decide +kernel
theorem dX8_plain_12 : decode cX8_plain 12 = .ok (.invokevirtual 248, 3) := by decide +kernel
theorem dX8_plain_15 : decode cX8_plain 15 = .ok (.aload_n 0, 1) := by decide +kernel
theorem dX8_plain_16 : decode cX8_plain 16 = .ok (.aload_n 0, 1) := by decide +kernel
theorem dX8_plain_17 : decode cX8_plain 17 = .ok (.getfield 7, 3) := by decide +kernel
theorem dX8_plain_20 : decode cX8_plain 20 = .ok (.sipush 1973, 3) := by decide +kernel
theorem dX8_plain_23 : decode cX8_plain 23 = .ok (.iaload, 1) := by decide +kernel
theorem dX8_plain_24 : decode cX8_plain 24 = .ok (.aload_n 0, 1) := by decide +kernel
theorem dX8_plain_25 : decode cX8_plain 25 = .ok (.getfield 7, 3) := by decide +kernel
theorem dX8_plain_28 : decode cX8_plain 28 = .ok (.iconst 1, 1) := by decide +kernel
theorem dX8_plain_29 : decode cX8_plain 29 = .ok (.iaload, 1) := by decide +kernel
theorem dX8_plain_30 : decode cX8_plain 30 = .ok (.isub, 1) := by decide +kernel
theorem dX8_plain_31 : decode cX8_plain 31 = .ok (.putfield 81, 3) := by decide +kernel
theorem dX8_plain_34 : decode cX8_plain 34 = .ok (.aload_n 0, 1) := by decide +kernel
theorem dX8_plain_35 : decode cX8_plain 35 = .ok (.getfield 7, 3) := by decide +kernel
theorem dX8_plain_38 : decode cX8_plain 38 = .ok (.sipush 1974, 3) := by decide +kernel
theorem dX8_plain_41 : decode cX8_plain 41 = .ok (.iaload, 1) := by decide +kernel
theorem dX8_plain_42 : decode cX8_plain 42 = .ok (.invokestatic 238, 3) := by decide +kernel
theorem dX8_plain_45 : decode cX8_plain 45 = .ok (.aload_n 0, 1) := by decide +kernel
theorem dX8_plain_46 : decode cX8_plain 46 = .ok (.getfield 7, 3) := by decide +kernel
theorem dX8_plain_49 : decode cX8_plain 49 = .ok (.iconst 2, 1) := by decide +kernel
theorem dX8_plain_50 : decode cX8_plain 50 = .ok (.iaload, 1) := by decide +kernel
theorem dX8_plain_51 : decode cX8_plain 51 = .ok (.invokestatic 238, 3) := by decide +kernel
theorem dX8_plain_54 : decode cX8_plain 54 = .ok (.isub, 1) := by decide +kernel
theorem dX8_plain_55 : decode cX8_plain 55 = .ok (.ireturn, 1) := by decide +kernel
theorem dX8_wayOf_0 : decode cX8_wayOf 0 = .ok (.bipush 99, 2) := by decide +kernel
theorem dX8_wayOf_2 : decode cX8_wayOf 2 = .ok (.istore_n 3, 1) := by decide +kernel
theorem dX8_wayOf_3 : decode cX8_wayOf 3 = .ok (.iconst (-1), 1) := by decide +kernel
theorem dX8_wayOf_4 : decode cX8_wayOf 4 = .ok (.istore 4, 2) := by decide +kernel
theorem dX8_wayOf_6 : decode cX8_wayOf 6 = .ok (.iconst 0, 1) := by decide +kernel
theorem dX8_wayOf_7 : decode cX8_wayOf 7 = .ok (.istore 5, 2) := by decide +kernel
theorem dX8_wayOf_9 : decode cX8_wayOf 9 = .ok (.iload 5, 2) := by decide +kernel
theorem dX8_wayOf_11 : decode cX8_wayOf 11 = .ok (.aload_n 0, 1) := by decide +kernel
theorem dX8_wayOf_12 : decode cX8_wayOf 12 = .ok (.getfield 159, 3) := by decide +kernel
theorem dX8_wayOf_15 : decode cX8_wayOf 15 = .ok (.if_icmp .ge 76, 3) := by decide +kernel
theorem dX8_wayOf_18 : decode cX8_wayOf 18 = .ok (.iload_n 2, 1) := by decide +kernel
theorem dX8_wayOf_19 : decode cX8_wayOf 19 = .ok (.iload 5, 2) := by decide +kernel
theorem dX8_wayOf_21 : decode cX8_wayOf 21 = .ok (.invokestatic 174, 3) := by decide +kernel
theorem dX8_wayOf_24 : decode cX8_wayOf 24 = .ok (.ifCond .eq 24, 3) := by decide +kernel
theorem dX8_wayOf_27 : decode cX8_wayOf 27 = .ok (.aload_n 0, 1) := by decide +kernel
theorem dX8_wayOf_28 : decode cX8_wayOf 28 = .ok (.getfield 19, 3) := by decide +kernel
theorem dX8_wayOf_31 : decode cX8_wayOf 31 = .ok (.iload 5, 2) := by decide +kernel
theorem dX8_wayOf_33 : decode cX8_wayOf 33 = .ok (.iaload, 1) := by decide +kernel
theorem dX8_wayOf_34 : decode cX8_wayOf 34 = .ok (.iload_n 3, 1) := by decide +kernel
theorem dX8_wayOf_35 : decode cX8_wayOf 35 = .ok (.if_icmp .ge 13, 3) := by decide +kernel
theorem dX8_wayOf_38 : decode cX8_wayOf 38 = .ok (.aload_n 0, 1) := by decide +kernel
theorem dX8_wayOf_39 : decode cX8_wayOf 39 = .ok (.getfield 19, 3) := by decide +kernel
theorem dX8_wayOf_42 : decode cX8_wayOf 42 = .ok (.iload 5, 2) := by decide +kernel
theorem dX8_wayOf_44 : decode cX8_wayOf 44 = .ok (.iaload, 1) := by decide +kernel
theorem dX8_wayOf_45 : decode cX8_wayOf 45 = .ok (.goto 4, 3) := by decide +kernel
theorem dX8_wayOf_48 : decode cX8_wayOf 48 = .ok (.iload_n 3, 1) := by decide +kernel
theorem dX8_wayOf_49 : decode cX8_wayOf 49 = .ok (.istore_n 3, 1) := by decide +kernel
theorem dX8_wayOf_50 : decode cX8_wayOf 50 = .ok (.iload_n 2, 1) := by decide +kernel
theorem dX8_wayOf_51 : decode cX8_wayOf 51 = .ok (.iload 5, 2) := by decide +kernel
theorem dX8_wayOf_53 : decode cX8_wayOf 53 = .ok (.invokestatic 174, 3) := by decide +kernel
theorem dX8_wayOf_56 : decode cX8_wayOf 56 = .ok (.ifCond .eq 25, 3) := by decide +kernel
theorem dX8_wayOf_59 : decode cX8_wayOf 59 = .ok (.aload_n 0, 1) := by decide +kernel
theorem dX8_wayOf_60 : decode cX8_wayOf 60 = .ok (.getfield 19, 3) := by decide +kernel
theorem dX8_wayOf_63 : decode cX8_wayOf 63 = .ok (.iload 5, 2) := by decide +kernel
theorem dX8_wayOf_65 : decode cX8_wayOf 65 = .ok (.iaload, 1) := by decide +kernel
theorem dX8_wayOf_66 : decode cX8_wayOf 66 = .ok (.iload 4, 2) := by decide +kernel
theorem dX8_wayOf_68 : decode cX8_wayOf 68 = .ok (.if_icmp .le 13, 3) := by decide +kernel
theorem dX8_wayOf_71 : decode cX8_wayOf 71 = .ok (.aload_n 0, 1) := by decide +kernel
theorem dX8_wayOf_72 : decode cX8_wayOf 72 = .ok (.getfield 19, 3) := by decide +kernel
theorem dX8_wayOf_75 : decode cX8_wayOf 75 = .ok (.iload 5, 2) := by decide +kernel
theorem dX8_wayOf_77 : decode cX8_wayOf 77 = .ok (.iaload, 1) := by decide +kernel
theorem dX8_wayOf_78 : decode cX8_wayOf 78 = .ok (.goto 5, 3) := by decide +kernel
theorem dX8_wayOf_81 : decode cX8_wayOf 81 = .ok (.iload 4, 2) := by decide +kernel
theorem dX8_wayOf_83 : decode cX8_wayOf 83 = .ok (.istore 4, 2) := by decide +kernel
theorem dX8_wayOf_85 : decode cX8_wayOf 85 = .ok (.iinc 5 1, 3) := by decide +kernel
theorem dX8_wayOf_88 : decode cX8_wayOf 88 = .ok (.goto (-79), 3) := by decide +kernel
theorem dX8_wayOf_91 : decode cX8_wayOf 91 = .ok (.aload_n 0, 1) := by decide +kernel
theorem dX8_wayOf_92 : decode cX8_wayOf 92 = .ok (.getfield 7, 3) := by decide +kernel
theorem dX8_wayOf_95 : decode cX8_wayOf 95 = .ok (.bipush 8, 2) := by decide +kernel
theorem dX8_wayOf_97 : decode cX8_wayOf 97 = .ok (.iload_n 1, 1) := by decide +kernel
theorem dX8_wayOf_98 : decode cX8_wayOf 98 = .ok (.iadd, 1) := by decide +kernel
theorem dX8_wayOf_99 : decode cX8_wayOf 99 = .ok (.iaload, 1) := by decide +kernel
theorem dX8_wayOf_100 : decode cX8_wayOf 100 = .ok (.iload_n 3, 1) := by decide +kernel
theorem dX8_wayOf_101 : decode cX8_wayOf 101 = .ok (.invokestatic 213, 3) := by decide +kernel
theorem dX8_wayOf_104 : decode cX8_wayOf 104 = .ok (.istore 5, 2) := by decide +kernel
theorem dX8_wayOf_106 : decode cX8_wayOf 106 = .ok (.aload_n 0, 1) := by decide +kernel
theorem dX8_wayOf_107 : decode cX8_wayOf 107 = .ok (.getfield 7, 3) := by decide +kernel
theorem dX8_wayOf_110 : decode cX8_wayOf 110 = .ok (.bipush 8, 2) := by decide +kernel
theorem dX8_wayOf_112 : decode cX8_wayOf 112 = .ok (.iload_n 1, 1) := by decide +kernel
theorem dX8_wayOf_113 : decode cX8_wayOf 113 = .ok (.iadd, 1) := by decide +kernel
theorem dX8_wayOf_114 : decode cX8_wayOf 114 = .ok (.iaload, 1) := by decide +kernel
theorem dX8_wayOf_115 : decode cX8_wayOf 115 = .ok (.iload 4, 2) := by decide +kernel
theorem dX8_wayOf_117 : decode cX8_wayOf 117 = .ok (.invokestatic 213, 3) := by decide +kernel
theorem dX8_wayOf_120 : decode cX8_wayOf 120 = .ok (.istore 6, 2) := by decide +kernel
theorem dX8_wayOf_122 : decode cX8_wayOf 122 = .ok (.iload_n 2, 1) := by decide +kernel
theorem dX8_wayOf_123 : decode cX8_wayOf 123 = .ok (.ifCond .ne 7, 3) := by decide +kernel
theorem dX8_wayOf_126 : decode cX8_wayOf 126 = .ok (.iconst 0, 1) := by decide +kernel
theorem dX8_wayOf_127 : decode cX8_wayOf 127 = .ok (.goto 22, 3) := by decide +kernel
theorem dX8_wayOf_130 : decode cX8_wayOf 130 = .ok (.iload 4, 2) := by decide +kernel
theorem dX8_wayOf_132 : decode cX8_wayOf 132 = .ok (.iload_n 3, 1) := by decide +kernel
theorem dX8_wayOf_133 : decode cX8_wayOf 133 = .ok (.isub, 1) := by decide +kernel
theorem dX8_wayOf_134 : decode cX8_wayOf 134 = .ok (.iload 5, 2) := by decide +kernel
theorem dX8_wayOf_136 : decode cX8_wayOf 136 = .ok (.iload 6, 2) := by decide +kernel
theorem dX8_wayOf_138 : decode cX8_wayOf 138 = .ok (.if_icmp .ge 8, 3) := by decide +kernel
theorem dX8_wayOf_141 : decode cX8_wayOf 141 = .ok (.iload 5, 2) := by decide +kernel
theorem dX8_wayOf_143 : decode cX8_wayOf 143 = .ok (.goto 5, 3) := by decide +kernel
theorem dX8_wayOf_146 : decode cX8_wayOf 146 = .ok (.iload 6, 2) := by decide +kernel
theorem dX8_wayOf_148 : decode cX8_wayOf 148 = .ok (.iadd, 1) := by decide +kernel
theorem dX8_wayOf_149 : decode cX8_wayOf 149 = .ok (.ireturn, 1) := by decide +kernel
theorem dX8_areOrders_0 : decode cX8_areOrders 0 = .ok (.iload_n 1, 1) := by decide +kernel
theorem dX8_areOrders_1 : decode cX8_areOrders 1 = .ok (.i2l, 1) := by decide +kernel
theorem dX8_areOrders_2 : decode cX8_areOrders 2 = .ok (.lconst 0, 1) := by decide +kernel
theorem dX8_areOrders_3 : decode cX8_areOrders 3 = .ok (.iconst 1, 1) := by decide +kernel
theorem dX8_areOrders_4 : decode cX8_areOrders 4 = .ok (.aload_n 0, 1) := by decide +kernel
theorem dX8_areOrders_5 : decode cX8_areOrders 5 = .ok (.getfield 159, 3) := by decide +kernel
theorem dX8_areOrders_8 : decode cX8_areOrders 8 = .ok (.ishl, 1) := by decide +kernel
theorem dX8_areOrders_9 : decode cX8_areOrders 9 = .ok (.iconst 1, 1) := by decide +kernel
theorem dX8_areOrders_10 : decode cX8_areOrders 10 = .ok (.isub, 1) := by decide +kernel
theorem dX8_areOrders_11 : decode cX8_areOrders 11 = .ok (.i2l, 1) := by decide +kernel
theorem dX8_areOrders_12 : decode cX8_areOrders 12 = .ok (.invokestatic 86, 3) := by decide +kernel
theorem dX8_areOrders_15 : decode cX8_areOrders 15 = .ok (.ireturn, 1) := by decide +kernel
theorem dX8_way_0 : decode cX8_way 0 = .ok (.aload_n 0, 1) := by decide +kernel
theorem dX8_way_1 : decode cX8_way 1 = .ok (.iload_n 1, 1) := by decide +kernel
theorem dX8_way_2 : decode cX8_way 2 = .ok (.invokevirtual 187, 3) := by decide +kernel
theorem dX8_way_5 : decode cX8_way 5 = .ok (.ifCond .eq 20, 3) := by decide +kernel
theorem dX8_way_8 : decode cX8_way 8 = .ok (.aload_n 0, 1) := by decide +kernel
theorem dX8_way_9 : decode cX8_way 9 = .ok (.iload_n 2, 1) := by decide +kernel
theorem dX8_way_10 : decode cX8_way 10 = .ok (.invokevirtual 251, 3) := by decide +kernel
theorem dX8_way_13 : decode cX8_way 13 = .ok (.ifCond .eq 12, 3) := by decide +kernel
theorem dX8_way_16 : decode cX8_way 16 = .ok (.aload_n 0, 1) := by decide +kernel
theorem dX8_way_17 : decode cX8_way 17 = .ok (.iload_n 1, 1) := by decide +kernel
theorem dX8_way_18 : decode cX8_way 18 = .ok (.iload_n 2, 1) := by decide +kernel
theorem dX8_way_19 : decode cX8_way 19 = .ok (.invokevirtual 254, 3) := by decide +kernel
theorem dX8_way_22 : decode cX8_way 22 = .ok (.goto 4, 3) := by decide +kernel
theorem dX8_way_25 : decode cX8_way 25 = .ok (.iconst (-1), 1) := by decide +kernel
theorem dX8_way_26 : decode cX8_way 26 = .ok (.ireturn, 1) := by decide +kernel
theorem dX8_beginLine_0 : decode cX8_beginLine 0 = .ok (.aload_n 0, 1) := by decide +kernel
theorem dX8_beginLine_1 : decode cX8_beginLine 1 = .ok (.iconst 0, 1) := by decide +kernel
theorem dX8_beginLine_2 : decode cX8_beginLine 2 = .ok (.putfield 257, 3) := by decide +kernel
theorem dX8_beginLine_5 : decode cX8_beginLine 5 = .ok (.aload_n 0, 1) := by decide +kernel
theorem dX8_beginLine_6 : decode cX8_beginLine 6 = .ok (.iconst 0, 1) := by decide +kernel
theorem dX8_beginLine_7 : decode cX8_beginLine 7 = .ok (.putfield 260, 3) := by decide +kernel
theorem dX8_beginLine_10 : decode cX8_beginLine 10 = .ok (.aload_n 0, 1) := by decide +kernel
theorem dX8_beginLine_11 : decode cX8_beginLine 11 = .ok (.getfield 62, 3) := by decide +kernel
theorem dX8_beginLine_14 : decode cX8_beginLine 14 = .ok (.iconst 0, 1) := by decide +kernel
theorem dX8_beginLine_15 : decode cX8_beginLine 15 = .ok (.iconst 0, 1) := by decide +kernel
theorem dX8_beginLine_16 : decode cX8_beginLine 16 = .ok (.iastore, 1) := by decide +kernel
theorem dX8_beginLine_17 : decode cX8_beginLine 17 = .ok (.aload_n 0, 1) := by decide +kernel
theorem dX8_beginLine_18 : decode cX8_beginLine 18 = .ok (.getfield 65, 3) := by decide +kernel
theorem dX8_beginLine_21 : decode cX8_beginLine 21 = .ok (.iconst 0, 1) := by decide +kernel
theorem dX8_beginLine_22 : decode cX8_beginLine 22 = .ok (.iconst 0, 1) := by decide +kernel
theorem dX8_beginLine_23 : decode cX8_beginLine 23 = .ok (.iastore, 1) := by decide +kernel
theorem dX8_beginLine_24 : decode cX8_beginLine 24 = .ok (.aload_n 0, 1) := by decide +kernel
theorem dX8_beginLine_25 : decode cX8_beginLine 25 = .ok (.getfield 68, 3) := by decide +kernel
theorem dX8_beginLine_28 : decode cX8_beginLine 28 = .ok (.iconst 0, 1) := by decide +kernel
theorem dX8_beginLine_29 : decode cX8_beginLine 29 = .ok (.aload_n 0, 1) := by decide +kernel
theorem dX8_beginLine_30 : decode cX8_beginLine 30 = .ok (.getfield 7, 3) := by decide +kernel
theorem dX8_beginLine_33 : decode cX8_beginLine 33 = .ok (.iconst 3, 1) := by decide +kernel
theorem dX8_beginLine_34 : decode cX8_beginLine 34 = .ok (.iload_n 1, 1) := by decide +kernel
theorem dX8_beginLine_35 : decode cX8_beginLine 35 = .ok (.iadd, 1) := by decide +kernel
theorem dX8_beginLine_36 : decode cX8_beginLine 36 = .ok (.iaload, 1) := by decide +kernel
theorem dX8_beginLine_37 : decode cX8_beginLine 37 = .ok (.iastore, 1) := by decide +kernel
theorem dX8_beginLine_38 : decode cX8_beginLine 38 = .ok (.aload_n 0, 1) := by decide +kernel
theorem dX8_beginLine_39 : decode cX8_beginLine 39 = .ok (.getfield 71, 3) := by decide +kernel
theorem dX8_beginLine_42 : decode cX8_beginLine 42 = .ok (.iconst 0, 1) := by decide +kernel
theorem dX8_beginLine_43 : decode cX8_beginLine 43 = .ok (.aload_n 0, 1) := by decide +kernel
theorem dX8_beginLine_44 : decode cX8_beginLine 44 = .ok (.getfield 7, 3) := by decide +kernel
theorem dX8_beginLine_47 : decode cX8_beginLine 47 = .ok (.iconst 2, 1) := by decide +kernel
theorem dX8_beginLine_48 : decode cX8_beginLine 48 = .ok (.iaload, 1) := by decide +kernel
theorem dX8_beginLine_49 : decode cX8_beginLine 49 = .ok (.iastore, 1) := by decide +kernel
theorem dX8_beginLine_50 : decode cX8_beginLine 50 = .ok (.aload_n 0, 1) := by decide +kernel
theorem dX8_beginLine_51 : decode cX8_beginLine 51 = .ok (.getfield 74, 3) := by decide +kernel
theorem dX8_beginLine_54 : decode cX8_beginLine 54 = .ok (.iconst 0, 1) := by decide +kernel
theorem dX8_beginLine_55 : decode cX8_beginLine 55 = .ok (.aload_n 0, 1) := by decide +kernel
theorem dX8_beginLine_56 : decode cX8_beginLine 56 = .ok (.getfield 7, 3) := by decide +kernel
theorem dX8_beginLine_59 : decode cX8_beginLine 59 = .ok (.bipush 8, 2) := by decide +kernel
theorem dX8_beginLine_61 : decode cX8_beginLine 61 = .ok (.iload_n 1, 1) := by decide +kernel
theorem dX8_beginLine_62 : decode cX8_beginLine 62 = .ok (.iadd, 1) := by decide +kernel
theorem dX8_beginLine_63 : decode cX8_beginLine 63 = .ok (.iaload, 1) := by decide +kernel
theorem dX8_beginLine_64 : decode cX8_beginLine 64 = .ok (.iastore, 1) := by decide +kernel
theorem dX8_beginLine_65 : decode cX8_beginLine 65 = .ok (.return_, 1) := by decide +kernel
theorem dX8_hoursTo_0 : decode cX8_hoursTo 0 = .ok (.aload_n 0, 1) := by decide +kernel
theorem dX8_hoursTo_1 : decode cX8_hoursTo 1 = .ok (.getfield 62, 3) := by decide +kernel
theorem dX8_hoursTo_4 : decode cX8_hoursTo 4 = .ok (.aload_n 0, 1) := by decide +kernel
theorem dX8_hoursTo_5 : decode cX8_hoursTo 5 = .ok (.getfield 257, 3) := by decide +kernel
theorem dX8_hoursTo_8 : decode cX8_hoursTo 8 = .ok (.iaload, 1) := by decide +kernel
theorem dX8_hoursTo_9 : decode cX8_hoursTo 9 = .ok (.aload_n 0, 1) := by decide +kernel
theorem dX8_hoursTo_10 : decode cX8_hoursTo 10 = .ok (.getfield 74, 3) := by decide +kernel
theorem dX8_hoursTo_13 : decode cX8_hoursTo 13 = .ok (.aload_n 0, 1) := by decide +kernel
theorem dX8_hoursTo_14 : decode cX8_hoursTo 14 = .ok (.getfield 257, 3) := by decide +kernel
theorem dX8_hoursTo_17 : decode cX8_hoursTo 17 = .ok (.iaload, 1) := by decide +kernel
theorem dX8_hoursTo_18 : decode cX8_hoursTo 18 = .ok (.aload_n 0, 1) := by decide +kernel
theorem dX8_hoursTo_19 : decode cX8_hoursTo 19 = .ok (.getfield 19, 3) := by decide +kernel
theorem dX8_hoursTo_22 : decode cX8_hoursTo 22 = .ok (.iload_n 1, 1) := by decide +kernel
theorem dX8_hoursTo_23 : decode cX8_hoursTo 23 = .ok (.iaload, 1) := by decide +kernel
theorem dX8_hoursTo_24 : decode cX8_hoursTo 24 = .ok (.invokestatic 213, 3) := by decide +kernel
theorem dX8_hoursTo_27 : decode cX8_hoursTo 27 = .ok (.iadd, 1) := by decide +kernel
theorem dX8_hoursTo_28 : decode cX8_hoursTo 28 = .ok (.iconst 1, 1) := by decide +kernel
theorem dX8_hoursTo_29 : decode cX8_hoursTo 29 = .ok (.iadd, 1) := by decide +kernel
theorem dX8_hoursTo_30 : decode cX8_hoursTo 30 = .ok (.ireturn, 1) := by decide +kernel
theorem dX8_mayNext_0 : decode cX8_mayNext 0 = .ok (.aload_n 0, 1) := by decide +kernel
theorem dX8_mayNext_1 : decode cX8_mayNext 1 = .ok (.getfield 71, 3) := by decide +kernel
theorem dX8_mayNext_4 : decode cX8_mayNext 4 = .ok (.aload_n 0, 1) := by decide +kernel
theorem dX8_mayNext_5 : decode cX8_mayNext 5 = .ok (.getfield 257, 3) := by decide +kernel
theorem dX8_mayNext_8 : decode cX8_mayNext 8 = .ok (.iaload, 1) := by decide +kernel
theorem dX8_mayNext_9 : decode cX8_mayNext 9 = .ok (.iload_n 2, 1) := by decide +kernel
theorem dX8_mayNext_10 : decode cX8_mayNext 10 = .ok (.invokestatic 174, 3) := by decide +kernel
theorem dX8_mayNext_13 : decode cX8_mayNext 13 = .ok (.ifCond .ne 25, 3) := by decide +kernel
theorem dX8_mayNext_16 : decode cX8_mayNext 16 = .ok (.aload_n 0, 1) := by decide +kernel
theorem dX8_mayNext_17 : decode cX8_mayNext 17 = .ok (.getfield 13, 3) := by decide +kernel
theorem dX8_mayNext_20 : decode cX8_mayNext 20 = .ok (.iload_n 1, 1) := by decide +kernel
theorem dX8_mayNext_21 : decode cX8_mayNext 21 = .ok (.iaload, 1) := by decide +kernel
theorem dX8_mayNext_22 : decode cX8_mayNext 22 = .ok (.aload_n 0, 1) := by decide +kernel
theorem dX8_mayNext_23 : decode cX8_mayNext 23 = .ok (.getfield 22, 3) := by decide +kernel
theorem dX8_mayNext_26 : decode cX8_mayNext 26 = .ok (.iload_n 2, 1) := by decide +kernel
theorem dX8_mayNext_27 : decode cX8_mayNext 27 = .ok (.iaload, 1) := by decide +kernel
theorem dX8_mayNext_28 : decode cX8_mayNext 28 = .ok (.invokestatic 178, 3) := by decide +kernel
theorem dX8_mayNext_31 : decode cX8_mayNext 31 = .ok (.ifCond .ne 7, 3) := by decide +kernel
theorem dX8_mayNext_34 : decode cX8_mayNext 34 = .ok (.iconst 1, 1) := by decide +kernel
theorem dX8_mayNext_35 : decode cX8_mayNext 35 = .ok (.goto 4, 3) := by decide +kernel
theorem dX8_mayNext_38 : decode cX8_mayNext 38 = .ok (.iconst 0, 1) := by decide +kernel
theorem dX8_mayNext_39 : decode cX8_mayNext 39 = .ok (.istore 4, 2) := by decide +kernel
theorem dX8_mayNext_41 : decode cX8_mayNext 41 = .ok (.iload 4, 2) := by decide +kernel
theorem dX8_mayNext_43 : decode cX8_mayNext 43 = .ok (.ifCond .eq 34, 3) := by decide +kernel
theorem dX8_mayNext_46 : decode cX8_mayNext 46 = .ok (.aload_n 0, 1) := by decide +kernel
theorem dX8_mayNext_47 : decode cX8_mayNext 47 = .ok (.getfield 68, 3) := by decide +kernel
theorem dX8_mayNext_50 : decode cX8_mayNext 50 = .ok (.aload_n 0, 1) := by decide +kernel
theorem dX8_mayNext_51 : decode cX8_mayNext 51 = .ok (.getfield 257, 3) := by decide +kernel
theorem dX8_mayNext_54 : decode cX8_mayNext 54 = .ok (.iaload, 1) := by decide +kernel
theorem dX8_mayNext_55 : decode cX8_mayNext 55 = .ok (.aload_n 0, 1) := by decide +kernel
theorem dX8_mayNext_56 : decode cX8_mayNext 56 = .ok (.iload_n 1, 1) := by decide +kernel
theorem dX8_mayNext_57 : decode cX8_mayNext 57 = .ok (.iload_n 2, 1) := by decide +kernel
theorem dX8_mayNext_58 : decode cX8_mayNext 58 = .ok (.invokevirtual 181, 3) := by decide +kernel
theorem dX8_mayNext_61 : decode cX8_mayNext 61 = .ok (.if_icmp .lt 16, 3) := by decide +kernel
theorem dX8_mayNext_64 : decode cX8_mayNext 64 = .ok (.aload_n 0, 1) := by decide +kernel
theorem dX8_mayNext_65 : decode cX8_mayNext 65 = .ok (.iload_n 2, 1) := by decide +kernel
theorem dX8_mayNext_66 : decode cX8_mayNext 66 = .ok (.invokevirtual 264, 3) := by decide +kernel
theorem dX8_mayNext_69 : decode cX8_mayNext 69 = .ok (.iload_n 3, 1) := by decide +kernel
theorem dX8_mayNext_70 : decode cX8_mayNext 70 = .ok (.if_icmp .gt 7, 3) := by decide +kernel
theorem dX8_mayNext_73 : decode cX8_mayNext 73 = .ok (.iconst 1, 1) := by decide +kernel
theorem dX8_mayNext_74 : decode cX8_mayNext 74 = .ok (.goto 4, 3) := by decide +kernel
theorem dX8_mayNext_77 : decode cX8_mayNext 77 = .ok (.iconst 0, 1) := by decide +kernel
theorem dX8_mayNext_78 : decode cX8_mayNext 78 = .ok (.ireturn, 1) := by decide +kernel
theorem dX8_nextLine_0 : decode cX8_nextLine 0 = .ok (.aload_n 0, 1) := by decide +kernel
theorem dX8_nextLine_1 : decode cX8_nextLine 1 = .ok (.getfield 260, 3) := by decide +kernel
theorem dX8_nextLine_4 : decode cX8_nextLine 4 = .ok (.ifCond .ne 10, 3) := by decide +kernel
theorem dX8_nextLine_7 : decode cX8_nextLine 7 = .ok (.aload_n 0, 1) := by decide +kernel
theorem dX8_nextLine_8 : decode cX8_nextLine 8 = .ok (.iconst 1, 1) := by decide +kernel
theorem dX8_nextLine_9 : decode cX8_nextLine 9 = .ok (.putfield 260, 3) := by decide +kernel
theorem dX8_nextLine_12 : decode cX8_nextLine 12 = .ok (.iconst 1, 1) := by decide +kernel
theorem dX8_nextLine_13 : decode cX8_nextLine 13 = .ok (.ireturn, 1) := by decide +kernel
theorem dX8_nextLine_14 : decode cX8_nextLine 14 = .ok (.iconst 0, 1) := by decide +kernel
theorem dX8_nextLine_15 : decode cX8_nextLine 15 = .ok (.istore_n 3, 1) := by decide +kernel
theorem dX8_nextLine_16 : decode cX8_nextLine 16 = .ok (.aload_n 0, 1) := by decide +kernel
theorem dX8_nextLine_17 : decode cX8_nextLine 17 = .ok (.getfield 257, 3) := by decide +kernel
theorem dX8_nextLine_20 : decode cX8_nextLine 20 = .ok (.ifCond .lt 192, 3) := by decide +kernel
theorem dX8_nextLine_23 : decode cX8_nextLine 23 = .ok (.iload_n 3, 1) := by decide +kernel
theorem dX8_nextLine_24 : decode cX8_nextLine 24 = .ok (.aload_n 0, 1) := by decide +kernel
theorem dX8_nextLine_25 : decode cX8_nextLine 25 = .ok (.getfield 159, 3) := by decide +kernel
theorem dX8_nextLine_28 : decode cX8_nextLine 28 = .ok (.if_icmp .ge 19, 3) := by decide +kernel
theorem dX8_nextLine_31 : decode cX8_nextLine 31 = .ok (.aload_n 0, 1) := by decide +kernel
theorem dX8_nextLine_32 : decode cX8_nextLine 32 = .ok (.iload_n 1, 1) := by decide +kernel
theorem dX8_nextLine_33 : decode cX8_nextLine 33 = .ok (.iload_n 3, 1) := by decide +kernel
theorem dX8_nextLine_34 : decode cX8_nextLine 34 = .ok (.iload_n 2, 1) := by decide +kernel
theorem dX8_nextLine_35 : decode cX8_nextLine 35 = .ok (.invokevirtual 267, 3) := by decide +kernel
theorem dX8_nextLine_38 : decode cX8_nextLine 38 = .ok (.ifCond .ne 9, 3) := by decide +kernel
theorem dX8_nextLine_41 : decode cX8_nextLine 41 = .ok (.iinc 3 1, 3) := by decide +kernel
theorem dX8_nextLine_44 : decode cX8_nextLine 44 = .ok (.goto (-21), 3) := by decide +kernel
theorem dX8_nextLine_47 : decode cX8_nextLine 47 = .ok (.iload_n 3, 1) := by decide +kernel
theorem dX8_nextLine_48 : decode cX8_nextLine 48 = .ok (.aload_n 0, 1) := by decide +kernel
theorem dX8_nextLine_49 : decode cX8_nextLine 49 = .ok (.getfield 159, 3) := by decide +kernel
theorem dX8_nextLine_52 : decode cX8_nextLine 52 = .ok (.if_icmp .ge 124, 3) := by decide +kernel
theorem dX8_nextLine_55 : decode cX8_nextLine 55 = .ok (.aload_n 0, 1) := by decide +kernel
theorem dX8_nextLine_56 : decode cX8_nextLine 56 = .ok (.getfield 257, 3) := by decide +kernel
theorem dX8_nextLine_59 : decode cX8_nextLine 59 = .ok (.istore 4, 2) := by decide +kernel
theorem dX8_nextLine_61 : decode cX8_nextLine 61 = .ok (.aload_n 0, 1) := by decide +kernel
theorem dX8_nextLine_62 : decode cX8_nextLine 62 = .ok (.getfield 59, 3) := by decide +kernel
theorem dX8_nextLine_65 : decode cX8_nextLine 65 = .ok (.iload 4, 2) := by decide +kernel
theorem dX8_nextLine_67 : decode cX8_nextLine 67 = .ok (.iload_n 3, 1) := by decide +kernel
theorem dX8_nextLine_68 : decode cX8_nextLine 68 = .ok (.iastore, 1) := by decide +kernel
theorem dX8_nextLine_69 : decode cX8_nextLine 69 = .ok (.aload_n 0, 1) := by decide +kernel
theorem dX8_nextLine_70 : decode cX8_nextLine 70 = .ok (.getfield 62, 3) := by decide +kernel
theorem dX8_nextLine_73 : decode cX8_nextLine 73 = .ok (.iload 4, 2) := by decide +kernel
theorem dX8_nextLine_75 : decode cX8_nextLine 75 = .ok (.iconst 1, 1) := by decide +kernel
theorem dX8_nextLine_76 : decode cX8_nextLine 76 = .ok (.iadd, 1) := by decide +kernel
theorem dX8_nextLine_77 : decode cX8_nextLine 77 = .ok (.aload_n 0, 1) := by decide +kernel
theorem dX8_nextLine_78 : decode cX8_nextLine 78 = .ok (.iload_n 3, 1) := by decide +kernel
theorem dX8_nextLine_79 : decode cX8_nextLine 79 = .ok (.invokevirtual 264, 3) := by decide +kernel
theorem dX8_nextLine_82 : decode cX8_nextLine 82 = .ok (.iastore, 1) := by decide +kernel
theorem dX8_nextLine_83 : decode cX8_nextLine 83 = .ok (.aload_n 0, 1) := by decide +kernel
theorem dX8_nextLine_84 : decode cX8_nextLine 84 = .ok (.getfield 65, 3) := by decide +kernel
theorem dX8_nextLine_87 : decode cX8_nextLine 87 = .ok (.iload 4, 2) := by decide +kernel
theorem dX8_nextLine_89 : decode cX8_nextLine 89 = .ok (.iconst 1, 1) := by decide +kernel
theorem dX8_nextLine_90 : decode cX8_nextLine 90 = .ok (.iadd, 1) := by decide +kernel
theorem dX8_nextLine_91 : decode cX8_nextLine 91 = .ok (.aload_n 0, 1) := by decide +kernel
theorem dX8_nextLine_92 : decode cX8_nextLine 92 = .ok (.getfield 65, 3) := by decide +kernel
theorem dX8_nextLine_95 : decode cX8_nextLine 95 = .ok (.iload 4, 2) := by decide +kernel
theorem dX8_nextLine_97 : decode cX8_nextLine 97 = .ok (.iaload, 1) := by decide +kernel
theorem dX8_nextLine_98 : decode cX8_nextLine 98 = .ok (.aload_n 0, 1) := by decide +kernel
theorem dX8_nextLine_99 : decode cX8_nextLine 99 = .ok (.iload_n 1, 1) := by decide +kernel
theorem dX8_nextLine_100 : decode cX8_nextLine 100 = .ok (.iload_n 3, 1) := by decide +kernel
theorem dX8_nextLine_101 : decode cX8_nextLine 101 = .ok (.invokevirtual 201, 3) := by decide +kernel
theorem dX8_nextLine_104 : decode cX8_nextLine 104 = .ok (.iadd, 1) := by decide +kernel
theorem dX8_nextLine_105 : decode cX8_nextLine 105 = .ok (.iastore, 1) := by decide +kernel
theorem dX8_nextLine_106 : decode cX8_nextLine 106 = .ok (.aload_n 0, 1) := by decide +kernel
theorem dX8_nextLine_107 : decode cX8_nextLine 107 = .ok (.getfield 68, 3) := by decide +kernel
theorem dX8_nextLine_110 : decode cX8_nextLine 110 = .ok (.iload 4, 2) := by decide +kernel
theorem dX8_nextLine_112 : decode cX8_nextLine 112 = .ok (.iconst 1, 1) := by decide +kernel
theorem dX8_nextLine_113 : decode cX8_nextLine 113 = .ok (.iadd, 1) := by decide +kernel
theorem dX8_nextLine_114 : decode cX8_nextLine 114 = .ok (.aload_n 0, 1) := by decide +kernel
theorem dX8_nextLine_115 : decode cX8_nextLine 115 = .ok (.getfield 68, 3) := by decide +kernel
theorem dX8_nextLine_118 : decode cX8_nextLine 118 = .ok (.iload 4, 2) := by decide +kernel
theorem dX8_nextLine_120 : decode cX8_nextLine 120 = .ok (.iaload, 1) := by decide +kernel
theorem dX8_nextLine_121 : decode cX8_nextLine 121 = .ok (.aload_n 0, 1) := by decide +kernel
theorem dX8_nextLine_122 : decode cX8_nextLine 122 = .ok (.iload_n 1, 1) := by decide +kernel
theorem dX8_nextLine_123 : decode cX8_nextLine 123 = .ok (.iload_n 3, 1) := by decide +kernel
theorem dX8_nextLine_124 : decode cX8_nextLine 124 = .ok (.invokevirtual 181, 3) := by decide +kernel
theorem dX8_nextLine_127 : decode cX8_nextLine 127 = .ok (.isub, 1) := by decide +kernel
theorem dX8_nextLine_128 : decode cX8_nextLine 128 = .ok (.iastore, 1) := by decide +kernel
theorem dX8_nextLine_129 : decode cX8_nextLine 129 = .ok (.aload_n 0, 1) := by decide +kernel
theorem dX8_nextLine_130 : decode cX8_nextLine 130 = .ok (.getfield 71, 3) := by decide +kernel
theorem dX8_nextLine_133 : decode cX8_nextLine 133 = .ok (.iload 4, 2) := by decide +kernel
theorem dX8_nextLine_135 : decode cX8_nextLine 135 = .ok (.iconst 1, 1) := by decide +kernel
theorem dX8_nextLine_136 : decode cX8_nextLine 136 = .ok (.iadd, 1) := by decide +kernel
theorem dX8_nextLine_137 : decode cX8_nextLine 137 = .ok (.aload_n 0, 1) := by decide +kernel
theorem dX8_nextLine_138 : decode cX8_nextLine 138 = .ok (.getfield 71, 3) := by decide +kernel
theorem dX8_nextLine_141 : decode cX8_nextLine 141 = .ok (.iload 4, 2) := by decide +kernel
theorem dX8_nextLine_143 : decode cX8_nextLine 143 = .ok (.iaload, 1) := by decide +kernel
theorem dX8_nextLine_144 : decode cX8_nextLine 144 = .ok (.iconst 1, 1) := by decide +kernel
theorem dX8_nextLine_145 : decode cX8_nextLine 145 = .ok (.iload_n 3, 1) := by decide +kernel
theorem dX8_nextLine_146 : decode cX8_nextLine 146 = .ok (.ishl, 1) := by decide +kernel
theorem dX8_nextLine_147 : decode cX8_nextLine 147 = .ok (.ior, 1) := by decide +kernel
theorem dX8_nextLine_148 : decode cX8_nextLine 148 = .ok (.iastore, 1) := by decide +kernel
theorem dX8_nextLine_149 : decode cX8_nextLine 149 = .ok (.aload_n 0, 1) := by decide +kernel
theorem dX8_nextLine_150 : decode cX8_nextLine 150 = .ok (.getfield 74, 3) := by decide +kernel
theorem dX8_nextLine_153 : decode cX8_nextLine 153 = .ok (.iload 4, 2) := by decide +kernel
theorem dX8_nextLine_155 : decode cX8_nextLine 155 = .ok (.iconst 1, 1) := by decide +kernel
theorem dX8_nextLine_156 : decode cX8_nextLine 156 = .ok (.iadd, 1) := by decide +kernel
theorem dX8_nextLine_157 : decode cX8_nextLine 157 = .ok (.aload_n 0, 1) := by decide +kernel
theorem dX8_nextLine_158 : decode cX8_nextLine 158 = .ok (.getfield 19, 3) := by decide +kernel
theorem dX8_nextLine_161 : decode cX8_nextLine 161 = .ok (.iload_n 3, 1) := by decide +kernel
theorem dX8_nextLine_162 : decode cX8_nextLine 162 = .ok (.iaload, 1) := by decide +kernel
theorem dX8_nextLine_163 : decode cX8_nextLine 163 = .ok (.iastore, 1) := by decide +kernel
theorem dX8_nextLine_164 : decode cX8_nextLine 164 = .ok (.aload_n 0, 1) := by decide +kernel
theorem dX8_nextLine_165 : decode cX8_nextLine 165 = .ok (.dup, 1) := by decide +kernel
theorem dX8_nextLine_166 : decode cX8_nextLine 166 = .ok (.getfield 257, 3) := by decide +kernel
theorem dX8_nextLine_169 : decode cX8_nextLine 169 = .ok (.iconst 1, 1) := by decide +kernel
theorem dX8_nextLine_170 : decode cX8_nextLine 170 = .ok (.iadd, 1) := by decide +kernel
theorem dX8_nextLine_171 : decode cX8_nextLine 171 = .ok (.putfield 257, 3) := by decide +kernel
theorem dX8_nextLine_174 : decode cX8_nextLine 174 = .ok (.iconst 1, 1) := by decide +kernel
theorem dX8_nextLine_175 : decode cX8_nextLine 175 = .ok (.ireturn, 1) := by decide +kernel
theorem dX8_nextLine_176 : decode cX8_nextLine 176 = .ok (.aload_n 0, 1) := by decide +kernel
theorem dX8_nextLine_177 : decode cX8_nextLine 177 = .ok (.dup, 1) := by decide +kernel
theorem dX8_nextLine_178 : decode cX8_nextLine 178 = .ok (.getfield 257, 3) := by decide +kernel
theorem dX8_nextLine_181 : decode cX8_nextLine 181 = .ok (.iconst 1, 1) := by decide +kernel
theorem dX8_nextLine_182 : decode cX8_nextLine 182 = .ok (.isub, 1) := by decide +kernel
theorem dX8_nextLine_183 : decode cX8_nextLine 183 = .ok (.putfield 257, 3) := by decide +kernel
theorem dX8_nextLine_186 : decode cX8_nextLine 186 = .ok (.aload_n 0, 1) := by decide +kernel
theorem dX8_nextLine_187 : decode cX8_nextLine 187 = .ok (.getfield 257, 3) := by decide +kernel
theorem dX8_nextLine_190 : decode cX8_nextLine 190 = .ok (.ifCond .ge 7, 3) := by decide +kernel
theorem dX8_nextLine_193 : decode cX8_nextLine 193 = .ok (.iconst 0, 1) := by decide +kernel
theorem dX8_nextLine_194 : decode cX8_nextLine 194 = .ok (.goto 14, 3) := by decide +kernel
theorem dX8_nextLine_197 : decode cX8_nextLine 197 = .ok (.aload_n 0, 1) := by decide +kernel
theorem dX8_nextLine_198 : decode cX8_nextLine 198 = .ok (.getfield 59, 3) := by decide +kernel
theorem dX8_nextLine_201 : decode cX8_nextLine 201 = .ok (.aload_n 0, 1) := by decide +kernel
theorem dX8_nextLine_202 : decode cX8_nextLine 202 = .ok (.getfield 257, 3) := by decide +kernel
theorem dX8_nextLine_205 : decode cX8_nextLine 205 = .ok (.iaload, 1) := by decide +kernel
theorem dX8_nextLine_206 : decode cX8_nextLine 206 = .ok (.iconst 1, 1) := by decide +kernel
theorem dX8_nextLine_207 : decode cX8_nextLine 207 = .ok (.iadd, 1) := by decide +kernel
theorem dX8_nextLine_208 : decode cX8_nextLine 208 = .ok (.istore_n 3, 1) := by decide +kernel
theorem dX8_nextLine_209 : decode cX8_nextLine 209 = .ok (.goto (-193), 3) := by decide +kernel
theorem dX8_nextLine_212 : decode cX8_nextLine 212 = .ok (.iconst 0, 1) := by decide +kernel
theorem dX8_nextLine_213 : decode cX8_nextLine 213 = .ok (.ireturn, 1) := by decide +kernel
theorem dX8_dusk_0 : decode cX8_dusk 0 = .ok (.aload_n 0, 1) := by decide +kernel
theorem dX8_dusk_1 : decode cX8_dusk 1 = .ok (.iload_n 1, 1) := by decide +kernel
theorem dX8_dusk_2 : decode cX8_dusk 2 = .ok (.invokevirtual 187, 3) := by decide +kernel
theorem dX8_dusk_5 : decode cX8_dusk 5 = .ok (.ifCond .eq 22, 3) := by decide +kernel
theorem dX8_dusk_8 : decode cX8_dusk 8 = .ok (.iload_n 2, 1) := by decide +kernel
theorem dX8_dusk_9 : decode cX8_dusk 9 = .ok (.i2l, 1) := by decide +kernel
theorem dX8_dusk_10 : decode cX8_dusk 10 = .ok (.lconst 0, 1) := by decide +kernel
theorem dX8_dusk_11 : decode cX8_dusk 11 = .ok (.ldc2_w 270, 3) := by decide +kernel
theorem dX8_dusk_14 : decode cX8_dusk 14 = .ok (.invokestatic 86, 3) := by decide +kernel
theorem dX8_dusk_17 : decode cX8_dusk 17 = .ok (.ifCond .eq 10, 3) := by decide +kernel
theorem dX8_dusk_20 : decode cX8_dusk 20 = .ok (.iload_n 3, 1) := by decide +kernel
theorem dX8_dusk_21 : decode cX8_dusk 21 = .ok (.invokestatic 92, 3) := by decide +kernel
theorem dX8_dusk_24 : decode cX8_dusk 24 = .ok (.ifCond .ne 5, 3) := by decide +kernel
theorem dX8_dusk_27 : decode cX8_dusk 27 = .ok (.iconst (-1), 1) := by decide +kernel
theorem dX8_dusk_28 : decode cX8_dusk 28 = .ok (.ireturn, 1) := by decide +kernel
theorem dX8_dusk_29 : decode cX8_dusk 29 = .ok (.iconst (-1), 1) := by decide +kernel
theorem dX8_dusk_30 : decode cX8_dusk 30 = .ok (.istore 4, 2) := by decide +kernel
theorem dX8_dusk_32 : decode cX8_dusk 32 = .ok (.aload_n 0, 1) := by decide +kernel
theorem dX8_dusk_33 : decode cX8_dusk 33 = .ok (.iload_n 1, 1) := by decide +kernel
theorem dX8_dusk_34 : decode cX8_dusk 34 = .ok (.invokevirtual 272, 3) := by decide +kernel
theorem dX8_dusk_37 : decode cX8_dusk 37 = .ok (.aload_n 0, 1) := by decide +kernel
theorem dX8_dusk_38 : decode cX8_dusk 38 = .ok (.iload_n 1, 1) := by decide +kernel
theorem dX8_dusk_39 : decode cX8_dusk 39 = .ok (.iload_n 2, 1) := by decide +kernel
theorem dX8_dusk_40 : decode cX8_dusk 40 = .ok (.invokevirtual 275, 3) := by decide +kernel
theorem dX8_dusk_43 : decode cX8_dusk 43 = .ok (.ifCond .eq 77, 3) := by decide +kernel
theorem dX8_dusk_46 : decode cX8_dusk 46 = .ok (.aload_n 0, 1) := by decide +kernel
theorem dX8_dusk_47 : decode cX8_dusk 47 = .ok (.getfield 65, 3) := by decide +kernel
theorem dX8_dusk_50 : decode cX8_dusk 50 = .ok (.aload_n 0, 1) := by decide +kernel
theorem dX8_dusk_51 : decode cX8_dusk 51 = .ok (.getfield 257, 3) := by decide +kernel
theorem dX8_dusk_54 : decode cX8_dusk 54 = .ok (.iaload, 1) := by decide +kernel
theorem dX8_dusk_55 : decode cX8_dusk 55 = .ok (.iload 4, 2) := by decide +kernel
theorem dX8_dusk_57 : decode cX8_dusk 57 = .ok (.if_icmp .le (-20), 3) := by decide +kernel
theorem dX8_dusk_60 : decode cX8_dusk 60 = .ok (.aload_n 0, 1) := by decide +kernel
theorem dX8_dusk_61 : decode cX8_dusk 61 = .ok (.getfield 65, 3) := by decide +kernel
theorem dX8_dusk_64 : decode cX8_dusk 64 = .ok (.aload_n 0, 1) := by decide +kernel
theorem dX8_dusk_65 : decode cX8_dusk 65 = .ok (.getfield 257, 3) := by decide +kernel
theorem dX8_dusk_68 : decode cX8_dusk 68 = .ok (.iaload, 1) := by decide +kernel
theorem dX8_dusk_69 : decode cX8_dusk 69 = .ok (.istore 4, 2) := by decide +kernel
theorem dX8_dusk_71 : decode cX8_dusk 71 = .ok (.aload_n 0, 1) := by decide +kernel
theorem dX8_dusk_72 : decode cX8_dusk 72 = .ok (.iload_n 3, 1) := by decide +kernel
theorem dX8_dusk_73 : decode cX8_dusk 73 = .ok (.aload_n 0, 1) := by decide +kernel
theorem dX8_dusk_74 : decode cX8_dusk 74 = .ok (.getfield 257, 3) := by decide +kernel
theorem dX8_dusk_77 : decode cX8_dusk 77 = .ok (.invokevirtual 100, 3) := by decide +kernel
theorem dX8_dusk_80 : decode cX8_dusk 80 = .ok (.iconst 0, 1) := by decide +kernel
theorem dX8_dusk_81 : decode cX8_dusk 81 = .ok (.istore 5, 2) := by decide +kernel
theorem dX8_dusk_83 : decode cX8_dusk 83 = .ok (.iload 5, 2) := by decide +kernel
theorem dX8_dusk_85 : decode cX8_dusk 85 = .ok (.aload_n 0, 1) := by decide +kernel
theorem dX8_dusk_86 : decode cX8_dusk 86 = .ok (.getfield 257, 3) := by decide +kernel
theorem dX8_dusk_89 : decode cX8_dusk 89 = .ok (.if_icmp .ge 28, 3) := by decide +kernel
theorem dX8_dusk_92 : decode cX8_dusk 92 = .ok (.aload_n 0, 1) := by decide +kernel
theorem dX8_dusk_93 : decode cX8_dusk 93 = .ok (.getfield 31, 3) := by decide +kernel
theorem dX8_dusk_96 : decode cX8_dusk 96 = .ok (.bipush 40, 2) := by decide +kernel
theorem dX8_dusk_98 : decode cX8_dusk 98 = .ok (.iload_n 3, 1) := by decide +kernel
theorem dX8_dusk_99 : decode cX8_dusk 99 = .ok (.imul, 1) := by decide +kernel
theorem dX8_dusk_100 : decode cX8_dusk 100 = .ok (.iload 5, 2) := by decide +kernel
theorem dX8_dusk_102 : decode cX8_dusk 102 = .ok (.iadd, 1) := by decide +kernel
theorem dX8_dusk_103 : decode cX8_dusk 103 = .ok (.aload_n 0, 1) := by decide +kernel
theorem dX8_dusk_104 : decode cX8_dusk 104 = .ok (.getfield 59, 3) := by decide +kernel
theorem dX8_dusk_107 : decode cX8_dusk 107 = .ok (.iload 5, 2) := by decide +kernel
theorem dX8_dusk_109 : decode cX8_dusk 109 = .ok (.iaload, 1) := by decide +kernel
theorem dX8_dusk_110 : decode cX8_dusk 110 = .ok (.iastore, 1) := by decide +kernel
theorem dX8_dusk_111 : decode cX8_dusk 111 = .ok (.iinc 5 1, 3) := by decide +kernel
theorem dX8_dusk_114 : decode cX8_dusk 114 = .ok (.goto (-31), 3) := by decide +kernel
theorem dX8_dusk_117 : decode cX8_dusk 117 = .ok (.goto (-80), 3) := by decide +kernel
theorem dX8_dusk_120 : decode cX8_dusk 120 = .ok (.iload 4, 2) := by decide +kernel
theorem dX8_dusk_122 : decode cX8_dusk 122 = .ok (.ireturn, 1) := by decide +kernel
theorem dX8_hours_0 : decode cX8_hours 0 = .ok (.aload_n 0, 1) := by decide +kernel
theorem dX8_hours_1 : decode cX8_hours 1 = .ok (.iload_n 1, 1) := by decide +kernel
theorem dX8_hours_2 : decode cX8_hours 2 = .ok (.invokevirtual 187, 3) := by decide +kernel
theorem dX8_hours_5 : decode cX8_hours 5 = .ok (.ifCond .eq 11, 3) := by decide +kernel
theorem dX8_hours_8 : decode cX8_hours 8 = .ok (.aload_n 0, 1) := by decide +kernel
theorem dX8_hours_9 : decode cX8_hours 9 = .ok (.iload_n 2, 1) := by decide +kernel
theorem dX8_hours_10 : decode cX8_hours 10 = .ok (.invokevirtual 251, 3) := by decide +kernel
theorem dX8_hours_13 : decode cX8_hours 13 = .ok (.ifCond .ne 5, 3) := by decide +kernel
theorem dX8_hours_16 : decode cX8_hours 16 = .ok (.iconst (-1), 1) := by decide +kernel
theorem dX8_hours_17 : decode cX8_hours 17 = .ok (.ireturn, 1) := by decide +kernel
theorem dX8_hours_18 : decode cX8_hours 18 = .ok (.iload_n 2, 1) := by decide +kernel
theorem dX8_hours_19 : decode cX8_hours 19 = .ok (.aload_n 0, 1) := by decide +kernel
theorem dX8_hours_20 : decode cX8_hours 20 = .ok (.getfield 7, 3) := by decide +kernel
theorem dX8_hours_23 : decode cX8_hours 23 = .ok (.iconst 2, 1) := by decide +kernel
theorem dX8_hours_24 : decode cX8_hours 24 = .ok (.iaload, 1) := by decide +kernel
theorem dX8_hours_25 : decode cX8_hours 25 = .ok (.iconst (-1), 1) := by decide +kernel
theorem dX8_hours_26 : decode cX8_hours 26 = .ok (.ixor, 1) := by decide +kernel
theorem dX8_hours_27 : decode cX8_hours 27 = .ok (.iand, 1) := by decide +kernel
theorem dX8_hours_28 : decode cX8_hours 28 = .ok (.istore_n 3, 1) := by decide +kernel
theorem dX8_hours_29 : decode cX8_hours 29 = .ok (.iconst 0, 1) := by decide +kernel
theorem dX8_hours_30 : decode cX8_hours 30 = .ok (.istore 4, 2) := by decide +kernel
theorem dX8_hours_32 : decode cX8_hours 32 = .ok (.iconst 0, 1) := by decide +kernel
theorem dX8_hours_33 : decode cX8_hours 33 = .ok (.istore 5, 2) := by decide +kernel
theorem dX8_hours_35 : decode cX8_hours 35 = .ok (.iload 5, 2) := by decide +kernel
theorem dX8_hours_37 : decode cX8_hours 37 = .ok (.aload_n 0, 1) := by decide +kernel
theorem dX8_hours_38 : decode cX8_hours 38 = .ok (.getfield 159, 3) := by decide +kernel
theorem dX8_hours_41 : decode cX8_hours 41 = .ok (.if_icmp .ge 65, 3) := by decide +kernel
theorem dX8_hours_44 : decode cX8_hours 44 = .ok (.iload_n 3, 1) := by decide +kernel
theorem dX8_hours_45 : decode cX8_hours 45 = .ok (.iload 5, 2) := by decide +kernel
theorem dX8_hours_47 : decode cX8_hours 47 = .ok (.invokestatic 174, 3) := by decide +kernel
theorem dX8_hours_50 : decode cX8_hours 50 = .ok (.ifCond .eq 50, 3) := by decide +kernel
theorem dX8_hours_53 : decode cX8_hours 53 = .ok (.iload 4, 2) := by decide +kernel
theorem dX8_hours_55 : decode cX8_hours 55 = .ok (.aload_n 0, 1) := by decide +kernel
theorem dX8_hours_56 : decode cX8_hours 56 = .ok (.iload_n 1, 1) := by decide +kernel
theorem dX8_hours_57 : decode cX8_hours 57 = .ok (.iload 5, 2) := by decide +kernel
theorem dX8_hours_59 : decode cX8_hours 59 = .ok (.invokevirtual 181, 3) := by decide +kernel
theorem dX8_hours_62 : decode cX8_hours 62 = .ok (.iadd, 1) := by decide +kernel
theorem dX8_hours_63 : decode cX8_hours 63 = .ok (.istore 4, 2) := by decide +kernel
theorem dX8_hours_65 : decode cX8_hours 65 = .ok (.aload_n 0, 1) := by decide +kernel
theorem dX8_hours_66 : decode cX8_hours 66 = .ok (.getfield 13, 3) := by decide +kernel
theorem dX8_hours_69 : decode cX8_hours 69 = .ok (.iload_n 1, 1) := by decide +kernel
theorem dX8_hours_70 : decode cX8_hours 70 = .ok (.iaload, 1) := by decide +kernel
theorem dX8_hours_71 : decode cX8_hours 71 = .ok (.aload_n 0, 1) := by decide +kernel
theorem dX8_hours_72 : decode cX8_hours 72 = .ok (.getfield 22, 3) := by decide +kernel
theorem dX8_hours_75 : decode cX8_hours 75 = .ok (.iload 5, 2) := by decide +kernel
theorem dX8_hours_77 : decode cX8_hours 77 = .ok (.iaload, 1) := by decide +kernel
theorem dX8_hours_78 : decode cX8_hours 78 = .ok (.invokestatic 178, 3) := by decide +kernel
theorem dX8_hours_81 : decode cX8_hours 81 = .ok (.ifCond .ne 16, 3) := by decide +kernel
theorem dX8_hours_84 : decode cX8_hours 84 = .ok (.iload 4, 2) := by decide +kernel
theorem dX8_hours_86 : decode cX8_hours 86 = .ok (.aload_n 0, 1) := by decide +kernel
theorem dX8_hours_87 : decode cX8_hours 87 = .ok (.getfield 7, 3) := by decide +kernel
theorem dX8_hours_90 : decode cX8_hours 90 = .ok (.iconst 3, 1) := by decide +kernel
theorem dX8_hours_91 : decode cX8_hours 91 = .ok (.iload_n 1, 1) := by decide +kernel
theorem dX8_hours_92 : decode cX8_hours 92 = .ok (.iadd, 1) := by decide +kernel
theorem dX8_hours_93 : decode cX8_hours 93 = .ok (.iaload, 1) := by decide +kernel
theorem dX8_hours_94 : decode cX8_hours 94 = .ok (.if_icmp .le 6, 3) := by decide +kernel
theorem dX8_hours_97 : decode cX8_hours 97 = .ok (.bipush (-9), 2) := by decide +kernel
theorem dX8_hours_99 : decode cX8_hours 99 = .ok (.ireturn, 1) := by decide +kernel
theorem dX8_hours_100 : decode cX8_hours 100 = .ok (.iinc 5 1, 3) := by decide +kernel
theorem dX8_hours_103 : decode cX8_hours 103 = .ok (.goto (-68), 3) := by decide +kernel
theorem dX8_hours_106 : decode cX8_hours 106 = .ok (.aload_n 0, 1) := by decide +kernel
theorem dX8_hours_107 : decode cX8_hours 107 = .ok (.iload_n 1, 1) := by decide +kernel
theorem dX8_hours_108 : decode cX8_hours 108 = .ok (.iload_n 3, 1) := by decide +kernel
theorem dX8_hours_109 : decode cX8_hours 109 = .ok (.invokevirtual 254, 3) := by decide +kernel
theorem dX8_hours_112 : decode cX8_hours 112 = .ok (.iload_n 3, 1) := by decide +kernel
theorem dX8_hours_113 : decode cX8_hours 113 = .ok (.invokestatic 238, 3) := by decide +kernel
theorem dX8_hours_116 : decode cX8_hours 116 = .ok (.iadd, 1) := by decide +kernel
theorem dX8_hours_117 : decode cX8_hours 117 = .ok (.ireturn, 1) := by decide +kernel
theorem dX8_areInTune_0 : decode cX8_areInTune 0 = .ok (.aload_n 0, 1) := by decide +kernel
theorem dX8_areInTune_1 : decode cX8_areInTune 1 = .ok (.getfield 16, 3) := by decide +kernel
theorem dX8_areInTune_4 : decode cX8_areInTune 4 = .ok (.iload_n 1, 1) := by decide +kernel
theorem dX8_areInTune_5 : decode cX8_areInTune 5 = .ok (.iaload, 1) := by decide +kernel
theorem dX8_areInTune_6 : decode cX8_areInTune 6 = .ok (.aload_n 0, 1) := by decide +kernel
theorem dX8_areInTune_7 : decode cX8_areInTune 7 = .ok (.getfield 16, 3) := by decide +kernel
theorem dX8_areInTune_10 : decode cX8_areInTune 10 = .ok (.iload_n 2, 1) := by decide +kernel
theorem dX8_areInTune_11 : decode cX8_areInTune 11 = .ok (.iaload, 1) := by decide +kernel
theorem dX8_areInTune_12 : decode cX8_areInTune 12 = .ok (.invokestatic 213, 3) := by decide +kernel
theorem dX8_areInTune_15 : decode cX8_areInTune 15 = .ok (.iload_n 3, 1) := by decide +kernel
theorem dX8_areInTune_16 : decode cX8_areInTune 16 = .ok (.if_icmp .gt 7, 3) := by decide +kernel
theorem dX8_areInTune_19 : decode cX8_areInTune 19 = .ok (.iconst 1, 1) := by decide +kernel
theorem dX8_areInTune_20 : decode cX8_areInTune 20 = .ok (.goto 4, 3) := by decide +kernel
theorem dX8_areInTune_23 : decode cX8_areInTune 23 = .ok (.iconst 0, 1) := by decide +kernel
theorem dX8_areInTune_24 : decode cX8_areInTune 24 = .ok (.ireturn, 1) := by decide +kernel
theorem dX8_pairs_0 : decode cX8_pairs 0 = .ok (.iload_n 1, 1) := by decide +kernel
theorem dX8_pairs_1 : decode cX8_pairs 1 = .ok (.i2l, 1) := by decide +kernel
theorem dX8_pairs_2 : decode cX8_pairs 2 = .ok (.lconst 0, 1) := by decide +kernel
theorem dX8_pairs_3 : decode cX8_pairs 3 = .ok (.ldc2_w 211, 3) := by decide +kernel
theorem dX8_pairs_6 : decode cX8_pairs 6 = .ok (.invokestatic 86, 3) := by decide +kernel
theorem dX8_pairs_9 : decode cX8_pairs 9 = .ok (.ifCond .ne 5, 3) := by decide +kernel
theorem dX8_pairs_12 : decode cX8_pairs 12 = .ok (.iconst (-1), 1) := by decide +kernel
theorem dX8_pairs_13 : decode cX8_pairs 13 = .ok (.ireturn, 1) := by decide +kernel
theorem dX8_pairs_14 : decode cX8_pairs 14 = .ok (.iconst 0, 1) := by decide +kernel
theorem dX8_pairs_15 : decode cX8_pairs 15 = .ok (.istore_n 2, 1) := by decide +kernel
theorem dX8_pairs_16 : decode cX8_pairs 16 = .ok (.aload_n 0, 1) := by decide +kernel
theorem dX8_pairs_17 : decode cX8_pairs 17 = .ok (.bipush (-9), 2) := by decide +kernel
theorem dX8_pairs_19 : decode cX8_pairs 19 = .ok (.putfield 81, 3) := by decide +kernel
theorem dX8_pairs_22 : decode cX8_pairs 22 = .ok (.iconst 0, 1) := by decide +kernel
theorem dX8_pairs_23 : decode cX8_pairs 23 = .ok (.istore_n 3, 1) := by decide +kernel
theorem dX8_pairs_24 : decode cX8_pairs 24 = .ok (.iload_n 3, 1) := by decide +kernel
theorem dX8_pairs_25 : decode cX8_pairs 25 = .ok (.aload_n 0, 1) := by decide +kernel
theorem dX8_pairs_26 : decode cX8_pairs 26 = .ok (.getfield 156, 3) := by decide +kernel
theorem dX8_pairs_29 : decode cX8_pairs 29 = .ok (.if_icmp .ge 80, 3) := by decide +kernel
theorem dX8_pairs_32 : decode cX8_pairs 32 = .ok (.iload_n 3, 1) := by decide +kernel
theorem dX8_pairs_33 : decode cX8_pairs 33 = .ok (.iconst 1, 1) := by decide +kernel
theorem dX8_pairs_34 : decode cX8_pairs 34 = .ok (.iadd, 1) := by decide +kernel
theorem dX8_pairs_35 : decode cX8_pairs 35 = .ok (.istore 4, 2) := by decide +kernel
theorem dX8_pairs_37 : decode cX8_pairs 37 = .ok (.iload 4, 2) := by decide +kernel
theorem dX8_pairs_39 : decode cX8_pairs 39 = .ok (.aload_n 0, 1) := by decide +kernel
theorem dX8_pairs_40 : decode cX8_pairs 40 = .ok (.getfield 156, 3) := by decide +kernel
theorem dX8_pairs_43 : decode cX8_pairs 43 = .ok (.if_icmp .ge 60, 3) := by decide +kernel
theorem dX8_pairs_46 : decode cX8_pairs 46 = .ok (.aload_n 0, 1) := by decide +kernel
theorem dX8_pairs_47 : decode cX8_pairs 47 = .ok (.aload_n 0, 1) := by decide +kernel
theorem dX8_pairs_48 : decode cX8_pairs 48 = .ok (.iload_n 3, 1) := by decide +kernel
theorem dX8_pairs_49 : decode cX8_pairs 49 = .ok (.iload 4, 2) := by decide +kernel
theorem dX8_pairs_51 : decode cX8_pairs 51 = .ok (.iload_n 1, 1) := by decide +kernel
theorem dX8_pairs_52 : decode cX8_pairs 52 = .ok (.invokevirtual 278, 3) := by decide +kernel
theorem dX8_pairs_55 : decode cX8_pairs 55 = .ok (.ifCond .eq 16, 3) := by decide +kernel
theorem dX8_pairs_58 : decode cX8_pairs 58 = .ok (.iload_n 2, 1) := by decide +kernel
theorem dX8_pairs_59 : decode cX8_pairs 59 = .ok (.ifCond .ne 12, 3) := by decide +kernel
theorem dX8_pairs_62 : decode cX8_pairs 62 = .ok (.iconst 5, 1) := by decide +kernel
theorem dX8_pairs_63 : decode cX8_pairs 63 = .ok (.iload_n 3, 1) := by decide +kernel
theorem dX8_pairs_64 : decode cX8_pairs 64 = .ok (.imul, 1) := by decide +kernel
theorem dX8_pairs_65 : decode cX8_pairs 65 = .ok (.iload 4, 2) := by decide +kernel
theorem dX8_pairs_67 : decode cX8_pairs 67 = .ok (.iadd, 1) := by decide +kernel
theorem dX8_pairs_68 : decode cX8_pairs 68 = .ok (.goto 7, 3) := by decide +kernel
theorem dX8_pairs_71 : decode cX8_pairs 71 = .ok (.aload_n 0, 1) := by decide +kernel
theorem dX8_pairs_72 : decode cX8_pairs 72 = .ok (.getfield 81, 3) := by decide +kernel
theorem dX8_pairs_75 : decode cX8_pairs 75 = .ok (.putfield 81, 3) := by decide +kernel
theorem dX8_pairs_78 : decode cX8_pairs 78 = .ok (.iload_n 2, 1) := by decide +kernel
theorem dX8_pairs_79 : decode cX8_pairs 79 = .ok (.aload_n 0, 1) := by decide +kernel
theorem dX8_pairs_80 : decode cX8_pairs 80 = .ok (.iload_n 3, 1) := by decide +kernel
theorem dX8_pairs_81 : decode cX8_pairs 81 = .ok (.iload 4, 2) := by decide +kernel
theorem dX8_pairs_83 : decode cX8_pairs 83 = .ok (.iload_n 1, 1) := by decide +kernel
theorem dX8_pairs_84 : decode cX8_pairs 84 = .ok (.invokevirtual 278, 3) := by decide +kernel
theorem dX8_pairs_87 : decode cX8_pairs 87 = .ok (.ifCond .eq 7, 3) := by decide +kernel
theorem dX8_pairs_90 : decode cX8_pairs 90 = .ok (.iconst 1, 1) := by decide +kernel
theorem dX8_pairs_91 : decode cX8_pairs 91 = .ok (.goto 4, 3) := by decide +kernel
theorem dX8_pairs_94 : decode cX8_pairs 94 = .ok (.iconst 0, 1) := by decide +kernel
theorem dX8_pairs_95 : decode cX8_pairs 95 = .ok (.iadd, 1) := by decide +kernel
theorem dX8_pairs_96 : decode cX8_pairs 96 = .ok (.istore_n 2, 1) := by decide +kernel
theorem dX8_pairs_97 : decode cX8_pairs 97 = .ok (.iinc 4 1, 3) := by decide +kernel
theorem dX8_pairs_100 : decode cX8_pairs 100 = .ok (.goto (-63), 3) := by decide +kernel
theorem dX8_pairs_103 : decode cX8_pairs 103 = .ok (.iinc 3 1, 3) := by decide +kernel
theorem dX8_pairs_106 : decode cX8_pairs 106 = .ok (.goto (-82), 3) := by decide +kernel
theorem dX8_pairs_109 : decode cX8_pairs 109 = .ok (.iload_n 2, 1) := by decide +kernel
theorem dX8_pairs_110 : decode cX8_pairs 110 = .ok (.ireturn, 1) := by decide +kernel
theorem dX8_isChoir_0 : decode cX8_isChoir 0 = .ok (.iconst 1, 1) := by decide +kernel
theorem dX8_isChoir_1 : decode cX8_isChoir 1 = .ok (.istore_n 3, 1) := by decide +kernel
theorem dX8_isChoir_2 : decode cX8_isChoir 2 = .ok (.iconst 0, 1) := by decide +kernel
theorem dX8_isChoir_3 : decode cX8_isChoir 3 = .ok (.istore 4, 2) := by decide +kernel
theorem dX8_isChoir_5 : decode cX8_isChoir 5 = .ok (.iload 4, 2) := by decide +kernel
theorem dX8_isChoir_7 : decode cX8_isChoir 7 = .ok (.aload_n 0, 1) := by decide +kernel
theorem dX8_isChoir_8 : decode cX8_isChoir 8 = .ok (.getfield 156, 3) := by decide +kernel
theorem dX8_isChoir_11 : decode cX8_isChoir 11 = .ok (.if_icmp .ge 65, 3) := by decide +kernel
theorem dX8_isChoir_14 : decode cX8_isChoir 14 = .ok (.iconst 0, 1) := by decide +kernel
theorem dX8_isChoir_15 : decode cX8_isChoir 15 = .ok (.istore 5, 2) := by decide +kernel
theorem dX8_isChoir_17 : decode cX8_isChoir 17 = .ok (.iload 5, 2) := by decide +kernel
theorem dX8_isChoir_19 : decode cX8_isChoir 19 = .ok (.iload 4, 2) := by decide +kernel
theorem dX8_isChoir_21 : decode cX8_isChoir 21 = .ok (.if_icmp .ge 49, 3) := by decide +kernel
theorem dX8_isChoir_24 : decode cX8_isChoir 24 = .ok (.iload_n 3, 1) := by decide +kernel
theorem dX8_isChoir_25 : decode cX8_isChoir 25 = .ok (.ifCond .eq 37, 3) := by decide +kernel
theorem dX8_isChoir_28 : decode cX8_isChoir 28 = .ok (.iload_n 1, 1) := by decide +kernel
theorem dX8_isChoir_29 : decode cX8_isChoir 29 = .ok (.iload 4, 2) := by decide +kernel
theorem dX8_isChoir_31 : decode cX8_isChoir 31 = .ok (.invokestatic 174, 3) := by decide +kernel
theorem dX8_isChoir_34 : decode cX8_isChoir 34 = .ok (.ifCond .eq 24, 3) := by decide +kernel
theorem dX8_isChoir_37 : decode cX8_isChoir 37 = .ok (.iload_n 1, 1) := by decide +kernel
theorem dX8_isChoir_38 : decode cX8_isChoir 38 = .ok (.iload 5, 2) := by decide +kernel
theorem dX8_isChoir_40 : decode cX8_isChoir 40 = .ok (.invokestatic 174, 3) := by decide +kernel
theorem dX8_isChoir_43 : decode cX8_isChoir 43 = .ok (.ifCond .eq 15, 3) := by decide +kernel
theorem dX8_isChoir_46 : decode cX8_isChoir 46 = .ok (.aload_n 0, 1) := by decide +kernel
theorem dX8_isChoir_47 : decode cX8_isChoir 47 = .ok (.iload 4, 2) := by decide +kernel
theorem dX8_isChoir_49 : decode cX8_isChoir 49 = .ok (.iload 5, 2) := by decide +kernel
theorem dX8_isChoir_51 : decode cX8_isChoir 51 = .ok (.iload_n 2, 1) := by decide +kernel
theorem dX8_isChoir_52 : decode cX8_isChoir 52 = .ok (.invokevirtual 278, 3) := by decide +kernel
theorem dX8_isChoir_55 : decode cX8_isChoir 55 = .ok (.ifCond .eq 7, 3) := by decide +kernel
theorem dX8_isChoir_58 : decode cX8_isChoir 58 = .ok (.iconst 1, 1) := by decide +kernel
theorem dX8_isChoir_59 : decode cX8_isChoir 59 = .ok (.goto 4, 3) := by decide +kernel
theorem dX8_isChoir_62 : decode cX8_isChoir 62 = .ok (.iconst 0, 1) := by decide +kernel
theorem dX8_isChoir_63 : decode cX8_isChoir 63 = .ok (.istore_n 3, 1) := by decide +kernel
theorem dX8_isChoir_64 : decode cX8_isChoir 64 = .ok (.iinc 5 1, 3) := by decide +kernel
theorem dX8_isChoir_67 : decode cX8_isChoir 67 = .ok (.goto (-50), 3) := by decide +kernel
theorem dX8_isChoir_70 : decode cX8_isChoir 70 = .ok (.iinc 4 1, 3) := by decide +kernel
theorem dX8_isChoir_73 : decode cX8_isChoir 73 = .ok (.goto (-68), 3) := by decide +kernel
theorem dX8_isChoir_76 : decode cX8_isChoir 76 = .ok (.iload_n 3, 1) := by decide +kernel
theorem dX8_isChoir_77 : decode cX8_isChoir 77 = .ok (.ireturn, 1) := by decide +kernel
theorem dX8_choir_0 : decode cX8_choir 0 = .ok (.iload_n 1, 1) := by decide +kernel
theorem dX8_choir_1 : decode cX8_choir 1 = .ok (.i2l, 1) := by decide +kernel
theorem dX8_choir_2 : decode cX8_choir 2 = .ok (.lconst 0, 1) := by decide +kernel
theorem dX8_choir_3 : decode cX8_choir 3 = .ok (.ldc2_w 211, 3) := by decide +kernel
theorem dX8_choir_6 : decode cX8_choir 6 = .ok (.invokestatic 86, 3) := by decide +kernel
theorem dX8_choir_9 : decode cX8_choir 9 = .ok (.ifCond .ne 5, 3) := by decide +kernel
theorem dX8_choir_12 : decode cX8_choir 12 = .ok (.iconst (-1), 1) := by decide +kernel
theorem dX8_choir_13 : decode cX8_choir 13 = .ok (.ireturn, 1) := by decide +kernel
theorem dX8_choir_14 : decode cX8_choir 14 = .ok (.aload_n 0, 1) := by decide +kernel
theorem dX8_choir_15 : decode cX8_choir 15 = .ok (.getfield 156, 3) := by decide +kernel
theorem dX8_choir_18 : decode cX8_choir 18 = .ok (.ifCond .ne 6, 3) := by decide +kernel
theorem dX8_choir_21 : decode cX8_choir 21 = .ok (.bipush (-4), 2) := by decide +kernel
theorem dX8_choir_23 : decode cX8_choir 23 = .ok (.ireturn, 1) := by decide +kernel
theorem dX8_choir_24 : decode cX8_choir 24 = .ok (.iconst 0, 1) := by decide +kernel
theorem dX8_choir_25 : decode cX8_choir 25 = .ok (.istore_n 2, 1) := by decide +kernel
theorem dX8_choir_26 : decode cX8_choir 26 = .ok (.iconst 1, 1) := by decide +kernel
theorem dX8_choir_27 : decode cX8_choir 27 = .ok (.istore_n 3, 1) := by decide +kernel
theorem dX8_choir_28 : decode cX8_choir 28 = .ok (.iload_n 3, 1) := by decide +kernel
theorem dX8_choir_29 : decode cX8_choir 29 = .ok (.iconst 1, 1) := by decide +kernel
theorem dX8_choir_30 : decode cX8_choir 30 = .ok (.aload_n 0, 1) := by decide +kernel
theorem dX8_choir_31 : decode cX8_choir 31 = .ok (.getfield 156, 3) := by decide +kernel
theorem dX8_choir_34 : decode cX8_choir 34 = .ok (.ishl, 1) := by decide +kernel
theorem dX8_choir_35 : decode cX8_choir 35 = .ok (.if_icmp .ge 35, 3) := by decide +kernel
theorem dX8_choir_38 : decode cX8_choir 38 = .ok (.iload_n 3, 1) := by decide +kernel
theorem dX8_choir_39 : decode cX8_choir 39 = .ok (.invokestatic 238, 3) := by decide +kernel
theorem dX8_choir_42 : decode cX8_choir 42 = .ok (.iload_n 2, 1) := by decide +kernel
theorem dX8_choir_43 : decode cX8_choir 43 = .ok (.invokestatic 238, 3) := by decide +kernel
theorem dX8_choir_46 : decode cX8_choir 46 = .ok (.if_icmp .le 16, 3) := by decide +kernel
theorem dX8_choir_49 : decode cX8_choir 49 = .ok (.aload_n 0, 1) := by decide +kernel
theorem dX8_choir_50 : decode cX8_choir 50 = .ok (.iload_n 3, 1) := by decide +kernel
theorem dX8_choir_51 : decode cX8_choir 51 = .ok (.iload_n 1, 1) := by decide +kernel
theorem dX8_choir_52 : decode cX8_choir 52 = .ok (.invokevirtual 281, 3) := by decide +kernel
theorem dX8_choir_55 : decode cX8_choir 55 = .ok (.ifCond .eq 7, 3) := by decide +kernel
theorem dX8_choir_58 : decode cX8_choir 58 = .ok (.iload_n 3, 1) := by decide +kernel
theorem dX8_choir_59 : decode cX8_choir 59 = .ok (.goto 4, 3) := by decide +kernel
theorem dX8_choir_62 : decode cX8_choir 62 = .ok (.iload_n 2, 1) := by decide +kernel
theorem dX8_choir_63 : decode cX8_choir 63 = .ok (.istore_n 2, 1) := by decide +kernel
theorem dX8_choir_64 : decode cX8_choir 64 = .ok (.iinc 3 1, 3) := by decide +kernel
theorem dX8_choir_67 : decode cX8_choir 67 = .ok (.goto (-39), 3) := by decide +kernel
theorem dX8_choir_70 : decode cX8_choir 70 = .ok (.aload_n 0, 1) := by decide +kernel
theorem dX8_choir_71 : decode cX8_choir 71 = .ok (.iload_n 2, 1) := by decide +kernel
theorem dX8_choir_72 : decode cX8_choir 72 = .ok (.putfield 81, 3) := by decide +kernel
theorem dX8_choir_75 : decode cX8_choir 75 = .ok (.iload_n 2, 1) := by decide +kernel
theorem dX8_choir_76 : decode cX8_choir 76 = .ok (.invokestatic 238, 3) := by decide +kernel
theorem dX8_choir_79 : decode cX8_choir 79 = .ok (.ireturn, 1) := by decide +kernel
theorem dX8_loose_0 : decode cX8_loose 0 = .ok (.iload_n 1, 1) := by decide +kernel
theorem dX8_loose_1 : decode cX8_loose 1 = .ok (.i2l, 1) := by decide +kernel
theorem dX8_loose_2 : decode cX8_loose 2 = .ok (.lconst 0, 1) := by decide +kernel
theorem dX8_loose_3 : decode cX8_loose 3 = .ok (.ldc2_w 211, 3) := by decide +kernel
theorem dX8_loose_6 : decode cX8_loose 6 = .ok (.invokestatic 86, 3) := by decide +kernel
theorem dX8_loose_9 : decode cX8_loose 9 = .ok (.ifCond .eq 27, 3) := by decide +kernel
theorem dX8_loose_12 : decode cX8_loose 12 = .ok (.iload_n 2, 1) := by decide +kernel
theorem dX8_loose_13 : decode cX8_loose 13 = .ok (.i2l, 1) := by decide +kernel
theorem dX8_loose_14 : decode cX8_loose 14 = .ok (.lconst 1, 1) := by decide +kernel
theorem dX8_loose_15 : decode cX8_loose 15 = .ok (.ldc2_w 211, 3) := by decide +kernel
theorem dX8_loose_18 : decode cX8_loose 18 = .ok (.invokestatic 86, 3) := by decide +kernel
theorem dX8_loose_21 : decode cX8_loose 21 = .ok (.ifCond .eq 15, 3) := by decide +kernel
theorem dX8_loose_24 : decode cX8_loose 24 = .ok (.iload_n 3, 1) := by decide +kernel
theorem dX8_loose_25 : decode cX8_loose 25 = .ok (.i2l, 1) := by decide +kernel
theorem dX8_loose_26 : decode cX8_loose 26 = .ok (.lconst 0, 1) := by decide +kernel
theorem dX8_loose_27 : decode cX8_loose 27 = .ok (.ldc2_w 284, 3) := by decide +kernel
theorem dX8_loose_30 : decode cX8_loose 30 = .ok (.invokestatic 86, 3) := by decide +kernel
theorem dX8_loose_33 : decode cX8_loose 33 = .ok (.ifCond .ne 5, 3) := by decide +kernel
theorem dX8_loose_36 : decode cX8_loose 36 = .ok (.iconst (-1), 1) := by decide +kernel
theorem dX8_loose_37 : decode cX8_loose 37 = .ok (.ireturn, 1) := by decide +kernel
theorem dX8_loose_38 : decode cX8_loose 38 = .ok (.iconst 0, 1) := by decide +kernel
theorem dX8_loose_39 : decode cX8_loose 39 = .ok (.istore 4, 2) := by decide +kernel
theorem dX8_loose_41 : decode cX8_loose 41 = .ok (.iconst 0, 1) := by decide +kernel
theorem dX8_loose_42 : decode cX8_loose 42 = .ok (.istore 5, 2) := by decide +kernel
theorem dX8_loose_44 : decode cX8_loose 44 = .ok (.iload 5, 2) := by decide +kernel
theorem dX8_loose_46 : decode cX8_loose 46 = .ok (.iload_n 3, 1) := by decide +kernel
theorem dX8_loose_47 : decode cX8_loose 47 = .ok (.if_icmp .gt 63, 3) := by decide +kernel
theorem dX8_loose_50 : decode cX8_loose 50 = .ok (.iload 5, 2) := by decide +kernel
theorem dX8_loose_52 : decode cX8_loose 52 = .ok (.iload_n 2, 1) := by decide +kernel
theorem dX8_loose_53 : decode cX8_loose 53 = .ok (.if_icmp .ge 57, 3) := by decide +kernel
theorem dX8_loose_56 : decode cX8_loose 56 = .ok (.iconst 0, 1) := by decide +kernel
theorem dX8_loose_57 : decode cX8_loose 57 = .ok (.istore 6, 2) := by decide +kernel
theorem dX8_loose_59 : decode cX8_loose 59 = .ok (.iload 6, 2) := by decide +kernel
theorem dX8_loose_61 : decode cX8_loose 61 = .ok (.aload_n 0, 1) := by decide +kernel
theorem dX8_loose_62 : decode cX8_loose 62 = .ok (.getfield 159, 3) := by decide +kernel
theorem dX8_loose_65 : decode cX8_loose 65 = .ok (.if_icmp .ge 39, 3) := by decide +kernel
theorem dX8_loose_68 : decode cX8_loose 68 = .ok (.iload 4, 2) := by decide +kernel
theorem dX8_loose_70 : decode cX8_loose 70 = .ok (.aload_n 0, 1) := by decide +kernel
theorem dX8_loose_71 : decode cX8_loose 71 = .ok (.getfield 19, 3) := by decide +kernel
theorem dX8_loose_74 : decode cX8_loose 74 = .ok (.iload 6, 2) := by decide +kernel
theorem dX8_loose_76 : decode cX8_loose 76 = .ok (.iaload, 1) := by decide +kernel
theorem dX8_loose_77 : decode cX8_loose 77 = .ok (.iload_n 1, 1) := by decide +kernel
theorem dX8_loose_78 : decode cX8_loose 78 = .ok (.iload 5, 2) := by decide +kernel
theorem dX8_loose_80 : decode cX8_loose 80 = .ok (.iadd, 1) := by decide +kernel
theorem dX8_loose_81 : decode cX8_loose 81 = .ok (.bipush 10, 2) := by decide +kernel
theorem dX8_loose_83 : decode cX8_loose 83 = .ok (.irem, 1) := by decide +kernel
theorem dX8_loose_84 : decode cX8_loose 84 = .ok (.if_icmp .ne 10, 3) := by decide +kernel
theorem dX8_loose_87 : decode cX8_loose 87 = .ok (.iconst 1, 1) := by decide +kernel
theorem dX8_loose_88 : decode cX8_loose 88 = .ok (.iload 6, 2) := by decide +kernel
theorem dX8_loose_90 : decode cX8_loose 90 = .ok (.ishl, 1) := by decide +kernel
theorem dX8_loose_91 : decode cX8_loose 91 = .ok (.goto 4, 3) := by decide +kernel
theorem dX8_loose_94 : decode cX8_loose 94 = .ok (.iconst 0, 1) := by decide +kernel
theorem dX8_loose_95 : decode cX8_loose 95 = .ok (.ior, 1) := by decide +kernel
theorem dX8_loose_96 : decode cX8_loose 96 = .ok (.istore 4, 2) := by decide +kernel
theorem dX8_loose_98 : decode cX8_loose 98 = .ok (.iinc 6 1, 3) := by decide +kernel
theorem dX8_loose_101 : decode cX8_loose 101 = .ok (.goto (-42), 3) := by decide +kernel
theorem dX8_loose_104 : decode cX8_loose 104 = .ok (.iinc 5 1, 3) := by decide +kernel
theorem dX8_loose_107 : decode cX8_loose 107 = .ok (.goto (-63), 3) := by decide +kernel
theorem dX8_loose_110 : decode cX8_loose 110 = .ok (.iload 4, 2) := by decide +kernel
theorem dX8_loose_112 : decode cX8_loose 112 = .ok (.ireturn, 1) := by decide +kernel
theorem dX8_noPairs_0 : decode cX8_noPairs 0 = .ok (.aload_n 0, 1) := by decide +kernel
theorem dX8_noPairs_1 : decode cX8_noPairs 1 = .ok (.getfield 28, 3) := by decide +kernel
theorem dX8_noPairs_4 : decode cX8_noPairs 4 = .ok (.iload_n 1, 1) := by decide +kernel
theorem dX8_noPairs_5 : decode cX8_noPairs 5 = .ok (.iaload, 1) := by decide +kernel
theorem dX8_noPairs_6 : decode cX8_noPairs 6 = .ok (.ifCond .ge 9, 3) := by decide +kernel
theorem dX8_noPairs_9 : decode cX8_noPairs 9 = .ok (.aload_n 0, 1) := by decide +kernel
theorem dX8_noPairs_10 : decode cX8_noPairs 10 = .ok (.iconst 1, 1) := by decide +kernel
theorem dX8_noPairs_11 : decode cX8_noPairs 11 = .ok (.invokevirtual 96, 3) := by decide +kernel
theorem dX8_noPairs_14 : decode cX8_noPairs 14 = .ok (.ireturn, 1) := by decide +kernel
theorem dX8_noPairs_15 : decode cX8_noPairs 15 = .ok (.aload_n 0, 1) := by decide +kernel
theorem dX8_noPairs_16 : decode cX8_noPairs 16 = .ok (.getfield 28, 3) := by decide +kernel
theorem dX8_noPairs_19 : decode cX8_noPairs 19 = .ok (.iload_n 1, 1) := by decide +kernel
theorem dX8_noPairs_20 : decode cX8_noPairs 20 = .ok (.iaload, 1) := by decide +kernel
theorem dX8_noPairs_21 : decode cX8_noPairs 21 = .ok (.iconst 2, 1) := by decide +kernel
theorem dX8_noPairs_22 : decode cX8_noPairs 22 = .ok (.irem, 1) := by decide +kernel
theorem dX8_noPairs_23 : decode cX8_noPairs 23 = .ok (.ifCond .ne 14, 3) := by decide +kernel
theorem dX8_noPairs_26 : decode cX8_noPairs 26 = .ok (.aload_n 0, 1) := by decide +kernel
theorem dX8_noPairs_27 : decode cX8_noPairs 27 = .ok (.getfield 28, 3) := by decide +kernel
theorem dX8_noPairs_30 : decode cX8_noPairs 30 = .ok (.iload_n 1, 1) := by decide +kernel
theorem dX8_noPairs_31 : decode cX8_noPairs 31 = .ok (.iaload, 1) := by decide +kernel
theorem dX8_noPairs_32 : decode cX8_noPairs 32 = .ok (.bipush 12, 2) := by decide +kernel
theorem dX8_noPairs_34 : decode cX8_noPairs 34 = .ok (.if_icmp .le 9, 3) := by decide +kernel
theorem dX8_noPairs_37 : decode cX8_noPairs 37 = .ok (.aload_n 0, 1) := by decide +kernel
theorem dX8_noPairs_38 : decode cX8_noPairs 38 = .ok (.iconst 5, 1) := by decide +kernel
theorem dX8_noPairs_39 : decode cX8_noPairs 39 = .ok (.invokevirtual 96, 3) := by decide +kernel
theorem dX8_noPairs_42 : decode cX8_noPairs 42 = .ok (.ireturn, 1) := by decide +kernel
theorem dX8_noPairs_43 : decode cX8_noPairs 43 = .ok (.iconst 1, 1) := by decide +kernel
theorem dX8_noPairs_44 : decode cX8_noPairs 44 = .ok (.istore_n 2, 1) := by decide +kernel
theorem dX8_noPairs_45 : decode cX8_noPairs 45 = .ok (.bipush 40, 2) := by decide +kernel
theorem dX8_noPairs_47 : decode cX8_noPairs 47 = .ok (.iload_n 1, 1) := by decide +kernel
theorem dX8_noPairs_48 : decode cX8_noPairs 48 = .ok (.imul, 1) := by decide +kernel
theorem dX8_noPairs_49 : decode cX8_noPairs 49 = .ok (.istore_n 3, 1) := by decide +kernel
theorem dX8_noPairs_50 : decode cX8_noPairs 50 = .ok (.iload_n 3, 1) := by decide +kernel
theorem dX8_noPairs_51 : decode cX8_noPairs 51 = .ok (.bipush 40, 2) := by decide +kernel
theorem dX8_noPairs_53 : decode cX8_noPairs 53 = .ok (.iload_n 1, 1) := by decide +kernel
theorem dX8_noPairs_54 : decode cX8_noPairs 54 = .ok (.imul, 1) := by decide +kernel
theorem dX8_noPairs_55 : decode cX8_noPairs 55 = .ok (.aload_n 0, 1) := by decide +kernel
theorem dX8_noPairs_56 : decode cX8_noPairs 56 = .ok (.getfield 28, 3) := by decide +kernel
theorem dX8_noPairs_59 : decode cX8_noPairs 59 = .ok (.iload_n 1, 1) := by decide +kernel
theorem dX8_noPairs_60 : decode cX8_noPairs 60 = .ok (.iaload, 1) := by decide +kernel
theorem dX8_noPairs_61 : decode cX8_noPairs 61 = .ok (.iadd, 1) := by decide +kernel
theorem dX8_noPairs_62 : decode cX8_noPairs 62 = .ok (.if_icmp .ge 51, 3) := by decide +kernel
theorem dX8_noPairs_65 : decode cX8_noPairs 65 = .ok (.iload_n 2, 1) := by decide +kernel
theorem dX8_noPairs_66 : decode cX8_noPairs 66 = .ok (.ifCond .eq 39, 3) := by decide +kernel
theorem dX8_noPairs_69 : decode cX8_noPairs 69 = .ok (.aload_n 0, 1) := by decide +kernel
theorem dX8_noPairs_70 : decode cX8_noPairs 70 = .ok (.aload_n 0, 1) := by decide +kernel
theorem dX8_noPairs_71 : decode cX8_noPairs 71 = .ok (.getfield 31, 3) := by decide +kernel
theorem dX8_noPairs_74 : decode cX8_noPairs 74 = .ok (.iload_n 3, 1) := by decide +kernel
theorem dX8_noPairs_75 : decode cX8_noPairs 75 = .ok (.iaload, 1) := by decide +kernel
theorem dX8_noPairs_76 : decode cX8_noPairs 76 = .ok (.invokevirtual 195, 3) := by decide +kernel
theorem dX8_noPairs_79 : decode cX8_noPairs 79 = .ok (.ifCond .eq 26, 3) := by decide +kernel
theorem dX8_noPairs_82 : decode cX8_noPairs 82 = .ok (.aload_n 0, 1) := by decide +kernel
theorem dX8_noPairs_83 : decode cX8_noPairs 83 = .ok (.getfield 31, 3) := by decide +kernel
theorem dX8_noPairs_86 : decode cX8_noPairs 86 = .ok (.iload_n 3, 1) := by decide +kernel
theorem dX8_noPairs_87 : decode cX8_noPairs 87 = .ok (.iconst 1, 1) := by decide +kernel
theorem dX8_noPairs_88 : decode cX8_noPairs 88 = .ok (.iadd, 1) := by decide +kernel
theorem dX8_noPairs_89 : decode cX8_noPairs 89 = .ok (.iaload, 1) := by decide +kernel
theorem dX8_noPairs_90 : decode cX8_noPairs 90 = .ok (.i2l, 1) := by decide +kernel
theorem dX8_noPairs_91 : decode cX8_noPairs 91 = .ok (.lconst 0, 1) := by decide +kernel
theorem dX8_noPairs_92 : decode cX8_noPairs 92 = .ok (.ldc2_w 211, 3) := by decide +kernel
theorem dX8_noPairs_95 : decode cX8_noPairs 95 = .ok (.invokestatic 86, 3) := by decide +kernel
theorem dX8_noPairs_98 : decode cX8_noPairs 98 = .ok (.ifCond .eq 7, 3) := by decide +kernel
theorem dX8_noPairs_101 : decode cX8_noPairs 101 = .ok (.iconst 1, 1) := by decide +kernel
theorem dX8_noPairs_102 : decode cX8_noPairs 102 = .ok (.goto 4, 3) := by decide +kernel
theorem dX8_noPairs_105 : decode cX8_noPairs 105 = .ok (.iconst 0, 1) := by decide +kernel
theorem dX8_noPairs_106 : decode cX8_noPairs 106 = .ok (.istore_n 2, 1) := by decide +kernel
theorem dX8_noPairs_107 : decode cX8_noPairs 107 = .ok (.iinc 3 2, 3) := by decide +kernel
theorem dX8_noPairs_110 : decode cX8_noPairs 110 = .ok (.goto (-60), 3) := by decide +kernel
theorem dX8_noPairs_113 : decode cX8_noPairs 113 = .ok (.iload_n 2, 1) := by decide +kernel
theorem dX8_noPairs_114 : decode cX8_noPairs 114 = .ok (.ifCond .eq 7, 3) := by decide +kernel
theorem dX8_noPairs_117 : decode cX8_noPairs 117 = .ok (.iconst 0, 1) := by decide +kernel
theorem dX8_noPairs_118 : decode cX8_noPairs 118 = .ok (.goto 8, 3) := by decide +kernel
theorem dX8_noPairs_121 : decode cX8_noPairs 121 = .ok (.aload_n 0, 1) := by decide +kernel
theorem dX8_noPairs_122 : decode cX8_noPairs 122 = .ok (.iconst 3, 1) := by decide +kernel
theorem dX8_noPairs_123 : decode cX8_noPairs 123 = .ok (.invokevirtual 96, 3) := by decide +kernel
theorem dX8_noPairs_126 : decode cX8_noPairs 126 = .ok (.ireturn, 1) := by decide +kernel
theorem dX8_isSo_0 : decode cX8_isSo 0 = .ok (.iload_n 3, 1) := by decide +kernel
theorem dX8_isSo_1 : decode cX8_isSo 1 = .ok (.istore 4, 2) := by decide +kernel
theorem dX8_isSo_3 : decode cX8_isSo 3 = .ok (.iconst 1, 1) := by decide +kernel
theorem dX8_isSo_4 : decode cX8_isSo 4 = .ok (.istore 5, 2) := by decide +kernel
theorem dX8_isSo_6 : decode cX8_isSo 6 = .ok (.bipush 40, 2) := by decide +kernel
theorem dX8_isSo_8 : decode cX8_isSo 8 = .ok (.iload_n 1, 1) := by decide +kernel
theorem dX8_isSo_9 : decode cX8_isSo 9 = .ok (.imul, 1) := by decide +kernel
theorem dX8_isSo_10 : decode cX8_isSo 10 = .ok (.istore 6, 2) := by decide +kernel
theorem dX8_isSo_12 : decode cX8_isSo 12 = .ok (.iload 6, 2) := by decide +kernel
theorem dX8_isSo_14 : decode cX8_isSo 14 = .ok (.bipush 40, 2) := by decide +kernel
theorem dX8_isSo_16 : decode cX8_isSo 16 = .ok (.iload_n 1, 1) := by decide +kernel
theorem dX8_isSo_17 : decode cX8_isSo 17 = .ok (.imul, 1) := by decide +kernel
theorem dX8_isSo_18 : decode cX8_isSo 18 = .ok (.aload_n 0, 1) := by decide +kernel
theorem dX8_isSo_19 : decode cX8_isSo 19 = .ok (.getfield 28, 3) := by decide +kernel
theorem dX8_isSo_22 : decode cX8_isSo 22 = .ok (.iload_n 1, 1) := by decide +kernel
theorem dX8_isSo_23 : decode cX8_isSo 23 = .ok (.iaload, 1) := by decide +kernel
theorem dX8_isSo_24 : decode cX8_isSo 24 = .ok (.iadd, 1) := by decide +kernel
theorem dX8_isSo_25 : decode cX8_isSo 25 = .ok (.if_icmp .ge 73, 3) := by decide +kernel
theorem dX8_isSo_28 : decode cX8_isSo 28 = .ok (.aload_n 0, 1) := by decide +kernel
theorem dX8_isSo_29 : decode cX8_isSo 29 = .ok (.getfield 22, 3) := by decide +kernel
theorem dX8_isSo_32 : decode cX8_isSo 32 = .ok (.aload_n 0, 1) := by decide +kernel
theorem dX8_isSo_33 : decode cX8_isSo 33 = .ok (.getfield 31, 3) := by decide +kernel
theorem dX8_isSo_36 : decode cX8_isSo 36 = .ok (.iload 6, 2) := by decide +kernel
theorem dX8_isSo_38 : decode cX8_isSo 38 = .ok (.iaload, 1) := by decide +kernel
theorem dX8_isSo_39 : decode cX8_isSo 39 = .ok (.iaload, 1) := by decide +kernel
theorem dX8_isSo_40 : decode cX8_isSo 40 = .ok (.istore 7, 2) := by decide +kernel
theorem dX8_isSo_42 : decode cX8_isSo 42 = .ok (.iload 4, 2) := by decide +kernel
theorem dX8_isSo_44 : decode cX8_isSo 44 = .ok (.iload_n 2, 1) := by decide +kernel
theorem dX8_isSo_45 : decode cX8_isSo 45 = .ok (.iload 7, 2) := by decide +kernel
theorem dX8_isSo_47 : decode cX8_isSo 47 = .ok (.invokestatic 168, 3) := by decide +kernel
theorem dX8_isSo_50 : decode cX8_isSo 50 = .ok (.isub, 1) := by decide +kernel
theorem dX8_isSo_51 : decode cX8_isSo 51 = .ok (.istore 4, 2) := by decide +kernel
theorem dX8_isSo_53 : decode cX8_isSo 53 = .ok (.iload 5, 2) := by decide +kernel
theorem dX8_isSo_55 : decode cX8_isSo 55 = .ok (.ifCond .eq 34, 3) := by decide +kernel
theorem dX8_isSo_58 : decode cX8_isSo 58 = .ok (.iload_n 2, 1) := by decide +kernel
theorem dX8_isSo_59 : decode cX8_isSo 59 = .ok (.iload 7, 2) := by decide +kernel
theorem dX8_isSo_61 : decode cX8_isSo 61 = .ok (.invokestatic 178, 3) := by decide +kernel
theorem dX8_isSo_64 : decode cX8_isSo 64 = .ok (.ifCond .ne 25, 3) := by decide +kernel
theorem dX8_isSo_67 : decode cX8_isSo 67 = .ok (.iload_n 2, 1) := by decide +kernel
theorem dX8_isSo_68 : decode cX8_isSo 68 = .ok (.iload 7, 2) := by decide +kernel
theorem dX8_isSo_70 : decode cX8_isSo 70 = .ok (.invokestatic 168, 3) := by decide +kernel
theorem dX8_isSo_73 : decode cX8_isSo 73 = .ok (.aload_n 0, 1) := by decide +kernel
theorem dX8_isSo_74 : decode cX8_isSo 74 = .ok (.getfield 31, 3) := by decide +kernel
theorem dX8_isSo_77 : decode cX8_isSo 77 = .ok (.iload 6, 2) := by decide +kernel
theorem dX8_isSo_79 : decode cX8_isSo 79 = .ok (.iconst 1, 1) := by decide +kernel
theorem dX8_isSo_80 : decode cX8_isSo 80 = .ok (.iadd, 1) := by decide +kernel
theorem dX8_isSo_81 : decode cX8_isSo 81 = .ok (.iaload, 1) := by decide +kernel
theorem dX8_isSo_82 : decode cX8_isSo 82 = .ok (.if_icmp .ne 7, 3) := by decide +kernel
theorem dX8_isSo_85 : decode cX8_isSo 85 = .ok (.iconst 1, 1) := by decide +kernel
theorem dX8_isSo_86 : decode cX8_isSo 86 = .ok (.goto 4, 3) := by decide +kernel
theorem dX8_isSo_89 : decode cX8_isSo 89 = .ok (.iconst 0, 1) := by decide +kernel
theorem dX8_isSo_90 : decode cX8_isSo 90 = .ok (.istore 5, 2) := by decide +kernel
theorem dX8_isSo_92 : decode cX8_isSo 92 = .ok (.iinc 6 2, 3) := by decide +kernel
theorem dX8_isSo_95 : decode cX8_isSo 95 = .ok (.goto (-83), 3) := by decide +kernel
theorem dX8_isSo_98 : decode cX8_isSo 98 = .ok (.iload 5, 2) := by decide +kernel
theorem dX8_isSo_100 : decode cX8_isSo 100 = .ok (.ifCond .eq 12, 3) := by decide +kernel
theorem dX8_isSo_103 : decode cX8_isSo 103 = .ok (.iload 4, 2) := by decide +kernel
theorem dX8_isSo_105 : decode cX8_isSo 105 = .ok (.ifCond .lt 7, 3) := by decide +kernel
theorem dX8_isSo_108 : decode cX8_isSo 108 = .ok (.iconst 1, 1) := by decide +kernel
theorem dX8_isSo_109 : decode cX8_isSo 109 = .ok (.goto 4, 3) := by decide +kernel
theorem dX8_isSo_112 : decode cX8_isSo 112 = .ok (.iconst 0, 1) := by decide +kernel
theorem dX8_isSo_113 : decode cX8_isSo 113 = .ok (.ireturn, 1) := by decide +kernel
theorem dX8_who_0 : decode cX8_who 0 = .ok (.iload_n 1, 1) := by decide +kernel
theorem dX8_who_1 : decode cX8_who 1 = .ok (.invokestatic 92, 3) := by decide +kernel
theorem dX8_who_4 : decode cX8_who 4 = .ok (.ifCond .ne 5, 3) := by decide +kernel
theorem dX8_who_7 : decode cX8_who 7 = .ok (.iconst (-1), 1) := by decide +kernel
theorem dX8_who_8 : decode cX8_who 8 = .ok (.ireturn, 1) := by decide +kernel
theorem dX8_who_9 : decode cX8_who 9 = .ok (.aload_n 0, 1) := by decide +kernel
theorem dX8_who_10 : decode cX8_who 10 = .ok (.iload_n 1, 1) := by decide +kernel
theorem dX8_who_11 : decode cX8_who 11 = .ok (.invokevirtual 286, 3) := by decide +kernel
theorem dX8_who_14 : decode cX8_who 14 = .ok (.istore_n 2, 1) := by decide +kernel
theorem dX8_who_15 : decode cX8_who 15 = .ok (.iload_n 2, 1) := by decide +kernel
theorem dX8_who_16 : decode cX8_who 16 = .ok (.ifCond .eq 5, 3) := by decide +kernel
theorem dX8_who_19 : decode cX8_who 19 = .ok (.iload_n 2, 1) := by decide +kernel
theorem dX8_who_20 : decode cX8_who 20 = .ok (.ireturn, 1) := by decide +kernel
theorem dX8_who_21 : decode cX8_who 21 = .ok (.iconst 0, 1) := by decide +kernel
theorem dX8_who_22 : decode cX8_who 22 = .ok (.istore_n 3, 1) := by decide +kernel
theorem dX8_who_23 : decode cX8_who 23 = .ok (.iconst 0, 1) := by decide +kernel
theorem dX8_who_24 : decode cX8_who 24 = .ok (.istore 4, 2) := by decide +kernel
theorem dX8_who_26 : decode cX8_who 26 = .ok (.iload 4, 2) := by decide +kernel
theorem dX8_who_28 : decode cX8_who 28 = .ok (.aload_n 0, 1) := by decide +kernel
theorem dX8_who_29 : decode cX8_who 29 = .ok (.getfield 156, 3) := by decide +kernel
theorem dX8_who_32 : decode cX8_who 32 = .ok (.if_icmp .ge 44, 3) := by decide +kernel
theorem dX8_who_35 : decode cX8_who 35 = .ok (.iload_n 3, 1) := by decide +kernel
theorem dX8_who_36 : decode cX8_who 36 = .ok (.aload_n 0, 1) := by decide +kernel
theorem dX8_who_37 : decode cX8_who 37 = .ok (.iload_n 1, 1) := by decide +kernel
theorem dX8_who_38 : decode cX8_who 38 = .ok (.aload_n 0, 1) := by decide +kernel
theorem dX8_who_39 : decode cX8_who 39 = .ok (.getfield 13, 3) := by decide +kernel
theorem dX8_who_42 : decode cX8_who 42 = .ok (.iload 4, 2) := by decide +kernel
theorem dX8_who_44 : decode cX8_who 44 = .ok (.iaload, 1) := by decide +kernel
theorem dX8_who_45 : decode cX8_who 45 = .ok (.aload_n 0, 1) := by decide +kernel
theorem dX8_who_46 : decode cX8_who 46 = .ok (.getfield 7, 3) := by decide +kernel
theorem dX8_who_49 : decode cX8_who 49 = .ok (.iconst 3, 1) := by decide +kernel
theorem dX8_who_50 : decode cX8_who 50 = .ok (.iload 4, 2) := by decide +kernel
theorem dX8_who_52 : decode cX8_who 52 = .ok (.iadd, 1) := by decide +kernel
theorem dX8_who_53 : decode cX8_who 53 = .ok (.iaload, 1) := by decide +kernel
theorem dX8_who_54 : decode cX8_who 54 = .ok (.invokevirtual 289, 3) := by decide +kernel
theorem dX8_who_57 : decode cX8_who 57 = .ok (.ifCond .eq 10, 3) := by decide +kernel
theorem dX8_who_60 : decode cX8_who 60 = .ok (.iconst 1, 1) := by decide +kernel
theorem dX8_who_61 : decode cX8_who 61 = .ok (.iload 4, 2) := by decide +kernel
theorem dX8_who_63 : decode cX8_who 63 = .ok (.ishl, 1) := by decide +kernel
theorem dX8_who_64 : decode cX8_who 64 = .ok (.goto 4, 3) := by decide +kernel
theorem dX8_who_67 : decode cX8_who 67 = .ok (.iconst 0, 1) := by decide +kernel
theorem dX8_who_68 : decode cX8_who 68 = .ok (.ior, 1) := by decide +kernel
theorem dX8_who_69 : decode cX8_who 69 = .ok (.istore_n 3, 1) := by decide +kernel
theorem dX8_who_70 : decode cX8_who 70 = .ok (.iinc 4 1, 3) := by decide +kernel
theorem dX8_who_73 : decode cX8_who 73 = .ok (.goto (-47), 3) := by decide +kernel
theorem dX8_who_76 : decode cX8_who 76 = .ok (.iload_n 3, 1) := by decide +kernel
theorem dX8_who_77 : decode cX8_who 77 = .ok (.ireturn, 1) := by decide +kernel
theorem dX8_kinds_0 : decode cX8_kinds 0 = .ok (.aload_n 0, 1) := by decide +kernel
theorem dX8_kinds_1 : decode cX8_kinds 1 = .ok (.iload_n 1, 1) := by decide +kernel
theorem dX8_kinds_2 : decode cX8_kinds 2 = .ok (.invokevirtual 187, 3) := by decide +kernel
theorem dX8_kinds_5 : decode cX8_kinds 5 = .ok (.ifCond .eq 10, 3) := by decide +kernel
theorem dX8_kinds_8 : decode cX8_kinds 8 = .ok (.iload_n 2, 1) := by decide +kernel
theorem dX8_kinds_9 : decode cX8_kinds 9 = .ok (.invokestatic 92, 3) := by decide +kernel
theorem dX8_kinds_12 : decode cX8_kinds 12 = .ok (.ifCond .ne 5, 3) := by decide +kernel
theorem dX8_kinds_15 : decode cX8_kinds 15 = .ok (.iconst (-1), 1) := by decide +kernel
theorem dX8_kinds_16 : decode cX8_kinds 16 = .ok (.ireturn, 1) := by decide +kernel
theorem dX8_kinds_17 : decode cX8_kinds 17 = .ok (.aload_n 0, 1) := by decide +kernel
theorem dX8_kinds_18 : decode cX8_kinds 18 = .ok (.iload_n 2, 1) := by decide +kernel
theorem dX8_kinds_19 : decode cX8_kinds 19 = .ok (.invokevirtual 286, 3) := by decide +kernel
theorem dX8_kinds_22 : decode cX8_kinds 22 = .ok (.istore_n 3, 1) := by decide +kernel
theorem dX8_kinds_23 : decode cX8_kinds 23 = .ok (.iload_n 3, 1) := by decide +kernel
theorem dX8_kinds_24 : decode cX8_kinds 24 = .ok (.ifCond .eq 5, 3) := by decide +kernel
theorem dX8_kinds_27 : decode cX8_kinds 27 = .ok (.iload_n 3, 1) := by decide +kernel
theorem dX8_kinds_28 : decode cX8_kinds 28 = .ok (.ireturn, 1) := by decide +kernel
theorem dX8_kinds_29 : decode cX8_kinds 29 = .ok (.iconst 0, 1) := by decide +kernel
theorem dX8_kinds_30 : decode cX8_kinds 30 = .ok (.istore 4, 2) := by decide +kernel
theorem dX8_kinds_32 : decode cX8_kinds 32 = .ok (.iconst 0, 1) := by decide +kernel
theorem dX8_kinds_33 : decode cX8_kinds 33 = .ok (.istore 5, 2) := by decide +kernel
theorem dX8_kinds_35 : decode cX8_kinds 35 = .ok (.iload 5, 2) := by decide +kernel
theorem dX8_kinds_37 : decode cX8_kinds 37 = .ok (.bipush 6, 2) := by decide +kernel
theorem dX8_kinds_39 : decode cX8_kinds 39 = .ok (.if_icmp .ge 40, 3) := by decide +kernel
theorem dX8_kinds_42 : decode cX8_kinds 42 = .ok (.iload 4, 2) := by decide +kernel
theorem dX8_kinds_44 : decode cX8_kinds 44 = .ok (.aload_n 0, 1) := by decide +kernel
theorem dX8_kinds_45 : decode cX8_kinds 45 = .ok (.iload_n 2, 1) := by decide +kernel
theorem dX8_kinds_46 : decode cX8_kinds 46 = .ok (.iload 5, 2) := by decide +kernel
theorem dX8_kinds_48 : decode cX8_kinds 48 = .ok (.aload_n 0, 1) := by decide +kernel
theorem dX8_kinds_49 : decode cX8_kinds 49 = .ok (.getfield 7, 3) := by decide +kernel
theorem dX8_kinds_52 : decode cX8_kinds 52 = .ok (.iconst 3, 1) := by decide +kernel
theorem dX8_kinds_53 : decode cX8_kinds 53 = .ok (.iload_n 1, 1) := by decide +kernel
theorem dX8_kinds_54 : decode cX8_kinds 54 = .ok (.iadd, 1) := by decide +kernel
theorem dX8_kinds_55 : decode cX8_kinds 55 = .ok (.iaload, 1) := by decide +kernel
theorem dX8_kinds_56 : decode cX8_kinds 56 = .ok (.invokevirtual 289, 3) := by decide +kernel
theorem dX8_kinds_59 : decode cX8_kinds 59 = .ok (.ifCond .eq 10, 3) := by decide +kernel
theorem dX8_kinds_62 : decode cX8_kinds 62 = .ok (.iconst 1, 1) := by decide +kernel
theorem dX8_kinds_63 : decode cX8_kinds 63 = .ok (.iload 5, 2) := by decide +kernel
theorem dX8_kinds_65 : decode cX8_kinds 65 = .ok (.ishl, 1) := by decide +kernel
theorem dX8_kinds_66 : decode cX8_kinds 66 = .ok (.goto 4, 3) := by decide +kernel
theorem dX8_kinds_69 : decode cX8_kinds 69 = .ok (.iconst 0, 1) := by decide +kernel
theorem dX8_kinds_70 : decode cX8_kinds 70 = .ok (.ior, 1) := by decide +kernel
theorem dX8_kinds_71 : decode cX8_kinds 71 = .ok (.istore 4, 2) := by decide +kernel
theorem dX8_kinds_73 : decode cX8_kinds 73 = .ok (.iinc 5 1, 3) := by decide +kernel
theorem dX8_kinds_76 : decode cX8_kinds 76 = .ok (.goto (-41), 3) := by decide +kernel
theorem dX8_kinds_79 : decode cX8_kinds 79 = .ok (.iload 4, 2) := by decide +kernel
theorem dX8_kinds_81 : decode cX8_kinds 81 = .ok (.ireturn, 1) := by decide +kernel
theorem dX8_breaths_0 : decode cX8_breaths 0 = .ok (.aload_n 0, 1) := by decide +kernel
theorem dX8_breaths_1 : decode cX8_breaths 1 = .ok (.iload_n 1, 1) := by decide +kernel
theorem dX8_breaths_2 : decode cX8_breaths 2 = .ok (.invokevirtual 187, 3) := by decide +kernel
theorem dX8_breaths_5 : decode cX8_breaths 5 = .ok (.ifCond .eq 10, 3) := by decide +kernel
theorem dX8_breaths_8 : decode cX8_breaths 8 = .ok (.iload_n 2, 1) := by decide +kernel
theorem dX8_breaths_9 : decode cX8_breaths 9 = .ok (.invokestatic 92, 3) := by decide +kernel
theorem dX8_breaths_12 : decode cX8_breaths 12 = .ok (.ifCond .ne 5, 3) := by decide +kernel
theorem dX8_breaths_15 : decode cX8_breaths 15 = .ok (.iconst (-1), 1) := by decide +kernel
theorem dX8_breaths_16 : decode cX8_breaths 16 = .ok (.ireturn, 1) := by decide +kernel
theorem dX8_breaths_17 : decode cX8_breaths 17 = .ok (.aload_n 0, 1) := by decide +kernel
theorem dX8_breaths_18 : decode cX8_breaths 18 = .ok (.iload_n 2, 1) := by decide +kernel
theorem dX8_breaths_19 : decode cX8_breaths 19 = .ok (.invokevirtual 286, 3) := by decide +kernel
theorem dX8_breaths_22 : decode cX8_breaths 22 = .ok (.istore_n 3, 1) := by decide +kernel
theorem dX8_breaths_23 : decode cX8_breaths 23 = .ok (.iload_n 3, 1) := by decide +kernel
theorem dX8_breaths_24 : decode cX8_breaths 24 = .ok (.ifCond .eq 5, 3) := by decide +kernel
theorem dX8_breaths_27 : decode cX8_breaths 27 = .ok (.iload_n 3, 1) := by decide +kernel
theorem dX8_breaths_28 : decode cX8_breaths 28 = .ok (.ireturn, 1) := by decide +kernel
theorem dX8_breaths_29 : decode cX8_breaths 29 = .ok (.iconst 0, 1) := by decide +kernel
theorem dX8_breaths_30 : decode cX8_breaths 30 = .ok (.istore 4, 2) := by decide +kernel
theorem dX8_breaths_32 : decode cX8_breaths 32 = .ok (.iconst 0, 1) := by decide +kernel
theorem dX8_breaths_33 : decode cX8_breaths 33 = .ok (.istore 5, 2) := by decide +kernel
theorem dX8_breaths_35 : decode cX8_breaths 35 = .ok (.iload 5, 2) := by decide +kernel
theorem dX8_breaths_37 : decode cX8_breaths 37 = .ok (.bipush 10, 2) := by decide +kernel
theorem dX8_breaths_39 : decode cX8_breaths 39 = .ok (.if_icmp .ge 38, 3) := by decide +kernel
theorem dX8_breaths_42 : decode cX8_breaths 42 = .ok (.iload 4, 2) := by decide +kernel
theorem dX8_breaths_44 : decode cX8_breaths 44 = .ok (.aload_n 0, 1) := by decide +kernel
theorem dX8_breaths_45 : decode cX8_breaths 45 = .ok (.iload_n 2, 1) := by decide +kernel
theorem dX8_breaths_46 : decode cX8_breaths 46 = .ok (.aload_n 0, 1) := by decide +kernel
theorem dX8_breaths_47 : decode cX8_breaths 47 = .ok (.getfield 13, 3) := by decide +kernel
theorem dX8_breaths_50 : decode cX8_breaths 50 = .ok (.iload_n 1, 1) := by decide +kernel
theorem dX8_breaths_51 : decode cX8_breaths 51 = .ok (.iaload, 1) := by decide +kernel
theorem dX8_breaths_52 : decode cX8_breaths 52 = .ok (.iload 5, 2) := by decide +kernel
theorem dX8_breaths_54 : decode cX8_breaths 54 = .ok (.invokevirtual 289, 3) := by decide +kernel
theorem dX8_breaths_57 : decode cX8_breaths 57 = .ok (.ifCond .eq 10, 3) := by decide +kernel
theorem dX8_breaths_60 : decode cX8_breaths 60 = .ok (.iconst 1, 1) := by decide +kernel
theorem dX8_breaths_61 : decode cX8_breaths 61 = .ok (.iload 5, 2) := by decide +kernel
theorem dX8_breaths_63 : decode cX8_breaths 63 = .ok (.ishl, 1) := by decide +kernel
theorem dX8_breaths_64 : decode cX8_breaths 64 = .ok (.goto 4, 3) := by decide +kernel
theorem dX8_breaths_67 : decode cX8_breaths 67 = .ok (.iconst 0, 1) := by decide +kernel
theorem dX8_breaths_68 : decode cX8_breaths 68 = .ok (.ior, 1) := by decide +kernel
theorem dX8_breaths_69 : decode cX8_breaths 69 = .ok (.istore 4, 2) := by decide +kernel
theorem dX8_breaths_71 : decode cX8_breaths 71 = .ok (.iinc 5 1, 3) := by decide +kernel
theorem dX8_breaths_74 : decode cX8_breaths 74 = .ok (.goto (-39), 3) := by decide +kernel
theorem dX8_breaths_77 : decode cX8_breaths 77 = .ok (.iload 4, 2) := by decide +kernel
theorem dX8_breaths_79 : decode cX8_breaths 79 = .ok (.ireturn, 1) := by decide +kernel
theorem dX8_mostNow_0 : decode cX8_mostNow 0 = .ok (.iconst 0, 1) := by decide +kernel
theorem dX8_mostNow_1 : decode cX8_mostNow 1 = .ok (.istore_n 2, 1) := by decide +kernel
theorem dX8_mostNow_2 : decode cX8_mostNow 2 = .ok (.iconst 0, 1) := by decide +kernel
theorem dX8_mostNow_3 : decode cX8_mostNow 3 = .ok (.istore_n 3, 1) := by decide +kernel
theorem dX8_mostNow_4 : decode cX8_mostNow 4 = .ok (.iload_n 3, 1) := by decide +kernel
theorem dX8_mostNow_5 : decode cX8_mostNow 5 = .ok (.aload_n 0, 1) := by decide +kernel
theorem dX8_mostNow_6 : decode cX8_mostNow 6 = .ok (.getfield 156, 3) := by decide +kernel
theorem dX8_mostNow_9 : decode cX8_mostNow 9 = .ok (.if_icmp .ge 61, 3) := by decide +kernel
theorem dX8_mostNow_12 : decode cX8_mostNow 12 = .ok (.iconst 0, 1) := by decide +kernel
theorem dX8_mostNow_13 : decode cX8_mostNow 13 = .ok (.istore 4, 2) := by decide +kernel
theorem dX8_mostNow_15 : decode cX8_mostNow 15 = .ok (.iload 4, 2) := by decide +kernel
theorem dX8_mostNow_17 : decode cX8_mostNow 17 = .ok (.aload_n 0, 1) := by decide +kernel
theorem dX8_mostNow_18 : decode cX8_mostNow 18 = .ok (.getfield 159, 3) := by decide +kernel
theorem dX8_mostNow_21 : decode cX8_mostNow 21 = .ok (.if_icmp .ge 43, 3) := by decide +kernel
theorem dX8_mostNow_24 : decode cX8_mostNow 24 = .ok (.aload_n 0, 1) := by decide +kernel
theorem dX8_mostNow_25 : decode cX8_mostNow 25 = .ok (.iload_n 1, 1) := by decide +kernel
theorem dX8_mostNow_26 : decode cX8_mostNow 26 = .ok (.iload_n 3, 1) := by decide +kernel
theorem dX8_mostNow_27 : decode cX8_mostNow 27 = .ok (.iload 4, 2) := by decide +kernel
theorem dX8_mostNow_29 : decode cX8_mostNow 29 = .ok (.invokevirtual 184, 3) := by decide +kernel
theorem dX8_mostNow_32 : decode cX8_mostNow 32 = .ok (.ifCond .eq 24, 3) := by decide +kernel
theorem dX8_mostNow_35 : decode cX8_mostNow 35 = .ok (.aload_n 0, 1) := by decide +kernel
theorem dX8_mostNow_36 : decode cX8_mostNow 36 = .ok (.iload_n 3, 1) := by decide +kernel
theorem dX8_mostNow_37 : decode cX8_mostNow 37 = .ok (.iload 4, 2) := by decide +kernel
theorem dX8_mostNow_39 : decode cX8_mostNow 39 = .ok (.invokevirtual 201, 3) := by decide +kernel
theorem dX8_mostNow_42 : decode cX8_mostNow 42 = .ok (.iload_n 2, 1) := by decide +kernel
theorem dX8_mostNow_43 : decode cX8_mostNow 43 = .ok (.if_icmp .le 13, 3) := by decide +kernel
theorem dX8_mostNow_46 : decode cX8_mostNow 46 = .ok (.aload_n 0, 1) := by decide +kernel
theorem dX8_mostNow_47 : decode cX8_mostNow 47 = .ok (.iload_n 3, 1) := by decide +kernel
theorem dX8_mostNow_48 : decode cX8_mostNow 48 = .ok (.iload 4, 2) := by decide +kernel
theorem dX8_mostNow_50 : decode cX8_mostNow 50 = .ok (.invokevirtual 201, 3) := by decide +kernel
theorem dX8_mostNow_53 : decode cX8_mostNow 53 = .ok (.goto 4, 3) := by decide +kernel
theorem dX8_mostNow_56 : decode cX8_mostNow 56 = .ok (.iload_n 2, 1) := by decide +kernel
theorem dX8_mostNow_57 : decode cX8_mostNow 57 = .ok (.istore_n 2, 1) := by decide +kernel
theorem dX8_mostNow_58 : decode cX8_mostNow 58 = .ok (.iinc 4 1, 3) := by decide +kernel
theorem dX8_mostNow_61 : decode cX8_mostNow 61 = .ok (.goto (-46), 3) := by decide +kernel
theorem dX8_mostNow_64 : decode cX8_mostNow 64 = .ok (.iinc 3 1, 3) := by decide +kernel
theorem dX8_mostNow_67 : decode cX8_mostNow 67 = .ok (.goto (-63), 3) := by decide +kernel
theorem dX8_mostNow_70 : decode cX8_mostNow 70 = .ok (.iload_n 2, 1) := by decide +kernel
theorem dX8_mostNow_71 : decode cX8_mostNow 71 = .ok (.ireturn, 1) := by decide +kernel
theorem dX8_leastBehind_0 : decode cX8_leastBehind 0 = .ok (.sipush 999, 3) := by decide +kernel
theorem dX8_leastBehind_3 : decode cX8_leastBehind 3 = .ok (.istore_n 2, 1) := by decide +kernel
theorem dX8_leastBehind_4 : decode cX8_leastBehind 4 = .ok (.iconst 0, 1) := by decide +kernel
theorem dX8_leastBehind_5 : decode cX8_leastBehind 5 = .ok (.istore_n 3, 1) := by decide +kernel
theorem dX8_leastBehind_6 : decode cX8_leastBehind 6 = .ok (.iload_n 3, 1) := by decide +kernel
theorem dX8_leastBehind_7 : decode cX8_leastBehind 7 = .ok (.aload_n 0, 1) := by decide +kernel
theorem dX8_leastBehind_8 : decode cX8_leastBehind 8 = .ok (.getfield 156, 3) := by decide +kernel
theorem dX8_leastBehind_11 : decode cX8_leastBehind 11 = .ok (.if_icmp .gt 58, 3) := by decide +kernel
theorem dX8_leastBehind_14 : decode cX8_leastBehind 14 = .ok (.aload_n 0, 1) := by decide +kernel
theorem dX8_leastBehind_15 : decode cX8_leastBehind 15 = .ok (.iload_n 1, 1) := by decide +kernel
theorem dX8_leastBehind_16 : decode cX8_leastBehind 16 = .ok (.sipush 1985, 3) := by decide +kernel
theorem dX8_leastBehind_19 : decode cX8_leastBehind 19 = .ok (.invokevirtual 232, 3) := by decide +kernel
theorem dX8_leastBehind_22 : decode cX8_leastBehind 22 = .ok (.iload_n 3, 1) := by decide +kernel
theorem dX8_leastBehind_23 : decode cX8_leastBehind 23 = .ok (.aload_n 0, 1) := by decide +kernel
theorem dX8_leastBehind_24 : decode cX8_leastBehind 24 = .ok (.getfield 156, 3) := by decide +kernel
theorem dX8_leastBehind_27 : decode cX8_leastBehind 27 = .ok (.if_icmp .ge 14, 3) := by decide +kernel
theorem dX8_leastBehind_30 : decode cX8_leastBehind 30 = .ok (.aload_n 0, 1) := by decide +kernel
theorem dX8_leastBehind_31 : decode cX8_leastBehind 31 = .ok (.getfield 7, 3) := by decide +kernel
theorem dX8_leastBehind_34 : decode cX8_leastBehind 34 = .ok (.sipush 1988, 3) := by decide +kernel
theorem dX8_leastBehind_37 : decode cX8_leastBehind 37 = .ok (.iload_n 3, 1) := by decide +kernel
theorem dX8_leastBehind_38 : decode cX8_leastBehind 38 = .ok (.iadd, 1) := by decide +kernel
theorem dX8_leastBehind_39 : decode cX8_leastBehind 39 = .ok (.iconst 0, 1) := by decide +kernel
theorem dX8_leastBehind_40 : decode cX8_leastBehind 40 = .ok (.iastore, 1) := by decide +kernel
theorem dX8_leastBehind_41 : decode cX8_leastBehind 41 = .ok (.aload_n 0, 1) := by decide +kernel
theorem dX8_leastBehind_42 : decode cX8_leastBehind 42 = .ok (.sipush 1985, 3) := by decide +kernel
theorem dX8_leastBehind_45 : decode cX8_leastBehind 45 = .ok (.invokevirtual 292, 3) := by decide +kernel
theorem dX8_leastBehind_48 : decode cX8_leastBehind 48 = .ok (.istore 4, 2) := by decide +kernel
theorem dX8_leastBehind_50 : decode cX8_leastBehind 50 = .ok (.iload 4, 2) := by decide +kernel
theorem dX8_leastBehind_52 : decode cX8_leastBehind 52 = .ok (.iload_n 2, 1) := by decide +kernel
theorem dX8_leastBehind_53 : decode cX8_leastBehind 53 = .ok (.if_icmp .ge 8, 3) := by decide +kernel
theorem dX8_leastBehind_56 : decode cX8_leastBehind 56 = .ok (.iload 4, 2) := by decide +kernel
theorem dX8_leastBehind_58 : decode cX8_leastBehind 58 = .ok (.goto 4, 3) := by decide +kernel
theorem dX8_leastBehind_61 : decode cX8_leastBehind 61 = .ok (.iload_n 2, 1) := by decide +kernel
theorem dX8_leastBehind_62 : decode cX8_leastBehind 62 = .ok (.istore_n 2, 1) := by decide +kernel
theorem dX8_leastBehind_63 : decode cX8_leastBehind 63 = .ok (.iinc 3 1, 3) := by decide +kernel
theorem dX8_leastBehind_66 : decode cX8_leastBehind 66 = .ok (.goto (-60), 3) := by decide +kernel
theorem dX8_leastBehind_69 : decode cX8_leastBehind 69 = .ok (.iload_n 2, 1) := by decide +kernel
theorem dX8_leastBehind_70 : decode cX8_leastBehind 70 = .ok (.ireturn, 1) := by decide +kernel
theorem dX8_strike_0 : decode cX8_strike 0 = .ok (.iload_n 1, 1) := by decide +kernel
theorem dX8_strike_1 : decode cX8_strike 1 = .ok (.i2l, 1) := by decide +kernel
theorem dX8_strike_2 : decode cX8_strike 2 = .ok (.lconst 0, 1) := by decide +kernel
theorem dX8_strike_3 : decode cX8_strike 3 = .ok (.ldc2_w 227, 3) := by decide +kernel
theorem dX8_strike_6 : decode cX8_strike 6 = .ok (.invokestatic 86, 3) := by decide +kernel
theorem dX8_strike_9 : decode cX8_strike 9 = .ok (.ifCond .ne 5, 3) := by decide +kernel
theorem dX8_strike_12 : decode cX8_strike 12 = .ok (.iconst (-1), 1) := by decide +kernel
theorem dX8_strike_13 : decode cX8_strike 13 = .ok (.ireturn, 1) := by decide +kernel
theorem dX8_strike_14 : decode cX8_strike 14 = .ok (.aload_n 0, 1) := by decide +kernel
theorem dX8_strike_15 : decode cX8_strike 15 = .ok (.getfield 156, 3) := by decide +kernel
theorem dX8_strike_18 : decode cX8_strike 18 = .ok (.ifCond .ne 6, 3) := by decide +kernel
theorem dX8_strike_21 : decode cX8_strike 21 = .ok (.bipush (-4), 2) := by decide +kernel
theorem dX8_strike_23 : decode cX8_strike 23 = .ok (.ireturn, 1) := by decide +kernel
theorem dX8_strike_24 : decode cX8_strike 24 = .ok (.iload_n 1, 1) := by decide +kernel
theorem dX8_strike_25 : decode cX8_strike 25 = .ok (.iconst 2, 1) := by decide +kernel
theorem dX8_strike_26 : decode cX8_strike 26 = .ok (.if_icmp .ge 17, 3) := by decide +kernel
theorem dX8_strike_29 : decode cX8_strike 29 = .ok (.iload_n 1, 1) := by decide +kernel
theorem dX8_strike_30 : decode cX8_strike 30 = .ok (.ifCond .ne 7, 3) := by decide +kernel
theorem dX8_strike_33 : decode cX8_strike 33 = .ok (.iconst 0, 1) := by decide +kernel
theorem dX8_strike_34 : decode cX8_strike 34 = .ok (.goto 8, 3) := by decide +kernel
theorem dX8_strike_37 : decode cX8_strike 37 = .ok (.aload_n 0, 1) := by decide +kernel
theorem dX8_strike_38 : decode cX8_strike 38 = .ok (.iconst 0, 1) := by decide +kernel
theorem dX8_strike_39 : decode cX8_strike 39 = .ok (.invokevirtual 292, 3) := by decide +kernel
theorem dX8_strike_42 : decode cX8_strike 42 = .ok (.ireturn, 1) := by decide +kernel
theorem dX8_strike_43 : decode cX8_strike 43 = .ok (.aload_n 0, 1) := by decide +kernel
theorem dX8_strike_44 : decode cX8_strike 44 = .ok (.iconst 0, 1) := by decide +kernel
theorem dX8_strike_45 : decode cX8_strike 45 = .ok (.invokevirtual 295, 3) := by decide +kernel
theorem dX8_strike_48 : decode cX8_strike 48 = .ok (.istore_n 2, 1) := by decide +kernel
theorem dX8_strike_49 : decode cX8_strike 49 = .ok (.iconst 0, 1) := by decide +kernel
theorem dX8_strike_50 : decode cX8_strike 50 = .ok (.istore_n 3, 1) := by decide +kernel
theorem dX8_strike_51 : decode cX8_strike 51 = .ok (.iload_n 3, 1) := by decide +kernel
theorem dX8_strike_52 : decode cX8_strike 52 = .ok (.aload_n 0, 1) := by decide +kernel
theorem dX8_strike_53 : decode cX8_strike 53 = .ok (.getfield 156, 3) := by decide +kernel
theorem dX8_strike_56 : decode cX8_strike 56 = .ok (.aload_n 0, 1) := by decide +kernel
theorem dX8_strike_57 : decode cX8_strike 57 = .ok (.getfield 159, 3) := by decide +kernel
theorem dX8_strike_60 : decode cX8_strike 60 = .ok (.imul, 1) := by decide +kernel
theorem dX8_strike_61 : decode cX8_strike 61 = .ok (.if_icmp .ge 87, 3) := by decide +kernel
theorem dX8_strike_64 : decode cX8_strike 64 = .ok (.iload_n 3, 1) := by decide +kernel
theorem dX8_strike_65 : decode cX8_strike 65 = .ok (.aload_n 0, 1) := by decide +kernel
theorem dX8_strike_66 : decode cX8_strike 66 = .ok (.getfield 159, 3) := by decide +kernel
theorem dX8_strike_69 : decode cX8_strike 69 = .ok (.idiv, 1) := by decide +kernel
theorem dX8_strike_70 : decode cX8_strike 70 = .ok (.istore 4, 2) := by decide +kernel
theorem dX8_strike_72 : decode cX8_strike 72 = .ok (.iload_n 3, 1) := by decide +kernel
theorem dX8_strike_73 : decode cX8_strike 73 = .ok (.aload_n 0, 1) := by decide +kernel
theorem dX8_strike_74 : decode cX8_strike 74 = .ok (.getfield 159, 3) := by decide +kernel
theorem dX8_strike_77 : decode cX8_strike 77 = .ok (.irem, 1) := by decide +kernel
theorem dX8_strike_78 : decode cX8_strike 78 = .ok (.istore 5, 2) := by decide +kernel
theorem dX8_strike_80 : decode cX8_strike 80 = .ok (.aload_n 0, 1) := by decide +kernel
theorem dX8_strike_81 : decode cX8_strike 81 = .ok (.iconst 0, 1) := by decide +kernel
theorem dX8_strike_82 : decode cX8_strike 82 = .ok (.iload 4, 2) := by decide +kernel
theorem dX8_strike_84 : decode cX8_strike 84 = .ok (.iload 5, 2) := by decide +kernel
theorem dX8_strike_86 : decode cX8_strike 86 = .ok (.invokevirtual 184, 3) := by decide +kernel
theorem dX8_strike_89 : decode cX8_strike 89 = .ok (.ifCond .eq 53, 3) := by decide +kernel
theorem dX8_strike_92 : decode cX8_strike 92 = .ok (.aload_n 0, 1) := by decide +kernel
theorem dX8_strike_93 : decode cX8_strike 93 = .ok (.iconst 0, 1) := by decide +kernel
theorem dX8_strike_94 : decode cX8_strike 94 = .ok (.sipush 1972, 3) := by decide +kernel
theorem dX8_strike_97 : decode cX8_strike 97 = .ok (.invokevirtual 232, 3) := by decide +kernel
theorem dX8_strike_100 : decode cX8_strike 100 = .ok (.aload_n 0, 1) := by decide +kernel
theorem dX8_strike_101 : decode cX8_strike 101 = .ok (.sipush 1972, 3) := by decide +kernel
theorem dX8_strike_104 : decode cX8_strike 104 = .ok (.iload 4, 2) := by decide +kernel
theorem dX8_strike_106 : decode cX8_strike 106 = .ok (.iload 5, 2) := by decide +kernel
theorem dX8_strike_108 : decode cX8_strike 108 = .ok (.invokevirtual 219, 3) := by decide +kernel
theorem dX8_strike_111 : decode cX8_strike 111 = .ok (.aload_n 0, 1) := by decide +kernel
theorem dX8_strike_112 : decode cX8_strike 112 = .ok (.iload 4, 2) := by decide +kernel
theorem dX8_strike_114 : decode cX8_strike 114 = .ok (.iload 5, 2) := by decide +kernel
theorem dX8_strike_116 : decode cX8_strike 116 = .ok (.invokevirtual 201, 3) := by decide +kernel
theorem dX8_strike_119 : decode cX8_strike 119 = .ok (.aload_n 0, 1) := by decide +kernel
theorem dX8_strike_120 : decode cX8_strike 120 = .ok (.sipush 1972, 3) := by decide +kernel
theorem dX8_strike_123 : decode cX8_strike 123 = .ok (.invokevirtual 295, 3) := by decide +kernel
theorem dX8_strike_126 : decode cX8_strike 126 = .ok (.iadd, 1) := by decide +kernel
theorem dX8_strike_127 : decode cX8_strike 127 = .ok (.istore 6, 2) := by decide +kernel
theorem dX8_strike_129 : decode cX8_strike 129 = .ok (.iload 6, 2) := by decide +kernel
theorem dX8_strike_131 : decode cX8_strike 131 = .ok (.iload_n 2, 1) := by decide +kernel
theorem dX8_strike_132 : decode cX8_strike 132 = .ok (.if_icmp .le 8, 3) := by decide +kernel
theorem dX8_strike_135 : decode cX8_strike 135 = .ok (.iload 6, 2) := by decide +kernel
theorem dX8_strike_137 : decode cX8_strike 137 = .ok (.goto 4, 3) := by decide +kernel
theorem dX8_strike_140 : decode cX8_strike 140 = .ok (.iload_n 2, 1) := by decide +kernel
theorem dX8_strike_141 : decode cX8_strike 141 = .ok (.istore_n 2, 1) := by decide +kernel
theorem dX8_strike_142 : decode cX8_strike 142 = .ok (.iinc 3 1, 3) := by decide +kernel
theorem dX8_strike_145 : decode cX8_strike 145 = .ok (.goto (-94), 3) := by decide +kernel
theorem dX8_strike_148 : decode cX8_strike 148 = .ok (.iload_n 2, 1) := by decide +kernel
theorem dX8_strike_149 : decode cX8_strike 149 = .ok (.ireturn, 1) := by decide +kernel
theorem dX8_tellParts_0 : decode cX8_tellParts 0 = .ok (.lload_n 1, 1) := by decide +kernel
theorem dX8_tellParts_1 : decode cX8_tellParts 1 = .ok (.lstore 5, 2) := by decide +kernel
theorem dX8_tellParts_3 : decode cX8_tellParts 3 = .ok (.lload_n 3, 1) := by decide +kernel
theorem dX8_tellParts_4 : decode cX8_tellParts 4 = .ok (.lstore 7, 2) := by decide +kernel
theorem dX8_tellParts_6 : decode cX8_tellParts 6 = .ok (.lload 7, 2) := by decide +kernel
theorem dX8_tellParts_8 : decode cX8_tellParts 8 = .ok (.lconst 0, 1) := by decide +kernel
theorem dX8_tellParts_9 : decode cX8_tellParts 9 = .ok (.lcmp, 1) := by decide +kernel
theorem dX8_tellParts_10 : decode cX8_tellParts 10 = .ok (.ifCond .eq 21, 3) := by decide +kernel
theorem dX8_tellParts_13 : decode cX8_tellParts 13 = .ok (.lload 5, 2) := by decide +kernel
theorem dX8_tellParts_15 : decode cX8_tellParts 15 = .ok (.lload 7, 2) := by decide +kernel
theorem dX8_tellParts_17 : decode cX8_tellParts 17 = .ok (.lrem, 1) := by decide +kernel
theorem dX8_tellParts_18 : decode cX8_tellParts 18 = .ok (.lstore 9, 2) := by decide +kernel
theorem dX8_tellParts_20 : decode cX8_tellParts 20 = .ok (.lload 7, 2) := by decide +kernel
theorem dX8_tellParts_22 : decode cX8_tellParts 22 = .ok (.lstore 5, 2) := by decide +kernel
theorem dX8_tellParts_24 : decode cX8_tellParts 24 = .ok (.lload 9, 2) := by decide +kernel
theorem dX8_tellParts_26 : decode cX8_tellParts 26 = .ok (.lstore 7, 2) := by decide +kernel
theorem dX8_tellParts_28 : decode cX8_tellParts 28 = .ok (.goto (-22), 3) := by decide +kernel
theorem dX8_tellParts_31 : decode cX8_tellParts 31 = .ok (.aload_n 0, 1) := by decide +kernel
theorem dX8_tellParts_32 : decode cX8_tellParts 32 = .ok (.lload_n 1, 1) := by decide +kernel
theorem dX8_tellParts_33 : decode cX8_tellParts 33 = .ok (.lload 5, 2) := by decide +kernel
theorem dX8_tellParts_35 : decode cX8_tellParts 35 = .ok (.ldiv, 1) := by decide +kernel
theorem dX8_tellParts_36 : decode cX8_tellParts 36 = .ok (.putfield 298, 3) := by decide +kernel
theorem dX8_tellParts_39 : decode cX8_tellParts 39 = .ok (.aload_n 0, 1) := by decide +kernel
theorem dX8_tellParts_40 : decode cX8_tellParts 40 = .ok (.lload_n 3, 1) := by decide +kernel
theorem dX8_tellParts_41 : decode cX8_tellParts 41 = .ok (.lload 5, 2) := by decide +kernel
theorem dX8_tellParts_43 : decode cX8_tellParts 43 = .ok (.ldiv, 1) := by decide +kernel
theorem dX8_tellParts_44 : decode cX8_tellParts 44 = .ok (.putfield 40, 3) := by decide +kernel
theorem dX8_tellParts_47 : decode cX8_tellParts 47 = .ok (.iconst 1, 1) := by decide +kernel
theorem dX8_tellParts_48 : decode cX8_tellParts 48 = .ok (.ireturn, 1) := by decide +kernel
theorem dX8_tellPlain_0 : decode cX8_tellPlain 0 = .ok (.lconst 0, 1) := by decide +kernel
theorem dX8_tellPlain_1 : decode cX8_tellPlain 1 = .ok (.lstore 4, 2) := by decide +kernel
theorem dX8_tellPlain_3 : decode cX8_tellPlain 3 = .ok (.lconst 0, 1) := by decide +kernel
theorem dX8_tellPlain_4 : decode cX8_tellPlain 4 = .ok (.lstore 6, 2) := by decide +kernel
theorem dX8_tellPlain_6 : decode cX8_tellPlain 6 = .ok (.iconst 0, 1) := by decide +kernel
theorem dX8_tellPlain_7 : decode cX8_tellPlain 7 = .ok (.istore 8, 2) := by decide +kernel
theorem dX8_tellPlain_9 : decode cX8_tellPlain 9 = .ok (.iload 8, 2) := by decide +kernel
theorem dX8_tellPlain_11 : decode cX8_tellPlain 11 = .ok (.iconst 1, 1) := by decide +kernel
theorem dX8_tellPlain_12 : decode cX8_tellPlain 12 = .ok (.aload_n 0, 1) := by decide +kernel
theorem dX8_tellPlain_13 : decode cX8_tellPlain 13 = .ok (.getfield 159, 3) := by decide +kernel
theorem dX8_tellPlain_16 : decode cX8_tellPlain 16 = .ok (.ishl, 1) := by decide +kernel
theorem dX8_tellPlain_17 : decode cX8_tellPlain 17 = .ok (.if_icmp .ge 115, 3) := by decide +kernel
theorem dX8_tellPlain_20 : decode cX8_tellPlain 20 = .ok (.lconst 1, 1) := by decide +kernel
theorem dX8_tellPlain_21 : decode cX8_tellPlain 21 = .ok (.lstore 9, 2) := by decide +kernel
theorem dX8_tellPlain_23 : decode cX8_tellPlain 23 = .ok (.iconst 0, 1) := by decide +kernel
theorem dX8_tellPlain_24 : decode cX8_tellPlain 24 = .ok (.istore 11, 2) := by decide +kernel
theorem dX8_tellPlain_26 : decode cX8_tellPlain 26 = .ok (.iload 11, 2) := by decide +kernel
theorem dX8_tellPlain_28 : decode cX8_tellPlain 28 = .ok (.aload_n 0, 1) := by decide +kernel
theorem dX8_tellPlain_29 : decode cX8_tellPlain 29 = .ok (.getfield 159, 3) := by decide +kernel
theorem dX8_tellPlain_32 : decode cX8_tellPlain 32 = .ok (.if_icmp .ge 34, 3) := by decide +kernel
theorem dX8_tellPlain_35 : decode cX8_tellPlain 35 = .ok (.lload 9, 2) := by decide +kernel
theorem dX8_tellPlain_37 : decode cX8_tellPlain 37 = .ok (.iload 8, 2) := by decide +kernel
theorem dX8_tellPlain_39 : decode cX8_tellPlain 39 = .ok (.iload 11, 2) := by decide +kernel
theorem dX8_tellPlain_41 : decode cX8_tellPlain 41 = .ok (.invokestatic 174, 3) := by decide +kernel
theorem dX8_tellPlain_44 : decode cX8_tellPlain 44 = .ok (.ifCond .eq 8, 3) := by decide +kernel
theorem dX8_tellPlain_47 : decode cX8_tellPlain 47 = .ok (.iload_n 2, 1) := by decide +kernel
theorem dX8_tellPlain_48 : decode cX8_tellPlain 48 = .ok (.i2l, 1) := by decide +kernel
theorem dX8_tellPlain_49 : decode cX8_tellPlain 49 = .ok (.goto 8, 3) := by decide +kernel
theorem dX8_tellPlain_52 : decode cX8_tellPlain 52 = .ok (.bipush 12, 2) := by decide +kernel
theorem dX8_tellPlain_54 : decode cX8_tellPlain 54 = .ok (.iload_n 2, 1) := by decide +kernel
theorem dX8_tellPlain_55 : decode cX8_tellPlain 55 = .ok (.isub, 1) := by decide +kernel
theorem dX8_tellPlain_56 : decode cX8_tellPlain 56 = .ok (.i2l, 1) := by decide +kernel
theorem dX8_tellPlain_57 : decode cX8_tellPlain 57 = .ok (.lmul, 1) := by decide +kernel
theorem dX8_tellPlain_58 : decode cX8_tellPlain 58 = .ok (.lstore 9, 2) := by decide +kernel
theorem dX8_tellPlain_60 : decode cX8_tellPlain 60 = .ok (.iinc 11 1, 3) := by decide +kernel
theorem dX8_tellPlain_63 : decode cX8_tellPlain 63 = .ok (.goto (-37), 3) := by decide +kernel
theorem dX8_tellPlain_66 : decode cX8_tellPlain 66 = .ok (.aload_n 0, 1) := by decide +kernel
theorem dX8_tellPlain_67 : decode cX8_tellPlain 67 = .ok (.iload 8, 2) := by decide +kernel
theorem dX8_tellPlain_69 : decode cX8_tellPlain 69 = .ok (.invokevirtual 248, 3) := by decide +kernel
theorem dX8_tellPlain_72 : decode cX8_tellPlain 72 = .ok (.aload_n 0, 1) := by decide +kernel
theorem dX8_tellPlain_73 : decode cX8_tellPlain 73 = .ok (.getfield 7, 3) := by decide +kernel
theorem dX8_tellPlain_76 : decode cX8_tellPlain 76 = .ok (.sipush 1973, 3) := by decide +kernel
theorem dX8_tellPlain_79 : decode cX8_tellPlain 79 = .ok (.iaload, 1) := by decide +kernel
theorem dX8_tellPlain_80 : decode cX8_tellPlain 80 = .ok (.aload_n 0, 1) := by decide +kernel
theorem dX8_tellPlain_81 : decode cX8_tellPlain 81 = .ok (.getfield 7, 3) := by decide +kernel
theorem dX8_tellPlain_84 : decode cX8_tellPlain 84 = .ok (.iconst 1, 1) := by decide +kernel
theorem dX8_tellPlain_85 : decode cX8_tellPlain 85 = .ok (.iaload, 1) := by decide +kernel
theorem dX8_tellPlain_86 : decode cX8_tellPlain 86 = .ok (.isub, 1) := by decide +kernel
theorem dX8_tellPlain_87 : decode cX8_tellPlain 87 = .ok (.istore 11, 2) := by decide +kernel
theorem dX8_tellPlain_89 : decode cX8_tellPlain 89 = .ok (.lload 4, 2) := by decide +kernel
theorem dX8_tellPlain_91 : decode cX8_tellPlain 91 = .ok (.iload_n 3, 1) := by decide +kernel
theorem dX8_tellPlain_92 : decode cX8_tellPlain 92 = .ok (.ifCond .eq 12, 3) := by decide +kernel
theorem dX8_tellPlain_95 : decode cX8_tellPlain 95 = .ok (.lload 9, 2) := by decide +kernel
theorem dX8_tellPlain_97 : decode cX8_tellPlain 97 = .ok (.iload 11, 2) := by decide +kernel
theorem dX8_tellPlain_99 : decode cX8_tellPlain 99 = .ok (.i2l, 1) := by decide +kernel
theorem dX8_tellPlain_100 : decode cX8_tellPlain 100 = .ok (.lmul, 1) := by decide +kernel
theorem dX8_tellPlain_101 : decode cX8_tellPlain 101 = .ok (.goto 15, 3) := by decide +kernel
theorem dX8_tellPlain_104 : decode cX8_tellPlain 104 = .ok (.iload 11, 2) := by decide +kernel
theorem dX8_tellPlain_106 : decode cX8_tellPlain 106 = .ok (.iload_n 1, 1) := by decide +kernel
theorem dX8_tellPlain_107 : decode cX8_tellPlain 107 = .ok (.if_icmp .lt 8, 3) := by decide +kernel
theorem dX8_tellPlain_110 : decode cX8_tellPlain 110 = .ok (.lload 9, 2) := by decide +kernel
theorem dX8_tellPlain_112 : decode cX8_tellPlain 112 = .ok (.goto 4, 3) := by decide +kernel
theorem dX8_tellPlain_115 : decode cX8_tellPlain 115 = .ok (.lconst 0, 1) := by decide +kernel
theorem dX8_tellPlain_116 : decode cX8_tellPlain 116 = .ok (.ladd, 1) := by decide +kernel
theorem dX8_tellPlain_117 : decode cX8_tellPlain 117 = .ok (.lstore 4, 2) := by decide +kernel
theorem dX8_tellPlain_119 : decode cX8_tellPlain 119 = .ok (.lload 6, 2) := by decide +kernel
theorem dX8_tellPlain_121 : decode cX8_tellPlain 121 = .ok (.lload 9, 2) := by decide +kernel
theorem dX8_tellPlain_123 : decode cX8_tellPlain 123 = .ok (.ladd, 1) := by decide +kernel
theorem dX8_tellPlain_124 : decode cX8_tellPlain 124 = .ok (.lstore 6, 2) := by decide +kernel
theorem dX8_tellPlain_126 : decode cX8_tellPlain 126 = .ok (.iinc 8 1, 3) := by decide +kernel
theorem dX8_tellPlain_129 : decode cX8_tellPlain 129 = .ok (.goto (-120), 3) := by decide +kernel
theorem dX8_tellPlain_132 : decode cX8_tellPlain 132 = .ok (.aload_n 0, 1) := by decide +kernel
theorem dX8_tellPlain_133 : decode cX8_tellPlain 133 = .ok (.lload 4, 2) := by decide +kernel
theorem dX8_tellPlain_135 : decode cX8_tellPlain 135 = .ok (.lload 6, 2) := by decide +kernel
theorem dX8_tellPlain_137 : decode cX8_tellPlain 137 = .ok (.invokevirtual 301, 3) := by decide +kernel
theorem dX8_tellPlain_140 : decode cX8_tellPlain 140 = .ok (.ireturn, 1) := by decide +kernel
theorem dX8_odds_0 : decode cX8_odds 0 = .ok (.iload_n 1, 1) := by decide +kernel
theorem dX8_odds_1 : decode cX8_odds 1 = .ok (.i2l, 1) := by decide +kernel
theorem dX8_odds_2 : decode cX8_odds 2 = .ok (.lconst 0, 1) := by decide +kernel
theorem dX8_odds_3 : decode cX8_odds 3 = .ok (.ldc2_w 305, 3) := by decide +kernel
theorem dX8_odds_6 : decode cX8_odds 6 = .ok (.invokestatic 86, 3) := by decide +kernel
theorem dX8_odds_9 : decode cX8_odds 9 = .ok (.ifCond .eq 15, 3) := by decide +kernel
theorem dX8_odds_12 : decode cX8_odds 12 = .ok (.iload_n 2, 1) := by decide +kernel
theorem dX8_odds_13 : decode cX8_odds 13 = .ok (.i2l, 1) := by decide +kernel
theorem dX8_odds_14 : decode cX8_odds 14 = .ok (.lconst 0, 1) := by decide +kernel
theorem dX8_odds_15 : decode cX8_odds 15 = .ok (.ldc2_w 307, 3) := by decide +kernel
theorem dX8_odds_18 : decode cX8_odds 18 = .ok (.invokestatic 86, 3) := by decide +kernel
theorem dX8_odds_21 : decode cX8_odds 21 = .ok (.ifCond .ne 5, 3) := by decide +kernel
theorem dX8_odds_24 : decode cX8_odds 24 = .ok (.iconst (-1), 1) := by decide +kernel
theorem dX8_odds_25 : decode cX8_odds 25 = .ok (.ireturn, 1) := by decide +kernel
theorem dX8_odds_26 : decode cX8_odds 26 = .ok (.aload_n 0, 1) := by decide +kernel
theorem dX8_odds_27 : decode cX8_odds 27 = .ok (.getfield 156, 3) := by decide +kernel
theorem dX8_odds_30 : decode cX8_odds 30 = .ok (.ifCond .ne 8, 3) := by decide +kernel
theorem dX8_odds_33 : decode cX8_odds 33 = .ok (.bipush (-4), 2) := by decide +kernel
theorem dX8_odds_35 : decode cX8_odds 35 = .ok (.goto 10, 3) := by decide +kernel
theorem dX8_odds_38 : decode cX8_odds 38 = .ok (.aload_n 0, 1) := by decide +kernel
theorem dX8_odds_39 : decode cX8_odds 39 = .ok (.iload_n 1, 1) := by decide +kernel
theorem dX8_odds_40 : decode cX8_odds 40 = .ok (.iload_n 2, 1) := by decide +kernel
theorem dX8_odds_41 : decode cX8_odds 41 = .ok (.iconst 0, 1) := by decide +kernel
theorem dX8_odds_42 : decode cX8_odds 42 = .ok (.invokevirtual 309, 3) := by decide +kernel
theorem dX8_odds_45 : decode cX8_odds 45 = .ok (.ireturn, 1) := by decide +kernel
theorem dX8_mid_0 : decode cX8_mid 0 = .ok (.iload_n 1, 1) := by decide +kernel
theorem dX8_mid_1 : decode cX8_mid 1 = .ok (.i2l, 1) := by decide +kernel
theorem dX8_mid_2 : decode cX8_mid 2 = .ok (.lconst 0, 1) := by decide +kernel
theorem dX8_mid_3 : decode cX8_mid 3 = .ok (.ldc2_w 307, 3) := by decide +kernel
theorem dX8_mid_6 : decode cX8_mid 6 = .ok (.invokestatic 86, 3) := by decide +kernel
theorem dX8_mid_9 : decode cX8_mid 9 = .ok (.ifCond .ne 5, 3) := by decide +kernel
theorem dX8_mid_12 : decode cX8_mid 12 = .ok (.iconst (-1), 1) := by decide +kernel
theorem dX8_mid_13 : decode cX8_mid 13 = .ok (.ireturn, 1) := by decide +kernel
theorem dX8_mid_14 : decode cX8_mid 14 = .ok (.aload_n 0, 1) := by decide +kernel
theorem dX8_mid_15 : decode cX8_mid 15 = .ok (.getfield 156, 3) := by decide +kernel
theorem dX8_mid_18 : decode cX8_mid 18 = .ok (.ifCond .ne 8, 3) := by decide +kernel
theorem dX8_mid_21 : decode cX8_mid 21 = .ok (.bipush (-4), 2) := by decide +kernel
theorem dX8_mid_23 : decode cX8_mid 23 = .ok (.goto 10, 3) := by decide +kernel
theorem dX8_mid_26 : decode cX8_mid 26 = .ok (.aload_n 0, 1) := by decide +kernel
theorem dX8_mid_27 : decode cX8_mid 27 = .ok (.iconst 0, 1) := by decide +kernel
theorem dX8_mid_28 : decode cX8_mid 28 = .ok (.iload_n 1, 1) := by decide +kernel
theorem dX8_mid_29 : decode cX8_mid 29 = .ok (.iconst 1, 1) := by decide +kernel
theorem dX8_mid_30 : decode cX8_mid 30 = .ok (.invokevirtual 309, 3) := by decide +kernel
theorem dX8_mid_33 : decode cX8_mid 33 = .ok (.ireturn, 1) := by decide +kernel
theorem dX8_lots_0 : decode cX8_lots 0 = .ok (.iload_n 1, 1) := by decide +kernel
theorem dX8_lots_1 : decode cX8_lots 1 = .ok (.i2l, 1) := by decide +kernel
theorem dX8_lots_2 : decode cX8_lots 2 = .ok (.lconst 1, 1) := by decide +kernel
theorem dX8_lots_3 : decode cX8_lots 3 = .ok (.ldc2_w 284, 3) := by decide +kernel
theorem dX8_lots_6 : decode cX8_lots 6 = .ok (.invokestatic 86, 3) := by decide +kernel
theorem dX8_lots_9 : decode cX8_lots 9 = .ok (.ifCond .eq 15, 3) := by decide +kernel
theorem dX8_lots_12 : decode cX8_lots 12 = .ok (.iload_n 2, 1) := by decide +kernel
theorem dX8_lots_13 : decode cX8_lots 13 = .ok (.i2l, 1) := by decide +kernel
theorem dX8_lots_14 : decode cX8_lots 14 = .ok (.lconst 1, 1) := by decide +kernel
theorem dX8_lots_15 : decode cX8_lots 15 = .ok (.ldc2_w 313, 3) := by decide +kernel
theorem dX8_lots_18 : decode cX8_lots 18 = .ok (.invokestatic 86, 3) := by decide +kernel
theorem dX8_lots_21 : decode cX8_lots 21 = .ok (.ifCond .ne 5, 3) := by decide +kernel
theorem dX8_lots_24 : decode cX8_lots 24 = .ok (.iconst (-1), 1) := by decide +kernel
theorem dX8_lots_25 : decode cX8_lots 25 = .ok (.ireturn, 1) := by decide +kernel
theorem dX8_lots_26 : decode cX8_lots 26 = .ok (.aload_n 0, 1) := by decide +kernel
theorem dX8_lots_27 : decode cX8_lots 27 = .ok (.getfield 156, 3) := by decide +kernel
theorem dX8_lots_30 : decode cX8_lots 30 = .ok (.ifCond .ne 6, 3) := by decide +kernel
theorem dX8_lots_33 : decode cX8_lots 33 = .ok (.bipush (-4), 2) := by decide +kernel
theorem dX8_lots_35 : decode cX8_lots 35 = .ok (.ireturn, 1) := by decide +kernel
theorem dX8_lots_36 : decode cX8_lots 36 = .ok (.aload_n 0, 1) := by decide +kernel
theorem dX8_lots_37 : decode cX8_lots 37 = .ok (.getfield 7, 3) := by decide +kernel
theorem dX8_lots_40 : decode cX8_lots 40 = .ok (.iconst 0, 1) := by decide +kernel
theorem dX8_lots_41 : decode cX8_lots 41 = .ok (.iaload, 1) := by decide +kernel
theorem dX8_lots_42 : decode cX8_lots 42 = .ok (.iload_n 1, 1) := by decide +kernel
theorem dX8_lots_43 : decode cX8_lots 43 = .ok (.iadd, 1) := by decide +kernel
theorem dX8_lots_44 : decode cX8_lots 44 = .ok (.bipush 40, 2) := by decide +kernel
theorem dX8_lots_46 : decode cX8_lots 46 = .ok (.if_icmp .le 6, 3) := by decide +kernel
theorem dX8_lots_49 : decode cX8_lots 49 = .ok (.bipush (-2), 2) := by decide +kernel
theorem dX8_lots_51 : decode cX8_lots 51 = .ok (.ireturn, 1) := by decide +kernel
theorem dX8_lots_52 : decode cX8_lots 52 = .ok (.iload_n 2, 1) := by decide +kernel
theorem dX8_lots_53 : decode cX8_lots 53 = .ok (.i2l, 1) := by decide +kernel
theorem dX8_lots_54 : decode cX8_lots 54 = .ok (.lstore_n 3, 1) := by decide +kernel
theorem dX8_lots_55 : decode cX8_lots 55 = .ok (.iconst 0, 1) := by decide +kernel
theorem dX8_lots_56 : decode cX8_lots 56 = .ok (.istore 5, 2) := by decide +kernel
theorem dX8_lots_58 : decode cX8_lots 58 = .ok (.iload 5, 2) := by decide +kernel
theorem dX8_lots_60 : decode cX8_lots 60 = .ok (.iload_n 1, 1) := by decide +kernel
theorem dX8_lots_61 : decode cX8_lots 61 = .ok (.if_icmp .ge 131, 3) := by decide +kernel
theorem dX8_lots_64 : decode cX8_lots 64 = .ok (.lload_n 3, 1) := by decide +kernel
theorem dX8_lots_65 : decode cX8_lots 65 = .ok (.ldc2_w 315, 3) := by decide +kernel
theorem dX8_lots_68 : decode cX8_lots 68 = .ok (.lmul, 1) := by decide +kernel
theorem dX8_lots_69 : decode cX8_lots 69 = .ok (.ldc2_w 317, 3) := by decide +kernel
theorem dX8_lots_72 : decode cX8_lots 72 = .ok (.lrem, 1) := by decide +kernel
theorem dX8_lots_73 : decode cX8_lots 73 = .ok (.lstore_n 3, 1) := by decide +kernel
theorem dX8_lots_74 : decode cX8_lots 74 = .ok (.lload_n 3, 1) := by decide +kernel
theorem dX8_lots_75 : decode cX8_lots 75 = .ok (.aload_n 0, 1) := by decide +kernel
theorem dX8_lots_76 : decode cX8_lots 76 = .ok (.getfield 156, 3) := by decide +kernel
theorem dX8_lots_79 : decode cX8_lots 79 = .ok (.i2l, 1) := by decide +kernel
theorem dX8_lots_80 : decode cX8_lots 80 = .ok (.lrem, 1) := by decide +kernel
theorem dX8_lots_81 : decode cX8_lots 81 = .ok (.l2i, 1) := by decide +kernel
theorem dX8_lots_82 : decode cX8_lots 82 = .ok (.istore 6, 2) := by decide +kernel
theorem dX8_lots_84 : decode cX8_lots 84 = .ok (.lload_n 3, 1) := by decide +kernel
theorem dX8_lots_85 : decode cX8_lots 85 = .ok (.ldc2_w 319, 3) := by decide +kernel
theorem dX8_lots_88 : decode cX8_lots 88 = .ok (.ldiv, 1) := by decide +kernel
theorem dX8_lots_89 : decode cX8_lots 89 = .ok (.aload_n 0, 1) := by decide +kernel
theorem dX8_lots_90 : decode cX8_lots 90 = .ok (.getfield 159, 3) := by decide +kernel
theorem dX8_lots_93 : decode cX8_lots 93 = .ok (.i2l, 1) := by decide +kernel
theorem dX8_lots_94 : decode cX8_lots 94 = .ok (.lrem, 1) := by decide +kernel
theorem dX8_lots_95 : decode cX8_lots 95 = .ok (.l2i, 1) := by decide +kernel
theorem dX8_lots_96 : decode cX8_lots 96 = .ok (.istore 7, 2) := by decide +kernel
theorem dX8_lots_98 : decode cX8_lots 98 = .ok (.aload_n 0, 1) := by decide +kernel
theorem dX8_lots_99 : decode cX8_lots 99 = .ok (.invokevirtual 216, 3) := by decide +kernel
theorem dX8_lots_102 : decode cX8_lots 102 = .ok (.lload_n 3, 1) := by decide +kernel
theorem dX8_lots_103 : decode cX8_lots 103 = .ok (.ldc2_w 321, 3) := by decide +kernel
theorem dX8_lots_106 : decode cX8_lots 106 = .ok (.ldiv, 1) := by decide +kernel
theorem dX8_lots_107 : decode cX8_lots 107 = .ok (.ldc2_w 190, 3) := by decide +kernel
theorem dX8_lots_110 : decode cX8_lots 110 = .ok (.lrem, 1) := by decide +kernel
theorem dX8_lots_111 : decode cX8_lots 111 = .ok (.lconst 0, 1) := by decide +kernel
theorem dX8_lots_112 : decode cX8_lots 112 = .ok (.lcmp, 1) := by decide +kernel
theorem dX8_lots_113 : decode cX8_lots 113 = .ok (.ifCond .ne 12, 3) := by decide +kernel
theorem dX8_lots_116 : decode cX8_lots 116 = .ok (.aload_n 0, 1) := by decide +kernel
theorem dX8_lots_117 : decode cX8_lots 117 = .ok (.iload 6, 2) := by decide +kernel
theorem dX8_lots_119 : decode cX8_lots 119 = .ok (.invokevirtual 223, 3) := by decide +kernel
theorem dX8_lots_122 : decode cX8_lots 122 = .ok (.goto 64, 3) := by decide +kernel
theorem dX8_lots_125 : decode cX8_lots 125 = .ok (.aload_n 0, 1) := by decide +kernel
theorem dX8_lots_126 : decode cX8_lots 126 = .ok (.iconst 0, 1) := by decide +kernel
theorem dX8_lots_127 : decode cX8_lots 127 = .ok (.iload 6, 2) := by decide +kernel
theorem dX8_lots_129 : decode cX8_lots 129 = .ok (.iload 7, 2) := by decide +kernel
theorem dX8_lots_131 : decode cX8_lots 131 = .ok (.invokevirtual 184, 3) := by decide +kernel
theorem dX8_lots_134 : decode cX8_lots 134 = .ok (.ifCond .eq 35, 3) := by decide +kernel
theorem dX8_lots_137 : decode cX8_lots 137 = .ok (.aload_n 0, 1) := by decide +kernel
theorem dX8_lots_138 : decode cX8_lots 138 = .ok (.getfield 7, 3) := by decide +kernel
theorem dX8_lots_141 : decode cX8_lots 141 = .ok (.bipush 8, 2) := by decide +kernel
theorem dX8_lots_143 : decode cX8_lots 143 = .ok (.iload 6, 2) := by decide +kernel
theorem dX8_lots_145 : decode cX8_lots 145 = .ok (.iadd, 1) := by decide +kernel
theorem dX8_lots_146 : decode cX8_lots 146 = .ok (.iaload, 1) := by decide +kernel
theorem dX8_lots_147 : decode cX8_lots 147 = .ok (.aload_n 0, 1) := by decide +kernel
theorem dX8_lots_148 : decode cX8_lots 148 = .ok (.getfield 19, 3) := by decide +kernel
theorem dX8_lots_151 : decode cX8_lots 151 = .ok (.iload 7, 2) := by decide +kernel
theorem dX8_lots_153 : decode cX8_lots 153 = .ok (.iaload, 1) := by decide +kernel
theorem dX8_lots_154 : decode cX8_lots 154 = .ok (.if_icmp .ne 15, 3) := by decide +kernel
theorem dX8_lots_157 : decode cX8_lots 157 = .ok (.aload_n 0, 1) := by decide +kernel
theorem dX8_lots_158 : decode cX8_lots 158 = .ok (.iconst 0, 1) := by decide +kernel
theorem dX8_lots_159 : decode cX8_lots 159 = .ok (.iload 6, 2) := by decide +kernel
theorem dX8_lots_161 : decode cX8_lots 161 = .ok (.iload 7, 2) := by decide +kernel
theorem dX8_lots_163 : decode cX8_lots 163 = .ok (.invokevirtual 219, 3) := by decide +kernel
theorem dX8_lots_166 : decode cX8_lots 166 = .ok (.goto 20, 3) := by decide +kernel
theorem dX8_lots_169 : decode cX8_lots 169 = .ok (.aload_n 0, 1) := by decide +kernel
theorem dX8_lots_170 : decode cX8_lots 170 = .ok (.getfield 7, 3) := by decide +kernel
theorem dX8_lots_173 : decode cX8_lots 173 = .ok (.bipush 8, 2) := by decide +kernel
theorem dX8_lots_175 : decode cX8_lots 175 = .ok (.iload 6, 2) := by decide +kernel
theorem dX8_lots_177 : decode cX8_lots 177 = .ok (.iadd, 1) := by decide +kernel
theorem dX8_lots_178 : decode cX8_lots 178 = .ok (.aload_n 0, 1) := by decide +kernel
theorem dX8_lots_179 : decode cX8_lots 179 = .ok (.getfield 19, 3) := by decide +kernel
theorem dX8_lots_182 : decode cX8_lots 182 = .ok (.iload 7, 2) := by decide +kernel
theorem dX8_lots_184 : decode cX8_lots 184 = .ok (.iaload, 1) := by decide +kernel
theorem dX8_lots_185 : decode cX8_lots 185 = .ok (.iastore, 1) := by decide +kernel
theorem dX8_lots_186 : decode cX8_lots 186 = .ok (.iinc 5 1, 3) := by decide +kernel
theorem dX8_lots_189 : decode cX8_lots 189 = .ok (.goto (-131), 3) := by decide +kernel
theorem dX8_lots_192 : decode cX8_lots 192 = .ok (.aload_n 0, 1) := by decide +kernel
theorem dX8_lots_193 : decode cX8_lots 193 = .ok (.getfield 7, 3) := by decide +kernel
theorem dX8_lots_196 : decode cX8_lots 196 = .ok (.iconst 1, 1) := by decide +kernel
theorem dX8_lots_197 : decode cX8_lots 197 = .ok (.iaload, 1) := by decide +kernel
theorem dX8_lots_198 : decode cX8_lots 198 = .ok (.ireturn, 1) := by decide +kernel
theorem dX8_asked_0 : decode cX8_asked 0 = .ok (.aload_n 0, 1) := by decide +kernel
theorem dX8_asked_1 : decode cX8_asked 1 = .ok (.getfield 81, 3) := by decide +kernel
theorem dX8_asked_4 : decode cX8_asked 4 = .ok (.ireturn, 1) := by decide +kernel
theorem dX8_upper_0 : decode cX8_upper 0 = .ok (.aload_n 0, 1) := by decide +kernel
theorem dX8_upper_1 : decode cX8_upper 1 = .ok (.getfield 298, 3) := by decide +kernel
theorem dX8_upper_4 : decode cX8_upper 4 = .ok (.lreturn, 1) := by decide +kernel
theorem dX8_lower_0 : decode cX8_lower 0 = .ok (.aload_n 0, 1) := by decide +kernel
theorem dX8_lower_1 : decode cX8_lower 1 = .ok (.getfield 40, 3) := by decide +kernel
theorem dX8_lower_4 : decode cX8_lower 4 = .ok (.lreturn, 1) := by decide +kernel
theorem dX8_allBreath_0 : decode cX8_allBreath 0 = .ok (.iconst 0, 1) := by decide +kernel
theorem dX8_allBreath_1 : decode cX8_allBreath 1 = .ok (.istore_n 1, 1) := by decide +kernel
theorem dX8_allBreath_2 : decode cX8_allBreath 2 = .ok (.iconst 0, 1) := by decide +kernel
theorem dX8_allBreath_3 : decode cX8_allBreath 3 = .ok (.istore_n 2, 1) := by decide +kernel
theorem dX8_allBreath_4 : decode cX8_allBreath 4 = .ok (.iload_n 2, 1) := by decide +kernel
theorem dX8_allBreath_5 : decode cX8_allBreath 5 = .ok (.aload_n 0, 1) := by decide +kernel
theorem dX8_allBreath_6 : decode cX8_allBreath 6 = .ok (.getfield 156, 3) := by decide +kernel
theorem dX8_allBreath_9 : decode cX8_allBreath 9 = .ok (.if_icmp .ge 20, 3) := by decide +kernel
theorem dX8_allBreath_12 : decode cX8_allBreath 12 = .ok (.iload_n 1, 1) := by decide +kernel
theorem dX8_allBreath_13 : decode cX8_allBreath 13 = .ok (.aload_n 0, 1) := by decide +kernel
theorem dX8_allBreath_14 : decode cX8_allBreath 14 = .ok (.getfield 7, 3) := by decide +kernel
theorem dX8_allBreath_17 : decode cX8_allBreath 17 = .ok (.iconst 3, 1) := by decide +kernel
theorem dX8_allBreath_18 : decode cX8_allBreath 18 = .ok (.iload_n 2, 1) := by decide +kernel
theorem dX8_allBreath_19 : decode cX8_allBreath 19 = .ok (.iadd, 1) := by decide +kernel
theorem dX8_allBreath_20 : decode cX8_allBreath 20 = .ok (.iaload, 1) := by decide +kernel
theorem dX8_allBreath_21 : decode cX8_allBreath 21 = .ok (.iadd, 1) := by decide +kernel
theorem dX8_allBreath_22 : decode cX8_allBreath 22 = .ok (.istore_n 1, 1) := by decide +kernel
theorem dX8_allBreath_23 : decode cX8_allBreath 23 = .ok (.iinc 2 1, 3) := by decide +kernel
theorem dX8_allBreath_26 : decode cX8_allBreath 26 = .ok (.goto (-22), 3) := by decide +kernel
theorem dX8_allBreath_29 : decode cX8_allBreath 29 = .ok (.iload_n 1, 1) := by decide +kernel
theorem dX8_allBreath_30 : decode cX8_allBreath 30 = .ok (.ireturn, 1) := by decide +kernel
theorem dX8_those_0 : decode cX8_those 0 = .ok (.iconst 0, 1) := by decide +kernel
theorem dX8_those_1 : decode cX8_those 1 = .ok (.istore_n 2, 1) := by decide +kernel
theorem dX8_those_2 : decode cX8_those 2 = .ok (.iconst 0, 1) := by decide +kernel
theorem dX8_those_3 : decode cX8_those 3 = .ok (.istore_n 3, 1) := by decide +kernel
theorem dX8_those_4 : decode cX8_those 4 = .ok (.iload_n 3, 1) := by decide +kernel
theorem dX8_those_5 : decode cX8_those 5 = .ok (.aload_n 0, 1) := by decide +kernel
theorem dX8_those_6 : decode cX8_those 6 = .ok (.getfield 156, 3) := by decide +kernel
theorem dX8_those_9 : decode cX8_those 9 = .ok (.if_icmp .ge 26, 3) := by decide +kernel
theorem dX8_those_12 : decode cX8_those 12 = .ok (.iload_n 2, 1) := by decide +kernel
theorem dX8_those_13 : decode cX8_those 13 = .ok (.aload_n 0, 1) := by decide +kernel
theorem dX8_those_14 : decode cX8_those 14 = .ok (.iload_n 3, 1) := by decide +kernel
theorem dX8_those_15 : decode cX8_those 15 = .ok (.iload_n 1, 1) := by decide +kernel
theorem dX8_those_16 : decode cX8_those 16 = .ok (.invokevirtual 204, 3) := by decide +kernel
theorem dX8_those_19 : decode cX8_those 19 = .ok (.ifCond .eq 7, 3) := by decide +kernel
theorem dX8_those_22 : decode cX8_those 22 = .ok (.iconst 1, 1) := by decide +kernel
theorem dX8_those_23 : decode cX8_those 23 = .ok (.goto 4, 3) := by decide +kernel
theorem dX8_those_26 : decode cX8_those 26 = .ok (.iconst 0, 1) := by decide +kernel
theorem dX8_those_27 : decode cX8_those 27 = .ok (.iadd, 1) := by decide +kernel
theorem dX8_those_28 : decode cX8_those 28 = .ok (.istore_n 2, 1) := by decide +kernel
theorem dX8_those_29 : decode cX8_those 29 = .ok (.iinc 3 1, 3) := by decide +kernel
theorem dX8_those_32 : decode cX8_those 32 = .ok (.goto (-28), 3) := by decide +kernel
theorem dX8_those_35 : decode cX8_those 35 = .ok (.iload_n 2, 1) := by decide +kernel
theorem dX8_those_36 : decode cX8_those 36 = .ok (.ireturn, 1) := by decide +kernel
theorem dX8_thereOf_0 : decode cX8_thereOf 0 = .ok (.iconst 0, 1) := by decide +kernel
theorem dX8_thereOf_1 : decode cX8_thereOf 1 = .ok (.istore_n 2, 1) := by decide +kernel
theorem dX8_thereOf_2 : decode cX8_thereOf 2 = .ok (.iconst 0, 1) := by decide +kernel
theorem dX8_thereOf_3 : decode cX8_thereOf 3 = .ok (.istore_n 3, 1) := by decide +kernel
theorem dX8_thereOf_4 : decode cX8_thereOf 4 = .ok (.iload_n 3, 1) := by decide +kernel
theorem dX8_thereOf_5 : decode cX8_thereOf 5 = .ok (.bipush 6, 2) := by decide +kernel
theorem dX8_thereOf_7 : decode cX8_thereOf 7 = .ok (.if_icmp .ge 90, 3) := by decide +kernel
theorem dX8_thereOf_10 : decode cX8_thereOf 10 = .ok (.iload_n 2, 1) := by decide +kernel
theorem dX8_thereOf_11 : decode cX8_thereOf 11 = .ok (.iload_n 1, 1) := by decide +kernel
theorem dX8_thereOf_12 : decode cX8_thereOf 12 = .ok (.bipush 8, 2) := by decide +kernel
theorem dX8_thereOf_14 : decode cX8_thereOf 14 = .ok (.if_icmp .ne 20, 3) := by decide +kernel
theorem dX8_thereOf_17 : decode cX8_thereOf 17 = .ok (.aload_n 0, 1) := by decide +kernel
theorem dX8_thereOf_18 : decode cX8_thereOf 18 = .ok (.getfield 28, 3) := by decide +kernel
theorem dX8_thereOf_21 : decode cX8_thereOf 21 = .ok (.iload_n 3, 1) := by decide +kernel
theorem dX8_thereOf_22 : decode cX8_thereOf 22 = .ok (.iaload, 1) := by decide +kernel
theorem dX8_thereOf_23 : decode cX8_thereOf 23 = .ok (.ifCond .ge 7, 3) := by decide +kernel
theorem dX8_thereOf_26 : decode cX8_thereOf 26 = .ok (.iconst 0, 1) := by decide +kernel
theorem dX8_thereOf_27 : decode cX8_thereOf 27 = .ok (.goto 62, 3) := by decide +kernel
theorem dX8_thereOf_30 : decode cX8_thereOf 30 = .ok (.iconst 1, 1) := by decide +kernel
theorem dX8_thereOf_31 : decode cX8_thereOf 31 = .ok (.goto 58, 3) := by decide +kernel
theorem dX8_thereOf_34 : decode cX8_thereOf 34 = .ok (.iload_n 1, 1) := by decide +kernel
theorem dX8_thereOf_35 : decode cX8_thereOf 35 = .ok (.bipush 9, 2) := by decide +kernel
theorem dX8_thereOf_37 : decode cX8_thereOf 37 = .ok (.if_icmp .ne 25, 3) := by decide +kernel
theorem dX8_thereOf_40 : decode cX8_thereOf 40 = .ok (.iload_n 3, 1) := by decide +kernel
theorem dX8_thereOf_41 : decode cX8_thereOf 41 = .ok (.iconst 4, 1) := by decide +kernel
theorem dX8_thereOf_42 : decode cX8_thereOf 42 = .ok (.if_icmp .ge 16, 3) := by decide +kernel
theorem dX8_thereOf_45 : decode cX8_thereOf 45 = .ok (.aload_n 0, 1) := by decide +kernel
theorem dX8_thereOf_46 : decode cX8_thereOf 46 = .ok (.getfield 34, 3) := by decide +kernel
theorem dX8_thereOf_49 : decode cX8_thereOf 49 = .ok (.iload_n 3, 1) := by decide +kernel
theorem dX8_thereOf_50 : decode cX8_thereOf 50 = .ok (.iaload, 1) := by decide +kernel
theorem dX8_thereOf_51 : decode cX8_thereOf 51 = .ok (.ifCond .lt 7, 3) := by decide +kernel
theorem dX8_thereOf_54 : decode cX8_thereOf 54 = .ok (.iconst 1, 1) := by decide +kernel
theorem dX8_thereOf_55 : decode cX8_thereOf 55 = .ok (.goto 34, 3) := by decide +kernel
theorem dX8_thereOf_58 : decode cX8_thereOf 58 = .ok (.iconst 0, 1) := by decide +kernel
theorem dX8_thereOf_59 : decode cX8_thereOf 59 = .ok (.goto 30, 3) := by decide +kernel
theorem dX8_thereOf_62 : decode cX8_thereOf 62 = .ok (.iload_n 3, 1) := by decide +kernel
theorem dX8_thereOf_63 : decode cX8_thereOf 63 = .ok (.iconst 3, 1) := by decide +kernel
theorem dX8_thereOf_64 : decode cX8_thereOf 64 = .ok (.if_icmp .ge 24, 3) := by decide +kernel
theorem dX8_thereOf_67 : decode cX8_thereOf 67 = .ok (.aload_n 0, 1) := by decide +kernel
theorem dX8_thereOf_68 : decode cX8_thereOf 68 = .ok (.getfield 7, 3) := by decide +kernel
theorem dX8_thereOf_71 : decode cX8_thereOf 71 = .ok (.sipush 493, 3) := by decide +kernel
theorem dX8_thereOf_74 : decode cX8_thereOf 74 = .ok (.iconst 1, 1) := by decide +kernel
theorem dX8_thereOf_75 : decode cX8_thereOf 75 = .ok (.iload_n 3, 1) := by decide +kernel
theorem dX8_thereOf_76 : decode cX8_thereOf 76 = .ok (.iadd, 1) := by decide +kernel
theorem dX8_thereOf_77 : decode cX8_thereOf 77 = .ok (.imul, 1) := by decide +kernel
theorem dX8_thereOf_78 : decode cX8_thereOf 78 = .ok (.iconst 0, 1) := by decide +kernel
theorem dX8_thereOf_79 : decode cX8_thereOf 79 = .ok (.iadd, 1) := by decide +kernel
theorem dX8_thereOf_80 : decode cX8_thereOf 80 = .ok (.iaload, 1) := by decide +kernel
theorem dX8_thereOf_81 : decode cX8_thereOf 81 = .ok (.ifCond .lt 7, 3) := by decide +kernel
theorem dX8_thereOf_84 : decode cX8_thereOf 84 = .ok (.iconst 1, 1) := by decide +kernel
theorem dX8_thereOf_85 : decode cX8_thereOf 85 = .ok (.goto 4, 3) := by decide +kernel
theorem dX8_thereOf_88 : decode cX8_thereOf 88 = .ok (.iconst 0, 1) := by decide +kernel
theorem dX8_thereOf_89 : decode cX8_thereOf 89 = .ok (.iadd, 1) := by decide +kernel
theorem dX8_thereOf_90 : decode cX8_thereOf 90 = .ok (.istore_n 2, 1) := by decide +kernel
theorem dX8_thereOf_91 : decode cX8_thereOf 91 = .ok (.iinc 3 1, 3) := by decide +kernel
theorem dX8_thereOf_94 : decode cX8_thereOf 94 = .ok (.goto (-90), 3) := by decide +kernel
theorem dX8_thereOf_97 : decode cX8_thereOf 97 = .ok (.iload_n 2, 1) := by decide +kernel
theorem dX8_thereOf_98 : decode cX8_thereOf 98 = .ok (.ireturn, 1) := by decide +kernel
theorem dX8_countOf_0 : decode cX8_countOf 0 = .ok (.iload_n 1, 1) := by decide +kernel
theorem dX8_countOf_1 : decode cX8_countOf 1 = .ok (.tableswitch 95 0 7 #[47, 52, 57, 64, 71, 78, 83, 89], 47) := by decide +kernel
theorem dX8_countOf_48 : decode cX8_countOf 48 = .ok (.aload_n 0, 1) := by decide +kernel
theorem dX8_countOf_49 : decode cX8_countOf 49 = .ok (.getfield 156, 3) := by decide +kernel
theorem dX8_countOf_52 : decode cX8_countOf 52 = .ok (.ireturn, 1) := by decide +kernel
theorem dX8_countOf_53 : decode cX8_countOf 53 = .ok (.aload_n 0, 1) := by decide +kernel
theorem dX8_countOf_54 : decode cX8_countOf 54 = .ok (.getfield 159, 3) := by decide +kernel
theorem dX8_countOf_57 : decode cX8_countOf 57 = .ok (.ireturn, 1) := by decide +kernel
theorem dX8_countOf_58 : decode cX8_countOf 58 = .ok (.aload_n 0, 1) := by decide +kernel
theorem dX8_countOf_59 : decode cX8_countOf 59 = .ok (.getfield 7, 3) := by decide +kernel
theorem dX8_countOf_62 : decode cX8_countOf 62 = .ok (.iconst 0, 1) := by decide +kernel
theorem dX8_countOf_63 : decode cX8_countOf 63 = .ok (.iaload, 1) := by decide +kernel
theorem dX8_countOf_64 : decode cX8_countOf 64 = .ok (.ireturn, 1) := by decide +kernel
theorem dX8_countOf_65 : decode cX8_countOf 65 = .ok (.aload_n 0, 1) := by decide +kernel
theorem dX8_countOf_66 : decode cX8_countOf 66 = .ok (.getfield 7, 3) := by decide +kernel
theorem dX8_countOf_69 : decode cX8_countOf 69 = .ok (.iconst 1, 1) := by decide +kernel
theorem dX8_countOf_70 : decode cX8_countOf 70 = .ok (.iaload, 1) := by decide +kernel
theorem dX8_countOf_71 : decode cX8_countOf 71 = .ok (.ireturn, 1) := by decide +kernel
theorem dX8_countOf_72 : decode cX8_countOf 72 = .ok (.aload_n 0, 1) := by decide +kernel
theorem dX8_countOf_73 : decode cX8_countOf 73 = .ok (.getfield 7, 3) := by decide +kernel
theorem dX8_countOf_76 : decode cX8_countOf 76 = .ok (.iconst 2, 1) := by decide +kernel
theorem dX8_countOf_77 : decode cX8_countOf 77 = .ok (.iaload, 1) := by decide +kernel
theorem dX8_countOf_78 : decode cX8_countOf 78 = .ok (.ireturn, 1) := by decide +kernel
theorem dX8_countOf_79 : decode cX8_countOf 79 = .ok (.aload_n 0, 1) := by decide +kernel
theorem dX8_countOf_80 : decode cX8_countOf 80 = .ok (.invokevirtual 323, 3) := by decide +kernel
theorem dX8_countOf_83 : decode cX8_countOf 83 = .ok (.ireturn, 1) := by decide +kernel
theorem dX8_countOf_84 : decode cX8_countOf 84 = .ok (.aload_n 0, 1) := by decide +kernel
theorem dX8_countOf_85 : decode cX8_countOf 85 = .ok (.iconst 1, 1) := by decide +kernel
theorem dX8_countOf_86 : decode cX8_countOf 86 = .ok (.invokevirtual 326, 3) := by decide +kernel
theorem dX8_countOf_89 : decode cX8_countOf 89 = .ok (.ireturn, 1) := by decide +kernel
theorem dX8_countOf_90 : decode cX8_countOf 90 = .ok (.aload_n 0, 1) := by decide +kernel
theorem dX8_countOf_91 : decode cX8_countOf 91 = .ok (.iconst 2, 1) := by decide +kernel
theorem dX8_countOf_92 : decode cX8_countOf 92 = .ok (.invokevirtual 326, 3) := by decide +kernel
theorem dX8_countOf_95 : decode cX8_countOf 95 = .ok (.ireturn, 1) := by decide +kernel
theorem dX8_countOf_96 : decode cX8_countOf 96 = .ok (.aload_n 0, 1) := by decide +kernel
theorem dX8_countOf_97 : decode cX8_countOf 97 = .ok (.iload_n 1, 1) := by decide +kernel
theorem dX8_countOf_98 : decode cX8_countOf 98 = .ok (.invokevirtual 329, 3) := by decide +kernel
theorem dX8_countOf_101 : decode cX8_countOf 101 = .ok (.ireturn, 1) := by decide +kernel
theorem dX8_count_0 : decode cX8_count 0 = .ok (.iload_n 1, 1) := by decide +kernel
theorem dX8_count_1 : decode cX8_count 1 = .ok (.i2l, 1) := by decide +kernel
theorem dX8_count_2 : decode cX8_count 2 = .ok (.lconst 0, 1) := by decide +kernel
theorem dX8_count_3 : decode cX8_count 3 = .ok (.ldc2_w 332, 3) := by decide +kernel
theorem dX8_count_6 : decode cX8_count 6 = .ok (.invokestatic 86, 3) := by decide +kernel
theorem dX8_count_9 : decode cX8_count 9 = .ok (.ifCond .eq 11, 3) := by decide +kernel
theorem dX8_count_12 : decode cX8_count 12 = .ok (.aload_n 0, 1) := by decide +kernel
theorem dX8_count_13 : decode cX8_count 13 = .ok (.iload_n 1, 1) := by decide +kernel
theorem dX8_count_14 : decode cX8_count 14 = .ok (.invokevirtual 334, 3) := by decide +kernel
theorem dX8_count_17 : decode cX8_count 17 = .ok (.goto 4, 3) := by decide +kernel
theorem dX8_count_20 : decode cX8_count 20 = .ok (.iconst (-1), 1) := by decide +kernel
theorem dX8_count_21 : decode cX8_count 21 = .ok (.ireturn, 1) := by decide +kernel
theorem dX8_finding_0 : decode cX8_finding 0 = .ok (.aload_n 0, 1) := by decide +kernel
theorem dX8_finding_1 : decode cX8_finding 1 = .ok (.getfield 77, 3) := by decide +kernel
theorem dX8_finding_4 : decode cX8_finding 4 = .ok (.ireturn, 1) := by decide +kernel
theorem dX8_findings_0 : decode cX8_findings 0 = .ok (.iload_n 1, 1) := by decide +kernel
theorem dX8_findings_1 : decode cX8_findings 1 = .ok (.i2l, 1) := by decide +kernel
theorem dX8_findings_2 : decode cX8_findings 2 = .ok (.lconst 1, 1) := by decide +kernel
theorem dX8_findings_3 : decode cX8_findings 3 = .ok (.ldc2_w 84, 3) := by decide +kernel
theorem dX8_findings_6 : decode cX8_findings 6 = .ok (.invokestatic 86, 3) := by decide +kernel
theorem dX8_findings_9 : decode cX8_findings 9 = .ok (.ifCond .eq 12, 3) := by decide +kernel
theorem dX8_findings_12 : decode cX8_findings 12 = .ok (.aload_n 0, 1) := by decide +kernel
theorem dX8_findings_13 : decode cX8_findings 13 = .ok (.getfield 44, 3) := by decide +kernel
theorem dX8_findings_16 : decode cX8_findings 16 = .ok (.iload_n 1, 1) := by decide +kernel
theorem dX8_findings_17 : decode cX8_findings 17 = .ok (.iaload, 1) := by decide +kernel
theorem dX8_findings_18 : decode cX8_findings 18 = .ok (.goto 4, 3) := by decide +kernel
theorem dX8_findings_21 : decode cX8_findings 21 = .ok (.iconst (-1), 1) := by decide +kernel
theorem dX8_findings_22 : decode cX8_findings 22 = .ok (.ireturn, 1) := by decide +kernel
theorem dX8_digest_0 : decode cX8_digest 0 = .ok (.ldc2_w 337, 3) := by decide +kernel
theorem dX8_digest_3 : decode cX8_digest 3 = .ok (.lstore_n 1, 1) := by decide +kernel
theorem dX8_digest_4 : decode cX8_digest 4 = .ok (.iconst 0, 1) := by decide +kernel
theorem dX8_digest_5 : decode cX8_digest 5 = .ok (.istore_n 3, 1) := by decide +kernel
theorem dX8_digest_6 : decode cX8_digest 6 = .ok (.iload_n 3, 1) := by decide +kernel
theorem dX8_digest_7 : decode cX8_digest 7 = .ok (.bipush 11, 2) := by decide +kernel
theorem dX8_digest_9 : decode cX8_digest 9 = .ok (.if_icmp .ge 22, 3) := by decide +kernel
theorem dX8_digest_12 : decode cX8_digest 12 = .ok (.ldc2_w 339, 3) := by decide +kernel
theorem dX8_digest_15 : decode cX8_digest 15 = .ok (.lload_n 1, 1) := by decide +kernel
theorem dX8_digest_16 : decode cX8_digest 16 = .ok (.lmul, 1) := by decide +kernel
theorem dX8_digest_17 : decode cX8_digest 17 = .ok (.aload_n 0, 1) := by decide +kernel
theorem dX8_digest_18 : decode cX8_digest 18 = .ok (.iload_n 3, 1) := by decide +kernel
theorem dX8_digest_19 : decode cX8_digest 19 = .ok (.invokevirtual 334, 3) := by decide +kernel
theorem dX8_digest_22 : decode cX8_digest 22 = .ok (.i2l, 1) := by decide +kernel
theorem dX8_digest_23 : decode cX8_digest 23 = .ok (.ladd, 1) := by decide +kernel
theorem dX8_digest_24 : decode cX8_digest 24 = .ok (.lstore_n 1, 1) := by decide +kernel
theorem dX8_digest_25 : decode cX8_digest 25 = .ok (.iinc 3 1, 3) := by decide +kernel
theorem dX8_digest_28 : decode cX8_digest 28 = .ok (.goto (-22), 3) := by decide +kernel
theorem dX8_digest_31 : decode cX8_digest 31 = .ok (.iconst 0, 1) := by decide +kernel
theorem dX8_digest_32 : decode cX8_digest 32 = .ok (.istore_n 3, 1) := by decide +kernel
theorem dX8_digest_33 : decode cX8_digest 33 = .ok (.iload_n 3, 1) := by decide +kernel
theorem dX8_digest_34 : decode cX8_digest 34 = .ok (.iconst 5, 1) := by decide +kernel
theorem dX8_digest_35 : decode cX8_digest 35 = .ok (.aload_n 0, 1) := by decide +kernel
theorem dX8_digest_36 : decode cX8_digest 36 = .ok (.getfield 156, 3) := by decide +kernel
theorem dX8_digest_39 : decode cX8_digest 39 = .ok (.imul, 1) := by decide +kernel
theorem dX8_digest_40 : decode cX8_digest 40 = .ok (.if_icmp .ge 27, 3) := by decide +kernel
theorem dX8_digest_43 : decode cX8_digest 43 = .ok (.ldc2_w 339, 3) := by decide +kernel
