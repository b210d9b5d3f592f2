theorem dX7_guildTurn_6 : decode cX7_guildTurn 6 = .ok (.if_icmp .le 5, 3) := by decide +kernel
theorem dX7_guildTurn_9 : decode cX7_guildTurn 9 = .ok (.iconst 0, 1) := by decide +kernel
theorem dX7_guildTurn_10 : decode cX7_guildTurn 10 = .ok (.ireturn, 1) := by decide +kernel
theorem dX7_guildTurn_11 : decode cX7_guildTurn 11 = .ok (.aload_n 0, 1) := by decide +kernel
theorem dX7_guildTurn_12 : decode cX7_guildTurn 12 = .ok (.iload_n 1, 1) := by decide +kernel
theorem dX7_guildTurn_13 : decode cX7_guildTurn 13 = .ok (.iconst 0, 1) := by decide +kernel
theorem dX7_guildTurn_14 : decode cX7_guildTurn 14 = .ok (.invokevirtual 393, 3) := by decide +kernel
theorem dX7_guildTurn_17 : decode cX7_guildTurn 17 = .ok (.istore_n 2, 1) := by decide +kernel
theorem dX7_guildTurn_18 : decode cX7_guildTurn 18 = .ok (.iconst 0, 1) := by decide +kernel
theorem dX7_guildTurn_19 : decode cX7_guildTurn 19 = .ok (.istore_n 3, 1) := by decide +kernel
theorem dX7_guildTurn_20 : decode cX7_guildTurn 20 = .ok (.iload_n 3, 1) := by decide +kernel
theorem dX7_guildTurn_21 : decode cX7_guildTurn 21 = .ok (.aload_n 0, 1) := by decide +kernel
theorem dX7_guildTurn_22 : decode cX7_guildTurn 22 = .ok (.getfield 24, 3) := by decide +kernel
theorem dX7_guildTurn_25 : decode cX7_guildTurn 25 = .ok (.getfield 214, 3) := by decide +kernel
theorem dX7_guildTurn_28 : decode cX7_guildTurn 28 = .ok (.if_icmp .ge 61, 3) := by decide +kernel
theorem dX7_guildTurn_31 : decode cX7_guildTurn 31 = .ok (.iconst 0, 1) := by decide +kernel
theorem dX7_guildTurn_32 : decode cX7_guildTurn 32 = .ok (.istore 4, 2) := by decide +kernel
theorem dX7_guildTurn_34 : decode cX7_guildTurn 34 = .ok (.iload 4, 2) := by decide +kernel
theorem dX7_guildTurn_36 : decode cX7_guildTurn 36 = .ok (.aload_n 0, 1) := by decide +kernel
theorem dX7_guildTurn_37 : decode cX7_guildTurn 37 = .ok (.getfield 24, 3) := by decide +kernel
theorem dX7_guildTurn_40 : decode cX7_guildTurn 40 = .ok (.getfield 148, 3) := by decide +kernel
theorem dX7_guildTurn_43 : decode cX7_guildTurn 43 = .ok (.if_icmp .ge 40, 3) := by decide +kernel
theorem dX7_guildTurn_46 : decode cX7_guildTurn 46 = .ok (.aload_n 0, 1) := by decide +kernel
theorem dX7_guildTurn_47 : decode cX7_guildTurn 47 = .ok (.getfield 38, 3) := by decide +kernel
theorem dX7_guildTurn_50 : decode cX7_guildTurn 50 = .ok (.aload_n 0, 1) := by decide +kernel
theorem dX7_guildTurn_51 : decode cX7_guildTurn 51 = .ok (.getfield 24, 3) := by decide +kernel
theorem dX7_guildTurn_54 : decode cX7_guildTurn 54 = .ok (.iload_n 3, 1) := by decide +kernel
theorem dX7_guildTurn_55 : decode cX7_guildTurn 55 = .ok (.iload 4, 2) := by decide +kernel
theorem dX7_guildTurn_57 : decode cX7_guildTurn 57 = .ok (.invokevirtual 341, 3) := by decide +kernel
theorem dX7_guildTurn_60 : decode cX7_guildTurn 60 = .ok (.ifCond .eq 17, 3) := by decide +kernel
theorem dX7_guildTurn_63 : decode cX7_guildTurn 63 = .ok (.iload_n 2, 1) := by decide +kernel
theorem dX7_guildTurn_64 : decode cX7_guildTurn 64 = .ok (.aload_n 0, 1) := by decide +kernel
theorem dX7_guildTurn_65 : decode cX7_guildTurn 65 = .ok (.iload_n 3, 1) := by decide +kernel
theorem dX7_guildTurn_66 : decode cX7_guildTurn 66 = .ok (.iload 4, 2) := by decide +kernel
theorem dX7_guildTurn_68 : decode cX7_guildTurn 68 = .ok (.iload_n 1, 1) := by decide +kernel
theorem dX7_guildTurn_69 : decode cX7_guildTurn 69 = .ok (.iload_n 2, 1) := by decide +kernel
theorem dX7_guildTurn_70 : decode cX7_guildTurn 70 = .ok (.invokevirtual 396, 3) := by decide +kernel
theorem dX7_guildTurn_73 : decode cX7_guildTurn 73 = .ok (.invokestatic 324, 3) := by decide +kernel
theorem dX7_guildTurn_76 : decode cX7_guildTurn 76 = .ok (.istore_n 2, 1) := by decide +kernel
theorem dX7_guildTurn_77 : decode cX7_guildTurn 77 = .ok (.iinc 4 1, 3) := by decide +kernel
theorem dX7_guildTurn_80 : decode cX7_guildTurn 80 = .ok (.goto (-46), 3) := by decide +kernel
theorem dX7_guildTurn_83 : decode cX7_guildTurn 83 = .ok (.iinc 3 1, 3) := by decide +kernel
theorem dX7_guildTurn_86 : decode cX7_guildTurn 86 = .ok (.goto (-66), 3) := by decide +kernel
theorem dX7_guildTurn_89 : decode cX7_guildTurn 89 = .ok (.iload_n 2, 1) := by decide +kernel
theorem dX7_guildTurn_90 : decode cX7_guildTurn 90 = .ok (.ireturn, 1) := by decide +kernel
theorem dX7_goldOfTurn_0 : decode cX7_goldOfTurn 0 = .ok (.aload_n 0, 1) := by decide +kernel
theorem dX7_goldOfTurn_1 : decode cX7_goldOfTurn 1 = .ok (.getfield 24, 3) := by decide +kernel
theorem dX7_goldOfTurn_4 : decode cX7_goldOfTurn 4 = .ok (.iload_n 1, 1) := by decide +kernel
theorem dX7_goldOfTurn_5 : decode cX7_goldOfTurn 5 = .ok (.iload_n 2, 1) := by decide +kernel
theorem dX7_goldOfTurn_6 : decode cX7_goldOfTurn 6 = .ok (.invokevirtual 221, 3) := by decide +kernel
theorem dX7_goldOfTurn_9 : decode cX7_goldOfTurn 9 = .ok (.istore 5, 2) := by decide +kernel
theorem dX7_goldOfTurn_11 : decode cX7_goldOfTurn 11 = .ok (.iload_n 3, 1) := by decide +kernel
theorem dX7_goldOfTurn_12 : decode cX7_goldOfTurn 12 = .ok (.iconst 1, 1) := by decide +kernel
theorem dX7_goldOfTurn_13 : decode cX7_goldOfTurn 13 = .ok (.if_icmp .gt 6, 3) := by decide +kernel
theorem dX7_goldOfTurn_16 : decode cX7_goldOfTurn 16 = .ok (.iload 5, 2) := by decide +kernel
theorem dX7_goldOfTurn_18 : decode cX7_goldOfTurn 18 = .ok (.ireturn, 1) := by decide +kernel
theorem dX7_goldOfTurn_19 : decode cX7_goldOfTurn 19 = .ok (.aload_n 0, 1) := by decide +kernel
theorem dX7_goldOfTurn_20 : decode cX7_goldOfTurn 20 = .ok (.getfield 38, 3) := by decide +kernel
theorem dX7_goldOfTurn_23 : decode cX7_goldOfTurn 23 = .ok (.getfield 201, 3) := by decide +kernel
theorem dX7_goldOfTurn_26 : decode cX7_goldOfTurn 26 = .ok (.iload_n 1, 1) := by decide +kernel
theorem dX7_goldOfTurn_27 : decode cX7_goldOfTurn 27 = .ok (.iaload, 1) := by decide +kernel
theorem dX7_goldOfTurn_28 : decode cX7_goldOfTurn 28 = .ok (.istore 6, 2) := by decide +kernel
theorem dX7_goldOfTurn_30 : decode cX7_goldOfTurn 30 = .ok (.aload_n 0, 1) := by decide +kernel
theorem dX7_goldOfTurn_31 : decode cX7_goldOfTurn 31 = .ok (.getfield 38, 3) := by decide +kernel
theorem dX7_goldOfTurn_34 : decode cX7_goldOfTurn 34 = .ok (.getfield 228, 3) := by decide +kernel
theorem dX7_goldOfTurn_37 : decode cX7_goldOfTurn 37 = .ok (.istore 7, 2) := by decide +kernel
theorem dX7_goldOfTurn_39 : decode cX7_goldOfTurn 39 = .ok (.aload_n 0, 1) := by decide +kernel
theorem dX7_goldOfTurn_40 : decode cX7_goldOfTurn 40 = .ok (.getfield 38, 3) := by decide +kernel
theorem dX7_goldOfTurn_43 : decode cX7_goldOfTurn 43 = .ok (.aload_n 0, 1) := by decide +kernel
theorem dX7_goldOfTurn_44 : decode cX7_goldOfTurn 44 = .ok (.getfield 24, 3) := by decide +kernel
theorem dX7_goldOfTurn_47 : decode cX7_goldOfTurn 47 = .ok (.iload_n 1, 1) := by decide +kernel
theorem dX7_goldOfTurn_48 : decode cX7_goldOfTurn 48 = .ok (.iload_n 2, 1) := by decide +kernel
theorem dX7_goldOfTurn_49 : decode cX7_goldOfTurn 49 = .ok (.invokevirtual 381, 3) := by decide +kernel
theorem dX7_goldOfTurn_52 : decode cX7_goldOfTurn 52 = .ok (.iload 5, 2) := by decide +kernel
theorem dX7_goldOfTurn_54 : decode cX7_goldOfTurn 54 = .ok (.aload_n 0, 1) := by decide +kernel
theorem dX7_goldOfTurn_55 : decode cX7_goldOfTurn 55 = .ok (.iload_n 3, 1) := by decide +kernel
theorem dX7_goldOfTurn_56 : decode cX7_goldOfTurn 56 = .ok (.iload 4, 2) := by decide +kernel
theorem dX7_goldOfTurn_58 : decode cX7_goldOfTurn 58 = .ok (.iload 5, 2) := by decide +kernel
theorem dX7_goldOfTurn_60 : decode cX7_goldOfTurn 60 = .ok (.isub, 1) := by decide +kernel
theorem dX7_goldOfTurn_61 : decode cX7_goldOfTurn 61 = .ok (.invokevirtual 393, 3) := by decide +kernel
theorem dX7_goldOfTurn_64 : decode cX7_goldOfTurn 64 = .ok (.iadd, 1) := by decide +kernel
theorem dX7_goldOfTurn_65 : decode cX7_goldOfTurn 65 = .ok (.istore 5, 2) := by decide +kernel
theorem dX7_goldOfTurn_67 : decode cX7_goldOfTurn 67 = .ok (.aload_n 0, 1) := by decide +kernel
theorem dX7_goldOfTurn_68 : decode cX7_goldOfTurn 68 = .ok (.getfield 38, 3) := by decide +kernel
theorem dX7_goldOfTurn_71 : decode cX7_goldOfTurn 71 = .ok (.getfield 201, 3) := by decide +kernel
theorem dX7_goldOfTurn_74 : decode cX7_goldOfTurn 74 = .ok (.iload_n 1, 1) := by decide +kernel
theorem dX7_goldOfTurn_75 : decode cX7_goldOfTurn 75 = .ok (.iload 6, 2) := by decide +kernel
theorem dX7_goldOfTurn_77 : decode cX7_goldOfTurn 77 = .ok (.iastore, 1) := by decide +kernel
theorem dX7_goldOfTurn_78 : decode cX7_goldOfTurn 78 = .ok (.aload_n 0, 1) := by decide +kernel
theorem dX7_goldOfTurn_79 : decode cX7_goldOfTurn 79 = .ok (.getfield 38, 3) := by decide +kernel
theorem dX7_goldOfTurn_82 : decode cX7_goldOfTurn 82 = .ok (.iload 7, 2) := by decide +kernel
theorem dX7_goldOfTurn_84 : decode cX7_goldOfTurn 84 = .ok (.putfield 228, 3) := by decide +kernel
theorem dX7_goldOfTurn_87 : decode cX7_goldOfTurn 87 = .ok (.iload 5, 2) := by decide +kernel
theorem dX7_goldOfTurn_89 : decode cX7_goldOfTurn 89 = .ok (.ireturn, 1) := by decide +kernel
theorem dX7_strikeTurn_0 : decode cX7_strikeTurn 0 = .ok (.iload_n 1, 1) := by decide +kernel
theorem dX7_strikeTurn_1 : decode cX7_strikeTurn 1 = .ok (.iconst 1, 1) := by decide +kernel
theorem dX7_strikeTurn_2 : decode cX7_strikeTurn 2 = .ok (.if_icmp .gt 5, 3) := by decide +kernel
theorem dX7_strikeTurn_5 : decode cX7_strikeTurn 5 = .ok (.iconst 0, 1) := by decide +kernel
theorem dX7_strikeTurn_6 : decode cX7_strikeTurn 6 = .ok (.ireturn, 1) := by decide +kernel
theorem dX7_strikeTurn_7 : decode cX7_strikeTurn 7 = .ok (.aload_n 0, 1) := by decide +kernel
theorem dX7_strikeTurn_8 : decode cX7_strikeTurn 8 = .ok (.iload_n 1, 1) := by decide +kernel
theorem dX7_strikeTurn_9 : decode cX7_strikeTurn 9 = .ok (.iconst 1, 1) := by decide +kernel
theorem dX7_strikeTurn_10 : decode cX7_strikeTurn 10 = .ok (.isub, 1) := by decide +kernel
theorem dX7_strikeTurn_11 : decode cX7_strikeTurn 11 = .ok (.invokevirtual 279, 3) := by decide +kernel
theorem dX7_strikeTurn_14 : decode cX7_strikeTurn 14 = .ok (.istore_n 3, 1) := by decide +kernel
theorem dX7_strikeTurn_15 : decode cX7_strikeTurn 15 = .ok (.iconst 0, 1) := by decide +kernel
theorem dX7_strikeTurn_16 : decode cX7_strikeTurn 16 = .ok (.istore 4, 2) := by decide +kernel
theorem dX7_strikeTurn_18 : decode cX7_strikeTurn 18 = .ok (.iload 4, 2) := by decide +kernel
theorem dX7_strikeTurn_20 : decode cX7_strikeTurn 20 = .ok (.aload_n 0, 1) := by decide +kernel
theorem dX7_strikeTurn_21 : decode cX7_strikeTurn 21 = .ok (.getfield 24, 3) := by decide +kernel
theorem dX7_strikeTurn_24 : decode cX7_strikeTurn 24 = .ok (.getfield 214, 3) := by decide +kernel
theorem dX7_strikeTurn_27 : decode cX7_strikeTurn 27 = .ok (.if_icmp .ge 61, 3) := by decide +kernel
theorem dX7_strikeTurn_30 : decode cX7_strikeTurn 30 = .ok (.iload_n 3, 1) := by decide +kernel
theorem dX7_strikeTurn_31 : decode cX7_strikeTurn 31 = .ok (.iload_n 2, 1) := by decide +kernel
theorem dX7_strikeTurn_32 : decode cX7_strikeTurn 32 = .ok (.if_icmp .le 56, 3) := by decide +kernel
theorem dX7_strikeTurn_35 : decode cX7_strikeTurn 35 = .ok (.aload_n 0, 1) := by decide +kernel
theorem dX7_strikeTurn_36 : decode cX7_strikeTurn 36 = .ok (.getfield 38, 3) := by decide +kernel
theorem dX7_strikeTurn_39 : decode cX7_strikeTurn 39 = .ok (.getfield 201, 3) := by decide +kernel
theorem dX7_strikeTurn_42 : decode cX7_strikeTurn 42 = .ok (.iload 4, 2) := by decide +kernel
theorem dX7_strikeTurn_44 : decode cX7_strikeTurn 44 = .ok (.iaload, 1) := by decide +kernel
theorem dX7_strikeTurn_45 : decode cX7_strikeTurn 45 = .ok (.istore 5, 2) := by decide +kernel
theorem dX7_strikeTurn_47 : decode cX7_strikeTurn 47 = .ok (.aload_n 0, 1) := by decide +kernel
theorem dX7_strikeTurn_48 : decode cX7_strikeTurn 48 = .ok (.getfield 38, 3) := by decide +kernel
theorem dX7_strikeTurn_51 : decode cX7_strikeTurn 51 = .ok (.getfield 201, 3) := by decide +kernel
theorem dX7_strikeTurn_54 : decode cX7_strikeTurn 54 = .ok (.iload 4, 2) := by decide +kernel
theorem dX7_strikeTurn_56 : decode cX7_strikeTurn 56 = .ok (.iconst 0, 1) := by decide +kernel
theorem dX7_strikeTurn_57 : decode cX7_strikeTurn 57 = .ok (.iastore, 1) := by decide +kernel
theorem dX7_strikeTurn_58 : decode cX7_strikeTurn 58 = .ok (.iload_n 3, 1) := by decide +kernel
theorem dX7_strikeTurn_59 : decode cX7_strikeTurn 59 = .ok (.aload_n 0, 1) := by decide +kernel
theorem dX7_strikeTurn_60 : decode cX7_strikeTurn 60 = .ok (.iload_n 1, 1) := by decide +kernel
theorem dX7_strikeTurn_61 : decode cX7_strikeTurn 61 = .ok (.iconst 1, 1) := by decide +kernel
theorem dX7_strikeTurn_62 : decode cX7_strikeTurn 62 = .ok (.isub, 1) := by decide +kernel
theorem dX7_strikeTurn_63 : decode cX7_strikeTurn 63 = .ok (.invokevirtual 279, 3) := by decide +kernel
theorem dX7_strikeTurn_66 : decode cX7_strikeTurn 66 = .ok (.invokestatic 387, 3) := by decide +kernel
theorem dX7_strikeTurn_69 : decode cX7_strikeTurn 69 = .ok (.istore_n 3, 1) := by decide +kernel
theorem dX7_strikeTurn_70 : decode cX7_strikeTurn 70 = .ok (.aload_n 0, 1) := by decide +kernel
theorem dX7_strikeTurn_71 : decode cX7_strikeTurn 71 = .ok (.getfield 38, 3) := by decide +kernel
theorem dX7_strikeTurn_74 : decode cX7_strikeTurn 74 = .ok (.getfield 201, 3) := by decide +kernel
theorem dX7_strikeTurn_77 : decode cX7_strikeTurn 77 = .ok (.iload 4, 2) := by decide +kernel
theorem dX7_strikeTurn_79 : decode cX7_strikeTurn 79 = .ok (.iload 5, 2) := by decide +kernel
theorem dX7_strikeTurn_81 : decode cX7_strikeTurn 81 = .ok (.iastore, 1) := by decide +kernel
theorem dX7_strikeTurn_82 : decode cX7_strikeTurn 82 = .ok (.iinc 4 1, 3) := by decide +kernel
theorem dX7_strikeTurn_85 : decode cX7_strikeTurn 85 = .ok (.goto (-67), 3) := by decide +kernel
theorem dX7_strikeTurn_88 : decode cX7_strikeTurn 88 = .ok (.iload_n 3, 1) := by decide +kernel
theorem dX7_strikeTurn_89 : decode cX7_strikeTurn 89 = .ok (.ireturn, 1) := by decide +kernel
theorem dX8_init_0 : decode cX8_init 0 = .ok (.aload_n 0, 1) := by decide +kernel
theorem dX8_init_1 : decode cX8_init 1 = .ok (.invokespecial 1, 3) := by decide +kernel
theorem dX8_init_4 : decode cX8_init 4 = .ok (.aload_n 0, 1) := by decide +kernel
theorem dX8_init_5 : decode cX8_init 5 = .ok (.sipush 1998, 3) := by decide +kernel
theorem dX8_init_8 : decode cX8_init 8 = .ok (.newarray .int, 2) := by decide +kernel
theorem dX8_init_10 : decode cX8_init 10 = .ok (.putfield 7, 3) := by decide +kernel
theorem dX8_init_13 : decode cX8_init 13 = .ok (.aload_n 0, 1) := by decide +kernel
theorem dX8_init_14 : decode cX8_init 14 = .ok (.iconst 5, 1) := by decide +kernel
theorem dX8_init_15 : decode cX8_init 15 = .ok (.newarray .int, 2) := by decide +kernel
theorem dX8_init_17 : decode cX8_init 17 = .ok (.putfield 13, 3) := by decide +kernel
theorem dX8_init_20 : decode cX8_init 20 = .ok (.aload_n 0, 1) := by decide +kernel
theorem dX8_init_21 : decode cX8_init 21 = .ok (.iconst 5, 1) := by decide +kernel
theorem dX8_init_22 : decode cX8_init 22 = .ok (.newarray .int, 2) := by decide +kernel
theorem dX8_init_24 : decode cX8_init 24 = .ok (.putfield 16, 3) := by decide +kernel
theorem dX8_init_27 : decode cX8_init 27 = .ok (.aload_n 0, 1) := by decide +kernel
theorem dX8_init_28 : decode cX8_init 28 = .ok (.bipush 6, 2) := by decide +kernel
theorem dX8_init_30 : decode cX8_init 30 = .ok (.newarray .int, 2) := by decide +kernel
theorem dX8_init_32 : decode cX8_init 32 = .ok (.putfield 19, 3) := by decide +kernel
theorem dX8_init_35 : decode cX8_init 35 = .ok (.aload_n 0, 1) := by decide +kernel
theorem dX8_init_36 : decode cX8_init 36 = .ok (.bipush 6, 2) := by decide +kernel
theorem dX8_init_38 : decode cX8_init 38 = .ok (.newarray .int, 2) := by decide +kernel
theorem dX8_init_40 : decode cX8_init 40 = .ok (.putfield 22, 3) := by decide +kernel
theorem dX8_init_43 : decode cX8_init 43 = .ok (.aload_n 0, 1) := by decide +kernel
theorem dX8_init_44 : decode cX8_init 44 = .ok (.bipush 6, 2) := by decide +kernel
theorem dX8_init_46 : decode cX8_init 46 = .ok (.newarray .int, 2) := by decide +kernel
theorem dX8_init_48 : decode cX8_init 48 = .ok (.putfield 25, 3) := by decide +kernel
theorem dX8_init_51 : decode cX8_init 51 = .ok (.aload_n 0, 1) := by decide +kernel
theorem dX8_init_52 : decode cX8_init 52 = .ok (.bipush 6, 2) := by decide +kernel
theorem dX8_init_54 : decode cX8_init 54 = .ok (.newarray .int, 2) := by decide +kernel
theorem dX8_init_56 : decode cX8_init 56 = .ok (.dup, 1) := by decide +kernel
theorem dX8_init_57 : decode cX8_init 57 = .ok (.iconst 0, 1) := by decide +kernel
theorem dX8_init_58 : decode cX8_init 58 = .ok (.iconst (-1), 1) := by decide +kernel
theorem dX8_init_59 : decode cX8_init 59 = .ok (.iastore, 1) := by decide +kernel
theorem dX8_init_60 : decode cX8_init 60 = .ok (.dup, 1) := by decide +kernel
theorem dX8_init_61 : decode cX8_init 61 = .ok (.iconst 1, 1) := by decide +kernel
theorem dX8_init_62 : decode cX8_init 62 = .ok (.iconst (-1), 1) := by decide +kernel
theorem dX8_init_63 : decode cX8_init 63 = .ok (.iastore, 1) := by decide +kernel
theorem dX8_init_64 : decode cX8_init 64 = .ok (.dup, 1) := by decide +kernel
theorem dX8_init_65 : decode cX8_init 65 = .ok (.iconst 2, 1) := by decide +kernel
theorem dX8_init_66 : decode cX8_init 66 = .ok (.iconst (-1), 1) := by decide +kernel
theorem dX8_init_67 : decode cX8_init 67 = .ok (.iastore, 1) := by decide +kernel
theorem dX8_init_68 : decode cX8_init 68 = .ok (.dup, 1) := by decide +kernel
theorem dX8_init_69 : decode cX8_init 69 = .ok (.iconst 3, 1) := by decide +kernel
theorem dX8_init_70 : decode cX8_init 70 = .ok (.iconst (-1), 1) := by decide +kernel
theorem dX8_init_71 : decode cX8_init 71 = .ok (.iastore, 1) := by decide +kernel
theorem dX8_init_72 : decode cX8_init 72 = .ok (.dup, 1) := by decide +kernel
theorem dX8_init_73 : decode cX8_init 73 = .ok (.iconst 4, 1) := by decide +kernel
theorem dX8_init_74 : decode cX8_init 74 = .ok (.iconst (-1), 1) := by decide +kernel
theorem dX8_init_75 : decode cX8_init 75 = .ok (.iastore, 1) := by decide +kernel
theorem dX8_init_76 : decode cX8_init 76 = .ok (.dup, 1) := by decide +kernel
theorem dX8_init_77 : decode cX8_init 77 = .ok (.iconst 5, 1) := by decide +kernel
theorem dX8_init_78 : decode cX8_init 78 = .ok (.iconst (-1), 1) := by decide +kernel
theorem dX8_init_79 : decode cX8_init 79 = .ok (.iastore, 1) := by decide +kernel
theorem dX8_init_80 : decode cX8_init 80 = .ok (.putfield 28, 3) := by decide +kernel
theorem dX8_init_83 : decode cX8_init 83 = .ok (.aload_n 0, 1) := by decide +kernel
theorem dX8_init_84 : decode cX8_init 84 = .ok (.sipush 240, 3) := by decide +kernel
theorem dX8_init_87 : decode cX8_init 87 = .ok (.newarray .int, 2) := by decide +kernel
theorem dX8_init_89 : decode cX8_init 89 = .ok (.putfield 31, 3) := by decide +kernel
theorem dX8_init_92 : decode cX8_init 92 = .ok (.aload_n 0, 1) := by decide +kernel
theorem dX8_init_93 : decode cX8_init 93 = .ok (.iconst 4, 1) := by decide +kernel
theorem dX8_init_94 : decode cX8_init 94 = .ok (.newarray .int, 2) := by decide +kernel
theorem dX8_init_96 : decode cX8_init 96 = .ok (.dup, 1) := by decide +kernel
theorem dX8_init_97 : decode cX8_init 97 = .ok (.iconst 0, 1) := by decide +kernel
theorem dX8_init_98 : decode cX8_init 98 = .ok (.iconst (-1), 1) := by decide +kernel
theorem dX8_init_99 : decode cX8_init 99 = .ok (.iastore, 1) := by decide +kernel
theorem dX8_init_100 : decode cX8_init 100 = .ok (.dup, 1) := by decide +kernel
theorem dX8_init_101 : decode cX8_init 101 = .ok (.iconst 1, 1) := by decide +kernel
theorem dX8_init_102 : decode cX8_init 102 = .ok (.iconst (-1), 1) := by decide +kernel
theorem dX8_init_103 : decode cX8_init 103 = .ok (.iastore, 1) := by decide +kernel
theorem dX8_init_104 : decode cX8_init 104 = .ok (.dup, 1) := by decide +kernel
theorem dX8_init_105 : decode cX8_init 105 = .ok (.iconst 2, 1) := by decide +kernel
theorem dX8_init_106 : decode cX8_init 106 = .ok (.iconst (-1), 1) := by decide +kernel
theorem dX8_init_107 : decode cX8_init 107 = .ok (.iastore, 1) := by decide +kernel
theorem dX8_init_108 : decode cX8_init 108 = .ok (.dup, 1) := by decide +kernel
theorem dX8_init_109 : decode cX8_init 109 = .ok (.iconst 3, 1) := by decide +kernel
theorem dX8_init_110 : decode cX8_init 110 = .ok (.iconst (-1), 1) := by decide +kernel
theorem dX8_init_111 : decode cX8_init 111 = .ok (.iastore, 1) := by decide +kernel
theorem dX8_init_112 : decode cX8_init 112 = .ok (.putfield 34, 3) := by decide +kernel
theorem dX8_init_115 : decode cX8_init 115 = .ok (.aload_n 0, 1) := by decide +kernel
theorem dX8_init_116 : decode cX8_init 116 = .ok (.sipush 240, 3) := by decide +kernel
theorem dX8_init_119 : decode cX8_init 119 = .ok (.newarray .int, 2) := by decide +kernel
theorem dX8_init_121 : decode cX8_init 121 = .ok (.putfield 37, 3) := by decide +kernel
theorem dX8_init_124 : decode cX8_init 124 = .ok (.aload_n 0, 1) := by decide +kernel
theorem dX8_init_125 : decode cX8_init 125 = .ok (.lconst 1, 1) := by decide +kernel
theorem dX8_init_126 : decode cX8_init 126 = .ok (.putfield 40, 3) := by decide +kernel
theorem dX8_init_129 : decode cX8_init 129 = .ok (.aload_n 0, 1) := by decide +kernel
theorem dX8_init_130 : decode cX8_init 130 = .ok (.bipush 6, 2) := by decide +kernel
theorem dX8_init_132 : decode cX8_init 132 = .ok (.newarray .int, 2) := by decide +kernel
theorem dX8_init_134 : decode cX8_init 134 = .ok (.putfield 44, 3) := by decide +kernel
theorem dX8_init_137 : decode cX8_init 137 = .ok (.aload_n 0, 1) := by decide +kernel
theorem dX8_init_138 : decode cX8_init 138 = .ok (.bipush 15, 2) := by decide +kernel
theorem dX8_init_140 : decode cX8_init 140 = .ok (.newarray .int, 2) := by decide +kernel
theorem dX8_init_142 : decode cX8_init 142 = .ok (.putfield 47, 3) := by decide +kernel
theorem dX8_init_145 : decode cX8_init 145 = .ok (.aload_n 0, 1) := by decide +kernel
theorem dX8_init_146 : decode cX8_init 146 = .ok (.bipush 18, 2) := by decide +kernel
theorem dX8_init_148 : decode cX8_init 148 = .ok (.newarray .int, 2) := by decide +kernel
theorem dX8_init_150 : decode cX8_init 150 = .ok (.putfield 50, 3) := by decide +kernel
theorem dX8_init_153 : decode cX8_init 153 = .ok (.aload_n 0, 1) := by decide +kernel
theorem dX8_init_154 : decode cX8_init 154 = .ok (.bipush 6, 2) := by decide +kernel
theorem dX8_init_156 : decode cX8_init 156 = .ok (.newarray .int, 2) := by decide +kernel
theorem dX8_init_158 : decode cX8_init 158 = .ok (.putfield 53, 3) := by decide +kernel
theorem dX8_init_161 : decode cX8_init 161 = .ok (.aload_n 0, 1) := by decide +kernel
theorem dX8_init_162 : decode cX8_init 162 = .ok (.bipush 6, 2) := by decide +kernel
theorem dX8_init_164 : decode cX8_init 164 = .ok (.newarray .int, 2) := by decide +kernel
theorem dX8_init_166 : decode cX8_init 166 = .ok (.putfield 56, 3) := by decide +kernel
theorem dX8_init_169 : decode cX8_init 169 = .ok (.aload_n 0, 1) := by decide +kernel
theorem dX8_init_170 : decode cX8_init 170 = .ok (.bipush 7, 2) := by decide +kernel
theorem dX8_init_172 : decode cX8_init 172 = .ok (.newarray .int, 2) := by decide +kernel
theorem dX8_init_174 : decode cX8_init 174 = .ok (.putfield 59, 3) := by decide +kernel
theorem dX8_init_177 : decode cX8_init 177 = .ok (.aload_n 0, 1) := by decide +kernel
theorem dX8_init_178 : decode cX8_init 178 = .ok (.bipush 7, 2) := by decide +kernel
theorem dX8_init_180 : decode cX8_init 180 = .ok (.newarray .int, 2) := by decide +kernel
theorem dX8_init_182 : decode cX8_init 182 = .ok (.putfield 62, 3) := by decide +kernel
theorem dX8_init_185 : decode cX8_init 185 = .ok (.aload_n 0, 1) := by decide +kernel
theorem dX8_init_186 : decode cX8_init 186 = .ok (.bipush 7, 2) := by decide +kernel
theorem dX8_init_188 : decode cX8_init 188 = .ok (.newarray .int, 2) := by decide +kernel
theorem dX8_init_190 : decode cX8_init 190 = .ok (.putfield 65, 3) := by decide +kernel
theorem dX8_init_193 : decode cX8_init 193 = .ok (.aload_n 0, 1) := by decide +kernel
theorem dX8_init_194 : decode cX8_init 194 = .ok (.bipush 7, 2) := by decide +kernel
theorem dX8_init_196 : decode cX8_init 196 = .ok (.newarray .int, 2) := by decide +kernel
theorem dX8_init_198 : decode cX8_init 198 = .ok (.putfield 68, 3) := by decide +kernel
theorem dX8_init_201 : decode cX8_init 201 = .ok (.aload_n 0, 1) := by decide +kernel
theorem dX8_init_202 : decode cX8_init 202 = .ok (.bipush 7, 2) := by decide +kernel
theorem dX8_init_204 : decode cX8_init 204 = .ok (.newarray .int, 2) := by decide +kernel
theorem dX8_init_206 : decode cX8_init 206 = .ok (.putfield 71, 3) := by decide +kernel
theorem dX8_init_209 : decode cX8_init 209 = .ok (.aload_n 0, 1) := by decide +kernel
theorem dX8_init_210 : decode cX8_init 210 = .ok (.bipush 7, 2) := by decide +kernel
theorem dX8_init_212 : decode cX8_init 212 = .ok (.newarray .int, 2) := by decide +kernel
theorem dX8_init_214 : decode cX8_init 214 = .ok (.putfield 74, 3) := by decide +kernel
theorem dX8_init_217 : decode cX8_init 217 = .ok (.iconst 1, 1) := by decide +kernel
theorem dX8_init_218 : decode cX8_init 218 = .ok (.istore_n 1, 1) := by decide +kernel
theorem dX8_init_219 : decode cX8_init 219 = .ok (.iload_n 1, 1) := by decide +kernel
theorem dX8_init_220 : decode cX8_init 220 = .ok (.iconst 4, 1) := by decide +kernel
theorem dX8_init_221 : decode cX8_init 221 = .ok (.if_icmp .ge 22, 3) := by decide +kernel
theorem dX8_init_224 : decode cX8_init 224 = .ok (.aload_n 0, 1) := by decide +kernel
theorem dX8_init_225 : decode cX8_init 225 = .ok (.getfield 7, 3) := by decide +kernel
theorem dX8_init_228 : decode cX8_init 228 = .ok (.sipush 493, 3) := by decide +kernel
theorem dX8_init_231 : decode cX8_init 231 = .ok (.iload_n 1, 1) := by decide +kernel
theorem dX8_init_232 : decode cX8_init 232 = .ok (.imul, 1) := by decide +kernel
theorem dX8_init_233 : decode cX8_init 233 = .ok (.iconst 0, 1) := by decide +kernel
theorem dX8_init_234 : decode cX8_init 234 = .ok (.iadd, 1) := by decide +kernel
theorem dX8_init_235 : decode cX8_init 235 = .ok (.iconst (-1), 1) := by decide +kernel
theorem dX8_init_236 : decode cX8_init 236 = .ok (.iastore, 1) := by decide +kernel
theorem dX8_init_237 : decode cX8_init 237 = .ok (.iinc 1 1, 3) := by decide +kernel
theorem dX8_init_240 : decode cX8_init 240 = .ok (.goto (-21), 3) := by decide +kernel
theorem dX8_init_243 : decode cX8_init 243 = .ok (.return_, 1) := by decide +kernel
theorem dX8_bits_0 : decode cX8_bits 0 = .ok (.iconst 0, 1) := by decide +kernel
theorem dX8_bits_1 : decode cX8_bits 1 = .ok (.istore_n 1, 1) := by decide +kernel
theorem dX8_bits_2 : decode cX8_bits 2 = .ok (.iconst 0, 1) := by decide +kernel
theorem dX8_bits_3 : decode cX8_bits 3 = .ok (.istore_n 2, 1) := by decide +kernel
theorem dX8_bits_4 : decode cX8_bits 4 = .ok (.iload_n 2, 1) := by decide +kernel
theorem dX8_bits_5 : decode cX8_bits 5 = .ok (.bipush 6, 2) := by decide +kernel
theorem dX8_bits_7 : decode cX8_bits 7 = .ok (.if_icmp .ge 17, 3) := by decide +kernel
theorem dX8_bits_10 : decode cX8_bits 10 = .ok (.iload_n 1, 1) := by decide +kernel
theorem dX8_bits_11 : decode cX8_bits 11 = .ok (.iload_n 0, 1) := by decide +kernel
theorem dX8_bits_12 : decode cX8_bits 12 = .ok (.iload_n 2, 1) := by decide +kernel
theorem dX8_bits_13 : decode cX8_bits 13 = .ok (.ishr, 1) := by decide +kernel
theorem dX8_bits_14 : decode cX8_bits 14 = .ok (.iconst 1, 1) := by decide +kernel
theorem dX8_bits_15 : decode cX8_bits 15 = .ok (.iand, 1) := by decide +kernel
theorem dX8_bits_16 : decode cX8_bits 16 = .ok (.iadd, 1) := by decide +kernel
theorem dX8_bits_17 : decode cX8_bits 17 = .ok (.istore_n 1, 1) := by decide +kernel
theorem dX8_bits_18 : decode cX8_bits 18 = .ok (.iinc 2 1, 3) := by decide +kernel
theorem dX8_bits_21 : decode cX8_bits 21 = .ok (.goto (-17), 3) := by decide +kernel
theorem dX8_bits_24 : decode cX8_bits 24 = .ok (.iload_n 1, 1) := by decide +kernel
theorem dX8_bits_25 : decode cX8_bits 25 = .ok (.ireturn, 1) := by decide +kernel
theorem dX8_some_0 : decode cX8_some 0 = .ok (.iload_n 0, 1) := by decide +kernel
theorem dX8_some_1 : decode cX8_some 1 = .ok (.ifCond .ge 7, 3) := by decide +kernel
theorem dX8_some_4 : decode cX8_some 4 = .ok (.iconst 0, 1) := by decide +kernel
theorem dX8_some_5 : decode cX8_some 5 = .ok (.goto 4, 3) := by decide +kernel
theorem dX8_some_8 : decode cX8_some 8 = .ok (.iload_n 0, 1) := by decide +kernel
theorem dX8_some_9 : decode cX8_some 9 = .ok (.ireturn, 1) := by decide +kernel
theorem dX8_apart_0 : decode cX8_apart 0 = .ok (.iload_n 0, 1) := by decide +kernel
theorem dX8_apart_1 : decode cX8_apart 1 = .ok (.iload_n 1, 1) := by decide +kernel
theorem dX8_apart_2 : decode cX8_apart 2 = .ok (.if_icmp .ge 9, 3) := by decide +kernel
theorem dX8_apart_5 : decode cX8_apart 5 = .ok (.iload_n 1, 1) := by decide +kernel
theorem dX8_apart_6 : decode cX8_apart 6 = .ok (.iload_n 0, 1) := by decide +kernel
theorem dX8_apart_7 : decode cX8_apart 7 = .ok (.isub, 1) := by decide +kernel
theorem dX8_apart_8 : decode cX8_apart 8 = .ok (.goto 6, 3) := by decide +kernel
theorem dX8_apart_11 : decode cX8_apart 11 = .ok (.iload_n 0, 1) := by decide +kernel
theorem dX8_apart_12 : decode cX8_apart 12 = .ok (.iload_n 1, 1) := by decide +kernel
theorem dX8_apart_13 : decode cX8_apart 13 = .ok (.isub, 1) := by decide +kernel
theorem dX8_apart_14 : decode cX8_apart 14 = .ok (.ireturn, 1) := by decide +kernel
theorem dX8_in_0 : decode cX8_in 0 = .ok (.lload_n 0, 1) := by decide +kernel
theorem dX8_in_1 : decode cX8_in 1 = .ok (.lload_n 2, 1) := by decide +kernel
theorem dX8_in_2 : decode cX8_in 2 = .ok (.lcmp, 1) := by decide +kernel
theorem dX8_in_3 : decode cX8_in 3 = .ok (.ifCond .lt 14, 3) := by decide +kernel
theorem dX8_in_6 : decode cX8_in 6 = .ok (.lload_n 0, 1) := by decide +kernel
theorem dX8_in_7 : decode cX8_in 7 = .ok (.lload 4, 2) := by decide +kernel
theorem dX8_in_9 : decode cX8_in 9 = .ok (.lcmp, 1) := by decide +kernel
theorem dX8_in_10 : decode cX8_in 10 = .ok (.ifCond .gt 7, 3) := by decide +kernel
theorem dX8_in_13 : decode cX8_in 13 = .ok (.iconst 1, 1) := by decide +kernel
theorem dX8_in_14 : decode cX8_in 14 = .ok (.goto 4, 3) := by decide +kernel
theorem dX8_in_17 : decode cX8_in 17 = .ok (.iconst 0, 1) := by decide +kernel
theorem dX8_in_18 : decode cX8_in 18 = .ok (.ireturn, 1) := by decide +kernel
theorem dX8_has_0 : decode cX8_has 0 = .ok (.iload_n 0, 1) := by decide +kernel
theorem dX8_has_1 : decode cX8_has 1 = .ok (.iload_n 1, 1) := by decide +kernel
theorem dX8_has_2 : decode cX8_has 2 = .ok (.ishr, 1) := by decide +kernel
theorem dX8_has_3 : decode cX8_has 3 = .ok (.iconst 1, 1) := by decide +kernel
theorem dX8_has_4 : decode cX8_has 4 = .ok (.iand, 1) := by decide +kernel
theorem dX8_has_5 : decode cX8_has 5 = .ok (.iconst 1, 1) := by decide +kernel
theorem dX8_has_6 : decode cX8_has 6 = .ok (.if_icmp .ne 7, 3) := by decide +kernel
theorem dX8_has_9 : decode cX8_has 9 = .ok (.iconst 1, 1) := by decide +kernel
theorem dX8_has_10 : decode cX8_has 10 = .ok (.goto 4, 3) := by decide +kernel
theorem dX8_has_13 : decode cX8_has 13 = .ok (.iconst 0, 1) := by decide +kernel
theorem dX8_has_14 : decode cX8_has 14 = .ok (.ireturn, 1) := by decide +kernel
theorem dX8_find_0 : decode cX8_find 0 = .ok (.aload_n 0, 1) := by decide +kernel
theorem dX8_find_1 : decode cX8_find 1 = .ok (.iload_n 1, 1) := by decide +kernel
theorem dX8_find_2 : decode cX8_find 2 = .ok (.putfield 77, 3) := by decide +kernel
theorem dX8_find_5 : decode cX8_find 5 = .ok (.aload_n 0, 1) := by decide +kernel
theorem dX8_find_6 : decode cX8_find 6 = .ok (.getfield 44, 3) := by decide +kernel
theorem dX8_find_9 : decode cX8_find 9 = .ok (.iload_n 1, 1) := by decide +kernel
theorem dX8_find_10 : decode cX8_find 10 = .ok (.dup2, 1) := by decide +kernel
theorem dX8_find_11 : decode cX8_find 11 = .ok (.iaload, 1) := by decide +kernel
theorem dX8_find_12 : decode cX8_find 12 = .ok (.iconst 1, 1) := by decide +kernel
theorem dX8_find_13 : decode cX8_find 13 = .ok (.iadd, 1) := by decide +kernel
theorem dX8_find_14 : decode cX8_find 14 = .ok (.iastore, 1) := by decide +kernel
theorem dX8_find_15 : decode cX8_find 15 = .ok (.bipush (-3), 2) := by decide +kernel
theorem dX8_find_17 : decode cX8_find 17 = .ok (.ireturn, 1) := by decide +kernel
theorem dX8_tell_0 : decode cX8_tell 0 = .ok (.aload_n 0, 1) := by decide +kernel
theorem dX8_tell_1 : decode cX8_tell 1 = .ok (.iload_n 1, 1) := by decide +kernel
theorem dX8_tell_2 : decode cX8_tell 2 = .ok (.putfield 81, 3) := by decide +kernel
theorem dX8_tell_5 : decode cX8_tell 5 = .ok (.iconst 1, 1) := by decide +kernel
theorem dX8_tell_6 : decode cX8_tell 6 = .ok (.ireturn, 1) := by decide +kernel
theorem dX8_isRow_0 : decode cX8_isRow 0 = .ok (.iload_n 0, 1) := by decide +kernel
theorem dX8_isRow_1 : decode cX8_isRow 1 = .ok (.i2l, 1) := by decide +kernel
theorem dX8_isRow_2 : decode cX8_isRow 2 = .ok (.lconst 0, 1) := by decide +kernel
theorem dX8_isRow_3 : decode cX8_isRow 3 = .ok (.ldc2_w 84, 3) := by decide +kernel
theorem dX8_isRow_6 : decode cX8_isRow 6 = .ok (.invokestatic 86, 3) := by decide +kernel
theorem dX8_isRow_9 : decode cX8_isRow 9 = .ok (.ireturn, 1) := by decide +kernel
theorem dX8_isText_0 : decode cX8_isText 0 = .ok (.iload_n 0, 1) := by decide +kernel
theorem dX8_isText_1 : decode cX8_isText 1 = .ok (.i2l, 1) := by decide +kernel
theorem dX8_isText_2 : decode cX8_isText 2 = .ok (.lconst 0, 1) := by decide +kernel
theorem dX8_isText_3 : decode cX8_isText 3 = .ok (.ldc2_w 90, 3) := by decide +kernel
theorem dX8_isText_6 : decode cX8_isText 6 = .ok (.invokestatic 86, 3) := by decide +kernel
theorem dX8_isText_9 : decode cX8_isText 9 = .ok (.ireturn, 1) := by decide +kernel
theorem dX8_row_0 : decode cX8_row 0 = .ok (.iload_n 1, 1) := by decide +kernel
theorem dX8_row_1 : decode cX8_row 1 = .ok (.invokestatic 92, 3) := by decide +kernel
theorem dX8_row_4 : decode cX8_row 4 = .ok (.ifCond .eq 9, 3) := by decide +kernel
theorem dX8_row_7 : decode cX8_row 7 = .ok (.iload_n 2, 1) := by decide +kernel
theorem dX8_row_8 : decode cX8_row 8 = .ok (.bipush 40, 2) := by decide +kernel
theorem dX8_row_10 : decode cX8_row 10 = .ok (.if_icmp .le 5, 3) := by decide +kernel
theorem dX8_row_13 : decode cX8_row 13 = .ok (.iconst (-1), 1) := by decide +kernel
theorem dX8_row_14 : decode cX8_row 14 = .ok (.ireturn, 1) := by decide +kernel
theorem dX8_row_15 : decode cX8_row 15 = .ok (.iload_n 2, 1) := by decide +kernel
theorem dX8_row_16 : decode cX8_row 16 = .ok (.ifCond .ge 9, 3) := by decide +kernel
theorem dX8_row_19 : decode cX8_row 19 = .ok (.aload_n 0, 1) := by decide +kernel
theorem dX8_row_20 : decode cX8_row 20 = .ok (.iconst 5, 1) := by decide +kernel
theorem dX8_row_21 : decode cX8_row 21 = .ok (.invokevirtual 96, 3) := by decide +kernel
theorem dX8_row_24 : decode cX8_row 24 = .ok (.ireturn, 1) := by decide +kernel
theorem dX8_row_25 : decode cX8_row 25 = .ok (.aload_n 0, 1) := by decide +kernel
theorem dX8_row_26 : decode cX8_row 26 = .ok (.iload_n 1, 1) := by decide +kernel
theorem dX8_row_27 : decode cX8_row 27 = .ok (.iload_n 2, 1) := by decide +kernel
theorem dX8_row_28 : decode cX8_row 28 = .ok (.invokevirtual 100, 3) := by decide +kernel
theorem dX8_row_31 : decode cX8_row 31 = .ok (.iload_n 2, 1) := by decide +kernel
theorem dX8_row_32 : decode cX8_row 32 = .ok (.ireturn, 1) := by decide +kernel
theorem dX8_makeRow_0 : decode cX8_makeRow 0 = .ok (.aload_n 0, 1) := by decide +kernel
theorem dX8_makeRow_1 : decode cX8_makeRow 1 = .ok (.getfield 28, 3) := by decide +kernel
theorem dX8_makeRow_4 : decode cX8_makeRow 4 = .ok (.iload_n 1, 1) := by decide +kernel
theorem dX8_makeRow_5 : decode cX8_makeRow 5 = .ok (.iload_n 2, 1) := by decide +kernel
theorem dX8_makeRow_6 : decode cX8_makeRow 6 = .ok (.iastore, 1) := by decide +kernel
theorem dX8_makeRow_7 : decode cX8_makeRow 7 = .ok (.iconst 0, 1) := by decide +kernel
theorem dX8_makeRow_8 : decode cX8_makeRow 8 = .ok (.istore_n 3, 1) := by decide +kernel
theorem dX8_makeRow_9 : decode cX8_makeRow 9 = .ok (.iload_n 3, 1) := by decide +kernel
theorem dX8_makeRow_10 : decode cX8_makeRow 10 = .ok (.bipush 40, 2) := by decide +kernel
theorem dX8_makeRow_12 : decode cX8_makeRow 12 = .ok (.if_icmp .ge 21, 3) := by decide +kernel
theorem dX8_makeRow_15 : decode cX8_makeRow 15 = .ok (.aload_n 0, 1) := by decide +kernel
theorem dX8_makeRow_16 : decode cX8_makeRow 16 = .ok (.getfield 31, 3) := by decide +kernel
theorem dX8_makeRow_19 : decode cX8_makeRow 19 = .ok (.bipush 40, 2) := by decide +kernel
theorem dX8_makeRow_21 : decode cX8_makeRow 21 = .ok (.iload_n 1, 1) := by decide +kernel
theorem dX8_makeRow_22 : decode cX8_makeRow 22 = .ok (.imul, 1) := by decide +kernel
theorem dX8_makeRow_23 : decode cX8_makeRow 23 = .ok (.iload_n 3, 1) := by decide +kernel
theorem dX8_makeRow_24 : decode cX8_makeRow 24 = .ok (.iadd, 1) := by decide +kernel
theorem dX8_makeRow_25 : decode cX8_makeRow 25 = .ok (.iconst 0, 1) := by decide +kernel
theorem dX8_makeRow_26 : decode cX8_makeRow 26 = .ok (.iastore, 1) := by decide +kernel
theorem dX8_makeRow_27 : decode cX8_makeRow 27 = .ok (.iinc 3 1, 3) := by decide +kernel
theorem dX8_makeRow_30 : decode cX8_makeRow 30 = .ok (.goto (-21), 3) := by decide +kernel
theorem dX8_makeRow_33 : decode cX8_makeRow 33 = .ok (.return_, 1) := by decide +kernel
theorem dX8_refused_0 : decode cX8_refused 0 = .ok (.iload_n 1, 1) := by decide +kernel
theorem dX8_refused_1 : decode cX8_refused 1 = .ok (.invokestatic 92, 3) := by decide +kernel
theorem dX8_refused_4 : decode cX8_refused 4 = .ok (.ifCond .ne 7, 3) := by decide +kernel
theorem dX8_refused_7 : decode cX8_refused 7 = .ok (.iconst (-1), 1) := by decide +kernel
theorem dX8_refused_8 : decode cX8_refused 8 = .ok (.goto 47, 3) := by decide +kernel
theorem dX8_refused_11 : decode cX8_refused 11 = .ok (.aload_n 0, 1) := by decide +kernel
theorem dX8_refused_12 : decode cX8_refused 12 = .ok (.getfield 28, 3) := by decide +kernel
theorem dX8_refused_15 : decode cX8_refused 15 = .ok (.iload_n 1, 1) := by decide +kernel
theorem dX8_refused_16 : decode cX8_refused 16 = .ok (.iaload, 1) := by decide +kernel
theorem dX8_refused_17 : decode cX8_refused 17 = .ok (.ifCond .ge 11, 3) := by decide +kernel
theorem dX8_refused_20 : decode cX8_refused 20 = .ok (.aload_n 0, 1) := by decide +kernel
theorem dX8_refused_21 : decode cX8_refused 21 = .ok (.iconst 1, 1) := by decide +kernel
theorem dX8_refused_22 : decode cX8_refused 22 = .ok (.invokevirtual 96, 3) := by decide +kernel
theorem dX8_refused_25 : decode cX8_refused 25 = .ok (.goto 30, 3) := by decide +kernel
theorem dX8_refused_28 : decode cX8_refused 28 = .ok (.iload_n 2, 1) := by decide +kernel
theorem dX8_refused_29 : decode cX8_refused 29 = .ok (.i2l, 1) := by decide +kernel
theorem dX8_refused_30 : decode cX8_refused 30 = .ok (.lconst 0, 1) := by decide +kernel
theorem dX8_refused_31 : decode cX8_refused 31 = .ok (.aload_n 0, 1) := by decide +kernel
theorem dX8_refused_32 : decode cX8_refused 32 = .ok (.getfield 28, 3) := by decide +kernel
theorem dX8_refused_35 : decode cX8_refused 35 = .ok (.iload_n 1, 1) := by decide +kernel
theorem dX8_refused_36 : decode cX8_refused 36 = .ok (.iaload, 1) := by decide +kernel
theorem dX8_refused_37 : decode cX8_refused 37 = .ok (.iconst 1, 1) := by decide +kernel
theorem dX8_refused_38 : decode cX8_refused 38 = .ok (.isub, 1) := by decide +kernel
theorem dX8_refused_39 : decode cX8_refused 39 = .ok (.i2l, 1) := by decide +kernel
theorem dX8_refused_40 : decode cX8_refused 40 = .ok (.invokestatic 86, 3) := by decide +kernel
theorem dX8_refused_43 : decode cX8_refused 43 = .ok (.ifCond .eq 7, 3) := by decide +kernel
theorem dX8_refused_46 : decode cX8_refused 46 = .ok (.iconst 0, 1) := by decide +kernel
theorem dX8_refused_47 : decode cX8_refused 47 = .ok (.goto 8, 3) := by decide +kernel
theorem dX8_refused_50 : decode cX8_refused 50 = .ok (.aload_n 0, 1) := by decide +kernel
theorem dX8_refused_51 : decode cX8_refused 51 = .ok (.iconst 2, 1) := by decide +kernel
theorem dX8_refused_52 : decode cX8_refused 52 = .ok (.invokevirtual 96, 3) := by decide +kernel
theorem dX8_refused_55 : decode cX8_refused 55 = .ok (.ireturn, 1) := by decide +kernel
theorem dX8_lay_0 : decode cX8_lay 0 = .ok (.aload_n 0, 1) := by decide +kernel
theorem dX8_lay_1 : decode cX8_lay 1 = .ok (.iload_n 1, 1) := by decide +kernel
theorem dX8_lay_2 : decode cX8_lay 2 = .ok (.iload_n 2, 1) := by decide +kernel
theorem dX8_lay_3 : decode cX8_lay 3 = .ok (.invokevirtual 104, 3) := by decide +kernel
theorem dX8_lay_6 : decode cX8_lay 6 = .ok (.istore 4, 2) := by decide +kernel
theorem dX8_lay_8 : decode cX8_lay 8 = .ok (.iload 4, 2) := by decide +kernel
theorem dX8_lay_10 : decode cX8_lay 10 = .ok (.ifCond .eq 6, 3) := by decide +kernel
theorem dX8_lay_13 : decode cX8_lay 13 = .ok (.iload 4, 2) := by decide +kernel
theorem dX8_lay_15 : decode cX8_lay 15 = .ok (.ireturn, 1) := by decide +kernel
theorem dX8_lay_16 : decode cX8_lay 16 = .ok (.aload_n 0, 1) := by decide +kernel
theorem dX8_lay_17 : decode cX8_lay 17 = .ok (.getfield 31, 3) := by decide +kernel
theorem dX8_lay_20 : decode cX8_lay 20 = .ok (.bipush 40, 2) := by decide +kernel
theorem dX8_lay_22 : decode cX8_lay 22 = .ok (.iload_n 1, 1) := by decide +kernel
theorem dX8_lay_23 : decode cX8_lay 23 = .ok (.imul, 1) := by decide +kernel
theorem dX8_lay_24 : decode cX8_lay 24 = .ok (.iload_n 2, 1) := by decide +kernel
theorem dX8_lay_25 : decode cX8_lay 25 = .ok (.iadd, 1) := by decide +kernel
theorem dX8_lay_26 : decode cX8_lay 26 = .ok (.iaload, 1) := by decide +kernel
theorem dX8_lay_27 : decode cX8_lay 27 = .ok (.istore 5, 2) := by decide +kernel
theorem dX8_lay_29 : decode cX8_lay 29 = .ok (.aload_n 0, 1) := by decide +kernel
theorem dX8_lay_30 : decode cX8_lay 30 = .ok (.getfield 31, 3) := by decide +kernel
theorem dX8_lay_33 : decode cX8_lay 33 = .ok (.bipush 40, 2) := by decide +kernel
theorem dX8_lay_35 : decode cX8_lay 35 = .ok (.iload_n 1, 1) := by decide +kernel
theorem dX8_lay_36 : decode cX8_lay 36 = .ok (.imul, 1) := by decide +kernel
theorem dX8_lay_37 : decode cX8_lay 37 = .ok (.iload_n 2, 1) := by decide +kernel
theorem dX8_lay_38 : decode cX8_lay 38 = .ok (.iadd, 1) := by decide +kernel
theorem dX8_lay_39 : decode cX8_lay 39 = .ok (.iload_n 3, 1) := by decide +kernel
theorem dX8_lay_40 : decode cX8_lay 40 = .ok (.iastore, 1) := by decide +kernel
theorem dX8_lay_41 : decode cX8_lay 41 = .ok (.aload_n 0, 1) := by decide +kernel
theorem dX8_lay_42 : decode cX8_lay 42 = .ok (.iload 5, 2) := by decide +kernel
theorem dX8_lay_44 : decode cX8_lay 44 = .ok (.invokevirtual 108, 3) := by decide +kernel
theorem dX8_lay_47 : decode cX8_lay 47 = .ok (.ireturn, 1) := by decide +kernel
theorem dX8_at_0 : decode cX8_at 0 = .ok (.aload_n 0, 1) := by decide +kernel
theorem dX8_at_1 : decode cX8_at 1 = .ok (.iload_n 1, 1) := by decide +kernel
theorem dX8_at_2 : decode cX8_at 2 = .ok (.iload_n 2, 1) := by decide +kernel
theorem dX8_at_3 : decode cX8_at 3 = .ok (.invokevirtual 104, 3) := by decide +kernel
theorem dX8_at_6 : decode cX8_at 6 = .ok (.istore_n 3, 1) := by decide +kernel
theorem dX8_at_7 : decode cX8_at 7 = .ok (.iload_n 3, 1) := by decide +kernel
theorem dX8_at_8 : decode cX8_at 8 = .ok (.ifCond .eq 7, 3) := by decide +kernel
theorem dX8_at_11 : decode cX8_at 11 = .ok (.iload_n 3, 1) := by decide +kernel
theorem dX8_at_12 : decode cX8_at 12 = .ok (.goto 18, 3) := by decide +kernel
theorem dX8_at_15 : decode cX8_at 15 = .ok (.aload_n 0, 1) := by decide +kernel
theorem dX8_at_16 : decode cX8_at 16 = .ok (.aload_n 0, 1) := by decide +kernel
theorem dX8_at_17 : decode cX8_at 17 = .ok (.getfield 31, 3) := by decide +kernel
theorem dX8_at_20 : decode cX8_at 20 = .ok (.bipush 40, 2) := by decide +kernel
theorem dX8_at_22 : decode cX8_at 22 = .ok (.iload_n 1, 1) := by decide +kernel
theorem dX8_at_23 : decode cX8_at 23 = .ok (.imul, 1) := by decide +kernel
theorem dX8_at_24 : decode cX8_at 24 = .ok (.iload_n 2, 1) := by decide +kernel
theorem dX8_at_25 : decode cX8_at 25 = .ok (.iadd, 1) := by decide +kernel
theorem dX8_at_26 : decode cX8_at 26 = .ok (.iaload, 1) := by decide +kernel
theorem dX8_at_27 : decode cX8_at 27 = .ok (.invokevirtual 108, 3) := by decide +kernel
theorem dX8_at_30 : decode cX8_at 30 = .ok (.ireturn, 1) := by decide +kernel
theorem dX8_tear_0 : decode cX8_tear 0 = .ok (.iload_n 1, 1) := by decide +kernel
theorem dX8_tear_1 : decode cX8_tear 1 = .ok (.invokestatic 92, 3) := by decide +kernel
theorem dX8_tear_4 : decode cX8_tear 4 = .ok (.ifCond .ne 5, 3) := by decide +kernel
theorem dX8_tear_7 : decode cX8_tear 7 = .ok (.iconst (-1), 1) := by decide +kernel
theorem dX8_tear_8 : decode cX8_tear 8 = .ok (.ireturn, 1) := by decide +kernel
theorem dX8_tear_9 : decode cX8_tear 9 = .ok (.aload_n 0, 1) := by decide +kernel
theorem dX8_tear_10 : decode cX8_tear 10 = .ok (.getfield 28, 3) := by decide +kernel
theorem dX8_tear_13 : decode cX8_tear 13 = .ok (.iload_n 1, 1) := by decide +kernel
theorem dX8_tear_14 : decode cX8_tear 14 = .ok (.iaload, 1) := by decide +kernel
theorem dX8_tear_15 : decode cX8_tear 15 = .ok (.ifCond .ge 9, 3) := by decide +kernel
theorem dX8_tear_18 : decode cX8_tear 18 = .ok (.aload_n 0, 1) := by decide +kernel
theorem dX8_tear_19 : decode cX8_tear 19 = .ok (.iconst 1, 1) := by decide +kernel
theorem dX8_tear_20 : decode cX8_tear 20 = .ok (.invokevirtual 96, 3) := by decide +kernel
theorem dX8_tear_23 : decode cX8_tear 23 = .ok (.ireturn, 1) := by decide +kernel
theorem dX8_tear_24 : decode cX8_tear 24 = .ok (.aload_n 0, 1) := by decide +kernel
theorem dX8_tear_25 : decode cX8_tear 25 = .ok (.getfield 28, 3) := by decide +kernel
theorem dX8_tear_28 : decode cX8_tear 28 = .ok (.iload_n 1, 1) := by decide +kernel
theorem dX8_tear_29 : decode cX8_tear 29 = .ok (.iconst (-1), 1) := by decide +kernel
theorem dX8_tear_30 : decode cX8_tear 30 = .ok (.iastore, 1) := by decide +kernel
theorem dX8_tear_31 : decode cX8_tear 31 = .ok (.iconst 1, 1) := by decide +kernel
theorem dX8_tear_32 : decode cX8_tear 32 = .ok (.ireturn, 1) := by decide +kernel
theorem dX8_isSpan_0 : decode cX8_isSpan 0 = .ok (.iload_n 2, 1) := by decide +kernel
theorem dX8_isSpan_1 : decode cX8_isSpan 1 = .ok (.ifCond .lt 23, 3) := by decide +kernel
theorem dX8_isSpan_4 : decode cX8_isSpan 4 = .ok (.iload_n 2, 1) := by decide +kernel
theorem dX8_isSpan_5 : decode cX8_isSpan 5 = .ok (.i2l, 1) := by decide +kernel
theorem dX8_isSpan_6 : decode cX8_isSpan 6 = .ok (.iload_n 3, 1) := by decide +kernel
theorem dX8_isSpan_7 : decode cX8_isSpan 7 = .ok (.i2l, 1) := by decide +kernel
theorem dX8_isSpan_8 : decode cX8_isSpan 8 = .ok (.ladd, 1) := by decide +kernel
theorem dX8_isSpan_9 : decode cX8_isSpan 9 = .ok (.aload_n 0, 1) := by decide +kernel
theorem dX8_isSpan_10 : decode cX8_isSpan 10 = .ok (.getfield 28, 3) := by decide +kernel
theorem dX8_isSpan_13 : decode cX8_isSpan 13 = .ok (.iload_n 1, 1) := by decide +kernel
theorem dX8_isSpan_14 : decode cX8_isSpan 14 = .ok (.iaload, 1) := by decide +kernel
theorem dX8_isSpan_15 : decode cX8_isSpan 15 = .ok (.i2l, 1) := by decide +kernel
theorem dX8_isSpan_16 : decode cX8_isSpan 16 = .ok (.lcmp, 1) := by decide +kernel
theorem dX8_isSpan_17 : decode cX8_isSpan 17 = .ok (.ifCond .gt 7, 3) := by decide +kernel
theorem dX8_isSpan_20 : decode cX8_isSpan 20 = .ok (.iconst 1, 1) := by decide +kernel
theorem dX8_isSpan_21 : decode cX8_isSpan 21 = .ok (.goto 4, 3) := by decide +kernel
theorem dX8_isSpan_24 : decode cX8_isSpan 24 = .ok (.iconst 0, 1) := by decide +kernel
theorem dX8_isSpan_25 : decode cX8_isSpan 25 = .ok (.ireturn, 1) := by decide +kernel
theorem dX8_copy_0 : decode cX8_copy 0 = .ok (.iload_n 1, 1) := by decide +kernel
theorem dX8_copy_1 : decode cX8_copy 1 = .ok (.invokestatic 92, 3) := by decide +kernel
theorem dX8_copy_4 : decode cX8_copy 4 = .ok (.ifCond .eq 10, 3) := by decide +kernel
theorem dX8_copy_7 : decode cX8_copy 7 = .ok (.iload_n 3, 1) := by decide +kernel
theorem dX8_copy_8 : decode cX8_copy 8 = .ok (.invokestatic 92, 3) := by decide +kernel
theorem dX8_copy_11 : decode cX8_copy 11 = .ok (.ifCond .ne 5, 3) := by decide +kernel
theorem dX8_copy_14 : decode cX8_copy 14 = .ok (.iconst (-1), 1) := by decide +kernel
theorem dX8_copy_15 : decode cX8_copy 15 = .ok (.ireturn, 1) := by decide +kernel
theorem dX8_copy_16 : decode cX8_copy 16 = .ok (.iload 5, 2) := by decide +kernel
theorem dX8_copy_18 : decode cX8_copy 18 = .ok (.ifCond .ge 9, 3) := by decide +kernel
theorem dX8_copy_21 : decode cX8_copy 21 = .ok (.aload_n 0, 1) := by decide +kernel
theorem dX8_copy_22 : decode cX8_copy 22 = .ok (.iconst 5, 1) := by decide +kernel
theorem dX8_copy_23 : decode cX8_copy 23 = .ok (.invokevirtual 96, 3) := by decide +kernel
theorem dX8_copy_26 : decode cX8_copy 26 = .ok (.ireturn, 1) := by decide +kernel
theorem dX8_copy_27 : decode cX8_copy 27 = .ok (.aload_n 0, 1) := by decide +kernel
theorem dX8_copy_28 : decode cX8_copy 28 = .ok (.getfield 28, 3) := by decide +kernel
theorem dX8_copy_31 : decode cX8_copy 31 = .ok (.iload_n 1, 1) := by decide +kernel
theorem dX8_copy_32 : decode cX8_copy 32 = .ok (.iaload, 1) := by decide +kernel
theorem dX8_copy_33 : decode cX8_copy 33 = .ok (.ifCond .lt 12, 3) := by decide +kernel
theorem dX8_copy_36 : decode cX8_copy 36 = .ok (.aload_n 0, 1) := by decide +kernel
theorem dX8_copy_37 : decode cX8_copy 37 = .ok (.getfield 28, 3) := by decide +kernel
theorem dX8_copy_40 : decode cX8_copy 40 = .ok (.iload_n 3, 1) := by decide +kernel
theorem dX8_copy_41 : decode cX8_copy 41 = .ok (.iaload, 1) := by decide +kernel
theorem dX8_copy_42 : decode cX8_copy 42 = .ok (.ifCond .ge 9, 3) := by decide +kernel
theorem dX8_copy_45 : decode cX8_copy 45 = .ok (.aload_n 0, 1) := by decide +kernel
theorem dX8_copy_46 : decode cX8_copy 46 = .ok (.iconst 1, 1) := by decide +kernel
theorem dX8_copy_47 : decode cX8_copy 47 = .ok (.invokevirtual 96, 3) := by decide +kernel
theorem dX8_copy_50 : decode cX8_copy 50 = .ok (.ireturn, 1) := by decide +kernel
theorem dX8_copy_51 : decode cX8_copy 51 = .ok (.aload_n 0, 1) := by decide +kernel
theorem dX8_copy_52 : decode cX8_copy 52 = .ok (.iload_n 1, 1) := by decide +kernel
theorem dX8_copy_53 : decode cX8_copy 53 = .ok (.iload_n 2, 1) := by decide +kernel
theorem dX8_copy_54 : decode cX8_copy 54 = .ok (.iload 5, 2) := by decide +kernel
theorem dX8_copy_56 : decode cX8_copy 56 = .ok (.invokevirtual 111, 3) := by decide +kernel
theorem dX8_copy_59 : decode cX8_copy 59 = .ok (.ifCond .eq 15, 3) := by decide +kernel
theorem dX8_copy_62 : decode cX8_copy 62 = .ok (.aload_n 0, 1) := by decide +kernel
theorem dX8_copy_63 : decode cX8_copy 63 = .ok (.iload_n 3, 1) := by decide +kernel
theorem dX8_copy_64 : decode cX8_copy 64 = .ok (.iload 4, 2) := by decide +kernel
theorem dX8_copy_66 : decode cX8_copy 66 = .ok (.iload 5, 2) := by decide +kernel
theorem dX8_copy_68 : decode cX8_copy 68 = .ok (.invokevirtual 111, 3) := by decide +kernel
theorem dX8_copy_71 : decode cX8_copy 71 = .ok (.ifCond .ne 9, 3) := by decide +kernel
theorem dX8_copy_74 : decode cX8_copy 74 = .ok (.aload_n 0, 1) := by decide +kernel
theorem dX8_copy_75 : decode cX8_copy 75 = .ok (.iconst 2, 1) := by decide +kernel
theorem dX8_copy_76 : decode cX8_copy 76 = .ok (.invokevirtual 96, 3) := by decide +kernel
theorem dX8_copy_79 : decode cX8_copy 79 = .ok (.ireturn, 1) := by decide +kernel
theorem dX8_copy_80 : decode cX8_copy 80 = .ok (.iload_n 2, 1) := by decide +kernel
theorem dX8_copy_81 : decode cX8_copy 81 = .ok (.iload 4, 2) := by decide +kernel
theorem dX8_copy_83 : decode cX8_copy 83 = .ok (.if_icmp .ge 7, 3) := by decide +kernel
theorem dX8_copy_86 : decode cX8_copy 86 = .ok (.iconst 1, 1) := by decide +kernel
theorem dX8_copy_87 : decode cX8_copy 87 = .ok (.goto 4, 3) := by decide +kernel
theorem dX8_copy_90 : decode cX8_copy 90 = .ok (.iconst 0, 1) := by decide +kernel
theorem dX8_copy_91 : decode cX8_copy 91 = .ok (.istore 6, 2) := by decide +kernel
theorem dX8_copy_93 : decode cX8_copy 93 = .ok (.iconst 0, 1) := by decide +kernel
theorem dX8_copy_94 : decode cX8_copy 94 = .ok (.istore 7, 2) := by decide +kernel
theorem dX8_copy_96 : decode cX8_copy 96 = .ok (.iload 7, 2) := by decide +kernel
theorem dX8_copy_98 : decode cX8_copy 98 = .ok (.iload 5, 2) := by decide +kernel
theorem dX8_copy_100 : decode cX8_copy 100 = .ok (.if_icmp .ge 57, 3) := by decide +kernel
theorem dX8_copy_103 : decode cX8_copy 103 = .ok (.iload 6, 2) := by decide +kernel
theorem dX8_copy_105 : decode cX8_copy 105 = .ok (.ifCond .eq 13, 3) := by decide +kernel
theorem dX8_copy_108 : decode cX8_copy 108 = .ok (.iload 5, 2) := by decide +kernel
theorem dX8_copy_110 : decode cX8_copy 110 = .ok (.iconst 1, 1) := by decide +kernel
theorem dX8_copy_111 : decode cX8_copy 111 = .ok (.isub, 1) := by decide +kernel
theorem dX8_copy_112 : decode cX8_copy 112 = .ok (.iload 7, 2) := by decide +kernel
theorem dX8_copy_114 : decode cX8_copy 114 = .ok (.isub, 1) := by decide +kernel
theorem dX8_copy_115 : decode cX8_copy 115 = .ok (.goto 5, 3) := by decide +kernel
theorem dX8_copy_118 : decode cX8_copy 118 = .ok (.iload 7, 2) := by decide +kernel
theorem dX8_copy_120 : decode cX8_copy 120 = .ok (.istore 8, 2) := by decide +kernel
theorem dX8_copy_122 : decode cX8_copy 122 = .ok (.aload_n 0, 1) := by decide +kernel
theorem dX8_copy_123 : decode cX8_copy 123 = .ok (.getfield 31, 3) := by decide +kernel
theorem dX8_copy_126 : decode cX8_copy 126 = .ok (.bipush 40, 2) := by decide +kernel
theorem dX8_copy_128 : decode cX8_copy 128 = .ok (.iload_n 3, 1) := by decide +kernel
theorem dX8_copy_129 : decode cX8_copy 129 = .ok (.imul, 1) := by decide +kernel
theorem dX8_copy_130 : decode cX8_copy 130 = .ok (.iload 4, 2) := by decide +kernel
theorem dX8_copy_132 : decode cX8_copy 132 = .ok (.iadd, 1) := by decide +kernel
theorem dX8_copy_133 : decode cX8_copy 133 = .ok (.iload 8, 2) := by decide +kernel
theorem dX8_copy_135 : decode cX8_copy 135 = .ok (.iadd, 1) := by decide +kernel
theorem dX8_copy_136 : decode cX8_copy 136 = .ok (.aload_n 0, 1) := by decide +kernel
theorem dX8_copy_137 : decode cX8_copy 137 = .ok (.getfield 31, 3) := by decide +kernel
theorem dX8_copy_140 : decode cX8_copy 140 = .ok (.bipush 40, 2) := by decide +kernel
theorem dX8_copy_142 : decode cX8_copy 142 = .ok (.iload_n 1, 1) := by decide +kernel
theorem dX8_copy_143 : decode cX8_copy 143 = .ok (.imul, 1) := by decide +kernel
theorem dX8_copy_144 : decode cX8_copy 144 = .ok (.iload_n 2, 1) := by decide +kernel
theorem dX8_copy_145 : decode cX8_copy 145 = .ok (.iadd, 1) := by decide +kernel
theorem dX8_copy_146 : decode cX8_copy 146 = .ok (.iload 8, 2) := by decide +kernel
theorem dX8_copy_148 : decode cX8_copy 148 = .ok (.iadd, 1) := by decide +kernel
theorem dX8_copy_149 : decode cX8_copy 149 = .ok (.iaload, 1) := by decide +kernel
theorem dX8_copy_150 : decode cX8_copy 150 = .ok (.iastore, 1) := by decide +kernel
theorem dX8_copy_151 : decode cX8_copy 151 = .ok (.iinc 7 1, 3) := by decide +kernel
theorem dX8_copy_154 : decode cX8_copy 154 = .ok (.goto (-58), 3) := by decide +kernel
theorem dX8_copy_157 : decode cX8_copy 157 = .ok (.iconst 1, 1) := by decide +kernel
theorem dX8_copy_158 : decode cX8_copy 158 = .ok (.ireturn, 1) := by decide +kernel
theorem dX8_mean_0 : decode cX8_mean 0 = .ok (.iload_n 1, 1) := by decide +kernel
theorem dX8_mean_1 : decode cX8_mean 1 = .ok (.invokestatic 92, 3) := by decide +kernel
theorem dX8_mean_4 : decode cX8_mean 4 = .ok (.ifCond .ne 5, 3) := by decide +kernel
theorem dX8_mean_7 : decode cX8_mean 7 = .ok (.iconst (-1), 1) := by decide +kernel
theorem dX8_mean_8 : decode cX8_mean 8 = .ok (.ireturn, 1) := by decide +kernel
theorem dX8_mean_9 : decode cX8_mean 9 = .ok (.aload_n 0, 1) := by decide +kernel
theorem dX8_mean_10 : decode cX8_mean 10 = .ok (.getfield 28, 3) := by decide +kernel
theorem dX8_mean_13 : decode cX8_mean 13 = .ok (.iload_n 1, 1) := by decide +kernel
theorem dX8_mean_14 : decode cX8_mean 14 = .ok (.iaload, 1) := by decide +kernel
theorem dX8_mean_15 : decode cX8_mean 15 = .ok (.ifCond .ge 9, 3) := by decide +kernel
theorem dX8_mean_18 : decode cX8_mean 18 = .ok (.aload_n 0, 1) := by decide +kernel
theorem dX8_mean_19 : decode cX8_mean 19 = .ok (.iconst 1, 1) := by decide +kernel
theorem dX8_mean_20 : decode cX8_mean 20 = .ok (.invokevirtual 96, 3) := by decide +kernel
theorem dX8_mean_23 : decode cX8_mean 23 = .ok (.ireturn, 1) := by decide +kernel
theorem dX8_mean_24 : decode cX8_mean 24 = .ok (.aload_n 0, 1) := by decide +kernel
theorem dX8_mean_25 : decode cX8_mean 25 = .ok (.getfield 28, 3) := by decide +kernel
theorem dX8_mean_28 : decode cX8_mean 28 = .ok (.iload_n 1, 1) := by decide +kernel
theorem dX8_mean_29 : decode cX8_mean 29 = .ok (.iaload, 1) := by decide +kernel
theorem dX8_mean_30 : decode cX8_mean 30 = .ok (.ifCond .ne 9, 3) := by decide +kernel
theorem dX8_mean_33 : decode cX8_mean 33 = .ok (.aload_n 0, 1) := by decide +kernel
theorem dX8_mean_34 : decode cX8_mean 34 = .ok (.iconst 4, 1) := by decide +kernel
theorem dX8_mean_35 : decode cX8_mean 35 = .ok (.invokevirtual 96, 3) := by decide +kernel
theorem dX8_mean_38 : decode cX8_mean 38 = .ok (.ireturn, 1) := by decide +kernel
theorem dX8_mean_39 : decode cX8_mean 39 = .ok (.lconst 0, 1) := by decide +kernel
theorem dX8_mean_40 : decode cX8_mean 40 = .ok (.lstore_n 2, 1) := by decide +kernel
theorem dX8_mean_41 : decode cX8_mean 41 = .ok (.iconst 0, 1) := by decide +kernel
theorem dX8_mean_42 : decode cX8_mean 42 = .ok (.istore 4, 2) := by decide +kernel
theorem dX8_mean_44 : decode cX8_mean 44 = .ok (.iload 4, 2) := by decide +kernel
theorem dX8_mean_46 : decode cX8_mean 46 = .ok (.aload_n 0, 1) := by decide +kernel
theorem dX8_mean_47 : decode cX8_mean 47 = .ok (.getfield 28, 3) := by decide +kernel
theorem dX8_mean_50 : decode cX8_mean 50 = .ok (.iload_n 1, 1) := by decide +kernel
theorem dX8_mean_51 : decode cX8_mean 51 = .ok (.iaload, 1) := by decide +kernel
theorem dX8_mean_52 : decode cX8_mean 52 = .ok (.if_icmp .ge 25, 3) := by decide +kernel
theorem dX8_mean_55 : decode cX8_mean 55 = .ok (.lload_n 2, 1) := by decide +kernel
theorem dX8_mean_56 : decode cX8_mean 56 = .ok (.aload_n 0, 1) := by decide +kernel
theorem dX8_mean_57 : decode cX8_mean 57 = .ok (.getfield 31, 3) := by decide +kernel
theorem dX8_mean_60 : decode cX8_mean 60 = .ok (.bipush 40, 2) := by decide +kernel
theorem dX8_mean_62 : decode cX8_mean 62 = .ok (.iload_n 1, 1) := by decide +kernel
theorem dX8_mean_63 : decode cX8_mean 63 = .ok (.imul, 1) := by decide +kernel
theorem dX8_mean_64 : decode cX8_mean 64 = .ok (.iload 4, 2) := by decide +kernel
theorem dX8_mean_66 : decode cX8_mean 66 = .ok (.iadd, 1) := by decide +kernel
theorem dX8_mean_67 : decode cX8_mean 67 = .ok (.iaload, 1) := by decide +kernel
theorem dX8_mean_68 : decode cX8_mean 68 = .ok (.i2l, 1) := by decide +kernel
theorem dX8_mean_69 : decode cX8_mean 69 = .ok (.ladd, 1) := by decide +kernel
theorem dX8_mean_70 : decode cX8_mean 70 = .ok (.lstore_n 2, 1) := by decide +kernel
theorem dX8_mean_71 : decode cX8_mean 71 = .ok (.iinc 4 1, 3) := by decide +kernel
theorem dX8_mean_74 : decode cX8_mean 74 = .ok (.goto (-30), 3) := by decide +kernel
theorem dX8_mean_77 : decode cX8_mean 77 = .ok (.aload_n 0, 1) := by decide +kernel
theorem dX8_mean_78 : decode cX8_mean 78 = .ok (.lload_n 2, 1) := by decide +kernel
theorem dX8_mean_79 : decode cX8_mean 79 = .ok (.aload_n 0, 1) := by decide +kernel
theorem dX8_mean_80 : decode cX8_mean 80 = .ok (.getfield 28, 3) := by decide +kernel
theorem dX8_mean_83 : decode cX8_mean 83 = .ok (.iload_n 1, 1) := by decide +kernel
theorem dX8_mean_84 : decode cX8_mean 84 = .ok (.iaload, 1) := by decide +kernel
theorem dX8_mean_85 : decode cX8_mean 85 = .ok (.i2l, 1) := by decide +kernel
theorem dX8_mean_86 : decode cX8_mean 86 = .ok (.ldiv, 1) := by decide +kernel
theorem dX8_mean_87 : decode cX8_mean 87 = .ok (.l2i, 1) := by decide +kernel
theorem dX8_mean_88 : decode cX8_mean 88 = .ok (.invokevirtual 108, 3) := by decide +kernel
theorem dX8_mean_91 : decode cX8_mean 91 = .ok (.ireturn, 1) := by decide +kernel
theorem dX8_text_0 : decode cX8_text 0 = .ok (.iload_n 1, 1) := by decide +kernel
theorem dX8_text_1 : decode cX8_text 1 = .ok (.invokestatic 115, 3) := by decide +kernel
theorem dX8_text_4 : decode cX8_text 4 = .ok (.ifCond .eq 9, 3) := by decide +kernel
theorem dX8_text_7 : decode cX8_text 7 = .ok (.iload_n 2, 1) := by decide +kernel
theorem dX8_text_8 : decode cX8_text 8 = .ok (.bipush 60, 2) := by decide +kernel
theorem dX8_text_10 : decode cX8_text 10 = .ok (.if_icmp .le 5, 3) := by decide +kernel
theorem dX8_text_13 : decode cX8_text 13 = .ok (.iconst (-1), 1) := by decide +kernel
theorem dX8_text_14 : decode cX8_text 14 = .ok (.ireturn, 1) := by decide +kernel
theorem dX8_text_15 : decode cX8_text 15 = .ok (.iload_n 2, 1) := by decide +kernel
theorem dX8_text_16 : decode cX8_text 16 = .ok (.ifCond .ge 9, 3) := by decide +kernel
theorem dX8_text_19 : decode cX8_text 19 = .ok (.aload_n 0, 1) := by decide +kernel
theorem dX8_text_20 : decode cX8_text 20 = .ok (.iconst 5, 1) := by decide +kernel
theorem dX8_text_21 : decode cX8_text 21 = .ok (.invokevirtual 96, 3) := by decide +kernel
theorem dX8_text_24 : decode cX8_text 24 = .ok (.ireturn, 1) := by decide +kernel
theorem dX8_text_25 : decode cX8_text 25 = .ok (.aload_n 0, 1) := by decide +kernel
theorem dX8_text_26 : decode cX8_text 26 = .ok (.getfield 34, 3) := by decide +kernel
theorem dX8_text_29 : decode cX8_text 29 = .ok (.iload_n 1, 1) := by decide +kernel
theorem dX8_text_30 : decode cX8_text 30 = .ok (.iload_n 2, 1) := by decide +kernel
theorem dX8_text_31 : decode cX8_text 31 = .ok (.iastore, 1) := by decide +kernel
theorem dX8_text_32 : decode cX8_text 32 = .ok (.iconst 0, 1) := by decide +kernel
theorem dX8_text_33 : decode cX8_text 33 = .ok (.istore_n 3, 1) := by decide +kernel
theorem dX8_text_34 : decode cX8_text 34 = .ok (.iload_n 3, 1) := by decide +kernel
theorem dX8_text_35 : decode cX8_text 35 = .ok (.bipush 60, 2) := by decide +kernel
theorem dX8_text_37 : decode cX8_text 37 = .ok (.if_icmp .ge 22, 3) := by decide +kernel
theorem dX8_text_40 : decode cX8_text 40 = .ok (.aload_n 0, 1) := by decide +kernel
theorem dX8_text_41 : decode cX8_text 41 = .ok (.getfield 37, 3) := by decide +kernel
theorem dX8_text_44 : decode cX8_text 44 = .ok (.bipush 60, 2) := by decide +kernel
theorem dX8_text_46 : decode cX8_text 46 = .ok (.iload_n 1, 1) := by decide +kernel
theorem dX8_text_47 : decode cX8_text 47 = .ok (.imul, 1) := by decide +kernel
theorem dX8_text_48 : decode cX8_text 48 = .ok (.iload_n 3, 1) := by decide +kernel
theorem dX8_text_49 : decode cX8_text 49 = .ok (.iadd, 1) := by decide +kernel
theorem dX8_text_50 : decode cX8_text 50 = .ok (.bipush 32, 2) := by decide +kernel
theorem dX8_text_52 : decode cX8_text 52 = .ok (.iastore, 1) := by decide +kernel
theorem dX8_text_53 : decode cX8_text 53 = .ok (.iinc 3 1, 3) := by decide +kernel
theorem dX8_text_56 : decode cX8_text 56 = .ok (.goto (-22), 3) := by decide +kernel
theorem dX8_text_59 : decode cX8_text 59 = .ok (.iload_n 2, 1) := by decide +kernel
theorem dX8_text_60 : decode cX8_text 60 = .ok (.ireturn, 1) := by decide +kernel
theorem dX8_put_0 : decode cX8_put 0 = .ok (.iload_n 1, 1) := by decide +kernel
theorem dX8_put_1 : decode cX8_put 1 = .ok (.invokestatic 115, 3) := by decide +kernel
theorem dX8_put_4 : decode cX8_put 4 = .ok (.ifCond .ne 5, 3) := by decide +kernel
theorem dX8_put_7 : decode cX8_put 7 = .ok (.iconst (-1), 1) := by decide +kernel
theorem dX8_put_8 : decode cX8_put 8 = .ok (.ireturn, 1) := by decide +kernel
theorem dX8_put_9 : decode cX8_put 9 = .ok (.aload_n 0, 1) := by decide +kernel
theorem dX8_put_10 : decode cX8_put 10 = .ok (.getfield 34, 3) := by decide +kernel
theorem dX8_put_13 : decode cX8_put 13 = .ok (.iload_n 1, 1) := by decide +kernel
theorem dX8_put_14 : decode cX8_put 14 = .ok (.iaload, 1) := by decide +kernel
theorem dX8_put_15 : decode cX8_put 15 = .ok (.ifCond .ge 9, 3) := by decide +kernel
theorem dX8_put_18 : decode cX8_put 18 = .ok (.aload_n 0, 1) := by decide +kernel
theorem dX8_put_19 : decode cX8_put 19 = .ok (.iconst 1, 1) := by decide +kernel
theorem dX8_put_20 : decode cX8_put 20 = .ok (.invokevirtual 96, 3) := by decide +kernel
theorem dX8_put_23 : decode cX8_put 23 = .ok (.ireturn, 1) := by decide +kernel
theorem dX8_put_24 : decode cX8_put 24 = .ok (.iload_n 2, 1) := by decide +kernel
theorem dX8_put_25 : decode cX8_put 25 = .ok (.i2l, 1) := by decide +kernel
theorem dX8_put_26 : decode cX8_put 26 = .ok (.lconst 0, 1) := by decide +kernel
theorem dX8_put_27 : decode cX8_put 27 = .ok (.aload_n 0, 1) := by decide +kernel
theorem dX8_put_28 : decode cX8_put 28 = .ok (.getfield 34, 3) := by decide +kernel
theorem dX8_put_31 : decode cX8_put 31 = .ok (.iload_n 1, 1) := by decide +kernel
theorem dX8_put_32 : decode cX8_put 32 = .ok (.iaload, 1) := by decide +kernel
theorem dX8_put_33 : decode cX8_put 33 = .ok (.iconst 1, 1) := by decide +kernel
theorem dX8_put_34 : decode cX8_put 34 = .ok (.isub, 1) := by decide +kernel
theorem dX8_put_35 : decode cX8_put 35 = .ok (.i2l, 1) := by decide +kernel
theorem dX8_put_36 : decode cX8_put 36 = .ok (.invokestatic 86, 3) := by decide +kernel
theorem dX8_put_39 : decode cX8_put 39 = .ok (.ifCond .ne 9, 3) := by decide +kernel
theorem dX8_put_42 : decode cX8_put 42 = .ok (.aload_n 0, 1) := by decide +kernel
theorem dX8_put_43 : decode cX8_put 43 = .ok (.iconst 2, 1) := by decide +kernel
theorem dX8_put_44 : decode cX8_put 44 = .ok (.invokevirtual 96, 3) := by decide +kernel
theorem dX8_put_47 : decode cX8_put 47 = .ok (.ireturn, 1) := by decide +kernel
theorem dX8_put_48 : decode cX8_put 48 = .ok (.aload_n 0, 1) := by decide +kernel
theorem dX8_put_49 : decode cX8_put 49 = .ok (.getfield 37, 3) := by decide +kernel
theorem dX8_put_52 : decode cX8_put 52 = .ok (.bipush 60, 2) := by decide +kernel
theorem dX8_put_54 : decode cX8_put 54 = .ok (.iload_n 1, 1) := by decide +kernel
theorem dX8_put_55 : decode cX8_put 55 = .ok (.imul, 1) := by decide +kernel
theorem dX8_put_56 : decode cX8_put 56 = .ok (.iload_n 2, 1) := by decide +kernel
theorem dX8_put_57 : decode cX8_put 57 = .ok (.iadd, 1) := by decide +kernel
theorem dX8_put_58 : decode cX8_put 58 = .ok (.iaload, 1) := by decide +kernel
theorem dX8_put_59 : decode cX8_put 59 = .ok (.istore 4, 2) := by decide +kernel
theorem dX8_put_61 : decode cX8_put 61 = .ok (.aload_n 0, 1) := by decide +kernel
theorem dX8_put_62 : decode cX8_put 62 = .ok (.getfield 37, 3) := by decide +kernel
theorem dX8_put_65 : decode cX8_put 65 = .ok (.bipush 60, 2) := by decide +kernel
theorem dX8_put_67 : decode cX8_put 67 = .ok (.iload_n 1, 1) := by decide +kernel
theorem dX8_put_68 : decode cX8_put 68 = .ok (.imul, 1) := by decide +kernel
theorem dX8_put_69 : decode cX8_put 69 = .ok (.iload_n 2, 1) := by decide +kernel
theorem dX8_put_70 : decode cX8_put 70 = .ok (.iadd, 1) := by decide +kernel
theorem dX8_put_71 : decode cX8_put 71 = .ok (.iload_n 3, 1) := by decide +kernel
theorem dX8_put_72 : decode cX8_put 72 = .ok (.i2b, 1) := by decide +kernel
theorem dX8_put_73 : decode cX8_put 73 = .ok (.iastore, 1) := by decide +kernel
theorem dX8_put_74 : decode cX8_put 74 = .ok (.iload 4, 2) := by decide +kernel
theorem dX8_put_76 : decode cX8_put 76 = .ok (.sipush 1000, 3) := by decide +kernel
theorem dX8_put_79 : decode cX8_put 79 = .ok (.iadd, 1) := by decide +kernel
theorem dX8_put_80 : decode cX8_put 80 = .ok (.ireturn, 1) := by decide +kernel
theorem dX8_here_0 : decode cX8_here 0 = .ok (.aload_n 0, 1) := by decide +kernel
theorem dX8_here_1 : decode cX8_here 1 = .ok (.getfield 37, 3) := by decide +kernel
theorem dX8_here_4 : decode cX8_here 4 = .ok (.aload_n 0, 1) := by decide +kernel
theorem dX8_here_5 : decode cX8_here 5 = .ok (.getfield 118, 3) := by decide +kernel
theorem dX8_here_8 : decode cX8_here 8 = .ok (.aload_n 0, 1) := by decide +kernel
theorem dX8_here_9 : decode cX8_here 9 = .ok (.getfield 121, 3) := by decide +kernel
theorem dX8_here_12 : decode cX8_here 12 = .ok (.iadd, 1) := by decide +kernel
theorem dX8_here_13 : decode cX8_here 13 = .ok (.iaload, 1) := by decide +kernel
theorem dX8_here_14 : decode cX8_here 14 = .ok (.ireturn, 1) := by decide +kernel
theorem dX8_skip_0 : decode cX8_skip 0 = .ok (.aload_n 0, 1) := by decide +kernel
theorem dX8_skip_1 : decode cX8_skip 1 = .ok (.getfield 121, 3) := by decide +kernel
theorem dX8_skip_4 : decode cX8_skip 4 = .ok (.aload_n 0, 1) := by decide +kernel
theorem dX8_skip_5 : decode cX8_skip 5 = .ok (.getfield 124, 3) := by decide +kernel
theorem dX8_skip_8 : decode cX8_skip 8 = .ok (.if_icmp .ge 25, 3) := by decide +kernel
theorem dX8_skip_11 : decode cX8_skip 11 = .ok (.aload_n 0, 1) := by decide +kernel
theorem dX8_skip_12 : decode cX8_skip 12 = .ok (.invokevirtual 127, 3) := by decide +kernel
theorem dX8_skip_15 : decode cX8_skip 15 = .ok (.bipush 32, 2) := by decide +kernel
theorem dX8_skip_17 : decode cX8_skip 17 = .ok (.if_icmp .ne 16, 3) := by decide +kernel
theorem dX8_skip_20 : decode cX8_skip 20 = .ok (.aload_n 0, 1) := by decide +kernel
theorem dX8_skip_21 : decode cX8_skip 21 = .ok (.dup, 1) := by decide +kernel
theorem dX8_skip_22 : decode cX8_skip 22 = .ok (.getfield 121, 3) := by decide +kernel
theorem dX8_skip_25 : decode cX8_skip 25 = .ok (.iconst 1, 1) := by decide +kernel
theorem dX8_skip_26 : decode cX8_skip 26 = .ok (.iadd, 1) := by decide +kernel
theorem dX8_skip_27 : decode cX8_skip 27 = .ok (.putfield 121, 3) := by decide +kernel
theorem dX8_skip_30 : decode cX8_skip 30 = .ok (.goto (-30), 3) := by decide +kernel
theorem dX8_skip_33 : decode cX8_skip 33 = .ok (.return_, 1) := by decide +kernel
theorem dX8_figure_0 : decode cX8_figure 0 = .ok (.aload_n 0, 1) := by decide +kernel
theorem dX8_figure_1 : decode cX8_figure 1 = .ok (.getfield 121, 3) := by decide +kernel
theorem dX8_figure_4 : decode cX8_figure 4 = .ok (.aload_n 0, 1) := by decide +kernel
theorem dX8_figure_5 : decode cX8_figure 5 = .ok (.getfield 124, 3) := by decide +kernel
theorem dX8_figure_8 : decode cX8_figure 8 = .ok (.if_icmp .eq 24, 3) := by decide +kernel
theorem dX8_figure_11 : decode cX8_figure 11 = .ok (.aload_n 0, 1) := by decide +kernel
theorem dX8_figure_12 : decode cX8_figure 12 = .ok (.invokevirtual 127, 3) := by decide +kernel
theorem dX8_figure_15 : decode cX8_figure 15 = .ok (.i2l, 1) := by decide +kernel
theorem dX8_figure_16 : decode cX8_figure 16 = .ok (.bipush 48, 2) := by decide +kernel
theorem dX8_figure_18 : decode cX8_figure 18 = .ok (.iload_n 1, 1) := by decide +kernel
theorem dX8_figure_19 : decode cX8_figure 19 = .ok (.iadd, 1) := by decide +kernel
theorem dX8_figure_20 : decode cX8_figure 20 = .ok (.i2l, 1) := by decide +kernel
theorem dX8_figure_21 : decode cX8_figure 21 = .ok (.bipush 48, 2) := by decide +kernel
theorem dX8_figure_23 : decode cX8_figure 23 = .ok (.iload_n 2, 1) := by decide +kernel
theorem dX8_figure_24 : decode cX8_figure 24 = .ok (.iadd, 1) := by decide +kernel
theorem dX8_figure_25 : decode cX8_figure 25 = .ok (.i2l, 1) := by decide +kernel
theorem dX8_figure_26 : decode cX8_figure 26 = .ok (.invokestatic 86, 3) := by decide +kernel
theorem dX8_figure_29 : decode cX8_figure 29 = .ok (.ifCond .ne 6, 3) := by decide +kernel
theorem dX8_figure_32 : decode cX8_figure 32 = .ok (.bipush (-9), 2) := by decide +kernel
theorem dX8_figure_34 : decode cX8_figure 34 = .ok (.ireturn, 1) := by decide +kernel
theorem dX8_figure_35 : decode cX8_figure 35 = .ok (.aload_n 0, 1) := by decide +kernel
theorem dX8_figure_36 : decode cX8_figure 36 = .ok (.dup, 1) := by decide +kernel
theorem dX8_figure_37 : decode cX8_figure 37 = .ok (.getfield 121, 3) := by decide +kernel
theorem dX8_figure_40 : decode cX8_figure 40 = .ok (.iconst 1, 1) := by decide +kernel
theorem dX8_figure_41 : decode cX8_figure 41 = .ok (.iadd, 1) := by decide +kernel
theorem dX8_figure_42 : decode cX8_figure 42 = .ok (.putfield 121, 3) := by decide +kernel
theorem dX8_figure_45 : decode cX8_figure 45 = .ok (.aload_n 0, 1) := by decide +kernel
theorem dX8_figure_46 : decode cX8_figure 46 = .ok (.getfield 37, 3) := by decide +kernel
theorem dX8_figure_49 : decode cX8_figure 49 = .ok (.aload_n 0, 1) := by decide +kernel
theorem dX8_figure_50 : decode cX8_figure 50 = .ok (.getfield 118, 3) := by decide +kernel
theorem dX8_figure_53 : decode cX8_figure 53 = .ok (.aload_n 0, 1) := by decide +kernel
theorem dX8_figure_54 : decode cX8_figure 54 = .ok (.getfield 121, 3) := by decide +kernel
theorem dX8_figure_57 : decode cX8_figure 57 = .ok (.iadd, 1) := by decide +kernel
theorem dX8_figure_58 : decode cX8_figure 58 = .ok (.iconst 1, 1) := by decide +kernel
theorem dX8_figure_59 : decode cX8_figure 59 = .ok (.isub, 1) := by decide +kernel
theorem dX8_figure_60 : decode cX8_figure 60 = .ok (.iaload, 1) := by decide +kernel
theorem dX8_figure_61 : decode cX8_figure 61 = .ok (.bipush 48, 2) := by decide +kernel
theorem dX8_figure_63 : decode cX8_figure 63 = .ok (.isub, 1) := by decide +kernel
theorem dX8_figure_64 : decode cX8_figure 64 = .ok (.ireturn, 1) := by decide +kernel
theorem dX8_kindOfLetter_0 : decode cX8_kindOfLetter 0 = .ok (.iload_n 0, 1) := by decide +kernel
theorem dX8_kindOfLetter_1 : decode cX8_kindOfLetter 1 = .ok (.bipush 115, 2) := by decide +kernel
theorem dX8_kindOfLetter_3 : decode cX8_kindOfLetter 3 = .ok (.if_icmp .ne 7, 3) := by decide +kernel
theorem dX8_kindOfLetter_6 : decode cX8_kindOfLetter 6 = .ok (.iconst 0, 1) := by decide +kernel
theorem dX8_kindOfLetter_7 : decode cX8_kindOfLetter 7 = .ok (.goto 55, 3) := by decide +kernel
theorem dX8_kindOfLetter_10 : decode cX8_kindOfLetter 10 = .ok (.iload_n 0, 1) := by decide +kernel
theorem dX8_kindOfLetter_11 : decode cX8_kindOfLetter 11 = .ok (.bipush 100, 2) := by decide +kernel
theorem dX8_kindOfLetter_13 : decode cX8_kindOfLetter 13 = .ok (.if_icmp .ne 7, 3) := by decide +kernel
theorem dX8_kindOfLetter_16 : decode cX8_kindOfLetter 16 = .ok (.iconst 1, 1) := by decide +kernel
theorem dX8_kindOfLetter_17 : decode cX8_kindOfLetter 17 = .ok (.goto 45, 3) := by decide +kernel
theorem dX8_kindOfLetter_20 : decode cX8_kindOfLetter 20 = .ok (.iload_n 0, 1) := by decide +kernel
theorem dX8_kindOfLetter_21 : decode cX8_kindOfLetter 21 = .ok (.bipush 97, 2) := by decide +kernel
theorem dX8_kindOfLetter_23 : decode cX8_kindOfLetter 23 = .ok (.if_icmp .ne 7, 3) := by decide +kernel
theorem dX8_kindOfLetter_26 : decode cX8_kindOfLetter 26 = .ok (.iconst 2, 1) := by decide +kernel
theorem dX8_kindOfLetter_27 : decode cX8_kindOfLetter 27 = .ok (.goto 35, 3) := by decide +kernel
theorem dX8_kindOfLetter_30 : decode cX8_kindOfLetter 30 = .ok (.iload_n 0, 1) := by decide +kernel
theorem dX8_kindOfLetter_31 : decode cX8_kindOfLetter 31 = .ok (.bipush 102, 2) := by decide +kernel
theorem dX8_kindOfLetter_33 : decode cX8_kindOfLetter 33 = .ok (.if_icmp .ne 7, 3) := by decide +kernel
theorem dX8_kindOfLetter_36 : decode cX8_kindOfLetter 36 = .ok (.iconst 3, 1) := by decide +kernel
theorem dX8_kindOfLetter_37 : decode cX8_kindOfLetter 37 = .ok (.goto 25, 3) := by decide +kernel
theorem dX8_kindOfLetter_40 : decode cX8_kindOfLetter 40 = .ok (.iload_n 0, 1) := by decide +kernel
theorem dX8_kindOfLetter_41 : decode cX8_kindOfLetter 41 = .ok (.bipush 109, 2) := by decide +kernel
theorem dX8_kindOfLetter_43 : decode cX8_kindOfLetter 43 = .ok (.if_icmp .ne 7, 3) := by decide +kernel
theorem dX8_kindOfLetter_46 : decode cX8_kindOfLetter 46 = .ok (.iconst 4, 1) := by decide +kernel
theorem dX8_kindOfLetter_47 : decode cX8_kindOfLetter 47 = .ok (.goto 15, 3) := by decide +kernel
theorem dX8_kindOfLetter_50 : decode cX8_kindOfLetter 50 = .ok (.iload_n 0, 1) := by decide +kernel
theorem dX8_kindOfLetter_51 : decode cX8_kindOfLetter 51 = .ok (.bipush 112, 2) := by decide +kernel
theorem dX8_kindOfLetter_53 : decode cX8_kindOfLetter 53 = .ok (.if_icmp .ne 7, 3) := by decide +kernel
theorem dX8_kindOfLetter_56 : decode cX8_kindOfLetter 56 = .ok (.iconst 5, 1) := by decide +kernel
theorem dX8_kindOfLetter_57 : decode cX8_kindOfLetter 57 = .ok (.goto 5, 3) := by decide +kernel
theorem dX8_kindOfLetter_60 : decode cX8_kindOfLetter 60 = .ok (.bipush (-9), 2) := by decide +kernel
theorem dX8_kindOfLetter_62 : decode cX8_kindOfLetter 62 = .ok (.ireturn, 1) := by decide +kernel
theorem dX8_readsSigher_0 : decode cX8_readsSigher 0 = .ok (.aload_n 0, 1) := by decide +kernel
theorem dX8_readsSigher_1 : decode cX8_readsSigher 1 = .ok (.invokevirtual 127, 3) := by decide +kernel
theorem dX8_readsSigher_4 : decode cX8_readsSigher 4 = .ok (.invokestatic 131, 3) := by decide +kernel
theorem dX8_readsSigher_7 : decode cX8_readsSigher 7 = .ok (.istore_n 1, 1) := by decide +kernel
theorem dX8_readsSigher_8 : decode cX8_readsSigher 8 = .ok (.iload_n 1, 1) := by decide +kernel
theorem dX8_readsSigher_9 : decode cX8_readsSigher 9 = .ok (.bipush (-9), 2) := by decide +kernel
theorem dX8_readsSigher_11 : decode cX8_readsSigher 11 = .ok (.if_icmp .eq 18, 3) := by decide +kernel
theorem dX8_readsSigher_14 : decode cX8_readsSigher 14 = .ok (.aload_n 0, 1) := by decide +kernel
theorem dX8_readsSigher_15 : decode cX8_readsSigher 15 = .ok (.getfield 134, 3) := by decide +kernel
theorem dX8_readsSigher_18 : decode cX8_readsSigher 18 = .ok (.iconst 5, 1) := by decide +kernel
theorem dX8_readsSigher_19 : decode cX8_readsSigher 19 = .ok (.if_icmp .eq 10, 3) := by decide +kernel
theorem dX8_readsSigher_22 : decode cX8_readsSigher 22 = .ok (.aload_n 0, 1) := by decide +kernel
theorem dX8_readsSigher_23 : decode cX8_readsSigher 23 = .ok (.getfield 137, 3) := by decide +kernel
theorem dX8_readsSigher_26 : decode cX8_readsSigher 26 = .ok (.ifCond .le 5, 3) := by decide +kernel
theorem dX8_readsSigher_29 : decode cX8_readsSigher 29 = .ok (.iconst 0, 1) := by decide +kernel
theorem dX8_readsSigher_30 : decode cX8_readsSigher 30 = .ok (.ireturn, 1) := by decide +kernel
theorem dX8_readsSigher_31 : decode cX8_readsSigher 31 = .ok (.aload_n 0, 1) := by decide +kernel
theorem dX8_readsSigher_32 : decode cX8_readsSigher 32 = .ok (.dup, 1) := by decide +kernel
theorem dX8_readsSigher_33 : decode cX8_readsSigher 33 = .ok (.getfield 121, 3) := by decide +kernel
theorem dX8_readsSigher_36 : decode cX8_readsSigher 36 = .ok (.iconst 1, 1) := by decide +kernel
theorem dX8_readsSigher_37 : decode cX8_readsSigher 37 = .ok (.iadd, 1) := by decide +kernel
theorem dX8_readsSigher_38 : decode cX8_readsSigher 38 = .ok (.putfield 121, 3) := by decide +kernel
theorem dX8_readsSigher_41 : decode cX8_readsSigher 41 = .ok (.aload_n 0, 1) := by decide +kernel
theorem dX8_readsSigher_42 : decode cX8_readsSigher 42 = .ok (.iconst 0, 1) := by decide +kernel
theorem dX8_readsSigher_43 : decode cX8_readsSigher 43 = .ok (.bipush 9, 2) := by decide +kernel
theorem dX8_readsSigher_45 : decode cX8_readsSigher 45 = .ok (.invokevirtual 140, 3) := by decide +kernel
theorem dX8_readsSigher_48 : decode cX8_readsSigher 48 = .ok (.istore_n 2, 1) := by decide +kernel
theorem dX8_readsSigher_49 : decode cX8_readsSigher 49 = .ok (.iload_n 2, 1) := by decide +kernel
theorem dX8_readsSigher_50 : decode cX8_readsSigher 50 = .ok (.bipush (-9), 2) := by decide +kernel
theorem dX8_readsSigher_52 : decode cX8_readsSigher 52 = .ok (.if_icmp .ne 8, 3) := by decide +kernel
theorem dX8_readsSigher_55 : decode cX8_readsSigher 55 = .ok (.bipush (-9), 2) := by decide +kernel
theorem dX8_readsSigher_57 : decode cX8_readsSigher 57 = .ok (.goto 10, 3) := by decide +kernel
theorem dX8_readsSigher_60 : decode cX8_readsSigher 60 = .ok (.aload_n 0, 1) := by decide +kernel
theorem dX8_readsSigher_61 : decode cX8_readsSigher 61 = .ok (.iconst 0, 1) := by decide +kernel
theorem dX8_readsSigher_62 : decode cX8_readsSigher 62 = .ok (.bipush 9, 2) := by decide +kernel
theorem dX8_readsSigher_64 : decode cX8_readsSigher 64 = .ok (.invokevirtual 140, 3) := by decide +kernel
theorem dX8_readsSigher_67 : decode cX8_readsSigher 67 = .ok (.istore_n 3, 1) := by decide +kernel
theorem dX8_readsSigher_68 : decode cX8_readsSigher 68 = .ok (.iload_n 3, 1) := by decide +kernel
theorem dX8_readsSigher_69 : decode cX8_readsSigher 69 = .ok (.bipush (-9), 2) := by decide +kernel
theorem dX8_readsSigher_71 : decode cX8_readsSigher 71 = .ok (.if_icmp .ne 5, 3) := by decide +kernel
theorem dX8_readsSigher_74 : decode cX8_readsSigher 74 = .ok (.iconst 0, 1) := by decide +kernel
theorem dX8_readsSigher_75 : decode cX8_readsSigher 75 = .ok (.ireturn, 1) := by decide +kernel
theorem dX8_readsSigher_76 : decode cX8_readsSigher 76 = .ok (.aload_n 0, 1) := by decide +kernel
theorem dX8_readsSigher_77 : decode cX8_readsSigher 77 = .ok (.getfield 47, 3) := by decide +kernel
theorem dX8_readsSigher_80 : decode cX8_readsSigher 80 = .ok (.iconst 3, 1) := by decide +kernel
theorem dX8_readsSigher_81 : decode cX8_readsSigher 81 = .ok (.aload_n 0, 1) := by decide +kernel
theorem dX8_readsSigher_82 : decode cX8_readsSigher 82 = .ok (.getfield 134, 3) := by decide +kernel
theorem dX8_readsSigher_85 : decode cX8_readsSigher 85 = .ok (.imul, 1) := by decide +kernel
theorem dX8_readsSigher_86 : decode cX8_readsSigher 86 = .ok (.iload_n 1, 1) := by decide +kernel
theorem dX8_readsSigher_87 : decode cX8_readsSigher 87 = .ok (.iastore, 1) := by decide +kernel
theorem dX8_readsSigher_88 : decode cX8_readsSigher 88 = .ok (.aload_n 0, 1) := by decide +kernel
theorem dX8_readsSigher_89 : decode cX8_readsSigher 89 = .ok (.getfield 47, 3) := by decide +kernel
theorem dX8_readsSigher_92 : decode cX8_readsSigher 92 = .ok (.iconst 3, 1) := by decide +kernel
theorem dX8_readsSigher_93 : decode cX8_readsSigher 93 = .ok (.aload_n 0, 1) := by decide +kernel
theorem dX8_readsSigher_94 : decode cX8_readsSigher 94 = .ok (.getfield 134, 3) := by decide +kernel
theorem dX8_readsSigher_97 : decode cX8_readsSigher 97 = .ok (.imul, 1) := by decide +kernel
theorem dX8_readsSigher_98 : decode cX8_readsSigher 98 = .ok (.iconst 1, 1) := by decide +kernel
theorem dX8_readsSigher_99 : decode cX8_readsSigher 99 = .ok (.iadd, 1) := by decide +kernel
theorem dX8_readsSigher_100 : decode cX8_readsSigher 100 = .ok (.iload_n 2, 1) := by decide +kernel
theorem dX8_readsSigher_101 : decode cX8_readsSigher 101 = .ok (.iastore, 1) := by decide +kernel
theorem dX8_readsSigher_102 : decode cX8_readsSigher 102 = .ok (.aload_n 0, 1) := by decide +kernel
theorem dX8_readsSigher_103 : decode cX8_readsSigher 103 = .ok (.getfield 47, 3) := by decide +kernel
theorem dX8_readsSigher_106 : decode cX8_readsSigher 106 = .ok (.iconst 3, 1) := by decide +kernel
theorem dX8_readsSigher_107 : decode cX8_readsSigher 107 = .ok (.aload_n 0, 1) := by decide +kernel
theorem dX8_readsSigher_108 : decode cX8_readsSigher 108 = .ok (.getfield 134, 3) := by decide +kernel
theorem dX8_readsSigher_111 : decode cX8_readsSigher 111 = .ok (.imul, 1) := by decide +kernel
theorem dX8_readsSigher_112 : decode cX8_readsSigher 112 = .ok (.iconst 2, 1) := by decide +kernel
theorem dX8_readsSigher_113 : decode cX8_readsSigher 113 = .ok (.iadd, 1) := by decide +kernel
theorem dX8_readsSigher_114 : decode cX8_readsSigher 114 = .ok (.iload_n 3, 1) := by decide +kernel
theorem dX8_readsSigher_115 : decode cX8_readsSigher 115 = .ok (.iastore, 1) := by decide +kernel
theorem dX8_readsSigher_116 : decode cX8_readsSigher 116 = .ok (.aload_n 0, 1) := by decide +kernel
theorem dX8_readsSigher_117 : decode cX8_readsSigher 117 = .ok (.dup, 1) := by decide +kernel
theorem dX8_readsSigher_118 : decode cX8_readsSigher 118 = .ok (.getfield 134, 3) := by decide +kernel
theorem dX8_readsSigher_121 : decode cX8_readsSigher 121 = .ok (.iconst 1, 1) := by decide +kernel
theorem dX8_readsSigher_122 : decode cX8_readsSigher 122 = .ok (.iadd, 1) := by decide +kernel
theorem dX8_readsSigher_123 : decode cX8_readsSigher 123 = .ok (.putfield 134, 3) := by decide +kernel
theorem dX8_readsSigher_126 : decode cX8_readsSigher 126 = .ok (.iconst 1, 1) := by decide +kernel
theorem dX8_readsSigher_127 : decode cX8_readsSigher 127 = .ok (.ireturn, 1) := by decide +kernel
theorem dX8_readsOrder_0 : decode cX8_readsOrder 0 = .ok (.aload_n 0, 1) := by decide +kernel
theorem dX8_readsOrder_1 : decode cX8_readsOrder 1 = .ok (.getfield 134, 3) := by decide +kernel
theorem dX8_readsOrder_4 : decode cX8_readsOrder 4 = .ok (.ifCond .eq 12, 3) := by decide +kernel
theorem dX8_readsOrder_7 : decode cX8_readsOrder 7 = .ok (.aload_n 0, 1) := by decide +kernel
theorem dX8_readsOrder_8 : decode cX8_readsOrder 8 = .ok (.getfield 137, 3) := by decide +kernel
theorem dX8_readsOrder_11 : decode cX8_readsOrder 11 = .ok (.bipush 6, 2) := by decide +kernel
theorem dX8_readsOrder_13 : decode cX8_readsOrder 13 = .ok (.if_icmp .ne 5, 3) := by decide +kernel
theorem dX8_readsOrder_16 : decode cX8_readsOrder 16 = .ok (.iconst 0, 1) := by decide +kernel
theorem dX8_readsOrder_17 : decode cX8_readsOrder 17 = .ok (.ireturn, 1) := by decide +kernel
theorem dX8_readsOrder_18 : decode cX8_readsOrder 18 = .ok (.aload_n 0, 1) := by decide +kernel
theorem dX8_readsOrder_19 : decode cX8_readsOrder 19 = .ok (.dup, 1) := by decide +kernel
theorem dX8_readsOrder_20 : decode cX8_readsOrder 20 = .ok (.getfield 121, 3) := by decide +kernel
theorem dX8_readsOrder_23 : decode cX8_readsOrder 23 = .ok (.iconst 1, 1) := by decide +kernel
theorem dX8_readsOrder_24 : decode cX8_readsOrder 24 = .ok (.iadd, 1) := by decide +kernel
theorem dX8_readsOrder_25 : decode cX8_readsOrder 25 = .ok (.putfield 121, 3) := by decide +kernel
theorem dX8_readsOrder_28 : decode cX8_readsOrder 28 = .ok (.aload_n 0, 1) := by decide +kernel
theorem dX8_readsOrder_29 : decode cX8_readsOrder 29 = .ok (.iconst 0, 1) := by decide +kernel
theorem dX8_readsOrder_30 : decode cX8_readsOrder 30 = .ok (.bipush 9, 2) := by decide +kernel
theorem dX8_readsOrder_32 : decode cX8_readsOrder 32 = .ok (.invokevirtual 140, 3) := by decide +kernel
theorem dX8_readsOrder_35 : decode cX8_readsOrder 35 = .ok (.istore_n 1, 1) := by decide +kernel
theorem dX8_readsOrder_36 : decode cX8_readsOrder 36 = .ok (.iload_n 1, 1) := by decide +kernel
theorem dX8_readsOrder_37 : decode cX8_readsOrder 37 = .ok (.bipush (-9), 2) := by decide +kernel
theorem dX8_readsOrder_39 : decode cX8_readsOrder 39 = .ok (.if_icmp .ne 8, 3) := by decide +kernel
theorem dX8_readsOrder_42 : decode cX8_readsOrder 42 = .ok (.bipush (-9), 2) := by decide +kernel
theorem dX8_readsOrder_44 : decode cX8_readsOrder 44 = .ok (.goto 10, 3) := by decide +kernel
theorem dX8_readsOrder_47 : decode cX8_readsOrder 47 = .ok (.aload_n 0, 1) := by decide +kernel
theorem dX8_readsOrder_48 : decode cX8_readsOrder 48 = .ok (.iconst 1, 1) := by decide +kernel
theorem dX8_readsOrder_49 : decode cX8_readsOrder 49 = .ok (.bipush 9, 2) := by decide +kernel
theorem dX8_readsOrder_51 : decode cX8_readsOrder 51 = .ok (.invokevirtual 140, 3) := by decide +kernel
theorem dX8_readsOrder_54 : decode cX8_readsOrder 54 = .ok (.istore_n 2, 1) := by decide +kernel
theorem dX8_readsOrder_55 : decode cX8_readsOrder 55 = .ok (.iload_n 2, 1) := by decide +kernel
theorem dX8_readsOrder_56 : decode cX8_readsOrder 56 = .ok (.bipush (-9), 2) := by decide +kernel
theorem dX8_readsOrder_58 : decode cX8_readsOrder 58 = .ok (.if_icmp .ne 8, 3) := by decide +kernel
theorem dX8_readsOrder_61 : decode cX8_readsOrder 61 = .ok (.bipush (-9), 2) := by decide +kernel
theorem dX8_readsOrder_63 : decode cX8_readsOrder 63 = .ok (.goto 10, 3) := by decide +kernel
theorem dX8_readsOrder_66 : decode cX8_readsOrder 66 = .ok (.aload_n 0, 1) := by decide +kernel
theorem dX8_readsOrder_67 : decode cX8_readsOrder 67 = .ok (.iconst 0, 1) := by decide +kernel
theorem dX8_readsOrder_68 : decode cX8_readsOrder 68 = .ok (.bipush 9, 2) := by decide +kernel
theorem dX8_readsOrder_70 : decode cX8_readsOrder 70 = .ok (.invokevirtual 140, 3) := by decide +kernel
theorem dX8_readsOrder_73 : decode cX8_readsOrder 73 = .ok (.istore_n 3, 1) := by decide +kernel
theorem dX8_readsOrder_74 : decode cX8_readsOrder 74 = .ok (.iload_n 3, 1) := by decide +kernel
theorem dX8_readsOrder_75 : decode cX8_readsOrder 75 = .ok (.bipush (-9), 2) := by decide +kernel
theorem dX8_readsOrder_77 : decode cX8_readsOrder 77 = .ok (.if_icmp .ne 5, 3) := by decide +kernel
theorem dX8_readsOrder_80 : decode cX8_readsOrder 80 = .ok (.iconst 0, 1) := by decide +kernel
theorem dX8_readsOrder_81 : decode cX8_readsOrder 81 = .ok (.ireturn, 1) := by decide +kernel
theorem dX8_readsOrder_82 : decode cX8_readsOrder 82 = .ok (.aload_n 0, 1) := by decide +kernel
theorem dX8_readsOrder_83 : decode cX8_readsOrder 83 = .ok (.getfield 50, 3) := by decide +kernel
theorem dX8_readsOrder_86 : decode cX8_readsOrder 86 = .ok (.iconst 3, 1) := by decide +kernel
theorem dX8_readsOrder_87 : decode cX8_readsOrder 87 = .ok (.aload_n 0, 1) := by decide +kernel
theorem dX8_readsOrder_88 : decode cX8_readsOrder 88 = .ok (.getfield 137, 3) := by decide +kernel
theorem dX8_readsOrder_91 : decode cX8_readsOrder 91 = .ok (.imul, 1) := by decide +kernel
theorem dX8_readsOrder_92 : decode cX8_readsOrder 92 = .ok (.iload_n 1, 1) := by decide +kernel
theorem dX8_readsOrder_93 : decode cX8_readsOrder 93 = .ok (.iastore, 1) := by decide +kernel
theorem dX8_readsOrder_94 : decode cX8_readsOrder 94 = .ok (.aload_n 0, 1) := by decide +kernel
theorem dX8_readsOrder_95 : decode cX8_readsOrder 95 = .ok (.getfield 50, 3) := by decide +kernel
theorem dX8_readsOrder_98 : decode cX8_readsOrder 98 = .ok (.iconst 3, 1) := by decide +kernel
theorem dX8_readsOrder_99 : decode cX8_readsOrder 99 = .ok (.aload_n 0, 1) := by decide +kernel
theorem dX8_readsOrder_100 : decode cX8_readsOrder 100 = .ok (.getfield 137, 3) := by decide +kernel
theorem dX8_readsOrder_103 : decode cX8_readsOrder 103 = .ok (.imul, 1) := by decide +kernel
theorem dX8_readsOrder_104 : decode cX8_readsOrder 104 = .ok (.iconst 1, 1) := by decide +kernel
theorem dX8_readsOrder_105 : decode cX8_readsOrder 105 = .ok (.iadd, 1) := by decide +kernel
theorem dX8_readsOrder_106 : decode cX8_readsOrder 106 = .ok (.iload_n 2, 1) := by decide +kernel
theorem dX8_readsOrder_107 : decode cX8_readsOrder 107 = .ok (.iastore, 1) := by decide +kernel
theorem dX8_readsOrder_108 : decode cX8_readsOrder 108 = .ok (.aload_n 0, 1) := by decide +kernel
theorem dX8_readsOrder_109 : decode cX8_readsOrder 109 = .ok (.getfield 50, 3) := by decide +kernel
theorem dX8_readsOrder_112 : decode cX8_readsOrder 112 = .ok (.iconst 3, 1) := by decide +kernel
theorem dX8_readsOrder_113 : decode cX8_readsOrder 113 = .ok (.aload_n 0, 1) := by decide +kernel
theorem dX8_readsOrder_114 : decode cX8_readsOrder 114 = .ok (.getfield 137, 3) := by decide +kernel
theorem dX8_readsOrder_117 : decode cX8_readsOrder 117 = .ok (.imul, 1) := by decide +kernel
theorem dX8_readsOrder_118 : decode cX8_readsOrder 118 = .ok (.iconst 2, 1) := by decide +kernel
theorem dX8_readsOrder_119 : decode cX8_readsOrder 119 = .ok (.iadd, 1) := by decide +kernel
theorem dX8_readsOrder_120 : decode cX8_readsOrder 120 = .ok (.iload_n 3, 1) := by decide +kernel
theorem dX8_readsOrder_121 : decode cX8_readsOrder 121 = .ok (.iastore, 1) := by decide +kernel
theorem dX8_readsOrder_122 : decode cX8_readsOrder 122 = .ok (.aload_n 0, 1) := by decide +kernel
theorem dX8_readsOrder_123 : decode cX8_readsOrder 123 = .ok (.dup, 1) := by decide +kernel
theorem dX8_readsOrder_124 : decode cX8_readsOrder 124 = .ok (.getfield 137, 3) := by decide +kernel
theorem dX8_readsOrder_127 : decode cX8_readsOrder 127 = .ok (.iconst 1, 1) := by decide +kernel
theorem dX8_readsOrder_128 : decode cX8_readsOrder 128 = .ok (.iadd, 1) := by decide +kernel
theorem dX8_readsOrder_129 : decode cX8_readsOrder 129 = .ok (.putfield 137, 3) := by decide +kernel
theorem dX8_readsOrder_132 : decode cX8_readsOrder 132 = .ok (.iconst 1, 1) := by decide +kernel
theorem dX8_readsOrder_133 : decode cX8_readsOrder 133 = .ok (.ireturn, 1) := by decide +kernel
theorem dX8_faultOf_0 : decode cX8_faultOf 0 = .ok (.aload_n 0, 1) := by decide +kernel
theorem dX8_faultOf_1 : decode cX8_faultOf 1 = .ok (.bipush 60, 2) := by decide +kernel
theorem dX8_faultOf_3 : decode cX8_faultOf 3 = .ok (.iload_n 1, 1) := by decide +kernel
theorem dX8_faultOf_4 : decode cX8_faultOf 4 = .ok (.imul, 1) := by decide +kernel
theorem dX8_faultOf_5 : decode cX8_faultOf 5 = .ok (.putfield 118, 3) := by decide +kernel
theorem dX8_faultOf_8 : decode cX8_faultOf 8 = .ok (.aload_n 0, 1) := by decide +kernel
theorem dX8_faultOf_9 : decode cX8_faultOf 9 = .ok (.iconst 0, 1) := by decide +kernel
theorem dX8_faultOf_10 : decode cX8_faultOf 10 = .ok (.putfield 121, 3) := by decide +kernel
theorem dX8_faultOf_13 : decode cX8_faultOf 13 = .ok (.aload_n 0, 1) := by decide +kernel
theorem dX8_faultOf_14 : decode cX8_faultOf 14 = .ok (.aload_n 0, 1) := by decide +kernel
theorem dX8_faultOf_15 : decode cX8_faultOf 15 = .ok (.getfield 34, 3) := by decide +kernel
theorem dX8_faultOf_18 : decode cX8_faultOf 18 = .ok (.iload_n 1, 1) := by decide +kernel
theorem dX8_faultOf_19 : decode cX8_faultOf 19 = .ok (.iaload, 1) := by decide +kernel
theorem dX8_faultOf_20 : decode cX8_faultOf 20 = .ok (.putfield 124, 3) := by decide +kernel
theorem dX8_faultOf_23 : decode cX8_faultOf 23 = .ok (.aload_n 0, 1) := by decide +kernel
theorem dX8_faultOf_24 : decode cX8_faultOf 24 = .ok (.iconst 0, 1) := by decide +kernel
theorem dX8_faultOf_25 : decode cX8_faultOf 25 = .ok (.putfield 134, 3) := by decide +kernel
theorem dX8_faultOf_28 : decode cX8_faultOf 28 = .ok (.aload_n 0, 1) := by decide +kernel
theorem dX8_faultOf_29 : decode cX8_faultOf 29 = .ok (.iconst 0, 1) := by decide +kernel
theorem dX8_faultOf_30 : decode cX8_faultOf 30 = .ok (.putfield 137, 3) := by decide +kernel
theorem dX8_faultOf_33 : decode cX8_faultOf 33 = .ok (.iconst 1, 1) := by decide +kernel
theorem dX8_faultOf_34 : decode cX8_faultOf 34 = .ok (.istore_n 2, 1) := by decide +kernel
theorem dX8_faultOf_35 : decode cX8_faultOf 35 = .ok (.aload_n 0, 1) := by decide +kernel
theorem dX8_faultOf_36 : decode cX8_faultOf 36 = .ok (.invokevirtual 143, 3) := by decide +kernel
theorem dX8_faultOf_39 : decode cX8_faultOf 39 = .ok (.iload_n 2, 1) := by decide +kernel
theorem dX8_faultOf_40 : decode cX8_faultOf 40 = .ok (.ifCond .eq 46, 3) := by decide +kernel
theorem dX8_faultOf_43 : decode cX8_faultOf 43 = .ok (.aload_n 0, 1) := by decide +kernel
theorem dX8_faultOf_44 : decode cX8_faultOf 44 = .ok (.getfield 121, 3) := by decide +kernel
theorem dX8_faultOf_47 : decode cX8_faultOf 47 = .ok (.aload_n 0, 1) := by decide +kernel
theorem dX8_faultOf_48 : decode cX8_faultOf 48 = .ok (.getfield 124, 3) := by decide +kernel
theorem dX8_faultOf_51 : decode cX8_faultOf 51 = .ok (.if_icmp .ge 35, 3) := by decide +kernel
theorem dX8_faultOf_54 : decode cX8_faultOf 54 = .ok (.aload_n 0, 1) := by decide +kernel
theorem dX8_faultOf_55 : decode cX8_faultOf 55 = .ok (.invokevirtual 127, 3) := by decide +kernel
theorem dX8_faultOf_58 : decode cX8_faultOf 58 = .ok (.bipush 111, 2) := by decide +kernel
theorem dX8_faultOf_60 : decode cX8_faultOf 60 = .ok (.if_icmp .ne 10, 3) := by decide +kernel
theorem dX8_faultOf_63 : decode cX8_faultOf 63 = .ok (.aload_n 0, 1) := by decide +kernel
theorem dX8_faultOf_64 : decode cX8_faultOf 64 = .ok (.invokevirtual 146, 3) := by decide +kernel
theorem dX8_faultOf_67 : decode cX8_faultOf 67 = .ok (.goto 7, 3) := by decide +kernel
theorem dX8_faultOf_70 : decode cX8_faultOf 70 = .ok (.aload_n 0, 1) := by decide +kernel
theorem dX8_faultOf_71 : decode cX8_faultOf 71 = .ok (.invokevirtual 150, 3) := by decide +kernel
theorem dX8_faultOf_74 : decode cX8_faultOf 74 = .ok (.istore_n 2, 1) := by decide +kernel
theorem dX8_faultOf_75 : decode cX8_faultOf 75 = .ok (.iload_n 2, 1) := by decide +kernel
theorem dX8_faultOf_76 : decode cX8_faultOf 76 = .ok (.ifCond .eq (-37), 3) := by decide +kernel
theorem dX8_faultOf_79 : decode cX8_faultOf 79 = .ok (.aload_n 0, 1) := by decide +kernel
theorem dX8_faultOf_80 : decode cX8_faultOf 80 = .ok (.invokevirtual 143, 3) := by decide +kernel
theorem dX8_faultOf_83 : decode cX8_faultOf 83 = .ok (.goto (-44), 3) := by decide +kernel
theorem dX8_faultOf_86 : decode cX8_faultOf 86 = .ok (.iload_n 2, 1) := by decide +kernel
theorem dX8_faultOf_87 : decode cX8_faultOf 87 = .ok (.ifCond .eq 15, 3) := by decide +kernel
theorem dX8_faultOf_90 : decode cX8_faultOf 90 = .ok (.aload_n 0, 1) := by decide +kernel
theorem dX8_faultOf_91 : decode cX8_faultOf 91 = .ok (.getfield 137, 3) := by decide +kernel
theorem dX8_faultOf_94 : decode cX8_faultOf 94 = .ok (.ifCond .le 8, 3) := by decide +kernel
theorem dX8_faultOf_97 : decode cX8_faultOf 97 = .ok (.bipush (-9), 2) := by decide +kernel
theorem dX8_faultOf_99 : decode cX8_faultOf 99 = .ok (.goto 7, 3) := by decide +kernel
theorem dX8_faultOf_102 : decode cX8_faultOf 102 = .ok (.aload_n 0, 1) := by decide +kernel
theorem dX8_faultOf_103 : decode cX8_faultOf 103 = .ok (.getfield 121, 3) := by decide +kernel
theorem dX8_faultOf_106 : decode cX8_faultOf 106 = .ok (.ireturn, 1) := by decide +kernel
theorem dX8_fault_0 : decode cX8_fault 0 = .ok (.iload_n 1, 1) := by decide +kernel
theorem dX8_fault_1 : decode cX8_fault 1 = .ok (.invokestatic 115, 3) := by decide +kernel
theorem dX8_fault_4 : decode cX8_fault 4 = .ok (.ifCond .ne 5, 3) := by decide +kernel
theorem dX8_fault_7 : decode cX8_fault 7 = .ok (.iconst (-1), 1) := by decide +kernel
theorem dX8_fault_8 : decode cX8_fault 8 = .ok (.ireturn, 1) := by decide +kernel
theorem dX8_fault_9 : decode cX8_fault 9 = .ok (.aload_n 0, 1) := by decide +kernel
theorem dX8_fault_10 : decode cX8_fault 10 = .ok (.getfield 34, 3) := by decide +kernel
theorem dX8_fault_13 : decode cX8_fault 13 = .ok (.iload_n 1, 1) := by decide +kernel
theorem dX8_fault_14 : decode cX8_fault 14 = .ok (.iaload, 1) := by decide +kernel
theorem dX8_fault_15 : decode cX8_fault 15 = .ok (.ifCond .ge 11, 3) := by decide +kernel
theorem dX8_fault_18 : decode cX8_fault 18 = .ok (.aload_n 0, 1) := by decide +kernel
theorem dX8_fault_19 : decode cX8_fault 19 = .ok (.iconst 1, 1) := by decide +kernel
theorem dX8_fault_20 : decode cX8_fault 20 = .ok (.invokevirtual 96, 3) := by decide +kernel
theorem dX8_fault_23 : decode cX8_fault 23 = .ok (.goto 8, 3) := by decide +kernel
theorem dX8_fault_26 : decode cX8_fault 26 = .ok (.aload_n 0, 1) := by decide +kernel
theorem dX8_fault_27 : decode cX8_fault 27 = .ok (.iload_n 1, 1) := by decide +kernel
theorem dX8_fault_28 : decode cX8_fault 28 = .ok (.invokevirtual 153, 3) := by decide +kernel
theorem dX8_fault_31 : decode cX8_fault 31 = .ok (.ireturn, 1) := by decide +kernel
theorem dX8_guild_0 : decode cX8_guild 0 = .ok (.iload_n 1, 1) := by decide +kernel
theorem dX8_guild_1 : decode cX8_guild 1 = .ok (.invokestatic 115, 3) := by decide +kernel
theorem dX8_guild_4 : decode cX8_guild 4 = .ok (.ifCond .ne 5, 3) := by decide +kernel
theorem dX8_guild_7 : decode cX8_guild 7 = .ok (.iconst (-1), 1) := by decide +kernel
theorem dX8_guild_8 : decode cX8_guild 8 = .ok (.ireturn, 1) := by decide +kernel
theorem dX8_guild_9 : decode cX8_guild 9 = .ok (.aload_n 0, 1) := by decide +kernel
theorem dX8_guild_10 : decode cX8_guild 10 = .ok (.getfield 34, 3) := by decide +kernel
theorem dX8_guild_13 : decode cX8_guild 13 = .ok (.iload_n 1, 1) := by decide +kernel
theorem dX8_guild_14 : decode cX8_guild 14 = .ok (.iaload, 1) := by decide +kernel
theorem dX8_guild_15 : decode cX8_guild 15 = .ok (.ifCond .ge 9, 3) := by decide +kernel
theorem dX8_guild_18 : decode cX8_guild 18 = .ok (.aload_n 0, 1) := by decide +kernel
theorem dX8_guild_19 : decode cX8_guild 19 = .ok (.iconst 1, 1) := by decide +kernel
theorem dX8_guild_20 : decode cX8_guild 20 = .ok (.invokevirtual 96, 3) := by decide +kernel
theorem dX8_guild_23 : decode cX8_guild 23 = .ok (.ireturn, 1) := by decide +kernel
theorem dX8_guild_24 : decode cX8_guild 24 = .ok (.aload_n 0, 1) := by decide +kernel
theorem dX8_guild_25 : decode cX8_guild 25 = .ok (.iload_n 1, 1) := by decide +kernel
theorem dX8_guild_26 : decode cX8_guild 26 = .ok (.invokevirtual 153, 3) := by decide +kernel
theorem dX8_guild_29 : decode cX8_guild 29 = .ok (.bipush (-9), 2) := by decide +kernel
theorem dX8_guild_31 : decode cX8_guild 31 = .ok (.if_icmp .eq 6, 3) := by decide +kernel
theorem dX8_guild_34 : decode cX8_guild 34 = .ok (.bipush (-4), 2) := by decide +kernel
theorem dX8_guild_36 : decode cX8_guild 36 = .ok (.ireturn, 1) := by decide +kernel
theorem dX8_guild_37 : decode cX8_guild 37 = .ok (.iconst 0, 1) := by decide +kernel
theorem dX8_guild_38 : decode cX8_guild 38 = .ok (.istore_n 2, 1) := by decide +kernel
theorem dX8_guild_39 : decode cX8_guild 39 = .ok (.iload_n 2, 1) := by decide +kernel
theorem dX8_guild_40 : decode cX8_guild 40 = .ok (.sipush 493, 3) := by decide +kernel
theorem dX8_guild_43 : decode cX8_guild 43 = .ok (.if_icmp .ge 16, 3) := by decide +kernel
theorem dX8_guild_46 : decode cX8_guild 46 = .ok (.aload_n 0, 1) := by decide +kernel
theorem dX8_guild_47 : decode cX8_guild 47 = .ok (.getfield 7, 3) := by decide +kernel
theorem dX8_guild_50 : decode cX8_guild 50 = .ok (.iload_n 2, 1) := by decide +kernel
theorem dX8_guild_51 : decode cX8_guild 51 = .ok (.iconst 0, 1) := by decide +kernel
theorem dX8_guild_52 : decode cX8_guild 52 = .ok (.iastore, 1) := by decide +kernel
theorem dX8_guild_53 : decode cX8_guild 53 = .ok (.iinc 2 1, 3) := by decide +kernel
theorem dX8_guild_56 : decode cX8_guild 56 = .ok (.goto (-17), 3) := by decide +kernel
theorem dX8_guild_59 : decode cX8_guild 59 = .ok (.aload_n 0, 1) := by decide +kernel
theorem dX8_guild_60 : decode cX8_guild 60 = .ok (.aload_n 0, 1) := by decide +kernel
theorem dX8_guild_61 : decode cX8_guild 61 = .ok (.getfield 134, 3) := by decide +kernel
theorem dX8_guild_64 : decode cX8_guild 64 = .ok (.putfield 156, 3) := by decide +kernel
theorem dX8_guild_67 : decode cX8_guild 67 = .ok (.aload_n 0, 1) := by decide +kernel
theorem dX8_guild_68 : decode cX8_guild 68 = .ok (.aload_n 0, 1) := by decide +kernel
theorem dX8_guild_69 : decode cX8_guild 69 = .ok (.getfield 137, 3) := by decide +kernel
theorem dX8_guild_72 : decode cX8_guild 72 = .ok (.putfield 159, 3) := by decide +kernel
theorem dX8_guild_75 : decode cX8_guild 75 = .ok (.iconst 0, 1) := by decide +kernel
theorem dX8_guild_76 : decode cX8_guild 76 = .ok (.istore_n 2, 1) := by decide +kernel
theorem dX8_guild_77 : decode cX8_guild 77 = .ok (.iload_n 2, 1) := by decide +kernel
theorem dX8_guild_78 : decode cX8_guild 78 = .ok (.aload_n 0, 1) := by decide +kernel
theorem dX8_guild_79 : decode cX8_guild 79 = .ok (.getfield 156, 3) := by decide +kernel
theorem dX8_guild_82 : decode cX8_guild 82 = .ok (.if_icmp .ge 57, 3) := by decide +kernel
theorem dX8_guild_85 : decode cX8_guild 85 = .ok (.aload_n 0, 1) := by decide +kernel
theorem dX8_guild_86 : decode cX8_guild 86 = .ok (.getfield 13, 3) := by decide +kernel
theorem dX8_guild_89 : decode cX8_guild 89 = .ok (.iload_n 2, 1) := by decide +kernel
theorem dX8_guild_90 : decode cX8_guild 90 = .ok (.aload_n 0, 1) := by decide +kernel
theorem dX8_guild_91 : decode cX8_guild 91 = .ok (.getfield 47, 3) := by decide +kernel
theorem dX8_guild_94 : decode cX8_guild 94 = .ok (.iconst 3, 1) := by decide +kernel
theorem dX8_guild_95 : decode cX8_guild 95 = .ok (.iload_n 2, 1) := by decide +kernel
theorem dX8_guild_96 : decode cX8_guild 96 = .ok (.imul, 1) := by decide +kernel
theorem dX8_guild_97 : decode cX8_guild 97 = .ok (.iaload, 1) := by decide +kernel
theorem dX8_guild_98 : decode cX8_guild 98 = .ok (.iastore, 1) := by decide +kernel
theorem dX8_guild_99 : decode cX8_guild 99 = .ok (.aload_n 0, 1) := by decide +kernel
theorem dX8_guild_100 : decode cX8_guild 100 = .ok (.getfield 7, 3) := by decide +kernel
theorem dX8_guild_103 : decode cX8_guild 103 = .ok (.iconst 3, 1) := by decide +kernel
theorem dX8_guild_104 : decode cX8_guild 104 = .ok (.iload_n 2, 1) := by decide +kernel
theorem dX8_guild_105 : decode cX8_guild 105 = .ok (.iadd, 1) := by decide +kernel
theorem dX8_guild_106 : decode cX8_guild 106 = .ok (.aload_n 0, 1) := by decide +kernel
theorem dX8_guild_107 : decode cX8_guild 107 = .ok (.getfield 47, 3) := by decide +kernel
theorem dX8_guild_110 : decode cX8_guild 110 = .ok (.iconst 3, 1) := by decide +kernel
theorem dX8_guild_111 : decode cX8_guild 111 = .ok (.iload_n 2, 1) := by decide +kernel
theorem dX8_guild_112 : decode cX8_guild 112 = .ok (.imul, 1) := by decide +kernel
theorem dX8_guild_113 : decode cX8_guild 113 = .ok (.iconst 1, 1) := by decide +kernel
theorem dX8_guild_114 : decode cX8_guild 114 = .ok (.iadd, 1) := by decide +kernel
theorem dX8_guild_115 : decode cX8_guild 115 = .ok (.iaload, 1) := by decide +kernel
theorem dX8_guild_116 : decode cX8_guild 116 = .ok (.iastore, 1) := by decide +kernel
theorem dX8_guild_117 : decode cX8_guild 117 = .ok (.aload_n 0, 1) := by decide +kernel
theorem dX8_guild_118 : decode cX8_guild 118 = .ok (.getfield 16, 3) := by decide +kernel
theorem dX8_guild_121 : decode cX8_guild 121 = .ok (.iload_n 2, 1) := by decide +kernel
theorem dX8_guild_122 : decode cX8_guild 122 = .ok (.aload_n 0, 1) := by decide +kernel
theorem dX8_guild_123 : decode cX8_guild 123 = .ok (.getfield 47, 3) := by decide +kernel
theorem dX8_guild_126 : decode cX8_guild 126 = .ok (.iconst 3, 1) := by decide +kernel
theorem dX8_guild_127 : decode cX8_guild 127 = .ok (.iload_n 2, 1) := by decide +kernel
theorem dX8_guild_128 : decode cX8_guild 128 = .ok (.imul, 1) := by decide +kernel
theorem dX8_guild_129 : decode cX8_guild 129 = .ok (.iconst 2, 1) := by decide +kernel
theorem dX8_guild_130 : decode cX8_guild 130 = .ok (.iadd, 1) := by decide +kernel
theorem dX8_guild_131 : decode cX8_guild 131 = .ok (.iaload, 1) := by decide +kernel
theorem dX8_guild_132 : decode cX8_guild 132 = .ok (.iastore, 1) := by decide +kernel
theorem dX8_guild_133 : decode cX8_guild 133 = .ok (.iinc 2 1, 3) := by decide +kernel
theorem dX8_guild_136 : decode cX8_guild 136 = .ok (.goto (-59), 3) := by decide +kernel
theorem dX8_guild_139 : decode cX8_guild 139 = .ok (.iconst 0, 1) := by decide +kernel
theorem dX8_guild_140 : decode cX8_guild 140 = .ok (.istore_n 2, 1) := by decide +kernel
theorem dX8_guild_141 : decode cX8_guild 141 = .ok (.iload_n 2, 1) := by decide +kernel
theorem dX8_guild_142 : decode cX8_guild 142 = .ok (.aload_n 0, 1) := by decide +kernel
theorem dX8_guild_143 : decode cX8_guild 143 = .ok (.getfield 159, 3) := by decide +kernel
theorem dX8_guild_146 : decode cX8_guild 146 = .ok (.if_icmp .ge 55, 3) := by decide +kernel
theorem dX8_guild_149 : decode cX8_guild 149 = .ok (.aload_n 0, 1) := by decide +kernel
theorem dX8_guild_150 : decode cX8_guild 150 = .ok (.getfield 19, 3) := by decide +kernel
theorem dX8_guild_153 : decode cX8_guild 153 = .ok (.iload_n 2, 1) := by decide +kernel
theorem dX8_guild_154 : decode cX8_guild 154 = .ok (.aload_n 0, 1) := by decide +kernel
theorem dX8_guild_155 : decode cX8_guild 155 = .ok (.getfield 50, 3) := by decide +kernel
theorem dX8_guild_158 : decode cX8_guild 158 = .ok (.iconst 3, 1) := by decide +kernel
theorem dX8_guild_159 : decode cX8_guild 159 = .ok (.iload_n 2, 1) := by decide +kernel
theorem dX8_guild_160 : decode cX8_guild 160 = .ok (.imul, 1) := by decide +kernel
theorem dX8_guild_161 : decode cX8_guild 161 = .ok (.iaload, 1) := by decide +kernel
theorem dX8_guild_162 : decode cX8_guild 162 = .ok (.iastore, 1) := by decide +kernel
theorem dX8_guild_163 : decode cX8_guild 163 = .ok (.aload_n 0, 1) := by decide +kernel
theorem dX8_guild_164 : decode cX8_guild 164 = .ok (.getfield 22, 3) := by decide +kernel
theorem dX8_guild_167 : decode cX8_guild 167 = .ok (.iload_n 2, 1) := by decide +kernel
theorem dX8_guild_168 : decode cX8_guild 168 = .ok (.aload_n 0, 1) := by decide +kernel
theorem dX8_guild_169 : decode cX8_guild 169 = .ok (.getfield 50, 3) := by decide +kernel
theorem dX8_guild_172 : decode cX8_guild 172 = .ok (.iconst 3, 1) := by decide +kernel
theorem dX8_guild_173 : decode cX8_guild 173 = .ok (.iload_n 2, 1) := by decide +kernel
theorem dX8_guild_174 : decode cX8_guild 174 = .ok (.imul, 1) := by decide +kernel
theorem dX8_guild_175 : decode cX8_guild 175 = .ok (.iconst 1, 1) := by decide +kernel
theorem dX8_guild_176 : decode cX8_guild 176 = .ok (.iadd, 1) := by decide +kernel
theorem dX8_guild_177 : decode cX8_guild 177 = .ok (.iaload, 1) := by decide +kernel
theorem dX8_guild_178 : decode cX8_guild 178 = .ok (.iastore, 1) := by decide +kernel
theorem dX8_guild_179 : decode cX8_guild 179 = .ok (.aload_n 0, 1) := by decide +kernel
theorem dX8_guild_180 : decode cX8_guild 180 = .ok (.getfield 25, 3) := by decide +kernel
theorem dX8_guild_183 : decode cX8_guild 183 = .ok (.iload_n 2, 1) := by decide +kernel
theorem dX8_guild_184 : decode cX8_guild 184 = .ok (.aload_n 0, 1) := by decide +kernel
theorem dX8_guild_185 : decode cX8_guild 185 = .ok (.getfield 50, 3) := by decide +kernel
theorem dX8_guild_188 : decode cX8_guild 188 = .ok (.iconst 3, 1) := by decide +kernel
theorem dX8_guild_189 : decode cX8_guild 189 = .ok (.iload_n 2, 1) := by decide +kernel
theorem dX8_guild_190 : decode cX8_guild 190 = .ok (.imul, 1) := by decide +kernel
theorem dX8_guild_191 : decode cX8_guild 191 = .ok (.iconst 2, 1) := by decide +kernel
theorem dX8_guild_192 : decode cX8_guild 192 = .ok (.iadd, 1) := by decide +kernel
theorem dX8_guild_193 : decode cX8_guild 193 = .ok (.iaload, 1) := by decide +kernel
theorem dX8_guild_194 : decode cX8_guild 194 = .ok (.iastore, 1) := by decide +kernel
theorem dX8_guild_195 : decode cX8_guild 195 = .ok (.iinc 2 1, 3) := by decide +kernel
theorem dX8_guild_198 : decode cX8_guild 198 = .ok (.goto (-57), 3) := by decide +kernel
theorem dX8_guild_201 : decode cX8_guild 201 = .ok (.iconst 1, 1) := by decide +kernel
theorem dX8_guild_202 : decode cX8_guild 202 = .ok (.istore_n 2, 1) := by decide +kernel
theorem dX8_guild_203 : decode cX8_guild 203 = .ok (.iload_n 2, 1) := by decide +kernel
theorem dX8_guild_204 : decode cX8_guild 204 = .ok (.iconst 4, 1) := by decide +kernel
theorem dX8_guild_205 : decode cX8_guild 205 = .ok (.if_icmp .ge 22, 3) := by decide +kernel
theorem dX8_guild_208 : decode cX8_guild 208 = .ok (.aload_n 0, 1) := by decide +kernel
theorem dX8_guild_209 : decode cX8_guild 209 = .ok (.getfield 7, 3) := by decide +kernel
theorem dX8_guild_212 : decode cX8_guild 212 = .ok (.sipush 493, 3) := by decide +kernel
theorem dX8_guild_215 : decode cX8_guild 215 = .ok (.iload_n 2, 1) := by decide +kernel
theorem dX8_guild_216 : decode cX8_guild 216 = .ok (.imul, 1) := by decide +kernel
theorem dX8_guild_217 : decode cX8_guild 217 = .ok (.iconst 0, 1) := by decide +kernel
theorem dX8_guild_218 : decode cX8_guild 218 = .ok (.iadd, 1) := by decide +kernel
theorem dX8_guild_219 : decode cX8_guild 219 = .ok (.iconst (-1), 1) := by decide +kernel
theorem dX8_guild_220 : decode cX8_guild 220 = .ok (.iastore, 1) := by decide +kernel
theorem dX8_guild_221 : decode cX8_guild 221 = .ok (.iinc 2 1, 3) := by decide +kernel
theorem dX8_guild_224 : decode cX8_guild 224 = .ok (.goto (-21), 3) := by decide +kernel
theorem dX8_guild_227 : decode cX8_guild 227 = .ok (.aload_n 0, 1) := by decide +kernel
theorem dX8_guild_228 : decode cX8_guild 228 = .ok (.getfield 159, 3) := by decide +kernel
theorem dX8_guild_231 : decode cX8_guild 231 = .ok (.ireturn, 1) := by decide +kernel
theorem dX8_isSigher_0 : decode cX8_isSigher 0 = .ok (.iload_n 1, 1) := by decide +kernel
theorem dX8_isSigher_1 : decode cX8_isSigher 1 = .ok (.i2l, 1) := by decide +kernel
theorem dX8_isSigher_2 : decode cX8_isSigher 2 = .ok (.lconst 0, 1) := by decide +kernel
theorem dX8_isSigher_3 : decode cX8_isSigher 3 = .ok (.aload_n 0, 1) := by decide +kernel
theorem dX8_isSigher_4 : decode cX8_isSigher 4 = .ok (.getfield 156, 3) := by decide +kernel
theorem dX8_isSigher_7 : decode cX8_isSigher 7 = .ok (.iconst 1, 1) := by decide +kernel
theorem dX8_isSigher_8 : decode cX8_isSigher 8 = .ok (.isub, 1) := by decide +kernel
theorem dX8_isSigher_9 : decode cX8_isSigher 9 = .ok (.i2l, 1) := by decide +kernel
theorem dX8_isSigher_10 : decode cX8_isSigher 10 = .ok (.invokestatic 86, 3) := by decide +kernel
theorem dX8_isSigher_13 : decode cX8_isSigher 13 = .ok (.ireturn, 1) := by decide +kernel
theorem dX8_isOrder_0 : decode cX8_isOrder 0 = .ok (.iload_n 1, 1) := by decide +kernel
theorem dX8_isOrder_1 : decode cX8_isOrder 1 = .ok (.i2l, 1) := by decide +kernel
theorem dX8_isOrder_2 : decode cX8_isOrder 2 = .ok (.lconst 0, 1) := by decide +kernel
theorem dX8_isOrder_3 : decode cX8_isOrder 3 = .ok (.aload_n 0, 1) := by decide +kernel
theorem dX8_isOrder_4 : decode cX8_isOrder 4 = .ok (.getfield 159, 3) := by decide +kernel
theorem dX8_isOrder_7 : decode cX8_isOrder 7 = .ok (.iconst 1, 1) := by decide +kernel
theorem dX8_isOrder_8 : decode cX8_isOrder 8 = .ok (.isub, 1) := by decide +kernel
theorem dX8_isOrder_9 : decode cX8_isOrder 9 = .ok (.i2l, 1) := by decide +kernel
theorem dX8_isOrder_10 : decode cX8_isOrder 10 = .ok (.invokestatic 86, 3) := by decide +kernel
theorem dX8_isOrder_13 : decode cX8_isOrder 13 = .ok (.ireturn, 1) := by decide +kernel
theorem dX8_isDeep_0 : decode cX8_isDeep 0 = .ok (.iload_n 0, 1) := by decide +kernel
theorem dX8_isDeep_1 : decode cX8_isDeep 1 = .ok (.iconst 1, 1) := by decide +kernel
theorem dX8_isDeep_2 : decode cX8_isDeep 2 = .ok (.if_icmp .eq 8, 3) := by decide +kernel
theorem dX8_isDeep_5 : decode cX8_isDeep 5 = .ok (.iload_n 0, 1) := by decide +kernel
theorem dX8_isDeep_6 : decode cX8_isDeep 6 = .ok (.iconst 4, 1) := by decide +kernel
theorem dX8_isDeep_7 : decode cX8_isDeep 7 = .ok (.if_icmp .ne 7, 3) := by decide +kernel
theorem dX8_isDeep_10 : decode cX8_isDeep 10 = .ok (.iconst 1, 1) := by decide +kernel
theorem dX8_isDeep_11 : decode cX8_isDeep 11 = .ok (.goto 4, 3) := by decide +kernel
theorem dX8_isDeep_14 : decode cX8_isDeep 14 = .ok (.iconst 0, 1) := by decide +kernel
theorem dX8_isDeep_15 : decode cX8_isDeep 15 = .ok (.ireturn, 1) := by decide +kernel
theorem dX8_isTooDeep_0 : decode cX8_isTooDeep 0 = .ok (.iload_n 0, 1) := by decide +kernel
theorem dX8_isTooDeep_1 : decode cX8_isTooDeep 1 = .ok (.iconst 2, 1) := by decide +kernel
theorem dX8_isTooDeep_2 : decode cX8_isTooDeep 2 = .ok (.if_icmp .ne 8, 3) := by decide +kernel
theorem dX8_isTooDeep_5 : decode cX8_isTooDeep 5 = .ok (.iload_n 1, 1) := by decide +kernel
theorem dX8_isTooDeep_6 : decode cX8_isTooDeep 6 = .ok (.iconst 3, 1) := by decide +kernel
theorem dX8_isTooDeep_7 : decode cX8_isTooDeep 7 = .ok (.if_icmp .gt 14, 3) := by decide +kernel
theorem dX8_isTooDeep_10 : decode cX8_isTooDeep 10 = .ok (.iload_n 0, 1) := by decide +kernel
theorem dX8_isTooDeep_11 : decode cX8_isTooDeep 11 = .ok (.iconst 5, 1) := by decide +kernel
theorem dX8_isTooDeep_12 : decode cX8_isTooDeep 12 = .ok (.if_icmp .ne 13, 3) := by decide +kernel
theorem dX8_isTooDeep_15 : decode cX8_isTooDeep 15 = .ok (.iload_n 1, 1) := by decide +kernel
theorem dX8_isTooDeep_16 : decode cX8_isTooDeep 16 = .ok (.bipush 6, 2) := by decide +kernel
theorem dX8_isTooDeep_18 : decode cX8_isTooDeep 18 = .ok (.if_icmp .le 7, 3) := by decide +kernel
theorem dX8_isTooDeep_21 : decode cX8_isTooDeep 21 = .ok (.iconst 1, 1) := by decide +kernel
theorem dX8_isTooDeep_22 : decode cX8_isTooDeep 22 = .ok (.goto 4, 3) := by decide +kernel
theorem dX8_isTooDeep_25 : decode cX8_isTooDeep 25 = .ok (.iconst 0, 1) := by decide +kernel
theorem dX8_isTooDeep_26 : decode cX8_isTooDeep 26 = .ok (.ireturn, 1) := by decide +kernel
theorem dX8_takesOf_0 : decode cX8_takesOf 0 = .ok (.iload_n 1, 1) := by decide +kernel
theorem dX8_takesOf_1 : decode cX8_takesOf 1 = .ok (.iconst 2, 1) := by decide +kernel
theorem dX8_takesOf_2 : decode cX8_takesOf 2 = .ok (.if_icmp .ge 7, 3) := by decide +kernel
theorem dX8_takesOf_5 : decode cX8_takesOf 5 = .ok (.iconst 1, 1) := by decide +kernel
theorem dX8_takesOf_6 : decode cX8_takesOf 6 = .ok (.goto 6, 3) := by decide +kernel
theorem dX8_takesOf_9 : decode cX8_takesOf 9 = .ok (.iload_n 1, 1) := by decide +kernel
theorem dX8_takesOf_10 : decode cX8_takesOf 10 = .ok (.iconst 2, 1) := by decide +kernel
theorem dX8_takesOf_11 : decode cX8_takesOf 11 = .ok (.idiv, 1) := by decide +kernel
theorem dX8_takesOf_12 : decode cX8_takesOf 12 = .ok (.istore_n 2, 1) := by decide +kernel
theorem dX8_takesOf_13 : decode cX8_takesOf 13 = .ok (.iload_n 0, 1) := by decide +kernel
theorem dX8_takesOf_14 : decode cX8_takesOf 14 = .ok (.invokestatic 162, 3) := by decide +kernel
theorem dX8_takesOf_17 : decode cX8_takesOf 17 = .ok (.ifCond .eq 7, 3) := by decide +kernel
theorem dX8_takesOf_20 : decode cX8_takesOf 20 = .ok (.iload_n 2, 1) := by decide +kernel
theorem dX8_takesOf_21 : decode cX8_takesOf 21 = .ok (.goto 13, 3) := by decide +kernel
theorem dX8_takesOf_24 : decode cX8_takesOf 24 = .ok (.iload_n 0, 1) := by decide +kernel
theorem dX8_takesOf_25 : decode cX8_takesOf 25 = .ok (.iconst 3, 1) := by decide +kernel
theorem dX8_takesOf_26 : decode cX8_takesOf 26 = .ok (.if_icmp .ne 7, 3) := by decide +kernel
theorem dX8_takesOf_29 : decode cX8_takesOf 29 = .ok (.iconst 0, 1) := by decide +kernel
theorem dX8_takesOf_30 : decode cX8_takesOf 30 = .ok (.goto 4, 3) := by decide +kernel
theorem dX8_takesOf_33 : decode cX8_takesOf 33 = .ok (.iload_n 1, 1) := by decide +kernel
theorem dX8_takesOf_34 : decode cX8_takesOf 34 = .ok (.ireturn, 1) := by decide +kernel
theorem dX8_bringsBy_0 : decode cX8_bringsBy 0 = .ok (.iload_n 0, 1) := by decide +kernel
theorem dX8_bringsBy_1 : decode cX8_bringsBy 1 = .ok (.iconst 3, 1) := by decide +kernel
theorem dX8_bringsBy_2 : decode cX8_bringsBy 2 = .ok (.if_icmp .ne 9, 3) := by decide +kernel
theorem dX8_bringsBy_5 : decode cX8_bringsBy 5 = .ok (.iload_n 1, 1) := by decide +kernel
theorem dX8_bringsBy_6 : decode cX8_bringsBy 6 = .ok (.iconst 2, 1) := by decide +kernel
theorem dX8_bringsBy_7 : decode cX8_bringsBy 7 = .ok (.idiv, 1) := by decide +kernel
theorem dX8_bringsBy_8 : decode cX8_bringsBy 8 = .ok (.goto 29, 3) := by decide +kernel
theorem dX8_bringsBy_11 : decode cX8_bringsBy 11 = .ok (.iload_n 0, 1) := by decide +kernel
theorem dX8_bringsBy_12 : decode cX8_bringsBy 12 = .ok (.iconst 4, 1) := by decide +kernel
theorem dX8_bringsBy_13 : decode cX8_bringsBy 13 = .ok (.if_icmp .ne 9, 3) := by decide +kernel
theorem dX8_bringsBy_16 : decode cX8_bringsBy 16 = .ok (.iload_n 1, 1) := by decide +kernel
theorem dX8_bringsBy_17 : decode cX8_bringsBy 17 = .ok (.iconst 2, 1) := by decide +kernel
theorem dX8_bringsBy_18 : decode cX8_bringsBy 18 = .ok (.iadd, 1) := by decide +kernel
theorem dX8_bringsBy_19 : decode cX8_bringsBy 19 = .ok (.goto 18, 3) := by decide +kernel
theorem dX8_bringsBy_22 : decode cX8_bringsBy 22 = .ok (.iload_n 0, 1) := by decide +kernel
theorem dX8_bringsBy_23 : decode cX8_bringsBy 23 = .ok (.iconst 5, 1) := by decide +kernel
theorem dX8_bringsBy_24 : decode cX8_bringsBy 24 = .ok (.if_icmp .ne 12, 3) := by decide +kernel
theorem dX8_bringsBy_27 : decode cX8_bringsBy 27 = .ok (.iload_n 1, 1) := by decide +kernel
theorem dX8_bringsBy_28 : decode cX8_bringsBy 28 = .ok (.iconst 1, 1) := by decide +kernel
theorem dX8_bringsBy_29 : decode cX8_bringsBy 29 = .ok (.isub, 1) := by decide +kernel
theorem dX8_bringsBy_30 : decode cX8_bringsBy 30 = .ok (.invokestatic 165, 3) := by decide +kernel
theorem dX8_bringsBy_33 : decode cX8_bringsBy 33 = .ok (.goto 4, 3) := by decide +kernel
theorem dX8_bringsBy_36 : decode cX8_bringsBy 36 = .ok (.iload_n 1, 1) := by decide +kernel
theorem dX8_bringsBy_37 : decode cX8_bringsBy 37 = .ok (.ireturn, 1) := by decide +kernel
theorem dX8_taken_0 : decode cX8_taken 0 = .ok (.aload_n 0, 1) := by decide +kernel
theorem dX8_taken_1 : decode cX8_taken 1 = .ok (.getfield 13, 3) := by decide +kernel
theorem dX8_taken_4 : decode cX8_taken 4 = .ok (.iload_n 1, 1) := by decide +kernel
theorem dX8_taken_5 : decode cX8_taken 5 = .ok (.iaload, 1) := by decide +kernel
theorem dX8_taken_6 : decode cX8_taken 6 = .ok (.aload_n 0, 1) := by decide +kernel
theorem dX8_taken_7 : decode cX8_taken 7 = .ok (.getfield 22, 3) := by decide +kernel
theorem dX8_taken_10 : decode cX8_taken 10 = .ok (.iload_n 2, 1) := by decide +kernel
theorem dX8_taken_11 : decode cX8_taken 11 = .ok (.iaload, 1) := by decide +kernel
theorem dX8_taken_12 : decode cX8_taken 12 = .ok (.invokestatic 168, 3) := by decide +kernel
theorem dX8_taken_15 : decode cX8_taken 15 = .ok (.ireturn, 1) := by decide +kernel
theorem dX8_brought_0 : decode cX8_brought 0 = .ok (.aload_n 0, 1) := by decide +kernel
theorem dX8_brought_1 : decode cX8_brought 1 = .ok (.getfield 13, 3) := by decide +kernel
theorem dX8_brought_4 : decode cX8_brought 4 = .ok (.iload_n 1, 1) := by decide +kernel
theorem dX8_brought_5 : decode cX8_brought 5 = .ok (.iaload, 1) := by decide +kernel
theorem dX8_brought_6 : decode cX8_brought 6 = .ok (.aload_n 0, 1) := by decide +kernel
theorem dX8_brought_7 : decode cX8_brought 7 = .ok (.getfield 25, 3) := by decide +kernel
theorem dX8_brought_10 : decode cX8_brought 10 = .ok (.iload_n 2, 1) := by decide +kernel
theorem dX8_brought_11 : decode cX8_brought 11 = .ok (.iaload, 1) := by decide +kernel
theorem dX8_brought_12 : decode cX8_brought 12 = .ok (.invokestatic 171, 3) := by decide +kernel
theorem dX8_brought_15 : decode cX8_brought 15 = .ok (.ireturn, 1) := by decide +kernel
theorem dX8_can_0 : decode cX8_can 0 = .ok (.aload_n 0, 1) := by decide +kernel
theorem dX8_can_1 : decode cX8_can 1 = .ok (.getfield 7, 3) := by decide +kernel
theorem dX8_can_4 : decode cX8_can 4 = .ok (.iload_n 1, 1) := by decide +kernel
theorem dX8_can_5 : decode cX8_can 5 = .ok (.iconst 2, 1) := by decide +kernel
theorem dX8_can_6 : decode cX8_can 6 = .ok (.iadd, 1) := by decide +kernel
theorem dX8_can_7 : decode cX8_can 7 = .ok (.iaload, 1) := by decide +kernel
theorem dX8_can_8 : decode cX8_can 8 = .ok (.iload_n 3, 1) := by decide +kernel
theorem dX8_can_9 : decode cX8_can 9 = .ok (.invokestatic 174, 3) := by decide +kernel
theorem dX8_can_12 : decode cX8_can 12 = .ok (.ifCond .ne 44, 3) := by decide +kernel
theorem dX8_can_15 : decode cX8_can 15 = .ok (.aload_n 0, 1) := by decide +kernel
theorem dX8_can_16 : decode cX8_can 16 = .ok (.getfield 13, 3) := by decide +kernel
theorem dX8_can_19 : decode cX8_can 19 = .ok (.iload_n 2, 1) := by decide +kernel
theorem dX8_can_20 : decode cX8_can 20 = .ok (.iaload, 1) := by decide +kernel
theorem dX8_can_21 : decode cX8_can 21 = .ok (.aload_n 0, 1) := by decide +kernel
theorem dX8_can_22 : decode cX8_can 22 = .ok (.getfield 22, 3) := by decide +kernel
theorem dX8_can_25 : decode cX8_can 25 = .ok (.iload_n 3, 1) := by decide +kernel
theorem dX8_can_26 : decode cX8_can 26 = .ok (.iaload, 1) := by decide +kernel
theorem dX8_can_27 : decode cX8_can 27 = .ok (.invokestatic 178, 3) := by decide +kernel
theorem dX8_can_30 : decode cX8_can 30 = .ok (.ifCond .ne 26, 3) := by decide +kernel
theorem dX8_can_33 : decode cX8_can 33 = .ok (.aload_n 0, 1) := by decide +kernel
theorem dX8_can_34 : decode cX8_can 34 = .ok (.getfield 7, 3) := by decide +kernel
theorem dX8_can_37 : decode cX8_can 37 = .ok (.iload_n 1, 1) := by decide +kernel
theorem dX8_can_38 : decode cX8_can 38 = .ok (.iconst 3, 1) := by decide +kernel
theorem dX8_can_39 : decode cX8_can 39 = .ok (.iadd, 1) := by decide +kernel
theorem dX8_can_40 : decode cX8_can 40 = .ok (.iload_n 2, 1) := by decide +kernel
theorem dX8_can_41 : decode cX8_can 41 = .ok (.iadd, 1) := by decide +kernel
theorem dX8_can_42 : decode cX8_can 42 = .ok (.iaload, 1) := by decide +kernel
theorem dX8_can_43 : decode cX8_can 43 = .ok (.aload_n 0, 1) := by decide +kernel
theorem dX8_can_44 : decode cX8_can 44 = .ok (.iload_n 2, 1) := by decide +kernel
theorem dX8_can_45 : decode cX8_can 45 = .ok (.iload_n 3, 1) := by decide +kernel
theorem dX8_can_46 : decode cX8_can 46 = .ok (.invokevirtual 181, 3) := by decide +kernel
theorem dX8_can_49 : decode cX8_can 49 = .ok (.if_icmp .lt 7, 3) := by decide +kernel
theorem dX8_can_52 : decode cX8_can 52 = .ok (.iconst 1, 1) := by decide +kernel
theorem dX8_can_53 : decode cX8_can 53 = .ok (.goto 4, 3) := by decide +kernel
theorem dX8_can_56 : decode cX8_can 56 = .ok (.iconst 0, 1) := by decide +kernel
theorem dX8_can_57 : decode cX8_can 57 = .ok (.ireturn, 1) := by decide +kernel
theorem dX8_sigherTold_0 : decode cX8_sigherTold 0 = .ok (.iconst 0, 1) := by decide +kernel
theorem dX8_sigherTold_1 : decode cX8_sigherTold 1 = .ok (.istore_n 3, 1) := by decide +kernel
theorem dX8_sigherTold_2 : decode cX8_sigherTold 2 = .ok (.iload_n 2, 1) := by decide +kernel
theorem dX8_sigherTold_3 : decode cX8_sigherTold 3 = .ok (.tableswitch 62 0 3 #[29, 36, 45, 52], 29) := by decide +kernel
theorem dX8_sigherTold_32 : decode cX8_sigherTold 32 = .ok (.aload_n 0, 1) := by decide +kernel
theorem dX8_sigherTold_33 : decode cX8_sigherTold 33 = .ok (.getfield 13, 3) := by decide +kernel
theorem dX8_sigherTold_36 : decode cX8_sigherTold 36 = .ok (.iload_n 1, 1) := by decide +kernel
theorem dX8_sigherTold_37 : decode cX8_sigherTold 37 = .ok (.iaload, 1) := by decide +kernel
theorem dX8_sigherTold_38 : decode cX8_sigherTold 38 = .ok (.ireturn, 1) := by decide +kernel
theorem dX8_sigherTold_39 : decode cX8_sigherTold 39 = .ok (.aload_n 0, 1) := by decide +kernel
theorem dX8_sigherTold_40 : decode cX8_sigherTold 40 = .ok (.getfield 7, 3) := by decide +kernel
theorem dX8_sigherTold_43 : decode cX8_sigherTold 43 = .ok (.iconst 3, 1) := by decide +kernel
theorem dX8_sigherTold_44 : decode cX8_sigherTold 44 = .ok (.iload_n 1, 1) := by decide +kernel
theorem dX8_sigherTold_45 : decode cX8_sigherTold 45 = .ok (.iadd, 1) := by decide +kernel
theorem dX8_sigherTold_46 : decode cX8_sigherTold 46 = .ok (.iaload, 1) := by decide +kernel
theorem dX8_sigherTold_47 : decode cX8_sigherTold 47 = .ok (.ireturn, 1) := by decide +kernel
theorem dX8_sigherTold_48 : decode cX8_sigherTold 48 = .ok (.aload_n 0, 1) := by decide +kernel
theorem dX8_sigherTold_49 : decode cX8_sigherTold 49 = .ok (.getfield 16, 3) := by decide +kernel
theorem dX8_sigherTold_52 : decode cX8_sigherTold 52 = .ok (.iload_n 1, 1) := by decide +kernel
theorem dX8_sigherTold_53 : decode cX8_sigherTold 53 = .ok (.iaload, 1) := by decide +kernel
theorem dX8_sigherTold_54 : decode cX8_sigherTold 54 = .ok (.ireturn, 1) := by decide +kernel
theorem dX8_sigherTold_55 : decode cX8_sigherTold 55 = .ok (.aload_n 0, 1) := by decide +kernel
theorem dX8_sigherTold_56 : decode cX8_sigherTold 56 = .ok (.getfield 7, 3) := by decide +kernel
theorem dX8_sigherTold_59 : decode cX8_sigherTold 59 = .ok (.bipush 8, 2) := by decide +kernel
theorem dX8_sigherTold_61 : decode cX8_sigherTold 61 = .ok (.iload_n 1, 1) := by decide +kernel
theorem dX8_sigherTold_62 : decode cX8_sigherTold 62 = .ok (.iadd, 1) := by decide +kernel
theorem dX8_sigherTold_63 : decode cX8_sigherTold 63 = .ok (.iaload, 1) := by decide +kernel
theorem dX8_sigherTold_64 : decode cX8_sigherTold 64 = .ok (.ireturn, 1) := by decide +kernel
theorem dX8_sigherTold_65 : decode cX8_sigherTold 65 = .ok (.iconst 0, 1) := by decide +kernel
theorem dX8_sigherTold_66 : decode cX8_sigherTold 66 = .ok (.istore 4, 2) := by decide +kernel
theorem dX8_sigherTold_68 : decode cX8_sigherTold 68 = .ok (.iload 4, 2) := by decide +kernel
theorem dX8_sigherTold_70 : decode cX8_sigherTold 70 = .ok (.aload_n 0, 1) := by decide +kernel
theorem dX8_sigherTold_71 : decode cX8_sigherTold 71 = .ok (.getfield 159, 3) := by decide +kernel
theorem dX8_sigherTold_74 : decode cX8_sigherTold 74 = .ok (.if_icmp .ge 31, 3) := by decide +kernel
theorem dX8_sigherTold_77 : decode cX8_sigherTold 77 = .ok (.iload_n 3, 1) := by decide +kernel
theorem dX8_sigherTold_78 : decode cX8_sigherTold 78 = .ok (.aload_n 0, 1) := by decide +kernel
theorem dX8_sigherTold_79 : decode cX8_sigherTold 79 = .ok (.iconst 0, 1) := by decide +kernel
theorem dX8_sigherTold_80 : decode cX8_sigherTold 80 = .ok (.iload_n 1, 1) := by decide +kernel
theorem dX8_sigherTold_81 : decode cX8_sigherTold 81 = .ok (.iload 4, 2) := by decide +kernel
theorem dX8_sigherTold_83 : decode cX8_sigherTold 83 = .ok (.invokevirtual 184, 3) := by decide +kernel
theorem dX8_sigherTold_86 : decode cX8_sigherTold 86 = .ok (.ifCond .eq 10, 3) := by decide +kernel
theorem dX8_sigherTold_89 : decode cX8_sigherTold 89 = .ok (.iconst 1, 1) := by decide +kernel
theorem dX8_sigherTold_90 : decode cX8_sigherTold 90 = .ok (.iload 4, 2) := by decide +kernel
theorem dX8_sigherTold_92 : decode cX8_sigherTold 92 = .ok (.ishl, 1) := by decide +kernel
theorem dX8_sigherTold_93 : decode cX8_sigherTold 93 = .ok (.goto 4, 3) := by decide +kernel
theorem dX8_sigherTold_96 : decode cX8_sigherTold 96 = .ok (.iconst 0, 1) := by decide +kernel
theorem dX8_sigherTold_97 : decode cX8_sigherTold 97 = .ok (.ior, 1) := by decide +kernel
theorem dX8_sigherTold_98 : decode cX8_sigherTold 98 = .ok (.istore_n 3, 1) := by decide +kernel
theorem dX8_sigherTold_99 : decode cX8_sigherTold 99 = .ok (.iinc 4 1, 3) := by decide +kernel
theorem dX8_sigherTold_102 : decode cX8_sigherTold 102 = .ok (.goto (-34), 3) := by decide +kernel
theorem dX8_sigherTold_105 : decode cX8_sigherTold 105 = .ok (.iload_n 3, 1) := by decide +kernel
theorem dX8_sigherTold_106 : decode cX8_sigherTold 106 = .ok (.ireturn, 1) := by decide +kernel
theorem dX8_sigher_0 : decode cX8_sigher 0 = .ok (.aload_n 0, 1) := by decide +kernel
theorem dX8_sigher_1 : decode cX8_sigher 1 = .ok (.iload_n 1, 1) := by decide +kernel
theorem dX8_sigher_2 : decode cX8_sigher 2 = .ok (.invokevirtual 187, 3) := by decide +kernel
theorem dX8_sigher_5 : decode cX8_sigher 5 = .ok (.ifCond .eq 28, 3) := by decide +kernel
theorem dX8_sigher_8 : decode cX8_sigher 8 = .ok (.iload_n 2, 1) := by decide +kernel
theorem dX8_sigher_9 : decode cX8_sigher 9 = .ok (.i2l, 1) := by decide +kernel
theorem dX8_sigher_10 : decode cX8_sigher 10 = .ok (.lconst 0, 1) := by decide +kernel
theorem dX8_sigher_11 : decode cX8_sigher 11 = .ok (.ldc2_w 190, 3) := by decide +kernel
theorem dX8_sigher_14 : decode cX8_sigher 14 = .ok (.invokestatic 86, 3) := by decide +kernel
theorem dX8_sigher_17 : decode cX8_sigher 17 = .ok (.ifCond .eq 16, 3) := by decide +kernel
theorem dX8_sigher_20 : decode cX8_sigher 20 = .ok (.aload_n 0, 1) := by decide +kernel
theorem dX8_sigher_21 : decode cX8_sigher 21 = .ok (.aload_n 0, 1) := by decide +kernel
theorem dX8_sigher_22 : decode cX8_sigher 22 = .ok (.iload_n 1, 1) := by decide +kernel
theorem dX8_sigher_23 : decode cX8_sigher 23 = .ok (.iload_n 2, 1) := by decide +kernel
theorem dX8_sigher_24 : decode cX8_sigher 24 = .ok (.invokevirtual 192, 3) := by decide +kernel
theorem dX8_sigher_27 : decode cX8_sigher 27 = .ok (.invokevirtual 108, 3) := by decide +kernel
theorem dX8_sigher_30 : decode cX8_sigher 30 = .ok (.goto 4, 3) := by decide +kernel
theorem dX8_sigher_33 : decode cX8_sigher 33 = .ok (.iconst (-1), 1) := by decide +kernel
theorem dX8_sigher_34 : decode cX8_sigher 34 = .ok (.ireturn, 1) := by decide +kernel
theorem dX8_orderTold_0 : decode cX8_orderTold 0 = .ok (.iconst 0, 1) := by decide +kernel
theorem dX8_orderTold_1 : decode cX8_orderTold 1 = .ok (.istore_n 3, 1) := by decide +kernel
theorem dX8_orderTold_2 : decode cX8_orderTold 2 = .ok (.iload_n 2, 1) := by decide +kernel
theorem dX8_orderTold_3 : decode cX8_orderTold 3 = .ok (.tableswitch 61 0 3 #[29, 36, 43, 50], 29) := by decide +kernel
theorem dX8_orderTold_32 : decode cX8_orderTold 32 = .ok (.aload_n 0, 1) := by decide +kernel
theorem dX8_orderTold_33 : decode cX8_orderTold 33 = .ok (.getfield 19, 3) := by decide +kernel
theorem dX8_orderTold_36 : decode cX8_orderTold 36 = .ok (.iload_n 1, 1) := by decide +kernel
theorem dX8_orderTold_37 : decode cX8_orderTold 37 = .ok (.iaload, 1) := by decide +kernel
theorem dX8_orderTold_38 : decode cX8_orderTold 38 = .ok (.ireturn, 1) := by decide +kernel
theorem dX8_orderTold_39 : decode cX8_orderTold 39 = .ok (.aload_n 0, 1) := by decide +kernel
theorem dX8_orderTold_40 : decode cX8_orderTold 40 = .ok (.getfield 22, 3) := by decide +kernel
theorem dX8_orderTold_43 : decode cX8_orderTold 43 = .ok (.iload_n 1, 1) := by decide +kernel
theorem dX8_orderTold_44 : decode cX8_orderTold 44 = .ok (.iaload, 1) := by decide +kernel
theorem dX8_orderTold_45 : decode cX8_orderTold 45 = .ok (.ireturn, 1) := by decide +kernel
theorem dX8_orderTold_46 : decode cX8_orderTold 46 = .ok (.aload_n 0, 1) := by decide +kernel
theorem dX8_orderTold_47 : decode cX8_orderTold 47 = .ok (.getfield 25, 3) := by decide +kernel
theorem dX8_orderTold_50 : decode cX8_orderTold 50 = .ok (.iload_n 1, 1) := by decide +kernel
theorem dX8_orderTold_51 : decode cX8_orderTold 51 = .ok (.iaload, 1) := by decide +kernel
theorem dX8_orderTold_52 : decode cX8_orderTold 52 = .ok (.ireturn, 1) := by decide +kernel
theorem dX8_orderTold_53 : decode cX8_orderTold 53 = .ok (.aload_n 0, 1) := by decide +kernel
theorem dX8_orderTold_54 : decode cX8_orderTold 54 = .ok (.getfield 7, 3) := by decide +kernel
theorem dX8_orderTold_57 : decode cX8_orderTold 57 = .ok (.iconst 2, 1) := by decide +kernel
theorem dX8_orderTold_58 : decode cX8_orderTold 58 = .ok (.iaload, 1) := by decide +kernel
theorem dX8_orderTold_59 : decode cX8_orderTold 59 = .ok (.iload_n 1, 1) := by decide +kernel
theorem dX8_orderTold_60 : decode cX8_orderTold 60 = .ok (.ishr, 1) := by decide +kernel
theorem dX8_orderTold_61 : decode cX8_orderTold 61 = .ok (.iconst 1, 1) := by decide +kernel
theorem dX8_orderTold_62 : decode cX8_orderTold 62 = .ok (.iand, 1) := by decide +kernel
theorem dX8_orderTold_63 : decode cX8_orderTold 63 = .ok (.ireturn, 1) := by decide +kernel
theorem dX8_orderTold_64 : decode cX8_orderTold 64 = .ok (.iconst 0, 1) := by decide +kernel
theorem dX8_orderTold_65 : decode cX8_orderTold 65 = .ok (.istore 4, 2) := by decide +kernel
theorem dX8_orderTold_67 : decode cX8_orderTold 67 = .ok (.iload 4, 2) := by decide +kernel
theorem dX8_orderTold_69 : decode cX8_orderTold 69 = .ok (.aload_n 0, 1) := by decide +kernel
theorem dX8_orderTold_70 : decode cX8_orderTold 70 = .ok (.getfield 156, 3) := by decide +kernel
theorem dX8_orderTold_73 : decode cX8_orderTold 73 = .ok (.if_icmp .ge 31, 3) := by decide +kernel
theorem dX8_orderTold_76 : decode cX8_orderTold 76 = .ok (.iload_n 3, 1) := by decide +kernel
theorem dX8_orderTold_77 : decode cX8_orderTold 77 = .ok (.aload_n 0, 1) := by decide +kernel
theorem dX8_orderTold_78 : decode cX8_orderTold 78 = .ok (.iconst 0, 1) := by decide +kernel
theorem dX8_orderTold_79 : decode cX8_orderTold 79 = .ok (.iload 4, 2) := by decide +kernel
theorem dX8_orderTold_81 : decode cX8_orderTold 81 = .ok (.iload_n 1, 1) := by decide +kernel
theorem dX8_orderTold_82 : decode cX8_orderTold 82 = .ok (.invokevirtual 184, 3) := by decide +kernel
theorem dX8_orderTold_85 : decode cX8_orderTold 85 = .ok (.ifCond .eq 10, 3) := by decide +kernel
theorem dX8_orderTold_88 : decode cX8_orderTold 88 = .ok (.iconst 1, 1) := by decide +kernel
theorem dX8_orderTold_89 : decode cX8_orderTold 89 = .ok (.iload 4, 2) := by decide +kernel
theorem dX8_orderTold_91 : decode cX8_orderTold 91 = .ok (.ishl, 1) := by decide +kernel
theorem dX8_orderTold_92 : decode cX8_orderTold 92 = .ok (.goto 4, 3) := by decide +kernel
theorem dX8_orderTold_95 : decode cX8_orderTold 95 = .ok (.iconst 0, 1) := by decide +kernel
theorem dX8_orderTold_96 : decode cX8_orderTold 96 = .ok (.ior, 1) := by decide +kernel
theorem dX8_orderTold_97 : decode cX8_orderTold 97 = .ok (.istore_n 3, 1) := by decide +kernel
theorem dX8_orderTold_98 : decode cX8_orderTold 98 = .ok (.iinc 4 1, 3) := by decide +kernel
theorem dX8_orderTold_101 : decode cX8_orderTold 101 = .ok (.goto (-34), 3) := by decide +kernel
theorem dX8_orderTold_104 : decode cX8_orderTold 104 = .ok (.iload_n 3, 1) := by decide +kernel
theorem dX8_orderTold_105 : decode cX8_orderTold 105 = .ok (.ireturn, 1) := by decide +kernel
theorem dX8_order_0 : decode cX8_order 0 = .ok (.aload_n 0, 1) := by decide +kernel
theorem dX8_order_1 : decode cX8_order 1 = .ok (.iload_n 1, 1) := by decide +kernel
theorem dX8_order_2 : decode cX8_order 2 = .ok (.invokevirtual 195, 3) := by decide +kernel
theorem dX8_order_5 : decode cX8_order 5 = .ok (.ifCond .eq 28, 3) := by decide +kernel
theorem dX8_order_8 : decode cX8_order 8 = .ok (.iload_n 2, 1) := by decide +kernel
theorem dX8_order_9 : decode cX8_order 9 = .ok (.i2l, 1) := by decide +kernel
theorem dX8_order_10 : decode cX8_order 10 = .ok (.lconst 0, 1) := by decide +kernel
theorem dX8_order_11 : decode cX8_order 11 = .ok (.ldc2_w 190, 3) := by decide +kernel
theorem dX8_order_14 : decode cX8_order 14 = .ok (.invokestatic 86, 3) := by decide +kernel
theorem dX8_order_17 : decode cX8_order 17 = .ok (.ifCond .eq 16, 3) := by decide +kernel
theorem dX8_order_20 : decode cX8_order 20 = .ok (.aload_n 0, 1) := by decide +kernel
theorem dX8_order_21 : decode cX8_order 21 = .ok (.aload_n 0, 1) := by decide +kernel
theorem dX8_order_22 : decode cX8_order 22 = .ok (.iload_n 1, 1) := by decide +kernel
theorem dX8_order_23 : decode cX8_order 23 = .ok (.iload_n 2, 1) := by decide +kernel
theorem dX8_order_24 : decode cX8_order 24 = .ok (.invokevirtual 198, 3) := by decide +kernel
theorem dX8_order_27 : decode cX8_order 27 = .ok (.invokevirtual 108, 3) := by decide +kernel
theorem dX8_order_30 : decode cX8_order 30 = .ok (.goto 4, 3) := by decide +kernel
theorem dX8_order_33 : decode cX8_order 33 = .ok (.iconst (-1), 1) := by decide +kernel
theorem dX8_order_34 : decode cX8_order 34 = .ok (.ireturn, 1) := by decide +kernel
theorem dX8_isOf_0 : decode cX8_isOf 0 = .ok (.aload_n 0, 1) := by decide +kernel
theorem dX8_isOf_1 : decode cX8_isOf 1 = .ok (.getfield 13, 3) := by decide +kernel
theorem dX8_isOf_4 : decode cX8_isOf 4 = .ok (.iload_n 1, 1) := by decide +kernel
theorem dX8_isOf_5 : decode cX8_isOf 5 = .ok (.iaload, 1) := by decide +kernel
theorem dX8_isOf_6 : decode cX8_isOf 6 = .ok (.istore_n 3, 1) := by decide +kernel
theorem dX8_isOf_7 : decode cX8_isOf 7 = .ok (.iload_n 3, 1) := by decide +kernel
theorem dX8_isOf_8 : decode cX8_isOf 8 = .ok (.iload_n 2, 1) := by decide +kernel
theorem dX8_isOf_9 : decode cX8_isOf 9 = .ok (.if_icmp .eq 23, 3) := by decide +kernel
theorem dX8_isOf_12 : decode cX8_isOf 12 = .ok (.iload_n 2, 1) := by decide +kernel
theorem dX8_isOf_13 : decode cX8_isOf 13 = .ok (.iconst 1, 1) := by decide +kernel
theorem dX8_isOf_14 : decode cX8_isOf 14 = .ok (.if_icmp .ne 8, 3) := by decide +kernel
theorem dX8_isOf_17 : decode cX8_isOf 17 = .ok (.iload_n 3, 1) := by decide +kernel
theorem dX8_isOf_18 : decode cX8_isOf 18 = .ok (.iconst 4, 1) := by decide +kernel
theorem dX8_isOf_19 : decode cX8_isOf 19 = .ok (.if_icmp .eq 13, 3) := by decide +kernel
theorem dX8_isOf_22 : decode cX8_isOf 22 = .ok (.iload_n 2, 1) := by decide +kernel
theorem dX8_isOf_23 : decode cX8_isOf 23 = .ok (.iconst 2, 1) := by decide +kernel
theorem dX8_isOf_24 : decode cX8_isOf 24 = .ok (.if_icmp .ne 12, 3) := by decide +kernel
theorem dX8_isOf_27 : decode cX8_isOf 27 = .ok (.iload_n 3, 1) := by decide +kernel
theorem dX8_isOf_28 : decode cX8_isOf 28 = .ok (.iconst 5, 1) := by decide +kernel
theorem dX8_isOf_29 : decode cX8_isOf 29 = .ok (.if_icmp .ne 7, 3) := by decide +kernel
theorem dX8_isOf_32 : decode cX8_isOf 32 = .ok (.iconst 1, 1) := by decide +kernel
theorem dX8_isOf_33 : decode cX8_isOf 33 = .ok (.goto 4, 3) := by decide +kernel
theorem dX8_isOf_36 : decode cX8_isOf 36 = .ok (.iconst 0, 1) := by decide +kernel
theorem dX8_isOf_37 : decode cX8_isOf 37 = .ok (.ireturn, 1) := by decide +kernel
theorem dX8_markOf_0 : decode cX8_markOf 0 = .ok (.iload_n 3, 1) := by decide +kernel
theorem dX8_markOf_1 : decode cX8_markOf 1 = .ok (.tableswitch 102 1 4 #[31, 45, 69, 83], 31) := by decide +kernel
theorem dX8_markOf_32 : decode cX8_markOf 32 = .ok (.aload_n 0, 1) := by decide +kernel
theorem dX8_markOf_33 : decode cX8_markOf 33 = .ok (.getfield 22, 3) := by decide +kernel
theorem dX8_markOf_36 : decode cX8_markOf 36 = .ok (.iload_n 2, 1) := by decide +kernel
theorem dX8_markOf_37 : decode cX8_markOf 37 = .ok (.iaload, 1) := by decide +kernel
theorem dX8_markOf_38 : decode cX8_markOf 38 = .ok (.aload_n 0, 1) := by decide +kernel
theorem dX8_markOf_39 : decode cX8_markOf 39 = .ok (.iload_n 1, 1) := by decide +kernel
theorem dX8_markOf_40 : decode cX8_markOf 40 = .ok (.iload_n 2, 1) := by decide +kernel
theorem dX8_markOf_41 : decode cX8_markOf 41 = .ok (.invokevirtual 181, 3) := by decide +kernel
theorem dX8_markOf_44 : decode cX8_markOf 44 = .ok (.isub, 1) := by decide +kernel
theorem dX8_markOf_45 : decode cX8_markOf 45 = .ok (.ireturn, 1) := by decide +kernel
theorem dX8_markOf_46 : decode cX8_markOf 46 = .ok (.aload_n 0, 1) := by decide +kernel
theorem dX8_markOf_47 : decode cX8_markOf 47 = .ok (.getfield 13, 3) := by decide +kernel
theorem dX8_markOf_50 : decode cX8_markOf 50 = .ok (.iload_n 1, 1) := by decide +kernel
theorem dX8_markOf_51 : decode cX8_markOf 51 = .ok (.iaload, 1) := by decide +kernel
theorem dX8_markOf_52 : decode cX8_markOf 52 = .ok (.aload_n 0, 1) := by decide +kernel
theorem dX8_markOf_53 : decode cX8_markOf 53 = .ok (.getfield 22, 3) := by decide +kernel
theorem dX8_markOf_56 : decode cX8_markOf 56 = .ok (.iload_n 2, 1) := by decide +kernel
theorem dX8_markOf_57 : decode cX8_markOf 57 = .ok (.iaload, 1) := by decide +kernel
theorem dX8_markOf_58 : decode cX8_markOf 58 = .ok (.invokestatic 178, 3) := by decide +kernel
theorem dX8_markOf_61 : decode cX8_markOf 61 = .ok (.ifCond .eq 7, 3) := by decide +kernel
theorem dX8_markOf_64 : decode cX8_markOf 64 = .ok (.iconst 1, 1) := by decide +kernel
theorem dX8_markOf_65 : decode cX8_markOf 65 = .ok (.goto 4, 3) := by decide +kernel
theorem dX8_markOf_68 : decode cX8_markOf 68 = .ok (.iconst 0, 1) := by decide +kernel
theorem dX8_markOf_69 : decode cX8_markOf 69 = .ok (.ireturn, 1) := by decide +kernel
theorem dX8_markOf_70 : decode cX8_markOf 70 = .ok (.aload_n 0, 1) := by decide +kernel
theorem dX8_markOf_71 : decode cX8_markOf 71 = .ok (.getfield 25, 3) := by decide +kernel
theorem dX8_markOf_74 : decode cX8_markOf 74 = .ok (.iload_n 2, 1) := by decide +kernel
theorem dX8_markOf_75 : decode cX8_markOf 75 = .ok (.iaload, 1) := by decide +kernel
theorem dX8_markOf_76 : decode cX8_markOf 76 = .ok (.aload_n 0, 1) := by decide +kernel
theorem dX8_markOf_77 : decode cX8_markOf 77 = .ok (.iload_n 1, 1) := by decide +kernel
theorem dX8_markOf_78 : decode cX8_markOf 78 = .ok (.iload_n 2, 1) := by decide +kernel
theorem dX8_markOf_79 : decode cX8_markOf 79 = .ok (.invokevirtual 201, 3) := by decide +kernel
theorem dX8_markOf_82 : decode cX8_markOf 82 = .ok (.isub, 1) := by decide +kernel
theorem dX8_markOf_83 : decode cX8_markOf 83 = .ok (.ireturn, 1) := by decide +kernel
theorem dX8_markOf_84 : decode cX8_markOf 84 = .ok (.aload_n 0, 1) := by decide +kernel
theorem dX8_markOf_85 : decode cX8_markOf 85 = .ok (.getfield 7, 3) := by decide +kernel
theorem dX8_markOf_88 : decode cX8_markOf 88 = .ok (.iconst 2, 1) := by decide +kernel
theorem dX8_markOf_89 : decode cX8_markOf 89 = .ok (.iaload, 1) := by decide +kernel
theorem dX8_markOf_90 : decode cX8_markOf 90 = .ok (.iload_n 2, 1) := by decide +kernel
theorem dX8_markOf_91 : decode cX8_markOf 91 = .ok (.invokestatic 174, 3) := by decide +kernel
theorem dX8_markOf_94 : decode cX8_markOf 94 = .ok (.ifCond .eq 7, 3) := by decide +kernel
theorem dX8_markOf_97 : decode cX8_markOf 97 = .ok (.iconst 0, 1) := by decide +kernel
theorem dX8_markOf_98 : decode cX8_markOf 98 = .ok (.goto 4, 3) := by decide +kernel
theorem dX8_markOf_101 : decode cX8_markOf 101 = .ok (.iconst 1, 1) := by decide +kernel
theorem dX8_markOf_102 : decode cX8_markOf 102 = .ok (.ireturn, 1) := by decide +kernel
theorem dX8_markOf_103 : decode cX8_markOf 103 = .ok (.iconst 2, 1) := by decide +kernel
theorem dX8_markOf_104 : decode cX8_markOf 104 = .ok (.aload_n 0, 1) := by decide +kernel
theorem dX8_markOf_105 : decode cX8_markOf 105 = .ok (.getfield 22, 3) := by decide +kernel
theorem dX8_markOf_108 : decode cX8_markOf 108 = .ok (.iload_n 2, 1) := by decide +kernel
theorem dX8_markOf_109 : decode cX8_markOf 109 = .ok (.iaload, 1) := by decide +kernel
theorem dX8_markOf_110 : decode cX8_markOf 110 = .ok (.invokestatic 178, 3) := by decide +kernel
theorem dX8_markOf_113 : decode cX8_markOf 113 = .ok (.ifCond .eq 20, 3) := by decide +kernel
theorem dX8_markOf_116 : decode cX8_markOf 116 = .ok (.iconst 5, 1) := by decide +kernel
theorem dX8_markOf_117 : decode cX8_markOf 117 = .ok (.aload_n 0, 1) := by decide +kernel
theorem dX8_markOf_118 : decode cX8_markOf 118 = .ok (.getfield 22, 3) := by decide +kernel
theorem dX8_markOf_121 : decode cX8_markOf 121 = .ok (.iload_n 2, 1) := by decide +kernel
theorem dX8_markOf_122 : decode cX8_markOf 122 = .ok (.iaload, 1) := by decide +kernel
theorem dX8_markOf_123 : decode cX8_markOf 123 = .ok (.invokestatic 178, 3) := by decide +kernel
theorem dX8_markOf_126 : decode cX8_markOf 126 = .ok (.ifCond .ne 7, 3) := by decide +kernel
theorem dX8_markOf_129 : decode cX8_markOf 129 = .ok (.iconst 1, 1) := by decide +kernel
theorem dX8_markOf_130 : decode cX8_markOf 130 = .ok (.goto 4, 3) := by decide +kernel
theorem dX8_markOf_133 : decode cX8_markOf 133 = .ok (.iconst 0, 1) := by decide +kernel
theorem dX8_markOf_134 : decode cX8_markOf 134 = .ok (.ireturn, 1) := by decide +kernel
theorem dX8_mark_0 : decode cX8_mark 0 = .ok (.aload_n 0, 1) := by decide +kernel
theorem dX8_mark_1 : decode cX8_mark 1 = .ok (.iload_n 1, 1) := by decide +kernel
theorem dX8_mark_2 : decode cX8_mark 2 = .ok (.invokevirtual 187, 3) := by decide +kernel
theorem dX8_mark_5 : decode cX8_mark 5 = .ok (.ifCond .eq 15, 3) := by decide +kernel
theorem dX8_mark_8 : decode cX8_mark 8 = .ok (.iload_n 2, 1) := by decide +kernel
theorem dX8_mark_9 : decode cX8_mark 9 = .ok (.i2l, 1) := by decide +kernel
theorem dX8_mark_10 : decode cX8_mark 10 = .ok (.lconst 1, 1) := by decide +kernel
theorem dX8_mark_11 : decode cX8_mark 11 = .ok (.ldc2_w 84, 3) := by decide +kernel
theorem dX8_mark_14 : decode cX8_mark 14 = .ok (.invokestatic 86, 3) := by decide +kernel
theorem dX8_mark_17 : decode cX8_mark 17 = .ok (.ifCond .ne 5, 3) := by decide +kernel
theorem dX8_mark_20 : decode cX8_mark 20 = .ok (.iconst (-1), 1) := by decide +kernel
theorem dX8_mark_21 : decode cX8_mark 21 = .ok (.ireturn, 1) := by decide +kernel
theorem dX8_mark_22 : decode cX8_mark 22 = .ok (.aload_n 0, 1) := by decide +kernel
theorem dX8_mark_23 : decode cX8_mark 23 = .ok (.iload_n 1, 1) := by decide +kernel
theorem dX8_mark_24 : decode cX8_mark 24 = .ok (.iload_n 2, 1) := by decide +kernel
theorem dX8_mark_25 : decode cX8_mark 25 = .ok (.invokevirtual 204, 3) := by decide +kernel
theorem dX8_mark_28 : decode cX8_mark 28 = .ok (.ifCond .ne 9, 3) := by decide +kernel
theorem dX8_mark_31 : decode cX8_mark 31 = .ok (.aload_n 0, 1) := by decide +kernel
theorem dX8_mark_32 : decode cX8_mark 32 = .ok (.iconst 3, 1) := by decide +kernel
theorem dX8_mark_33 : decode cX8_mark 33 = .ok (.invokevirtual 96, 3) := by decide +kernel
theorem dX8_mark_36 : decode cX8_mark 36 = .ok (.ireturn, 1) := by decide +kernel
theorem dX8_mark_37 : decode cX8_mark 37 = .ok (.iconst 0, 1) := by decide +kernel
theorem dX8_mark_38 : decode cX8_mark 38 = .ok (.istore_n 3, 1) := by decide +kernel
theorem dX8_mark_39 : decode cX8_mark 39 = .ok (.iconst 0, 1) := by decide +kernel
theorem dX8_mark_40 : decode cX8_mark 40 = .ok (.istore 4, 2) := by decide +kernel
theorem dX8_mark_42 : decode cX8_mark 42 = .ok (.iload 4, 2) := by decide +kernel
theorem dX8_mark_44 : decode cX8_mark 44 = .ok (.aload_n 0, 1) := by decide +kernel
theorem dX8_mark_45 : decode cX8_mark 45 = .ok (.getfield 159, 3) := by decide +kernel
theorem dX8_mark_48 : decode cX8_mark 48 = .ok (.if_icmp .ge 20, 3) := by decide +kernel
theorem dX8_mark_51 : decode cX8_mark 51 = .ok (.iload_n 3, 1) := by decide +kernel
theorem dX8_mark_52 : decode cX8_mark 52 = .ok (.aload_n 0, 1) := by decide +kernel
theorem dX8_mark_53 : decode cX8_mark 53 = .ok (.iload_n 1, 1) := by decide +kernel
theorem dX8_mark_54 : decode cX8_mark 54 = .ok (.iload 4, 2) := by decide +kernel
theorem dX8_mark_56 : decode cX8_mark 56 = .ok (.iload_n 2, 1) := by decide +kernel
theorem dX8_mark_57 : decode cX8_mark 57 = .ok (.invokevirtual 207, 3) := by decide +kernel
theorem dX8_mark_60 : decode cX8_mark 60 = .ok (.iadd, 1) := by decide +kernel
theorem dX8_mark_61 : decode cX8_mark 61 = .ok (.istore_n 3, 1) := by decide +kernel
theorem dX8_mark_62 : decode cX8_mark 62 = .ok (.iinc 4 1, 3) := by decide +kernel
theorem dX8_mark_65 : decode cX8_mark 65 = .ok (.goto (-23), 3) := by decide +kernel
theorem dX8_mark_68 : decode cX8_mark 68 = .ok (.iload_n 3, 1) := by decide +kernel
theorem dX8_mark_69 : decode cX8_mark 69 = .ok (.ireturn, 1) := by decide +kernel
theorem dX8_keepPast_0 : decode cX8_keepPast 0 = .ok (.iconst 0, 1) := by decide +kernel
theorem dX8_keepPast_1 : decode cX8_keepPast 1 = .ok (.istore_n 1, 1) := by decide +kernel
theorem dX8_keepPast_2 : decode cX8_keepPast 2 = .ok (.iload_n 1, 1) := by decide +kernel
theorem dX8_keepPast_3 : decode cX8_keepPast 3 = .ok (.bipush 12, 2) := by decide +kernel
theorem dX8_keepPast_5 : decode cX8_keepPast 5 = .ok (.if_icmp .ge 36, 3) := by decide +kernel
theorem dX8_keepPast_8 : decode cX8_keepPast 8 = .ok (.aload_n 0, 1) := by decide +kernel
theorem dX8_keepPast_9 : decode cX8_keepPast 9 = .ok (.getfield 7, 3) := by decide +kernel
theorem dX8_keepPast_12 : decode cX8_keepPast 12 = .ok (.bipush 13, 2) := by decide +kernel
theorem dX8_keepPast_14 : decode cX8_keepPast 14 = .ok (.bipush 12, 2) := by decide +kernel
theorem dX8_keepPast_16 : decode cX8_keepPast 16 = .ok (.aload_n 0, 1) := by decide +kernel
theorem dX8_keepPast_17 : decode cX8_keepPast 17 = .ok (.getfield 7, 3) := by decide +kernel
theorem dX8_keepPast_20 : decode cX8_keepPast 20 = .ok (.iconst 0, 1) := by decide +kernel
theorem dX8_keepPast_21 : decode cX8_keepPast 21 = .ok (.iaload, 1) := by decide +kernel
theorem dX8_keepPast_22 : decode cX8_keepPast 22 = .ok (.imul, 1) := by decide +kernel
theorem dX8_keepPast_23 : decode cX8_keepPast 23 = .ok (.iadd, 1) := by decide +kernel
theorem dX8_keepPast_24 : decode cX8_keepPast 24 = .ok (.iload_n 1, 1) := by decide +kernel
theorem dX8_keepPast_25 : decode cX8_keepPast 25 = .ok (.iadd, 1) := by decide +kernel
theorem dX8_keepPast_26 : decode cX8_keepPast 26 = .ok (.aload_n 0, 1) := by decide +kernel
theorem dX8_keepPast_27 : decode cX8_keepPast 27 = .ok (.getfield 7, 3) := by decide +kernel
theorem dX8_keepPast_30 : decode cX8_keepPast 30 = .ok (.iconst 1, 1) := by decide +kernel
theorem dX8_keepPast_31 : decode cX8_keepPast 31 = .ok (.iload_n 1, 1) := by decide +kernel
theorem dX8_keepPast_32 : decode cX8_keepPast 32 = .ok (.iadd, 1) := by decide +kernel
theorem dX8_keepPast_33 : decode cX8_keepPast 33 = .ok (.iaload, 1) := by decide +kernel
theorem dX8_keepPast_34 : decode cX8_keepPast 34 = .ok (.iastore, 1) := by decide +kernel
theorem dX8_keepPast_35 : decode cX8_keepPast 35 = .ok (.iinc 1 1, 3) := by decide +kernel
theorem dX8_keepPast_38 : decode cX8_keepPast 38 = .ok (.goto (-36), 3) := by decide +kernel
theorem dX8_keepPast_41 : decode cX8_keepPast 41 = .ok (.aload_n 0, 1) := by decide +kernel
theorem dX8_keepPast_42 : decode cX8_keepPast 42 = .ok (.getfield 7, 3) := by decide +kernel
theorem dX8_keepPast_45 : decode cX8_keepPast 45 = .ok (.iconst 0, 1) := by decide +kernel
theorem dX8_keepPast_46 : decode cX8_keepPast 46 = .ok (.dup2, 1) := by decide +kernel
theorem dX8_keepPast_47 : decode cX8_keepPast 47 = .ok (.iaload, 1) := by decide +kernel
theorem dX8_keepPast_48 : decode cX8_keepPast 48 = .ok (.iconst 1, 1) := by decide +kernel
theorem dX8_keepPast_49 : decode cX8_keepPast 49 = .ok (.iadd, 1) := by decide +kernel
theorem dX8_keepPast_50 : decode cX8_keepPast 50 = .ok (.iastore, 1) := by decide +kernel
theorem dX8_keepPast_51 : decode cX8_keepPast 51 = .ok (.return_, 1) := by decide +kernel
theorem dX8_walk_0 : decode cX8_walk 0 = .ok (.aload_n 0, 1) := by decide +kernel
theorem dX8_walk_1 : decode cX8_walk 1 = .ok (.iload_n 1, 1) := by decide +kernel
theorem dX8_walk_2 : decode cX8_walk 2 = .ok (.invokevirtual 187, 3) := by decide +kernel
theorem dX8_walk_5 : decode cX8_walk 5 = .ok (.ifCond .eq 15, 3) := by decide +kernel
theorem dX8_walk_8 : decode cX8_walk 8 = .ok (.iload_n 2, 1) := by decide +kernel
theorem dX8_walk_9 : decode cX8_walk 9 = .ok (.i2l, 1) := by decide +kernel
theorem dX8_walk_10 : decode cX8_walk 10 = .ok (.lconst 0, 1) := by decide +kernel
theorem dX8_walk_11 : decode cX8_walk 11 = .ok (.ldc2_w 211, 3) := by decide +kernel
theorem dX8_walk_14 : decode cX8_walk 14 = .ok (.invokestatic 86, 3) := by decide +kernel
theorem dX8_walk_17 : decode cX8_walk 17 = .ok (.ifCond .ne 5, 3) := by decide +kernel
theorem dX8_walk_20 : decode cX8_walk 20 = .ok (.iconst (-1), 1) := by decide +kernel
theorem dX8_walk_21 : decode cX8_walk 21 = .ok (.ireturn, 1) := by decide +kernel
theorem dX8_walk_22 : decode cX8_walk 22 = .ok (.aload_n 0, 1) := by decide +kernel
theorem dX8_walk_23 : decode cX8_walk 23 = .ok (.getfield 7, 3) := by decide +kernel
theorem dX8_walk_26 : decode cX8_walk 26 = .ok (.bipush 8, 2) := by decide +kernel
theorem dX8_walk_28 : decode cX8_walk 28 = .ok (.iload_n 1, 1) := by decide +kernel
theorem dX8_walk_29 : decode cX8_walk 29 = .ok (.iadd, 1) := by decide +kernel
theorem dX8_walk_30 : decode cX8_walk 30 = .ok (.iaload, 1) := by decide +kernel
theorem dX8_walk_31 : decode cX8_walk 31 = .ok (.iload_n 2, 1) := by decide +kernel
theorem dX8_walk_32 : decode cX8_walk 32 = .ok (.invokestatic 213, 3) := by decide +kernel
theorem dX8_walk_35 : decode cX8_walk 35 = .ok (.istore_n 3, 1) := by decide +kernel
theorem dX8_walk_36 : decode cX8_walk 36 = .ok (.iload_n 3, 1) := by decide +kernel
theorem dX8_walk_37 : decode cX8_walk 37 = .ok (.ifCond .ne 6, 3) := by decide +kernel
theorem dX8_walk_40 : decode cX8_walk 40 = .ok (.bipush (-4), 2) := by decide +kernel
theorem dX8_walk_42 : decode cX8_walk 42 = .ok (.ireturn, 1) := by decide +kernel
theorem dX8_walk_43 : decode cX8_walk 43 = .ok (.aload_n 0, 1) := by decide +kernel
theorem dX8_walk_44 : decode cX8_walk 44 = .ok (.getfield 7, 3) := by decide +kernel
theorem dX8_walk_47 : decode cX8_walk 47 = .ok (.iconst 0, 1) := by decide +kernel
theorem dX8_walk_48 : decode cX8_walk 48 = .ok (.iaload, 1) := by decide +kernel
theorem dX8_walk_49 : decode cX8_walk 49 = .ok (.bipush 40, 2) := by decide +kernel
theorem dX8_walk_51 : decode cX8_walk 51 = .ok (.if_icmp .ne 6, 3) := by decide +kernel
theorem dX8_walk_54 : decode cX8_walk 54 = .ok (.bipush (-2), 2) := by decide +kernel
theorem dX8_walk_56 : decode cX8_walk 56 = .ok (.ireturn, 1) := by decide +kernel
theorem dX8_walk_57 : decode cX8_walk 57 = .ok (.aload_n 0, 1) := by decide +kernel
theorem dX8_walk_58 : decode cX8_walk 58 = .ok (.invokevirtual 216, 3) := by decide +kernel
theorem dX8_walk_61 : decode cX8_walk 61 = .ok (.aload_n 0, 1) := by decide +kernel
theorem dX8_walk_62 : decode cX8_walk 62 = .ok (.getfield 7, 3) := by decide +kernel
theorem dX8_walk_65 : decode cX8_walk 65 = .ok (.bipush 8, 2) := by decide +kernel
theorem dX8_walk_67 : decode cX8_walk 67 = .ok (.iload_n 1, 1) := by decide +kernel
theorem dX8_walk_68 : decode cX8_walk 68 = .ok (.iadd, 1) := by decide +kernel
theorem dX8_walk_69 : decode cX8_walk 69 = .ok (.iload_n 2, 1) := by decide +kernel
theorem dX8_walk_70 : decode cX8_walk 70 = .ok (.iastore, 1) := by decide +kernel
theorem dX8_walk_71 : decode cX8_walk 71 = .ok (.iload_n 3, 1) := by decide +kernel
theorem dX8_walk_72 : decode cX8_walk 72 = .ok (.ireturn, 1) := by decide +kernel
theorem dX8_sighsAt_0 : decode cX8_sighsAt 0 = .ok (.aload_n 0, 1) := by decide +kernel
theorem dX8_sighsAt_1 : decode cX8_sighsAt 1 = .ok (.getfield 7, 3) := by decide +kernel
theorem dX8_sighsAt_4 : decode cX8_sighsAt 4 = .ok (.iload_n 1, 1) := by decide +kernel
theorem dX8_sighsAt_5 : decode cX8_sighsAt 5 = .ok (.iconst 3, 1) := by decide +kernel
theorem dX8_sighsAt_6 : decode cX8_sighsAt 6 = .ok (.iadd, 1) := by decide +kernel
theorem dX8_sighsAt_7 : decode cX8_sighsAt 7 = .ok (.iload_n 2, 1) := by decide +kernel
theorem dX8_sighsAt_8 : decode cX8_sighsAt 8 = .ok (.iadd, 1) := by decide +kernel
theorem dX8_sighsAt_9 : decode cX8_sighsAt 9 = .ok (.dup2, 1) := by decide +kernel
theorem dX8_sighsAt_10 : decode cX8_sighsAt 10 = .ok (.iaload, 1) := by decide +kernel
theorem dX8_sighsAt_11 : decode cX8_sighsAt 11 = .ok (.aload_n 0, 1) := by decide +kernel
theorem dX8_sighsAt_12 : decode cX8_sighsAt 12 = .ok (.iload_n 2, 1) := by decide +kernel
theorem dX8_sighsAt_13 : decode cX8_sighsAt 13 = .ok (.iload_n 3, 1) := by decide +kernel
theorem dX8_sighsAt_14 : decode cX8_sighsAt 14 = .ok (.invokevirtual 181, 3) := by decide +kernel
theorem dX8_sighsAt_17 : decode cX8_sighsAt 17 = .ok (.isub, 1) := by decide +kernel
theorem dX8_sighsAt_18 : decode cX8_sighsAt 18 = .ok (.iastore, 1) := by decide +kernel
theorem dX8_sighsAt_19 : decode cX8_sighsAt 19 = .ok (.aload_n 0, 1) := by decide +kernel
theorem dX8_sighsAt_20 : decode cX8_sighsAt 20 = .ok (.getfield 7, 3) := by decide +kernel
theorem dX8_sighsAt_23 : decode cX8_sighsAt 23 = .ok (.iload_n 1, 1) := by decide +kernel
theorem dX8_sighsAt_24 : decode cX8_sighsAt 24 = .ok (.iconst 1, 1) := by decide +kernel
theorem dX8_sighsAt_25 : decode cX8_sighsAt 25 = .ok (.iadd, 1) := by decide +kernel
theorem dX8_sighsAt_26 : decode cX8_sighsAt 26 = .ok (.dup2, 1) := by decide +kernel
theorem dX8_sighsAt_27 : decode cX8_sighsAt 27 = .ok (.iaload, 1) := by decide +kernel
theorem dX8_sighsAt_28 : decode cX8_sighsAt 28 = .ok (.aload_n 0, 1) := by decide +kernel
theorem dX8_sighsAt_29 : decode cX8_sighsAt 29 = .ok (.iload_n 2, 1) := by decide +kernel
theorem dX8_sighsAt_30 : decode cX8_sighsAt 30 = .ok (.iload_n 3, 1) := by decide +kernel
theorem dX8_sighsAt_31 : decode cX8_sighsAt 31 = .ok (.invokevirtual 201, 3) := by decide +kernel
theorem dX8_sighsAt_34 : decode cX8_sighsAt 34 = .ok (.iadd, 1) := by decide +kernel
theorem dX8_sighsAt_35 : decode cX8_sighsAt 35 = .ok (.iastore, 1) := by decide +kernel
theorem dX8_sighsAt_36 : decode cX8_sighsAt 36 = .ok (.aload_n 0, 1) := by decide +kernel
theorem dX8_sighsAt_37 : decode cX8_sighsAt 37 = .ok (.getfield 7, 3) := by decide +kernel
theorem dX8_sighsAt_40 : decode cX8_sighsAt 40 = .ok (.iload_n 1, 1) := by decide +kernel
theorem dX8_sighsAt_41 : decode cX8_sighsAt 41 = .ok (.iconst 2, 1) := by decide +kernel
theorem dX8_sighsAt_42 : decode cX8_sighsAt 42 = .ok (.iadd, 1) := by decide +kernel
theorem dX8_sighsAt_43 : decode cX8_sighsAt 43 = .ok (.dup2, 1) := by decide +kernel
theorem dX8_sighsAt_44 : decode cX8_sighsAt 44 = .ok (.iaload, 1) := by decide +kernel
theorem dX8_sighsAt_45 : decode cX8_sighsAt 45 = .ok (.iconst 1, 1) := by decide +kernel
theorem dX8_sighsAt_46 : decode cX8_sighsAt 46 = .ok (.iload_n 3, 1) := by decide +kernel
theorem dX8_sighsAt_47 : decode cX8_sighsAt 47 = .ok (.ishl, 1) := by decide +kernel
theorem dX8_sighsAt_48 : decode cX8_sighsAt 48 = .ok (.ior, 1) := by decide +kernel
theorem dX8_sighsAt_49 : decode cX8_sighsAt 49 = .ok (.iastore, 1) := by decide +kernel
theorem dX8_sighsAt_50 : decode cX8_sighsAt 50 = .ok (.return_, 1) := by decide +kernel
theorem dX8_sigh_0 : decode cX8_sigh 0 = .ok (.aload_n 0, 1) := by decide +kernel
theorem dX8_sigh_1 : decode cX8_sigh 1 = .ok (.iload_n 1, 1) := by decide +kernel
theorem dX8_sigh_2 : decode cX8_sigh 2 = .ok (.invokevirtual 187, 3) := by decide +kernel
theorem dX8_sigh_5 : decode cX8_sigh 5 = .ok (.ifCond .eq 11, 3) := by decide +kernel
theorem dX8_sigh_8 : decode cX8_sigh 8 = .ok (.aload_n 0, 1) := by decide +kernel
theorem dX8_sigh_9 : decode cX8_sigh 9 = .ok (.iload_n 2, 1) := by decide +kernel
theorem dX8_sigh_10 : decode cX8_sigh 10 = .ok (.invokevirtual 195, 3) := by decide +kernel
theorem dX8_sigh_13 : decode cX8_sigh 13 = .ok (.ifCond .ne 5, 3) := by decide +kernel
theorem dX8_sigh_16 : decode cX8_sigh 16 = .ok (.iconst (-1), 1) := by decide +kernel
theorem dX8_sigh_17 : decode cX8_sigh 17 = .ok (.ireturn, 1) := by decide +kernel
theorem dX8_sigh_18 : decode cX8_sigh 18 = .ok (.aload_n 0, 1) := by decide +kernel
theorem dX8_sigh_19 : decode cX8_sigh 19 = .ok (.getfield 7, 3) := by decide +kernel
theorem dX8_sigh_22 : decode cX8_sigh 22 = .ok (.iconst 2, 1) := by decide +kernel
theorem dX8_sigh_23 : decode cX8_sigh 23 = .ok (.iaload, 1) := by decide +kernel
theorem dX8_sigh_24 : decode cX8_sigh 24 = .ok (.iload_n 2, 1) := by decide +kernel
theorem dX8_sigh_25 : decode cX8_sigh 25 = .ok (.invokestatic 174, 3) := by decide +kernel
theorem dX8_sigh_28 : decode cX8_sigh 28 = .ok (.ifCond .ne 39, 3) := by decide +kernel
theorem dX8_sigh_31 : decode cX8_sigh 31 = .ok (.aload_n 0, 1) := by decide +kernel
theorem dX8_sigh_32 : decode cX8_sigh 32 = .ok (.getfield 7, 3) := by decide +kernel
theorem dX8_sigh_35 : decode cX8_sigh 35 = .ok (.bipush 8, 2) := by decide +kernel
theorem dX8_sigh_37 : decode cX8_sigh 37 = .ok (.iload_n 1, 1) := by decide +kernel
theorem dX8_sigh_38 : decode cX8_sigh 38 = .ok (.iadd, 1) := by decide +kernel
theorem dX8_sigh_39 : decode cX8_sigh 39 = .ok (.iaload, 1) := by decide +kernel
theorem dX8_sigh_40 : decode cX8_sigh 40 = .ok (.aload_n 0, 1) := by decide +kernel
theorem dX8_sigh_41 : decode cX8_sigh 41 = .ok (.getfield 19, 3) := by decide +kernel
theorem dX8_sigh_44 : decode cX8_sigh 44 = .ok (.iload_n 2, 1) := by decide +kernel
theorem dX8_sigh_45 : decode cX8_sigh 45 = .ok (.iaload, 1) := by decide +kernel
theorem dX8_sigh_46 : decode cX8_sigh 46 = .ok (.if_icmp .ne 21, 3) := by decide +kernel
theorem dX8_sigh_49 : decode cX8_sigh 49 = .ok (.aload_n 0, 1) := by decide +kernel
theorem dX8_sigh_50 : decode cX8_sigh 50 = .ok (.getfield 13, 3) := by decide +kernel
theorem dX8_sigh_53 : decode cX8_sigh 53 = .ok (.iload_n 1, 1) := by decide +kernel
theorem dX8_sigh_54 : decode cX8_sigh 54 = .ok (.iaload, 1) := by decide +kernel
theorem dX8_sigh_55 : decode cX8_sigh 55 = .ok (.aload_n 0, 1) := by decide +kernel
theorem dX8_sigh_56 : decode cX8_sigh 56 = .ok (.getfield 22, 3) := by decide +kernel
theorem dX8_sigh_59 : decode cX8_sigh 59 = .ok (.iload_n 2, 1) := by decide +kernel
theorem dX8_sigh_60 : decode cX8_sigh 60 = .ok (.iaload, 1) := by decide +kernel
theorem dX8_sigh_61 : decode cX8_sigh 61 = .ok (.invokestatic 178, 3) := by decide +kernel
theorem dX8_sigh_64 : decode cX8_sigh 64 = .ok (.ifCond .eq 6, 3) := by decide +kernel
theorem dX8_sigh_67 : decode cX8_sigh 67 = .ok (.bipush (-4), 2) := by decide +kernel
theorem dX8_sigh_69 : decode cX8_sigh 69 = .ok (.ireturn, 1) := by decide +kernel
theorem dX8_sigh_70 : decode cX8_sigh 70 = .ok (.aload_n 0, 1) := by decide +kernel
theorem dX8_sigh_71 : decode cX8_sigh 71 = .ok (.getfield 7, 3) := by decide +kernel
theorem dX8_sigh_74 : decode cX8_sigh 74 = .ok (.iconst 3, 1) := by decide +kernel
theorem dX8_sigh_75 : decode cX8_sigh 75 = .ok (.iload_n 1, 1) := by decide +kernel
theorem dX8_sigh_76 : decode cX8_sigh 76 = .ok (.iadd, 1) := by decide +kernel
theorem dX8_sigh_77 : decode cX8_sigh 77 = .ok (.iaload, 1) := by decide +kernel
theorem dX8_sigh_78 : decode cX8_sigh 78 = .ok (.aload_n 0, 1) := by decide +kernel
theorem dX8_sigh_79 : decode cX8_sigh 79 = .ok (.iload_n 1, 1) := by decide +kernel
theorem dX8_sigh_80 : decode cX8_sigh 80 = .ok (.iload_n 2, 1) := by decide +kernel
theorem dX8_sigh_81 : decode cX8_sigh 81 = .ok (.invokevirtual 181, 3) := by decide +kernel
theorem dX8_sigh_84 : decode cX8_sigh 84 = .ok (.if_icmp .ge 6, 3) := by decide +kernel
theorem dX8_sigh_87 : decode cX8_sigh 87 = .ok (.bipush (-6), 2) := by decide +kernel
theorem dX8_sigh_89 : decode cX8_sigh 89 = .ok (.ireturn, 1) := by decide +kernel
theorem dX8_sigh_90 : decode cX8_sigh 90 = .ok (.aload_n 0, 1) := by decide +kernel
theorem dX8_sigh_91 : decode cX8_sigh 91 = .ok (.getfield 7, 3) := by decide +kernel
theorem dX8_sigh_94 : decode cX8_sigh 94 = .ok (.iconst 0, 1) := by decide +kernel
theorem dX8_sigh_95 : decode cX8_sigh 95 = .ok (.iaload, 1) := by decide +kernel
theorem dX8_sigh_96 : decode cX8_sigh 96 = .ok (.bipush 40, 2) := by decide +kernel
theorem dX8_sigh_98 : decode cX8_sigh 98 = .ok (.if_icmp .ne 6, 3) := by decide +kernel
theorem dX8_sigh_101 : decode cX8_sigh 101 = .ok (.bipush (-2), 2) := by decide +kernel
theorem dX8_sigh_103 : decode cX8_sigh 103 = .ok (.ireturn, 1) := by decide +kernel
theorem dX8_sigh_104 : decode cX8_sigh 104 = .ok (.aload_n 0, 1) := by decide +kernel
theorem dX8_sigh_105 : decode cX8_sigh 105 = .ok (.invokevirtual 216, 3) := by decide +kernel
theorem dX8_sigh_108 : decode cX8_sigh 108 = .ok (.aload_n 0, 1) := by decide +kernel
theorem dX8_sigh_109 : decode cX8_sigh 109 = .ok (.iconst 0, 1) := by decide +kernel
theorem dX8_sigh_110 : decode cX8_sigh 110 = .ok (.iload_n 1, 1) := by decide +kernel
theorem dX8_sigh_111 : decode cX8_sigh 111 = .ok (.iload_n 2, 1) := by decide +kernel
theorem dX8_sigh_112 : decode cX8_sigh 112 = .ok (.invokevirtual 219, 3) := by decide +kernel
theorem dX8_sigh_115 : decode cX8_sigh 115 = .ok (.aload_n 0, 1) := by decide +kernel
theorem dX8_sigh_116 : decode cX8_sigh 116 = .ok (.getfield 7, 3) := by decide +kernel
theorem dX8_sigh_119 : decode cX8_sigh 119 = .ok (.iconst 1, 1) := by decide +kernel
theorem dX8_sigh_120 : decode cX8_sigh 120 = .ok (.iaload, 1) := by decide +kernel
theorem dX8_sigh_121 : decode cX8_sigh 121 = .ok (.ireturn, 1) := by decide +kernel
theorem dX8_rests_0 : decode cX8_rests 0 = .ok (.aload_n 0, 1) := by decide +kernel
theorem dX8_rests_1 : decode cX8_rests 1 = .ok (.getfield 7, 3) := by decide +kernel
theorem dX8_rests_4 : decode cX8_rests 4 = .ok (.iconst 3, 1) := by decide +kernel
theorem dX8_rests_5 : decode cX8_rests 5 = .ok (.iload_n 1, 1) := by decide +kernel
theorem dX8_rests_6 : decode cX8_rests 6 = .ok (.iadd, 1) := by decide +kernel
theorem dX8_rests_7 : decode cX8_rests 7 = .ok (.aload_n 0, 1) := by decide +kernel
theorem dX8_rests_8 : decode cX8_rests 8 = .ok (.getfield 7, 3) := by decide +kernel
theorem dX8_rests_11 : decode cX8_rests 11 = .ok (.iconst 3, 1) := by decide +kernel
theorem dX8_rests_12 : decode cX8_rests 12 = .ok (.iload_n 1, 1) := by decide +kernel
theorem dX8_rests_13 : decode cX8_rests 13 = .ok (.iadd, 1) := by decide +kernel
theorem dX8_rests_14 : decode cX8_rests 14 = .ok (.iaload, 1) := by decide +kernel
theorem dX8_rests_15 : decode cX8_rests 15 = .ok (.bipush 7, 2) := by decide +kernel
theorem dX8_rests_17 : decode cX8_rests 17 = .ok (.if_icmp .le 8, 3) := by decide +kernel
theorem dX8_rests_20 : decode cX8_rests 20 = .ok (.bipush 9, 2) := by decide +kernel
theorem dX8_rests_22 : decode cX8_rests 22 = .ok (.goto 13, 3) := by decide +kernel
theorem dX8_rests_25 : decode cX8_rests 25 = .ok (.aload_n 0, 1) := by decide +kernel
theorem dX8_rests_26 : decode cX8_rests 26 = .ok (.getfield 7, 3) := by decide +kernel
theorem dX8_rests_29 : decode cX8_rests 29 = .ok (.iconst 3, 1) := by decide +kernel
theorem dX8_rests_30 : decode cX8_rests 30 = .ok (.iload_n 1, 1) := by decide +kernel
theorem dX8_rests_31 : decode cX8_rests 31 = .ok (.iadd, 1) := by decide +kernel
theorem dX8_rests_32 : decode cX8_rests 32 = .ok (.iaload, 1) := by decide +kernel
theorem dX8_rests_33 : decode cX8_rests 33 = .ok (.iconst 2, 1) := by decide +kernel
theorem dX8_rests_34 : decode cX8_rests 34 = .ok (.iadd, 1) := by decide +kernel
theorem dX8_rests_35 : decode cX8_rests 35 = .ok (.iastore, 1) := by decide +kernel
theorem dX8_rests_36 : decode cX8_rests 36 = .ok (.return_, 1) := by decide +kernel
theorem dX8_rest_0 : decode cX8_rest 0 = .ok (.aload_n 0, 1) := by decide +kernel
theorem dX8_rest_1 : decode cX8_rest 1 = .ok (.iload_n 1, 1) := by decide +kernel
theorem dX8_rest_2 : decode cX8_rest 2 = .ok (.invokevirtual 187, 3) := by decide +kernel
theorem dX8_rest_5 : decode cX8_rest 5 = .ok (.ifCond .ne 5, 3) := by decide +kernel
theorem dX8_rest_8 : decode cX8_rest 8 = .ok (.iconst (-1), 1) := by decide +kernel
theorem dX8_rest_9 : decode cX8_rest 9 = .ok (.ireturn, 1) := by decide +kernel
theorem dX8_rest_10 : decode cX8_rest 10 = .ok (.aload_n 0, 1) := by decide +kernel
theorem dX8_rest_11 : decode cX8_rest 11 = .ok (.getfield 7, 3) := by decide +kernel
theorem dX8_rest_14 : decode cX8_rest 14 = .ok (.iconst 3, 1) := by decide +kernel
theorem dX8_rest_15 : decode cX8_rest 15 = .ok (.iload_n 1, 1) := by decide +kernel
theorem dX8_rest_16 : decode cX8_rest 16 = .ok (.iadd, 1) := by decide +kernel
theorem dX8_rest_17 : decode cX8_rest 17 = .ok (.iaload, 1) := by decide +kernel
theorem dX8_rest_18 : decode cX8_rest 18 = .ok (.bipush 9, 2) := by decide +kernel
theorem dX8_rest_20 : decode cX8_rest 20 = .ok (.if_icmp .ne 6, 3) := by decide +kernel
theorem dX8_rest_23 : decode cX8_rest 23 = .ok (.bipush (-4), 2) := by decide +kernel
theorem dX8_rest_25 : decode cX8_rest 25 = .ok (.ireturn, 1) := by decide +kernel
theorem dX8_rest_26 : decode cX8_rest 26 = .ok (.aload_n 0, 1) := by decide +kernel
theorem dX8_rest_27 : decode cX8_rest 27 = .ok (.getfield 7, 3) := by decide +kernel
theorem dX8_rest_30 : decode cX8_rest 30 = .ok (.iconst 0, 1) := by decide +kernel
theorem dX8_rest_31 : decode cX8_rest 31 = .ok (.iaload, 1) := by decide +kernel
theorem dX8_rest_32 : decode cX8_rest 32 = .ok (.bipush 40, 2) := by decide +kernel
theorem dX8_rest_34 : decode cX8_rest 34 = .ok (.if_icmp .ne 6, 3) := by decide +kernel
theorem dX8_rest_37 : decode cX8_rest 37 = .ok (.bipush (-2), 2) := by decide +kernel
theorem dX8_rest_39 : decode cX8_rest 39 = .ok (.ireturn, 1) := by decide +kernel
theorem dX8_rest_40 : decode cX8_rest 40 = .ok (.aload_n 0, 1) := by decide +kernel
theorem dX8_rest_41 : decode cX8_rest 41 = .ok (.invokevirtual 216, 3) := by decide +kernel
theorem dX8_rest_44 : decode cX8_rest 44 = .ok (.aload_n 0, 1) := by decide +kernel
theorem dX8_rest_45 : decode cX8_rest 45 = .ok (.iload_n 1, 1) := by decide +kernel
theorem dX8_rest_46 : decode cX8_rest 46 = .ok (.invokevirtual 223, 3) := by decide +kernel
theorem dX8_rest_49 : decode cX8_rest 49 = .ok (.aload_n 0, 1) := by decide +kernel
theorem dX8_rest_50 : decode cX8_rest 50 = .ok (.getfield 7, 3) := by decide +kernel
theorem dX8_rest_53 : decode cX8_rest 53 = .ok (.iconst 3, 1) := by decide +kernel
theorem dX8_rest_54 : decode cX8_rest 54 = .ok (.iload_n 1, 1) := by decide +kernel
theorem dX8_rest_55 : decode cX8_rest 55 = .ok (.iadd, 1) := by decide +kernel
theorem dX8_rest_56 : decode cX8_rest 56 = .ok (.iaload, 1) := by decide +kernel
theorem dX8_rest_57 : decode cX8_rest 57 = .ok (.ireturn, 1) := by decide +kernel
theorem dX8_undo_0 : decode cX8_undo 0 = .ok (.iload_n 1, 1) := by decide +kernel
theorem dX8_undo_1 : decode cX8_undo 1 = .ok (.i2l, 1) := by decide +kernel
theorem dX8_undo_2 : decode cX8_undo 2 = .ok (.lconst 0, 1) := by decide +kernel
theorem dX8_undo_3 : decode cX8_undo 3 = .ok (.aload_n 0, 1) := by decide +kernel
theorem dX8_undo_4 : decode cX8_undo 4 = .ok (.getfield 7, 3) := by decide +kernel
theorem dX8_undo_7 : decode cX8_undo 7 = .ok (.iconst 0, 1) := by decide +kernel
theorem dX8_undo_8 : decode cX8_undo 8 = .ok (.iaload, 1) := by decide +kernel
theorem dX8_undo_9 : decode cX8_undo 9 = .ok (.i2l, 1) := by decide +kernel
theorem dX8_undo_10 : decode cX8_undo 10 = .ok (.invokestatic 86, 3) := by decide +kernel
theorem dX8_undo_13 : decode cX8_undo 13 = .ok (.ifCond .ne 5, 3) := by decide +kernel
theorem dX8_undo_16 : decode cX8_undo 16 = .ok (.iconst (-1), 1) := by decide +kernel
theorem dX8_undo_17 : decode cX8_undo 17 = .ok (.ireturn, 1) := by decide +kernel
theorem dX8_undo_18 : decode cX8_undo 18 = .ok (.aload_n 0, 1) := by decide +kernel
theorem dX8_undo_19 : decode cX8_undo 19 = .ok (.getfield 7, 3) := by decide +kernel
theorem dX8_undo_22 : decode cX8_undo 22 = .ok (.iconst 0, 1) := by decide +kernel
theorem dX8_undo_23 : decode cX8_undo 23 = .ok (.iaload, 1) := by decide +kernel
theorem dX8_undo_24 : decode cX8_undo 24 = .ok (.iload_n 1, 1) := by decide +kernel
theorem dX8_undo_25 : decode cX8_undo 25 = .ok (.isub, 1) := by decide +kernel
theorem dX8_undo_26 : decode cX8_undo 26 = .ok (.istore_n 2, 1) := by decide +kernel
theorem dX8_undo_27 : decode cX8_undo 27 = .ok (.iconst 0, 1) := by decide +kernel
theorem dX8_undo_28 : decode cX8_undo 28 = .ok (.istore_n 3, 1) := by decide +kernel
theorem dX8_undo_29 : decode cX8_undo 29 = .ok (.iload_n 3, 1) := by decide +kernel
theorem dX8_undo_30 : decode cX8_undo 30 = .ok (.bipush 12, 2) := by decide +kernel
theorem dX8_undo_32 : decode cX8_undo 32 = .ok (.if_icmp .ge 35, 3) := by decide +kernel
theorem dX8_undo_35 : decode cX8_undo 35 = .ok (.iload_n 2, 1) := by decide +kernel
theorem dX8_undo_36 : decode cX8_undo 36 = .ok (.ifCond .le 31, 3) := by decide +kernel
theorem dX8_undo_39 : decode cX8_undo 39 = .ok (.aload_n 0, 1) := by decide +kernel
theorem dX8_undo_40 : decode cX8_undo 40 = .ok (.getfield 7, 3) := by decide +kernel
theorem dX8_undo_43 : decode cX8_undo 43 = .ok (.iconst 1, 1) := by decide +kernel
theorem dX8_undo_44 : decode cX8_undo 44 = .ok (.iload_n 3, 1) := by decide +kernel
theorem dX8_undo_45 : decode cX8_undo 45 = .ok (.iadd, 1) := by decide +kernel
theorem dX8_undo_46 : decode cX8_undo 46 = .ok (.aload_n 0, 1) := by decide +kernel
theorem dX8_undo_47 : decode cX8_undo 47 = .ok (.getfield 7, 3) := by decide +kernel
theorem dX8_undo_50 : decode cX8_undo 50 = .ok (.bipush 13, 2) := by decide +kernel
theorem dX8_undo_52 : decode cX8_undo 52 = .ok (.bipush 12, 2) := by decide +kernel
theorem dX8_undo_54 : decode cX8_undo 54 = .ok (.iload_n 1, 1) := by decide +kernel
theorem dX8_undo_55 : decode cX8_undo 55 = .ok (.imul, 1) := by decide +kernel
theorem dX8_undo_56 : decode cX8_undo 56 = .ok (.iadd, 1) := by decide +kernel
theorem dX8_undo_57 : decode cX8_undo 57 = .ok (.iload_n 3, 1) := by decide +kernel
theorem dX8_undo_58 : decode cX8_undo 58 = .ok (.iadd, 1) := by decide +kernel
theorem dX8_undo_59 : decode cX8_undo 59 = .ok (.iaload, 1) := by decide +kernel
theorem dX8_undo_60 : decode cX8_undo 60 = .ok (.iastore, 1) := by decide +kernel
theorem dX8_undo_61 : decode cX8_undo 61 = .ok (.iinc 3 1, 3) := by decide +kernel
theorem dX8_undo_64 : decode cX8_undo 64 = .ok (.goto (-35), 3) := by decide +kernel
theorem dX8_undo_67 : decode cX8_undo 67 = .ok (.aload_n 0, 1) := by decide +kernel
theorem dX8_undo_68 : decode cX8_undo 68 = .ok (.getfield 7, 3) := by decide +kernel
theorem dX8_undo_71 : decode cX8_undo 71 = .ok (.iconst 0, 1) := by decide +kernel
theorem dX8_undo_72 : decode cX8_undo 72 = .ok (.iload_n 1, 1) := by decide +kernel
theorem dX8_undo_73 : decode cX8_undo 73 = .ok (.iastore, 1) := by decide +kernel
theorem dX8_undo_74 : decode cX8_undo 74 = .ok (.iload_n 2, 1) := by decide +kernel
theorem dX8_undo_75 : decode cX8_undo 75 = .ok (.ireturn, 1) := by decide +kernel
theorem dX8_copyGuild_0 : decode cX8_copyGuild 0 = .ok (.iconst 0, 1) := by decide +kernel
theorem dX8_copyGuild_1 : decode cX8_copyGuild 1 = .ok (.istore_n 3, 1) := by decide +kernel
theorem dX8_copyGuild_2 : decode cX8_copyGuild 2 = .ok (.iload_n 3, 1) := by decide +kernel
theorem dX8_copyGuild_3 : decode cX8_copyGuild 3 = .ok (.sipush 493, 3) := by decide +kernel
theorem dX8_copyGuild_6 : decode cX8_copyGuild 6 = .ok (.if_icmp .ge 25, 3) := by decide +kernel
theorem dX8_copyGuild_9 : decode cX8_copyGuild 9 = .ok (.aload_n 0, 1) := by decide +kernel
theorem dX8_copyGuild_10 : decode cX8_copyGuild 10 = .ok (.getfield 7, 3) := by decide +kernel
theorem dX8_copyGuild_13 : decode cX8_copyGuild 13 = .ok (.iload_n 2, 1) := by decide +kernel
theorem dX8_copyGuild_14 : decode cX8_copyGuild 14 = .ok (.iload_n 3, 1) := by decide +kernel
theorem dX8_copyGuild_15 : decode cX8_copyGuild 15 = .ok (.iadd, 1) := by decide +kernel
theorem dX8_copyGuild_16 : decode cX8_copyGuild 16 = .ok (.aload_n 0, 1) := by decide +kernel
theorem dX8_copyGuild_17 : decode cX8_copyGuild 17 = .ok (.getfield 7, 3) := by decide +kernel
theorem dX8_copyGuild_20 : decode cX8_copyGuild 20 = .ok (.iload_n 1, 1) := by decide +kernel
theorem dX8_copyGuild_21 : decode cX8_copyGuild 21 = .ok (.iload_n 3, 1) := by decide +kernel
theorem dX8_copyGuild_22 : decode cX8_copyGuild 22 = .ok (.iadd, 1) := by decide +kernel
theorem dX8_copyGuild_23 : decode cX8_copyGuild 23 = .ok (.iaload, 1) := by decide +kernel
theorem dX8_copyGuild_24 : decode cX8_copyGuild 24 = .ok (.iastore, 1) := by decide +kernel
theorem dX8_copyGuild_25 : decode cX8_copyGuild 25 = .ok (.iinc 3 1, 3) := by decide +kernel
