theorem dX7_mark_64 : decode cX7_mark 64 = .ok (.iload_n 1, 1) := by decide +kernel
theorem dX7_mark_65 : decode cX7_mark 65 = .ok (.iload_n 2, 1) := by decide +kernel
theorem dX7_mark_66 : decode cX7_mark 66 = .ok (.iload 4, 2) := by decide +kernel
theorem dX7_mark_68 : decode cX7_mark 68 = .ok (.invokevirtual 170, 3) := by decide +kernel
theorem dX7_mark_71 : decode cX7_mark 71 = .ok (.iadd, 1) := by decide +kernel
theorem dX7_mark_72 : decode cX7_mark 72 = .ok (.istore_n 3, 1) := by decide +kernel
theorem dX7_mark_73 : decode cX7_mark 73 = .ok (.iinc 4 1, 3) := by decide +kernel
theorem dX7_mark_76 : decode cX7_mark 76 = .ok (.goto (-26), 3) := by decide +kernel
theorem dX7_mark_79 : decode cX7_mark 79 = .ok (.iload_n 3, 1) := by decide +kernel
theorem dX7_mark_80 : decode cX7_mark 80 = .ok (.ireturn, 1) := by decide +kernel
theorem dX7_walk_0 : decode cX7_walk 0 = .ok (.aload_n 0, 1) := by decide +kernel
theorem dX7_walk_1 : decode cX7_walk 1 = .ok (.getfield 24, 3) := by decide +kernel
theorem dX7_walk_4 : decode cX7_walk 4 = .ok (.iload_n 1, 1) := by decide +kernel
theorem dX7_walk_5 : decode cX7_walk 5 = .ok (.invokevirtual 151, 3) := by decide +kernel
theorem dX7_walk_8 : decode cX7_walk 8 = .ok (.ifCond .eq 10, 3) := by decide +kernel
theorem dX7_walk_11 : decode cX7_walk 11 = .ok (.iload_n 2, 1) := by decide +kernel
theorem dX7_walk_12 : decode cX7_walk 12 = .ok (.invokestatic 174, 3) := by decide +kernel
theorem dX7_walk_15 : decode cX7_walk 15 = .ok (.ifCond .ne 5, 3) := by decide +kernel
theorem dX7_walk_18 : decode cX7_walk 18 = .ok (.iconst (-1), 1) := by decide +kernel
theorem dX7_walk_19 : decode cX7_walk 19 = .ok (.ireturn, 1) := by decide +kernel
theorem dX7_walk_20 : decode cX7_walk 20 = .ok (.aload_n 0, 1) := by decide +kernel
theorem dX7_walk_21 : decode cX7_walk 21 = .ok (.getfield 34, 3) := by decide +kernel
theorem dX7_walk_24 : decode cX7_walk 24 = .ok (.getfield 177, 3) := by decide +kernel
theorem dX7_walk_27 : decode cX7_walk 27 = .ok (.iload_n 1, 1) := by decide +kernel
theorem dX7_walk_28 : decode cX7_walk 28 = .ok (.iaload, 1) := by decide +kernel
theorem dX7_walk_29 : decode cX7_walk 29 = .ok (.iload_n 2, 1) := by decide +kernel
theorem dX7_walk_30 : decode cX7_walk 30 = .ok (.isub, 1) := by decide +kernel
theorem dX7_walk_31 : decode cX7_walk 31 = .ok (.invokestatic 180, 3) := by decide +kernel
theorem dX7_walk_34 : decode cX7_walk 34 = .ok (.istore_n 3, 1) := by decide +kernel
theorem dX7_walk_35 : decode cX7_walk 35 = .ok (.iload_n 3, 1) := by decide +kernel
theorem dX7_walk_36 : decode cX7_walk 36 = .ok (.ifCond .ne 6, 3) := by decide +kernel
theorem dX7_walk_39 : decode cX7_walk 39 = .ok (.bipush (-4), 2) := by decide +kernel
theorem dX7_walk_41 : decode cX7_walk 41 = .ok (.ireturn, 1) := by decide +kernel
theorem dX7_walk_42 : decode cX7_walk 42 = .ok (.aload_n 0, 1) := by decide +kernel
theorem dX7_walk_43 : decode cX7_walk 43 = .ok (.getfield 44, 3) := by decide +kernel
theorem dX7_walk_46 : decode cX7_walk 46 = .ok (.iconst 1, 1) := by decide +kernel
theorem dX7_walk_47 : decode cX7_walk 47 = .ok (.invokevirtual 185, 3) := by decide +kernel
theorem dX7_walk_50 : decode cX7_walk 50 = .ok (.ifCond .eq 6, 3) := by decide +kernel
theorem dX7_walk_53 : decode cX7_walk 53 = .ok (.bipush (-2), 2) := by decide +kernel
theorem dX7_walk_55 : decode cX7_walk 55 = .ok (.ireturn, 1) := by decide +kernel
theorem dX7_walk_56 : decode cX7_walk 56 = .ok (.aload_n 0, 1) := by decide +kernel
theorem dX7_walk_57 : decode cX7_walk 57 = .ok (.iconst 0, 1) := by decide +kernel
theorem dX7_walk_58 : decode cX7_walk 58 = .ok (.iload_n 1, 1) := by decide +kernel
theorem dX7_walk_59 : decode cX7_walk 59 = .ok (.iload_n 2, 1) := by decide +kernel
theorem dX7_walk_60 : decode cX7_walk 60 = .ok (.invokevirtual 188, 3) := by decide +kernel
theorem dX7_walk_63 : decode cX7_walk 63 = .ok (.iload_n 3, 1) := by decide +kernel
theorem dX7_walk_64 : decode cX7_walk 64 = .ok (.ireturn, 1) := by decide +kernel
theorem dX7_sigh_0 : decode cX7_sigh 0 = .ok (.aload_n 0, 1) := by decide +kernel
theorem dX7_sigh_1 : decode cX7_sigh 1 = .ok (.getfield 24, 3) := by decide +kernel
theorem dX7_sigh_4 : decode cX7_sigh 4 = .ok (.iload_n 1, 1) := by decide +kernel
theorem dX7_sigh_5 : decode cX7_sigh 5 = .ok (.invokevirtual 151, 3) := by decide +kernel
theorem dX7_sigh_8 : decode cX7_sigh 8 = .ok (.ifCond .eq 14, 3) := by decide +kernel
theorem dX7_sigh_11 : decode cX7_sigh 11 = .ok (.aload_n 0, 1) := by decide +kernel
theorem dX7_sigh_12 : decode cX7_sigh 12 = .ok (.getfield 24, 3) := by decide +kernel
theorem dX7_sigh_15 : decode cX7_sigh 15 = .ok (.iload_n 2, 1) := by decide +kernel
theorem dX7_sigh_16 : decode cX7_sigh 16 = .ok (.invokevirtual 158, 3) := by decide +kernel
theorem dX7_sigh_19 : decode cX7_sigh 19 = .ok (.ifCond .ne 5, 3) := by decide +kernel
theorem dX7_sigh_22 : decode cX7_sigh 22 = .ok (.iconst (-1), 1) := by decide +kernel
theorem dX7_sigh_23 : decode cX7_sigh 23 = .ok (.ireturn, 1) := by decide +kernel
theorem dX7_sigh_24 : decode cX7_sigh 24 = .ok (.aload_n 0, 1) := by decide +kernel
theorem dX7_sigh_25 : decode cX7_sigh 25 = .ok (.getfield 24, 3) := by decide +kernel
theorem dX7_sigh_28 : decode cX7_sigh 28 = .ok (.iload_n 1, 1) := by decide +kernel
theorem dX7_sigh_29 : decode cX7_sigh 29 = .ok (.iload_n 2, 1) := by decide +kernel
theorem dX7_sigh_30 : decode cX7_sigh 30 = .ok (.invokevirtual 192, 3) := by decide +kernel
theorem dX7_sigh_33 : decode cX7_sigh 33 = .ok (.istore_n 3, 1) := by decide +kernel
theorem dX7_sigh_34 : decode cX7_sigh 34 = .ok (.aload_n 0, 1) := by decide +kernel
theorem dX7_sigh_35 : decode cX7_sigh 35 = .ok (.getfield 34, 3) := by decide +kernel
theorem dX7_sigh_38 : decode cX7_sigh 38 = .ok (.iload_n 2, 1) := by decide +kernel
theorem dX7_sigh_39 : decode cX7_sigh 39 = .ok (.invokevirtual 195, 3) := by decide +kernel
theorem dX7_sigh_42 : decode cX7_sigh 42 = .ok (.ifCond .ne 30, 3) := by decide +kernel
theorem dX7_sigh_45 : decode cX7_sigh 45 = .ok (.aload_n 0, 1) := by decide +kernel
theorem dX7_sigh_46 : decode cX7_sigh 46 = .ok (.getfield 34, 3) := by decide +kernel
theorem dX7_sigh_49 : decode cX7_sigh 49 = .ok (.getfield 177, 3) := by decide +kernel
theorem dX7_sigh_52 : decode cX7_sigh 52 = .ok (.iload_n 1, 1) := by decide +kernel
theorem dX7_sigh_53 : decode cX7_sigh 53 = .ok (.iaload, 1) := by decide +kernel
theorem dX7_sigh_54 : decode cX7_sigh 54 = .ok (.aload_n 0, 1) := by decide +kernel
theorem dX7_sigh_55 : decode cX7_sigh 55 = .ok (.getfield 24, 3) := by decide +kernel
theorem dX7_sigh_58 : decode cX7_sigh 58 = .ok (.getfield 198, 3) := by decide +kernel
theorem dX7_sigh_61 : decode cX7_sigh 61 = .ok (.iload_n 2, 1) := by decide +kernel
theorem dX7_sigh_62 : decode cX7_sigh 62 = .ok (.iaload, 1) := by decide +kernel
theorem dX7_sigh_63 : decode cX7_sigh 63 = .ok (.if_icmp .ne 9, 3) := by decide +kernel
theorem dX7_sigh_66 : decode cX7_sigh 66 = .ok (.iload_n 3, 1) := by decide +kernel
theorem dX7_sigh_67 : decode cX7_sigh 67 = .ok (.bipush (-9), 2) := by decide +kernel
theorem dX7_sigh_69 : decode cX7_sigh 69 = .ok (.if_icmp .ne 6, 3) := by decide +kernel
theorem dX7_sigh_72 : decode cX7_sigh 72 = .ok (.bipush (-4), 2) := by decide +kernel
theorem dX7_sigh_74 : decode cX7_sigh 74 = .ok (.ireturn, 1) := by decide +kernel
theorem dX7_sigh_75 : decode cX7_sigh 75 = .ok (.iload_n 3, 1) := by decide +kernel
theorem dX7_sigh_76 : decode cX7_sigh 76 = .ok (.aload_n 0, 1) := by decide +kernel
theorem dX7_sigh_77 : decode cX7_sigh 77 = .ok (.getfield 34, 3) := by decide +kernel
theorem dX7_sigh_80 : decode cX7_sigh 80 = .ok (.getfield 201, 3) := by decide +kernel
theorem dX7_sigh_83 : decode cX7_sigh 83 = .ok (.iload_n 1, 1) := by decide +kernel
theorem dX7_sigh_84 : decode cX7_sigh 84 = .ok (.iaload, 1) := by decide +kernel
theorem dX7_sigh_85 : decode cX7_sigh 85 = .ok (.if_icmp .le 6, 3) := by decide +kernel
theorem dX7_sigh_88 : decode cX7_sigh 88 = .ok (.bipush (-6), 2) := by decide +kernel
theorem dX7_sigh_90 : decode cX7_sigh 90 = .ok (.ireturn, 1) := by decide +kernel
theorem dX7_sigh_91 : decode cX7_sigh 91 = .ok (.aload_n 0, 1) := by decide +kernel
theorem dX7_sigh_92 : decode cX7_sigh 92 = .ok (.getfield 44, 3) := by decide +kernel
theorem dX7_sigh_95 : decode cX7_sigh 95 = .ok (.iconst 1, 1) := by decide +kernel
theorem dX7_sigh_96 : decode cX7_sigh 96 = .ok (.invokevirtual 185, 3) := by decide +kernel
theorem dX7_sigh_99 : decode cX7_sigh 99 = .ok (.ifCond .eq 6, 3) := by decide +kernel
theorem dX7_sigh_102 : decode cX7_sigh 102 = .ok (.bipush (-2), 2) := by decide +kernel
theorem dX7_sigh_104 : decode cX7_sigh 104 = .ok (.ireturn, 1) := by decide +kernel
theorem dX7_sigh_105 : decode cX7_sigh 105 = .ok (.aload_n 0, 1) := by decide +kernel
theorem dX7_sigh_106 : decode cX7_sigh 106 = .ok (.iconst 1, 1) := by decide +kernel
theorem dX7_sigh_107 : decode cX7_sigh 107 = .ok (.iload_n 1, 1) := by decide +kernel
theorem dX7_sigh_108 : decode cX7_sigh 108 = .ok (.iload_n 2, 1) := by decide +kernel
theorem dX7_sigh_109 : decode cX7_sigh 109 = .ok (.invokevirtual 188, 3) := by decide +kernel
theorem dX7_sigh_112 : decode cX7_sigh 112 = .ok (.aload_n 0, 1) := by decide +kernel
theorem dX7_sigh_113 : decode cX7_sigh 113 = .ok (.getfield 34, 3) := by decide +kernel
theorem dX7_sigh_116 : decode cX7_sigh 116 = .ok (.getfield 204, 3) := by decide +kernel
theorem dX7_sigh_119 : decode cX7_sigh 119 = .ok (.ireturn, 1) := by decide +kernel
theorem dX7_rest_0 : decode cX7_rest 0 = .ok (.aload_n 0, 1) := by decide +kernel
theorem dX7_rest_1 : decode cX7_rest 1 = .ok (.getfield 24, 3) := by decide +kernel
theorem dX7_rest_4 : decode cX7_rest 4 = .ok (.iload_n 1, 1) := by decide +kernel
theorem dX7_rest_5 : decode cX7_rest 5 = .ok (.invokevirtual 151, 3) := by decide +kernel
theorem dX7_rest_8 : decode cX7_rest 8 = .ok (.ifCond .ne 5, 3) := by decide +kernel
theorem dX7_rest_11 : decode cX7_rest 11 = .ok (.iconst (-1), 1) := by decide +kernel
theorem dX7_rest_12 : decode cX7_rest 12 = .ok (.ireturn, 1) := by decide +kernel
theorem dX7_rest_13 : decode cX7_rest 13 = .ok (.aload_n 0, 1) := by decide +kernel
theorem dX7_rest_14 : decode cX7_rest 14 = .ok (.getfield 34, 3) := by decide +kernel
theorem dX7_rest_17 : decode cX7_rest 17 = .ok (.getfield 201, 3) := by decide +kernel
theorem dX7_rest_20 : decode cX7_rest 20 = .ok (.iload_n 1, 1) := by decide +kernel
theorem dX7_rest_21 : decode cX7_rest 21 = .ok (.iaload, 1) := by decide +kernel
theorem dX7_rest_22 : decode cX7_rest 22 = .ok (.bipush 9, 2) := by decide +kernel
theorem dX7_rest_24 : decode cX7_rest 24 = .ok (.if_icmp .lt 6, 3) := by decide +kernel
theorem dX7_rest_27 : decode cX7_rest 27 = .ok (.bipush (-4), 2) := by decide +kernel
theorem dX7_rest_29 : decode cX7_rest 29 = .ok (.ireturn, 1) := by decide +kernel
theorem dX7_rest_30 : decode cX7_rest 30 = .ok (.aload_n 0, 1) := by decide +kernel
theorem dX7_rest_31 : decode cX7_rest 31 = .ok (.getfield 44, 3) := by decide +kernel
theorem dX7_rest_34 : decode cX7_rest 34 = .ok (.iconst 1, 1) := by decide +kernel
theorem dX7_rest_35 : decode cX7_rest 35 = .ok (.invokevirtual 185, 3) := by decide +kernel
theorem dX7_rest_38 : decode cX7_rest 38 = .ok (.ifCond .eq 6, 3) := by decide +kernel
theorem dX7_rest_41 : decode cX7_rest 41 = .ok (.bipush (-2), 2) := by decide +kernel
theorem dX7_rest_43 : decode cX7_rest 43 = .ok (.ireturn, 1) := by decide +kernel
theorem dX7_rest_44 : decode cX7_rest 44 = .ok (.aload_n 0, 1) := by decide +kernel
theorem dX7_rest_45 : decode cX7_rest 45 = .ok (.iconst 2, 1) := by decide +kernel
theorem dX7_rest_46 : decode cX7_rest 46 = .ok (.iload_n 1, 1) := by decide +kernel
theorem dX7_rest_47 : decode cX7_rest 47 = .ok (.iconst 0, 1) := by decide +kernel
theorem dX7_rest_48 : decode cX7_rest 48 = .ok (.invokevirtual 188, 3) := by decide +kernel
theorem dX7_rest_51 : decode cX7_rest 51 = .ok (.aload_n 0, 1) := by decide +kernel
theorem dX7_rest_52 : decode cX7_rest 52 = .ok (.getfield 34, 3) := by decide +kernel
theorem dX7_rest_55 : decode cX7_rest 55 = .ok (.getfield 201, 3) := by decide +kernel
theorem dX7_rest_58 : decode cX7_rest 58 = .ok (.iload_n 1, 1) := by decide +kernel
theorem dX7_rest_59 : decode cX7_rest 59 = .ok (.iaload, 1) := by decide +kernel
theorem dX7_rest_60 : decode cX7_rest 60 = .ok (.ireturn, 1) := by decide +kernel
theorem dX7_undo_0 : decode cX7_undo 0 = .ok (.iload_n 1, 1) := by decide +kernel
theorem dX7_undo_1 : decode cX7_undo 1 = .ok (.ifCond .lt 14, 3) := by decide +kernel
theorem dX7_undo_4 : decode cX7_undo 4 = .ok (.iload_n 1, 1) := by decide +kernel
theorem dX7_undo_5 : decode cX7_undo 5 = .ok (.aload_n 0, 1) := by decide +kernel
theorem dX7_undo_6 : decode cX7_undo 6 = .ok (.getfield 44, 3) := by decide +kernel
theorem dX7_undo_9 : decode cX7_undo 9 = .ok (.getfield 86, 3) := by decide +kernel
theorem dX7_undo_12 : decode cX7_undo 12 = .ok (.if_icmp .le 5, 3) := by decide +kernel
theorem dX7_undo_15 : decode cX7_undo 15 = .ok (.iconst (-1), 1) := by decide +kernel
theorem dX7_undo_16 : decode cX7_undo 16 = .ok (.ireturn, 1) := by decide +kernel
theorem dX7_undo_17 : decode cX7_undo 17 = .ok (.aload_n 0, 1) := by decide +kernel
theorem dX7_undo_18 : decode cX7_undo 18 = .ok (.getfield 44, 3) := by decide +kernel
theorem dX7_undo_21 : decode cX7_undo 21 = .ok (.getfield 86, 3) := by decide +kernel
theorem dX7_undo_24 : decode cX7_undo 24 = .ok (.iload_n 1, 1) := by decide +kernel
theorem dX7_undo_25 : decode cX7_undo 25 = .ok (.isub, 1) := by decide +kernel
theorem dX7_undo_26 : decode cX7_undo 26 = .ok (.istore_n 2, 1) := by decide +kernel
theorem dX7_undo_27 : decode cX7_undo 27 = .ok (.iload_n 2, 1) := by decide +kernel
theorem dX7_undo_28 : decode cX7_undo 28 = .ok (.ifCond .le 15, 3) := by decide +kernel
theorem dX7_undo_31 : decode cX7_undo 31 = .ok (.aload_n 0, 1) := by decide +kernel
theorem dX7_undo_32 : decode cX7_undo 32 = .ok (.getfield 44, 3) := by decide +kernel
theorem dX7_undo_35 : decode cX7_undo 35 = .ok (.iload_n 1, 1) := by decide +kernel
theorem dX7_undo_36 : decode cX7_undo 36 = .ok (.putfield 86, 3) := by decide +kernel
theorem dX7_undo_39 : decode cX7_undo 39 = .ok (.aload_n 0, 1) := by decide +kernel
theorem dX7_undo_40 : decode cX7_undo 40 = .ok (.invokevirtual 207, 3) := by decide +kernel
theorem dX7_undo_43 : decode cX7_undo 43 = .ok (.iload_n 2, 1) := by decide +kernel
theorem dX7_undo_44 : decode cX7_undo 44 = .ok (.ireturn, 1) := by decide +kernel
theorem dX7_keep_0 : decode cX7_keep 0 = .ok (.aload_n 0, 1) := by decide +kernel
theorem dX7_keep_1 : decode cX7_keep 1 = .ok (.iload_n 1, 1) := by decide +kernel
theorem dX7_keep_2 : decode cX7_keep 2 = .ok (.invokevirtual 210, 3) := by decide +kernel
theorem dX7_keep_5 : decode cX7_keep 5 = .ok (.astore_n 2, 1) := by decide +kernel
theorem dX7_keep_6 : decode cX7_keep 6 = .ok (.aload_n 2, 1) := by decide +kernel
theorem dX7_keep_7 : decode cX7_keep 7 = .ok (.ifnonnull 5, 3) := by decide +kernel
theorem dX7_keep_10 : decode cX7_keep 10 = .ok (.iconst (-1), 1) := by decide +kernel
theorem dX7_keep_11 : decode cX7_keep 11 = .ok (.ireturn, 1) := by decide +kernel
theorem dX7_keep_12 : decode cX7_keep 12 = .ok (.aload_n 0, 1) := by decide +kernel
theorem dX7_keep_13 : decode cX7_keep 13 = .ok (.getfield 24, 3) := by decide +kernel
theorem dX7_keep_16 : decode cX7_keep 16 = .ok (.getfield 214, 3) := by decide +kernel
theorem dX7_keep_19 : decode cX7_keep 19 = .ok (.ifCond .ne 6, 3) := by decide +kernel
theorem dX7_keep_22 : decode cX7_keep 22 = .ok (.bipush (-4), 2) := by decide +kernel
theorem dX7_keep_24 : decode cX7_keep 24 = .ok (.ireturn, 1) := by decide +kernel
theorem dX7_keep_25 : decode cX7_keep 25 = .ok (.aload_n 2, 1) := by decide +kernel
theorem dX7_keep_26 : decode cX7_keep 26 = .ok (.aload_n 0, 1) := by decide +kernel
theorem dX7_keep_27 : decode cX7_keep 27 = .ok (.getfield 44, 3) := by decide +kernel
theorem dX7_keep_30 : decode cX7_keep 30 = .ok (.invokevirtual 217, 3) := by decide +kernel
theorem dX7_keep_33 : decode cX7_keep 33 = .ok (.aload_n 2, 1) := by decide +kernel
theorem dX7_keep_34 : decode cX7_keep 34 = .ok (.getfield 86, 3) := by decide +kernel
theorem dX7_keep_37 : decode cX7_keep 37 = .ok (.ireturn, 1) := by decide +kernel
theorem dX7_on_0 : decode cX7_on 0 = .ok (.aload_n 0, 1) := by decide +kernel
theorem dX7_on_1 : decode cX7_on 1 = .ok (.iload_n 1, 1) := by decide +kernel
theorem dX7_on_2 : decode cX7_on 2 = .ok (.invokevirtual 210, 3) := by decide +kernel
theorem dX7_on_5 : decode cX7_on 5 = .ok (.astore_n 2, 1) := by decide +kernel
theorem dX7_on_6 : decode cX7_on 6 = .ok (.aload_n 2, 1) := by decide +kernel
theorem dX7_on_7 : decode cX7_on 7 = .ok (.ifnonnull 5, 3) := by decide +kernel
theorem dX7_on_10 : decode cX7_on 10 = .ok (.iconst (-1), 1) := by decide +kernel
theorem dX7_on_11 : decode cX7_on 11 = .ok (.ireturn, 1) := by decide +kernel
theorem dX7_on_12 : decode cX7_on 12 = .ok (.aload_n 2, 1) := by decide +kernel
theorem dX7_on_13 : decode cX7_on 13 = .ok (.getfield 86, 3) := by decide +kernel
theorem dX7_on_16 : decode cX7_on 16 = .ok (.iconst (-1), 1) := by decide +kernel
theorem dX7_on_17 : decode cX7_on 17 = .ok (.if_icmp .ne 9, 3) := by decide +kernel
theorem dX7_on_20 : decode cX7_on 20 = .ok (.aload_n 0, 1) := by decide +kernel
theorem dX7_on_21 : decode cX7_on 21 = .ok (.iconst 1, 1) := by decide +kernel
theorem dX7_on_22 : decode cX7_on 22 = .ok (.invokevirtual 93, 3) := by decide +kernel
theorem dX7_on_25 : decode cX7_on 25 = .ok (.ireturn, 1) := by decide +kernel
theorem dX7_on_26 : decode cX7_on 26 = .ok (.aload_n 0, 1) := by decide +kernel
theorem dX7_on_27 : decode cX7_on 27 = .ok (.getfield 44, 3) := by decide +kernel
theorem dX7_on_30 : decode cX7_on 30 = .ok (.aload_n 2, 1) := by decide +kernel
theorem dX7_on_31 : decode cX7_on 31 = .ok (.invokevirtual 217, 3) := by decide +kernel
theorem dX7_on_34 : decode cX7_on 34 = .ok (.aload_n 0, 1) := by decide +kernel
theorem dX7_on_35 : decode cX7_on 35 = .ok (.invokevirtual 207, 3) := by decide +kernel
theorem dX7_on_38 : decode cX7_on 38 = .ok (.aload_n 0, 1) := by decide +kernel
theorem dX7_on_39 : decode cX7_on 39 = .ok (.getfield 44, 3) := by decide +kernel
theorem dX7_on_42 : decode cX7_on 42 = .ok (.getfield 86, 3) := by decide +kernel
theorem dX7_on_45 : decode cX7_on 45 = .ok (.ireturn, 1) := by decide +kernel
theorem dX7_takes_0 : decode cX7_takes 0 = .ok (.aload_n 0, 1) := by decide +kernel
theorem dX7_takes_1 : decode cX7_takes 1 = .ok (.getfield 24, 3) := by decide +kernel
theorem dX7_takes_4 : decode cX7_takes 4 = .ok (.iload_n 1, 1) := by decide +kernel
theorem dX7_takes_5 : decode cX7_takes 5 = .ok (.invokevirtual 151, 3) := by decide +kernel
theorem dX7_takes_8 : decode cX7_takes 8 = .ok (.ifCond .eq 14, 3) := by decide +kernel
theorem dX7_takes_11 : decode cX7_takes 11 = .ok (.aload_n 0, 1) := by decide +kernel
theorem dX7_takes_12 : decode cX7_takes 12 = .ok (.getfield 24, 3) := by decide +kernel
theorem dX7_takes_15 : decode cX7_takes 15 = .ok (.iload_n 2, 1) := by decide +kernel
theorem dX7_takes_16 : decode cX7_takes 16 = .ok (.invokevirtual 158, 3) := by decide +kernel
theorem dX7_takes_19 : decode cX7_takes 19 = .ok (.ifCond .ne 5, 3) := by decide +kernel
theorem dX7_takes_22 : decode cX7_takes 22 = .ok (.iconst (-1), 1) := by decide +kernel
theorem dX7_takes_23 : decode cX7_takes 23 = .ok (.ireturn, 1) := by decide +kernel
theorem dX7_takes_24 : decode cX7_takes 24 = .ok (.aload_n 0, 1) := by decide +kernel
theorem dX7_takes_25 : decode cX7_takes 25 = .ok (.getfield 24, 3) := by decide +kernel
theorem dX7_takes_28 : decode cX7_takes 28 = .ok (.iload_n 1, 1) := by decide +kernel
theorem dX7_takes_29 : decode cX7_takes 29 = .ok (.iload_n 2, 1) := by decide +kernel
theorem dX7_takes_30 : decode cX7_takes 30 = .ok (.invokevirtual 192, 3) := by decide +kernel
theorem dX7_takes_33 : decode cX7_takes 33 = .ok (.ireturn, 1) := by decide +kernel
theorem dX7_brings_0 : decode cX7_brings 0 = .ok (.aload_n 0, 1) := by decide +kernel
theorem dX7_brings_1 : decode cX7_brings 1 = .ok (.getfield 24, 3) := by decide +kernel
theorem dX7_brings_4 : decode cX7_brings 4 = .ok (.iload_n 1, 1) := by decide +kernel
theorem dX7_brings_5 : decode cX7_brings 5 = .ok (.invokevirtual 151, 3) := by decide +kernel
theorem dX7_brings_8 : decode cX7_brings 8 = .ok (.ifCond .eq 14, 3) := by decide +kernel
theorem dX7_brings_11 : decode cX7_brings 11 = .ok (.aload_n 0, 1) := by decide +kernel
theorem dX7_brings_12 : decode cX7_brings 12 = .ok (.getfield 24, 3) := by decide +kernel
theorem dX7_brings_15 : decode cX7_brings 15 = .ok (.iload_n 2, 1) := by decide +kernel
theorem dX7_brings_16 : decode cX7_brings 16 = .ok (.invokevirtual 158, 3) := by decide +kernel
theorem dX7_brings_19 : decode cX7_brings 19 = .ok (.ifCond .ne 5, 3) := by decide +kernel
theorem dX7_brings_22 : decode cX7_brings 22 = .ok (.iconst (-1), 1) := by decide +kernel
theorem dX7_brings_23 : decode cX7_brings 23 = .ok (.ireturn, 1) := by decide +kernel
theorem dX7_brings_24 : decode cX7_brings 24 = .ok (.aload_n 0, 1) := by decide +kernel
theorem dX7_brings_25 : decode cX7_brings 25 = .ok (.getfield 24, 3) := by decide +kernel
theorem dX7_brings_28 : decode cX7_brings 28 = .ok (.iload_n 1, 1) := by decide +kernel
theorem dX7_brings_29 : decode cX7_brings 29 = .ok (.iload_n 2, 1) := by decide +kernel
theorem dX7_brings_30 : decode cX7_brings 30 = .ok (.invokevirtual 221, 3) := by decide +kernel
theorem dX7_brings_33 : decode cX7_brings 33 = .ok (.ireturn, 1) := by decide +kernel
theorem dX7_give_0 : decode cX7_give 0 = .ok (.aload_n 0, 1) := by decide +kernel
theorem dX7_give_1 : decode cX7_give 1 = .ok (.iload_n 1, 1) := by decide +kernel
theorem dX7_give_2 : decode cX7_give 2 = .ok (.iconst 1, 1) := by decide +kernel
theorem dX7_give_3 : decode cX7_give 3 = .ok (.invokevirtual 224, 3) := by decide +kernel
theorem dX7_give_6 : decode cX7_give 6 = .ok (.ireturn, 1) := by decide +kernel
theorem dX7_most_0 : decode cX7_most 0 = .ok (.aload_n 0, 1) := by decide +kernel
theorem dX7_most_1 : decode cX7_most 1 = .ok (.iload_n 1, 1) := by decide +kernel
theorem dX7_most_2 : decode cX7_most 2 = .ok (.iconst 0, 1) := by decide +kernel
theorem dX7_most_3 : decode cX7_most 3 = .ok (.invokevirtual 224, 3) := by decide +kernel
theorem dX7_most_6 : decode cX7_most 6 = .ok (.ireturn, 1) := by decide +kernel
theorem dX7_plain_0 : decode cX7_plain 0 = .ok (.aload_n 0, 1) := by decide +kernel
theorem dX7_plain_1 : decode cX7_plain 1 = .ok (.getfield 24, 3) := by decide +kernel
theorem dX7_plain_4 : decode cX7_plain 4 = .ok (.getfield 214, 3) := by decide +kernel
theorem dX7_plain_7 : decode cX7_plain 7 = .ok (.ifCond .ne 6, 3) := by decide +kernel
theorem dX7_plain_10 : decode cX7_plain 10 = .ok (.bipush (-4), 2) := by decide +kernel
theorem dX7_plain_12 : decode cX7_plain 12 = .ok (.ireturn, 1) := by decide +kernel
theorem dX7_plain_13 : decode cX7_plain 13 = .ok (.aload_n 0, 1) := by decide +kernel
theorem dX7_plain_14 : decode cX7_plain 14 = .ok (.getfield 34, 3) := by decide +kernel
theorem dX7_plain_17 : decode cX7_plain 17 = .ok (.getfield 228, 3) := by decide +kernel
theorem dX7_plain_20 : decode cX7_plain 20 = .ok (.invokestatic 231, 3) := by decide +kernel
theorem dX7_plain_23 : decode cX7_plain 23 = .ok (.istore_n 1, 1) := by decide +kernel
theorem dX7_plain_24 : decode cX7_plain 24 = .ok (.aload_n 0, 1) := by decide +kernel
theorem dX7_plain_25 : decode cX7_plain 25 = .ok (.aload_n 0, 1) := by decide +kernel
theorem dX7_plain_26 : decode cX7_plain 26 = .ok (.iconst 0, 1) := by decide +kernel
theorem dX7_plain_27 : decode cX7_plain 27 = .ok (.invokevirtual 236, 3) := by decide +kernel
theorem dX7_plain_30 : decode cX7_plain 30 = .ok (.putfield 66, 3) := by decide +kernel
theorem dX7_plain_33 : decode cX7_plain 33 = .ok (.aload_n 0, 1) := by decide +kernel
theorem dX7_plain_34 : decode cX7_plain 34 = .ok (.getfield 38, 3) := by decide +kernel
theorem dX7_plain_37 : decode cX7_plain 37 = .ok (.getfield 228, 3) := by decide +kernel
theorem dX7_plain_40 : decode cX7_plain 40 = .ok (.invokestatic 231, 3) := by decide +kernel
theorem dX7_plain_43 : decode cX7_plain 43 = .ok (.iload_n 1, 1) := by decide +kernel
theorem dX7_plain_44 : decode cX7_plain 44 = .ok (.isub, 1) := by decide +kernel
theorem dX7_plain_45 : decode cX7_plain 45 = .ok (.ireturn, 1) := by decide +kernel
theorem dX7_way_0 : decode cX7_way 0 = .ok (.aload_n 0, 1) := by decide +kernel
theorem dX7_way_1 : decode cX7_way 1 = .ok (.getfield 24, 3) := by decide +kernel
theorem dX7_way_4 : decode cX7_way 4 = .ok (.iload_n 1, 1) := by decide +kernel
theorem dX7_way_5 : decode cX7_way 5 = .ok (.invokevirtual 151, 3) := by decide +kernel
theorem dX7_way_8 : decode cX7_way 8 = .ok (.ifCond .eq 14, 3) := by decide +kernel
theorem dX7_way_11 : decode cX7_way 11 = .ok (.aload_n 0, 1) := by decide +kernel
theorem dX7_way_12 : decode cX7_way 12 = .ok (.getfield 24, 3) := by decide +kernel
theorem dX7_way_15 : decode cX7_way 15 = .ok (.iload_n 2, 1) := by decide +kernel
theorem dX7_way_16 : decode cX7_way 16 = .ok (.invokevirtual 239, 3) := by decide +kernel
theorem dX7_way_19 : decode cX7_way 19 = .ok (.ifCond .ne 5, 3) := by decide +kernel
theorem dX7_way_22 : decode cX7_way 22 = .ok (.iconst (-1), 1) := by decide +kernel
theorem dX7_way_23 : decode cX7_way 23 = .ok (.ireturn, 1) := by decide +kernel
theorem dX7_way_24 : decode cX7_way 24 = .ok (.aload_n 0, 1) := by decide +kernel
theorem dX7_way_25 : decode cX7_way 25 = .ok (.aload_n 0, 1) := by decide +kernel
theorem dX7_way_26 : decode cX7_way 26 = .ok (.getfield 34, 3) := by decide +kernel
theorem dX7_way_29 : decode cX7_way 29 = .ok (.getfield 177, 3) := by decide +kernel
theorem dX7_way_32 : decode cX7_way 32 = .ok (.iload_n 1, 1) := by decide +kernel
theorem dX7_way_33 : decode cX7_way 33 = .ok (.iaload, 1) := by decide +kernel
theorem dX7_way_34 : decode cX7_way 34 = .ok (.iload_n 2, 1) := by decide +kernel
theorem dX7_way_35 : decode cX7_way 35 = .ok (.invokevirtual 242, 3) := by decide +kernel
theorem dX7_way_38 : decode cX7_way 38 = .ok (.ireturn, 1) := by decide +kernel
theorem dX7_dusk_0 : decode cX7_dusk 0 = .ok (.aload_n 0, 1) := by decide +kernel
theorem dX7_dusk_1 : decode cX7_dusk 1 = .ok (.iload_n 3, 1) := by decide +kernel
theorem dX7_dusk_2 : decode cX7_dusk 2 = .ok (.invokevirtual 89, 3) := by decide +kernel
theorem dX7_dusk_5 : decode cX7_dusk 5 = .ok (.astore 4, 2) := by decide +kernel
theorem dX7_dusk_7 : decode cX7_dusk 7 = .ok (.aload_n 0, 1) := by decide +kernel
theorem dX7_dusk_8 : decode cX7_dusk 8 = .ok (.getfield 24, 3) := by decide +kernel
theorem dX7_dusk_11 : decode cX7_dusk 11 = .ok (.iload_n 1, 1) := by decide +kernel
theorem dX7_dusk_12 : decode cX7_dusk 12 = .ok (.invokevirtual 151, 3) := by decide +kernel
theorem dX7_dusk_15 : decode cX7_dusk 15 = .ok (.ifCond .eq 18, 3) := by decide +kernel
theorem dX7_dusk_18 : decode cX7_dusk 18 = .ok (.iload_n 2, 1) := by decide +kernel
theorem dX7_dusk_19 : decode cX7_dusk 19 = .ok (.ifCond .lt 14, 3) := by decide +kernel
theorem dX7_dusk_22 : decode cX7_dusk 22 = .ok (.iload_n 2, 1) := by decide +kernel
theorem dX7_dusk_23 : decode cX7_dusk 23 = .ok (.bipush 30, 2) := by decide +kernel
theorem dX7_dusk_25 : decode cX7_dusk 25 = .ok (.if_icmp .gt 8, 3) := by decide +kernel
theorem dX7_dusk_28 : decode cX7_dusk 28 = .ok (.aload 4, 2) := by decide +kernel
theorem dX7_dusk_30 : decode cX7_dusk 30 = .ok (.ifnonnull 5, 3) := by decide +kernel
theorem dX7_dusk_33 : decode cX7_dusk 33 = .ok (.iconst (-1), 1) := by decide +kernel
theorem dX7_dusk_34 : decode cX7_dusk 34 = .ok (.ireturn, 1) := by decide +kernel
theorem dX7_dusk_35 : decode cX7_dusk 35 = .ok (.aload_n 0, 1) := by decide +kernel
theorem dX7_dusk_36 : decode cX7_dusk 36 = .ok (.getfield 62, 3) := by decide +kernel
theorem dX7_dusk_39 : decode cX7_dusk 39 = .ok (.aload_n 0, 1) := by decide +kernel
theorem dX7_dusk_40 : decode cX7_dusk 40 = .ok (.getfield 24, 3) := by decide +kernel
theorem dX7_dusk_43 : decode cX7_dusk 43 = .ok (.aload_n 0, 1) := by decide +kernel
theorem dX7_dusk_44 : decode cX7_dusk 44 = .ok (.getfield 34, 3) := by decide +kernel
theorem dX7_dusk_47 : decode cX7_dusk 47 = .ok (.iload_n 1, 1) := by decide +kernel
theorem dX7_dusk_48 : decode cX7_dusk 48 = .ok (.iload_n 2, 1) := by decide +kernel
theorem dX7_dusk_49 : decode cX7_dusk 49 = .ok (.invokevirtual 245, 3) := by decide +kernel
theorem dX7_dusk_52 : decode cX7_dusk 52 = .ok (.istore 5, 2) := by decide +kernel
theorem dX7_dusk_54 : decode cX7_dusk 54 = .ok (.aload 4, 2) := by decide +kernel
theorem dX7_dusk_56 : decode cX7_dusk 56 = .ok (.aload_n 0, 1) := by decide +kernel
theorem dX7_dusk_57 : decode cX7_dusk 57 = .ok (.getfield 62, 3) := by decide +kernel
theorem dX7_dusk_60 : decode cX7_dusk 60 = .ok (.getfield 249, 3) := by decide +kernel
theorem dX7_dusk_63 : decode cX7_dusk 63 = .ok (.invokevirtual 97, 3) := by decide +kernel
theorem dX7_dusk_66 : decode cX7_dusk 66 = .ok (.aload_n 0, 1) := by decide +kernel
theorem dX7_dusk_67 : decode cX7_dusk 67 = .ok (.getfield 62, 3) := by decide +kernel
theorem dX7_dusk_70 : decode cX7_dusk 70 = .ok (.getfield 252, 3) := by decide +kernel
theorem dX7_dusk_73 : decode cX7_dusk 73 = .ok (.iconst 0, 1) := by decide +kernel
theorem dX7_dusk_74 : decode cX7_dusk 74 = .ok (.aload 4, 2) := by decide +kernel
theorem dX7_dusk_76 : decode cX7_dusk 76 = .ok (.getfield 109, 3) := by decide +kernel
theorem dX7_dusk_79 : decode cX7_dusk 79 = .ok (.iconst 0, 1) := by decide +kernel
theorem dX7_dusk_80 : decode cX7_dusk 80 = .ok (.aload_n 0, 1) := by decide +kernel
theorem dX7_dusk_81 : decode cX7_dusk 81 = .ok (.getfield 62, 3) := by decide +kernel
theorem dX7_dusk_84 : decode cX7_dusk 84 = .ok (.getfield 249, 3) := by decide +kernel
theorem dX7_dusk_87 : decode cX7_dusk 87 = .ok (.invokestatic 119, 3) := by decide +kernel
theorem dX7_dusk_90 : decode cX7_dusk 90 = .ok (.iload 5, 2) := by decide +kernel
theorem dX7_dusk_92 : decode cX7_dusk 92 = .ok (.ireturn, 1) := by decide +kernel
theorem dX7_hours_0 : decode cX7_hours 0 = .ok (.aload_n 0, 1) := by decide +kernel
theorem dX7_hours_1 : decode cX7_hours 1 = .ok (.getfield 24, 3) := by decide +kernel
theorem dX7_hours_4 : decode cX7_hours 4 = .ok (.iload_n 1, 1) := by decide +kernel
theorem dX7_hours_5 : decode cX7_hours 5 = .ok (.invokevirtual 151, 3) := by decide +kernel
theorem dX7_hours_8 : decode cX7_hours 8 = .ok (.ifCond .eq 14, 3) := by decide +kernel
theorem dX7_hours_11 : decode cX7_hours 11 = .ok (.aload_n 0, 1) := by decide +kernel
theorem dX7_hours_12 : decode cX7_hours 12 = .ok (.getfield 24, 3) := by decide +kernel
theorem dX7_hours_15 : decode cX7_hours 15 = .ok (.iload_n 2, 1) := by decide +kernel
theorem dX7_hours_16 : decode cX7_hours 16 = .ok (.invokevirtual 239, 3) := by decide +kernel
theorem dX7_hours_19 : decode cX7_hours 19 = .ok (.ifCond .ne 5, 3) := by decide +kernel
theorem dX7_hours_22 : decode cX7_hours 22 = .ok (.iconst (-1), 1) := by decide +kernel
theorem dX7_hours_23 : decode cX7_hours 23 = .ok (.ireturn, 1) := by decide +kernel
theorem dX7_hours_24 : decode cX7_hours 24 = .ok (.iload_n 2, 1) := by decide +kernel
theorem dX7_hours_25 : decode cX7_hours 25 = .ok (.aload_n 0, 1) := by decide +kernel
theorem dX7_hours_26 : decode cX7_hours 26 = .ok (.getfield 34, 3) := by decide +kernel
theorem dX7_hours_29 : decode cX7_hours 29 = .ok (.getfield 228, 3) := by decide +kernel
theorem dX7_hours_32 : decode cX7_hours 32 = .ok (.iconst (-1), 1) := by decide +kernel
theorem dX7_hours_33 : decode cX7_hours 33 = .ok (.ixor, 1) := by decide +kernel
theorem dX7_hours_34 : decode cX7_hours 34 = .ok (.iand, 1) := by decide +kernel
theorem dX7_hours_35 : decode cX7_hours 35 = .ok (.istore_n 3, 1) := by decide +kernel
theorem dX7_hours_36 : decode cX7_hours 36 = .ok (.iconst 0, 1) := by decide +kernel
theorem dX7_hours_37 : decode cX7_hours 37 = .ok (.istore 4, 2) := by decide +kernel
theorem dX7_hours_39 : decode cX7_hours 39 = .ok (.iconst 0, 1) := by decide +kernel
theorem dX7_hours_40 : decode cX7_hours 40 = .ok (.istore 5, 2) := by decide +kernel
theorem dX7_hours_42 : decode cX7_hours 42 = .ok (.iload 5, 2) := by decide +kernel
theorem dX7_hours_44 : decode cX7_hours 44 = .ok (.aload_n 0, 1) := by decide +kernel
theorem dX7_hours_45 : decode cX7_hours 45 = .ok (.getfield 24, 3) := by decide +kernel
theorem dX7_hours_48 : decode cX7_hours 48 = .ok (.getfield 148, 3) := by decide +kernel
theorem dX7_hours_51 : decode cX7_hours 51 = .ok (.if_icmp .ge 47, 3) := by decide +kernel
theorem dX7_hours_54 : decode cX7_hours 54 = .ok (.iload_n 3, 1) := by decide +kernel
theorem dX7_hours_55 : decode cX7_hours 55 = .ok (.iload 5, 2) := by decide +kernel
theorem dX7_hours_57 : decode cX7_hours 57 = .ok (.invokestatic 255, 3) := by decide +kernel
theorem dX7_hours_60 : decode cX7_hours 60 = .ok (.ifCond .eq 32, 3) := by decide +kernel
theorem dX7_hours_63 : decode cX7_hours 63 = .ok (.aload_n 0, 1) := by decide +kernel
theorem dX7_hours_64 : decode cX7_hours 64 = .ok (.getfield 24, 3) := by decide +kernel
theorem dX7_hours_67 : decode cX7_hours 67 = .ok (.iload_n 1, 1) := by decide +kernel
theorem dX7_hours_68 : decode cX7_hours 68 = .ok (.iload 5, 2) := by decide +kernel
theorem dX7_hours_70 : decode cX7_hours 70 = .ok (.invokevirtual 192, 3) := by decide +kernel
theorem dX7_hours_73 : decode cX7_hours 73 = .ok (.istore 6, 2) := by decide +kernel
theorem dX7_hours_75 : decode cX7_hours 75 = .ok (.iload 6, 2) := by decide +kernel
theorem dX7_hours_77 : decode cX7_hours 77 = .ok (.bipush (-9), 2) := by decide +kernel
theorem dX7_hours_79 : decode cX7_hours 79 = .ok (.if_icmp .ne 6, 3) := by decide +kernel
theorem dX7_hours_82 : decode cX7_hours 82 = .ok (.bipush (-9), 2) := by decide +kernel
theorem dX7_hours_84 : decode cX7_hours 84 = .ok (.ireturn, 1) := by decide +kernel
theorem dX7_hours_85 : decode cX7_hours 85 = .ok (.iload 4, 2) := by decide +kernel
theorem dX7_hours_87 : decode cX7_hours 87 = .ok (.iload 6, 2) := by decide +kernel
theorem dX7_hours_89 : decode cX7_hours 89 = .ok (.iadd, 1) := by decide +kernel
theorem dX7_hours_90 : decode cX7_hours 90 = .ok (.istore 4, 2) := by decide +kernel
theorem dX7_hours_92 : decode cX7_hours 92 = .ok (.iinc 5 1, 3) := by decide +kernel
theorem dX7_hours_95 : decode cX7_hours 95 = .ok (.goto (-53), 3) := by decide +kernel
theorem dX7_hours_98 : decode cX7_hours 98 = .ok (.iload 4, 2) := by decide +kernel
theorem dX7_hours_100 : decode cX7_hours 100 = .ok (.aload_n 0, 1) := by decide +kernel
theorem dX7_hours_101 : decode cX7_hours 101 = .ok (.getfield 34, 3) := by decide +kernel
theorem dX7_hours_104 : decode cX7_hours 104 = .ok (.getfield 201, 3) := by decide +kernel
theorem dX7_hours_107 : decode cX7_hours 107 = .ok (.iload_n 1, 1) := by decide +kernel
theorem dX7_hours_108 : decode cX7_hours 108 = .ok (.iaload, 1) := by decide +kernel
theorem dX7_hours_109 : decode cX7_hours 109 = .ok (.if_icmp .le 6, 3) := by decide +kernel
theorem dX7_hours_112 : decode cX7_hours 112 = .ok (.bipush (-9), 2) := by decide +kernel
theorem dX7_hours_114 : decode cX7_hours 114 = .ok (.ireturn, 1) := by decide +kernel
theorem dX7_hours_115 : decode cX7_hours 115 = .ok (.aload_n 0, 1) := by decide +kernel
theorem dX7_hours_116 : decode cX7_hours 116 = .ok (.aload_n 0, 1) := by decide +kernel
theorem dX7_hours_117 : decode cX7_hours 117 = .ok (.getfield 34, 3) := by decide +kernel
theorem dX7_hours_120 : decode cX7_hours 120 = .ok (.getfield 177, 3) := by decide +kernel
theorem dX7_hours_123 : decode cX7_hours 123 = .ok (.iload_n 1, 1) := by decide +kernel
theorem dX7_hours_124 : decode cX7_hours 124 = .ok (.iaload, 1) := by decide +kernel
theorem dX7_hours_125 : decode cX7_hours 125 = .ok (.iload_n 3, 1) := by decide +kernel
theorem dX7_hours_126 : decode cX7_hours 126 = .ok (.invokevirtual 242, 3) := by decide +kernel
theorem dX7_hours_129 : decode cX7_hours 129 = .ok (.iload_n 3, 1) := by decide +kernel
theorem dX7_hours_130 : decode cX7_hours 130 = .ok (.invokestatic 231, 3) := by decide +kernel
theorem dX7_hours_133 : decode cX7_hours 133 = .ok (.iadd, 1) := by decide +kernel
theorem dX7_hours_134 : decode cX7_hours 134 = .ok (.ireturn, 1) := by decide +kernel
theorem dX7_pairs_0 : decode cX7_pairs 0 = .ok (.iload_n 1, 1) := by decide +kernel
theorem dX7_pairs_1 : decode cX7_pairs 1 = .ok (.ifCond .lt 9, 3) := by decide +kernel
theorem dX7_pairs_4 : decode cX7_pairs 4 = .ok (.iload_n 1, 1) := by decide +kernel
theorem dX7_pairs_5 : decode cX7_pairs 5 = .ok (.bipush 9, 2) := by decide +kernel
theorem dX7_pairs_7 : decode cX7_pairs 7 = .ok (.if_icmp .le 5, 3) := by decide +kernel
theorem dX7_pairs_10 : decode cX7_pairs 10 = .ok (.iconst (-1), 1) := by decide +kernel
theorem dX7_pairs_11 : decode cX7_pairs 11 = .ok (.ireturn, 1) := by decide +kernel
theorem dX7_pairs_12 : decode cX7_pairs 12 = .ok (.iconst 0, 1) := by decide +kernel
theorem dX7_pairs_13 : decode cX7_pairs 13 = .ok (.istore_n 2, 1) := by decide +kernel
theorem dX7_pairs_14 : decode cX7_pairs 14 = .ok (.bipush (-9), 2) := by decide +kernel
theorem dX7_pairs_16 : decode cX7_pairs 16 = .ok (.istore_n 3, 1) := by decide +kernel
theorem dX7_pairs_17 : decode cX7_pairs 17 = .ok (.iconst 0, 1) := by decide +kernel
theorem dX7_pairs_18 : decode cX7_pairs 18 = .ok (.istore 4, 2) := by decide +kernel
theorem dX7_pairs_20 : decode cX7_pairs 20 = .ok (.iload 4, 2) := by decide +kernel
theorem dX7_pairs_22 : decode cX7_pairs 22 = .ok (.aload_n 0, 1) := by decide +kernel
theorem dX7_pairs_23 : decode cX7_pairs 23 = .ok (.getfield 24, 3) := by decide +kernel
theorem dX7_pairs_26 : decode cX7_pairs 26 = .ok (.getfield 214, 3) := by decide +kernel
theorem dX7_pairs_29 : decode cX7_pairs 29 = .ok (.if_icmp .ge 67, 3) := by decide +kernel
theorem dX7_pairs_32 : decode cX7_pairs 32 = .ok (.iload 4, 2) := by decide +kernel
theorem dX7_pairs_34 : decode cX7_pairs 34 = .ok (.iconst 1, 1) := by decide +kernel
theorem dX7_pairs_35 : decode cX7_pairs 35 = .ok (.iadd, 1) := by decide +kernel
theorem dX7_pairs_36 : decode cX7_pairs 36 = .ok (.istore 5, 2) := by decide +kernel
theorem dX7_pairs_38 : decode cX7_pairs 38 = .ok (.iload 5, 2) := by decide +kernel
theorem dX7_pairs_40 : decode cX7_pairs 40 = .ok (.aload_n 0, 1) := by decide +kernel
theorem dX7_pairs_41 : decode cX7_pairs 41 = .ok (.getfield 24, 3) := by decide +kernel
theorem dX7_pairs_44 : decode cX7_pairs 44 = .ok (.getfield 214, 3) := by decide +kernel
theorem dX7_pairs_47 : decode cX7_pairs 47 = .ok (.if_icmp .ge 43, 3) := by decide +kernel
theorem dX7_pairs_50 : decode cX7_pairs 50 = .ok (.aload_n 0, 1) := by decide +kernel
theorem dX7_pairs_51 : decode cX7_pairs 51 = .ok (.getfield 24, 3) := by decide +kernel
theorem dX7_pairs_54 : decode cX7_pairs 54 = .ok (.iload 4, 2) := by decide +kernel
theorem dX7_pairs_56 : decode cX7_pairs 56 = .ok (.iload 5, 2) := by decide +kernel
theorem dX7_pairs_58 : decode cX7_pairs 58 = .ok (.iload_n 1, 1) := by decide +kernel
theorem dX7_pairs_59 : decode cX7_pairs 59 = .ok (.invokevirtual 258, 3) := by decide +kernel
theorem dX7_pairs_62 : decode cX7_pairs 62 = .ok (.ifCond .eq 22, 3) := by decide +kernel
theorem dX7_pairs_65 : decode cX7_pairs 65 = .ok (.iload_n 2, 1) := by decide +kernel
theorem dX7_pairs_66 : decode cX7_pairs 66 = .ok (.ifCond .ne 13, 3) := by decide +kernel
theorem dX7_pairs_69 : decode cX7_pairs 69 = .ok (.iconst 5, 1) := by decide +kernel
theorem dX7_pairs_70 : decode cX7_pairs 70 = .ok (.iload 4, 2) := by decide +kernel
theorem dX7_pairs_72 : decode cX7_pairs 72 = .ok (.imul, 1) := by decide +kernel
theorem dX7_pairs_73 : decode cX7_pairs 73 = .ok (.iload 5, 2) := by decide +kernel
theorem dX7_pairs_75 : decode cX7_pairs 75 = .ok (.iadd, 1) := by decide +kernel
theorem dX7_pairs_76 : decode cX7_pairs 76 = .ok (.goto 4, 3) := by decide +kernel
theorem dX7_pairs_79 : decode cX7_pairs 79 = .ok (.iload_n 3, 1) := by decide +kernel
theorem dX7_pairs_80 : decode cX7_pairs 80 = .ok (.istore_n 3, 1) := by decide +kernel
theorem dX7_pairs_81 : decode cX7_pairs 81 = .ok (.iinc 2 1, 3) := by decide +kernel
theorem dX7_pairs_84 : decode cX7_pairs 84 = .ok (.iinc 5 1, 3) := by decide +kernel
theorem dX7_pairs_87 : decode cX7_pairs 87 = .ok (.goto (-49), 3) := by decide +kernel
theorem dX7_pairs_90 : decode cX7_pairs 90 = .ok (.iinc 4 1, 3) := by decide +kernel
theorem dX7_pairs_93 : decode cX7_pairs 93 = .ok (.goto (-73), 3) := by decide +kernel
theorem dX7_pairs_96 : decode cX7_pairs 96 = .ok (.aload_n 0, 1) := by decide +kernel
theorem dX7_pairs_97 : decode cX7_pairs 97 = .ok (.iload_n 3, 1) := by decide +kernel
theorem dX7_pairs_98 : decode cX7_pairs 98 = .ok (.putfield 66, 3) := by decide +kernel
theorem dX7_pairs_101 : decode cX7_pairs 101 = .ok (.iload_n 2, 1) := by decide +kernel
theorem dX7_pairs_102 : decode cX7_pairs 102 = .ok (.ireturn, 1) := by decide +kernel
theorem dX7_choir_0 : decode cX7_choir 0 = .ok (.iload_n 1, 1) := by decide +kernel
theorem dX7_choir_1 : decode cX7_choir 1 = .ok (.ifCond .lt 9, 3) := by decide +kernel
theorem dX7_choir_4 : decode cX7_choir 4 = .ok (.iload_n 1, 1) := by decide +kernel
theorem dX7_choir_5 : decode cX7_choir 5 = .ok (.bipush 9, 2) := by decide +kernel
theorem dX7_choir_7 : decode cX7_choir 7 = .ok (.if_icmp .le 5, 3) := by decide +kernel
theorem dX7_choir_10 : decode cX7_choir 10 = .ok (.iconst (-1), 1) := by decide +kernel
theorem dX7_choir_11 : decode cX7_choir 11 = .ok (.ireturn, 1) := by decide +kernel
theorem dX7_choir_12 : decode cX7_choir 12 = .ok (.aload_n 0, 1) := by decide +kernel
theorem dX7_choir_13 : decode cX7_choir 13 = .ok (.getfield 24, 3) := by decide +kernel
theorem dX7_choir_16 : decode cX7_choir 16 = .ok (.getfield 214, 3) := by decide +kernel
theorem dX7_choir_19 : decode cX7_choir 19 = .ok (.ifCond .ne 6, 3) := by decide +kernel
theorem dX7_choir_22 : decode cX7_choir 22 = .ok (.bipush (-4), 2) := by decide +kernel
theorem dX7_choir_24 : decode cX7_choir 24 = .ok (.ireturn, 1) := by decide +kernel
theorem dX7_choir_25 : decode cX7_choir 25 = .ok (.iconst 0, 1) := by decide +kernel
theorem dX7_choir_26 : decode cX7_choir 26 = .ok (.istore_n 2, 1) := by decide +kernel
theorem dX7_choir_27 : decode cX7_choir 27 = .ok (.iconst 1, 1) := by decide +kernel
theorem dX7_choir_28 : decode cX7_choir 28 = .ok (.istore_n 3, 1) := by decide +kernel
theorem dX7_choir_29 : decode cX7_choir 29 = .ok (.iload_n 3, 1) := by decide +kernel
theorem dX7_choir_30 : decode cX7_choir 30 = .ok (.iconst 1, 1) := by decide +kernel
theorem dX7_choir_31 : decode cX7_choir 31 = .ok (.aload_n 0, 1) := by decide +kernel
theorem dX7_choir_32 : decode cX7_choir 32 = .ok (.getfield 24, 3) := by decide +kernel
theorem dX7_choir_35 : decode cX7_choir 35 = .ok (.getfield 214, 3) := by decide +kernel
theorem dX7_choir_38 : decode cX7_choir 38 = .ok (.ishl, 1) := by decide +kernel
theorem dX7_choir_39 : decode cX7_choir 39 = .ok (.if_icmp .ge 34, 3) := by decide +kernel
theorem dX7_choir_42 : decode cX7_choir 42 = .ok (.iload_n 3, 1) := by decide +kernel
theorem dX7_choir_43 : decode cX7_choir 43 = .ok (.invokestatic 231, 3) := by decide +kernel
theorem dX7_choir_46 : decode cX7_choir 46 = .ok (.iload_n 2, 1) := by decide +kernel
theorem dX7_choir_47 : decode cX7_choir 47 = .ok (.invokestatic 231, 3) := by decide +kernel
theorem dX7_choir_50 : decode cX7_choir 50 = .ok (.if_icmp .le 17, 3) := by decide +kernel
theorem dX7_choir_53 : decode cX7_choir 53 = .ok (.aload_n 0, 1) := by decide +kernel
theorem dX7_choir_54 : decode cX7_choir 54 = .ok (.getfield 24, 3) := by decide +kernel
theorem dX7_choir_57 : decode cX7_choir 57 = .ok (.iload_n 3, 1) := by decide +kernel
theorem dX7_choir_58 : decode cX7_choir 58 = .ok (.iload_n 1, 1) := by decide +kernel
theorem dX7_choir_59 : decode cX7_choir 59 = .ok (.invokevirtual 262, 3) := by decide +kernel
theorem dX7_choir_62 : decode cX7_choir 62 = .ok (.ifCond .eq 5, 3) := by decide +kernel
theorem dX7_choir_65 : decode cX7_choir 65 = .ok (.iload_n 3, 1) := by decide +kernel
theorem dX7_choir_66 : decode cX7_choir 66 = .ok (.istore_n 2, 1) := by decide +kernel
theorem dX7_choir_67 : decode cX7_choir 67 = .ok (.iinc 3 1, 3) := by decide +kernel
theorem dX7_choir_70 : decode cX7_choir 70 = .ok (.goto (-41), 3) := by decide +kernel
theorem dX7_choir_73 : decode cX7_choir 73 = .ok (.aload_n 0, 1) := by decide +kernel
theorem dX7_choir_74 : decode cX7_choir 74 = .ok (.iload_n 2, 1) := by decide +kernel
theorem dX7_choir_75 : decode cX7_choir 75 = .ok (.putfield 66, 3) := by decide +kernel
theorem dX7_choir_78 : decode cX7_choir 78 = .ok (.iload_n 2, 1) := by decide +kernel
theorem dX7_choir_79 : decode cX7_choir 79 = .ok (.invokestatic 231, 3) := by decide +kernel
theorem dX7_choir_82 : decode cX7_choir 82 = .ok (.ireturn, 1) := by decide +kernel
theorem dX7_loose_0 : decode cX7_loose 0 = .ok (.iload_n 1, 1) := by decide +kernel
theorem dX7_loose_1 : decode cX7_loose 1 = .ok (.invokestatic 174, 3) := by decide +kernel
theorem dX7_loose_4 : decode cX7_loose 4 = .ok (.ifCond .eq 24, 3) := by decide +kernel
theorem dX7_loose_7 : decode cX7_loose 7 = .ok (.iload_n 2, 1) := by decide +kernel
theorem dX7_loose_8 : decode cX7_loose 8 = .ok (.iconst 1, 1) := by decide +kernel
theorem dX7_loose_9 : decode cX7_loose 9 = .ok (.if_icmp .lt 19, 3) := by decide +kernel
theorem dX7_loose_12 : decode cX7_loose 12 = .ok (.iload_n 2, 1) := by decide +kernel
theorem dX7_loose_13 : decode cX7_loose 13 = .ok (.bipush 9, 2) := by decide +kernel
theorem dX7_loose_15 : decode cX7_loose 15 = .ok (.if_icmp .gt 13, 3) := by decide +kernel
theorem dX7_loose_18 : decode cX7_loose 18 = .ok (.iload_n 3, 1) := by decide +kernel
theorem dX7_loose_19 : decode cX7_loose 19 = .ok (.ifCond .lt 9, 3) := by decide +kernel
theorem dX7_loose_22 : decode cX7_loose 22 = .ok (.iload_n 3, 1) := by decide +kernel
theorem dX7_loose_23 : decode cX7_loose 23 = .ok (.bipush 20, 2) := by decide +kernel
theorem dX7_loose_25 : decode cX7_loose 25 = .ok (.if_icmp .le 5, 3) := by decide +kernel
theorem dX7_loose_28 : decode cX7_loose 28 = .ok (.iconst (-1), 1) := by decide +kernel
theorem dX7_loose_29 : decode cX7_loose 29 = .ok (.ireturn, 1) := by decide +kernel
theorem dX7_loose_30 : decode cX7_loose 30 = .ok (.iconst 0, 1) := by decide +kernel
theorem dX7_loose_31 : decode cX7_loose 31 = .ok (.istore 4, 2) := by decide +kernel
theorem dX7_loose_33 : decode cX7_loose 33 = .ok (.iconst 0, 1) := by decide +kernel
theorem dX7_loose_34 : decode cX7_loose 34 = .ok (.istore 5, 2) := by decide +kernel
theorem dX7_loose_36 : decode cX7_loose 36 = .ok (.iload 5, 2) := by decide +kernel
theorem dX7_loose_38 : decode cX7_loose 38 = .ok (.iload_n 3, 1) := by decide +kernel
theorem dX7_loose_39 : decode cX7_loose 39 = .ok (.if_icmp .gt 34, 3) := by decide +kernel
theorem dX7_loose_42 : decode cX7_loose 42 = .ok (.iload 5, 2) := by decide +kernel
theorem dX7_loose_44 : decode cX7_loose 44 = .ok (.iload_n 2, 1) := by decide +kernel
theorem dX7_loose_45 : decode cX7_loose 45 = .ok (.if_icmp .ge 28, 3) := by decide +kernel
theorem dX7_loose_48 : decode cX7_loose 48 = .ok (.iload 4, 2) := by decide +kernel
theorem dX7_loose_50 : decode cX7_loose 50 = .ok (.aload_n 0, 1) := by decide +kernel
theorem dX7_loose_51 : decode cX7_loose 51 = .ok (.getfield 24, 3) := by decide +kernel
theorem dX7_loose_54 : decode cX7_loose 54 = .ok (.iload_n 1, 1) := by decide +kernel
theorem dX7_loose_55 : decode cX7_loose 55 = .ok (.iload 5, 2) := by decide +kernel
theorem dX7_loose_57 : decode cX7_loose 57 = .ok (.iadd, 1) := by decide +kernel
theorem dX7_loose_58 : decode cX7_loose 58 = .ok (.bipush 10, 2) := by decide +kernel
theorem dX7_loose_60 : decode cX7_loose 60 = .ok (.irem, 1) := by decide +kernel
theorem dX7_loose_61 : decode cX7_loose 61 = .ok (.invokevirtual 265, 3) := by decide +kernel
theorem dX7_loose_64 : decode cX7_loose 64 = .ok (.ior, 1) := by decide +kernel
theorem dX7_loose_65 : decode cX7_loose 65 = .ok (.istore 4, 2) := by decide +kernel
theorem dX7_loose_67 : decode cX7_loose 67 = .ok (.iinc 5 1, 3) := by decide +kernel
theorem dX7_loose_70 : decode cX7_loose 70 = .ok (.goto (-34), 3) := by decide +kernel
theorem dX7_loose_73 : decode cX7_loose 73 = .ok (.iload 4, 2) := by decide +kernel
theorem dX7_loose_75 : decode cX7_loose 75 = .ok (.ireturn, 1) := by decide +kernel
theorem dX7_who_0 : decode cX7_who 0 = .ok (.aload_n 0, 1) := by decide +kernel
theorem dX7_who_1 : decode cX7_who 1 = .ok (.iload_n 1, 1) := by decide +kernel
theorem dX7_who_2 : decode cX7_who 2 = .ok (.invokevirtual 89, 3) := by decide +kernel
theorem dX7_who_5 : decode cX7_who 5 = .ok (.astore_n 2, 1) := by decide +kernel
theorem dX7_who_6 : decode cX7_who 6 = .ok (.aload_n 2, 1) := by decide +kernel
theorem dX7_who_7 : decode cX7_who 7 = .ok (.ifnonnull 5, 3) := by decide +kernel
theorem dX7_who_10 : decode cX7_who 10 = .ok (.iconst (-1), 1) := by decide +kernel
theorem dX7_who_11 : decode cX7_who 11 = .ok (.ireturn, 1) := by decide +kernel
theorem dX7_who_12 : decode cX7_who 12 = .ok (.aload_n 0, 1) := by decide +kernel
theorem dX7_who_13 : decode cX7_who 13 = .ok (.aload_n 2, 1) := by decide +kernel
theorem dX7_who_14 : decode cX7_who 14 = .ok (.invokevirtual 268, 3) := by decide +kernel
theorem dX7_who_17 : decode cX7_who 17 = .ok (.istore_n 3, 1) := by decide +kernel
theorem dX7_who_18 : decode cX7_who 18 = .ok (.iload_n 3, 1) := by decide +kernel
theorem dX7_who_19 : decode cX7_who 19 = .ok (.ifCond .eq 9, 3) := by decide +kernel
theorem dX7_who_22 : decode cX7_who 22 = .ok (.aload_n 0, 1) := by decide +kernel
theorem dX7_who_23 : decode cX7_who 23 = .ok (.iload_n 3, 1) := by decide +kernel
theorem dX7_who_24 : decode cX7_who 24 = .ok (.invokevirtual 93, 3) := by decide +kernel
theorem dX7_who_27 : decode cX7_who 27 = .ok (.ireturn, 1) := by decide +kernel
theorem dX7_who_28 : decode cX7_who 28 = .ok (.iconst 0, 1) := by decide +kernel
theorem dX7_who_29 : decode cX7_who 29 = .ok (.istore 4, 2) := by decide +kernel
theorem dX7_who_31 : decode cX7_who 31 = .ok (.iconst 0, 1) := by decide +kernel
theorem dX7_who_32 : decode cX7_who 32 = .ok (.istore 5, 2) := by decide +kernel
theorem dX7_who_34 : decode cX7_who 34 = .ok (.iload 5, 2) := by decide +kernel
theorem dX7_who_36 : decode cX7_who 36 = .ok (.aload_n 0, 1) := by decide +kernel
theorem dX7_who_37 : decode cX7_who 37 = .ok (.getfield 24, 3) := by decide +kernel
theorem dX7_who_40 : decode cX7_who 40 = .ok (.getfield 214, 3) := by decide +kernel
theorem dX7_who_43 : decode cX7_who 43 = .ok (.if_icmp .ge 57, 3) := by decide +kernel
theorem dX7_who_46 : decode cX7_who 46 = .ok (.aload_n 0, 1) := by decide +kernel
theorem dX7_who_47 : decode cX7_who 47 = .ok (.aload_n 2, 1) := by decide +kernel
theorem dX7_who_48 : decode cX7_who 48 = .ok (.aload_n 0, 1) := by decide +kernel
theorem dX7_who_49 : decode cX7_who 49 = .ok (.getfield 24, 3) := by decide +kernel
theorem dX7_who_52 : decode cX7_who 52 = .ok (.getfield 164, 3) := by decide +kernel
theorem dX7_who_55 : decode cX7_who 55 = .ok (.iload 5, 2) := by decide +kernel
theorem dX7_who_57 : decode cX7_who 57 = .ok (.iaload, 1) := by decide +kernel
theorem dX7_who_58 : decode cX7_who 58 = .ok (.invokevirtual 272, 3) := by decide +kernel
theorem dX7_who_61 : decode cX7_who 61 = .ok (.istore 6, 2) := by decide +kernel
theorem dX7_who_63 : decode cX7_who 63 = .ok (.iload 6, 2) := by decide +kernel
theorem dX7_who_65 : decode cX7_who 65 = .ok (.bipush (-9), 2) := by decide +kernel
theorem dX7_who_67 : decode cX7_who 67 = .ok (.if_icmp .eq 27, 3) := by decide +kernel
theorem dX7_who_70 : decode cX7_who 70 = .ok (.iload 6, 2) := by decide +kernel
theorem dX7_who_72 : decode cX7_who 72 = .ok (.aload_n 0, 1) := by decide +kernel
theorem dX7_who_73 : decode cX7_who 73 = .ok (.getfield 34, 3) := by decide +kernel
theorem dX7_who_76 : decode cX7_who 76 = .ok (.getfield 201, 3) := by decide +kernel
theorem dX7_who_79 : decode cX7_who 79 = .ok (.iload 5, 2) := by decide +kernel
theorem dX7_who_81 : decode cX7_who 81 = .ok (.iaload, 1) := by decide +kernel
theorem dX7_who_82 : decode cX7_who 82 = .ok (.if_icmp .gt 12, 3) := by decide +kernel
theorem dX7_who_85 : decode cX7_who 85 = .ok (.iload 4, 2) := by decide +kernel
theorem dX7_who_87 : decode cX7_who 87 = .ok (.iconst 1, 1) := by decide +kernel
theorem dX7_who_88 : decode cX7_who 88 = .ok (.iload 5, 2) := by decide +kernel
theorem dX7_who_90 : decode cX7_who 90 = .ok (.ishl, 1) := by decide +kernel
theorem dX7_who_91 : decode cX7_who 91 = .ok (.ior, 1) := by decide +kernel
theorem dX7_who_92 : decode cX7_who 92 = .ok (.istore 4, 2) := by decide +kernel
theorem dX7_who_94 : decode cX7_who 94 = .ok (.iinc 5 1, 3) := by decide +kernel
theorem dX7_who_97 : decode cX7_who 97 = .ok (.goto (-63), 3) := by decide +kernel
theorem dX7_who_100 : decode cX7_who 100 = .ok (.iload 4, 2) := by decide +kernel
theorem dX7_who_102 : decode cX7_who 102 = .ok (.ireturn, 1) := by decide +kernel
theorem dX7_kinds_0 : decode cX7_kinds 0 = .ok (.aload_n 0, 1) := by decide +kernel
theorem dX7_kinds_1 : decode cX7_kinds 1 = .ok (.iload_n 2, 1) := by decide +kernel
theorem dX7_kinds_2 : decode cX7_kinds 2 = .ok (.invokevirtual 89, 3) := by decide +kernel
theorem dX7_kinds_5 : decode cX7_kinds 5 = .ok (.astore_n 3, 1) := by decide +kernel
theorem dX7_kinds_6 : decode cX7_kinds 6 = .ok (.aload_n 0, 1) := by decide +kernel
theorem dX7_kinds_7 : decode cX7_kinds 7 = .ok (.getfield 24, 3) := by decide +kernel
theorem dX7_kinds_10 : decode cX7_kinds 10 = .ok (.iload_n 1, 1) := by decide +kernel
theorem dX7_kinds_11 : decode cX7_kinds 11 = .ok (.invokevirtual 151, 3) := by decide +kernel
theorem dX7_kinds_14 : decode cX7_kinds 14 = .ok (.ifCond .eq 7, 3) := by decide +kernel
theorem dX7_kinds_17 : decode cX7_kinds 17 = .ok (.aload_n 3, 1) := by decide +kernel
theorem dX7_kinds_18 : decode cX7_kinds 18 = .ok (.ifnonnull 5, 3) := by decide +kernel
theorem dX7_kinds_21 : decode cX7_kinds 21 = .ok (.iconst (-1), 1) := by decide +kernel
theorem dX7_kinds_22 : decode cX7_kinds 22 = .ok (.ireturn, 1) := by decide +kernel
theorem dX7_kinds_23 : decode cX7_kinds 23 = .ok (.aload_n 0, 1) := by decide +kernel
theorem dX7_kinds_24 : decode cX7_kinds 24 = .ok (.aload_n 3, 1) := by decide +kernel
theorem dX7_kinds_25 : decode cX7_kinds 25 = .ok (.invokevirtual 268, 3) := by decide +kernel
theorem dX7_kinds_28 : decode cX7_kinds 28 = .ok (.istore 4, 2) := by decide +kernel
theorem dX7_kinds_30 : decode cX7_kinds 30 = .ok (.iload 4, 2) := by decide +kernel
theorem dX7_kinds_32 : decode cX7_kinds 32 = .ok (.ifCond .eq 10, 3) := by decide +kernel
theorem dX7_kinds_35 : decode cX7_kinds 35 = .ok (.aload_n 0, 1) := by decide +kernel
theorem dX7_kinds_36 : decode cX7_kinds 36 = .ok (.iload 4, 2) := by decide +kernel
theorem dX7_kinds_38 : decode cX7_kinds 38 = .ok (.invokevirtual 93, 3) := by decide +kernel
theorem dX7_kinds_41 : decode cX7_kinds 41 = .ok (.ireturn, 1) := by decide +kernel
theorem dX7_kinds_42 : decode cX7_kinds 42 = .ok (.iconst 0, 1) := by decide +kernel
theorem dX7_kinds_43 : decode cX7_kinds 43 = .ok (.istore 5, 2) := by decide +kernel
theorem dX7_kinds_45 : decode cX7_kinds 45 = .ok (.iconst 0, 1) := by decide +kernel
theorem dX7_kinds_46 : decode cX7_kinds 46 = .ok (.istore 6, 2) := by decide +kernel
theorem dX7_kinds_48 : decode cX7_kinds 48 = .ok (.iload 6, 2) := by decide +kernel
theorem dX7_kinds_50 : decode cX7_kinds 50 = .ok (.iconst 5, 1) := by decide +kernel
theorem dX7_kinds_51 : decode cX7_kinds 51 = .ok (.if_icmp .gt 48, 3) := by decide +kernel
theorem dX7_kinds_54 : decode cX7_kinds 54 = .ok (.aload_n 0, 1) := by decide +kernel
theorem dX7_kinds_55 : decode cX7_kinds 55 = .ok (.aload_n 3, 1) := by decide +kernel
theorem dX7_kinds_56 : decode cX7_kinds 56 = .ok (.iload 6, 2) := by decide +kernel
theorem dX7_kinds_58 : decode cX7_kinds 58 = .ok (.invokevirtual 272, 3) := by decide +kernel
theorem dX7_kinds_61 : decode cX7_kinds 61 = .ok (.istore 7, 2) := by decide +kernel
theorem dX7_kinds_63 : decode cX7_kinds 63 = .ok (.iload 7, 2) := by decide +kernel
theorem dX7_kinds_65 : decode cX7_kinds 65 = .ok (.bipush (-9), 2) := by decide +kernel
theorem dX7_kinds_67 : decode cX7_kinds 67 = .ok (.if_icmp .eq 26, 3) := by decide +kernel
theorem dX7_kinds_70 : decode cX7_kinds 70 = .ok (.iload 7, 2) := by decide +kernel
theorem dX7_kinds_72 : decode cX7_kinds 72 = .ok (.aload_n 0, 1) := by decide +kernel
theorem dX7_kinds_73 : decode cX7_kinds 73 = .ok (.getfield 34, 3) := by decide +kernel
theorem dX7_kinds_76 : decode cX7_kinds 76 = .ok (.getfield 201, 3) := by decide +kernel
theorem dX7_kinds_79 : decode cX7_kinds 79 = .ok (.iload_n 1, 1) := by decide +kernel
theorem dX7_kinds_80 : decode cX7_kinds 80 = .ok (.iaload, 1) := by decide +kernel
theorem dX7_kinds_81 : decode cX7_kinds 81 = .ok (.if_icmp .gt 12, 3) := by decide +kernel
theorem dX7_kinds_84 : decode cX7_kinds 84 = .ok (.iload 5, 2) := by decide +kernel
theorem dX7_kinds_86 : decode cX7_kinds 86 = .ok (.iconst 1, 1) := by decide +kernel
theorem dX7_kinds_87 : decode cX7_kinds 87 = .ok (.iload 6, 2) := by decide +kernel
theorem dX7_kinds_89 : decode cX7_kinds 89 = .ok (.ishl, 1) := by decide +kernel
theorem dX7_kinds_90 : decode cX7_kinds 90 = .ok (.ior, 1) := by decide +kernel
theorem dX7_kinds_91 : decode cX7_kinds 91 = .ok (.istore 5, 2) := by decide +kernel
theorem dX7_kinds_93 : decode cX7_kinds 93 = .ok (.iinc 6 1, 3) := by decide +kernel
theorem dX7_kinds_96 : decode cX7_kinds 96 = .ok (.goto (-48), 3) := by decide +kernel
theorem dX7_kinds_99 : decode cX7_kinds 99 = .ok (.iload 5, 2) := by decide +kernel
theorem dX7_kinds_101 : decode cX7_kinds 101 = .ok (.ireturn, 1) := by decide +kernel
theorem dX7_breaths_0 : decode cX7_breaths 0 = .ok (.aload_n 0, 1) := by decide +kernel
theorem dX7_breaths_1 : decode cX7_breaths 1 = .ok (.iload_n 2, 1) := by decide +kernel
theorem dX7_breaths_2 : decode cX7_breaths 2 = .ok (.invokevirtual 89, 3) := by decide +kernel
theorem dX7_breaths_5 : decode cX7_breaths 5 = .ok (.astore_n 3, 1) := by decide +kernel
theorem dX7_breaths_6 : decode cX7_breaths 6 = .ok (.aload_n 0, 1) := by decide +kernel
theorem dX7_breaths_7 : decode cX7_breaths 7 = .ok (.getfield 24, 3) := by decide +kernel
theorem dX7_breaths_10 : decode cX7_breaths 10 = .ok (.iload_n 1, 1) := by decide +kernel
theorem dX7_breaths_11 : decode cX7_breaths 11 = .ok (.invokevirtual 151, 3) := by decide +kernel
theorem dX7_breaths_14 : decode cX7_breaths 14 = .ok (.ifCond .eq 7, 3) := by decide +kernel
theorem dX7_breaths_17 : decode cX7_breaths 17 = .ok (.aload_n 3, 1) := by decide +kernel
theorem dX7_breaths_18 : decode cX7_breaths 18 = .ok (.ifnonnull 5, 3) := by decide +kernel
theorem dX7_breaths_21 : decode cX7_breaths 21 = .ok (.iconst (-1), 1) := by decide +kernel
theorem dX7_breaths_22 : decode cX7_breaths 22 = .ok (.ireturn, 1) := by decide +kernel
theorem dX7_breaths_23 : decode cX7_breaths 23 = .ok (.aload_n 0, 1) := by decide +kernel
theorem dX7_breaths_24 : decode cX7_breaths 24 = .ok (.aload_n 3, 1) := by decide +kernel
theorem dX7_breaths_25 : decode cX7_breaths 25 = .ok (.invokevirtual 268, 3) := by decide +kernel
theorem dX7_breaths_28 : decode cX7_breaths 28 = .ok (.istore 4, 2) := by decide +kernel
theorem dX7_breaths_30 : decode cX7_breaths 30 = .ok (.iload 4, 2) := by decide +kernel
theorem dX7_breaths_32 : decode cX7_breaths 32 = .ok (.ifCond .eq 10, 3) := by decide +kernel
theorem dX7_breaths_35 : decode cX7_breaths 35 = .ok (.aload_n 0, 1) := by decide +kernel
theorem dX7_breaths_36 : decode cX7_breaths 36 = .ok (.iload 4, 2) := by decide +kernel
theorem dX7_breaths_38 : decode cX7_breaths 38 = .ok (.invokevirtual 93, 3) := by decide +kernel
theorem dX7_breaths_41 : decode cX7_breaths 41 = .ok (.ireturn, 1) := by decide +kernel
theorem dX7_breaths_42 : decode cX7_breaths 42 = .ok (.aload_n 0, 1) := by decide +kernel
theorem dX7_breaths_43 : decode cX7_breaths 43 = .ok (.aload_n 3, 1) := by decide +kernel
theorem dX7_breaths_44 : decode cX7_breaths 44 = .ok (.aload_n 0, 1) := by decide +kernel
theorem dX7_breaths_45 : decode cX7_breaths 45 = .ok (.getfield 24, 3) := by decide +kernel
theorem dX7_breaths_48 : decode cX7_breaths 48 = .ok (.getfield 164, 3) := by decide +kernel
theorem dX7_breaths_51 : decode cX7_breaths 51 = .ok (.iload_n 1, 1) := by decide +kernel
theorem dX7_breaths_52 : decode cX7_breaths 52 = .ok (.iaload, 1) := by decide +kernel
theorem dX7_breaths_53 : decode cX7_breaths 53 = .ok (.invokevirtual 272, 3) := by decide +kernel
theorem dX7_breaths_56 : decode cX7_breaths 56 = .ok (.istore 5, 2) := by decide +kernel
theorem dX7_breaths_58 : decode cX7_breaths 58 = .ok (.iload 5, 2) := by decide +kernel
theorem dX7_breaths_60 : decode cX7_breaths 60 = .ok (.bipush (-9), 2) := by decide +kernel
theorem dX7_breaths_62 : decode cX7_breaths 62 = .ok (.if_icmp .ne 5, 3) := by decide +kernel
theorem dX7_breaths_65 : decode cX7_breaths 65 = .ok (.iconst 0, 1) := by decide +kernel
theorem dX7_breaths_66 : decode cX7_breaths 66 = .ok (.ireturn, 1) := by decide +kernel
theorem dX7_breaths_67 : decode cX7_breaths 67 = .ok (.iconst 0, 1) := by decide +kernel
theorem dX7_breaths_68 : decode cX7_breaths 68 = .ok (.istore 6, 2) := by decide +kernel
theorem dX7_breaths_70 : decode cX7_breaths 70 = .ok (.iload 5, 2) := by decide +kernel
theorem dX7_breaths_72 : decode cX7_breaths 72 = .ok (.istore 7, 2) := by decide +kernel
theorem dX7_breaths_74 : decode cX7_breaths 74 = .ok (.iload 7, 2) := by decide +kernel
theorem dX7_breaths_76 : decode cX7_breaths 76 = .ok (.bipush 9, 2) := by decide +kernel
theorem dX7_breaths_78 : decode cX7_breaths 78 = .ok (.if_icmp .gt 18, 3) := by decide +kernel
theorem dX7_breaths_81 : decode cX7_breaths 81 = .ok (.iload 6, 2) := by decide +kernel
theorem dX7_breaths_83 : decode cX7_breaths 83 = .ok (.iconst 1, 1) := by decide +kernel
theorem dX7_breaths_84 : decode cX7_breaths 84 = .ok (.iload 7, 2) := by decide +kernel
theorem dX7_breaths_86 : decode cX7_breaths 86 = .ok (.ishl, 1) := by decide +kernel
theorem dX7_breaths_87 : decode cX7_breaths 87 = .ok (.ior, 1) := by decide +kernel
theorem dX7_breaths_88 : decode cX7_breaths 88 = .ok (.istore 6, 2) := by decide +kernel
theorem dX7_breaths_90 : decode cX7_breaths 90 = .ok (.iinc 7 1, 3) := by decide +kernel
theorem dX7_breaths_93 : decode cX7_breaths 93 = .ok (.goto (-19), 3) := by decide +kernel
theorem dX7_breaths_96 : decode cX7_breaths 96 = .ok (.iload 6, 2) := by decide +kernel
theorem dX7_breaths_98 : decode cX7_breaths 98 = .ok (.ireturn, 1) := by decide +kernel
theorem dX7_strike_0 : decode cX7_strike 0 = .ok (.iload_n 1, 1) := by decide +kernel
theorem dX7_strike_1 : decode cX7_strike 1 = .ok (.ifCond .lt 8, 3) := by decide +kernel
theorem dX7_strike_4 : decode cX7_strike 4 = .ok (.iload_n 1, 1) := by decide +kernel
theorem dX7_strike_5 : decode cX7_strike 5 = .ok (.iconst 2, 1) := by decide +kernel
theorem dX7_strike_6 : decode cX7_strike 6 = .ok (.if_icmp .le 5, 3) := by decide +kernel
theorem dX7_strike_9 : decode cX7_strike 9 = .ok (.iconst (-1), 1) := by decide +kernel
theorem dX7_strike_10 : decode cX7_strike 10 = .ok (.ireturn, 1) := by decide +kernel
theorem dX7_strike_11 : decode cX7_strike 11 = .ok (.aload_n 0, 1) := by decide +kernel
theorem dX7_strike_12 : decode cX7_strike 12 = .ok (.getfield 24, 3) := by decide +kernel
theorem dX7_strike_15 : decode cX7_strike 15 = .ok (.getfield 214, 3) := by decide +kernel
theorem dX7_strike_18 : decode cX7_strike 18 = .ok (.ifCond .ne 6, 3) := by decide +kernel
theorem dX7_strike_21 : decode cX7_strike 21 = .ok (.bipush (-4), 2) := by decide +kernel
theorem dX7_strike_23 : decode cX7_strike 23 = .ok (.ireturn, 1) := by decide +kernel
theorem dX7_strike_24 : decode cX7_strike 24 = .ok (.aload_n 0, 1) := by decide +kernel
theorem dX7_strike_25 : decode cX7_strike 25 = .ok (.getfield 38, 3) := by decide +kernel
theorem dX7_strike_28 : decode cX7_strike 28 = .ok (.aload_n 0, 1) := by decide +kernel
theorem dX7_strike_29 : decode cX7_strike 29 = .ok (.getfield 34, 3) := by decide +kernel
theorem dX7_strike_32 : decode cX7_strike 32 = .ok (.invokevirtual 276, 3) := by decide +kernel
theorem dX7_strike_35 : decode cX7_strike 35 = .ok (.aload_n 0, 1) := by decide +kernel
theorem dX7_strike_36 : decode cX7_strike 36 = .ok (.iload_n 1, 1) := by decide +kernel
theorem dX7_strike_37 : decode cX7_strike 37 = .ok (.invokevirtual 279, 3) := by decide +kernel
theorem dX7_strike_40 : decode cX7_strike 40 = .ok (.ireturn, 1) := by decide +kernel
theorem dX7_odds_0 : decode cX7_odds 0 = .ok (.iload_n 1, 1) := by decide +kernel
theorem dX7_odds_1 : decode cX7_odds 1 = .ok (.ifCond .lt 19, 3) := by decide +kernel
theorem dX7_odds_4 : decode cX7_odds 4 = .ok (.iload_n 1, 1) := by decide +kernel
theorem dX7_odds_5 : decode cX7_odds 5 = .ok (.bipush 66, 2) := by decide +kernel
theorem dX7_odds_7 : decode cX7_odds 7 = .ok (.if_icmp .gt 13, 3) := by decide +kernel
theorem dX7_odds_10 : decode cX7_odds 10 = .ok (.iload_n 2, 1) := by decide +kernel
theorem dX7_odds_11 : decode cX7_odds 11 = .ok (.ifCond .lt 9, 3) := by decide +kernel
theorem dX7_odds_14 : decode cX7_odds 14 = .ok (.iload_n 2, 1) := by decide +kernel
theorem dX7_odds_15 : decode cX7_odds 15 = .ok (.bipush 12, 2) := by decide +kernel
theorem dX7_odds_17 : decode cX7_odds 17 = .ok (.if_icmp .le 5, 3) := by decide +kernel
theorem dX7_odds_20 : decode cX7_odds 20 = .ok (.iconst (-1), 1) := by decide +kernel
theorem dX7_odds_21 : decode cX7_odds 21 = .ok (.ireturn, 1) := by decide +kernel
theorem dX7_odds_22 : decode cX7_odds 22 = .ok (.aload_n 0, 1) := by decide +kernel
theorem dX7_odds_23 : decode cX7_odds 23 = .ok (.getfield 24, 3) := by decide +kernel
theorem dX7_odds_26 : decode cX7_odds 26 = .ok (.getfield 214, 3) := by decide +kernel
theorem dX7_odds_29 : decode cX7_odds 29 = .ok (.ifCond .ne 6, 3) := by decide +kernel
theorem dX7_odds_32 : decode cX7_odds 32 = .ok (.bipush (-4), 2) := by decide +kernel
theorem dX7_odds_34 : decode cX7_odds 34 = .ok (.ireturn, 1) := by decide +kernel
theorem dX7_odds_35 : decode cX7_odds 35 = .ok (.lconst 0, 1) := by decide +kernel
theorem dX7_odds_36 : decode cX7_odds 36 = .ok (.lstore_n 3, 1) := by decide +kernel
theorem dX7_odds_37 : decode cX7_odds 37 = .ok (.iconst 0, 1) := by decide +kernel
theorem dX7_odds_38 : decode cX7_odds 38 = .ok (.istore 5, 2) := by decide +kernel
theorem dX7_odds_40 : decode cX7_odds 40 = .ok (.iload 5, 2) := by decide +kernel
theorem dX7_odds_42 : decode cX7_odds 42 = .ok (.iconst 1, 1) := by decide +kernel
theorem dX7_odds_43 : decode cX7_odds 43 = .ok (.aload_n 0, 1) := by decide +kernel
theorem dX7_odds_44 : decode cX7_odds 44 = .ok (.getfield 24, 3) := by decide +kernel
theorem dX7_odds_47 : decode cX7_odds 47 = .ok (.getfield 148, 3) := by decide +kernel
theorem dX7_odds_50 : decode cX7_odds 50 = .ok (.ishl, 1) := by decide +kernel
theorem dX7_odds_51 : decode cX7_odds 51 = .ok (.if_icmp .ge 42, 3) := by decide +kernel
theorem dX7_odds_54 : decode cX7_odds 54 = .ok (.iload 5, 2) := by decide +kernel
theorem dX7_odds_56 : decode cX7_odds 56 = .ok (.aload_n 0, 1) := by decide +kernel
theorem dX7_odds_57 : decode cX7_odds 57 = .ok (.getfield 34, 3) := by decide +kernel
theorem dX7_odds_60 : decode cX7_odds 60 = .ok (.getfield 228, 3) := by decide +kernel
theorem dX7_odds_63 : decode cX7_odds 63 = .ok (.iand, 1) := by decide +kernel
theorem dX7_odds_64 : decode cX7_odds 64 = .ok (.ifCond .ne 23, 3) := by decide +kernel
theorem dX7_odds_67 : decode cX7_odds 67 = .ok (.aload_n 0, 1) := by decide +kernel
theorem dX7_odds_68 : decode cX7_odds 68 = .ok (.iload 5, 2) := by decide +kernel
theorem dX7_odds_70 : decode cX7_odds 70 = .ok (.invokevirtual 236, 3) := by decide +kernel
theorem dX7_odds_73 : decode cX7_odds 73 = .ok (.iload_n 1, 1) := by decide +kernel
theorem dX7_odds_74 : decode cX7_odds 74 = .ok (.if_icmp .lt 13, 3) := by decide +kernel
theorem dX7_odds_77 : decode cX7_odds 77 = .ok (.lload_n 3, 1) := by decide +kernel
theorem dX7_odds_78 : decode cX7_odds 78 = .ok (.aload_n 0, 1) := by decide +kernel
theorem dX7_odds_79 : decode cX7_odds 79 = .ok (.iload 5, 2) := by decide +kernel
theorem dX7_odds_81 : decode cX7_odds 81 = .ok (.iload_n 2, 1) := by decide +kernel
theorem dX7_odds_82 : decode cX7_odds 82 = .ok (.invokevirtual 282, 3) := by decide +kernel
theorem dX7_odds_85 : decode cX7_odds 85 = .ok (.ladd, 1) := by decide +kernel
theorem dX7_odds_86 : decode cX7_odds 86 = .ok (.lstore_n 3, 1) := by decide +kernel
theorem dX7_odds_87 : decode cX7_odds 87 = .ok (.iinc 5 1, 3) := by decide +kernel
theorem dX7_odds_90 : decode cX7_odds 90 = .ok (.goto (-50), 3) := by decide +kernel
theorem dX7_odds_93 : decode cX7_odds 93 = .ok (.aload_n 0, 1) := by decide +kernel
theorem dX7_odds_94 : decode cX7_odds 94 = .ok (.lload_n 3, 1) := by decide +kernel
theorem dX7_odds_95 : decode cX7_odds 95 = .ok (.aload_n 0, 1) := by decide +kernel
theorem dX7_odds_96 : decode cX7_odds 96 = .ok (.invokevirtual 286, 3) := by decide +kernel
theorem dX7_odds_99 : decode cX7_odds 99 = .ok (.invokevirtual 289, 3) := by decide +kernel
theorem dX7_odds_102 : decode cX7_odds 102 = .ok (.iconst 1, 1) := by decide +kernel
theorem dX7_odds_103 : decode cX7_odds 103 = .ok (.ireturn, 1) := by decide +kernel
theorem dX7_mid_0 : decode cX7_mid 0 = .ok (.iload_n 1, 1) := by decide +kernel
theorem dX7_mid_1 : decode cX7_mid 1 = .ok (.ifCond .lt 9, 3) := by decide +kernel
theorem dX7_mid_4 : decode cX7_mid 4 = .ok (.iload_n 1, 1) := by decide +kernel
theorem dX7_mid_5 : decode cX7_mid 5 = .ok (.bipush 12, 2) := by decide +kernel
theorem dX7_mid_7 : decode cX7_mid 7 = .ok (.if_icmp .le 5, 3) := by decide +kernel
theorem dX7_mid_10 : decode cX7_mid 10 = .ok (.iconst (-1), 1) := by decide +kernel
theorem dX7_mid_11 : decode cX7_mid 11 = .ok (.ireturn, 1) := by decide +kernel
theorem dX7_mid_12 : decode cX7_mid 12 = .ok (.aload_n 0, 1) := by decide +kernel
theorem dX7_mid_13 : decode cX7_mid 13 = .ok (.getfield 24, 3) := by decide +kernel
theorem dX7_mid_16 : decode cX7_mid 16 = .ok (.getfield 214, 3) := by decide +kernel
theorem dX7_mid_19 : decode cX7_mid 19 = .ok (.ifCond .ne 6, 3) := by decide +kernel
theorem dX7_mid_22 : decode cX7_mid 22 = .ok (.bipush (-4), 2) := by decide +kernel
theorem dX7_mid_24 : decode cX7_mid 24 = .ok (.ireturn, 1) := by decide +kernel
theorem dX7_mid_25 : decode cX7_mid 25 = .ok (.lconst 0, 1) := by decide +kernel
theorem dX7_mid_26 : decode cX7_mid 26 = .ok (.lstore_n 2, 1) := by decide +kernel
theorem dX7_mid_27 : decode cX7_mid 27 = .ok (.iconst 0, 1) := by decide +kernel
theorem dX7_mid_28 : decode cX7_mid 28 = .ok (.istore 4, 2) := by decide +kernel
theorem dX7_mid_30 : decode cX7_mid 30 = .ok (.iload 4, 2) := by decide +kernel
theorem dX7_mid_32 : decode cX7_mid 32 = .ok (.iconst 1, 1) := by decide +kernel
theorem dX7_mid_33 : decode cX7_mid 33 = .ok (.aload_n 0, 1) := by decide +kernel
theorem dX7_mid_34 : decode cX7_mid 34 = .ok (.getfield 24, 3) := by decide +kernel
theorem dX7_mid_37 : decode cX7_mid 37 = .ok (.getfield 148, 3) := by decide +kernel
theorem dX7_mid_40 : decode cX7_mid 40 = .ok (.ishl, 1) := by decide +kernel
theorem dX7_mid_41 : decode cX7_mid 41 = .ok (.if_icmp .ge 40, 3) := by decide +kernel
theorem dX7_mid_44 : decode cX7_mid 44 = .ok (.iload 4, 2) := by decide +kernel
theorem dX7_mid_46 : decode cX7_mid 46 = .ok (.aload_n 0, 1) := by decide +kernel
theorem dX7_mid_47 : decode cX7_mid 47 = .ok (.getfield 34, 3) := by decide +kernel
theorem dX7_mid_50 : decode cX7_mid 50 = .ok (.getfield 228, 3) := by decide +kernel
theorem dX7_mid_53 : decode cX7_mid 53 = .ok (.iand, 1) := by decide +kernel
theorem dX7_mid_54 : decode cX7_mid 54 = .ok (.ifCond .ne 21, 3) := by decide +kernel
theorem dX7_mid_57 : decode cX7_mid 57 = .ok (.lload_n 2, 1) := by decide +kernel
theorem dX7_mid_58 : decode cX7_mid 58 = .ok (.aload_n 0, 1) := by decide +kernel
theorem dX7_mid_59 : decode cX7_mid 59 = .ok (.iload 4, 2) := by decide +kernel
theorem dX7_mid_61 : decode cX7_mid 61 = .ok (.iload_n 1, 1) := by decide +kernel
theorem dX7_mid_62 : decode cX7_mid 62 = .ok (.invokevirtual 282, 3) := by decide +kernel
theorem dX7_mid_65 : decode cX7_mid 65 = .ok (.aload_n 0, 1) := by decide +kernel
theorem dX7_mid_66 : decode cX7_mid 66 = .ok (.iload 4, 2) := by decide +kernel
theorem dX7_mid_68 : decode cX7_mid 68 = .ok (.invokevirtual 236, 3) := by decide +kernel
theorem dX7_mid_71 : decode cX7_mid 71 = .ok (.i2l, 1) := by decide +kernel
theorem dX7_mid_72 : decode cX7_mid 72 = .ok (.lmul, 1) := by decide +kernel
theorem dX7_mid_73 : decode cX7_mid 73 = .ok (.ladd, 1) := by decide +kernel
theorem dX7_mid_74 : decode cX7_mid 74 = .ok (.lstore_n 2, 1) := by decide +kernel
theorem dX7_mid_75 : decode cX7_mid 75 = .ok (.iinc 4 1, 3) := by decide +kernel
theorem dX7_mid_78 : decode cX7_mid 78 = .ok (.goto (-48), 3) := by decide +kernel
theorem dX7_mid_81 : decode cX7_mid 81 = .ok (.aload_n 0, 1) := by decide +kernel
theorem dX7_mid_82 : decode cX7_mid 82 = .ok (.lload_n 2, 1) := by decide +kernel
theorem dX7_mid_83 : decode cX7_mid 83 = .ok (.aload_n 0, 1) := by decide +kernel
theorem dX7_mid_84 : decode cX7_mid 84 = .ok (.invokevirtual 286, 3) := by decide +kernel
theorem dX7_mid_87 : decode cX7_mid 87 = .ok (.invokevirtual 289, 3) := by decide +kernel
theorem dX7_mid_90 : decode cX7_mid 90 = .ok (.iconst 1, 1) := by decide +kernel
theorem dX7_mid_91 : decode cX7_mid 91 = .ok (.ireturn, 1) := by decide +kernel
theorem dX7_lots_0 : decode cX7_lots 0 = .ok (.iload_n 1, 1) := by decide +kernel
theorem dX7_lots_1 : decode cX7_lots 1 = .ok (.iconst 1, 1) := by decide +kernel
theorem dX7_lots_2 : decode cX7_lots 2 = .ok (.if_icmp .lt 23, 3) := by decide +kernel
theorem dX7_lots_5 : decode cX7_lots 5 = .ok (.iload_n 1, 1) := by decide +kernel
theorem dX7_lots_6 : decode cX7_lots 6 = .ok (.bipush 20, 2) := by decide +kernel
theorem dX7_lots_8 : decode cX7_lots 8 = .ok (.if_icmp .gt 17, 3) := by decide +kernel
theorem dX7_lots_11 : decode cX7_lots 11 = .ok (.iload_n 2, 1) := by decide +kernel
theorem dX7_lots_12 : decode cX7_lots 12 = .ok (.iconst 1, 1) := by decide +kernel
theorem dX7_lots_13 : decode cX7_lots 13 = .ok (.if_icmp .lt 12, 3) := by decide +kernel
theorem dX7_lots_16 : decode cX7_lots 16 = .ok (.iload_n 2, 1) := by decide +kernel
theorem dX7_lots_17 : decode cX7_lots 17 = .ok (.i2l, 1) := by decide +kernel
theorem dX7_lots_18 : decode cX7_lots 18 = .ok (.ldc2_w 293, 3) := by decide +kernel
theorem dX7_lots_21 : decode cX7_lots 21 = .ok (.lcmp, 1) := by decide +kernel
theorem dX7_lots_22 : decode cX7_lots 22 = .ok (.ifCond .lt 5, 3) := by decide +kernel
theorem dX7_lots_25 : decode cX7_lots 25 = .ok (.iconst (-1), 1) := by decide +kernel
theorem dX7_lots_26 : decode cX7_lots 26 = .ok (.ireturn, 1) := by decide +kernel
theorem dX7_lots_27 : decode cX7_lots 27 = .ok (.aload_n 0, 1) := by decide +kernel
theorem dX7_lots_28 : decode cX7_lots 28 = .ok (.getfield 24, 3) := by decide +kernel
theorem dX7_lots_31 : decode cX7_lots 31 = .ok (.getfield 214, 3) := by decide +kernel
theorem dX7_lots_34 : decode cX7_lots 34 = .ok (.ifCond .ne 6, 3) := by decide +kernel
theorem dX7_lots_37 : decode cX7_lots 37 = .ok (.bipush (-4), 2) := by decide +kernel
theorem dX7_lots_39 : decode cX7_lots 39 = .ok (.ireturn, 1) := by decide +kernel
theorem dX7_lots_40 : decode cX7_lots 40 = .ok (.aload_n 0, 1) := by decide +kernel
theorem dX7_lots_41 : decode cX7_lots 41 = .ok (.getfield 44, 3) := by decide +kernel
theorem dX7_lots_44 : decode cX7_lots 44 = .ok (.iload_n 1, 1) := by decide +kernel
theorem dX7_lots_45 : decode cX7_lots 45 = .ok (.invokevirtual 185, 3) := by decide +kernel
theorem dX7_lots_48 : decode cX7_lots 48 = .ok (.ifCond .eq 6, 3) := by decide +kernel
theorem dX7_lots_51 : decode cX7_lots 51 = .ok (.bipush (-2), 2) := by decide +kernel
theorem dX7_lots_53 : decode cX7_lots 53 = .ok (.ireturn, 1) := by decide +kernel
theorem dX7_lots_54 : decode cX7_lots 54 = .ok (.iload_n 2, 1) := by decide +kernel
theorem dX7_lots_55 : decode cX7_lots 55 = .ok (.i2l, 1) := by decide +kernel
theorem dX7_lots_56 : decode cX7_lots 56 = .ok (.lstore_n 3, 1) := by decide +kernel
theorem dX7_lots_57 : decode cX7_lots 57 = .ok (.iconst 0, 1) := by decide +kernel
theorem dX7_lots_58 : decode cX7_lots 58 = .ok (.istore 5, 2) := by decide +kernel
theorem dX7_lots_60 : decode cX7_lots 60 = .ok (.iload 5, 2) := by decide +kernel
theorem dX7_lots_62 : decode cX7_lots 62 = .ok (.iload_n 1, 1) := by decide +kernel
theorem dX7_lots_63 : decode cX7_lots 63 = .ok (.if_icmp .ge 25, 3) := by decide +kernel
theorem dX7_lots_66 : decode cX7_lots 66 = .ok (.lload_n 3, 1) := by decide +kernel
theorem dX7_lots_67 : decode cX7_lots 67 = .ok (.ldc2_w 295, 3) := by decide +kernel
theorem dX7_lots_70 : decode cX7_lots 70 = .ok (.lmul, 1) := by decide +kernel
theorem dX7_lots_71 : decode cX7_lots 71 = .ok (.ldc2_w 293, 3) := by decide +kernel
theorem dX7_lots_74 : decode cX7_lots 74 = .ok (.lrem, 1) := by decide +kernel
theorem dX7_lots_75 : decode cX7_lots 75 = .ok (.lstore_n 3, 1) := by decide +kernel
theorem dX7_lots_76 : decode cX7_lots 76 = .ok (.aload_n 0, 1) := by decide +kernel
theorem dX7_lots_77 : decode cX7_lots 77 = .ok (.lload_n 3, 1) := by decide +kernel
theorem dX7_lots_78 : decode cX7_lots 78 = .ok (.l2i, 1) := by decide +kernel
theorem dX7_lots_79 : decode cX7_lots 79 = .ok (.invokevirtual 297, 3) := by decide +kernel
theorem dX7_lots_82 : decode cX7_lots 82 = .ok (.iinc 5 1, 3) := by decide +kernel
theorem dX7_lots_85 : decode cX7_lots 85 = .ok (.goto (-25), 3) := by decide +kernel
theorem dX7_lots_88 : decode cX7_lots 88 = .ok (.aload_n 0, 1) := by decide +kernel
theorem dX7_lots_89 : decode cX7_lots 89 = .ok (.getfield 34, 3) := by decide +kernel
theorem dX7_lots_92 : decode cX7_lots 92 = .ok (.getfield 204, 3) := by decide +kernel
theorem dX7_lots_95 : decode cX7_lots 95 = .ok (.ireturn, 1) := by decide +kernel
theorem dX7_asked_0 : decode cX7_asked 0 = .ok (.aload_n 0, 1) := by decide +kernel
theorem dX7_asked_1 : decode cX7_asked 1 = .ok (.getfield 66, 3) := by decide +kernel
theorem dX7_asked_4 : decode cX7_asked 4 = .ok (.ireturn, 1) := by decide +kernel
theorem dX7_upper_0 : decode cX7_upper 0 = .ok (.aload_n 0, 1) := by decide +kernel
theorem dX7_upper_1 : decode cX7_upper 1 = .ok (.getfield 70, 3) := by decide +kernel
theorem dX7_upper_4 : decode cX7_upper 4 = .ok (.lreturn, 1) := by decide +kernel
theorem dX7_lower_0 : decode cX7_lower 0 = .ok (.aload_n 0, 1) := by decide +kernel
theorem dX7_lower_1 : decode cX7_lower 1 = .ok (.getfield 74, 3) := by decide +kernel
theorem dX7_lower_4 : decode cX7_lower 4 = .ok (.lreturn, 1) := by decide +kernel
theorem dX7_count_0 : decode cX7_count 0 = .ok (.iload_n 1, 1) := by decide +kernel
theorem dX7_count_1 : decode cX7_count 1 = .ok (.ifCond .lt 9, 3) := by decide +kernel
theorem dX7_count_4 : decode cX7_count 4 = .ok (.iload_n 1, 1) := by decide +kernel
theorem dX7_count_5 : decode cX7_count 5 = .ok (.bipush 11, 2) := by decide +kernel
theorem dX7_count_7 : decode cX7_count 7 = .ok (.if_icmp .lt 5, 3) := by decide +kernel
theorem dX7_count_10 : decode cX7_count 10 = .ok (.iconst (-1), 1) := by decide +kernel
theorem dX7_count_11 : decode cX7_count 11 = .ok (.ireturn, 1) := by decide +kernel
theorem dX7_count_12 : decode cX7_count 12 = .ok (.aload_n 0, 1) := by decide +kernel
theorem dX7_count_13 : decode cX7_count 13 = .ok (.iload_n 1, 1) := by decide +kernel
theorem dX7_count_14 : decode cX7_count 14 = .ok (.invokevirtual 300, 3) := by decide +kernel
theorem dX7_count_17 : decode cX7_count 17 = .ok (.ireturn, 1) := by decide +kernel
theorem dX7_finding_0 : decode cX7_finding 0 = .ok (.aload_n 0, 1) := by decide +kernel
theorem dX7_finding_1 : decode cX7_finding 1 = .ok (.getfield 77, 3) := by decide +kernel
theorem dX7_finding_4 : decode cX7_finding 4 = .ok (.ireturn, 1) := by decide +kernel
theorem dX7_findings_0 : decode cX7_findings 0 = .ok (.iload_n 1, 1) := by decide +kernel
theorem dX7_findings_1 : decode cX7_findings 1 = .ok (.iconst 1, 1) := by decide +kernel
theorem dX7_findings_2 : decode cX7_findings 2 = .ok (.if_icmp .lt 8, 3) := by decide +kernel
theorem dX7_findings_5 : decode cX7_findings 5 = .ok (.iload_n 1, 1) := by decide +kernel
theorem dX7_findings_6 : decode cX7_findings 6 = .ok (.iconst 5, 1) := by decide +kernel
theorem dX7_findings_7 : decode cX7_findings 7 = .ok (.if_icmp .le 5, 3) := by decide +kernel
theorem dX7_findings_10 : decode cX7_findings 10 = .ok (.iconst (-1), 1) := by decide +kernel
theorem dX7_findings_11 : decode cX7_findings 11 = .ok (.ireturn, 1) := by decide +kernel
theorem dX7_findings_12 : decode cX7_findings 12 = .ok (.aload_n 0, 1) := by decide +kernel
theorem dX7_findings_13 : decode cX7_findings 13 = .ok (.getfield 80, 3) := by decide +kernel
theorem dX7_findings_16 : decode cX7_findings 16 = .ok (.iload_n 1, 1) := by decide +kernel
theorem dX7_findings_17 : decode cX7_findings 17 = .ok (.iaload, 1) := by decide +kernel
theorem dX7_findings_18 : decode cX7_findings 18 = .ok (.ireturn, 1) := by decide +kernel
theorem dX7_digest_0 : decode cX7_digest 0 = .ok (.ldc2_w 303, 3) := by decide +kernel
theorem dX7_digest_3 : decode cX7_digest 3 = .ok (.lstore_n 1, 1) := by decide +kernel
theorem dX7_digest_4 : decode cX7_digest 4 = .ok (.iconst 0, 1) := by decide +kernel
theorem dX7_digest_5 : decode cX7_digest 5 = .ok (.istore_n 3, 1) := by decide +kernel
theorem dX7_digest_6 : decode cX7_digest 6 = .ok (.iload_n 3, 1) := by decide +kernel
theorem dX7_digest_7 : decode cX7_digest 7 = .ok (.bipush 11, 2) := by decide +kernel
theorem dX7_digest_9 : decode cX7_digest 9 = .ok (.if_icmp .ge 22, 3) := by decide +kernel
theorem dX7_digest_12 : decode cX7_digest 12 = .ok (.ldc2_w 305, 3) := by decide +kernel
theorem dX7_digest_15 : decode cX7_digest 15 = .ok (.lload_n 1, 1) := by decide +kernel
theorem dX7_digest_16 : decode cX7_digest 16 = .ok (.lmul, 1) := by decide +kernel
theorem dX7_digest_17 : decode cX7_digest 17 = .ok (.aload_n 0, 1) := by decide +kernel
theorem dX7_digest_18 : decode cX7_digest 18 = .ok (.iload_n 3, 1) := by decide +kernel
theorem dX7_digest_19 : decode cX7_digest 19 = .ok (.invokevirtual 300, 3) := by decide +kernel
theorem dX7_digest_22 : decode cX7_digest 22 = .ok (.i2l, 1) := by decide +kernel
theorem dX7_digest_23 : decode cX7_digest 23 = .ok (.ladd, 1) := by decide +kernel
theorem dX7_digest_24 : decode cX7_digest 24 = .ok (.lstore_n 1, 1) := by decide +kernel
theorem dX7_digest_25 : decode cX7_digest 25 = .ok (.iinc 3 1, 3) := by decide +kernel
theorem dX7_digest_28 : decode cX7_digest 28 = .ok (.goto (-22), 3) := by decide +kernel
theorem dX7_digest_31 : decode cX7_digest 31 = .ok (.iconst 0, 1) := by decide +kernel
theorem dX7_digest_32 : decode cX7_digest 32 = .ok (.istore_n 3, 1) := by decide +kernel
theorem dX7_digest_33 : decode cX7_digest 33 = .ok (.iload_n 3, 1) := by decide +kernel
theorem dX7_digest_34 : decode cX7_digest 34 = .ok (.aload_n 0, 1) := by decide +kernel
theorem dX7_digest_35 : decode cX7_digest 35 = .ok (.getfield 24, 3) := by decide +kernel
theorem dX7_digest_38 : decode cX7_digest 38 = .ok (.getfield 214, 3) := by decide +kernel
theorem dX7_digest_41 : decode cX7_digest 41 = .ok (.if_icmp .ge 39, 3) := by decide +kernel
theorem dX7_digest_44 : decode cX7_digest 44 = .ok (.iconst 0, 1) := by decide +kernel
theorem dX7_digest_45 : decode cX7_digest 45 = .ok (.istore 4, 2) := by decide +kernel
theorem dX7_digest_47 : decode cX7_digest 47 = .ok (.iload 4, 2) := by decide +kernel
theorem dX7_digest_49 : decode cX7_digest 49 = .ok (.iconst 5, 1) := by decide +kernel
theorem dX7_digest_50 : decode cX7_digest 50 = .ok (.if_icmp .ge 24, 3) := by decide +kernel
theorem dX7_digest_53 : decode cX7_digest 53 = .ok (.ldc2_w 305, 3) := by decide +kernel
theorem dX7_digest_56 : decode cX7_digest 56 = .ok (.lload_n 1, 1) := by decide +kernel
theorem dX7_digest_57 : decode cX7_digest 57 = .ok (.lmul, 1) := by decide +kernel
theorem dX7_digest_58 : decode cX7_digest 58 = .ok (.aload_n 0, 1) := by decide +kernel
theorem dX7_digest_59 : decode cX7_digest 59 = .ok (.iload_n 3, 1) := by decide +kernel
theorem dX7_digest_60 : decode cX7_digest 60 = .ok (.iload 4, 2) := by decide +kernel
theorem dX7_digest_62 : decode cX7_digest 62 = .ok (.invokevirtual 154, 3) := by decide +kernel
theorem dX7_digest_65 : decode cX7_digest 65 = .ok (.i2l, 1) := by decide +kernel
theorem dX7_digest_66 : decode cX7_digest 66 = .ok (.ladd, 1) := by decide +kernel
theorem dX7_digest_67 : decode cX7_digest 67 = .ok (.lstore_n 1, 1) := by decide +kernel
theorem dX7_digest_68 : decode cX7_digest 68 = .ok (.iinc 4 1, 3) := by decide +kernel
theorem dX7_digest_71 : decode cX7_digest 71 = .ok (.goto (-24), 3) := by decide +kernel
theorem dX7_digest_74 : decode cX7_digest 74 = .ok (.iinc 3 1, 3) := by decide +kernel
theorem dX7_digest_77 : decode cX7_digest 77 = .ok (.goto (-44), 3) := by decide +kernel
theorem dX7_digest_80 : decode cX7_digest 80 = .ok (.iconst 0, 1) := by decide +kernel
theorem dX7_digest_81 : decode cX7_digest 81 = .ok (.istore_n 3, 1) := by decide +kernel
theorem dX7_digest_82 : decode cX7_digest 82 = .ok (.iload_n 3, 1) := by decide +kernel
theorem dX7_digest_83 : decode cX7_digest 83 = .ok (.aload_n 0, 1) := by decide +kernel
theorem dX7_digest_84 : decode cX7_digest 84 = .ok (.getfield 24, 3) := by decide +kernel
theorem dX7_digest_87 : decode cX7_digest 87 = .ok (.getfield 148, 3) := by decide +kernel
theorem dX7_digest_90 : decode cX7_digest 90 = .ok (.if_icmp .ge 39, 3) := by decide +kernel
theorem dX7_digest_93 : decode cX7_digest 93 = .ok (.iconst 0, 1) := by decide +kernel
theorem dX7_digest_94 : decode cX7_digest 94 = .ok (.istore 4, 2) := by decide +kernel
theorem dX7_digest_96 : decode cX7_digest 96 = .ok (.iload 4, 2) := by decide +kernel
theorem dX7_digest_98 : decode cX7_digest 98 = .ok (.iconst 5, 1) := by decide +kernel
theorem dX7_digest_99 : decode cX7_digest 99 = .ok (.if_icmp .ge 24, 3) := by decide +kernel
theorem dX7_digest_102 : decode cX7_digest 102 = .ok (.ldc2_w 305, 3) := by decide +kernel
theorem dX7_digest_105 : decode cX7_digest 105 = .ok (.lload_n 1, 1) := by decide +kernel
theorem dX7_digest_106 : decode cX7_digest 106 = .ok (.lmul, 1) := by decide +kernel
theorem dX7_digest_107 : decode cX7_digest 107 = .ok (.aload_n 0, 1) := by decide +kernel
theorem dX7_digest_108 : decode cX7_digest 108 = .ok (.iload_n 3, 1) := by decide +kernel
theorem dX7_digest_109 : decode cX7_digest 109 = .ok (.iload 4, 2) := by decide +kernel
theorem dX7_digest_111 : decode cX7_digest 111 = .ok (.invokevirtual 161, 3) := by decide +kernel
theorem dX7_digest_114 : decode cX7_digest 114 = .ok (.i2l, 1) := by decide +kernel
theorem dX7_digest_115 : decode cX7_digest 115 = .ok (.ladd, 1) := by decide +kernel
theorem dX7_digest_116 : decode cX7_digest 116 = .ok (.lstore_n 1, 1) := by decide +kernel
theorem dX7_digest_117 : decode cX7_digest 117 = .ok (.iinc 4 1, 3) := by decide +kernel
theorem dX7_digest_120 : decode cX7_digest 120 = .ok (.goto (-24), 3) := by decide +kernel
theorem dX7_digest_123 : decode cX7_digest 123 = .ok (.iinc 3 1, 3) := by decide +kernel
theorem dX7_digest_126 : decode cX7_digest 126 = .ok (.goto (-44), 3) := by decide +kernel
theorem dX7_digest_129 : decode cX7_digest 129 = .ok (.iconst 0, 1) := by decide +kernel
theorem dX7_digest_130 : decode cX7_digest 130 = .ok (.istore_n 3, 1) := by decide +kernel
theorem dX7_digest_131 : decode cX7_digest 131 = .ok (.iload_n 3, 1) := by decide +kernel
theorem dX7_digest_132 : decode cX7_digest 132 = .ok (.aload_n 0, 1) := by decide +kernel
theorem dX7_digest_133 : decode cX7_digest 133 = .ok (.getfield 48, 3) := by decide +kernel
theorem dX7_digest_136 : decode cX7_digest 136 = .ok (.arraylength, 1) := by decide +kernel
theorem dX7_digest_137 : decode cX7_digest 137 = .ok (.if_icmp .ge 26, 3) := by decide +kernel
theorem dX7_digest_140 : decode cX7_digest 140 = .ok (.ldc2_w 305, 3) := by decide +kernel
theorem dX7_digest_143 : decode cX7_digest 143 = .ok (.lload_n 1, 1) := by decide +kernel
theorem dX7_digest_144 : decode cX7_digest 144 = .ok (.lmul, 1) := by decide +kernel
theorem dX7_digest_145 : decode cX7_digest 145 = .ok (.aload_n 0, 1) := by decide +kernel
theorem dX7_digest_146 : decode cX7_digest 146 = .ok (.getfield 48, 3) := by decide +kernel
theorem dX7_digest_149 : decode cX7_digest 149 = .ok (.iload_n 3, 1) := by decide +kernel
theorem dX7_digest_150 : decode cX7_digest 150 = .ok (.aaload, 1) := by decide +kernel
theorem dX7_digest_151 : decode cX7_digest 151 = .ok (.getfield 86, 3) := by decide +kernel
theorem dX7_digest_154 : decode cX7_digest 154 = .ok (.i2l, 1) := by decide +kernel
theorem dX7_digest_155 : decode cX7_digest 155 = .ok (.ladd, 1) := by decide +kernel
theorem dX7_digest_156 : decode cX7_digest 156 = .ok (.lstore_n 1, 1) := by decide +kernel
theorem dX7_digest_157 : decode cX7_digest 157 = .ok (.iinc 3 1, 3) := by decide +kernel
theorem dX7_digest_160 : decode cX7_digest 160 = .ok (.goto (-29), 3) := by decide +kernel
theorem dX7_digest_163 : decode cX7_digest 163 = .ok (.iconst 0, 1) := by decide +kernel
theorem dX7_digest_164 : decode cX7_digest 164 = .ok (.istore_n 3, 1) := by decide +kernel
theorem dX7_digest_165 : decode cX7_digest 165 = .ok (.iload_n 3, 1) := by decide +kernel
theorem dX7_digest_166 : decode cX7_digest 166 = .ok (.aload_n 0, 1) := by decide +kernel
theorem dX7_digest_167 : decode cX7_digest 167 = .ok (.getfield 11, 3) := by decide +kernel
theorem dX7_digest_170 : decode cX7_digest 170 = .ok (.arraylength, 1) := by decide +kernel
theorem dX7_digest_171 : decode cX7_digest 171 = .ok (.if_icmp .ge 20, 3) := by decide +kernel
theorem dX7_digest_174 : decode cX7_digest 174 = .ok (.aload_n 0, 1) := by decide +kernel
theorem dX7_digest_175 : decode cX7_digest 175 = .ok (.getfield 11, 3) := by decide +kernel
theorem dX7_digest_178 : decode cX7_digest 178 = .ok (.iload_n 3, 1) := by decide +kernel
theorem dX7_digest_179 : decode cX7_digest 179 = .ok (.aaload, 1) := by decide +kernel
theorem dX7_digest_180 : decode cX7_digest 180 = .ok (.lload_n 1, 1) := by decide +kernel
theorem dX7_digest_181 : decode cX7_digest 181 = .ok (.invokevirtual 307, 3) := by decide +kernel
theorem dX7_digest_184 : decode cX7_digest 184 = .ok (.lstore_n 1, 1) := by decide +kernel
theorem dX7_digest_185 : decode cX7_digest 185 = .ok (.iinc 3 1, 3) := by decide +kernel
theorem dX7_digest_188 : decode cX7_digest 188 = .ok (.goto (-23), 3) := by decide +kernel
theorem dX7_digest_191 : decode cX7_digest 191 = .ok (.iconst 0, 1) := by decide +kernel
theorem dX7_digest_192 : decode cX7_digest 192 = .ok (.istore_n 3, 1) := by decide +kernel
theorem dX7_digest_193 : decode cX7_digest 193 = .ok (.iload_n 3, 1) := by decide +kernel
theorem dX7_digest_194 : decode cX7_digest 194 = .ok (.aload_n 0, 1) := by decide +kernel
theorem dX7_digest_195 : decode cX7_digest 195 = .ok (.getfield 17, 3) := by decide +kernel
theorem dX7_digest_198 : decode cX7_digest 198 = .ok (.arraylength, 1) := by decide +kernel
theorem dX7_digest_199 : decode cX7_digest 199 = .ok (.if_icmp .ge 20, 3) := by decide +kernel
theorem dX7_digest_202 : decode cX7_digest 202 = .ok (.aload_n 0, 1) := by decide +kernel
theorem dX7_digest_203 : decode cX7_digest 203 = .ok (.getfield 17, 3) := by decide +kernel
theorem dX7_digest_206 : decode cX7_digest 206 = .ok (.iload_n 3, 1) := by decide +kernel
theorem dX7_digest_207 : decode cX7_digest 207 = .ok (.aaload, 1) := by decide +kernel
theorem dX7_digest_208 : decode cX7_digest 208 = .ok (.lload_n 1, 1) := by decide +kernel
theorem dX7_digest_209 : decode cX7_digest 209 = .ok (.invokevirtual 311, 3) := by decide +kernel
theorem dX7_digest_212 : decode cX7_digest 212 = .ok (.lstore_n 1, 1) := by decide +kernel
theorem dX7_digest_213 : decode cX7_digest 213 = .ok (.iinc 3 1, 3) := by decide +kernel
theorem dX7_digest_216 : decode cX7_digest 216 = .ok (.goto (-23), 3) := by decide +kernel
theorem dX7_digest_219 : decode cX7_digest 219 = .ok (.lload_n 1, 1) := by decide +kernel
theorem dX7_digest_220 : decode cX7_digest 220 = .ok (.lreturn, 1) := by decide +kernel
theorem dX7_rowOf_0 : decode cX7_rowOf 0 = .ok (.iload_n 1, 1) := by decide +kernel
theorem dX7_rowOf_1 : decode cX7_rowOf 1 = .ok (.ifCond .lt 21, 3) := by decide +kernel
theorem dX7_rowOf_4 : decode cX7_rowOf 4 = .ok (.iload_n 1, 1) := by decide +kernel
theorem dX7_rowOf_5 : decode cX7_rowOf 5 = .ok (.aload_n 0, 1) := by decide +kernel
theorem dX7_rowOf_6 : decode cX7_rowOf 6 = .ok (.getfield 11, 3) := by decide +kernel
theorem dX7_rowOf_9 : decode cX7_rowOf 9 = .ok (.arraylength, 1) := by decide +kernel
theorem dX7_rowOf_10 : decode cX7_rowOf 10 = .ok (.if_icmp .ge 12, 3) := by decide +kernel
theorem dX7_rowOf_13 : decode cX7_rowOf 13 = .ok (.aload_n 0, 1) := by decide +kernel
theorem dX7_rowOf_14 : decode cX7_rowOf 14 = .ok (.getfield 11, 3) := by decide +kernel
theorem dX7_rowOf_17 : decode cX7_rowOf 17 = .ok (.iload_n 1, 1) := by decide +kernel
theorem dX7_rowOf_18 : decode cX7_rowOf 18 = .ok (.aaload, 1) := by decide +kernel
theorem dX7_rowOf_19 : decode cX7_rowOf 19 = .ok (.goto 4, 3) := by decide +kernel
theorem dX7_rowOf_22 : decode cX7_rowOf 22 = .ok (.aconst_null, 1) := by decide +kernel
theorem dX7_rowOf_23 : decode cX7_rowOf 23 = .ok (.areturn, 1) := by decide +kernel
theorem dX7_textOf_0 : decode cX7_textOf 0 = .ok (.iload_n 1, 1) := by decide +kernel
theorem dX7_textOf_1 : decode cX7_textOf 1 = .ok (.ifCond .lt 21, 3) := by decide +kernel
theorem dX7_textOf_4 : decode cX7_textOf 4 = .ok (.iload_n 1, 1) := by decide +kernel
theorem dX7_textOf_5 : decode cX7_textOf 5 = .ok (.aload_n 0, 1) := by decide +kernel
theorem dX7_textOf_6 : decode cX7_textOf 6 = .ok (.getfield 17, 3) := by decide +kernel
theorem dX7_textOf_9 : decode cX7_textOf 9 = .ok (.arraylength, 1) := by decide +kernel
theorem dX7_textOf_10 : decode cX7_textOf 10 = .ok (.if_icmp .ge 12, 3) := by decide +kernel
theorem dX7_textOf_13 : decode cX7_textOf 13 = .ok (.aload_n 0, 1) := by decide +kernel
theorem dX7_textOf_14 : decode cX7_textOf 14 = .ok (.getfield 17, 3) := by decide +kernel
theorem dX7_textOf_17 : decode cX7_textOf 17 = .ok (.iload_n 1, 1) := by decide +kernel
theorem dX7_textOf_18 : decode cX7_textOf 18 = .ok (.aaload, 1) := by decide +kernel
theorem dX7_textOf_19 : decode cX7_textOf 19 = .ok (.goto 4, 3) := by decide +kernel
theorem dX7_textOf_22 : decode cX7_textOf 22 = .ok (.aconst_null, 1) := by decide +kernel
theorem dX7_textOf_23 : decode cX7_textOf 23 = .ok (.areturn, 1) := by decide +kernel
theorem dX7_keptOf_0 : decode cX7_keptOf 0 = .ok (.iload_n 1, 1) := by decide +kernel
theorem dX7_keptOf_1 : decode cX7_keptOf 1 = .ok (.ifCond .lt 21, 3) := by decide +kernel
theorem dX7_keptOf_4 : decode cX7_keptOf 4 = .ok (.iload_n 1, 1) := by decide +kernel
theorem dX7_keptOf_5 : decode cX7_keptOf 5 = .ok (.aload_n 0, 1) := by decide +kernel
theorem dX7_keptOf_6 : decode cX7_keptOf 6 = .ok (.getfield 48, 3) := by decide +kernel
theorem dX7_keptOf_9 : decode cX7_keptOf 9 = .ok (.arraylength, 1) := by decide +kernel
theorem dX7_keptOf_10 : decode cX7_keptOf 10 = .ok (.if_icmp .ge 12, 3) := by decide +kernel
theorem dX7_keptOf_13 : decode cX7_keptOf 13 = .ok (.aload_n 0, 1) := by decide +kernel
theorem dX7_keptOf_14 : decode cX7_keptOf 14 = .ok (.getfield 48, 3) := by decide +kernel
theorem dX7_keptOf_17 : decode cX7_keptOf 17 = .ok (.iload_n 1, 1) := by decide +kernel
theorem dX7_keptOf_18 : decode cX7_keptOf 18 = .ok (.aaload, 1) := by decide +kernel
theorem dX7_keptOf_19 : decode cX7_keptOf 19 = .ok (.goto 4, 3) := by decide +kernel
theorem dX7_keptOf_22 : decode cX7_keptOf 22 = .ok (.aconst_null, 1) := by decide +kernel
theorem dX7_keptOf_23 : decode cX7_keptOf 23 = .ok (.areturn, 1) := by decide +kernel
theorem dX7_refuse_0 : decode cX7_refuse 0 = .ok (.aload_n 0, 1) := by decide +kernel
theorem dX7_refuse_1 : decode cX7_refuse 1 = .ok (.iload_n 1, 1) := by decide +kernel
theorem dX7_refuse_2 : decode cX7_refuse 2 = .ok (.putfield 77, 3) := by decide +kernel
theorem dX7_refuse_5 : decode cX7_refuse 5 = .ok (.iload_n 1, 1) := by decide +kernel
theorem dX7_refuse_6 : decode cX7_refuse 6 = .ok (.ifCond .lt 22, 3) := by decide +kernel
theorem dX7_refuse_9 : decode cX7_refuse 9 = .ok (.iload_n 1, 1) := by decide +kernel
theorem dX7_refuse_10 : decode cX7_refuse 10 = .ok (.aload_n 0, 1) := by decide +kernel
theorem dX7_refuse_11 : decode cX7_refuse 11 = .ok (.getfield 80, 3) := by decide +kernel
theorem dX7_refuse_14 : decode cX7_refuse 14 = .ok (.arraylength, 1) := by decide +kernel
theorem dX7_refuse_15 : decode cX7_refuse 15 = .ok (.if_icmp .ge 13, 3) := by decide +kernel
theorem dX7_refuse_18 : decode cX7_refuse 18 = .ok (.aload_n 0, 1) := by decide +kernel
theorem dX7_refuse_19 : decode cX7_refuse 19 = .ok (.getfield 80, 3) := by decide +kernel
theorem dX7_refuse_22 : decode cX7_refuse 22 = .ok (.iload_n 1, 1) := by decide +kernel
theorem dX7_refuse_23 : decode cX7_refuse 23 = .ok (.dup2, 1) := by decide +kernel
theorem dX7_refuse_24 : decode cX7_refuse 24 = .ok (.iaload, 1) := by decide +kernel
theorem dX7_refuse_25 : decode cX7_refuse 25 = .ok (.iconst 1, 1) := by decide +kernel
theorem dX7_refuse_26 : decode cX7_refuse 26 = .ok (.iadd, 1) := by decide +kernel
theorem dX7_refuse_27 : decode cX7_refuse 27 = .ok (.iastore, 1) := by decide +kernel
theorem dX7_refuse_28 : decode cX7_refuse 28 = .ok (.bipush (-3), 2) := by decide +kernel
theorem dX7_refuse_30 : decode cX7_refuse 30 = .ok (.ireturn, 1) := by decide +kernel
theorem dX7_isPlace_0 : decode cX7_isPlace 0 = .ok (.iload_n 0, 1) := by decide +kernel
theorem dX7_isPlace_1 : decode cX7_isPlace 1 = .ok (.ifCond .lt 13, 3) := by decide +kernel
theorem dX7_isPlace_4 : decode cX7_isPlace 4 = .ok (.iload_n 0, 1) := by decide +kernel
theorem dX7_isPlace_5 : decode cX7_isPlace 5 = .ok (.bipush 10, 2) := by decide +kernel
theorem dX7_isPlace_7 : decode cX7_isPlace 7 = .ok (.if_icmp .ge 7, 3) := by decide +kernel
theorem dX7_isPlace_10 : decode cX7_isPlace 10 = .ok (.iconst 1, 1) := by decide +kernel
theorem dX7_isPlace_11 : decode cX7_isPlace 11 = .ok (.goto 4, 3) := by decide +kernel
theorem dX7_isPlace_14 : decode cX7_isPlace 14 = .ok (.iconst 0, 1) := by decide +kernel
theorem dX7_isPlace_15 : decode cX7_isPlace 15 = .ok (.ireturn, 1) := by decide +kernel
theorem dX7_holds_0 : decode cX7_holds 0 = .ok (.iload_n 0, 1) := by decide +kernel
theorem dX7_holds_1 : decode cX7_holds 1 = .ok (.iload_n 1, 1) := by decide +kernel
theorem dX7_holds_2 : decode cX7_holds 2 = .ok (.ishr, 1) := by decide +kernel
theorem dX7_holds_3 : decode cX7_holds 3 = .ok (.iconst 1, 1) := by decide +kernel
theorem dX7_holds_4 : decode cX7_holds 4 = .ok (.iand, 1) := by decide +kernel
theorem dX7_holds_5 : decode cX7_holds 5 = .ok (.iconst 1, 1) := by decide +kernel
theorem dX7_holds_6 : decode cX7_holds 6 = .ok (.if_icmp .ne 7, 3) := by decide +kernel
theorem dX7_holds_9 : decode cX7_holds 9 = .ok (.iconst 1, 1) := by decide +kernel
theorem dX7_holds_10 : decode cX7_holds 10 = .ok (.goto 4, 3) := by decide +kernel
theorem dX7_holds_13 : decode cX7_holds 13 = .ok (.iconst 0, 1) := by decide +kernel
theorem dX7_holds_14 : decode cX7_holds 14 = .ok (.ireturn, 1) := by decide +kernel
theorem dX7_isKind_0 : decode cX7_isKind 0 = .ok (.iload_n 0, 1) := by decide +kernel
theorem dX7_isKind_1 : decode cX7_isKind 1 = .ok (.ifCond .lt 12, 3) := by decide +kernel
theorem dX7_isKind_4 : decode cX7_isKind 4 = .ok (.iload_n 0, 1) := by decide +kernel
theorem dX7_isKind_5 : decode cX7_isKind 5 = .ok (.iconst 5, 1) := by decide +kernel
theorem dX7_isKind_6 : decode cX7_isKind 6 = .ok (.if_icmp .gt 7, 3) := by decide +kernel
theorem dX7_isKind_9 : decode cX7_isKind 9 = .ok (.iconst 1, 1) := by decide +kernel
theorem dX7_isKind_10 : decode cX7_isKind 10 = .ok (.goto 4, 3) := by decide +kernel
theorem dX7_isKind_13 : decode cX7_isKind 13 = .ok (.iconst 0, 1) := by decide +kernel
theorem dX7_isKind_14 : decode cX7_isKind 14 = .ok (.ireturn, 1) := by decide +kernel
theorem dX7_isOf_0 : decode cX7_isOf 0 = .ok (.iload_n 0, 1) := by decide +kernel
theorem dX7_isOf_1 : decode cX7_isOf 1 = .ok (.istore_n 2, 1) := by decide +kernel
theorem dX7_isOf_2 : decode cX7_isOf 2 = .ok (.iconst 0, 1) := by decide +kernel
theorem dX7_isOf_3 : decode cX7_isOf 3 = .ok (.istore_n 3, 1) := by decide +kernel
theorem dX7_isOf_4 : decode cX7_isOf 4 = .ok (.iload_n 3, 1) := by decide +kernel
theorem dX7_isOf_5 : decode cX7_isOf 5 = .ok (.iconst 5, 1) := by decide +kernel
theorem dX7_isOf_6 : decode cX7_isOf 6 = .ok (.if_icmp .gt 29, 3) := by decide +kernel
theorem dX7_isOf_9 : decode cX7_isOf 9 = .ok (.iload_n 2, 1) := by decide +kernel
theorem dX7_isOf_10 : decode cX7_isOf 10 = .ok (.invokestatic 312, 3) := by decide +kernel
theorem dX7_isOf_13 : decode cX7_isOf 13 = .ok (.ifCond .eq 22, 3) := by decide +kernel
theorem dX7_isOf_16 : decode cX7_isOf 16 = .ok (.iload_n 2, 1) := by decide +kernel
theorem dX7_isOf_17 : decode cX7_isOf 17 = .ok (.iload_n 1, 1) := by decide +kernel
theorem dX7_isOf_18 : decode cX7_isOf 18 = .ok (.if_icmp .ne 5, 3) := by decide +kernel
theorem dX7_isOf_21 : decode cX7_isOf 21 = .ok (.iconst 1, 1) := by decide +kernel
theorem dX7_isOf_22 : decode cX7_isOf 22 = .ok (.ireturn, 1) := by decide +kernel
theorem dX7_isOf_23 : decode cX7_isOf 23 = .ok (.getstatic 315, 3) := by decide +kernel
theorem dX7_isOf_26 : decode cX7_isOf 26 = .ok (.iload_n 2, 1) := by decide +kernel
theorem dX7_isOf_27 : decode cX7_isOf 27 = .ok (.iaload, 1) := by decide +kernel
theorem dX7_isOf_28 : decode cX7_isOf 28 = .ok (.istore_n 2, 1) := by decide +kernel
theorem dX7_isOf_29 : decode cX7_isOf 29 = .ok (.iinc 3 1, 3) := by decide +kernel
theorem dX7_isOf_32 : decode cX7_isOf 32 = .ok (.goto (-28), 3) := by decide +kernel
theorem dX7_isOf_35 : decode cX7_isOf 35 = .ok (.iconst 0, 1) := by decide +kernel
theorem dX7_isOf_36 : decode cX7_isOf 36 = .ok (.ireturn, 1) := by decide +kernel
theorem dX7_isTooDeep_0 : decode cX7_isTooDeep 0 = .ok (.iload_n 0, 1) := by decide +kernel
theorem dX7_isTooDeep_1 : decode cX7_isTooDeep 1 = .ok (.invokestatic 312, 3) := by decide +kernel
theorem dX7_isTooDeep_4 : decode cX7_isTooDeep 4 = .ok (.ifCond .eq 16, 3) := by decide +kernel
theorem dX7_isTooDeep_7 : decode cX7_isTooDeep 7 = .ok (.iload_n 1, 1) := by decide +kernel
theorem dX7_isTooDeep_8 : decode cX7_isTooDeep 8 = .ok (.getstatic 318, 3) := by decide +kernel
theorem dX7_isTooDeep_11 : decode cX7_isTooDeep 11 = .ok (.iload_n 0, 1) := by decide +kernel
theorem dX7_isTooDeep_12 : decode cX7_isTooDeep 12 = .ok (.iaload, 1) := by decide +kernel
theorem dX7_isTooDeep_13 : decode cX7_isTooDeep 13 = .ok (.if_icmp .le 7, 3) := by decide +kernel
theorem dX7_isTooDeep_16 : decode cX7_isTooDeep 16 = .ok (.iconst 1, 1) := by decide +kernel
theorem dX7_isTooDeep_17 : decode cX7_isTooDeep 17 = .ok (.goto 4, 3) := by decide +kernel
theorem dX7_isTooDeep_20 : decode cX7_isTooDeep 20 = .ok (.iconst 0, 1) := by decide +kernel
theorem dX7_isTooDeep_21 : decode cX7_isTooDeep 21 = .ok (.ireturn, 1) := by decide +kernel
theorem dX7_breathByKind_0 : decode cX7_breathByKind 0 = .ok (.iload_n 0, 1) := by decide +kernel
theorem dX7_breathByKind_1 : decode cX7_breathByKind 1 = .ok (.iload_n 1, 1) := by decide +kernel
theorem dX7_breathByKind_2 : decode cX7_breathByKind 2 = .ok (.invokestatic 321, 3) := by decide +kernel
theorem dX7_breathByKind_5 : decode cX7_breathByKind 5 = .ok (.ifCond .eq 6, 3) := by decide +kernel
theorem dX7_breathByKind_8 : decode cX7_breathByKind 8 = .ok (.bipush (-9), 2) := by decide +kernel
theorem dX7_breathByKind_10 : decode cX7_breathByKind 10 = .ok (.ireturn, 1) := by decide +kernel
theorem dX7_breathByKind_11 : decode cX7_breathByKind 11 = .ok (.iload_n 0, 1) := by decide +kernel
theorem dX7_breathByKind_12 : decode cX7_breathByKind 12 = .ok (.iconst 3, 1) := by decide +kernel
theorem dX7_breathByKind_13 : decode cX7_breathByKind 13 = .ok (.invokestatic 167, 3) := by decide +kernel
theorem dX7_breathByKind_16 : decode cX7_breathByKind 16 = .ok (.ifCond .eq 5, 3) := by decide +kernel
theorem dX7_breathByKind_19 : decode cX7_breathByKind 19 = .ok (.iconst 0, 1) := by decide +kernel
theorem dX7_breathByKind_20 : decode cX7_breathByKind 20 = .ok (.ireturn, 1) := by decide +kernel
theorem dX7_breathByKind_21 : decode cX7_breathByKind 21 = .ok (.iload_n 0, 1) := by decide +kernel
theorem dX7_breathByKind_22 : decode cX7_breathByKind 22 = .ok (.iconst 1, 1) := by decide +kernel
theorem dX7_breathByKind_23 : decode cX7_breathByKind 23 = .ok (.invokestatic 167, 3) := by decide +kernel
theorem dX7_breathByKind_26 : decode cX7_breathByKind 26 = .ok (.ifCond .eq 13, 3) := by decide +kernel
theorem dX7_breathByKind_29 : decode cX7_breathByKind 29 = .ok (.iconst 1, 1) := by decide +kernel
theorem dX7_breathByKind_30 : decode cX7_breathByKind 30 = .ok (.iload_n 1, 1) := by decide +kernel
theorem dX7_breathByKind_31 : decode cX7_breathByKind 31 = .ok (.iconst 2, 1) := by decide +kernel
theorem dX7_breathByKind_32 : decode cX7_breathByKind 32 = .ok (.idiv, 1) := by decide +kernel
theorem dX7_breathByKind_33 : decode cX7_breathByKind 33 = .ok (.invokestatic 324, 3) := by decide +kernel
theorem dX7_breathByKind_36 : decode cX7_breathByKind 36 = .ok (.goto 4, 3) := by decide +kernel
theorem dX7_breathByKind_39 : decode cX7_breathByKind 39 = .ok (.iload_n 1, 1) := by decide +kernel
theorem dX7_breathByKind_40 : decode cX7_breathByKind 40 = .ok (.ireturn, 1) := by decide +kernel
theorem dX7_goldByKind_0 : decode cX7_goldByKind 0 = .ok (.iload_n 0, 1) := by decide +kernel
theorem dX7_goldByKind_1 : decode cX7_goldByKind 1 = .ok (.tableswitch 43 3 5 #[27, 31, 35], 27) := by decide +kernel
theorem dX7_goldByKind_28 : decode cX7_goldByKind 28 = .ok (.iload_n 1, 1) := by decide +kernel
theorem dX7_goldByKind_29 : decode cX7_goldByKind 29 = .ok (.iconst 2, 1) := by decide +kernel
theorem dX7_goldByKind_30 : decode cX7_goldByKind 30 = .ok (.idiv, 1) := by decide +kernel
theorem dX7_goldByKind_31 : decode cX7_goldByKind 31 = .ok (.ireturn, 1) := by decide +kernel
theorem dX7_goldByKind_32 : decode cX7_goldByKind 32 = .ok (.iload_n 1, 1) := by decide +kernel
theorem dX7_goldByKind_33 : decode cX7_goldByKind 33 = .ok (.iconst 2, 1) := by decide +kernel
theorem dX7_goldByKind_34 : decode cX7_goldByKind 34 = .ok (.iadd, 1) := by decide +kernel
theorem dX7_goldByKind_35 : decode cX7_goldByKind 35 = .ok (.ireturn, 1) := by decide +kernel
theorem dX7_goldByKind_36 : decode cX7_goldByKind 36 = .ok (.iconst 0, 1) := by decide +kernel
theorem dX7_goldByKind_37 : decode cX7_goldByKind 37 = .ok (.iload_n 1, 1) := by decide +kernel
theorem dX7_goldByKind_38 : decode cX7_goldByKind 38 = .ok (.iconst 1, 1) := by decide +kernel
theorem dX7_goldByKind_39 : decode cX7_goldByKind 39 = .ok (.isub, 1) := by decide +kernel
theorem dX7_goldByKind_40 : decode cX7_goldByKind 40 = .ok (.invokestatic 324, 3) := by decide +kernel
theorem dX7_goldByKind_43 : decode cX7_goldByKind 43 = .ok (.ireturn, 1) := by decide +kernel
theorem dX7_goldByKind_44 : decode cX7_goldByKind 44 = .ok (.iload_n 1, 1) := by decide +kernel
theorem dX7_goldByKind_45 : decode cX7_goldByKind 45 = .ok (.ireturn, 1) := by decide +kernel
theorem dX7_sigherTells_0 : decode cX7_sigherTells 0 = .ok (.aload_n 0, 1) := by decide +kernel
theorem dX7_sigherTells_1 : decode cX7_sigherTells 1 = .ok (.getfield 24, 3) := by decide +kernel
theorem dX7_sigherTells_4 : decode cX7_sigherTells 4 = .ok (.iload_n 1, 1) := by decide +kernel
theorem dX7_sigherTells_5 : decode cX7_sigherTells 5 = .ok (.invokevirtual 151, 3) := by decide +kernel
theorem dX7_sigherTells_8 : decode cX7_sigherTells 8 = .ok (.ifCond .ne 5, 3) := by decide +kernel
theorem dX7_sigherTells_11 : decode cX7_sigherTells 11 = .ok (.iconst 0, 1) := by decide +kernel
theorem dX7_sigherTells_12 : decode cX7_sigherTells 12 = .ok (.ireturn, 1) := by decide +kernel
theorem dX7_sigherTells_13 : decode cX7_sigherTells 13 = .ok (.iload_n 2, 1) := by decide +kernel
theorem dX7_sigherTells_14 : decode cX7_sigherTells 14 = .ok (.tableswitch 70 0 3 #[30, 40, 50, 60], 30) := by decide +kernel
theorem dX7_sigherTells_44 : decode cX7_sigherTells 44 = .ok (.aload_n 0, 1) := by decide +kernel
theorem dX7_sigherTells_45 : decode cX7_sigherTells 45 = .ok (.getfield 24, 3) := by decide +kernel
theorem dX7_sigherTells_48 : decode cX7_sigherTells 48 = .ok (.getfield 164, 3) := by decide +kernel
theorem dX7_sigherTells_51 : decode cX7_sigherTells 51 = .ok (.iload_n 1, 1) := by decide +kernel
theorem dX7_sigherTells_52 : decode cX7_sigherTells 52 = .ok (.iaload, 1) := by decide +kernel
theorem dX7_sigherTells_53 : decode cX7_sigherTells 53 = .ok (.ireturn, 1) := by decide +kernel
theorem dX7_sigherTells_54 : decode cX7_sigherTells 54 = .ok (.aload_n 0, 1) := by decide +kernel
theorem dX7_sigherTells_55 : decode cX7_sigherTells 55 = .ok (.getfield 34, 3) := by decide +kernel
theorem dX7_sigherTells_58 : decode cX7_sigherTells 58 = .ok (.getfield 201, 3) := by decide +kernel
theorem dX7_sigherTells_61 : decode cX7_sigherTells 61 = .ok (.iload_n 1, 1) := by decide +kernel
theorem dX7_sigherTells_62 : decode cX7_sigherTells 62 = .ok (.iaload, 1) := by decide +kernel
theorem dX7_sigherTells_63 : decode cX7_sigherTells 63 = .ok (.ireturn, 1) := by decide +kernel
theorem dX7_sigherTells_64 : decode cX7_sigherTells 64 = .ok (.aload_n 0, 1) := by decide +kernel
theorem dX7_sigherTells_65 : decode cX7_sigherTells 65 = .ok (.getfield 24, 3) := by decide +kernel
theorem dX7_sigherTells_68 : decode cX7_sigherTells 68 = .ok (.getfield 327, 3) := by decide +kernel
theorem dX7_sigherTells_71 : decode cX7_sigherTells 71 = .ok (.iload_n 1, 1) := by decide +kernel
theorem dX7_sigherTells_72 : decode cX7_sigherTells 72 = .ok (.iaload, 1) := by decide +kernel
theorem dX7_sigherTells_73 : decode cX7_sigherTells 73 = .ok (.ireturn, 1) := by decide +kernel
theorem dX7_sigherTells_74 : decode cX7_sigherTells 74 = .ok (.aload_n 0, 1) := by decide +kernel
theorem dX7_sigherTells_75 : decode cX7_sigherTells 75 = .ok (.getfield 34, 3) := by decide +kernel
theorem dX7_sigherTells_78 : decode cX7_sigherTells 78 = .ok (.getfield 177, 3) := by decide +kernel
theorem dX7_sigherTells_81 : decode cX7_sigherTells 81 = .ok (.iload_n 1, 1) := by decide +kernel
theorem dX7_sigherTells_82 : decode cX7_sigherTells 82 = .ok (.iaload, 1) := by decide +kernel
theorem dX7_sigherTells_83 : decode cX7_sigherTells 83 = .ok (.ireturn, 1) := by decide +kernel
theorem dX7_sigherTells_84 : decode cX7_sigherTells 84 = .ok (.aload_n 0, 1) := by decide +kernel
theorem dX7_sigherTells_85 : decode cX7_sigherTells 85 = .ok (.iload_n 1, 1) := by decide +kernel
theorem dX7_sigherTells_86 : decode cX7_sigherTells 86 = .ok (.invokevirtual 330, 3) := by decide +kernel
theorem dX7_sigherTells_89 : decode cX7_sigherTells 89 = .ok (.ireturn, 1) := by decide +kernel
theorem dX7_orderTells_0 : decode cX7_orderTells 0 = .ok (.aload_n 0, 1) := by decide +kernel
theorem dX7_orderTells_1 : decode cX7_orderTells 1 = .ok (.getfield 24, 3) := by decide +kernel
theorem dX7_orderTells_4 : decode cX7_orderTells 4 = .ok (.iload_n 1, 1) := by decide +kernel
theorem dX7_orderTells_5 : decode cX7_orderTells 5 = .ok (.invokevirtual 158, 3) := by decide +kernel
theorem dX7_orderTells_8 : decode cX7_orderTells 8 = .ok (.ifCond .ne 5, 3) := by decide +kernel
theorem dX7_orderTells_11 : decode cX7_orderTells 11 = .ok (.iconst 0, 1) := by decide +kernel
theorem dX7_orderTells_12 : decode cX7_orderTells 12 = .ok (.ireturn, 1) := by decide +kernel
theorem dX7_orderTells_13 : decode cX7_orderTells 13 = .ok (.iload_n 2, 1) := by decide +kernel
theorem dX7_orderTells_14 : decode cX7_orderTells 14 = .ok (.tableswitch 77 0 3 #[30, 40, 50, 60], 30) := by decide +kernel
theorem dX7_orderTells_44 : decode cX7_orderTells 44 = .ok (.aload_n 0, 1) := by decide +kernel
theorem dX7_orderTells_45 : decode cX7_orderTells 45 = .ok (.getfield 24, 3) := by decide +kernel
theorem dX7_orderTells_48 : decode cX7_orderTells 48 = .ok (.getfield 198, 3) := by decide +kernel
theorem dX7_orderTells_51 : decode cX7_orderTells 51 = .ok (.iload_n 1, 1) := by decide +kernel
theorem dX7_orderTells_52 : decode cX7_orderTells 52 = .ok (.iaload, 1) := by decide +kernel
theorem dX7_orderTells_53 : decode cX7_orderTells 53 = .ok (.ireturn, 1) := by decide +kernel
theorem dX7_orderTells_54 : decode cX7_orderTells 54 = .ok (.aload_n 0, 1) := by decide +kernel
theorem dX7_orderTells_55 : decode cX7_orderTells 55 = .ok (.getfield 24, 3) := by decide +kernel
theorem dX7_orderTells_58 : decode cX7_orderTells 58 = .ok (.getfield 333, 3) := by decide +kernel
theorem dX7_orderTells_61 : decode cX7_orderTells 61 = .ok (.iload_n 1, 1) := by decide +kernel
theorem dX7_orderTells_62 : decode cX7_orderTells 62 = .ok (.iaload, 1) := by decide +kernel
theorem dX7_orderTells_63 : decode cX7_orderTells 63 = .ok (.ireturn, 1) := by decide +kernel
theorem dX7_orderTells_64 : decode cX7_orderTells 64 = .ok (.aload_n 0, 1) := by decide +kernel
theorem dX7_orderTells_65 : decode cX7_orderTells 65 = .ok (.getfield 24, 3) := by decide +kernel
theorem dX7_orderTells_68 : decode cX7_orderTells 68 = .ok (.getfield 336, 3) := by decide +kernel
theorem dX7_orderTells_71 : decode cX7_orderTells 71 = .ok (.iload_n 1, 1) := by decide +kernel
theorem dX7_orderTells_72 : decode cX7_orderTells 72 = .ok (.iaload, 1) := by decide +kernel
theorem dX7_orderTells_73 : decode cX7_orderTells 73 = .ok (.ireturn, 1) := by decide +kernel
theorem dX7_orderTells_74 : decode cX7_orderTells 74 = .ok (.aload_n 0, 1) := by decide +kernel
theorem dX7_orderTells_75 : decode cX7_orderTells 75 = .ok (.getfield 34, 3) := by decide +kernel
theorem dX7_orderTells_78 : decode cX7_orderTells 78 = .ok (.iload_n 1, 1) := by decide +kernel
theorem dX7_orderTells_79 : decode cX7_orderTells 79 = .ok (.invokevirtual 195, 3) := by decide +kernel
theorem dX7_orderTells_82 : decode cX7_orderTells 82 = .ok (.ifCond .eq 7, 3) := by decide +kernel
theorem dX7_orderTells_85 : decode cX7_orderTells 85 = .ok (.iconst 1, 1) := by decide +kernel
theorem dX7_orderTells_86 : decode cX7_orderTells 86 = .ok (.goto 4, 3) := by decide +kernel
theorem dX7_orderTells_89 : decode cX7_orderTells 89 = .ok (.iconst 0, 1) := by decide +kernel
theorem dX7_orderTells_90 : decode cX7_orderTells 90 = .ok (.ireturn, 1) := by decide +kernel
theorem dX7_orderTells_91 : decode cX7_orderTells 91 = .ok (.aload_n 0, 1) := by decide +kernel
theorem dX7_orderTells_92 : decode cX7_orderTells 92 = .ok (.iload_n 1, 1) := by decide +kernel
theorem dX7_orderTells_93 : decode cX7_orderTells 93 = .ok (.invokevirtual 338, 3) := by decide +kernel
theorem dX7_orderTells_96 : decode cX7_orderTells 96 = .ok (.ireturn, 1) := by decide +kernel
theorem dX7_ordersFor_0 : decode cX7_ordersFor 0 = .ok (.iconst 0, 1) := by decide +kernel
theorem dX7_ordersFor_1 : decode cX7_ordersFor 1 = .ok (.istore_n 2, 1) := by decide +kernel
theorem dX7_ordersFor_2 : decode cX7_ordersFor 2 = .ok (.iconst 0, 1) := by decide +kernel
theorem dX7_ordersFor_3 : decode cX7_ordersFor 3 = .ok (.istore_n 3, 1) := by decide +kernel
theorem dX7_ordersFor_4 : decode cX7_ordersFor 4 = .ok (.iload_n 3, 1) := by decide +kernel
theorem dX7_ordersFor_5 : decode cX7_ordersFor 5 = .ok (.aload_n 0, 1) := by decide +kernel
theorem dX7_ordersFor_6 : decode cX7_ordersFor 6 = .ok (.getfield 24, 3) := by decide +kernel
theorem dX7_ordersFor_9 : decode cX7_ordersFor 9 = .ok (.getfield 148, 3) := by decide +kernel
theorem dX7_ordersFor_12 : decode cX7_ordersFor 12 = .ok (.if_icmp .ge 31, 3) := by decide +kernel
theorem dX7_ordersFor_15 : decode cX7_ordersFor 15 = .ok (.aload_n 0, 1) := by decide +kernel
theorem dX7_ordersFor_16 : decode cX7_ordersFor 16 = .ok (.getfield 34, 3) := by decide +kernel
theorem dX7_ordersFor_19 : decode cX7_ordersFor 19 = .ok (.aload_n 0, 1) := by decide +kernel
theorem dX7_ordersFor_20 : decode cX7_ordersFor 20 = .ok (.getfield 24, 3) := by decide +kernel
theorem dX7_ordersFor_23 : decode cX7_ordersFor 23 = .ok (.iload_n 1, 1) := by decide +kernel
theorem dX7_ordersFor_24 : decode cX7_ordersFor 24 = .ok (.iload_n 3, 1) := by decide +kernel
theorem dX7_ordersFor_25 : decode cX7_ordersFor 25 = .ok (.invokevirtual 341, 3) := by decide +kernel
theorem dX7_ordersFor_28 : decode cX7_ordersFor 28 = .ok (.ifCond .eq 9, 3) := by decide +kernel
theorem dX7_ordersFor_31 : decode cX7_ordersFor 31 = .ok (.iload_n 2, 1) := by decide +kernel
theorem dX7_ordersFor_32 : decode cX7_ordersFor 32 = .ok (.iconst 1, 1) := by decide +kernel
theorem dX7_ordersFor_33 : decode cX7_ordersFor 33 = .ok (.iload_n 3, 1) := by decide +kernel
theorem dX7_ordersFor_34 : decode cX7_ordersFor 34 = .ok (.ishl, 1) := by decide +kernel
theorem dX7_ordersFor_35 : decode cX7_ordersFor 35 = .ok (.ior, 1) := by decide +kernel
theorem dX7_ordersFor_36 : decode cX7_ordersFor 36 = .ok (.istore_n 2, 1) := by decide +kernel
theorem dX7_ordersFor_37 : decode cX7_ordersFor 37 = .ok (.iinc 3 1, 3) := by decide +kernel
theorem dX7_ordersFor_40 : decode cX7_ordersFor 40 = .ok (.goto (-36), 3) := by decide +kernel
theorem dX7_ordersFor_43 : decode cX7_ordersFor 43 = .ok (.iload_n 2, 1) := by decide +kernel
theorem dX7_ordersFor_44 : decode cX7_ordersFor 44 = .ok (.ireturn, 1) := by decide +kernel
theorem dX7_sighersFor_0 : decode cX7_sighersFor 0 = .ok (.iconst 0, 1) := by decide +kernel
theorem dX7_sighersFor_1 : decode cX7_sighersFor 1 = .ok (.istore_n 2, 1) := by decide +kernel
theorem dX7_sighersFor_2 : decode cX7_sighersFor 2 = .ok (.iconst 0, 1) := by decide +kernel
theorem dX7_sighersFor_3 : decode cX7_sighersFor 3 = .ok (.istore_n 3, 1) := by decide +kernel
theorem dX7_sighersFor_4 : decode cX7_sighersFor 4 = .ok (.iload_n 3, 1) := by decide +kernel
theorem dX7_sighersFor_5 : decode cX7_sighersFor 5 = .ok (.aload_n 0, 1) := by decide +kernel
theorem dX7_sighersFor_6 : decode cX7_sighersFor 6 = .ok (.getfield 24, 3) := by decide +kernel
theorem dX7_sighersFor_9 : decode cX7_sighersFor 9 = .ok (.getfield 214, 3) := by decide +kernel
theorem dX7_sighersFor_12 : decode cX7_sighersFor 12 = .ok (.if_icmp .ge 31, 3) := by decide +kernel
theorem dX7_sighersFor_15 : decode cX7_sighersFor 15 = .ok (.aload_n 0, 1) := by decide +kernel
theorem dX7_sighersFor_16 : decode cX7_sighersFor 16 = .ok (.getfield 34, 3) := by decide +kernel
theorem dX7_sighersFor_19 : decode cX7_sighersFor 19 = .ok (.aload_n 0, 1) := by decide +kernel
theorem dX7_sighersFor_20 : decode cX7_sighersFor 20 = .ok (.getfield 24, 3) := by decide +kernel
theorem dX7_sighersFor_23 : decode cX7_sighersFor 23 = .ok (.iload_n 3, 1) := by decide +kernel
theorem dX7_sighersFor_24 : decode cX7_sighersFor 24 = .ok (.iload_n 1, 1) := by decide +kernel
theorem dX7_sighersFor_25 : decode cX7_sighersFor 25 = .ok (.invokevirtual 341, 3) := by decide +kernel
theorem dX7_sighersFor_28 : decode cX7_sighersFor 28 = .ok (.ifCond .eq 9, 3) := by decide +kernel
theorem dX7_sighersFor_31 : decode cX7_sighersFor 31 = .ok (.iload_n 2, 1) := by decide +kernel
theorem dX7_sighersFor_32 : decode cX7_sighersFor 32 = .ok (.iconst 1, 1) := by decide +kernel
theorem dX7_sighersFor_33 : decode cX7_sighersFor 33 = .ok (.iload_n 3, 1) := by decide +kernel
theorem dX7_sighersFor_34 : decode cX7_sighersFor 34 = .ok (.ishl, 1) := by decide +kernel
theorem dX7_sighersFor_35 : decode cX7_sighersFor 35 = .ok (.ior, 1) := by decide +kernel
theorem dX7_sighersFor_36 : decode cX7_sighersFor 36 = .ok (.istore_n 2, 1) := by decide +kernel
theorem dX7_sighersFor_37 : decode cX7_sighersFor 37 = .ok (.iinc 3 1, 3) := by decide +kernel
theorem dX7_sighersFor_40 : decode cX7_sighersFor 40 = .ok (.goto (-36), 3) := by decide +kernel
theorem dX7_sighersFor_43 : decode cX7_sighersFor 43 = .ok (.iload_n 2, 1) := by decide +kernel
theorem dX7_sighersFor_44 : decode cX7_sighersFor 44 = .ok (.ireturn, 1) := by decide +kernel
theorem dX7_markOfOrder_0 : decode cX7_markOfOrder 0 = .ok (.aload_n 0, 1) := by decide +kernel
theorem dX7_markOfOrder_1 : decode cX7_markOfOrder 1 = .ok (.getfield 24, 3) := by decide +kernel
theorem dX7_markOfOrder_4 : decode cX7_markOfOrder 4 = .ok (.getfield 333, 3) := by decide +kernel
theorem dX7_markOfOrder_7 : decode cX7_markOfOrder 7 = .ok (.iload_n 3, 1) := by decide +kernel
theorem dX7_markOfOrder_8 : decode cX7_markOfOrder 8 = .ok (.iaload, 1) := by decide +kernel
theorem dX7_markOfOrder_9 : decode cX7_markOfOrder 9 = .ok (.istore 4, 2) := by decide +kernel
theorem dX7_markOfOrder_11 : decode cX7_markOfOrder 11 = .ok (.aload_n 0, 1) := by decide +kernel
theorem dX7_markOfOrder_12 : decode cX7_markOfOrder 12 = .ok (.getfield 24, 3) := by decide +kernel
theorem dX7_markOfOrder_15 : decode cX7_markOfOrder 15 = .ok (.getfield 164, 3) := by decide +kernel
theorem dX7_markOfOrder_18 : decode cX7_markOfOrder 18 = .ok (.iload_n 1, 1) := by decide +kernel
theorem dX7_markOfOrder_19 : decode cX7_markOfOrder 19 = .ok (.iaload, 1) := by decide +kernel
theorem dX7_markOfOrder_20 : decode cX7_markOfOrder 20 = .ok (.iload 4, 2) := by decide +kernel
theorem dX7_markOfOrder_22 : decode cX7_markOfOrder 22 = .ok (.invokestatic 321, 3) := by decide +kernel
theorem dX7_markOfOrder_25 : decode cX7_markOfOrder 25 = .ok (.istore 5, 2) := by decide +kernel
theorem dX7_markOfOrder_27 : decode cX7_markOfOrder 27 = .ok (.iload_n 2, 1) := by decide +kernel
theorem dX7_markOfOrder_28 : decode cX7_markOfOrder 28 = .ok (.tableswitch 93 1 4 #[32, 45, 56, 76], 32) := by decide +kernel
theorem dX7_markOfOrder_60 : decode cX7_markOfOrder 60 = .ok (.iload 4, 2) := by decide +kernel
theorem dX7_markOfOrder_62 : decode cX7_markOfOrder 62 = .ok (.aload_n 0, 1) := by decide +kernel
theorem dX7_markOfOrder_63 : decode cX7_markOfOrder 63 = .ok (.getfield 24, 3) := by decide +kernel
theorem dX7_markOfOrder_66 : decode cX7_markOfOrder 66 = .ok (.iload_n 1, 1) := by decide +kernel
theorem dX7_markOfOrder_67 : decode cX7_markOfOrder 67 = .ok (.iload_n 3, 1) := by decide +kernel
theorem dX7_markOfOrder_68 : decode cX7_markOfOrder 68 = .ok (.invokevirtual 192, 3) := by decide +kernel
theorem dX7_markOfOrder_71 : decode cX7_markOfOrder 71 = .ok (.isub, 1) := by decide +kernel
theorem dX7_markOfOrder_72 : decode cX7_markOfOrder 72 = .ok (.ireturn, 1) := by decide +kernel
theorem dX7_markOfOrder_73 : decode cX7_markOfOrder 73 = .ok (.iload 5, 2) := by decide +kernel
theorem dX7_markOfOrder_75 : decode cX7_markOfOrder 75 = .ok (.ifCond .eq 7, 3) := by decide +kernel
theorem dX7_markOfOrder_78 : decode cX7_markOfOrder 78 = .ok (.iconst 1, 1) := by decide +kernel
theorem dX7_markOfOrder_79 : decode cX7_markOfOrder 79 = .ok (.goto 4, 3) := by decide +kernel
theorem dX7_markOfOrder_82 : decode cX7_markOfOrder 82 = .ok (.iconst 0, 1) := by decide +kernel
theorem dX7_markOfOrder_83 : decode cX7_markOfOrder 83 = .ok (.ireturn, 1) := by decide +kernel
theorem dX7_markOfOrder_84 : decode cX7_markOfOrder 84 = .ok (.aload_n 0, 1) := by decide +kernel
theorem dX7_markOfOrder_85 : decode cX7_markOfOrder 85 = .ok (.getfield 24, 3) := by decide +kernel
theorem dX7_markOfOrder_88 : decode cX7_markOfOrder 88 = .ok (.getfield 336, 3) := by decide +kernel
theorem dX7_markOfOrder_91 : decode cX7_markOfOrder 91 = .ok (.iload_n 3, 1) := by decide +kernel
theorem dX7_markOfOrder_92 : decode cX7_markOfOrder 92 = .ok (.iaload, 1) := by decide +kernel
theorem dX7_markOfOrder_93 : decode cX7_markOfOrder 93 = .ok (.aload_n 0, 1) := by decide +kernel
theorem dX7_markOfOrder_94 : decode cX7_markOfOrder 94 = .ok (.getfield 24, 3) := by decide +kernel
theorem dX7_markOfOrder_97 : decode cX7_markOfOrder 97 = .ok (.iload_n 1, 1) := by decide +kernel
theorem dX7_markOfOrder_98 : decode cX7_markOfOrder 98 = .ok (.iload_n 3, 1) := by decide +kernel
theorem dX7_markOfOrder_99 : decode cX7_markOfOrder 99 = .ok (.invokevirtual 221, 3) := by decide +kernel
theorem dX7_markOfOrder_102 : decode cX7_markOfOrder 102 = .ok (.isub, 1) := by decide +kernel
theorem dX7_markOfOrder_103 : decode cX7_markOfOrder 103 = .ok (.ireturn, 1) := by decide +kernel
theorem dX7_markOfOrder_104 : decode cX7_markOfOrder 104 = .ok (.aload_n 0, 1) := by decide +kernel
theorem dX7_markOfOrder_105 : decode cX7_markOfOrder 105 = .ok (.getfield 34, 3) := by decide +kernel
theorem dX7_markOfOrder_108 : decode cX7_markOfOrder 108 = .ok (.iload_n 3, 1) := by decide +kernel
theorem dX7_markOfOrder_109 : decode cX7_markOfOrder 109 = .ok (.invokevirtual 195, 3) := by decide +kernel
theorem dX7_markOfOrder_112 : decode cX7_markOfOrder 112 = .ok (.ifCond .eq 7, 3) := by decide +kernel
theorem dX7_markOfOrder_115 : decode cX7_markOfOrder 115 = .ok (.iconst 0, 1) := by decide +kernel
theorem dX7_markOfOrder_116 : decode cX7_markOfOrder 116 = .ok (.goto 4, 3) := by decide +kernel
theorem dX7_markOfOrder_119 : decode cX7_markOfOrder 119 = .ok (.iconst 1, 1) := by decide +kernel
theorem dX7_markOfOrder_120 : decode cX7_markOfOrder 120 = .ok (.ireturn, 1) := by decide +kernel
theorem dX7_markOfOrder_121 : decode cX7_markOfOrder 121 = .ok (.iload 5, 2) := by decide +kernel
theorem dX7_markOfOrder_123 : decode cX7_markOfOrder 123 = .ok (.ifCond .ne 16, 3) := by decide +kernel
theorem dX7_markOfOrder_126 : decode cX7_markOfOrder 126 = .ok (.iconst 2, 1) := by decide +kernel
theorem dX7_markOfOrder_127 : decode cX7_markOfOrder 127 = .ok (.iload 4, 2) := by decide +kernel
theorem dX7_markOfOrder_129 : decode cX7_markOfOrder 129 = .ok (.invokestatic 321, 3) := by decide +kernel
theorem dX7_markOfOrder_132 : decode cX7_markOfOrder 132 = .ok (.ifCond .eq 7, 3) := by decide +kernel
theorem dX7_markOfOrder_135 : decode cX7_markOfOrder 135 = .ok (.iconst 1, 1) := by decide +kernel
theorem dX7_markOfOrder_136 : decode cX7_markOfOrder 136 = .ok (.goto 4, 3) := by decide +kernel
theorem dX7_markOfOrder_139 : decode cX7_markOfOrder 139 = .ok (.iconst 0, 1) := by decide +kernel
theorem dX7_markOfOrder_140 : decode cX7_markOfOrder 140 = .ok (.ireturn, 1) := by decide +kernel
theorem dX7_countOf_0 : decode cX7_countOf 0 = .ok (.iload_n 1, 1) := by decide +kernel
theorem dX7_countOf_1 : decode cX7_countOf 1 = .ok (.tableswitch 135 0 9 #[55, 63, 71, 79, 87, 95, 107, 116, 125, 130], 55) := by decide +kernel
theorem dX7_countOf_56 : decode cX7_countOf 56 = .ok (.aload_n 0, 1) := by decide +kernel
theorem dX7_countOf_57 : decode cX7_countOf 57 = .ok (.getfield 24, 3) := by decide +kernel
theorem dX7_countOf_60 : decode cX7_countOf 60 = .ok (.getfield 214, 3) := by decide +kernel
theorem dX7_countOf_63 : decode cX7_countOf 63 = .ok (.ireturn, 1) := by decide +kernel
theorem dX7_countOf_64 : decode cX7_countOf 64 = .ok (.aload_n 0, 1) := by decide +kernel
theorem dX7_countOf_65 : decode cX7_countOf 65 = .ok (.getfield 24, 3) := by decide +kernel
theorem dX7_countOf_68 : decode cX7_countOf 68 = .ok (.getfield 148, 3) := by decide +kernel
theorem dX7_countOf_71 : decode cX7_countOf 71 = .ok (.ireturn, 1) := by decide +kernel
theorem dX7_countOf_72 : decode cX7_countOf 72 = .ok (.aload_n 0, 1) := by decide +kernel
theorem dX7_countOf_73 : decode cX7_countOf 73 = .ok (.getfield 44, 3) := by decide +kernel
theorem dX7_countOf_76 : decode cX7_countOf 76 = .ok (.getfield 86, 3) := by decide +kernel
theorem dX7_countOf_79 : decode cX7_countOf 79 = .ok (.ireturn, 1) := by decide +kernel
theorem dX7_countOf_80 : decode cX7_countOf 80 = .ok (.aload_n 0, 1) := by decide +kernel
theorem dX7_countOf_81 : decode cX7_countOf 81 = .ok (.getfield 34, 3) := by decide +kernel
theorem dX7_countOf_84 : decode cX7_countOf 84 = .ok (.getfield 204, 3) := by decide +kernel
theorem dX7_countOf_87 : decode cX7_countOf 87 = .ok (.ireturn, 1) := by decide +kernel
theorem dX7_countOf_88 : decode cX7_countOf 88 = .ok (.aload_n 0, 1) := by decide +kernel
theorem dX7_countOf_89 : decode cX7_countOf 89 = .ok (.getfield 34, 3) := by decide +kernel
theorem dX7_countOf_92 : decode cX7_countOf 92 = .ok (.getfield 228, 3) := by decide +kernel
theorem dX7_countOf_95 : decode cX7_countOf 95 = .ok (.ireturn, 1) := by decide +kernel
theorem dX7_countOf_96 : decode cX7_countOf 96 = .ok (.aload_n 0, 1) := by decide +kernel
theorem dX7_countOf_97 : decode cX7_countOf 97 = .ok (.getfield 34, 3) := by decide +kernel
theorem dX7_countOf_100 : decode cX7_countOf 100 = .ok (.aload_n 0, 1) := by decide +kernel
theorem dX7_countOf_101 : decode cX7_countOf 101 = .ok (.getfield 24, 3) := by decide +kernel
theorem dX7_countOf_104 : decode cX7_countOf 104 = .ok (.invokevirtual 345, 3) := by decide +kernel
theorem dX7_countOf_107 : decode cX7_countOf 107 = .ok (.ireturn, 1) := by decide +kernel
theorem dX7_countOf_108 : decode cX7_countOf 108 = .ok (.aload_n 0, 1) := by decide +kernel
theorem dX7_countOf_109 : decode cX7_countOf 109 = .ok (.getfield 24, 3) := by decide +kernel
theorem dX7_countOf_112 : decode cX7_countOf 112 = .ok (.iconst 1, 1) := by decide +kernel
theorem dX7_countOf_113 : decode cX7_countOf 113 = .ok (.invokevirtual 349, 3) := by decide +kernel
theorem dX7_countOf_116 : decode cX7_countOf 116 = .ok (.ireturn, 1) := by decide +kernel
theorem dX7_countOf_117 : decode cX7_countOf 117 = .ok (.aload_n 0, 1) := by decide +kernel
theorem dX7_countOf_118 : decode cX7_countOf 118 = .ok (.getfield 24, 3) := by decide +kernel
theorem dX7_countOf_121 : decode cX7_countOf 121 = .ok (.iconst 2, 1) := by decide +kernel
theorem dX7_countOf_122 : decode cX7_countOf 122 = .ok (.invokevirtual 349, 3) := by decide +kernel
theorem dX7_countOf_125 : decode cX7_countOf 125 = .ok (.ireturn, 1) := by decide +kernel
theorem dX7_countOf_126 : decode cX7_countOf 126 = .ok (.aload_n 0, 1) := by decide +kernel
theorem dX7_countOf_127 : decode cX7_countOf 127 = .ok (.invokevirtual 352, 3) := by decide +kernel
theorem dX7_countOf_130 : decode cX7_countOf 130 = .ok (.ireturn, 1) := by decide +kernel
theorem dX7_countOf_131 : decode cX7_countOf 131 = .ok (.aload_n 0, 1) := by decide +kernel
theorem dX7_countOf_132 : decode cX7_countOf 132 = .ok (.invokevirtual 356, 3) := by decide +kernel
theorem dX7_countOf_135 : decode cX7_countOf 135 = .ok (.ireturn, 1) := by decide +kernel
theorem dX7_countOf_136 : decode cX7_countOf 136 = .ok (.aload_n 0, 1) := by decide +kernel
theorem dX7_countOf_137 : decode cX7_countOf 137 = .ok (.invokevirtual 359, 3) := by decide +kernel
theorem dX7_countOf_140 : decode cX7_countOf 140 = .ok (.ireturn, 1) := by decide +kernel
theorem dX7_countRows_0 : decode cX7_countRows 0 = .ok (.iconst 0, 1) := by decide +kernel
theorem dX7_countRows_1 : decode cX7_countRows 1 = .ok (.istore_n 1, 1) := by decide +kernel
theorem dX7_countRows_2 : decode cX7_countRows 2 = .ok (.iconst 0, 1) := by decide +kernel
theorem dX7_countRows_3 : decode cX7_countRows 3 = .ok (.istore_n 2, 1) := by decide +kernel
theorem dX7_countRows_4 : decode cX7_countRows 4 = .ok (.iload_n 2, 1) := by decide +kernel
theorem dX7_countRows_5 : decode cX7_countRows 5 = .ok (.aload_n 0, 1) := by decide +kernel
theorem dX7_countRows_6 : decode cX7_countRows 6 = .ok (.getfield 11, 3) := by decide +kernel
theorem dX7_countRows_9 : decode cX7_countRows 9 = .ok (.arraylength, 1) := by decide +kernel
theorem dX7_countRows_10 : decode cX7_countRows 10 = .ok (.if_icmp .ge 29, 3) := by decide +kernel
theorem dX7_countRows_13 : decode cX7_countRows 13 = .ok (.iload_n 1, 1) := by decide +kernel
theorem dX7_countRows_14 : decode cX7_countRows 14 = .ok (.aload_n 0, 1) := by decide +kernel
theorem dX7_countRows_15 : decode cX7_countRows 15 = .ok (.getfield 11, 3) := by decide +kernel
theorem dX7_countRows_18 : decode cX7_countRows 18 = .ok (.iload_n 2, 1) := by decide +kernel
theorem dX7_countRows_19 : decode cX7_countRows 19 = .ok (.aaload, 1) := by decide +kernel
theorem dX7_countRows_20 : decode cX7_countRows 20 = .ok (.invokevirtual 101, 3) := by decide +kernel
theorem dX7_countRows_23 : decode cX7_countRows 23 = .ok (.ifCond .eq 7, 3) := by decide +kernel
theorem dX7_countRows_26 : decode cX7_countRows 26 = .ok (.iconst 0, 1) := by decide +kernel
theorem dX7_countRows_27 : decode cX7_countRows 27 = .ok (.goto 4, 3) := by decide +kernel
theorem dX7_countRows_30 : decode cX7_countRows 30 = .ok (.iconst 1, 1) := by decide +kernel
theorem dX7_countRows_31 : decode cX7_countRows 31 = .ok (.iadd, 1) := by decide +kernel
theorem dX7_countRows_32 : decode cX7_countRows 32 = .ok (.istore_n 1, 1) := by decide +kernel
theorem dX7_countRows_33 : decode cX7_countRows 33 = .ok (.iinc 2 1, 3) := by decide +kernel
theorem dX7_countRows_36 : decode cX7_countRows 36 = .ok (.goto (-32), 3) := by decide +kernel
theorem dX7_countRows_39 : decode cX7_countRows 39 = .ok (.iload_n 1, 1) := by decide +kernel
theorem dX7_countRows_40 : decode cX7_countRows 40 = .ok (.ireturn, 1) := by decide +kernel
theorem dX7_countTexts_0 : decode cX7_countTexts 0 = .ok (.iconst 0, 1) := by decide +kernel
theorem dX7_countTexts_1 : decode cX7_countTexts 1 = .ok (.istore_n 1, 1) := by decide +kernel
theorem dX7_countTexts_2 : decode cX7_countTexts 2 = .ok (.iconst 0, 1) := by decide +kernel
theorem dX7_countTexts_3 : decode cX7_countTexts 3 = .ok (.istore_n 2, 1) := by decide +kernel
theorem dX7_countTexts_4 : decode cX7_countTexts 4 = .ok (.iload_n 2, 1) := by decide +kernel
theorem dX7_countTexts_5 : decode cX7_countTexts 5 = .ok (.aload_n 0, 1) := by decide +kernel
theorem dX7_countTexts_6 : decode cX7_countTexts 6 = .ok (.getfield 17, 3) := by decide +kernel
theorem dX7_countTexts_9 : decode cX7_countTexts 9 = .ok (.arraylength, 1) := by decide +kernel
theorem dX7_countTexts_10 : decode cX7_countTexts 10 = .ok (.if_icmp .ge 29, 3) := by decide +kernel
theorem dX7_countTexts_13 : decode cX7_countTexts 13 = .ok (.iload_n 1, 1) := by decide +kernel
theorem dX7_countTexts_14 : decode cX7_countTexts 14 = .ok (.aload_n 0, 1) := by decide +kernel
theorem dX7_countTexts_15 : decode cX7_countTexts 15 = .ok (.getfield 17, 3) := by decide +kernel
theorem dX7_countTexts_18 : decode cX7_countTexts 18 = .ok (.iload_n 2, 1) := by decide +kernel
theorem dX7_countTexts_19 : decode cX7_countTexts 19 = .ok (.aaload, 1) := by decide +kernel
theorem dX7_countTexts_20 : decode cX7_countTexts 20 = .ok (.invokevirtual 134, 3) := by decide +kernel
theorem dX7_countTexts_23 : decode cX7_countTexts 23 = .ok (.ifCond .eq 7, 3) := by decide +kernel
theorem dX7_countTexts_26 : decode cX7_countTexts 26 = .ok (.iconst 0, 1) := by decide +kernel
theorem dX7_countTexts_27 : decode cX7_countTexts 27 = .ok (.goto 4, 3) := by decide +kernel
theorem dX7_countTexts_30 : decode cX7_countTexts 30 = .ok (.iconst 1, 1) := by decide +kernel
theorem dX7_countTexts_31 : decode cX7_countTexts 31 = .ok (.iadd, 1) := by decide +kernel
theorem dX7_countTexts_32 : decode cX7_countTexts 32 = .ok (.istore_n 1, 1) := by decide +kernel
theorem dX7_countTexts_33 : decode cX7_countTexts 33 = .ok (.iinc 2 1, 3) := by decide +kernel
theorem dX7_countTexts_36 : decode cX7_countTexts 36 = .ok (.goto (-32), 3) := by decide +kernel
theorem dX7_countTexts_39 : decode cX7_countTexts 39 = .ok (.iload_n 1, 1) := by decide +kernel
theorem dX7_countTexts_40 : decode cX7_countTexts 40 = .ok (.ireturn, 1) := by decide +kernel
theorem dX7_countKept_0 : decode cX7_countKept 0 = .ok (.iconst 0, 1) := by decide +kernel
theorem dX7_countKept_1 : decode cX7_countKept 1 = .ok (.istore_n 1, 1) := by decide +kernel
theorem dX7_countKept_2 : decode cX7_countKept 2 = .ok (.iconst 0, 1) := by decide +kernel
theorem dX7_countKept_3 : decode cX7_countKept 3 = .ok (.istore_n 2, 1) := by decide +kernel
theorem dX7_countKept_4 : decode cX7_countKept 4 = .ok (.iload_n 2, 1) := by decide +kernel
theorem dX7_countKept_5 : decode cX7_countKept 5 = .ok (.aload_n 0, 1) := by decide +kernel
theorem dX7_countKept_6 : decode cX7_countKept 6 = .ok (.getfield 48, 3) := by decide +kernel
theorem dX7_countKept_9 : decode cX7_countKept 9 = .ok (.arraylength, 1) := by decide +kernel
theorem dX7_countKept_10 : decode cX7_countKept 10 = .ok (.if_icmp .ge 30, 3) := by decide +kernel
theorem dX7_countKept_13 : decode cX7_countKept 13 = .ok (.iload_n 1, 1) := by decide +kernel
theorem dX7_countKept_14 : decode cX7_countKept 14 = .ok (.aload_n 0, 1) := by decide +kernel
theorem dX7_countKept_15 : decode cX7_countKept 15 = .ok (.getfield 48, 3) := by decide +kernel
theorem dX7_countKept_18 : decode cX7_countKept 18 = .ok (.iload_n 2, 1) := by decide +kernel
theorem dX7_countKept_19 : decode cX7_countKept 19 = .ok (.aaload, 1) := by decide +kernel
theorem dX7_countKept_20 : decode cX7_countKept 20 = .ok (.getfield 86, 3) := by decide +kernel
theorem dX7_countKept_23 : decode cX7_countKept 23 = .ok (.iconst (-1), 1) := by decide +kernel
theorem dX7_countKept_24 : decode cX7_countKept 24 = .ok (.if_icmp .ne 7, 3) := by decide +kernel
theorem dX7_countKept_27 : decode cX7_countKept 27 = .ok (.iconst 0, 1) := by decide +kernel
theorem dX7_countKept_28 : decode cX7_countKept 28 = .ok (.goto 4, 3) := by decide +kernel
theorem dX7_countKept_31 : decode cX7_countKept 31 = .ok (.iconst 1, 1) := by decide +kernel
theorem dX7_countKept_32 : decode cX7_countKept 32 = .ok (.iadd, 1) := by decide +kernel
theorem dX7_countKept_33 : decode cX7_countKept 33 = .ok (.istore_n 1, 1) := by decide +kernel
theorem dX7_countKept_34 : decode cX7_countKept 34 = .ok (.iinc 2 1, 3) := by decide +kernel
theorem dX7_countKept_37 : decode cX7_countKept 37 = .ok (.goto (-33), 3) := by decide +kernel
theorem dX7_countKept_40 : decode cX7_countKept 40 = .ok (.iload_n 1, 1) := by decide +kernel
theorem dX7_countKept_41 : decode cX7_countKept 41 = .ok (.ireturn, 1) := by decide +kernel
theorem dX7_enact_0 : decode cX7_enact 0 = .ok (.iload_n 1, 1) := by decide +kernel
theorem dX7_enact_1 : decode cX7_enact 1 = .ok (.iload_n 2, 1) := by decide +kernel
theorem dX7_enact_2 : decode cX7_enact 2 = .ok (.iload_n 3, 1) := by decide +kernel
theorem dX7_enact_3 : decode cX7_enact 3 = .ok (.invokestatic 362, 3) := by decide +kernel
theorem dX7_enact_6 : decode cX7_enact 6 = .ok (.istore 4, 2) := by decide +kernel
theorem dX7_enact_8 : decode cX7_enact 8 = .ok (.aload_n 0, 1) := by decide +kernel
theorem dX7_enact_9 : decode cX7_enact 9 = .ok (.getfield 44, 3) := by decide +kernel
theorem dX7_enact_12 : decode cX7_enact 12 = .ok (.iload 4, 2) := by decide +kernel
theorem dX7_enact_14 : decode cX7_enact 14 = .ok (.invokevirtual 365, 3) := by decide +kernel
theorem dX7_enact_17 : decode cX7_enact 17 = .ok (.aload_n 0, 1) := by decide +kernel
theorem dX7_enact_18 : decode cX7_enact 18 = .ok (.getfield 34, 3) := by decide +kernel
theorem dX7_enact_21 : decode cX7_enact 21 = .ok (.aload_n 0, 1) := by decide +kernel
theorem dX7_enact_22 : decode cX7_enact 22 = .ok (.getfield 24, 3) := by decide +kernel
theorem dX7_enact_25 : decode cX7_enact 25 = .ok (.iload 4, 2) := by decide +kernel
theorem dX7_enact_27 : decode cX7_enact 27 = .ok (.invokevirtual 368, 3) := by decide +kernel
theorem dX7_enact_30 : decode cX7_enact 30 = .ok (.return_, 1) := by decide +kernel
theorem dX7_doAgain_0 : decode cX7_doAgain 0 = .ok (.aload_n 0, 1) := by decide +kernel
theorem dX7_doAgain_1 : decode cX7_doAgain 1 = .ok (.getfield 34, 3) := by decide +kernel
theorem dX7_doAgain_4 : decode cX7_doAgain 4 = .ok (.aload_n 0, 1) := by decide +kernel
theorem dX7_doAgain_5 : decode cX7_doAgain 5 = .ok (.getfield 24, 3) := by decide +kernel
theorem dX7_doAgain_8 : decode cX7_doAgain 8 = .ok (.invokevirtual 144, 3) := by decide +kernel
theorem dX7_doAgain_11 : decode cX7_doAgain 11 = .ok (.iconst 0, 1) := by decide +kernel
theorem dX7_doAgain_12 : decode cX7_doAgain 12 = .ok (.istore_n 1, 1) := by decide +kernel
theorem dX7_doAgain_13 : decode cX7_doAgain 13 = .ok (.iload_n 1, 1) := by decide +kernel
theorem dX7_doAgain_14 : decode cX7_doAgain 14 = .ok (.aload_n 0, 1) := by decide +kernel
theorem dX7_doAgain_15 : decode cX7_doAgain 15 = .ok (.getfield 44, 3) := by decide +kernel
theorem dX7_doAgain_18 : decode cX7_doAgain 18 = .ok (.getfield 86, 3) := by decide +kernel
theorem dX7_doAgain_21 : decode cX7_doAgain 21 = .ok (.if_icmp .ge 35, 3) := by decide +kernel
theorem dX7_doAgain_24 : decode cX7_doAgain 24 = .ok (.iload_n 1, 1) := by decide +kernel
theorem dX7_doAgain_25 : decode cX7_doAgain 25 = .ok (.bipush 40, 2) := by decide +kernel
theorem dX7_doAgain_27 : decode cX7_doAgain 27 = .ok (.if_icmp .ge 29, 3) := by decide +kernel
theorem dX7_doAgain_30 : decode cX7_doAgain 30 = .ok (.aload_n 0, 1) := by decide +kernel
theorem dX7_doAgain_31 : decode cX7_doAgain 31 = .ok (.getfield 34, 3) := by decide +kernel
theorem dX7_doAgain_34 : decode cX7_doAgain 34 = .ok (.aload_n 0, 1) := by decide +kernel
theorem dX7_doAgain_35 : decode cX7_doAgain 35 = .ok (.getfield 24, 3) := by decide +kernel
theorem dX7_doAgain_38 : decode cX7_doAgain 38 = .ok (.aload_n 0, 1) := by decide +kernel
theorem dX7_doAgain_39 : decode cX7_doAgain 39 = .ok (.getfield 44, 3) := by decide +kernel
theorem dX7_doAgain_42 : decode cX7_doAgain 42 = .ok (.getfield 372, 3) := by decide +kernel
theorem dX7_doAgain_45 : decode cX7_doAgain 45 = .ok (.iload_n 1, 1) := by decide +kernel
theorem dX7_doAgain_46 : decode cX7_doAgain 46 = .ok (.iaload, 1) := by decide +kernel
theorem dX7_doAgain_47 : decode cX7_doAgain 47 = .ok (.invokevirtual 368, 3) := by decide +kernel
theorem dX7_doAgain_50 : decode cX7_doAgain 50 = .ok (.iinc 1 1, 3) := by decide +kernel
theorem dX7_doAgain_53 : decode cX7_doAgain 53 = .ok (.goto (-40), 3) := by decide +kernel
theorem dX7_doAgain_56 : decode cX7_doAgain 56 = .ok (.return_, 1) := by decide +kernel
theorem dX7_enactLot_0 : decode cX7_enactLot 0 = .ok (.iload_n 1, 1) := by decide +kernel
theorem dX7_enactLot_1 : decode cX7_enactLot 1 = .ok (.ifCond .lt 25, 3) := by decide +kernel
theorem dX7_enactLot_4 : decode cX7_enactLot 4 = .ok (.aload_n 0, 1) := by decide +kernel
theorem dX7_enactLot_5 : decode cX7_enactLot 5 = .ok (.getfield 24, 3) := by decide +kernel
theorem dX7_enactLot_8 : decode cX7_enactLot 8 = .ok (.getfield 214, 3) := by decide +kernel
theorem dX7_enactLot_11 : decode cX7_enactLot 11 = .ok (.iconst 1, 1) := by decide +kernel
theorem dX7_enactLot_12 : decode cX7_enactLot 12 = .ok (.if_icmp .lt 14, 3) := by decide +kernel
theorem dX7_enactLot_15 : decode cX7_enactLot 15 = .ok (.aload_n 0, 1) := by decide +kernel
theorem dX7_enactLot_16 : decode cX7_enactLot 16 = .ok (.getfield 24, 3) := by decide +kernel
theorem dX7_enactLot_19 : decode cX7_enactLot 19 = .ok (.getfield 148, 3) := by decide +kernel
theorem dX7_enactLot_22 : decode cX7_enactLot 22 = .ok (.iconst 1, 1) := by decide +kernel
theorem dX7_enactLot_23 : decode cX7_enactLot 23 = .ok (.if_icmp .ge 4, 3) := by decide +kernel
theorem dX7_enactLot_26 : decode cX7_enactLot 26 = .ok (.return_, 1) := by decide +kernel
theorem dX7_enactLot_27 : decode cX7_enactLot 27 = .ok (.iload_n 1, 1) := by decide +kernel
theorem dX7_enactLot_28 : decode cX7_enactLot 28 = .ok (.aload_n 0, 1) := by decide +kernel
theorem dX7_enactLot_29 : decode cX7_enactLot 29 = .ok (.getfield 24, 3) := by decide +kernel
theorem dX7_enactLot_32 : decode cX7_enactLot 32 = .ok (.getfield 214, 3) := by decide +kernel
theorem dX7_enactLot_35 : decode cX7_enactLot 35 = .ok (.irem, 1) := by decide +kernel
theorem dX7_enactLot_36 : decode cX7_enactLot 36 = .ok (.istore_n 2, 1) := by decide +kernel
theorem dX7_enactLot_37 : decode cX7_enactLot 37 = .ok (.iload_n 1, 1) := by decide +kernel
theorem dX7_enactLot_38 : decode cX7_enactLot 38 = .ok (.bipush 64, 2) := by decide +kernel
theorem dX7_enactLot_40 : decode cX7_enactLot 40 = .ok (.idiv, 1) := by decide +kernel
theorem dX7_enactLot_41 : decode cX7_enactLot 41 = .ok (.aload_n 0, 1) := by decide +kernel
theorem dX7_enactLot_42 : decode cX7_enactLot 42 = .ok (.getfield 24, 3) := by decide +kernel
theorem dX7_enactLot_45 : decode cX7_enactLot 45 = .ok (.getfield 148, 3) := by decide +kernel
theorem dX7_enactLot_48 : decode cX7_enactLot 48 = .ok (.irem, 1) := by decide +kernel
theorem dX7_enactLot_49 : decode cX7_enactLot 49 = .ok (.istore_n 3, 1) := by decide +kernel
theorem dX7_enactLot_50 : decode cX7_enactLot 50 = .ok (.iload_n 1, 1) := by decide +kernel
theorem dX7_enactLot_51 : decode cX7_enactLot 51 = .ok (.bipush 8, 2) := by decide +kernel
theorem dX7_enactLot_53 : decode cX7_enactLot 53 = .ok (.idiv, 1) := by decide +kernel
theorem dX7_enactLot_54 : decode cX7_enactLot 54 = .ok (.iconst 4, 1) := by decide +kernel
theorem dX7_enactLot_55 : decode cX7_enactLot 55 = .ok (.irem, 1) := by decide +kernel
theorem dX7_enactLot_56 : decode cX7_enactLot 56 = .ok (.ifCond .ne 13, 3) := by decide +kernel
theorem dX7_enactLot_59 : decode cX7_enactLot 59 = .ok (.aload_n 0, 1) := by decide +kernel
theorem dX7_enactLot_60 : decode cX7_enactLot 60 = .ok (.iconst 2, 1) := by decide +kernel
theorem dX7_enactLot_61 : decode cX7_enactLot 61 = .ok (.iload_n 2, 1) := by decide +kernel
theorem dX7_enactLot_62 : decode cX7_enactLot 62 = .ok (.iconst 0, 1) := by decide +kernel
theorem dX7_enactLot_63 : decode cX7_enactLot 63 = .ok (.invokevirtual 188, 3) := by decide +kernel
theorem dX7_enactLot_66 : decode cX7_enactLot 66 = .ok (.goto 65, 3) := by decide +kernel
theorem dX7_enactLot_69 : decode cX7_enactLot 69 = .ok (.aload_n 0, 1) := by decide +kernel
theorem dX7_enactLot_70 : decode cX7_enactLot 70 = .ok (.getfield 34, 3) := by decide +kernel
theorem dX7_enactLot_73 : decode cX7_enactLot 73 = .ok (.aload_n 0, 1) := by decide +kernel
theorem dX7_enactLot_74 : decode cX7_enactLot 74 = .ok (.getfield 24, 3) := by decide +kernel
theorem dX7_enactLot_77 : decode cX7_enactLot 77 = .ok (.iload_n 2, 1) := by decide +kernel
theorem dX7_enactLot_78 : decode cX7_enactLot 78 = .ok (.iload_n 3, 1) := by decide +kernel
theorem dX7_enactLot_79 : decode cX7_enactLot 79 = .ok (.invokevirtual 341, 3) := by decide +kernel
theorem dX7_enactLot_82 : decode cX7_enactLot 82 = .ok (.ifCond .eq 34, 3) := by decide +kernel
theorem dX7_enactLot_85 : decode cX7_enactLot 85 = .ok (.aload_n 0, 1) := by decide +kernel
theorem dX7_enactLot_86 : decode cX7_enactLot 86 = .ok (.getfield 34, 3) := by decide +kernel
theorem dX7_enactLot_89 : decode cX7_enactLot 89 = .ok (.getfield 177, 3) := by decide +kernel
theorem dX7_enactLot_92 : decode cX7_enactLot 92 = .ok (.iload_n 2, 1) := by decide +kernel
theorem dX7_enactLot_93 : decode cX7_enactLot 93 = .ok (.iaload, 1) := by decide +kernel
theorem dX7_enactLot_94 : decode cX7_enactLot 94 = .ok (.aload_n 0, 1) := by decide +kernel
theorem dX7_enactLot_95 : decode cX7_enactLot 95 = .ok (.getfield 24, 3) := by decide +kernel
theorem dX7_enactLot_98 : decode cX7_enactLot 98 = .ok (.getfield 198, 3) := by decide +kernel
theorem dX7_enactLot_101 : decode cX7_enactLot 101 = .ok (.iload_n 3, 1) := by decide +kernel
theorem dX7_enactLot_102 : decode cX7_enactLot 102 = .ok (.iaload, 1) := by decide +kernel
theorem dX7_enactLot_103 : decode cX7_enactLot 103 = .ok (.if_icmp .ne 13, 3) := by decide +kernel
theorem dX7_enactLot_106 : decode cX7_enactLot 106 = .ok (.aload_n 0, 1) := by decide +kernel
theorem dX7_enactLot_107 : decode cX7_enactLot 107 = .ok (.iconst 1, 1) := by decide +kernel
theorem dX7_enactLot_108 : decode cX7_enactLot 108 = .ok (.iload_n 2, 1) := by decide +kernel
theorem dX7_enactLot_109 : decode cX7_enactLot 109 = .ok (.iload_n 3, 1) := by decide +kernel
theorem dX7_enactLot_110 : decode cX7_enactLot 110 = .ok (.invokevirtual 188, 3) := by decide +kernel
theorem dX7_enactLot_113 : decode cX7_enactLot 113 = .ok (.goto 18, 3) := by decide +kernel
theorem dX7_enactLot_116 : decode cX7_enactLot 116 = .ok (.aload_n 0, 1) := by decide +kernel
theorem dX7_enactLot_117 : decode cX7_enactLot 117 = .ok (.iconst 0, 1) := by decide +kernel
theorem dX7_enactLot_118 : decode cX7_enactLot 118 = .ok (.iload_n 2, 1) := by decide +kernel
theorem dX7_enactLot_119 : decode cX7_enactLot 119 = .ok (.aload_n 0, 1) := by decide +kernel
theorem dX7_enactLot_120 : decode cX7_enactLot 120 = .ok (.getfield 24, 3) := by decide +kernel
theorem dX7_enactLot_123 : decode cX7_enactLot 123 = .ok (.getfield 198, 3) := by decide +kernel
theorem dX7_enactLot_126 : decode cX7_enactLot 126 = .ok (.iload_n 3, 1) := by decide +kernel
theorem dX7_enactLot_127 : decode cX7_enactLot 127 = .ok (.iaload, 1) := by decide +kernel
theorem dX7_enactLot_128 : decode cX7_enactLot 128 = .ok (.invokevirtual 188, 3) := by decide +kernel
theorem dX7_enactLot_131 : decode cX7_enactLot 131 = .ok (.return_, 1) := by decide +kernel
theorem dX7_giveOut_0 : decode cX7_giveOut 0 = .ok (.aload_n 0, 1) := by decide +kernel
theorem dX7_giveOut_1 : decode cX7_giveOut 1 = .ok (.iload_n 1, 1) := by decide +kernel
theorem dX7_giveOut_2 : decode cX7_giveOut 2 = .ok (.invokevirtual 89, 3) := by decide +kernel
theorem dX7_giveOut_5 : decode cX7_giveOut 5 = .ok (.astore_n 3, 1) := by decide +kernel
theorem dX7_giveOut_6 : decode cX7_giveOut 6 = .ok (.aload_n 3, 1) := by decide +kernel
theorem dX7_giveOut_7 : decode cX7_giveOut 7 = .ok (.ifnonnull 5, 3) := by decide +kernel
theorem dX7_giveOut_10 : decode cX7_giveOut 10 = .ok (.iconst (-1), 1) := by decide +kernel
theorem dX7_giveOut_11 : decode cX7_giveOut 11 = .ok (.ireturn, 1) := by decide +kernel
theorem dX7_giveOut_12 : decode cX7_giveOut 12 = .ok (.aload_n 0, 1) := by decide +kernel
theorem dX7_giveOut_13 : decode cX7_giveOut 13 = .ok (.getfield 24, 3) := by decide +kernel
theorem dX7_giveOut_16 : decode cX7_giveOut 16 = .ok (.getfield 214, 3) := by decide +kernel
theorem dX7_giveOut_19 : decode cX7_giveOut 19 = .ok (.ifCond .ne 6, 3) := by decide +kernel
theorem dX7_giveOut_22 : decode cX7_giveOut 22 = .ok (.bipush (-4), 2) := by decide +kernel
theorem dX7_giveOut_24 : decode cX7_giveOut 24 = .ok (.ireturn, 1) := by decide +kernel
theorem dX7_giveOut_25 : decode cX7_giveOut 25 = .ok (.aload_n 0, 1) := by decide +kernel
theorem dX7_giveOut_26 : decode cX7_giveOut 26 = .ok (.getfield 55, 3) := by decide +kernel
theorem dX7_giveOut_29 : decode cX7_giveOut 29 = .ok (.aload_n 0, 1) := by decide +kernel
theorem dX7_giveOut_30 : decode cX7_giveOut 30 = .ok (.getfield 24, 3) := by decide +kernel
theorem dX7_giveOut_33 : decode cX7_giveOut 33 = .ok (.aload_n 0, 1) := by decide +kernel
theorem dX7_giveOut_34 : decode cX7_giveOut 34 = .ok (.getfield 34, 3) := by decide +kernel
theorem dX7_giveOut_37 : decode cX7_giveOut 37 = .ok (.iload_n 2, 1) := by decide +kernel
theorem dX7_giveOut_38 : decode cX7_giveOut 38 = .ok (.invokevirtual 375, 3) := by decide +kernel
theorem dX7_giveOut_41 : decode cX7_giveOut 41 = .ok (.istore 4, 2) := by decide +kernel
theorem dX7_giveOut_43 : decode cX7_giveOut 43 = .ok (.aload_n 3, 1) := by decide +kernel
theorem dX7_giveOut_44 : decode cX7_giveOut 44 = .ok (.aload_n 0, 1) := by decide +kernel
theorem dX7_giveOut_45 : decode cX7_giveOut 45 = .ok (.getfield 24, 3) := by decide +kernel
theorem dX7_giveOut_48 : decode cX7_giveOut 48 = .ok (.getfield 148, 3) := by decide +kernel
theorem dX7_giveOut_51 : decode cX7_giveOut 51 = .ok (.invokevirtual 97, 3) := by decide +kernel
theorem dX7_giveOut_54 : decode cX7_giveOut 54 = .ok (.aload_n 0, 1) := by decide +kernel
theorem dX7_giveOut_55 : decode cX7_giveOut 55 = .ok (.getfield 55, 3) := by decide +kernel
theorem dX7_giveOut_58 : decode cX7_giveOut 58 = .ok (.getfield 378, 3) := by decide +kernel
theorem dX7_giveOut_61 : decode cX7_giveOut 61 = .ok (.iconst 0, 1) := by decide +kernel
theorem dX7_giveOut_62 : decode cX7_giveOut 62 = .ok (.aload_n 3, 1) := by decide +kernel
theorem dX7_giveOut_63 : decode cX7_giveOut 63 = .ok (.getfield 109, 3) := by decide +kernel
theorem dX7_giveOut_66 : decode cX7_giveOut 66 = .ok (.iconst 0, 1) := by decide +kernel
theorem dX7_giveOut_67 : decode cX7_giveOut 67 = .ok (.aload_n 0, 1) := by decide +kernel
theorem dX7_giveOut_68 : decode cX7_giveOut 68 = .ok (.getfield 24, 3) := by decide +kernel
theorem dX7_giveOut_71 : decode cX7_giveOut 71 = .ok (.getfield 148, 3) := by decide +kernel
theorem dX7_giveOut_74 : decode cX7_giveOut 74 = .ok (.invokestatic 119, 3) := by decide +kernel
theorem dX7_giveOut_77 : decode cX7_giveOut 77 = .ok (.iload 4, 2) := by decide +kernel
theorem dX7_giveOut_79 : decode cX7_giveOut 79 = .ok (.ireturn, 1) := by decide +kernel
theorem dX7_plainGold_0 : decode cX7_plainGold 0 = .ok (.aload_n 0, 1) := by decide +kernel
theorem dX7_plainGold_1 : decode cX7_plainGold 1 = .ok (.getfield 38, 3) := by decide +kernel
theorem dX7_plainGold_4 : decode cX7_plainGold 4 = .ok (.aload_n 0, 1) := by decide +kernel
theorem dX7_plainGold_5 : decode cX7_plainGold 5 = .ok (.getfield 34, 3) := by decide +kernel
theorem dX7_plainGold_8 : decode cX7_plainGold 8 = .ok (.invokevirtual 276, 3) := by decide +kernel
theorem dX7_plainGold_11 : decode cX7_plainGold 11 = .ok (.aload_n 0, 1) := by decide +kernel
theorem dX7_plainGold_12 : decode cX7_plainGold 12 = .ok (.getfield 38, 3) := by decide +kernel
theorem dX7_plainGold_15 : decode cX7_plainGold 15 = .ok (.iconst 0, 1) := by decide +kernel
theorem dX7_plainGold_16 : decode cX7_plainGold 16 = .ok (.putfield 204, 3) := by decide +kernel
theorem dX7_plainGold_19 : decode cX7_plainGold 19 = .ok (.iconst 0, 1) := by decide +kernel
theorem dX7_plainGold_20 : decode cX7_plainGold 20 = .ok (.istore_n 2, 1) := by decide +kernel
theorem dX7_plainGold_21 : decode cX7_plainGold 21 = .ok (.iload_n 2, 1) := by decide +kernel
theorem dX7_plainGold_22 : decode cX7_plainGold 22 = .ok (.aload_n 0, 1) := by decide +kernel
theorem dX7_plainGold_23 : decode cX7_plainGold 23 = .ok (.getfield 24, 3) := by decide +kernel
theorem dX7_plainGold_26 : decode cX7_plainGold 26 = .ok (.getfield 148, 3) := by decide +kernel
theorem dX7_plainGold_29 : decode cX7_plainGold 29 = .ok (.if_icmp .ge 65, 3) := by decide +kernel
theorem dX7_plainGold_32 : decode cX7_plainGold 32 = .ok (.iconst 0, 1) := by decide +kernel
theorem dX7_plainGold_33 : decode cX7_plainGold 33 = .ok (.istore_n 3, 1) := by decide +kernel
theorem dX7_plainGold_34 : decode cX7_plainGold 34 = .ok (.iload_n 3, 1) := by decide +kernel
theorem dX7_plainGold_35 : decode cX7_plainGold 35 = .ok (.aload_n 0, 1) := by decide +kernel
theorem dX7_plainGold_36 : decode cX7_plainGold 36 = .ok (.getfield 24, 3) := by decide +kernel
theorem dX7_plainGold_39 : decode cX7_plainGold 39 = .ok (.getfield 214, 3) := by decide +kernel
theorem dX7_plainGold_42 : decode cX7_plainGold 42 = .ok (.if_icmp .ge 46, 3) := by decide +kernel
theorem dX7_plainGold_45 : decode cX7_plainGold 45 = .ok (.iload_n 1, 1) := by decide +kernel
theorem dX7_plainGold_46 : decode cX7_plainGold 46 = .ok (.iload_n 2, 1) := by decide +kernel
theorem dX7_plainGold_47 : decode cX7_plainGold 47 = .ok (.invokestatic 255, 3) := by decide +kernel
theorem dX7_plainGold_50 : decode cX7_plainGold 50 = .ok (.ifCond .ne 38, 3) := by decide +kernel
theorem dX7_plainGold_53 : decode cX7_plainGold 53 = .ok (.aload_n 0, 1) := by decide +kernel
theorem dX7_plainGold_54 : decode cX7_plainGold 54 = .ok (.getfield 38, 3) := by decide +kernel
theorem dX7_plainGold_57 : decode cX7_plainGold 57 = .ok (.aload_n 0, 1) := by decide +kernel
theorem dX7_plainGold_58 : decode cX7_plainGold 58 = .ok (.getfield 24, 3) := by decide +kernel
theorem dX7_plainGold_61 : decode cX7_plainGold 61 = .ok (.iload_n 3, 1) := by decide +kernel
theorem dX7_plainGold_62 : decode cX7_plainGold 62 = .ok (.iload_n 2, 1) := by decide +kernel
theorem dX7_plainGold_63 : decode cX7_plainGold 63 = .ok (.invokevirtual 341, 3) := by decide +kernel
theorem dX7_plainGold_66 : decode cX7_plainGold 66 = .ok (.ifCond .eq 16, 3) := by decide +kernel
theorem dX7_plainGold_69 : decode cX7_plainGold 69 = .ok (.aload_n 0, 1) := by decide +kernel
theorem dX7_plainGold_70 : decode cX7_plainGold 70 = .ok (.getfield 38, 3) := by decide +kernel
theorem dX7_plainGold_73 : decode cX7_plainGold 73 = .ok (.aload_n 0, 1) := by decide +kernel
theorem dX7_plainGold_74 : decode cX7_plainGold 74 = .ok (.getfield 24, 3) := by decide +kernel
theorem dX7_plainGold_77 : decode cX7_plainGold 77 = .ok (.iload_n 3, 1) := by decide +kernel
theorem dX7_plainGold_78 : decode cX7_plainGold 78 = .ok (.iload_n 2, 1) := by decide +kernel
theorem dX7_plainGold_79 : decode cX7_plainGold 79 = .ok (.invokevirtual 381, 3) := by decide +kernel
theorem dX7_plainGold_82 : decode cX7_plainGold 82 = .ok (.iinc 3 1, 3) := by decide +kernel
theorem dX7_plainGold_85 : decode cX7_plainGold 85 = .ok (.goto (-51), 3) := by decide +kernel
theorem dX7_plainGold_88 : decode cX7_plainGold 88 = .ok (.iinc 2 1, 3) := by decide +kernel
theorem dX7_plainGold_91 : decode cX7_plainGold 91 = .ok (.goto (-70), 3) := by decide +kernel
theorem dX7_plainGold_94 : decode cX7_plainGold 94 = .ok (.aload_n 0, 1) := by decide +kernel
theorem dX7_plainGold_95 : decode cX7_plainGold 95 = .ok (.getfield 38, 3) := by decide +kernel
theorem dX7_plainGold_98 : decode cX7_plainGold 98 = .ok (.getfield 204, 3) := by decide +kernel
theorem dX7_plainGold_101 : decode cX7_plainGold 101 = .ok (.ireturn, 1) := by decide +kernel
theorem dX7_weightOf_0 : decode cX7_weightOf 0 = .ok (.lconst 1, 1) := by decide +kernel
theorem dX7_weightOf_1 : decode cX7_weightOf 1 = .ok (.lstore_n 3, 1) := by decide +kernel
theorem dX7_weightOf_2 : decode cX7_weightOf 2 = .ok (.iconst 0, 1) := by decide +kernel
theorem dX7_weightOf_3 : decode cX7_weightOf 3 = .ok (.istore 5, 2) := by decide +kernel
theorem dX7_weightOf_5 : decode cX7_weightOf 5 = .ok (.iload 5, 2) := by decide +kernel
theorem dX7_weightOf_7 : decode cX7_weightOf 7 = .ok (.aload_n 0, 1) := by decide +kernel
theorem dX7_weightOf_8 : decode cX7_weightOf 8 = .ok (.getfield 24, 3) := by decide +kernel
theorem dX7_weightOf_11 : decode cX7_weightOf 11 = .ok (.getfield 148, 3) := by decide +kernel
theorem dX7_weightOf_14 : decode cX7_weightOf 14 = .ok (.if_icmp .ge 43, 3) := by decide +kernel
theorem dX7_weightOf_17 : decode cX7_weightOf 17 = .ok (.aload_n 0, 1) := by decide +kernel
theorem dX7_weightOf_18 : decode cX7_weightOf 18 = .ok (.getfield 34, 3) := by decide +kernel
theorem dX7_weightOf_21 : decode cX7_weightOf 21 = .ok (.iload 5, 2) := by decide +kernel
theorem dX7_weightOf_23 : decode cX7_weightOf 23 = .ok (.invokevirtual 195, 3) := by decide +kernel
theorem dX7_weightOf_26 : decode cX7_weightOf 26 = .ok (.ifCond .ne 25, 3) := by decide +kernel
theorem dX7_weightOf_29 : decode cX7_weightOf 29 = .ok (.lload_n 3, 1) := by decide +kernel
theorem dX7_weightOf_30 : decode cX7_weightOf 30 = .ok (.iload_n 1, 1) := by decide +kernel
theorem dX7_weightOf_31 : decode cX7_weightOf 31 = .ok (.iload 5, 2) := by decide +kernel
theorem dX7_weightOf_33 : decode cX7_weightOf 33 = .ok (.invokestatic 255, 3) := by decide +kernel
theorem dX7_weightOf_36 : decode cX7_weightOf 36 = .ok (.ifCond .eq 8, 3) := by decide +kernel
theorem dX7_weightOf_39 : decode cX7_weightOf 39 = .ok (.iload_n 2, 1) := by decide +kernel
theorem dX7_weightOf_40 : decode cX7_weightOf 40 = .ok (.i2l, 1) := by decide +kernel
theorem dX7_weightOf_41 : decode cX7_weightOf 41 = .ok (.goto 8, 3) := by decide +kernel
theorem dX7_weightOf_44 : decode cX7_weightOf 44 = .ok (.bipush 12, 2) := by decide +kernel
theorem dX7_weightOf_46 : decode cX7_weightOf 46 = .ok (.iload_n 2, 1) := by decide +kernel
theorem dX7_weightOf_47 : decode cX7_weightOf 47 = .ok (.isub, 1) := by decide +kernel
theorem dX7_weightOf_48 : decode cX7_weightOf 48 = .ok (.i2l, 1) := by decide +kernel
theorem dX7_weightOf_49 : decode cX7_weightOf 49 = .ok (.lmul, 1) := by decide +kernel
theorem dX7_weightOf_50 : decode cX7_weightOf 50 = .ok (.lstore_n 3, 1) := by decide +kernel
theorem dX7_weightOf_51 : decode cX7_weightOf 51 = .ok (.iinc 5 1, 3) := by decide +kernel
theorem dX7_weightOf_54 : decode cX7_weightOf 54 = .ok (.goto (-49), 3) := by decide +kernel
theorem dX7_weightOf_57 : decode cX7_weightOf 57 = .ok (.lload_n 3, 1) := by decide +kernel
theorem dX7_weightOf_58 : decode cX7_weightOf 58 = .ok (.lreturn, 1) := by decide +kernel
theorem dX7_weightOfAll_0 : decode cX7_weightOfAll 0 = .ok (.lconst 1, 1) := by decide +kernel
theorem dX7_weightOfAll_1 : decode cX7_weightOfAll 1 = .ok (.lstore_n 1, 1) := by decide +kernel
theorem dX7_weightOfAll_2 : decode cX7_weightOfAll 2 = .ok (.iconst 0, 1) := by decide +kernel
theorem dX7_weightOfAll_3 : decode cX7_weightOfAll 3 = .ok (.istore_n 3, 1) := by decide +kernel
theorem dX7_weightOfAll_4 : decode cX7_weightOfAll 4 = .ok (.iload_n 3, 1) := by decide +kernel
theorem dX7_weightOfAll_5 : decode cX7_weightOfAll 5 = .ok (.aload_n 0, 1) := by decide +kernel
theorem dX7_weightOfAll_6 : decode cX7_weightOfAll 6 = .ok (.getfield 24, 3) := by decide +kernel
theorem dX7_weightOfAll_9 : decode cX7_weightOfAll 9 = .ok (.getfield 148, 3) := by decide +kernel
theorem dX7_weightOfAll_12 : decode cX7_weightOfAll 12 = .ok (.if_icmp .ge 26, 3) := by decide +kernel
theorem dX7_weightOfAll_15 : decode cX7_weightOfAll 15 = .ok (.aload_n 0, 1) := by decide +kernel
theorem dX7_weightOfAll_16 : decode cX7_weightOfAll 16 = .ok (.getfield 34, 3) := by decide +kernel
theorem dX7_weightOfAll_19 : decode cX7_weightOfAll 19 = .ok (.iload_n 3, 1) := by decide +kernel
theorem dX7_weightOfAll_20 : decode cX7_weightOfAll 20 = .ok (.invokevirtual 195, 3) := by decide +kernel
theorem dX7_weightOfAll_23 : decode cX7_weightOfAll 23 = .ok (.ifCond .ne 9, 3) := by decide +kernel
theorem dX7_weightOfAll_26 : decode cX7_weightOfAll 26 = .ok (.lload_n 1, 1) := by decide +kernel
theorem dX7_weightOfAll_27 : decode cX7_weightOfAll 27 = .ok (.ldc2_w 385, 3) := by decide +kernel
theorem dX7_weightOfAll_30 : decode cX7_weightOfAll 30 = .ok (.lmul, 1) := by decide +kernel
theorem dX7_weightOfAll_31 : decode cX7_weightOfAll 31 = .ok (.lstore_n 1, 1) := by decide +kernel
theorem dX7_weightOfAll_32 : decode cX7_weightOfAll 32 = .ok (.iinc 3 1, 3) := by decide +kernel
theorem dX7_weightOfAll_35 : decode cX7_weightOfAll 35 = .ok (.goto (-31), 3) := by decide +kernel
theorem dX7_weightOfAll_38 : decode cX7_weightOfAll 38 = .ok (.lload_n 1, 1) := by decide +kernel
theorem dX7_weightOfAll_39 : decode cX7_weightOfAll 39 = .ok (.lreturn, 1) := by decide +kernel
theorem dX7_tellChance_0 : decode cX7_tellChance 0 = .ok (.lload_n 3, 1) := by decide +kernel
theorem dX7_tellChance_1 : decode cX7_tellChance 1 = .ok (.lstore 5, 2) := by decide +kernel
theorem dX7_tellChance_3 : decode cX7_tellChance 3 = .ok (.lload_n 1, 1) := by decide +kernel
theorem dX7_tellChance_4 : decode cX7_tellChance 4 = .ok (.lstore 7, 2) := by decide +kernel
theorem dX7_tellChance_6 : decode cX7_tellChance 6 = .ok (.iconst 0, 1) := by decide +kernel
theorem dX7_tellChance_7 : decode cX7_tellChance 7 = .ok (.istore 9, 2) := by decide +kernel
theorem dX7_tellChance_9 : decode cX7_tellChance 9 = .ok (.iload 9, 2) := by decide +kernel
theorem dX7_tellChance_11 : decode cX7_tellChance 11 = .ok (.sipush 128, 3) := by decide +kernel
theorem dX7_tellChance_14 : decode cX7_tellChance 14 = .ok (.if_icmp .ge 31, 3) := by decide +kernel
theorem dX7_tellChance_17 : decode cX7_tellChance 17 = .ok (.lload 7, 2) := by decide +kernel
theorem dX7_tellChance_19 : decode cX7_tellChance 19 = .ok (.lconst 0, 1) := by decide +kernel
theorem dX7_tellChance_20 : decode cX7_tellChance 20 = .ok (.lcmp, 1) := by decide +kernel
theorem dX7_tellChance_21 : decode cX7_tellChance 21 = .ok (.ifCond .eq 24, 3) := by decide +kernel
theorem dX7_tellChance_24 : decode cX7_tellChance 24 = .ok (.lload 5, 2) := by decide +kernel
theorem dX7_tellChance_26 : decode cX7_tellChance 26 = .ok (.lload 7, 2) := by decide +kernel
theorem dX7_tellChance_28 : decode cX7_tellChance 28 = .ok (.lrem, 1) := by decide +kernel
theorem dX7_tellChance_29 : decode cX7_tellChance 29 = .ok (.lstore 10, 2) := by decide +kernel
theorem dX7_tellChance_31 : decode cX7_tellChance 31 = .ok (.lload 7, 2) := by decide +kernel
theorem dX7_tellChance_33 : decode cX7_tellChance 33 = .ok (.lstore 5, 2) := by decide +kernel
theorem dX7_tellChance_35 : decode cX7_tellChance 35 = .ok (.lload 10, 2) := by decide +kernel
theorem dX7_tellChance_37 : decode cX7_tellChance 37 = .ok (.lstore 7, 2) := by decide +kernel
theorem dX7_tellChance_39 : decode cX7_tellChance 39 = .ok (.iinc 9 1, 3) := by decide +kernel
theorem dX7_tellChance_42 : decode cX7_tellChance 42 = .ok (.goto (-33), 3) := by decide +kernel
theorem dX7_tellChance_45 : decode cX7_tellChance 45 = .ok (.lload 5, 2) := by decide +kernel
theorem dX7_tellChance_47 : decode cX7_tellChance 47 = .ok (.lconst 0, 1) := by decide +kernel
theorem dX7_tellChance_48 : decode cX7_tellChance 48 = .ok (.lcmp, 1) := by decide +kernel
theorem dX7_tellChance_49 : decode cX7_tellChance 49 = .ok (.ifCond .le 19, 3) := by decide +kernel
theorem dX7_tellChance_52 : decode cX7_tellChance 52 = .ok (.aload_n 0, 1) := by decide +kernel
theorem dX7_tellChance_53 : decode cX7_tellChance 53 = .ok (.lload_n 1, 1) := by decide +kernel
theorem dX7_tellChance_54 : decode cX7_tellChance 54 = .ok (.lload 5, 2) := by decide +kernel
theorem dX7_tellChance_56 : decode cX7_tellChance 56 = .ok (.ldiv, 1) := by decide +kernel
theorem dX7_tellChance_57 : decode cX7_tellChance 57 = .ok (.putfield 70, 3) := by decide +kernel
theorem dX7_tellChance_60 : decode cX7_tellChance 60 = .ok (.aload_n 0, 1) := by decide +kernel
theorem dX7_tellChance_61 : decode cX7_tellChance 61 = .ok (.lload_n 3, 1) := by decide +kernel
theorem dX7_tellChance_62 : decode cX7_tellChance 62 = .ok (.lload 5, 2) := by decide +kernel
theorem dX7_tellChance_64 : decode cX7_tellChance 64 = .ok (.ldiv, 1) := by decide +kernel
theorem dX7_tellChance_65 : decode cX7_tellChance 65 = .ok (.putfield 74, 3) := by decide +kernel
theorem dX7_tellChance_68 : decode cX7_tellChance 68 = .ok (.return_, 1) := by decide +kernel
theorem dX7_stepsThrough_0 : decode cX7_stepsThrough 0 = .ok (.iload_n 1, 1) := by decide +kernel
theorem dX7_stepsThrough_1 : decode cX7_stepsThrough 1 = .ok (.istore_n 3, 1) := by decide +kernel
theorem dX7_stepsThrough_2 : decode cX7_stepsThrough 2 = .ok (.iload_n 1, 1) := by decide +kernel
theorem dX7_stepsThrough_3 : decode cX7_stepsThrough 3 = .ok (.istore 4, 2) := by decide +kernel
theorem dX7_stepsThrough_5 : decode cX7_stepsThrough 5 = .ok (.iconst 0, 1) := by decide +kernel
theorem dX7_stepsThrough_6 : decode cX7_stepsThrough 6 = .ok (.istore 5, 2) := by decide +kernel
theorem dX7_stepsThrough_8 : decode cX7_stepsThrough 8 = .ok (.iload 5, 2) := by decide +kernel
theorem dX7_stepsThrough_10 : decode cX7_stepsThrough 10 = .ok (.aload_n 0, 1) := by decide +kernel
theorem dX7_stepsThrough_11 : decode cX7_stepsThrough 11 = .ok (.getfield 24, 3) := by decide +kernel
theorem dX7_stepsThrough_14 : decode cX7_stepsThrough 14 = .ok (.getfield 148, 3) := by decide +kernel
theorem dX7_stepsThrough_17 : decode cX7_stepsThrough 17 = .ok (.if_icmp .ge 50, 3) := by decide +kernel
theorem dX7_stepsThrough_20 : decode cX7_stepsThrough 20 = .ok (.iload_n 2, 1) := by decide +kernel
theorem dX7_stepsThrough_21 : decode cX7_stepsThrough 21 = .ok (.iload 5, 2) := by decide +kernel
theorem dX7_stepsThrough_23 : decode cX7_stepsThrough 23 = .ok (.invokestatic 255, 3) := by decide +kernel
theorem dX7_stepsThrough_26 : decode cX7_stepsThrough 26 = .ok (.ifCond .eq 35, 3) := by decide +kernel
theorem dX7_stepsThrough_29 : decode cX7_stepsThrough 29 = .ok (.iload_n 3, 1) := by decide +kernel
theorem dX7_stepsThrough_30 : decode cX7_stepsThrough 30 = .ok (.aload_n 0, 1) := by decide +kernel
theorem dX7_stepsThrough_31 : decode cX7_stepsThrough 31 = .ok (.getfield 24, 3) := by decide +kernel
theorem dX7_stepsThrough_34 : decode cX7_stepsThrough 34 = .ok (.getfield 198, 3) := by decide +kernel
theorem dX7_stepsThrough_37 : decode cX7_stepsThrough 37 = .ok (.iload 5, 2) := by decide +kernel
theorem dX7_stepsThrough_39 : decode cX7_stepsThrough 39 = .ok (.iaload, 1) := by decide +kernel
theorem dX7_stepsThrough_40 : decode cX7_stepsThrough 40 = .ok (.invokestatic 387, 3) := by decide +kernel
theorem dX7_stepsThrough_43 : decode cX7_stepsThrough 43 = .ok (.istore_n 3, 1) := by decide +kernel
theorem dX7_stepsThrough_44 : decode cX7_stepsThrough 44 = .ok (.iload 4, 2) := by decide +kernel
theorem dX7_stepsThrough_46 : decode cX7_stepsThrough 46 = .ok (.aload_n 0, 1) := by decide +kernel
theorem dX7_stepsThrough_47 : decode cX7_stepsThrough 47 = .ok (.getfield 24, 3) := by decide +kernel
theorem dX7_stepsThrough_50 : decode cX7_stepsThrough 50 = .ok (.getfield 198, 3) := by decide +kernel
theorem dX7_stepsThrough_53 : decode cX7_stepsThrough 53 = .ok (.iload 5, 2) := by decide +kernel
theorem dX7_stepsThrough_55 : decode cX7_stepsThrough 55 = .ok (.iaload, 1) := by decide +kernel
theorem dX7_stepsThrough_56 : decode cX7_stepsThrough 56 = .ok (.invokestatic 324, 3) := by decide +kernel
theorem dX7_stepsThrough_59 : decode cX7_stepsThrough 59 = .ok (.istore 4, 2) := by decide +kernel
theorem dX7_stepsThrough_61 : decode cX7_stepsThrough 61 = .ok (.iinc 5 1, 3) := by decide +kernel
theorem dX7_stepsThrough_64 : decode cX7_stepsThrough 64 = .ok (.goto (-56), 3) := by decide +kernel
theorem dX7_stepsThrough_67 : decode cX7_stepsThrough 67 = .ok (.iload 4, 2) := by decide +kernel
theorem dX7_stepsThrough_69 : decode cX7_stepsThrough 69 = .ok (.iload_n 3, 1) := by decide +kernel
theorem dX7_stepsThrough_70 : decode cX7_stepsThrough 70 = .ok (.isub, 1) := by decide +kernel
theorem dX7_stepsThrough_71 : decode cX7_stepsThrough 71 = .ok (.iload 4, 2) := by decide +kernel
theorem dX7_stepsThrough_73 : decode cX7_stepsThrough 73 = .ok (.iload_n 1, 1) := by decide +kernel
theorem dX7_stepsThrough_74 : decode cX7_stepsThrough 74 = .ok (.isub, 1) := by decide +kernel
theorem dX7_stepsThrough_75 : decode cX7_stepsThrough 75 = .ok (.iload_n 1, 1) := by decide +kernel
theorem dX7_stepsThrough_76 : decode cX7_stepsThrough 76 = .ok (.iload_n 3, 1) := by decide +kernel
theorem dX7_stepsThrough_77 : decode cX7_stepsThrough 77 = .ok (.isub, 1) := by decide +kernel
theorem dX7_stepsThrough_78 : decode cX7_stepsThrough 78 = .ok (.invokestatic 387, 3) := by decide +kernel
theorem dX7_stepsThrough_81 : decode cX7_stepsThrough 81 = .ok (.iadd, 1) := by decide +kernel
theorem dX7_stepsThrough_82 : decode cX7_stepsThrough 82 = .ok (.ireturn, 1) := by decide +kernel
theorem dX7_findingOfPairs_0 : decode cX7_findingOfPairs 0 = .ok (.aload_n 1, 1) := by decide +kernel
theorem dX7_findingOfPairs_1 : decode cX7_findingOfPairs 1 = .ok (.invokevirtual 101, 3) := by decide +kernel
theorem dX7_findingOfPairs_4 : decode cX7_findingOfPairs 4 = .ok (.ifCond .eq 5, 3) := by decide +kernel
theorem dX7_findingOfPairs_7 : decode cX7_findingOfPairs 7 = .ok (.iconst 1, 1) := by decide +kernel
theorem dX7_findingOfPairs_8 : decode cX7_findingOfPairs 8 = .ok (.ireturn, 1) := by decide +kernel
theorem dX7_findingOfPairs_9 : decode cX7_findingOfPairs 9 = .ok (.aload_n 1, 1) := by decide +kernel
theorem dX7_findingOfPairs_10 : decode cX7_findingOfPairs 10 = .ok (.getfield 112, 3) := by decide +kernel
theorem dX7_findingOfPairs_13 : decode cX7_findingOfPairs 13 = .ok (.iconst 2, 1) := by decide +kernel
theorem dX7_findingOfPairs_14 : decode cX7_findingOfPairs 14 = .ok (.irem, 1) := by decide +kernel
theorem dX7_findingOfPairs_15 : decode cX7_findingOfPairs 15 = .ok (.ifCond .ne 12, 3) := by decide +kernel
theorem dX7_findingOfPairs_18 : decode cX7_findingOfPairs 18 = .ok (.aload_n 1, 1) := by decide +kernel
theorem dX7_findingOfPairs_19 : decode cX7_findingOfPairs 19 = .ok (.getfield 112, 3) := by decide +kernel
theorem dX7_findingOfPairs_22 : decode cX7_findingOfPairs 22 = .ok (.bipush 12, 2) := by decide +kernel
theorem dX7_findingOfPairs_24 : decode cX7_findingOfPairs 24 = .ok (.if_icmp .le 5, 3) := by decide +kernel
theorem dX7_findingOfPairs_27 : decode cX7_findingOfPairs 27 = .ok (.iconst 5, 1) := by decide +kernel
theorem dX7_findingOfPairs_28 : decode cX7_findingOfPairs 28 = .ok (.ireturn, 1) := by decide +kernel
theorem dX7_findingOfPairs_29 : decode cX7_findingOfPairs 29 = .ok (.iconst 0, 1) := by decide +kernel
theorem dX7_findingOfPairs_30 : decode cX7_findingOfPairs 30 = .ok (.istore_n 2, 1) := by decide +kernel
theorem dX7_findingOfPairs_31 : decode cX7_findingOfPairs 31 = .ok (.iload_n 2, 1) := by decide +kernel
theorem dX7_findingOfPairs_32 : decode cX7_findingOfPairs 32 = .ok (.iconst 1, 1) := by decide +kernel
theorem dX7_findingOfPairs_33 : decode cX7_findingOfPairs 33 = .ok (.iadd, 1) := by decide +kernel
theorem dX7_findingOfPairs_34 : decode cX7_findingOfPairs 34 = .ok (.aload_n 1, 1) := by decide +kernel
theorem dX7_findingOfPairs_35 : decode cX7_findingOfPairs 35 = .ok (.getfield 112, 3) := by decide +kernel
theorem dX7_findingOfPairs_38 : decode cX7_findingOfPairs 38 = .ok (.if_icmp .ge 46, 3) := by decide +kernel
theorem dX7_findingOfPairs_41 : decode cX7_findingOfPairs 41 = .ok (.aload_n 1, 1) := by decide +kernel
theorem dX7_findingOfPairs_42 : decode cX7_findingOfPairs 42 = .ok (.getfield 109, 3) := by decide +kernel
theorem dX7_findingOfPairs_45 : decode cX7_findingOfPairs 45 = .ok (.iload_n 2, 1) := by decide +kernel
theorem dX7_findingOfPairs_46 : decode cX7_findingOfPairs 46 = .ok (.iconst 1, 1) := by decide +kernel
theorem dX7_findingOfPairs_47 : decode cX7_findingOfPairs 47 = .ok (.iadd, 1) := by decide +kernel
theorem dX7_findingOfPairs_48 : decode cX7_findingOfPairs 48 = .ok (.iaload, 1) := by decide +kernel
theorem dX7_findingOfPairs_49 : decode cX7_findingOfPairs 49 = .ok (.istore_n 3, 1) := by decide +kernel
theorem dX7_findingOfPairs_50 : decode cX7_findingOfPairs 50 = .ok (.aload_n 0, 1) := by decide +kernel
theorem dX7_findingOfPairs_51 : decode cX7_findingOfPairs 51 = .ok (.getfield 24, 3) := by decide +kernel
theorem dX7_findingOfPairs_54 : decode cX7_findingOfPairs 54 = .ok (.aload_n 1, 1) := by decide +kernel
theorem dX7_findingOfPairs_55 : decode cX7_findingOfPairs 55 = .ok (.getfield 109, 3) := by decide +kernel
theorem dX7_findingOfPairs_58 : decode cX7_findingOfPairs 58 = .ok (.iload_n 2, 1) := by decide +kernel
theorem dX7_findingOfPairs_59 : decode cX7_findingOfPairs 59 = .ok (.iaload, 1) := by decide +kernel
theorem dX7_findingOfPairs_60 : decode cX7_findingOfPairs 60 = .ok (.invokevirtual 158, 3) := by decide +kernel
theorem dX7_findingOfPairs_63 : decode cX7_findingOfPairs 63 = .ok (.ifCond .eq 13, 3) := by decide +kernel
theorem dX7_findingOfPairs_66 : decode cX7_findingOfPairs 66 = .ok (.iload_n 3, 1) := by decide +kernel
theorem dX7_findingOfPairs_67 : decode cX7_findingOfPairs 67 = .ok (.ifCond .lt 9, 3) := by decide +kernel
theorem dX7_findingOfPairs_70 : decode cX7_findingOfPairs 70 = .ok (.iload_n 3, 1) := by decide +kernel
theorem dX7_findingOfPairs_71 : decode cX7_findingOfPairs 71 = .ok (.bipush 9, 2) := by decide +kernel
theorem dX7_findingOfPairs_73 : decode cX7_findingOfPairs 73 = .ok (.if_icmp .le 5, 3) := by decide +kernel
theorem dX7_findingOfPairs_76 : decode cX7_findingOfPairs 76 = .ok (.iconst 3, 1) := by decide +kernel
theorem dX7_findingOfPairs_77 : decode cX7_findingOfPairs 77 = .ok (.ireturn, 1) := by decide +kernel
theorem dX7_findingOfPairs_78 : decode cX7_findingOfPairs 78 = .ok (.iinc 2 2, 3) := by decide +kernel
theorem dX7_findingOfPairs_81 : decode cX7_findingOfPairs 81 = .ok (.goto (-50), 3) := by decide +kernel
theorem dX7_findingOfPairs_84 : decode cX7_findingOfPairs 84 = .ok (.iconst 0, 1) := by decide +kernel
theorem dX7_findingOfPairs_85 : decode cX7_findingOfPairs 85 = .ok (.ireturn, 1) := by decide +kernel
theorem dX7_breathOfPairs_0 : decode cX7_breathOfPairs 0 = .ok (.iconst 0, 1) := by decide +kernel
theorem dX7_breathOfPairs_1 : decode cX7_breathOfPairs 1 = .ok (.istore_n 3, 1) := by decide +kernel
theorem dX7_breathOfPairs_2 : decode cX7_breathOfPairs 2 = .ok (.iconst 0, 1) := by decide +kernel
theorem dX7_breathOfPairs_3 : decode cX7_breathOfPairs 3 = .ok (.istore 4, 2) := by decide +kernel
theorem dX7_breathOfPairs_5 : decode cX7_breathOfPairs 5 = .ok (.iload 4, 2) := by decide +kernel
theorem dX7_breathOfPairs_7 : decode cX7_breathOfPairs 7 = .ok (.iconst 1, 1) := by decide +kernel
theorem dX7_breathOfPairs_8 : decode cX7_breathOfPairs 8 = .ok (.iadd, 1) := by decide +kernel
theorem dX7_breathOfPairs_9 : decode cX7_breathOfPairs 9 = .ok (.aload_n 1, 1) := by decide +kernel
theorem dX7_breathOfPairs_10 : decode cX7_breathOfPairs 10 = .ok (.getfield 112, 3) := by decide +kernel
theorem dX7_breathOfPairs_13 : decode cX7_breathOfPairs 13 = .ok (.if_icmp .ge 68, 3) := by decide +kernel
theorem dX7_breathOfPairs_16 : decode cX7_breathOfPairs 16 = .ok (.aload_n 1, 1) := by decide +kernel
theorem dX7_breathOfPairs_17 : decode cX7_breathOfPairs 17 = .ok (.getfield 109, 3) := by decide +kernel
theorem dX7_breathOfPairs_20 : decode cX7_breathOfPairs 20 = .ok (.iload 4, 2) := by decide +kernel
theorem dX7_breathOfPairs_22 : decode cX7_breathOfPairs 22 = .ok (.iaload, 1) := by decide +kernel
theorem dX7_breathOfPairs_23 : decode cX7_breathOfPairs 23 = .ok (.istore 5, 2) := by decide +kernel
theorem dX7_breathOfPairs_25 : decode cX7_breathOfPairs 25 = .ok (.aload_n 1, 1) := by decide +kernel
theorem dX7_breathOfPairs_26 : decode cX7_breathOfPairs 26 = .ok (.getfield 109, 3) := by decide +kernel
theorem dX7_breathOfPairs_29 : decode cX7_breathOfPairs 29 = .ok (.iload 4, 2) := by decide +kernel
theorem dX7_breathOfPairs_31 : decode cX7_breathOfPairs 31 = .ok (.iconst 1, 1) := by decide +kernel
theorem dX7_breathOfPairs_32 : decode cX7_breathOfPairs 32 = .ok (.iadd, 1) := by decide +kernel
theorem dX7_breathOfPairs_33 : decode cX7_breathOfPairs 33 = .ok (.iaload, 1) := by decide +kernel
theorem dX7_breathOfPairs_34 : decode cX7_breathOfPairs 34 = .ok (.istore 6, 2) := by decide +kernel
theorem dX7_breathOfPairs_36 : decode cX7_breathOfPairs 36 = .ok (.aload_n 0, 1) := by decide +kernel
theorem dX7_breathOfPairs_37 : decode cX7_breathOfPairs 37 = .ok (.getfield 24, 3) := by decide +kernel
theorem dX7_breathOfPairs_40 : decode cX7_breathOfPairs 40 = .ok (.iload 5, 2) := by decide +kernel
theorem dX7_breathOfPairs_42 : decode cX7_breathOfPairs 42 = .ok (.invokevirtual 158, 3) := by decide +kernel
theorem dX7_breathOfPairs_45 : decode cX7_breathOfPairs 45 = .ok (.ifCond .eq 22, 3) := by decide +kernel
theorem dX7_breathOfPairs_48 : decode cX7_breathOfPairs 48 = .ok (.iload_n 2, 1) := by decide +kernel
theorem dX7_breathOfPairs_49 : decode cX7_breathOfPairs 49 = .ok (.aload_n 0, 1) := by decide +kernel
theorem dX7_breathOfPairs_50 : decode cX7_breathOfPairs 50 = .ok (.getfield 24, 3) := by decide +kernel
theorem dX7_breathOfPairs_53 : decode cX7_breathOfPairs 53 = .ok (.getfield 333, 3) := by decide +kernel
theorem dX7_breathOfPairs_56 : decode cX7_breathOfPairs 56 = .ok (.iload 5, 2) := by decide +kernel
theorem dX7_breathOfPairs_58 : decode cX7_breathOfPairs 58 = .ok (.iaload, 1) := by decide +kernel
theorem dX7_breathOfPairs_59 : decode cX7_breathOfPairs 59 = .ok (.invokestatic 390, 3) := by decide +kernel
theorem dX7_breathOfPairs_62 : decode cX7_breathOfPairs 62 = .ok (.iload 6, 2) := by decide +kernel
theorem dX7_breathOfPairs_64 : decode cX7_breathOfPairs 64 = .ok (.if_icmp .eq 6, 3) := by decide +kernel
theorem dX7_breathOfPairs_67 : decode cX7_breathOfPairs 67 = .ok (.bipush (-9), 2) := by decide +kernel
theorem dX7_breathOfPairs_69 : decode cX7_breathOfPairs 69 = .ok (.ireturn, 1) := by decide +kernel
theorem dX7_breathOfPairs_70 : decode cX7_breathOfPairs 70 = .ok (.iload_n 3, 1) := by decide +kernel
theorem dX7_breathOfPairs_71 : decode cX7_breathOfPairs 71 = .ok (.iload 6, 2) := by decide +kernel
theorem dX7_breathOfPairs_73 : decode cX7_breathOfPairs 73 = .ok (.iadd, 1) := by decide +kernel
theorem dX7_breathOfPairs_74 : decode cX7_breathOfPairs 74 = .ok (.istore_n 3, 1) := by decide +kernel
theorem dX7_breathOfPairs_75 : decode cX7_breathOfPairs 75 = .ok (.iinc 4 2, 3) := by decide +kernel
theorem dX7_breathOfPairs_78 : decode cX7_breathOfPairs 78 = .ok (.goto (-73), 3) := by decide +kernel
theorem dX7_breathOfPairs_81 : decode cX7_breathOfPairs 81 = .ok (.iload_n 3, 1) := by decide +kernel
theorem dX7_breathOfPairs_82 : decode cX7_breathOfPairs 82 = .ok (.ireturn, 1) := by decide +kernel
theorem dX7_guildTurn_0 : decode cX7_guildTurn 0 = .ok (.iload_n 1, 1) := by decide +kernel
theorem dX7_guildTurn_1 : decode cX7_guildTurn 1 = .ok (.ifCond .le 8, 3) := by decide +kernel
theorem dX7_guildTurn_4 : decode cX7_guildTurn 4 = .ok (.iload_n 1, 1) := by decide +kernel
theorem dX7_guildTurn_5 : decode cX7_guildTurn 5 = .ok (.iconst 2, 1) := by decide +kernel
