theorem dX0_init_0 : decode cX0_init 0 = .ok (.aload_n 0, 1) := by decide +kernel
theorem dX0_init_1 : decode cX0_init 1 = .ok (.invokespecial 3, 3) := by decide +kernel
theorem dX0_init_4 : decode cX0_init 4 = .ok (.aload_n 0, 1) := by decide +kernel
theorem dX0_init_5 : decode cX0_init 5 = .ok (.bipush 40, 2) := by decide +kernel
theorem dX0_init_7 : decode cX0_init 7 = .ok (.newarray .int, 2) := by decide +kernel
theorem dX0_init_9 : decode cX0_init 9 = .ok (.putfield 9, 3) := by decide +kernel
theorem dX0_init_12 : decode cX0_init 12 = .ok (.aload_n 0, 1) := by decide +kernel
theorem dX0_init_13 : decode cX0_init 13 = .ok (.iconst 0, 1) := by decide +kernel
theorem dX0_init_14 : decode cX0_init 14 = .ok (.putfield 15, 3) := by decide +kernel
theorem dX0_init_17 : decode cX0_init 17 = .ok (.return_, 1) := by decide +kernel
theorem dX0_codeOf_0 : decode cX0_codeOf 0 = .ok (.iload_n 0, 1) := by decide +kernel
theorem dX0_codeOf_1 : decode cX0_codeOf 1 = .ok (.bipush 100, 2) := by decide +kernel
theorem dX0_codeOf_3 : decode cX0_codeOf 3 = .ok (.imul, 1) := by decide +kernel
theorem dX0_codeOf_4 : decode cX0_codeOf 4 = .ok (.iload_n 1, 1) := by decide +kernel
theorem dX0_codeOf_5 : decode cX0_codeOf 5 = .ok (.bipush 10, 2) := by decide +kernel
theorem dX0_codeOf_7 : decode cX0_codeOf 7 = .ok (.imul, 1) := by decide +kernel
theorem dX0_codeOf_8 : decode cX0_codeOf 8 = .ok (.iadd, 1) := by decide +kernel
theorem dX0_codeOf_9 : decode cX0_codeOf 9 = .ok (.iload_n 2, 1) := by decide +kernel
theorem dX0_codeOf_10 : decode cX0_codeOf 10 = .ok (.iadd, 1) := by decide +kernel
theorem dX0_codeOf_11 : decode cX0_codeOf 11 = .ok (.ireturn, 1) := by decide +kernel
theorem dX0_whatOf_0 : decode cX0_whatOf 0 = .ok (.iload_n 0, 1) := by decide +kernel
theorem dX0_whatOf_1 : decode cX0_whatOf 1 = .ok (.bipush 100, 2) := by decide +kernel
theorem dX0_whatOf_3 : decode cX0_whatOf 3 = .ok (.idiv, 1) := by decide +kernel
theorem dX0_whatOf_4 : decode cX0_whatOf 4 = .ok (.ireturn, 1) := by decide +kernel
theorem dX0_sigherOf_0 : decode cX0_sigherOf 0 = .ok (.iload_n 0, 1) := by decide +kernel
theorem dX0_sigherOf_1 : decode cX0_sigherOf 1 = .ok (.bipush 10, 2) := by decide +kernel
theorem dX0_sigherOf_3 : decode cX0_sigherOf 3 = .ok (.idiv, 1) := by decide +kernel
theorem dX0_sigherOf_4 : decode cX0_sigherOf 4 = .ok (.bipush 10, 2) := by decide +kernel
theorem dX0_sigherOf_6 : decode cX0_sigherOf 6 = .ok (.irem, 1) := by decide +kernel
theorem dX0_sigherOf_7 : decode cX0_sigherOf 7 = .ok (.ireturn, 1) := by decide +kernel
theorem dX0_targetOf_0 : decode cX0_targetOf 0 = .ok (.iload_n 0, 1) := by decide +kernel
theorem dX0_targetOf_1 : decode cX0_targetOf 1 = .ok (.bipush 10, 2) := by decide +kernel
theorem dX0_targetOf_3 : decode cX0_targetOf 3 = .ok (.irem, 1) := by decide +kernel
theorem dX0_targetOf_4 : decode cX0_targetOf 4 = .ok (.ireturn, 1) := by decide +kernel
theorem dX0_lackRoomFor_0 : decode cX0_lackRoomFor 0 = .ok (.aload_n 0, 1) := by decide +kernel
theorem dX0_lackRoomFor_1 : decode cX0_lackRoomFor 1 = .ok (.getfield 15, 3) := by decide +kernel
theorem dX0_lackRoomFor_4 : decode cX0_lackRoomFor 4 = .ok (.iload_n 1, 1) := by decide +kernel
theorem dX0_lackRoomFor_5 : decode cX0_lackRoomFor 5 = .ok (.iadd, 1) := by decide +kernel
theorem dX0_lackRoomFor_6 : decode cX0_lackRoomFor 6 = .ok (.bipush 40, 2) := by decide +kernel
theorem dX0_lackRoomFor_8 : decode cX0_lackRoomFor 8 = .ok (.if_icmp .le 7, 3) := by decide +kernel
theorem dX0_lackRoomFor_11 : decode cX0_lackRoomFor 11 = .ok (.iconst 1, 1) := by decide +kernel
theorem dX0_lackRoomFor_12 : decode cX0_lackRoomFor 12 = .ok (.goto 4, 3) := by decide +kernel
theorem dX0_lackRoomFor_15 : decode cX0_lackRoomFor 15 = .ok (.iconst 0, 1) := by decide +kernel
theorem dX0_lackRoomFor_16 : decode cX0_lackRoomFor 16 = .ok (.ireturn, 1) := by decide +kernel
theorem dX0_write_0 : decode cX0_write 0 = .ok (.aload_n 0, 1) := by decide +kernel
theorem dX0_write_1 : decode cX0_write 1 = .ok (.getfield 15, 3) := by decide +kernel
theorem dX0_write_4 : decode cX0_write 4 = .ok (.ifCond .lt 32, 3) := by decide +kernel
theorem dX0_write_7 : decode cX0_write 7 = .ok (.aload_n 0, 1) := by decide +kernel
theorem dX0_write_8 : decode cX0_write 8 = .ok (.getfield 15, 3) := by decide +kernel
theorem dX0_write_11 : decode cX0_write 11 = .ok (.bipush 40, 2) := by decide +kernel
theorem dX0_write_13 : decode cX0_write 13 = .ok (.if_icmp .ge 23, 3) := by decide +kernel
theorem dX0_write_16 : decode cX0_write 16 = .ok (.aload_n 0, 1) := by decide +kernel
theorem dX0_write_17 : decode cX0_write 17 = .ok (.getfield 9, 3) := by decide +kernel
theorem dX0_write_20 : decode cX0_write 20 = .ok (.aload_n 0, 1) := by decide +kernel
theorem dX0_write_21 : decode cX0_write 21 = .ok (.getfield 15, 3) := by decide +kernel
theorem dX0_write_24 : decode cX0_write 24 = .ok (.iload_n 1, 1) := by decide +kernel
theorem dX0_write_25 : decode cX0_write 25 = .ok (.iastore, 1) := by decide +kernel
theorem dX0_write_26 : decode cX0_write 26 = .ok (.aload_n 0, 1) := by decide +kernel
theorem dX0_write_27 : decode cX0_write 27 = .ok (.dup, 1) := by decide +kernel
theorem dX0_write_28 : decode cX0_write 28 = .ok (.getfield 15, 3) := by decide +kernel
theorem dX0_write_31 : decode cX0_write 31 = .ok (.iconst 1, 1) := by decide +kernel
theorem dX0_write_32 : decode cX0_write 32 = .ok (.iadd, 1) := by decide +kernel
theorem dX0_write_33 : decode cX0_write 33 = .ok (.putfield 15, 3) := by decide +kernel
theorem dX0_write_36 : decode cX0_write 36 = .ok (.return_, 1) := by decide +kernel
theorem dX0_takeOver_0 : decode cX0_takeOver 0 = .ok (.aload_n 1, 1) := by decide +kernel
theorem dX0_takeOver_1 : decode cX0_takeOver 1 = .ok (.getfield 9, 3) := by decide +kernel
theorem dX0_takeOver_4 : decode cX0_takeOver 4 = .ok (.iconst 0, 1) := by decide +kernel
theorem dX0_takeOver_5 : decode cX0_takeOver 5 = .ok (.aload_n 0, 1) := by decide +kernel
theorem dX0_takeOver_6 : decode cX0_takeOver 6 = .ok (.getfield 9, 3) := by decide +kernel
theorem dX0_takeOver_9 : decode cX0_takeOver 9 = .ok (.iconst 0, 1) := by decide +kernel
theorem dX0_takeOver_10 : decode cX0_takeOver 10 = .ok (.bipush 40, 2) := by decide +kernel
theorem dX0_takeOver_12 : decode cX0_takeOver 12 = .ok (.invokestatic 19, 3) := by decide +kernel
theorem dX0_takeOver_15 : decode cX0_takeOver 15 = .ok (.aload_n 0, 1) := by decide +kernel
theorem dX0_takeOver_16 : decode cX0_takeOver 16 = .ok (.aload_n 1, 1) := by decide +kernel
theorem dX0_takeOver_17 : decode cX0_takeOver 17 = .ok (.getfield 15, 3) := by decide +kernel
theorem dX0_takeOver_20 : decode cX0_takeOver 20 = .ok (.putfield 15, 3) := by decide +kernel
theorem dX0_takeOver_23 : decode cX0_takeOver 23 = .ok (.return_, 1) := by decide +kernel
theorem dX1_init_0 : decode cX1_init 0 = .ok (.aload_n 0, 1) := by decide +kernel
theorem dX1_init_1 : decode cX1_init 1 = .ok (.invokespecial 3, 3) := by decide +kernel
theorem dX1_init_4 : decode cX1_init 4 = .ok (.aload_n 0, 1) := by decide +kernel
theorem dX1_init_5 : decode cX1_init 5 = .ok (.bipush 6, 2) := by decide +kernel
theorem dX1_init_7 : decode cX1_init 7 = .ok (.newarray .int, 2) := by decide +kernel
theorem dX1_init_9 : decode cX1_init 9 = .ok (.putfield 9, 3) := by decide +kernel
theorem dX1_init_12 : decode cX1_init 12 = .ok (.aload_n 0, 1) := by decide +kernel
theorem dX1_init_13 : decode cX1_init 13 = .ok (.iconst 5, 1) := by decide +kernel
theorem dX1_init_14 : decode cX1_init 14 = .ok (.newarray .int, 2) := by decide +kernel
theorem dX1_init_16 : decode cX1_init 16 = .ok (.putfield 15, 3) := by decide +kernel
theorem dX1_init_19 : decode cX1_init 19 = .ok (.aload_n 0, 1) := by decide +kernel
theorem dX1_init_20 : decode cX1_init 20 = .ok (.bipush 7, 2) := by decide +kernel
theorem dX1_init_22 : decode cX1_init 22 = .ok (.newarray .int, 2) := by decide +kernel
theorem dX1_init_24 : decode cX1_init 24 = .ok (.putfield 18, 3) := by decide +kernel
theorem dX1_init_27 : decode cX1_init 27 = .ok (.aload_n 0, 1) := by decide +kernel
theorem dX1_init_28 : decode cX1_init 28 = .ok (.aconst_null, 1) := by decide +kernel
theorem dX1_init_29 : decode cX1_init 29 = .ok (.putfield 21, 3) := by decide +kernel
theorem dX1_init_32 : decode cX1_init 32 = .ok (.aload_n 0, 1) := by decide +kernel
theorem dX1_init_33 : decode cX1_init 33 = .ok (.iconst 0, 1) := by decide +kernel
theorem dX1_init_34 : decode cX1_init 34 = .ok (.putfield 25, 3) := by decide +kernel
theorem dX1_init_37 : decode cX1_init 37 = .ok (.aload_n 0, 1) := by decide +kernel
theorem dX1_init_38 : decode cX1_init 38 = .ok (.iconst 0, 1) := by decide +kernel
theorem dX1_init_39 : decode cX1_init 39 = .ok (.putfield 29, 3) := by decide +kernel
theorem dX1_init_42 : decode cX1_init 42 = .ok (.aload_n 0, 1) := by decide +kernel
theorem dX1_init_43 : decode cX1_init 43 = .ok (.iconst 0, 1) := by decide +kernel
theorem dX1_init_44 : decode cX1_init 44 = .ok (.putfield 33, 3) := by decide +kernel
theorem dX1_init_47 : decode cX1_init 47 = .ok (.return_, 1) := by decide +kernel
theorem dX1_search_0 : decode cX1_search 0 = .ok (.aload_n 0, 1) := by decide +kernel
theorem dX1_search_1 : decode cX1_search 1 = .ok (.aload_n 1, 1) := by decide +kernel
theorem dX1_search_2 : decode cX1_search 2 = .ok (.putfield 21, 3) := by decide +kernel
theorem dX1_search_5 : decode cX1_search 5 = .ok (.aload_n 0, 1) := by decide +kernel
theorem dX1_search_6 : decode cX1_search 6 = .ok (.aload_n 2, 1) := by decide +kernel
theorem dX1_search_7 : decode cX1_search 7 = .ok (.getfield 36, 3) := by decide +kernel
theorem dX1_search_10 : decode cX1_search 10 = .ok (.putfield 25, 3) := by decide +kernel
theorem dX1_search_13 : decode cX1_search 13 = .ok (.aload_n 0, 1) := by decide +kernel
theorem dX1_search_14 : decode cX1_search 14 = .ok (.iload_n 3, 1) := by decide +kernel
theorem dX1_search_15 : decode cX1_search 15 = .ok (.putfield 29, 3) := by decide +kernel
theorem dX1_search_18 : decode cX1_search 18 = .ok (.aload_n 0, 1) := by decide +kernel
theorem dX1_search_19 : decode cX1_search 19 = .ok (.iconst (-1), 1) := by decide +kernel
theorem dX1_search_20 : decode cX1_search 20 = .ok (.putfield 33, 3) := by decide +kernel
theorem dX1_search_23 : decode cX1_search 23 = .ok (.aload_n 2, 1) := by decide +kernel
theorem dX1_search_24 : decode cX1_search 24 = .ok (.getfield 39, 3) := by decide +kernel
theorem dX1_search_27 : decode cX1_search 27 = .ok (.iconst 0, 1) := by decide +kernel
theorem dX1_search_28 : decode cX1_search 28 = .ok (.aload_n 0, 1) := by decide +kernel
theorem dX1_search_29 : decode cX1_search 29 = .ok (.getfield 15, 3) := by decide +kernel
theorem dX1_search_32 : decode cX1_search 32 = .ok (.iconst 0, 1) := by decide +kernel
theorem dX1_search_33 : decode cX1_search 33 = .ok (.iconst 5, 1) := by decide +kernel
theorem dX1_search_34 : decode cX1_search 34 = .ok (.invokestatic 42, 3) := by decide +kernel
theorem dX1_search_37 : decode cX1_search 37 = .ok (.aload_n 0, 1) := by decide +kernel
theorem dX1_search_38 : decode cX1_search 38 = .ok (.getfield 9, 3) := by decide +kernel
theorem dX1_search_41 : decode cX1_search 41 = .ok (.bipush (-9), 2) := by decide +kernel
theorem dX1_search_43 : decode cX1_search 43 = .ok (.invokestatic 48, 3) := by decide +kernel
theorem dX1_search_46 : decode cX1_search 46 = .ok (.aload_n 0, 1) := by decide +kernel
theorem dX1_search_47 : decode cX1_search 47 = .ok (.invokevirtual 54, 3) := by decide +kernel
theorem dX1_search_50 : decode cX1_search 50 = .ok (.aload_n 0, 1) := by decide +kernel
theorem dX1_search_51 : decode cX1_search 51 = .ok (.iconst 0, 1) := by decide +kernel
theorem dX1_search_52 : decode cX1_search 52 = .ok (.iconst 0, 1) := by decide +kernel
theorem dX1_search_53 : decode cX1_search 53 = .ok (.invokevirtual 57, 3) := by decide +kernel
theorem dX1_search_56 : decode cX1_search 56 = .ok (.aload_n 0, 1) := by decide +kernel
theorem dX1_search_57 : decode cX1_search 57 = .ok (.iconst 0, 1) := by decide +kernel
theorem dX1_search_58 : decode cX1_search 58 = .ok (.iconst 0, 1) := by decide +kernel
theorem dX1_search_59 : decode cX1_search 59 = .ok (.invokevirtual 61, 3) := by decide +kernel
theorem dX1_search_62 : decode cX1_search 62 = .ok (.pop, 1) := by decide +kernel
theorem dX1_search_63 : decode cX1_search 63 = .ok (.aload_n 0, 1) := by decide +kernel
theorem dX1_search_64 : decode cX1_search 64 = .ok (.getfield 33, 3) := by decide +kernel
theorem dX1_search_67 : decode cX1_search 67 = .ok (.ireturn, 1) := by decide +kernel
theorem dX1_setBounds_0 : decode cX1_setBounds 0 = .ok (.aload_n 0, 1) := by decide +kernel
theorem dX1_setBounds_1 : decode cX1_setBounds 1 = .ok (.getfield 18, 3) := by decide +kernel
theorem dX1_setBounds_4 : decode cX1_setBounds 4 = .ok (.iconst 0, 1) := by decide +kernel
theorem dX1_setBounds_5 : decode cX1_setBounds 5 = .ok (.invokestatic 48, 3) := by decide +kernel
theorem dX1_setBounds_8 : decode cX1_setBounds 8 = .ok (.iconst 5, 1) := by decide +kernel
theorem dX1_setBounds_9 : decode cX1_setBounds 9 = .ok (.istore_n 1, 1) := by decide +kernel
theorem dX1_setBounds_10 : decode cX1_setBounds 10 = .ok (.iload_n 1, 1) := by decide +kernel
theorem dX1_setBounds_11 : decode cX1_setBounds 11 = .ok (.ifCond .lt 64, 3) := by decide +kernel
theorem dX1_setBounds_14 : decode cX1_setBounds 14 = .ok (.iconst 0, 1) := by decide +kernel
theorem dX1_setBounds_15 : decode cX1_setBounds 15 = .ok (.istore_n 2, 1) := by decide +kernel
theorem dX1_setBounds_16 : decode cX1_setBounds 16 = .ok (.iconst 0, 1) := by decide +kernel
theorem dX1_setBounds_17 : decode cX1_setBounds 17 = .ok (.istore_n 3, 1) := by decide +kernel
theorem dX1_setBounds_18 : decode cX1_setBounds 18 = .ok (.iload_n 3, 1) := by decide +kernel
theorem dX1_setBounds_19 : decode cX1_setBounds 19 = .ok (.iconst 5, 1) := by decide +kernel
theorem dX1_setBounds_20 : decode cX1_setBounds 20 = .ok (.if_icmp .ge 33, 3) := by decide +kernel
theorem dX1_setBounds_23 : decode cX1_setBounds 23 = .ok (.aload_n 0, 1) := by decide +kernel
theorem dX1_setBounds_24 : decode cX1_setBounds 24 = .ok (.iload_n 3, 1) := by decide +kernel
theorem dX1_setBounds_25 : decode cX1_setBounds 25 = .ok (.iload_n 1, 1) := by decide +kernel
theorem dX1_setBounds_26 : decode cX1_setBounds 26 = .ok (.invokevirtual 65, 3) := by decide +kernel
theorem dX1_setBounds_29 : decode cX1_setBounds 29 = .ok (.ifCond .eq 16, 3) := by decide +kernel
theorem dX1_setBounds_32 : decode cX1_setBounds 32 = .ok (.iload_n 2, 1) := by decide +kernel
theorem dX1_setBounds_33 : decode cX1_setBounds 33 = .ok (.aload_n 0, 1) := by decide +kernel
theorem dX1_setBounds_34 : decode cX1_setBounds 34 = .ok (.iload_n 3, 1) := by decide +kernel
theorem dX1_setBounds_35 : decode cX1_setBounds 35 = .ok (.iload_n 1, 1) := by decide +kernel
theorem dX1_setBounds_36 : decode cX1_setBounds 36 = .ok (.invokevirtual 68, 3) := by decide +kernel
theorem dX1_setBounds_39 : decode cX1_setBounds 39 = .ok (.invokestatic 72, 3) := by decide +kernel
theorem dX1_setBounds_42 : decode cX1_setBounds 42 = .ok (.goto 4, 3) := by decide +kernel
theorem dX1_setBounds_45 : decode cX1_setBounds 45 = .ok (.iload_n 2, 1) := by decide +kernel
theorem dX1_setBounds_46 : decode cX1_setBounds 46 = .ok (.istore_n 2, 1) := by decide +kernel
theorem dX1_setBounds_47 : decode cX1_setBounds 47 = .ok (.iinc 3 1, 3) := by decide +kernel
theorem dX1_setBounds_50 : decode cX1_setBounds 50 = .ok (.goto (-32), 3) := by decide +kernel
theorem dX1_setBounds_53 : decode cX1_setBounds 53 = .ok (.aload_n 0, 1) := by decide +kernel
theorem dX1_setBounds_54 : decode cX1_setBounds 54 = .ok (.getfield 18, 3) := by decide +kernel
theorem dX1_setBounds_57 : decode cX1_setBounds 57 = .ok (.iload_n 1, 1) := by decide +kernel
theorem dX1_setBounds_58 : decode cX1_setBounds 58 = .ok (.aload_n 0, 1) := by decide +kernel
theorem dX1_setBounds_59 : decode cX1_setBounds 59 = .ok (.getfield 18, 3) := by decide +kernel
theorem dX1_setBounds_62 : decode cX1_setBounds 62 = .ok (.iload_n 1, 1) := by decide +kernel
theorem dX1_setBounds_63 : decode cX1_setBounds 63 = .ok (.iconst 1, 1) := by decide +kernel
theorem dX1_setBounds_64 : decode cX1_setBounds 64 = .ok (.iadd, 1) := by decide +kernel
theorem dX1_setBounds_65 : decode cX1_setBounds 65 = .ok (.iaload, 1) := by decide +kernel
theorem dX1_setBounds_66 : decode cX1_setBounds 66 = .ok (.iload_n 2, 1) := by decide +kernel
theorem dX1_setBounds_67 : decode cX1_setBounds 67 = .ok (.iadd, 1) := by decide +kernel
theorem dX1_setBounds_68 : decode cX1_setBounds 68 = .ok (.iastore, 1) := by decide +kernel
theorem dX1_setBounds_69 : decode cX1_setBounds 69 = .ok (.iinc 1 (-1), 3) := by decide +kernel
theorem dX1_setBounds_72 : decode cX1_setBounds 72 = .ok (.goto (-62), 3) := by decide +kernel
theorem dX1_setBounds_75 : decode cX1_setBounds 75 = .ok (.return_, 1) := by decide +kernel
theorem dX1_fits_0 : decode cX1_fits 0 = .ok (.aload_n 0, 1) := by decide +kernel
theorem dX1_fits_1 : decode cX1_fits 1 = .ok (.getfield 21, 3) := by decide +kernel
theorem dX1_fits_4 : decode cX1_fits 4 = .ok (.ifnull 25, 3) := by decide +kernel
theorem dX1_fits_7 : decode cX1_fits 7 = .ok (.aload_n 0, 1) := by decide +kernel
theorem dX1_fits_8 : decode cX1_fits 8 = .ok (.getfield 21, 3) := by decide +kernel
theorem dX1_fits_11 : decode cX1_fits 11 = .ok (.iload_n 1, 1) := by decide +kernel
theorem dX1_fits_12 : decode cX1_fits 12 = .ok (.invokevirtual 77, 3) := by decide +kernel
theorem dX1_fits_15 : decode cX1_fits 15 = .ok (.ifCond .eq 14, 3) := by decide +kernel
theorem dX1_fits_18 : decode cX1_fits 18 = .ok (.aload_n 0, 1) := by decide +kernel
theorem dX1_fits_19 : decode cX1_fits 19 = .ok (.getfield 25, 3) := by decide +kernel
theorem dX1_fits_22 : decode cX1_fits 22 = .ok (.iload_n 2, 1) := by decide +kernel
theorem dX1_fits_23 : decode cX1_fits 23 = .ok (.invokestatic 83, 3) := by decide +kernel
theorem dX1_fits_26 : decode cX1_fits 26 = .ok (.ifCond .eq 5, 3) := by decide +kernel
theorem dX1_fits_29 : decode cX1_fits 29 = .ok (.iconst 0, 1) := by decide +kernel
theorem dX1_fits_30 : decode cX1_fits 30 = .ok (.ireturn, 1) := by decide +kernel
theorem dX1_fits_31 : decode cX1_fits 31 = .ok (.aload_n 0, 1) := by decide +kernel
theorem dX1_fits_32 : decode cX1_fits 32 = .ok (.getfield 21, 3) := by decide +kernel
theorem dX1_fits_35 : decode cX1_fits 35 = .ok (.iload_n 1, 1) := by decide +kernel
theorem dX1_fits_36 : decode cX1_fits 36 = .ok (.iload_n 2, 1) := by decide +kernel
theorem dX1_fits_37 : decode cX1_fits 37 = .ok (.invokevirtual 86, 3) := by decide +kernel
theorem dX1_fits_40 : decode cX1_fits 40 = .ok (.istore_n 3, 1) := by decide +kernel
theorem dX1_fits_41 : decode cX1_fits 41 = .ok (.iload_n 3, 1) := by decide +kernel
theorem dX1_fits_42 : decode cX1_fits 42 = .ok (.bipush (-9), 2) := by decide +kernel
theorem dX1_fits_44 : decode cX1_fits 44 = .ok (.if_icmp .eq 17, 3) := by decide +kernel
theorem dX1_fits_47 : decode cX1_fits 47 = .ok (.iload_n 3, 1) := by decide +kernel
theorem dX1_fits_48 : decode cX1_fits 48 = .ok (.aload_n 0, 1) := by decide +kernel
theorem dX1_fits_49 : decode cX1_fits 49 = .ok (.getfield 15, 3) := by decide +kernel
theorem dX1_fits_52 : decode cX1_fits 52 = .ok (.iload_n 1, 1) := by decide +kernel
theorem dX1_fits_53 : decode cX1_fits 53 = .ok (.iaload, 1) := by decide +kernel
theorem dX1_fits_54 : decode cX1_fits 54 = .ok (.if_icmp .gt 7, 3) := by decide +kernel
theorem dX1_fits_57 : decode cX1_fits 57 = .ok (.iconst 1, 1) := by decide +kernel
theorem dX1_fits_58 : decode cX1_fits 58 = .ok (.goto 4, 3) := by decide +kernel
theorem dX1_fits_61 : decode cX1_fits 61 = .ok (.iconst 0, 1) := by decide +kernel
theorem dX1_fits_62 : decode cX1_fits 62 = .ok (.ireturn, 1) := by decide +kernel
theorem dX1_worth_0 : decode cX1_worth 0 = .ok (.aload_n 0, 1) := by decide +kernel
theorem dX1_worth_1 : decode cX1_worth 1 = .ok (.getfield 29, 3) := by decide +kernel
theorem dX1_worth_4 : decode cX1_worth 4 = .ok (.ifCond .eq 22, 3) := by decide +kernel
theorem dX1_worth_7 : decode cX1_worth 7 = .ok (.aload_n 0, 1) := by decide +kernel
theorem dX1_worth_8 : decode cX1_worth 8 = .ok (.getfield 21, 3) := by decide +kernel
theorem dX1_worth_11 : decode cX1_worth 11 = .ok (.ifnull 15, 3) := by decide +kernel
theorem dX1_worth_14 : decode cX1_worth 14 = .ok (.aload_n 0, 1) := by decide +kernel
theorem dX1_worth_15 : decode cX1_worth 15 = .ok (.getfield 21, 3) := by decide +kernel
theorem dX1_worth_18 : decode cX1_worth 18 = .ok (.iload_n 1, 1) := by decide +kernel
theorem dX1_worth_19 : decode cX1_worth 19 = .ok (.iload_n 2, 1) := by decide +kernel
theorem dX1_worth_20 : decode cX1_worth 20 = .ok (.invokevirtual 89, 3) := by decide +kernel
theorem dX1_worth_23 : decode cX1_worth 23 = .ok (.goto 4, 3) := by decide +kernel
theorem dX1_worth_26 : decode cX1_worth 26 = .ok (.iconst 1, 1) := by decide +kernel
theorem dX1_worth_27 : decode cX1_worth 27 = .ok (.ireturn, 1) := by decide +kernel
theorem dX1_climb_0 : decode cX1_climb 0 = .ok (.aload_n 0, 1) := by decide +kernel
theorem dX1_climb_1 : decode cX1_climb 1 = .ok (.getfield 21, 3) := by decide +kernel
theorem dX1_climb_4 : decode cX1_climb 4 = .ok (.ifnull 18, 3) := by decide +kernel
theorem dX1_climb_7 : decode cX1_climb 7 = .ok (.iload_n 1, 1) := by decide +kernel
theorem dX1_climb_8 : decode cX1_climb 8 = .ok (.ifCond .lt 14, 3) := by decide +kernel
theorem dX1_climb_11 : decode cX1_climb 11 = .ok (.iload_n 1, 1) := by decide +kernel
theorem dX1_climb_12 : decode cX1_climb 12 = .ok (.aload_n 0, 1) := by decide +kernel
theorem dX1_climb_13 : decode cX1_climb 13 = .ok (.getfield 21, 3) := by decide +kernel
theorem dX1_climb_16 : decode cX1_climb 16 = .ok (.getfield 92, 3) := by decide +kernel
theorem dX1_climb_19 : decode cX1_climb 19 = .ok (.if_icmp .lt 16, 3) := by decide +kernel
theorem dX1_climb_22 : decode cX1_climb 22 = .ok (.aload_n 0, 1) := by decide +kernel
theorem dX1_climb_23 : decode cX1_climb 23 = .ok (.aload_n 0, 1) := by decide +kernel
theorem dX1_climb_24 : decode cX1_climb 24 = .ok (.getfield 33, 3) := by decide +kernel
theorem dX1_climb_27 : decode cX1_climb 27 = .ok (.iload_n 2, 1) := by decide +kernel
theorem dX1_climb_28 : decode cX1_climb 28 = .ok (.invokestatic 72, 3) := by decide +kernel
theorem dX1_climb_31 : decode cX1_climb 31 = .ok (.putfield 33, 3) := by decide +kernel
theorem dX1_climb_34 : decode cX1_climb 34 = .ok (.return_, 1) := by decide +kernel
theorem dX1_climb_35 : decode cX1_climb 35 = .ok (.iload_n 2, 1) := by decide +kernel
theorem dX1_climb_36 : decode cX1_climb 36 = .ok (.aload_n 0, 1) := by decide +kernel
theorem dX1_climb_37 : decode cX1_climb 37 = .ok (.getfield 18, 3) := by decide +kernel
theorem dX1_climb_40 : decode cX1_climb 40 = .ok (.iload_n 1, 1) := by decide +kernel
theorem dX1_climb_41 : decode cX1_climb 41 = .ok (.iaload, 1) := by decide +kernel
theorem dX1_climb_42 : decode cX1_climb 42 = .ok (.iadd, 1) := by decide +kernel
theorem dX1_climb_43 : decode cX1_climb 43 = .ok (.aload_n 0, 1) := by decide +kernel
theorem dX1_climb_44 : decode cX1_climb 44 = .ok (.getfield 33, 3) := by decide +kernel
theorem dX1_climb_47 : decode cX1_climb 47 = .ok (.if_icmp .gt 4, 3) := by decide +kernel
theorem dX1_climb_50 : decode cX1_climb 50 = .ok (.return_, 1) := by decide +kernel
theorem dX1_climb_51 : decode cX1_climb 51 = .ok (.iconst 0, 1) := by decide +kernel
theorem dX1_climb_52 : decode cX1_climb 52 = .ok (.istore_n 3, 1) := by decide +kernel
theorem dX1_climb_53 : decode cX1_climb 53 = .ok (.iload_n 3, 1) := by decide +kernel
theorem dX1_climb_54 : decode cX1_climb 54 = .ok (.aload_n 0, 1) := by decide +kernel
theorem dX1_climb_55 : decode cX1_climb 55 = .ok (.getfield 21, 3) := by decide +kernel
theorem dX1_climb_58 : decode cX1_climb 58 = .ok (.getfield 95, 3) := by decide +kernel
theorem dX1_climb_61 : decode cX1_climb 61 = .ok (.if_icmp .ge 66, 3) := by decide +kernel
theorem dX1_climb_64 : decode cX1_climb 64 = .ok (.aload_n 0, 1) := by decide +kernel
theorem dX1_climb_65 : decode cX1_climb 65 = .ok (.iload_n 3, 1) := by decide +kernel
theorem dX1_climb_66 : decode cX1_climb 66 = .ok (.iload_n 1, 1) := by decide +kernel
theorem dX1_climb_67 : decode cX1_climb 67 = .ok (.invokevirtual 65, 3) := by decide +kernel
theorem dX1_climb_70 : decode cX1_climb 70 = .ok (.ifCond .eq 51, 3) := by decide +kernel
theorem dX1_climb_73 : decode cX1_climb 73 = .ok (.aload_n 0, 1) := by decide +kernel
theorem dX1_climb_74 : decode cX1_climb 74 = .ok (.getfield 21, 3) := by decide +kernel
theorem dX1_climb_77 : decode cX1_climb 77 = .ok (.iload_n 3, 1) := by decide +kernel
theorem dX1_climb_78 : decode cX1_climb 78 = .ok (.iload_n 1, 1) := by decide +kernel
theorem dX1_climb_79 : decode cX1_climb 79 = .ok (.invokevirtual 86, 3) := by decide +kernel
theorem dX1_climb_82 : decode cX1_climb 82 = .ok (.istore 4, 2) := by decide +kernel
theorem dX1_climb_84 : decode cX1_climb 84 = .ok (.aload_n 0, 1) := by decide +kernel
theorem dX1_climb_85 : decode cX1_climb 85 = .ok (.getfield 15, 3) := by decide +kernel
theorem dX1_climb_88 : decode cX1_climb 88 = .ok (.iload_n 3, 1) := by decide +kernel
theorem dX1_climb_89 : decode cX1_climb 89 = .ok (.dup2, 1) := by decide +kernel
theorem dX1_climb_90 : decode cX1_climb 90 = .ok (.iaload, 1) := by decide +kernel
theorem dX1_climb_91 : decode cX1_climb 91 = .ok (.iload 4, 2) := by decide +kernel
theorem dX1_climb_93 : decode cX1_climb 93 = .ok (.isub, 1) := by decide +kernel
theorem dX1_climb_94 : decode cX1_climb 94 = .ok (.iastore, 1) := by decide +kernel
theorem dX1_climb_95 : decode cX1_climb 95 = .ok (.aload_n 0, 1) := by decide +kernel
theorem dX1_climb_96 : decode cX1_climb 96 = .ok (.iload_n 1, 1) := by decide +kernel
theorem dX1_climb_97 : decode cX1_climb 97 = .ok (.iconst 1, 1) := by decide +kernel
theorem dX1_climb_98 : decode cX1_climb 98 = .ok (.iadd, 1) := by decide +kernel
theorem dX1_climb_99 : decode cX1_climb 99 = .ok (.iload_n 2, 1) := by decide +kernel
theorem dX1_climb_100 : decode cX1_climb 100 = .ok (.aload_n 0, 1) := by decide +kernel
theorem dX1_climb_101 : decode cX1_climb 101 = .ok (.iload_n 3, 1) := by decide +kernel
theorem dX1_climb_102 : decode cX1_climb 102 = .ok (.iload_n 1, 1) := by decide +kernel
theorem dX1_climb_103 : decode cX1_climb 103 = .ok (.invokevirtual 68, 3) := by decide +kernel
theorem dX1_climb_106 : decode cX1_climb 106 = .ok (.iadd, 1) := by decide +kernel
theorem dX1_climb_107 : decode cX1_climb 107 = .ok (.invokevirtual 57, 3) := by decide +kernel
theorem dX1_climb_110 : decode cX1_climb 110 = .ok (.aload_n 0, 1) := by decide +kernel
theorem dX1_climb_111 : decode cX1_climb 111 = .ok (.getfield 15, 3) := by decide +kernel
theorem dX1_climb_114 : decode cX1_climb 114 = .ok (.iload_n 3, 1) := by decide +kernel
theorem dX1_climb_115 : decode cX1_climb 115 = .ok (.dup2, 1) := by decide +kernel
theorem dX1_climb_116 : decode cX1_climb 116 = .ok (.iaload, 1) := by decide +kernel
theorem dX1_climb_117 : decode cX1_climb 117 = .ok (.iload 4, 2) := by decide +kernel
theorem dX1_climb_119 : decode cX1_climb 119 = .ok (.iadd, 1) := by decide +kernel
theorem dX1_climb_120 : decode cX1_climb 120 = .ok (.iastore, 1) := by decide +kernel
theorem dX1_climb_121 : decode cX1_climb 121 = .ok (.iinc 3 1, 3) := by decide +kernel
theorem dX1_climb_124 : decode cX1_climb 124 = .ok (.goto (-71), 3) := by decide +kernel
theorem dX1_climb_127 : decode cX1_climb 127 = .ok (.aload_n 0, 1) := by decide +kernel
theorem dX1_climb_128 : decode cX1_climb 128 = .ok (.iload_n 1, 1) := by decide +kernel
theorem dX1_climb_129 : decode cX1_climb 129 = .ok (.iconst 1, 1) := by decide +kernel
theorem dX1_climb_130 : decode cX1_climb 130 = .ok (.iadd, 1) := by decide +kernel
theorem dX1_climb_131 : decode cX1_climb 131 = .ok (.iload_n 2, 1) := by decide +kernel
theorem dX1_climb_132 : decode cX1_climb 132 = .ok (.invokevirtual 57, 3) := by decide +kernel
theorem dX1_climb_135 : decode cX1_climb 135 = .ok (.return_, 1) := by decide +kernel
theorem dX1_settle_0 : decode cX1_settle 0 = .ok (.aload_n 0, 1) := by decide +kernel
theorem dX1_settle_1 : decode cX1_settle 1 = .ok (.getfield 21, 3) := by decide +kernel
theorem dX1_settle_4 : decode cX1_settle 4 = .ok (.ifnull 18, 3) := by decide +kernel
theorem dX1_settle_7 : decode cX1_settle 7 = .ok (.iload_n 1, 1) := by decide +kernel
theorem dX1_settle_8 : decode cX1_settle 8 = .ok (.ifCond .lt 14, 3) := by decide +kernel
theorem dX1_settle_11 : decode cX1_settle 11 = .ok (.iload_n 1, 1) := by decide +kernel
theorem dX1_settle_12 : decode cX1_settle 12 = .ok (.aload_n 0, 1) := by decide +kernel
theorem dX1_settle_13 : decode cX1_settle 13 = .ok (.getfield 21, 3) := by decide +kernel
theorem dX1_settle_16 : decode cX1_settle 16 = .ok (.getfield 92, 3) := by decide +kernel
theorem dX1_settle_19 : decode cX1_settle 19 = .ok (.if_icmp .lt 17, 3) := by decide +kernel
theorem dX1_settle_22 : decode cX1_settle 22 = .ok (.iload_n 2, 1) := by decide +kernel
theorem dX1_settle_23 : decode cX1_settle 23 = .ok (.aload_n 0, 1) := by decide +kernel
theorem dX1_settle_24 : decode cX1_settle 24 = .ok (.getfield 33, 3) := by decide +kernel
theorem dX1_settle_27 : decode cX1_settle 27 = .ok (.if_icmp .lt 7, 3) := by decide +kernel
theorem dX1_settle_30 : decode cX1_settle 30 = .ok (.iconst 1, 1) := by decide +kernel
theorem dX1_settle_31 : decode cX1_settle 31 = .ok (.goto 4, 3) := by decide +kernel
theorem dX1_settle_34 : decode cX1_settle 34 = .ok (.iconst 0, 1) := by decide +kernel
theorem dX1_settle_35 : decode cX1_settle 35 = .ok (.ireturn, 1) := by decide +kernel
theorem dX1_settle_36 : decode cX1_settle 36 = .ok (.iload_n 2, 1) := by decide +kernel
theorem dX1_settle_37 : decode cX1_settle 37 = .ok (.aload_n 0, 1) := by decide +kernel
theorem dX1_settle_38 : decode cX1_settle 38 = .ok (.getfield 18, 3) := by decide +kernel
theorem dX1_settle_41 : decode cX1_settle 41 = .ok (.iload_n 1, 1) := by decide +kernel
theorem dX1_settle_42 : decode cX1_settle 42 = .ok (.iaload, 1) := by decide +kernel
theorem dX1_settle_43 : decode cX1_settle 43 = .ok (.iadd, 1) := by decide +kernel
theorem dX1_settle_44 : decode cX1_settle 44 = .ok (.aload_n 0, 1) := by decide +kernel
theorem dX1_settle_45 : decode cX1_settle 45 = .ok (.getfield 33, 3) := by decide +kernel
theorem dX1_settle_48 : decode cX1_settle 48 = .ok (.if_icmp .ge 5, 3) := by decide +kernel
theorem dX1_settle_51 : decode cX1_settle 51 = .ok (.iconst 0, 1) := by decide +kernel
theorem dX1_settle_52 : decode cX1_settle 52 = .ok (.ireturn, 1) := by decide +kernel
theorem dX1_settle_53 : decode cX1_settle 53 = .ok (.aload_n 0, 1) := by decide +kernel
theorem dX1_settle_54 : decode cX1_settle 54 = .ok (.getfield 9, 3) := by decide +kernel
theorem dX1_settle_57 : decode cX1_settle 57 = .ok (.iload_n 1, 1) := by decide +kernel
theorem dX1_settle_58 : decode cX1_settle 58 = .ok (.bipush (-9), 2) := by decide +kernel
theorem dX1_settle_60 : decode cX1_settle 60 = .ok (.iastore, 1) := by decide +kernel
theorem dX1_settle_61 : decode cX1_settle 61 = .ok (.aload_n 0, 1) := by decide +kernel
theorem dX1_settle_62 : decode cX1_settle 62 = .ok (.iload_n 1, 1) := by decide +kernel
theorem dX1_settle_63 : decode cX1_settle 63 = .ok (.iconst 1, 1) := by decide +kernel
theorem dX1_settle_64 : decode cX1_settle 64 = .ok (.iadd, 1) := by decide +kernel
theorem dX1_settle_65 : decode cX1_settle 65 = .ok (.iload_n 2, 1) := by decide +kernel
theorem dX1_settle_66 : decode cX1_settle 66 = .ok (.invokevirtual 61, 3) := by decide +kernel
theorem dX1_settle_69 : decode cX1_settle 69 = .ok (.istore_n 3, 1) := by decide +kernel
theorem dX1_settle_70 : decode cX1_settle 70 = .ok (.iconst 0, 1) := by decide +kernel
theorem dX1_settle_71 : decode cX1_settle 71 = .ok (.istore 4, 2) := by decide +kernel
theorem dX1_settle_73 : decode cX1_settle 73 = .ok (.iload 4, 2) := by decide +kernel
theorem dX1_settle_75 : decode cX1_settle 75 = .ok (.aload_n 0, 1) := by decide +kernel
theorem dX1_settle_76 : decode cX1_settle 76 = .ok (.getfield 21, 3) := by decide +kernel
theorem dX1_settle_79 : decode cX1_settle 79 = .ok (.getfield 95, 3) := by decide +kernel
theorem dX1_settle_82 : decode cX1_settle 82 = .ok (.if_icmp .ge 84, 3) := by decide +kernel
theorem dX1_settle_85 : decode cX1_settle 85 = .ok (.iload_n 3, 1) := by decide +kernel
theorem dX1_settle_86 : decode cX1_settle 86 = .ok (.ifCond .ne 80, 3) := by decide +kernel
theorem dX1_settle_89 : decode cX1_settle 89 = .ok (.aload_n 0, 1) := by decide +kernel
theorem dX1_settle_90 : decode cX1_settle 90 = .ok (.iload 4, 2) := by decide +kernel
theorem dX1_settle_92 : decode cX1_settle 92 = .ok (.iload_n 1, 1) := by decide +kernel
theorem dX1_settle_93 : decode cX1_settle 93 = .ok (.invokevirtual 65, 3) := by decide +kernel
theorem dX1_settle_96 : decode cX1_settle 96 = .ok (.ifCond .eq 64, 3) := by decide +kernel
theorem dX1_settle_99 : decode cX1_settle 99 = .ok (.aload_n 0, 1) := by decide +kernel
theorem dX1_settle_100 : decode cX1_settle 100 = .ok (.getfield 21, 3) := by decide +kernel
theorem dX1_settle_103 : decode cX1_settle 103 = .ok (.iload 4, 2) := by decide +kernel
theorem dX1_settle_105 : decode cX1_settle 105 = .ok (.iload_n 1, 1) := by decide +kernel
theorem dX1_settle_106 : decode cX1_settle 106 = .ok (.invokevirtual 86, 3) := by decide +kernel
theorem dX1_settle_109 : decode cX1_settle 109 = .ok (.istore 5, 2) := by decide +kernel
theorem dX1_settle_111 : decode cX1_settle 111 = .ok (.aload_n 0, 1) := by decide +kernel
theorem dX1_settle_112 : decode cX1_settle 112 = .ok (.getfield 9, 3) := by decide +kernel
theorem dX1_settle_115 : decode cX1_settle 115 = .ok (.iload_n 1, 1) := by decide +kernel
theorem dX1_settle_116 : decode cX1_settle 116 = .ok (.iload 4, 2) := by decide +kernel
theorem dX1_settle_118 : decode cX1_settle 118 = .ok (.iastore, 1) := by decide +kernel
theorem dX1_settle_119 : decode cX1_settle 119 = .ok (.aload_n 0, 1) := by decide +kernel
theorem dX1_settle_120 : decode cX1_settle 120 = .ok (.getfield 15, 3) := by decide +kernel
theorem dX1_settle_123 : decode cX1_settle 123 = .ok (.iload 4, 2) := by decide +kernel
theorem dX1_settle_125 : decode cX1_settle 125 = .ok (.dup2, 1) := by decide +kernel
theorem dX1_settle_126 : decode cX1_settle 126 = .ok (.iaload, 1) := by decide +kernel
theorem dX1_settle_127 : decode cX1_settle 127 = .ok (.iload 5, 2) := by decide +kernel
theorem dX1_settle_129 : decode cX1_settle 129 = .ok (.isub, 1) := by decide +kernel
theorem dX1_settle_130 : decode cX1_settle 130 = .ok (.iastore, 1) := by decide +kernel
theorem dX1_settle_131 : decode cX1_settle 131 = .ok (.aload_n 0, 1) := by decide +kernel
theorem dX1_settle_132 : decode cX1_settle 132 = .ok (.iload_n 1, 1) := by decide +kernel
theorem dX1_settle_133 : decode cX1_settle 133 = .ok (.iconst 1, 1) := by decide +kernel
theorem dX1_settle_134 : decode cX1_settle 134 = .ok (.iadd, 1) := by decide +kernel
theorem dX1_settle_135 : decode cX1_settle 135 = .ok (.iload_n 2, 1) := by decide +kernel
theorem dX1_settle_136 : decode cX1_settle 136 = .ok (.aload_n 0, 1) := by decide +kernel
theorem dX1_settle_137 : decode cX1_settle 137 = .ok (.iload 4, 2) := by decide +kernel
theorem dX1_settle_139 : decode cX1_settle 139 = .ok (.iload_n 1, 1) := by decide +kernel
theorem dX1_settle_140 : decode cX1_settle 140 = .ok (.invokevirtual 68, 3) := by decide +kernel
theorem dX1_settle_143 : decode cX1_settle 143 = .ok (.iadd, 1) := by decide +kernel
theorem dX1_settle_144 : decode cX1_settle 144 = .ok (.invokevirtual 61, 3) := by decide +kernel
theorem dX1_settle_147 : decode cX1_settle 147 = .ok (.istore_n 3, 1) := by decide +kernel
theorem dX1_settle_148 : decode cX1_settle 148 = .ok (.aload_n 0, 1) := by decide +kernel
theorem dX1_settle_149 : decode cX1_settle 149 = .ok (.getfield 15, 3) := by decide +kernel
theorem dX1_settle_152 : decode cX1_settle 152 = .ok (.iload 4, 2) := by decide +kernel
theorem dX1_settle_154 : decode cX1_settle 154 = .ok (.dup2, 1) := by decide +kernel
theorem dX1_settle_155 : decode cX1_settle 155 = .ok (.iaload, 1) := by decide +kernel
theorem dX1_settle_156 : decode cX1_settle 156 = .ok (.iload 5, 2) := by decide +kernel
theorem dX1_settle_158 : decode cX1_settle 158 = .ok (.iadd, 1) := by decide +kernel
theorem dX1_settle_159 : decode cX1_settle 159 = .ok (.iastore, 1) := by decide +kernel
theorem dX1_settle_160 : decode cX1_settle 160 = .ok (.iinc 4 1, 3) := by decide +kernel
theorem dX1_settle_163 : decode cX1_settle 163 = .ok (.goto (-90), 3) := by decide +kernel
theorem dX1_settle_166 : decode cX1_settle 166 = .ok (.iload_n 3, 1) := by decide +kernel
theorem dX1_settle_167 : decode cX1_settle 167 = .ok (.ireturn, 1) := by decide +kernel
theorem dX2_init_0 : decode cX2_init 0 = .ok (.aload_n 0, 1) := by decide +kernel
theorem dX2_init_1 : decode cX2_init 1 = .ok (.invokespecial 3, 3) := by decide +kernel
theorem dX2_init_4 : decode cX2_init 4 = .ok (.aload_n 0, 1) := by decide +kernel
theorem dX2_init_5 : decode cX2_init 5 = .ok (.iconst 0, 1) := by decide +kernel
theorem dX2_init_6 : decode cX2_init 6 = .ok (.putfield 9, 3) := by decide +kernel
theorem dX2_init_9 : decode cX2_init 9 = .ok (.aload_n 0, 1) := by decide +kernel
theorem dX2_init_10 : decode cX2_init 10 = .ok (.iconst 0, 1) := by decide +kernel
theorem dX2_init_11 : decode cX2_init 11 = .ok (.putfield 15, 3) := by decide +kernel
theorem dX2_init_14 : decode cX2_init 14 = .ok (.aload_n 0, 1) := by decide +kernel
theorem dX2_init_15 : decode cX2_init 15 = .ok (.iconst 5, 1) := by decide +kernel
theorem dX2_init_16 : decode cX2_init 16 = .ok (.newarray .int, 2) := by decide +kernel
theorem dX2_init_18 : decode cX2_init 18 = .ok (.putfield 18, 3) := by decide +kernel
theorem dX2_init_21 : decode cX2_init 21 = .ok (.aload_n 0, 1) := by decide +kernel
theorem dX2_init_22 : decode cX2_init 22 = .ok (.iconst 5, 1) := by decide +kernel
theorem dX2_init_23 : decode cX2_init 23 = .ok (.newarray .int, 2) := by decide +kernel
theorem dX2_init_25 : decode cX2_init 25 = .ok (.putfield 22, 3) := by decide +kernel
theorem dX2_init_28 : decode cX2_init 28 = .ok (.aload_n 0, 1) := by decide +kernel
theorem dX2_init_29 : decode cX2_init 29 = .ok (.iconst 5, 1) := by decide +kernel
theorem dX2_init_30 : decode cX2_init 30 = .ok (.newarray .int, 2) := by decide +kernel
theorem dX2_init_32 : decode cX2_init 32 = .ok (.putfield 25, 3) := by decide +kernel
theorem dX2_init_35 : decode cX2_init 35 = .ok (.aload_n 0, 1) := by decide +kernel
theorem dX2_init_36 : decode cX2_init 36 = .ok (.bipush 6, 2) := by decide +kernel
theorem dX2_init_38 : decode cX2_init 38 = .ok (.newarray .int, 2) := by decide +kernel
theorem dX2_init_40 : decode cX2_init 40 = .ok (.putfield 28, 3) := by decide +kernel
theorem dX2_init_43 : decode cX2_init 43 = .ok (.aload_n 0, 1) := by decide +kernel
theorem dX2_init_44 : decode cX2_init 44 = .ok (.bipush 6, 2) := by decide +kernel
theorem dX2_init_46 : decode cX2_init 46 = .ok (.newarray .int, 2) := by decide +kernel
theorem dX2_init_48 : decode cX2_init 48 = .ok (.putfield 31, 3) := by decide +kernel
theorem dX2_init_51 : decode cX2_init 51 = .ok (.aload_n 0, 1) := by decide +kernel
theorem dX2_init_52 : decode cX2_init 52 = .ok (.bipush 6, 2) := by decide +kernel
theorem dX2_init_54 : decode cX2_init 54 = .ok (.newarray .int, 2) := by decide +kernel
theorem dX2_init_56 : decode cX2_init 56 = .ok (.putfield 34, 3) := by decide +kernel
theorem dX2_init_59 : decode cX2_init 59 = .ok (.aload_n 0, 1) := by decide +kernel
theorem dX2_init_60 : decode cX2_init 60 = .ok (.bipush 30, 2) := by decide +kernel
theorem dX2_init_62 : decode cX2_init 62 = .ok (.newarray .int, 2) := by decide +kernel
theorem dX2_init_64 : decode cX2_init 64 = .ok (.putfield 37, 3) := by decide +kernel
theorem dX2_init_67 : decode cX2_init 67 = .ok (.aload_n 0, 1) := by decide +kernel
theorem dX2_init_68 : decode cX2_init 68 = .ok (.bipush 30, 2) := by decide +kernel
theorem dX2_init_70 : decode cX2_init 70 = .ok (.newarray .int, 2) := by decide +kernel
theorem dX2_init_72 : decode cX2_init 72 = .ok (.putfield 40, 3) := by decide +kernel
theorem dX2_init_75 : decode cX2_init 75 = .ok (.return_, 1) := by decide +kernel
theorem dX2_hasSigher_0 : decode cX2_hasSigher 0 = .ok (.iload_n 1, 1) := by decide +kernel
theorem dX2_hasSigher_1 : decode cX2_hasSigher 1 = .ok (.ifCond .lt 15, 3) := by decide +kernel
theorem dX2_hasSigher_4 : decode cX2_hasSigher 4 = .ok (.iload_n 1, 1) := by decide +kernel
theorem dX2_hasSigher_5 : decode cX2_hasSigher 5 = .ok (.aload_n 0, 1) := by decide +kernel
theorem dX2_hasSigher_6 : decode cX2_hasSigher 6 = .ok (.getfield 9, 3) := by decide +kernel
theorem dX2_hasSigher_9 : decode cX2_hasSigher 9 = .ok (.if_icmp .ge 7, 3) := by decide +kernel
theorem dX2_hasSigher_12 : decode cX2_hasSigher 12 = .ok (.iconst 1, 1) := by decide +kernel
theorem dX2_hasSigher_13 : decode cX2_hasSigher 13 = .ok (.goto 4, 3) := by decide +kernel
theorem dX2_hasSigher_16 : decode cX2_hasSigher 16 = .ok (.iconst 0, 1) := by decide +kernel
theorem dX2_hasSigher_17 : decode cX2_hasSigher 17 = .ok (.ireturn, 1) := by decide +kernel
theorem dX2_hasOrder_0 : decode cX2_hasOrder 0 = .ok (.iload_n 1, 1) := by decide +kernel
theorem dX2_hasOrder_1 : decode cX2_hasOrder 1 = .ok (.ifCond .lt 15, 3) := by decide +kernel
theorem dX2_hasOrder_4 : decode cX2_hasOrder 4 = .ok (.iload_n 1, 1) := by decide +kernel
theorem dX2_hasOrder_5 : decode cX2_hasOrder 5 = .ok (.aload_n 0, 1) := by decide +kernel
theorem dX2_hasOrder_6 : decode cX2_hasOrder 6 = .ok (.getfield 15, 3) := by decide +kernel
theorem dX2_hasOrder_9 : decode cX2_hasOrder 9 = .ok (.if_icmp .ge 7, 3) := by decide +kernel
theorem dX2_hasOrder_12 : decode cX2_hasOrder 12 = .ok (.iconst 1, 1) := by decide +kernel
theorem dX2_hasOrder_13 : decode cX2_hasOrder 13 = .ok (.goto 4, 3) := by decide +kernel
theorem dX2_hasOrder_16 : decode cX2_hasOrder 16 = .ok (.iconst 0, 1) := by decide +kernel
theorem dX2_hasOrder_17 : decode cX2_hasOrder 17 = .ok (.ireturn, 1) := by decide +kernel
theorem dX2_isSetOfOrders_0 : decode cX2_isSetOfOrders 0 = .ok (.iload_n 1, 1) := by decide +kernel
theorem dX2_isSetOfOrders_1 : decode cX2_isSetOfOrders 1 = .ok (.ifCond .lt 17, 3) := by decide +kernel
theorem dX2_isSetOfOrders_4 : decode cX2_isSetOfOrders 4 = .ok (.iload_n 1, 1) := by decide +kernel
theorem dX2_isSetOfOrders_5 : decode cX2_isSetOfOrders 5 = .ok (.iconst 1, 1) := by decide +kernel
theorem dX2_isSetOfOrders_6 : decode cX2_isSetOfOrders 6 = .ok (.aload_n 0, 1) := by decide +kernel
theorem dX2_isSetOfOrders_7 : decode cX2_isSetOfOrders 7 = .ok (.getfield 15, 3) := by decide +kernel
theorem dX2_isSetOfOrders_10 : decode cX2_isSetOfOrders 10 = .ok (.ishl, 1) := by decide +kernel
theorem dX2_isSetOfOrders_11 : decode cX2_isSetOfOrders 11 = .ok (.if_icmp .ge 7, 3) := by decide +kernel
theorem dX2_isSetOfOrders_14 : decode cX2_isSetOfOrders 14 = .ok (.iconst 1, 1) := by decide +kernel
theorem dX2_isSetOfOrders_15 : decode cX2_isSetOfOrders 15 = .ok (.goto 4, 3) := by decide +kernel
theorem dX2_isSetOfOrders_18 : decode cX2_isSetOfOrders 18 = .ok (.iconst 0, 1) := by decide +kernel
theorem dX2_isSetOfOrders_19 : decode cX2_isSetOfOrders 19 = .ok (.ireturn, 1) := by decide +kernel
theorem dX2_breathFor_0 : decode cX2_breathFor 0 = .ok (.aload_n 0, 1) := by decide +kernel
theorem dX2_breathFor_1 : decode cX2_breathFor 1 = .ok (.iload_n 1, 1) := by decide +kernel
theorem dX2_breathFor_2 : decode cX2_breathFor 2 = .ok (.invokevirtual 43, 3) := by decide +kernel
theorem dX2_breathFor_5 : decode cX2_breathFor 5 = .ok (.ifCond .eq 25, 3) := by decide +kernel
theorem dX2_breathFor_8 : decode cX2_breathFor 8 = .ok (.aload_n 0, 1) := by decide +kernel
theorem dX2_breathFor_9 : decode cX2_breathFor 9 = .ok (.iload_n 2, 1) := by decide +kernel
theorem dX2_breathFor_10 : decode cX2_breathFor 10 = .ok (.invokevirtual 47, 3) := by decide +kernel
theorem dX2_breathFor_13 : decode cX2_breathFor 13 = .ok (.ifCond .eq 17, 3) := by decide +kernel
theorem dX2_breathFor_16 : decode cX2_breathFor 16 = .ok (.aload_n 0, 1) := by decide +kernel
theorem dX2_breathFor_17 : decode cX2_breathFor 17 = .ok (.getfield 37, 3) := by decide +kernel
theorem dX2_breathFor_20 : decode cX2_breathFor 20 = .ok (.iload_n 1, 1) := by decide +kernel
theorem dX2_breathFor_21 : decode cX2_breathFor 21 = .ok (.bipush 6, 2) := by decide +kernel
theorem dX2_breathFor_23 : decode cX2_breathFor 23 = .ok (.imul, 1) := by decide +kernel
theorem dX2_breathFor_24 : decode cX2_breathFor 24 = .ok (.iload_n 2, 1) := by decide +kernel
theorem dX2_breathFor_25 : decode cX2_breathFor 25 = .ok (.iadd, 1) := by decide +kernel
theorem dX2_breathFor_26 : decode cX2_breathFor 26 = .ok (.iaload, 1) := by decide +kernel
theorem dX2_breathFor_27 : decode cX2_breathFor 27 = .ok (.goto 5, 3) := by decide +kernel
theorem dX2_breathFor_30 : decode cX2_breathFor 30 = .ok (.bipush (-9), 2) := by decide +kernel
theorem dX2_breathFor_32 : decode cX2_breathFor 32 = .ok (.ireturn, 1) := by decide +kernel
theorem dX2_goldFor_0 : decode cX2_goldFor 0 = .ok (.aload_n 0, 1) := by decide +kernel
theorem dX2_goldFor_1 : decode cX2_goldFor 1 = .ok (.iload_n 1, 1) := by decide +kernel
theorem dX2_goldFor_2 : decode cX2_goldFor 2 = .ok (.invokevirtual 43, 3) := by decide +kernel
theorem dX2_goldFor_5 : decode cX2_goldFor 5 = .ok (.ifCond .eq 25, 3) := by decide +kernel
theorem dX2_goldFor_8 : decode cX2_goldFor 8 = .ok (.aload_n 0, 1) := by decide +kernel
theorem dX2_goldFor_9 : decode cX2_goldFor 9 = .ok (.iload_n 2, 1) := by decide +kernel
theorem dX2_goldFor_10 : decode cX2_goldFor 10 = .ok (.invokevirtual 47, 3) := by decide +kernel
theorem dX2_goldFor_13 : decode cX2_goldFor 13 = .ok (.ifCond .eq 17, 3) := by decide +kernel
theorem dX2_goldFor_16 : decode cX2_goldFor 16 = .ok (.aload_n 0, 1) := by decide +kernel
theorem dX2_goldFor_17 : decode cX2_goldFor 17 = .ok (.getfield 40, 3) := by decide +kernel
theorem dX2_goldFor_20 : decode cX2_goldFor 20 = .ok (.iload_n 1, 1) := by decide +kernel
theorem dX2_goldFor_21 : decode cX2_goldFor 21 = .ok (.bipush 6, 2) := by decide +kernel
theorem dX2_goldFor_23 : decode cX2_goldFor 23 = .ok (.imul, 1) := by decide +kernel
theorem dX2_goldFor_24 : decode cX2_goldFor 24 = .ok (.iload_n 2, 1) := by decide +kernel
theorem dX2_goldFor_25 : decode cX2_goldFor 25 = .ok (.iadd, 1) := by decide +kernel
theorem dX2_goldFor_26 : decode cX2_goldFor 26 = .ok (.iaload, 1) := by decide +kernel
theorem dX2_goldFor_27 : decode cX2_goldFor 27 = .ok (.goto 4, 3) := by decide +kernel
theorem dX2_goldFor_30 : decode cX2_goldFor 30 = .ok (.iconst 0, 1) := by decide +kernel
theorem dX2_goldFor_31 : decode cX2_goldFor 31 = .ok (.ireturn, 1) := by decide +kernel
theorem dX2_countOfKind_0 : decode cX2_countOfKind 0 = .ok (.iconst 0, 1) := by decide +kernel
theorem dX2_countOfKind_1 : decode cX2_countOfKind 1 = .ok (.istore_n 2, 1) := by decide +kernel
theorem dX2_countOfKind_2 : decode cX2_countOfKind 2 = .ok (.iconst 0, 1) := by decide +kernel
theorem dX2_countOfKind_3 : decode cX2_countOfKind 3 = .ok (.istore_n 3, 1) := by decide +kernel
theorem dX2_countOfKind_4 : decode cX2_countOfKind 4 = .ok (.iload_n 3, 1) := by decide +kernel
theorem dX2_countOfKind_5 : decode cX2_countOfKind 5 = .ok (.aload_n 0, 1) := by decide +kernel
theorem dX2_countOfKind_6 : decode cX2_countOfKind 6 = .ok (.getfield 9, 3) := by decide +kernel
theorem dX2_countOfKind_9 : decode cX2_countOfKind 9 = .ok (.if_icmp .ge 30, 3) := by decide +kernel
theorem dX2_countOfKind_12 : decode cX2_countOfKind 12 = .ok (.iload_n 2, 1) := by decide +kernel
theorem dX2_countOfKind_13 : decode cX2_countOfKind 13 = .ok (.aload_n 0, 1) := by decide +kernel
theorem dX2_countOfKind_14 : decode cX2_countOfKind 14 = .ok (.getfield 18, 3) := by decide +kernel
theorem dX2_countOfKind_17 : decode cX2_countOfKind 17 = .ok (.iload_n 3, 1) := by decide +kernel
theorem dX2_countOfKind_18 : decode cX2_countOfKind 18 = .ok (.iaload, 1) := by decide +kernel
theorem dX2_countOfKind_19 : decode cX2_countOfKind 19 = .ok (.iload_n 1, 1) := by decide +kernel
theorem dX2_countOfKind_20 : decode cX2_countOfKind 20 = .ok (.invokestatic 50, 3) := by decide +kernel
theorem dX2_countOfKind_23 : decode cX2_countOfKind 23 = .ok (.ifCond .eq 7, 3) := by decide +kernel
theorem dX2_countOfKind_26 : decode cX2_countOfKind 26 = .ok (.iconst 1, 1) := by decide +kernel
theorem dX2_countOfKind_27 : decode cX2_countOfKind 27 = .ok (.goto 4, 3) := by decide +kernel
theorem dX2_countOfKind_30 : decode cX2_countOfKind 30 = .ok (.iconst 0, 1) := by decide +kernel
theorem dX2_countOfKind_31 : decode cX2_countOfKind 31 = .ok (.iadd, 1) := by decide +kernel
theorem dX2_countOfKind_32 : decode cX2_countOfKind 32 = .ok (.istore_n 2, 1) := by decide +kernel
theorem dX2_countOfKind_33 : decode cX2_countOfKind 33 = .ok (.iinc 3 1, 3) := by decide +kernel
theorem dX2_countOfKind_36 : decode cX2_countOfKind 36 = .ok (.goto (-32), 3) := by decide +kernel
theorem dX2_countOfKind_39 : decode cX2_countOfKind 39 = .ok (.iload_n 2, 1) := by decide +kernel
theorem dX2_countOfKind_40 : decode cX2_countOfKind 40 = .ok (.ireturn, 1) := by decide +kernel
theorem dX2_areInTune_0 : decode cX2_areInTune 0 = .ok (.aload_n 0, 1) := by decide +kernel
theorem dX2_areInTune_1 : decode cX2_areInTune 1 = .ok (.iload_n 1, 1) := by decide +kernel
theorem dX2_areInTune_2 : decode cX2_areInTune 2 = .ok (.invokevirtual 43, 3) := by decide +kernel
theorem dX2_areInTune_5 : decode cX2_areInTune 5 = .ok (.ifCond .eq 35, 3) := by decide +kernel
theorem dX2_areInTune_8 : decode cX2_areInTune 8 = .ok (.aload_n 0, 1) := by decide +kernel
theorem dX2_areInTune_9 : decode cX2_areInTune 9 = .ok (.iload_n 2, 1) := by decide +kernel
theorem dX2_areInTune_10 : decode cX2_areInTune 10 = .ok (.invokevirtual 43, 3) := by decide +kernel
theorem dX2_areInTune_13 : decode cX2_areInTune 13 = .ok (.ifCond .eq 27, 3) := by decide +kernel
theorem dX2_areInTune_16 : decode cX2_areInTune 16 = .ok (.aload_n 0, 1) := by decide +kernel
theorem dX2_areInTune_17 : decode cX2_areInTune 17 = .ok (.getfield 25, 3) := by decide +kernel
theorem dX2_areInTune_20 : decode cX2_areInTune 20 = .ok (.iload_n 1, 1) := by decide +kernel
theorem dX2_areInTune_21 : decode cX2_areInTune 21 = .ok (.iaload, 1) := by decide +kernel
theorem dX2_areInTune_22 : decode cX2_areInTune 22 = .ok (.aload_n 0, 1) := by decide +kernel
theorem dX2_areInTune_23 : decode cX2_areInTune 23 = .ok (.getfield 25, 3) := by decide +kernel
theorem dX2_areInTune_26 : decode cX2_areInTune 26 = .ok (.iload_n 2, 1) := by decide +kernel
theorem dX2_areInTune_27 : decode cX2_areInTune 27 = .ok (.iaload, 1) := by decide +kernel
theorem dX2_areInTune_28 : decode cX2_areInTune 28 = .ok (.isub, 1) := by decide +kernel
theorem dX2_areInTune_29 : decode cX2_areInTune 29 = .ok (.invokestatic 54, 3) := by decide +kernel
theorem dX2_areInTune_32 : decode cX2_areInTune 32 = .ok (.iload_n 3, 1) := by decide +kernel
theorem dX2_areInTune_33 : decode cX2_areInTune 33 = .ok (.if_icmp .gt 7, 3) := by decide +kernel
theorem dX2_areInTune_36 : decode cX2_areInTune 36 = .ok (.iconst 1, 1) := by decide +kernel
theorem dX2_areInTune_37 : decode cX2_areInTune 37 = .ok (.goto 4, 3) := by decide +kernel
theorem dX2_areInTune_40 : decode cX2_areInTune 40 = .ok (.iconst 0, 1) := by decide +kernel
theorem dX2_areInTune_41 : decode cX2_areInTune 41 = .ok (.ireturn, 1) := by decide +kernel
theorem dX2_isChoir_0 : decode cX2_isChoir 0 = .ok (.iconst 0, 1) := by decide +kernel
theorem dX2_isChoir_1 : decode cX2_isChoir 1 = .ok (.istore_n 3, 1) := by decide +kernel
theorem dX2_isChoir_2 : decode cX2_isChoir 2 = .ok (.iload_n 3, 1) := by decide +kernel
theorem dX2_isChoir_3 : decode cX2_isChoir 3 = .ok (.aload_n 0, 1) := by decide +kernel
theorem dX2_isChoir_4 : decode cX2_isChoir 4 = .ok (.getfield 9, 3) := by decide +kernel
theorem dX2_isChoir_7 : decode cX2_isChoir 7 = .ok (.if_icmp .ge 59, 3) := by decide +kernel
theorem dX2_isChoir_10 : decode cX2_isChoir 10 = .ok (.iload_n 3, 1) := by decide +kernel
theorem dX2_isChoir_11 : decode cX2_isChoir 11 = .ok (.iconst 1, 1) := by decide +kernel
theorem dX2_isChoir_12 : decode cX2_isChoir 12 = .ok (.iadd, 1) := by decide +kernel
theorem dX2_isChoir_13 : decode cX2_isChoir 13 = .ok (.istore 4, 2) := by decide +kernel
theorem dX2_isChoir_15 : decode cX2_isChoir 15 = .ok (.iload 4, 2) := by decide +kernel
theorem dX2_isChoir_17 : decode cX2_isChoir 17 = .ok (.aload_n 0, 1) := by decide +kernel
theorem dX2_isChoir_18 : decode cX2_isChoir 18 = .ok (.getfield 9, 3) := by decide +kernel
theorem dX2_isChoir_21 : decode cX2_isChoir 21 = .ok (.if_icmp .ge 39, 3) := by decide +kernel
theorem dX2_isChoir_24 : decode cX2_isChoir 24 = .ok (.iload_n 1, 1) := by decide +kernel
theorem dX2_isChoir_25 : decode cX2_isChoir 25 = .ok (.iload_n 3, 1) := by decide +kernel
theorem dX2_isChoir_26 : decode cX2_isChoir 26 = .ok (.invokestatic 60, 3) := by decide +kernel
theorem dX2_isChoir_29 : decode cX2_isChoir 29 = .ok (.ifCond .eq 25, 3) := by decide +kernel
theorem dX2_isChoir_32 : decode cX2_isChoir 32 = .ok (.iload_n 1, 1) := by decide +kernel
theorem dX2_isChoir_33 : decode cX2_isChoir 33 = .ok (.iload 4, 2) := by decide +kernel
theorem dX2_isChoir_35 : decode cX2_isChoir 35 = .ok (.invokestatic 60, 3) := by decide +kernel
theorem dX2_isChoir_38 : decode cX2_isChoir 38 = .ok (.ifCond .eq 16, 3) := by decide +kernel
theorem dX2_isChoir_41 : decode cX2_isChoir 41 = .ok (.aload_n 0, 1) := by decide +kernel
theorem dX2_isChoir_42 : decode cX2_isChoir 42 = .ok (.iload_n 3, 1) := by decide +kernel
theorem dX2_isChoir_43 : decode cX2_isChoir 43 = .ok (.iload 4, 2) := by decide +kernel
theorem dX2_isChoir_45 : decode cX2_isChoir 45 = .ok (.iload_n 2, 1) := by decide +kernel
theorem dX2_isChoir_46 : decode cX2_isChoir 46 = .ok (.invokevirtual 63, 3) := by decide +kernel
theorem dX2_isChoir_49 : decode cX2_isChoir 49 = .ok (.ifCond .ne 5, 3) := by decide +kernel
theorem dX2_isChoir_52 : decode cX2_isChoir 52 = .ok (.iconst 0, 1) := by decide +kernel
theorem dX2_isChoir_53 : decode cX2_isChoir 53 = .ok (.ireturn, 1) := by decide +kernel
theorem dX2_isChoir_54 : decode cX2_isChoir 54 = .ok (.iinc 4 1, 3) := by decide +kernel
theorem dX2_isChoir_57 : decode cX2_isChoir 57 = .ok (.goto (-42), 3) := by decide +kernel
theorem dX2_isChoir_60 : decode cX2_isChoir 60 = .ok (.iinc 3 1, 3) := by decide +kernel
theorem dX2_isChoir_63 : decode cX2_isChoir 63 = .ok (.goto (-61), 3) := by decide +kernel
theorem dX2_isChoir_66 : decode cX2_isChoir 66 = .ok (.iconst 1, 1) := by decide +kernel
theorem dX2_isChoir_67 : decode cX2_isChoir 67 = .ok (.ireturn, 1) := by decide +kernel
theorem dX2_ordersAt_0 : decode cX2_ordersAt 0 = .ok (.iconst 0, 1) := by decide +kernel
theorem dX2_ordersAt_1 : decode cX2_ordersAt 1 = .ok (.istore_n 2, 1) := by decide +kernel
theorem dX2_ordersAt_2 : decode cX2_ordersAt 2 = .ok (.iconst 0, 1) := by decide +kernel
theorem dX2_ordersAt_3 : decode cX2_ordersAt 3 = .ok (.istore_n 3, 1) := by decide +kernel
theorem dX2_ordersAt_4 : decode cX2_ordersAt 4 = .ok (.iload_n 3, 1) := by decide +kernel
theorem dX2_ordersAt_5 : decode cX2_ordersAt 5 = .ok (.aload_n 0, 1) := by decide +kernel
theorem dX2_ordersAt_6 : decode cX2_ordersAt 6 = .ok (.getfield 15, 3) := by decide +kernel
theorem dX2_ordersAt_9 : decode cX2_ordersAt 9 = .ok (.if_icmp .ge 25, 3) := by decide +kernel
theorem dX2_ordersAt_12 : decode cX2_ordersAt 12 = .ok (.aload_n 0, 1) := by decide +kernel
theorem dX2_ordersAt_13 : decode cX2_ordersAt 13 = .ok (.getfield 28, 3) := by decide +kernel
theorem dX2_ordersAt_16 : decode cX2_ordersAt 16 = .ok (.iload_n 3, 1) := by decide +kernel
theorem dX2_ordersAt_17 : decode cX2_ordersAt 17 = .ok (.iaload, 1) := by decide +kernel
theorem dX2_ordersAt_18 : decode cX2_ordersAt 18 = .ok (.iload_n 1, 1) := by decide +kernel
theorem dX2_ordersAt_19 : decode cX2_ordersAt 19 = .ok (.if_icmp .ne 9, 3) := by decide +kernel
theorem dX2_ordersAt_22 : decode cX2_ordersAt 22 = .ok (.iload_n 2, 1) := by decide +kernel
theorem dX2_ordersAt_23 : decode cX2_ordersAt 23 = .ok (.iconst 1, 1) := by decide +kernel
theorem dX2_ordersAt_24 : decode cX2_ordersAt 24 = .ok (.iload_n 3, 1) := by decide +kernel
theorem dX2_ordersAt_25 : decode cX2_ordersAt 25 = .ok (.ishl, 1) := by decide +kernel
theorem dX2_ordersAt_26 : decode cX2_ordersAt 26 = .ok (.ior, 1) := by decide +kernel
theorem dX2_ordersAt_27 : decode cX2_ordersAt 27 = .ok (.istore_n 2, 1) := by decide +kernel
theorem dX2_ordersAt_28 : decode cX2_ordersAt 28 = .ok (.iinc 3 1, 3) := by decide +kernel
theorem dX2_ordersAt_31 : decode cX2_ordersAt 31 = .ok (.goto (-27), 3) := by decide +kernel
theorem dX2_ordersAt_34 : decode cX2_ordersAt 34 = .ok (.iload_n 2, 1) := by decide +kernel
theorem dX2_ordersAt_35 : decode cX2_ordersAt 35 = .ok (.ireturn, 1) := by decide +kernel
theorem dX2_readFrom_0 : decode cX2_readFrom 0 = .ok (.aload_n 0, 1) := by decide +kernel
theorem dX2_readFrom_1 : decode cX2_readFrom 1 = .ok (.iconst 0, 1) := by decide +kernel
theorem dX2_readFrom_2 : decode cX2_readFrom 2 = .ok (.putfield 9, 3) := by decide +kernel
theorem dX2_readFrom_5 : decode cX2_readFrom 5 = .ok (.aload_n 0, 1) := by decide +kernel
theorem dX2_readFrom_6 : decode cX2_readFrom 6 = .ok (.iconst 0, 1) := by decide +kernel
theorem dX2_readFrom_7 : decode cX2_readFrom 7 = .ok (.putfield 15, 3) := by decide +kernel
theorem dX2_readFrom_10 : decode cX2_readFrom 10 = .ok (.iconst 0, 1) := by decide +kernel
theorem dX2_readFrom_11 : decode cX2_readFrom 11 = .ok (.istore_n 2, 1) := by decide +kernel
theorem dX2_readFrom_12 : decode cX2_readFrom 12 = .ok (.iconst 0, 1) := by decide +kernel
theorem dX2_readFrom_13 : decode cX2_readFrom 13 = .ok (.istore_n 3, 1) := by decide +kernel
theorem dX2_readFrom_14 : decode cX2_readFrom 14 = .ok (.iload_n 3, 1) := by decide +kernel
theorem dX2_readFrom_15 : decode cX2_readFrom 15 = .ok (.bipush 60, 2) := by decide +kernel
theorem dX2_readFrom_17 : decode cX2_readFrom 17 = .ok (.if_icmp .ge 60, 3) := by decide +kernel
theorem dX2_readFrom_20 : decode cX2_readFrom 20 = .ok (.iload_n 2, 1) := by decide +kernel
theorem dX2_readFrom_21 : decode cX2_readFrom 21 = .ok (.aload_n 1, 1) := by decide +kernel
theorem dX2_readFrom_22 : decode cX2_readFrom 22 = .ok (.getfield 67, 3) := by decide +kernel
theorem dX2_readFrom_25 : decode cX2_readFrom 25 = .ok (.if_icmp .ge 52, 3) := by decide +kernel
theorem dX2_readFrom_28 : decode cX2_readFrom 28 = .ok (.aload_n 1, 1) := by decide +kernel
theorem dX2_readFrom_29 : decode cX2_readFrom 29 = .ok (.iload_n 2, 1) := by decide +kernel
theorem dX2_readFrom_30 : decode cX2_readFrom 30 = .ok (.invokevirtual 72, 3) := by decide +kernel
theorem dX2_readFrom_33 : decode cX2_readFrom 33 = .ok (.bipush 32, 2) := by decide +kernel
theorem dX2_readFrom_35 : decode cX2_readFrom 35 = .ok (.if_icmp .ne 9, 3) := by decide +kernel
theorem dX2_readFrom_38 : decode cX2_readFrom 38 = .ok (.iinc 2 1, 3) := by decide +kernel
theorem dX2_readFrom_41 : decode cX2_readFrom 41 = .ok (.goto 30, 3) := by decide +kernel
theorem dX2_readFrom_44 : decode cX2_readFrom 44 = .ok (.aload_n 0, 1) := by decide +kernel
theorem dX2_readFrom_45 : decode cX2_readFrom 45 = .ok (.aload_n 1, 1) := by decide +kernel
theorem dX2_readFrom_46 : decode cX2_readFrom 46 = .ok (.iload_n 2, 1) := by decide +kernel
theorem dX2_readFrom_47 : decode cX2_readFrom 47 = .ok (.invokevirtual 75, 3) := by decide +kernel
theorem dX2_readFrom_50 : decode cX2_readFrom 50 = .ok (.istore 4, 2) := by decide +kernel
theorem dX2_readFrom_52 : decode cX2_readFrom 52 = .ok (.iload 4, 2) := by decide +kernel
theorem dX2_readFrom_54 : decode cX2_readFrom 54 = .ok (.bipush (-9), 2) := by decide +kernel
theorem dX2_readFrom_56 : decode cX2_readFrom 56 = .ok (.if_icmp .eq 6, 3) := by decide +kernel
theorem dX2_readFrom_59 : decode cX2_readFrom 59 = .ok (.iload 4, 2) := by decide +kernel
theorem dX2_readFrom_61 : decode cX2_readFrom 61 = .ok (.ireturn, 1) := by decide +kernel
theorem dX2_readFrom_62 : decode cX2_readFrom 62 = .ok (.iload_n 2, 1) := by decide +kernel
theorem dX2_readFrom_63 : decode cX2_readFrom 63 = .ok (.aload_n 0, 1) := by decide +kernel
theorem dX2_readFrom_64 : decode cX2_readFrom 64 = .ok (.aload_n 1, 1) := by decide +kernel
theorem dX2_readFrom_65 : decode cX2_readFrom 65 = .ok (.iload_n 2, 1) := by decide +kernel
theorem dX2_readFrom_66 : decode cX2_readFrom 66 = .ok (.invokevirtual 79, 3) := by decide +kernel
theorem dX2_readFrom_69 : decode cX2_readFrom 69 = .ok (.iadd, 1) := by decide +kernel
theorem dX2_readFrom_70 : decode cX2_readFrom 70 = .ok (.istore_n 2, 1) := by decide +kernel
theorem dX2_readFrom_71 : decode cX2_readFrom 71 = .ok (.iinc 3 1, 3) := by decide +kernel
theorem dX2_readFrom_74 : decode cX2_readFrom 74 = .ok (.goto (-60), 3) := by decide +kernel
theorem dX2_readFrom_77 : decode cX2_readFrom 77 = .ok (.aload_n 0, 1) := by decide +kernel
theorem dX2_readFrom_78 : decode cX2_readFrom 78 = .ok (.getfield 15, 3) := by decide +kernel
theorem dX2_readFrom_81 : decode cX2_readFrom 81 = .ok (.ifCond .le 8, 3) := by decide +kernel
theorem dX2_readFrom_84 : decode cX2_readFrom 84 = .ok (.bipush (-9), 2) := by decide +kernel
theorem dX2_readFrom_86 : decode cX2_readFrom 86 = .ok (.goto 7, 3) := by decide +kernel
theorem dX2_readFrom_89 : decode cX2_readFrom 89 = .ok (.aload_n 1, 1) := by decide +kernel
theorem dX2_readFrom_90 : decode cX2_readFrom 90 = .ok (.getfield 67, 3) := by decide +kernel
theorem dX2_readFrom_93 : decode cX2_readFrom 93 = .ok (.ireturn, 1) := by decide +kernel
theorem dX2_faultOfItem_0 : decode cX2_faultOfItem 0 = .ok (.aload_n 0, 1) := by decide +kernel
theorem dX2_faultOfItem_1 : decode cX2_faultOfItem 1 = .ok (.aload_n 1, 1) := by decide +kernel
theorem dX2_faultOfItem_2 : decode cX2_faultOfItem 2 = .ok (.iload_n 2, 1) := by decide +kernel
theorem dX2_faultOfItem_3 : decode cX2_faultOfItem 3 = .ok (.invokevirtual 72, 3) := by decide +kernel
theorem dX2_faultOfItem_6 : decode cX2_faultOfItem 6 = .ok (.invokevirtual 82, 3) := by decide +kernel
theorem dX2_faultOfItem_9 : decode cX2_faultOfItem 9 = .ok (.ifCond .ne 5, 3) := by decide +kernel
theorem dX2_faultOfItem_12 : decode cX2_faultOfItem 12 = .ok (.iload_n 2, 1) := by decide +kernel
theorem dX2_faultOfItem_13 : decode cX2_faultOfItem 13 = .ok (.ireturn, 1) := by decide +kernel
theorem dX2_faultOfItem_14 : decode cX2_faultOfItem 14 = .ok (.aload_n 1, 1) := by decide +kernel
theorem dX2_faultOfItem_15 : decode cX2_faultOfItem 15 = .ok (.iload_n 2, 1) := by decide +kernel
theorem dX2_faultOfItem_16 : decode cX2_faultOfItem 16 = .ok (.invokevirtual 72, 3) := by decide +kernel
theorem dX2_faultOfItem_19 : decode cX2_faultOfItem 19 = .ok (.bipush 111, 2) := by decide +kernel
theorem dX2_faultOfItem_21 : decode cX2_faultOfItem 21 = .ok (.if_icmp .ne 7, 3) := by decide +kernel
theorem dX2_faultOfItem_24 : decode cX2_faultOfItem 24 = .ok (.iconst 1, 1) := by decide +kernel
theorem dX2_faultOfItem_25 : decode cX2_faultOfItem 25 = .ok (.goto 4, 3) := by decide +kernel
theorem dX2_faultOfItem_28 : decode cX2_faultOfItem 28 = .ok (.iconst 0, 1) := by decide +kernel
theorem dX2_faultOfItem_29 : decode cX2_faultOfItem 29 = .ok (.istore_n 3, 1) := by decide +kernel
theorem dX2_faultOfItem_30 : decode cX2_faultOfItem 30 = .ok (.iload_n 3, 1) := by decide +kernel
theorem dX2_faultOfItem_31 : decode cX2_faultOfItem 31 = .ok (.ifCond .eq 7, 3) := by decide +kernel
theorem dX2_faultOfItem_34 : decode cX2_faultOfItem 34 = .ok (.iconst 3, 1) := by decide +kernel
theorem dX2_faultOfItem_35 : decode cX2_faultOfItem 35 = .ok (.goto 4, 3) := by decide +kernel
theorem dX2_faultOfItem_38 : decode cX2_faultOfItem 38 = .ok (.iconst 2, 1) := by decide +kernel
theorem dX2_faultOfItem_39 : decode cX2_faultOfItem 39 = .ok (.istore 4, 2) := by decide +kernel
theorem dX2_faultOfItem_41 : decode cX2_faultOfItem 41 = .ok (.iconst 1, 1) := by decide +kernel
theorem dX2_faultOfItem_42 : decode cX2_faultOfItem 42 = .ok (.istore 5, 2) := by decide +kernel
theorem dX2_faultOfItem_44 : decode cX2_faultOfItem 44 = .ok (.iload 5, 2) := by decide +kernel
theorem dX2_faultOfItem_46 : decode cX2_faultOfItem 46 = .ok (.iload 4, 2) := by decide +kernel
theorem dX2_faultOfItem_48 : decode cX2_faultOfItem 48 = .ok (.if_icmp .gt 51, 3) := by decide +kernel
theorem dX2_faultOfItem_51 : decode cX2_faultOfItem 51 = .ok (.iload_n 3, 1) := by decide +kernel
theorem dX2_faultOfItem_52 : decode cX2_faultOfItem 52 = .ok (.ifCond .eq 13, 3) := by decide +kernel
theorem dX2_faultOfItem_55 : decode cX2_faultOfItem 55 = .ok (.iload 5, 2) := by decide +kernel
theorem dX2_faultOfItem_57 : decode cX2_faultOfItem 57 = .ok (.iconst 2, 1) := by decide +kernel
theorem dX2_faultOfItem_58 : decode cX2_faultOfItem 58 = .ok (.if_icmp .ne 7, 3) := by decide +kernel
theorem dX2_faultOfItem_61 : decode cX2_faultOfItem 61 = .ok (.iconst 1, 1) := by decide +kernel
theorem dX2_faultOfItem_62 : decode cX2_faultOfItem 62 = .ok (.goto 4, 3) := by decide +kernel
theorem dX2_faultOfItem_65 : decode cX2_faultOfItem 65 = .ok (.iconst 0, 1) := by decide +kernel
theorem dX2_faultOfItem_66 : decode cX2_faultOfItem 66 = .ok (.istore 6, 2) := by decide +kernel
theorem dX2_faultOfItem_68 : decode cX2_faultOfItem 68 = .ok (.aload_n 1, 1) := by decide +kernel
theorem dX2_faultOfItem_69 : decode cX2_faultOfItem 69 = .ok (.iload_n 2, 1) := by decide +kernel
theorem dX2_faultOfItem_70 : decode cX2_faultOfItem 70 = .ok (.iload 5, 2) := by decide +kernel
theorem dX2_faultOfItem_72 : decode cX2_faultOfItem 72 = .ok (.iadd, 1) := by decide +kernel
theorem dX2_faultOfItem_73 : decode cX2_faultOfItem 73 = .ok (.invokevirtual 85, 3) := by decide +kernel
theorem dX2_faultOfItem_76 : decode cX2_faultOfItem 76 = .ok (.iload 6, 2) := by decide +kernel
theorem dX2_faultOfItem_78 : decode cX2_faultOfItem 78 = .ok (.if_icmp .ge 15, 3) := by decide +kernel
theorem dX2_faultOfItem_81 : decode cX2_faultOfItem 81 = .ok (.iload_n 2, 1) := by decide +kernel
theorem dX2_faultOfItem_82 : decode cX2_faultOfItem 82 = .ok (.iload 5, 2) := by decide +kernel
theorem dX2_faultOfItem_84 : decode cX2_faultOfItem 84 = .ok (.iadd, 1) := by decide +kernel
theorem dX2_faultOfItem_85 : decode cX2_faultOfItem 85 = .ok (.aload_n 1, 1) := by decide +kernel
theorem dX2_faultOfItem_86 : decode cX2_faultOfItem 86 = .ok (.getfield 67, 3) := by decide +kernel
theorem dX2_faultOfItem_89 : decode cX2_faultOfItem 89 = .ok (.invokestatic 88, 3) := by decide +kernel
theorem dX2_faultOfItem_92 : decode cX2_faultOfItem 92 = .ok (.ireturn, 1) := by decide +kernel
theorem dX2_faultOfItem_93 : decode cX2_faultOfItem 93 = .ok (.iinc 5 1, 3) := by decide +kernel
theorem dX2_faultOfItem_96 : decode cX2_faultOfItem 96 = .ok (.goto (-52), 3) := by decide +kernel
theorem dX2_faultOfItem_99 : decode cX2_faultOfItem 99 = .ok (.bipush (-9), 2) := by decide +kernel
theorem dX2_faultOfItem_101 : decode cX2_faultOfItem 101 = .ok (.ireturn, 1) := by decide +kernel
theorem dX2_mayCome_0 : decode cX2_mayCome 0 = .ok (.iload_n 1, 1) := by decide +kernel
theorem dX2_mayCome_1 : decode cX2_mayCome 1 = .ok (.bipush 111, 2) := by decide +kernel
theorem dX2_mayCome_3 : decode cX2_mayCome 3 = .ok (.if_icmp .ne 25, 3) := by decide +kernel
theorem dX2_mayCome_6 : decode cX2_mayCome 6 = .ok (.aload_n 0, 1) := by decide +kernel
theorem dX2_mayCome_7 : decode cX2_mayCome 7 = .ok (.getfield 9, 3) := by decide +kernel
theorem dX2_mayCome_10 : decode cX2_mayCome 10 = .ok (.ifCond .le 16, 3) := by decide +kernel
theorem dX2_mayCome_13 : decode cX2_mayCome 13 = .ok (.aload_n 0, 1) := by decide +kernel
theorem dX2_mayCome_14 : decode cX2_mayCome 14 = .ok (.getfield 15, 3) := by decide +kernel
theorem dX2_mayCome_17 : decode cX2_mayCome 17 = .ok (.bipush 6, 2) := by decide +kernel
theorem dX2_mayCome_19 : decode cX2_mayCome 19 = .ok (.if_icmp .ge 7, 3) := by decide +kernel
theorem dX2_mayCome_22 : decode cX2_mayCome 22 = .ok (.iconst 1, 1) := by decide +kernel
theorem dX2_mayCome_23 : decode cX2_mayCome 23 = .ok (.goto 4, 3) := by decide +kernel
theorem dX2_mayCome_26 : decode cX2_mayCome 26 = .ok (.iconst 0, 1) := by decide +kernel
theorem dX2_mayCome_27 : decode cX2_mayCome 27 = .ok (.ireturn, 1) := by decide +kernel
theorem dX2_mayCome_28 : decode cX2_mayCome 28 = .ok (.iload_n 1, 1) := by decide +kernel
theorem dX2_mayCome_29 : decode cX2_mayCome 29 = .ok (.invokestatic 92, 3) := by decide +kernel
theorem dX2_mayCome_32 : decode cX2_mayCome 32 = .ok (.bipush (-9), 2) := by decide +kernel
theorem dX2_mayCome_34 : decode cX2_mayCome 34 = .ok (.if_icmp .eq 22, 3) := by decide +kernel
theorem dX2_mayCome_37 : decode cX2_mayCome 37 = .ok (.aload_n 0, 1) := by decide +kernel
theorem dX2_mayCome_38 : decode cX2_mayCome 38 = .ok (.getfield 15, 3) := by decide +kernel
theorem dX2_mayCome_41 : decode cX2_mayCome 41 = .ok (.ifCond .ne 15, 3) := by decide +kernel
theorem dX2_mayCome_44 : decode cX2_mayCome 44 = .ok (.aload_n 0, 1) := by decide +kernel
theorem dX2_mayCome_45 : decode cX2_mayCome 45 = .ok (.getfield 9, 3) := by decide +kernel
theorem dX2_mayCome_48 : decode cX2_mayCome 48 = .ok (.iconst 5, 1) := by decide +kernel
theorem dX2_mayCome_49 : decode cX2_mayCome 49 = .ok (.if_icmp .ge 7, 3) := by decide +kernel
theorem dX2_mayCome_52 : decode cX2_mayCome 52 = .ok (.iconst 1, 1) := by decide +kernel
theorem dX2_mayCome_53 : decode cX2_mayCome 53 = .ok (.goto 4, 3) := by decide +kernel
theorem dX2_mayCome_56 : decode cX2_mayCome 56 = .ok (.iconst 0, 1) := by decide +kernel
theorem dX2_mayCome_57 : decode cX2_mayCome 57 = .ok (.ireturn, 1) := by decide +kernel
theorem dX2_kindOf_0 : decode cX2_kindOf 0 = .ok (.iconst 0, 1) := by decide +kernel
theorem dX2_kindOf_1 : decode cX2_kindOf 1 = .ok (.istore_n 1, 1) := by decide +kernel
theorem dX2_kindOf_2 : decode cX2_kindOf 2 = .ok (.iload_n 1, 1) := by decide +kernel
theorem dX2_kindOf_3 : decode cX2_kindOf 3 = .ok (.getstatic 95, 3) := by decide +kernel
theorem dX2_kindOf_6 : decode cX2_kindOf 6 = .ok (.arraylength, 1) := by decide +kernel
theorem dX2_kindOf_7 : decode cX2_kindOf 7 = .ok (.if_icmp .ge 20, 3) := by decide +kernel
theorem dX2_kindOf_10 : decode cX2_kindOf 10 = .ok (.getstatic 95, 3) := by decide +kernel
theorem dX2_kindOf_13 : decode cX2_kindOf 13 = .ok (.iload_n 1, 1) := by decide +kernel
theorem dX2_kindOf_14 : decode cX2_kindOf 14 = .ok (.iaload, 1) := by decide +kernel
theorem dX2_kindOf_15 : decode cX2_kindOf 15 = .ok (.iload_n 0, 1) := by decide +kernel
theorem dX2_kindOf_16 : decode cX2_kindOf 16 = .ok (.if_icmp .ne 5, 3) := by decide +kernel
theorem dX2_kindOf_19 : decode cX2_kindOf 19 = .ok (.iload_n 1, 1) := by decide +kernel
theorem dX2_kindOf_20 : decode cX2_kindOf 20 = .ok (.ireturn, 1) := by decide +kernel
theorem dX2_kindOf_21 : decode cX2_kindOf 21 = .ok (.iinc 1 1, 3) := by decide +kernel
theorem dX2_kindOf_24 : decode cX2_kindOf 24 = .ok (.goto (-22), 3) := by decide +kernel
theorem dX2_kindOf_27 : decode cX2_kindOf 27 = .ok (.bipush (-9), 2) := by decide +kernel
theorem dX2_kindOf_29 : decode cX2_kindOf 29 = .ok (.ireturn, 1) := by decide +kernel
theorem dX2_takeItem_0 : decode cX2_takeItem 0 = .ok (.aload_n 1, 1) := by decide +kernel
theorem dX2_takeItem_1 : decode cX2_takeItem 1 = .ok (.iload_n 2, 1) := by decide +kernel
theorem dX2_takeItem_2 : decode cX2_takeItem 2 = .ok (.invokevirtual 72, 3) := by decide +kernel
theorem dX2_takeItem_5 : decode cX2_takeItem 5 = .ok (.bipush 111, 2) := by decide +kernel
theorem dX2_takeItem_7 : decode cX2_takeItem 7 = .ok (.if_icmp .ne 11, 3) := by decide +kernel
theorem dX2_takeItem_10 : decode cX2_takeItem 10 = .ok (.aload_n 0, 1) := by decide +kernel
theorem dX2_takeItem_11 : decode cX2_takeItem 11 = .ok (.aload_n 1, 1) := by decide +kernel
theorem dX2_takeItem_12 : decode cX2_takeItem 12 = .ok (.iload_n 2, 1) := by decide +kernel
theorem dX2_takeItem_13 : decode cX2_takeItem 13 = .ok (.invokevirtual 98, 3) := by decide +kernel
theorem dX2_takeItem_16 : decode cX2_takeItem 16 = .ok (.iconst 4, 1) := by decide +kernel
theorem dX2_takeItem_17 : decode cX2_takeItem 17 = .ok (.ireturn, 1) := by decide +kernel
theorem dX2_takeItem_18 : decode cX2_takeItem 18 = .ok (.aload_n 0, 1) := by decide +kernel
theorem dX2_takeItem_19 : decode cX2_takeItem 19 = .ok (.aload_n 1, 1) := by decide +kernel
theorem dX2_takeItem_20 : decode cX2_takeItem 20 = .ok (.iload_n 2, 1) := by decide +kernel
theorem dX2_takeItem_21 : decode cX2_takeItem 21 = .ok (.invokevirtual 102, 3) := by decide +kernel
theorem dX2_takeItem_24 : decode cX2_takeItem 24 = .ok (.iconst 3, 1) := by decide +kernel
theorem dX2_takeItem_25 : decode cX2_takeItem 25 = .ok (.ireturn, 1) := by decide +kernel
theorem dX2_takeSigher_0 : decode cX2_takeSigher 0 = .ok (.aload_n 0, 1) := by decide +kernel
theorem dX2_takeSigher_1 : decode cX2_takeSigher 1 = .ok (.getfield 9, 3) := by decide +kernel
theorem dX2_takeSigher_4 : decode cX2_takeSigher 4 = .ok (.iconst 5, 1) := by decide +kernel
theorem dX2_takeSigher_5 : decode cX2_takeSigher 5 = .ok (.if_icmp .ge 62, 3) := by decide +kernel
theorem dX2_takeSigher_8 : decode cX2_takeSigher 8 = .ok (.aload_n 0, 1) := by decide +kernel
theorem dX2_takeSigher_9 : decode cX2_takeSigher 9 = .ok (.getfield 18, 3) := by decide +kernel
theorem dX2_takeSigher_12 : decode cX2_takeSigher 12 = .ok (.aload_n 0, 1) := by decide +kernel
theorem dX2_takeSigher_13 : decode cX2_takeSigher 13 = .ok (.getfield 9, 3) := by decide +kernel
theorem dX2_takeSigher_16 : decode cX2_takeSigher 16 = .ok (.aload_n 1, 1) := by decide +kernel
theorem dX2_takeSigher_17 : decode cX2_takeSigher 17 = .ok (.iload_n 2, 1) := by decide +kernel
theorem dX2_takeSigher_18 : decode cX2_takeSigher 18 = .ok (.invokevirtual 72, 3) := by decide +kernel
theorem dX2_takeSigher_21 : decode cX2_takeSigher 21 = .ok (.invokestatic 92, 3) := by decide +kernel
theorem dX2_takeSigher_24 : decode cX2_takeSigher 24 = .ok (.iastore, 1) := by decide +kernel
theorem dX2_takeSigher_25 : decode cX2_takeSigher 25 = .ok (.aload_n 0, 1) := by decide +kernel
theorem dX2_takeSigher_26 : decode cX2_takeSigher 26 = .ok (.getfield 22, 3) := by decide +kernel
theorem dX2_takeSigher_29 : decode cX2_takeSigher 29 = .ok (.aload_n 0, 1) := by decide +kernel
theorem dX2_takeSigher_30 : decode cX2_takeSigher 30 = .ok (.getfield 9, 3) := by decide +kernel
theorem dX2_takeSigher_33 : decode cX2_takeSigher 33 = .ok (.aload_n 1, 1) := by decide +kernel
theorem dX2_takeSigher_34 : decode cX2_takeSigher 34 = .ok (.iload_n 2, 1) := by decide +kernel
theorem dX2_takeSigher_35 : decode cX2_takeSigher 35 = .ok (.iconst 1, 1) := by decide +kernel
theorem dX2_takeSigher_36 : decode cX2_takeSigher 36 = .ok (.iadd, 1) := by decide +kernel
theorem dX2_takeSigher_37 : decode cX2_takeSigher 37 = .ok (.invokevirtual 85, 3) := by decide +kernel
theorem dX2_takeSigher_40 : decode cX2_takeSigher 40 = .ok (.iastore, 1) := by decide +kernel
theorem dX2_takeSigher_41 : decode cX2_takeSigher 41 = .ok (.aload_n 0, 1) := by decide +kernel
theorem dX2_takeSigher_42 : decode cX2_takeSigher 42 = .ok (.getfield 25, 3) := by decide +kernel
theorem dX2_takeSigher_45 : decode cX2_takeSigher 45 = .ok (.aload_n 0, 1) := by decide +kernel
theorem dX2_takeSigher_46 : decode cX2_takeSigher 46 = .ok (.getfield 9, 3) := by decide +kernel
theorem dX2_takeSigher_49 : decode cX2_takeSigher 49 = .ok (.aload_n 1, 1) := by decide +kernel
theorem dX2_takeSigher_50 : decode cX2_takeSigher 50 = .ok (.iload_n 2, 1) := by decide +kernel
theorem dX2_takeSigher_51 : decode cX2_takeSigher 51 = .ok (.iconst 2, 1) := by decide +kernel
theorem dX2_takeSigher_52 : decode cX2_takeSigher 52 = .ok (.iadd, 1) := by decide +kernel
theorem dX2_takeSigher_53 : decode cX2_takeSigher 53 = .ok (.invokevirtual 85, 3) := by decide +kernel
theorem dX2_takeSigher_56 : decode cX2_takeSigher 56 = .ok (.iastore, 1) := by decide +kernel
theorem dX2_takeSigher_57 : decode cX2_takeSigher 57 = .ok (.aload_n 0, 1) := by decide +kernel
theorem dX2_takeSigher_58 : decode cX2_takeSigher 58 = .ok (.dup, 1) := by decide +kernel
theorem dX2_takeSigher_59 : decode cX2_takeSigher 59 = .ok (.getfield 9, 3) := by decide +kernel
theorem dX2_takeSigher_62 : decode cX2_takeSigher 62 = .ok (.iconst 1, 1) := by decide +kernel
theorem dX2_takeSigher_63 : decode cX2_takeSigher 63 = .ok (.iadd, 1) := by decide +kernel
theorem dX2_takeSigher_64 : decode cX2_takeSigher 64 = .ok (.putfield 9, 3) := by decide +kernel
theorem dX2_takeSigher_67 : decode cX2_takeSigher 67 = .ok (.return_, 1) := by decide +kernel
theorem dX2_takeOrder_0 : decode cX2_takeOrder 0 = .ok (.aload_n 0, 1) := by decide +kernel
theorem dX2_takeOrder_1 : decode cX2_takeOrder 1 = .ok (.getfield 15, 3) := by decide +kernel
theorem dX2_takeOrder_4 : decode cX2_takeOrder 4 = .ok (.bipush 6, 2) := by decide +kernel
theorem dX2_takeOrder_6 : decode cX2_takeOrder 6 = .ok (.if_icmp .ge 141, 3) := by decide +kernel
theorem dX2_takeOrder_9 : decode cX2_takeOrder 9 = .ok (.aload_n 0, 1) := by decide +kernel
theorem dX2_takeOrder_10 : decode cX2_takeOrder 10 = .ok (.getfield 28, 3) := by decide +kernel
theorem dX2_takeOrder_13 : decode cX2_takeOrder 13 = .ok (.aload_n 0, 1) := by decide +kernel
theorem dX2_takeOrder_14 : decode cX2_takeOrder 14 = .ok (.getfield 15, 3) := by decide +kernel
theorem dX2_takeOrder_17 : decode cX2_takeOrder 17 = .ok (.aload_n 1, 1) := by decide +kernel
theorem dX2_takeOrder_18 : decode cX2_takeOrder 18 = .ok (.iload_n 2, 1) := by decide +kernel
theorem dX2_takeOrder_19 : decode cX2_takeOrder 19 = .ok (.iconst 1, 1) := by decide +kernel
theorem dX2_takeOrder_20 : decode cX2_takeOrder 20 = .ok (.iadd, 1) := by decide +kernel
theorem dX2_takeOrder_21 : decode cX2_takeOrder 21 = .ok (.invokevirtual 85, 3) := by decide +kernel
theorem dX2_takeOrder_24 : decode cX2_takeOrder 24 = .ok (.iastore, 1) := by decide +kernel
theorem dX2_takeOrder_25 : decode cX2_takeOrder 25 = .ok (.aload_n 0, 1) := by decide +kernel
theorem dX2_takeOrder_26 : decode cX2_takeOrder 26 = .ok (.getfield 31, 3) := by decide +kernel
theorem dX2_takeOrder_29 : decode cX2_takeOrder 29 = .ok (.aload_n 0, 1) := by decide +kernel
theorem dX2_takeOrder_30 : decode cX2_takeOrder 30 = .ok (.getfield 15, 3) := by decide +kernel
theorem dX2_takeOrder_33 : decode cX2_takeOrder 33 = .ok (.aload_n 1, 1) := by decide +kernel
theorem dX2_takeOrder_34 : decode cX2_takeOrder 34 = .ok (.iload_n 2, 1) := by decide +kernel
theorem dX2_takeOrder_35 : decode cX2_takeOrder 35 = .ok (.iconst 2, 1) := by decide +kernel
theorem dX2_takeOrder_36 : decode cX2_takeOrder 36 = .ok (.iadd, 1) := by decide +kernel
theorem dX2_takeOrder_37 : decode cX2_takeOrder 37 = .ok (.invokevirtual 85, 3) := by decide +kernel
theorem dX2_takeOrder_40 : decode cX2_takeOrder 40 = .ok (.iastore, 1) := by decide +kernel
theorem dX2_takeOrder_41 : decode cX2_takeOrder 41 = .ok (.aload_n 0, 1) := by decide +kernel
theorem dX2_takeOrder_42 : decode cX2_takeOrder 42 = .ok (.getfield 34, 3) := by decide +kernel
theorem dX2_takeOrder_45 : decode cX2_takeOrder 45 = .ok (.aload_n 0, 1) := by decide +kernel
theorem dX2_takeOrder_46 : decode cX2_takeOrder 46 = .ok (.getfield 15, 3) := by decide +kernel
theorem dX2_takeOrder_49 : decode cX2_takeOrder 49 = .ok (.aload_n 1, 1) := by decide +kernel
theorem dX2_takeOrder_50 : decode cX2_takeOrder 50 = .ok (.iload_n 2, 1) := by decide +kernel
theorem dX2_takeOrder_51 : decode cX2_takeOrder 51 = .ok (.iconst 3, 1) := by decide +kernel
theorem dX2_takeOrder_52 : decode cX2_takeOrder 52 = .ok (.iadd, 1) := by decide +kernel
theorem dX2_takeOrder_53 : decode cX2_takeOrder 53 = .ok (.invokevirtual 85, 3) := by decide +kernel
theorem dX2_takeOrder_56 : decode cX2_takeOrder 56 = .ok (.iastore, 1) := by decide +kernel
theorem dX2_takeOrder_57 : decode cX2_takeOrder 57 = .ok (.iconst 0, 1) := by decide +kernel
theorem dX2_takeOrder_58 : decode cX2_takeOrder 58 = .ok (.istore_n 3, 1) := by decide +kernel
theorem dX2_takeOrder_59 : decode cX2_takeOrder 59 = .ok (.iload_n 3, 1) := by decide +kernel
theorem dX2_takeOrder_60 : decode cX2_takeOrder 60 = .ok (.aload_n 0, 1) := by decide +kernel
theorem dX2_takeOrder_61 : decode cX2_takeOrder 61 = .ok (.getfield 9, 3) := by decide +kernel
theorem dX2_takeOrder_64 : decode cX2_takeOrder 64 = .ok (.if_icmp .ge 73, 3) := by decide +kernel
theorem dX2_takeOrder_67 : decode cX2_takeOrder 67 = .ok (.aload_n 0, 1) := by decide +kernel
theorem dX2_takeOrder_68 : decode cX2_takeOrder 68 = .ok (.getfield 37, 3) := by decide +kernel
theorem dX2_takeOrder_71 : decode cX2_takeOrder 71 = .ok (.iload_n 3, 1) := by decide +kernel
theorem dX2_takeOrder_72 : decode cX2_takeOrder 72 = .ok (.bipush 6, 2) := by decide +kernel
theorem dX2_takeOrder_74 : decode cX2_takeOrder 74 = .ok (.imul, 1) := by decide +kernel
theorem dX2_takeOrder_75 : decode cX2_takeOrder 75 = .ok (.aload_n 0, 1) := by decide +kernel
theorem dX2_takeOrder_76 : decode cX2_takeOrder 76 = .ok (.getfield 15, 3) := by decide +kernel
theorem dX2_takeOrder_79 : decode cX2_takeOrder 79 = .ok (.iadd, 1) := by decide +kernel
theorem dX2_takeOrder_80 : decode cX2_takeOrder 80 = .ok (.aload_n 0, 1) := by decide +kernel
theorem dX2_takeOrder_81 : decode cX2_takeOrder 81 = .ok (.getfield 18, 3) := by decide +kernel
theorem dX2_takeOrder_84 : decode cX2_takeOrder 84 = .ok (.iload_n 3, 1) := by decide +kernel
theorem dX2_takeOrder_85 : decode cX2_takeOrder 85 = .ok (.iaload, 1) := by decide +kernel
theorem dX2_takeOrder_86 : decode cX2_takeOrder 86 = .ok (.aload_n 0, 1) := by decide +kernel
theorem dX2_takeOrder_87 : decode cX2_takeOrder 87 = .ok (.getfield 31, 3) := by decide +kernel
theorem dX2_takeOrder_90 : decode cX2_takeOrder 90 = .ok (.aload_n 0, 1) := by decide +kernel
theorem dX2_takeOrder_91 : decode cX2_takeOrder 91 = .ok (.getfield 15, 3) := by decide +kernel
theorem dX2_takeOrder_94 : decode cX2_takeOrder 94 = .ok (.iaload, 1) := by decide +kernel
theorem dX2_takeOrder_95 : decode cX2_takeOrder 95 = .ok (.invokestatic 105, 3) := by decide +kernel
theorem dX2_takeOrder_98 : decode cX2_takeOrder 98 = .ok (.iastore, 1) := by decide +kernel
theorem dX2_takeOrder_99 : decode cX2_takeOrder 99 = .ok (.aload_n 0, 1) := by decide +kernel
theorem dX2_takeOrder_100 : decode cX2_takeOrder 100 = .ok (.getfield 40, 3) := by decide +kernel
theorem dX2_takeOrder_103 : decode cX2_takeOrder 103 = .ok (.iload_n 3, 1) := by decide +kernel
theorem dX2_takeOrder_104 : decode cX2_takeOrder 104 = .ok (.bipush 6, 2) := by decide +kernel
theorem dX2_takeOrder_106 : decode cX2_takeOrder 106 = .ok (.imul, 1) := by decide +kernel
theorem dX2_takeOrder_107 : decode cX2_takeOrder 107 = .ok (.aload_n 0, 1) := by decide +kernel
theorem dX2_takeOrder_108 : decode cX2_takeOrder 108 = .ok (.getfield 15, 3) := by decide +kernel
theorem dX2_takeOrder_111 : decode cX2_takeOrder 111 = .ok (.iadd, 1) := by decide +kernel
theorem dX2_takeOrder_112 : decode cX2_takeOrder 112 = .ok (.aload_n 0, 1) := by decide +kernel
theorem dX2_takeOrder_113 : decode cX2_takeOrder 113 = .ok (.getfield 18, 3) := by decide +kernel
theorem dX2_takeOrder_116 : decode cX2_takeOrder 116 = .ok (.iload_n 3, 1) := by decide +kernel
theorem dX2_takeOrder_117 : decode cX2_takeOrder 117 = .ok (.iaload, 1) := by decide +kernel
theorem dX2_takeOrder_118 : decode cX2_takeOrder 118 = .ok (.aload_n 0, 1) := by decide +kernel
theorem dX2_takeOrder_119 : decode cX2_takeOrder 119 = .ok (.getfield 34, 3) := by decide +kernel
theorem dX2_takeOrder_122 : decode cX2_takeOrder 122 = .ok (.aload_n 0, 1) := by decide +kernel
theorem dX2_takeOrder_123 : decode cX2_takeOrder 123 = .ok (.getfield 15, 3) := by decide +kernel
theorem dX2_takeOrder_126 : decode cX2_takeOrder 126 = .ok (.iaload, 1) := by decide +kernel
theorem dX2_takeOrder_127 : decode cX2_takeOrder 127 = .ok (.invokestatic 108, 3) := by decide +kernel
theorem dX2_takeOrder_130 : decode cX2_takeOrder 130 = .ok (.iastore, 1) := by decide +kernel
theorem dX2_takeOrder_131 : decode cX2_takeOrder 131 = .ok (.iinc 3 1, 3) := by decide +kernel
theorem dX2_takeOrder_134 : decode cX2_takeOrder 134 = .ok (.goto (-75), 3) := by decide +kernel
theorem dX2_takeOrder_137 : decode cX2_takeOrder 137 = .ok (.aload_n 0, 1) := by decide +kernel
theorem dX2_takeOrder_138 : decode cX2_takeOrder 138 = .ok (.dup, 1) := by decide +kernel
theorem dX2_takeOrder_139 : decode cX2_takeOrder 139 = .ok (.getfield 15, 3) := by decide +kernel
theorem dX2_takeOrder_142 : decode cX2_takeOrder 142 = .ok (.iconst 1, 1) := by decide +kernel
theorem dX2_takeOrder_143 : decode cX2_takeOrder 143 = .ok (.iadd, 1) := by decide +kernel
theorem dX2_takeOrder_144 : decode cX2_takeOrder 144 = .ok (.putfield 15, 3) := by decide +kernel
theorem dX2_takeOrder_147 : decode cX2_takeOrder 147 = .ok (.return_, 1) := by decide +kernel
theorem dX3_init_0 : decode cX3_init 0 = .ok (.aload_n 0, 1) := by decide +kernel
theorem dX3_init_1 : decode cX3_init 1 = .ok (.invokespecial 3, 3) := by decide +kernel
theorem dX3_init_4 : decode cX3_init 4 = .ok (.aload_n 0, 1) := by decide +kernel
theorem dX3_init_5 : decode cX3_init 5 = .ok (.bipush 6, 2) := by decide +kernel
theorem dX3_init_7 : decode cX3_init 7 = .ok (.newarray .int, 2) := by decide +kernel
theorem dX3_init_9 : decode cX3_init 9 = .ok (.putfield 9, 3) := by decide +kernel
theorem dX3_init_12 : decode cX3_init 12 = .ok (.aload_n 0, 1) := by decide +kernel
theorem dX3_init_13 : decode cX3_init 13 = .ok (.bipush 6, 2) := by decide +kernel
theorem dX3_init_15 : decode cX3_init 15 = .ok (.newarray .int, 2) := by decide +kernel
theorem dX3_init_17 : decode cX3_init 17 = .ok (.putfield 15, 3) := by decide +kernel
theorem dX3_init_20 : decode cX3_init 20 = .ok (.aload_n 0, 1) := by decide +kernel
theorem dX3_init_21 : decode cX3_init 21 = .ok (.iconst 0, 1) := by decide +kernel
theorem dX3_init_22 : decode cX3_init 22 = .ok (.putfield 18, 3) := by decide +kernel
theorem dX3_init_25 : decode cX3_init 25 = .ok (.aload_n 0, 1) := by decide +kernel
theorem dX3_init_26 : decode cX3_init 26 = .ok (.iconst 0, 1) := by decide +kernel
theorem dX3_init_27 : decode cX3_init 27 = .ok (.putfield 22, 3) := by decide +kernel
theorem dX3_init_30 : decode cX3_init 30 = .ok (.aload_n 0, 1) := by decide +kernel
theorem dX3_init_31 : decode cX3_init 31 = .ok (.aconst_null, 1) := by decide +kernel
theorem dX3_init_32 : decode cX3_init 32 = .ok (.putfield 25, 3) := by decide +kernel
theorem dX3_init_35 : decode cX3_init 35 = .ok (.aload_n 0, 1) := by decide +kernel
theorem dX3_init_36 : decode cX3_init 36 = .ok (.iconst 0, 1) := by decide +kernel
theorem dX3_init_37 : decode cX3_init 37 = .ok (.putfield 29, 3) := by decide +kernel
theorem dX3_init_40 : decode cX3_init 40 = .ok (.return_, 1) := by decide +kernel
theorem dX3_search_0 : decode cX3_search 0 = .ok (.aload_n 0, 1) := by decide +kernel
theorem dX3_search_1 : decode cX3_search 1 = .ok (.iconst 0, 1) := by decide +kernel
theorem dX3_search_2 : decode cX3_search 2 = .ok (.putfield 18, 3) := by decide +kernel
theorem dX3_search_5 : decode cX3_search 5 = .ok (.aload_n 0, 1) := by decide +kernel
theorem dX3_search_6 : decode cX3_search 6 = .ok (.iconst 0, 1) := by decide +kernel
theorem dX3_search_7 : decode cX3_search 7 = .ok (.putfield 22, 3) := by decide +kernel
theorem dX3_search_10 : decode cX3_search 10 = .ok (.aload_n 0, 1) := by decide +kernel
theorem dX3_search_11 : decode cX3_search 11 = .ok (.aload_n 1, 1) := by decide +kernel
theorem dX3_search_12 : decode cX3_search 12 = .ok (.putfield 25, 3) := by decide +kernel
theorem dX3_search_15 : decode cX3_search 15 = .ok (.aload_n 0, 1) := by decide +kernel
theorem dX3_search_16 : decode cX3_search 16 = .ok (.iload_n 3, 1) := by decide +kernel
theorem dX3_search_17 : decode cX3_search 17 = .ok (.putfield 29, 3) := by decide +kernel
theorem dX3_search_20 : decode cX3_search 20 = .ok (.aload_n 1, 1) := by decide +kernel
theorem dX3_search_21 : decode cX3_search 21 = .ok (.iload_n 3, 1) := by decide +kernel
theorem dX3_search_22 : decode cX3_search 22 = .ok (.invokevirtual 32, 3) := by decide +kernel
theorem dX3_search_25 : decode cX3_search 25 = .ok (.ifCond .eq 27, 3) := by decide +kernel
theorem dX3_search_28 : decode cX3_search 28 = .ok (.aload_n 0, 1) := by decide +kernel
theorem dX3_search_29 : decode cX3_search 29 = .ok (.iconst 0, 1) := by decide +kernel
theorem dX3_search_30 : decode cX3_search 30 = .ok (.aload_n 2, 1) := by decide +kernel
theorem dX3_search_31 : decode cX3_search 31 = .ok (.getfield 38, 3) := by decide +kernel
theorem dX3_search_34 : decode cX3_search 34 = .ok (.iload_n 3, 1) := by decide +kernel
theorem dX3_search_35 : decode cX3_search 35 = .ok (.iaload, 1) := by decide +kernel
theorem dX3_search_36 : decode cX3_search 36 = .ok (.iload 4, 2) := by decide +kernel
theorem dX3_search_38 : decode cX3_search 38 = .ok (.aload_n 2, 1) := by decide +kernel
theorem dX3_search_39 : decode cX3_search 39 = .ok (.getfield 43, 3) := by decide +kernel
theorem dX3_search_42 : decode cX3_search 42 = .ok (.iload_n 3, 1) := by decide +kernel
theorem dX3_search_43 : decode cX3_search 43 = .ok (.iaload, 1) := by decide +kernel
theorem dX3_search_44 : decode cX3_search 44 = .ok (.iconst 0, 1) := by decide +kernel
theorem dX3_search_45 : decode cX3_search 45 = .ok (.aload_n 2, 1) := by decide +kernel
theorem dX3_search_46 : decode cX3_search 46 = .ok (.getfield 46, 3) := by decide +kernel
theorem dX3_search_49 : decode cX3_search 49 = .ok (.invokevirtual 49, 3) := by decide +kernel
theorem dX3_search_52 : decode cX3_search 52 = .ok (.aload_n 0, 1) := by decide +kernel
theorem dX3_search_53 : decode cX3_search 53 = .ok (.getfield 22, 3) := by decide +kernel
theorem dX3_search_56 : decode cX3_search 56 = .ok (.ireturn, 1) := by decide +kernel
theorem dX3_goOn_0 : decode cX3_goOn 0 = .ok (.iload 5, 2) := by decide +kernel
theorem dX3_goOn_2 : decode cX3_goOn 2 = .ok (.aload_n 0, 1) := by decide +kernel
theorem dX3_goOn_3 : decode cX3_goOn 3 = .ok (.getfield 22, 3) := by decide +kernel
theorem dX3_goOn_6 : decode cX3_goOn 6 = .ok (.if_icmp .le 29, 3) := by decide +kernel
theorem dX3_goOn_9 : decode cX3_goOn 9 = .ok (.aload_n 0, 1) := by decide +kernel
theorem dX3_goOn_10 : decode cX3_goOn 10 = .ok (.iload 5, 2) := by decide +kernel
theorem dX3_goOn_12 : decode cX3_goOn 12 = .ok (.putfield 22, 3) := by decide +kernel
theorem dX3_goOn_15 : decode cX3_goOn 15 = .ok (.aload_n 0, 1) := by decide +kernel
theorem dX3_goOn_16 : decode cX3_goOn 16 = .ok (.iload_n 1, 1) := by decide +kernel
theorem dX3_goOn_17 : decode cX3_goOn 17 = .ok (.putfield 18, 3) := by decide +kernel
theorem dX3_goOn_20 : decode cX3_goOn 20 = .ok (.aload_n 0, 1) := by decide +kernel
theorem dX3_goOn_21 : decode cX3_goOn 21 = .ok (.getfield 9, 3) := by decide +kernel
theorem dX3_goOn_24 : decode cX3_goOn 24 = .ok (.iconst 0, 1) := by decide +kernel
theorem dX3_goOn_25 : decode cX3_goOn 25 = .ok (.aload_n 0, 1) := by decide +kernel
theorem dX3_goOn_26 : decode cX3_goOn 26 = .ok (.getfield 15, 3) := by decide +kernel
theorem dX3_goOn_29 : decode cX3_goOn 29 = .ok (.iconst 0, 1) := by decide +kernel
theorem dX3_goOn_30 : decode cX3_goOn 30 = .ok (.bipush 6, 2) := by decide +kernel
theorem dX3_goOn_32 : decode cX3_goOn 32 = .ok (.invokestatic 53, 3) := by decide +kernel
theorem dX3_goOn_35 : decode cX3_goOn 35 = .ok (.aload_n 0, 1) := by decide +kernel
theorem dX3_goOn_36 : decode cX3_goOn 36 = .ok (.getfield 25, 3) := by decide +kernel
theorem dX3_goOn_39 : decode cX3_goOn 39 = .ok (.ifnull 13, 3) := by decide +kernel
theorem dX3_goOn_42 : decode cX3_goOn 42 = .ok (.iload_n 1, 1) := by decide +kernel
theorem dX3_goOn_43 : decode cX3_goOn 43 = .ok (.ifCond .lt 9, 3) := by decide +kernel
theorem dX3_goOn_46 : decode cX3_goOn 46 = .ok (.iload_n 1, 1) := by decide +kernel
theorem dX3_goOn_47 : decode cX3_goOn 47 = .ok (.bipush 6, 2) := by decide +kernel
theorem dX3_goOn_49 : decode cX3_goOn 49 = .ok (.if_icmp .lt 4, 3) := by decide +kernel
theorem dX3_goOn_52 : decode cX3_goOn 52 = .ok (.return_, 1) := by decide +kernel
theorem dX3_goOn_53 : decode cX3_goOn 53 = .ok (.iconst 0, 1) := by decide +kernel
theorem dX3_goOn_54 : decode cX3_goOn 54 = .ok (.istore 7, 2) := by decide +kernel
theorem dX3_goOn_56 : decode cX3_goOn 56 = .ok (.iload 7, 2) := by decide +kernel
theorem dX3_goOn_58 : decode cX3_goOn 58 = .ok (.aload_n 0, 1) := by decide +kernel
theorem dX3_goOn_59 : decode cX3_goOn 59 = .ok (.getfield 25, 3) := by decide +kernel
theorem dX3_goOn_62 : decode cX3_goOn 62 = .ok (.getfield 59, 3) := by decide +kernel
theorem dX3_goOn_65 : decode cX3_goOn 65 = .ok (.if_icmp .ge 130, 3) := by decide +kernel
theorem dX3_goOn_68 : decode cX3_goOn 68 = .ok (.aload_n 0, 1) := by decide +kernel
theorem dX3_goOn_69 : decode cX3_goOn 69 = .ok (.getfield 25, 3) := by decide +kernel
theorem dX3_goOn_72 : decode cX3_goOn 72 = .ok (.aload_n 0, 1) := by decide +kernel
theorem dX3_goOn_73 : decode cX3_goOn 73 = .ok (.getfield 29, 3) := by decide +kernel
theorem dX3_goOn_76 : decode cX3_goOn 76 = .ok (.iload 7, 2) := by decide +kernel
theorem dX3_goOn_78 : decode cX3_goOn 78 = .ok (.invokevirtual 62, 3) := by decide +kernel
theorem dX3_goOn_81 : decode cX3_goOn 81 = .ok (.istore 8, 2) := by decide +kernel
theorem dX3_goOn_83 : decode cX3_goOn 83 = .ok (.aload_n 0, 1) := by decide +kernel
theorem dX3_goOn_84 : decode cX3_goOn 84 = .ok (.getfield 25, 3) := by decide +kernel
theorem dX3_goOn_87 : decode cX3_goOn 87 = .ok (.getfield 66, 3) := by decide +kernel
theorem dX3_goOn_90 : decode cX3_goOn 90 = .ok (.iload 7, 2) := by decide +kernel
theorem dX3_goOn_92 : decode cX3_goOn 92 = .ok (.iaload, 1) := by decide +kernel
theorem dX3_goOn_93 : decode cX3_goOn 93 = .ok (.iload_n 2, 1) := by decide +kernel
theorem dX3_goOn_94 : decode cX3_goOn 94 = .ok (.isub, 1) := by decide +kernel
theorem dX3_goOn_95 : decode cX3_goOn 95 = .ok (.invokestatic 69, 3) := by decide +kernel
theorem dX3_goOn_98 : decode cX3_goOn 98 = .ok (.iconst 1, 1) := by decide +kernel
theorem dX3_goOn_99 : decode cX3_goOn 99 = .ok (.iadd, 1) := by decide +kernel
theorem dX3_goOn_100 : decode cX3_goOn 100 = .ok (.istore 9, 2) := by decide +kernel
theorem dX3_goOn_102 : decode cX3_goOn 102 = .ok (.iload 6, 2) := by decide +kernel
theorem dX3_goOn_104 : decode cX3_goOn 104 = .ok (.iload 7, 2) := by decide +kernel
theorem dX3_goOn_106 : decode cX3_goOn 106 = .ok (.invokestatic 75, 3) := by decide +kernel
theorem dX3_goOn_109 : decode cX3_goOn 109 = .ok (.ifCond .ne 80, 3) := by decide +kernel
theorem dX3_goOn_112 : decode cX3_goOn 112 = .ok (.iload 8, 2) := by decide +kernel
theorem dX3_goOn_114 : decode cX3_goOn 114 = .ok (.bipush (-9), 2) := by decide +kernel
theorem dX3_goOn_116 : decode cX3_goOn 116 = .ok (.if_icmp .eq 73, 3) := by decide +kernel
theorem dX3_goOn_119 : decode cX3_goOn 119 = .ok (.iload 8, 2) := by decide +kernel
theorem dX3_goOn_121 : decode cX3_goOn 121 = .ok (.iload 4, 2) := by decide +kernel
theorem dX3_goOn_123 : decode cX3_goOn 123 = .ok (.if_icmp .gt 66, 3) := by decide +kernel
theorem dX3_goOn_126 : decode cX3_goOn 126 = .ok (.iload 9, 2) := by decide +kernel
theorem dX3_goOn_128 : decode cX3_goOn 128 = .ok (.iload_n 3, 1) := by decide +kernel
theorem dX3_goOn_129 : decode cX3_goOn 129 = .ok (.if_icmp .gt 60, 3) := by decide +kernel
theorem dX3_goOn_132 : decode cX3_goOn 132 = .ok (.aload_n 0, 1) := by decide +kernel
theorem dX3_goOn_133 : decode cX3_goOn 133 = .ok (.getfield 9, 3) := by decide +kernel
theorem dX3_goOn_136 : decode cX3_goOn 136 = .ok (.iload_n 1, 1) := by decide +kernel
theorem dX3_goOn_137 : decode cX3_goOn 137 = .ok (.iload 7, 2) := by decide +kernel
theorem dX3_goOn_139 : decode cX3_goOn 139 = .ok (.iastore, 1) := by decide +kernel
theorem dX3_goOn_140 : decode cX3_goOn 140 = .ok (.aload_n 0, 1) := by decide +kernel
theorem dX3_goOn_141 : decode cX3_goOn 141 = .ok (.iload_n 1, 1) := by decide +kernel
theorem dX3_goOn_142 : decode cX3_goOn 142 = .ok (.iconst 1, 1) := by decide +kernel
theorem dX3_goOn_143 : decode cX3_goOn 143 = .ok (.iadd, 1) := by decide +kernel
theorem dX3_goOn_144 : decode cX3_goOn 144 = .ok (.aload_n 0, 1) := by decide +kernel
theorem dX3_goOn_145 : decode cX3_goOn 145 = .ok (.getfield 25, 3) := by decide +kernel
theorem dX3_goOn_148 : decode cX3_goOn 148 = .ok (.getfield 66, 3) := by decide +kernel
theorem dX3_goOn_151 : decode cX3_goOn 151 = .ok (.iload 7, 2) := by decide +kernel
theorem dX3_goOn_153 : decode cX3_goOn 153 = .ok (.iaload, 1) := by decide +kernel
theorem dX3_goOn_154 : decode cX3_goOn 154 = .ok (.iload_n 3, 1) := by decide +kernel
theorem dX3_goOn_155 : decode cX3_goOn 155 = .ok (.iload 9, 2) := by decide +kernel
theorem dX3_goOn_157 : decode cX3_goOn 157 = .ok (.isub, 1) := by decide +kernel
theorem dX3_goOn_158 : decode cX3_goOn 158 = .ok (.iload 4, 2) := by decide +kernel
theorem dX3_goOn_160 : decode cX3_goOn 160 = .ok (.iload 8, 2) := by decide +kernel
theorem dX3_goOn_162 : decode cX3_goOn 162 = .ok (.isub, 1) := by decide +kernel
theorem dX3_goOn_163 : decode cX3_goOn 163 = .ok (.iload 5, 2) := by decide +kernel
theorem dX3_goOn_165 : decode cX3_goOn 165 = .ok (.aload_n 0, 1) := by decide +kernel
theorem dX3_goOn_166 : decode cX3_goOn 166 = .ok (.getfield 25, 3) := by decide +kernel
theorem dX3_goOn_169 : decode cX3_goOn 169 = .ok (.aload_n 0, 1) := by decide +kernel
theorem dX3_goOn_170 : decode cX3_goOn 170 = .ok (.getfield 29, 3) := by decide +kernel
theorem dX3_goOn_173 : decode cX3_goOn 173 = .ok (.iload 7, 2) := by decide +kernel
theorem dX3_goOn_175 : decode cX3_goOn 175 = .ok (.invokevirtual 79, 3) := by decide +kernel
theorem dX3_goOn_178 : decode cX3_goOn 178 = .ok (.iadd, 1) := by decide +kernel
theorem dX3_goOn_179 : decode cX3_goOn 179 = .ok (.iload 6, 2) := by decide +kernel
theorem dX3_goOn_181 : decode cX3_goOn 181 = .ok (.iconst 1, 1) := by decide +kernel
theorem dX3_goOn_182 : decode cX3_goOn 182 = .ok (.iload 7, 2) := by decide +kernel
theorem dX3_goOn_184 : decode cX3_goOn 184 = .ok (.ishl, 1) := by decide +kernel
theorem dX3_goOn_185 : decode cX3_goOn 185 = .ok (.ior, 1) := by decide +kernel
theorem dX3_goOn_186 : decode cX3_goOn 186 = .ok (.invokevirtual 49, 3) := by decide +kernel
theorem dX3_goOn_189 : decode cX3_goOn 189 = .ok (.iinc 7 1, 3) := by decide +kernel
theorem dX3_goOn_192 : decode cX3_goOn 192 = .ok (.goto (-136), 3) := by decide +kernel
theorem dX3_goOn_195 : decode cX3_goOn 195 = .ok (.return_, 1) := by decide +kernel
theorem dX4_init_0 : decode cX4_init 0 = .ok (.aload_n 0, 1) := by decide +kernel
theorem dX4_init_1 : decode cX4_init 1 = .ok (.invokespecial 3, 3) := by decide +kernel
theorem dX4_init_4 : decode cX4_init 4 = .ok (.aload_n 0, 1) := by decide +kernel
theorem dX4_init_5 : decode cX4_init 5 = .ok (.bipush 40, 2) := by decide +kernel
theorem dX4_init_7 : decode cX4_init 7 = .ok (.newarray .int, 2) := by decide +kernel
theorem dX4_init_9 : decode cX4_init 9 = .ok (.putfield 9, 3) := by decide +kernel
theorem dX4_init_12 : decode cX4_init 12 = .ok (.aload_n 0, 1) := by decide +kernel
theorem dX4_init_13 : decode cX4_init 13 = .ok (.iconst (-1), 1) := by decide +kernel
theorem dX4_init_14 : decode cX4_init 14 = .ok (.putfield 15, 3) := by decide +kernel
theorem dX4_init_17 : decode cX4_init 17 = .ok (.return_, 1) := by decide +kernel
theorem dX4_isMissing_0 : decode cX4_isMissing 0 = .ok (.aload_n 0, 1) := by decide +kernel
theorem dX4_isMissing_1 : decode cX4_isMissing 1 = .ok (.getfield 15, 3) := by decide +kernel
theorem dX4_isMissing_4 : decode cX4_isMissing 4 = .ok (.iconst (-1), 1) := by decide +kernel
theorem dX4_isMissing_5 : decode cX4_isMissing 5 = .ok (.if_icmp .ne 7, 3) := by decide +kernel
theorem dX4_isMissing_8 : decode cX4_isMissing 8 = .ok (.iconst 1, 1) := by decide +kernel
theorem dX4_isMissing_9 : decode cX4_isMissing 9 = .ok (.goto 4, 3) := by decide +kernel
theorem dX4_isMissing_12 : decode cX4_isMissing 12 = .ok (.iconst 0, 1) := by decide +kernel
theorem dX4_isMissing_13 : decode cX4_isMissing 13 = .ok (.ireturn, 1) := by decide +kernel
theorem dX4_has_0 : decode cX4_has 0 = .ok (.iload_n 1, 1) := by decide +kernel
theorem dX4_has_1 : decode cX4_has 1 = .ok (.ifCond .lt 15, 3) := by decide +kernel
theorem dX4_has_4 : decode cX4_has 4 = .ok (.iload_n 1, 1) := by decide +kernel
theorem dX4_has_5 : decode cX4_has 5 = .ok (.aload_n 0, 1) := by decide +kernel
theorem dX4_has_6 : decode cX4_has 6 = .ok (.getfield 15, 3) := by decide +kernel
theorem dX4_has_9 : decode cX4_has 9 = .ok (.if_icmp .ge 7, 3) := by decide +kernel
theorem dX4_has_12 : decode cX4_has 12 = .ok (.iconst 1, 1) := by decide +kernel
theorem dX4_has_13 : decode cX4_has 13 = .ok (.goto 4, 3) := by decide +kernel
theorem dX4_has_16 : decode cX4_has 16 = .ok (.iconst 0, 1) := by decide +kernel
theorem dX4_has_17 : decode cX4_has 17 = .ok (.ireturn, 1) := by decide +kernel
theorem dX4_hasFrom_0 : decode cX4_hasFrom 0 = .ok (.iload_n 1, 1) := by decide +kernel
theorem dX4_hasFrom_1 : decode cX4_hasFrom 1 = .ok (.ifCond .lt 25, 3) := by decide +kernel
theorem dX4_hasFrom_4 : decode cX4_hasFrom 4 = .ok (.iload_n 1, 1) := by decide +kernel
theorem dX4_hasFrom_5 : decode cX4_hasFrom 5 = .ok (.aload_n 0, 1) := by decide +kernel
theorem dX4_hasFrom_6 : decode cX4_hasFrom 6 = .ok (.getfield 15, 3) := by decide +kernel
theorem dX4_hasFrom_9 : decode cX4_hasFrom 9 = .ok (.if_icmp .gt 17, 3) := by decide +kernel
theorem dX4_hasFrom_12 : decode cX4_hasFrom 12 = .ok (.iload_n 2, 1) := by decide +kernel
theorem dX4_hasFrom_13 : decode cX4_hasFrom 13 = .ok (.aload_n 0, 1) := by decide +kernel
theorem dX4_hasFrom_14 : decode cX4_hasFrom 14 = .ok (.getfield 15, 3) := by decide +kernel
theorem dX4_hasFrom_17 : decode cX4_hasFrom 17 = .ok (.iload_n 1, 1) := by decide +kernel
theorem dX4_hasFrom_18 : decode cX4_hasFrom 18 = .ok (.isub, 1) := by decide +kernel
theorem dX4_hasFrom_19 : decode cX4_hasFrom 19 = .ok (.if_icmp .gt 7, 3) := by decide +kernel
theorem dX4_hasFrom_22 : decode cX4_hasFrom 22 = .ok (.iconst 1, 1) := by decide +kernel
theorem dX4_hasFrom_23 : decode cX4_hasFrom 23 = .ok (.goto 4, 3) := by decide +kernel
theorem dX4_hasFrom_26 : decode cX4_hasFrom 26 = .ok (.iconst 0, 1) := by decide +kernel
theorem dX4_hasFrom_27 : decode cX4_hasFrom 27 = .ok (.ireturn, 1) := by decide +kernel
theorem dX4_renew_0 : decode cX4_renew 0 = .ok (.aload_n 0, 1) := by decide +kernel
theorem dX4_renew_1 : decode cX4_renew 1 = .ok (.getfield 9, 3) := by decide +kernel
theorem dX4_renew_4 : decode cX4_renew 4 = .ok (.iconst 0, 1) := by decide +kernel
theorem dX4_renew_5 : decode cX4_renew 5 = .ok (.invokestatic 19, 3) := by decide +kernel
theorem dX4_renew_8 : decode cX4_renew 8 = .ok (.aload_n 0, 1) := by decide +kernel
theorem dX4_renew_9 : decode cX4_renew 9 = .ok (.iload_n 1, 1) := by decide +kernel
theorem dX4_renew_10 : decode cX4_renew 10 = .ok (.putfield 15, 3) := by decide +kernel
theorem dX4_renew_13 : decode cX4_renew 13 = .ok (.return_, 1) := by decide +kernel
theorem dX4_total_0 : decode cX4_total 0 = .ok (.lconst 0, 1) := by decide +kernel
theorem dX4_total_1 : decode cX4_total 1 = .ok (.lstore_n 1, 1) := by decide +kernel
theorem dX4_total_2 : decode cX4_total 2 = .ok (.iconst 0, 1) := by decide +kernel
theorem dX4_total_3 : decode cX4_total 3 = .ok (.istore_n 3, 1) := by decide +kernel
theorem dX4_total_4 : decode cX4_total 4 = .ok (.iload_n 3, 1) := by decide +kernel
theorem dX4_total_5 : decode cX4_total 5 = .ok (.aload_n 0, 1) := by decide +kernel
theorem dX4_total_6 : decode cX4_total 6 = .ok (.getfield 15, 3) := by decide +kernel
theorem dX4_total_9 : decode cX4_total 9 = .ok (.if_icmp .ge 19, 3) := by decide +kernel
theorem dX4_total_12 : decode cX4_total 12 = .ok (.lload_n 1, 1) := by decide +kernel
theorem dX4_total_13 : decode cX4_total 13 = .ok (.aload_n 0, 1) := by decide +kernel
theorem dX4_total_14 : decode cX4_total 14 = .ok (.getfield 9, 3) := by decide +kernel
theorem dX4_total_17 : decode cX4_total 17 = .ok (.iload_n 3, 1) := by decide +kernel
theorem dX4_total_18 : decode cX4_total 18 = .ok (.iaload, 1) := by decide +kernel
theorem dX4_total_19 : decode cX4_total 19 = .ok (.i2l, 1) := by decide +kernel
theorem dX4_total_20 : decode cX4_total 20 = .ok (.ladd, 1) := by decide +kernel
theorem dX4_total_21 : decode cX4_total 21 = .ok (.lstore_n 1, 1) := by decide +kernel
theorem dX4_total_22 : decode cX4_total 22 = .ok (.iinc 3 1, 3) := by decide +kernel
theorem dX4_total_25 : decode cX4_total 25 = .ok (.goto (-21), 3) := by decide +kernel
theorem dX4_total_28 : decode cX4_total 28 = .ok (.lload_n 1, 1) := by decide +kernel
theorem dX4_total_29 : decode cX4_total 29 = .ok (.lreturn, 1) := by decide +kernel
theorem dX4_digestFrom_0 : decode cX4_digestFrom 0 = .ok (.ldc2_w 25, 3) := by decide +kernel
theorem dX4_digestFrom_3 : decode cX4_digestFrom 3 = .ok (.lload_n 1, 1) := by decide +kernel
theorem dX4_digestFrom_4 : decode cX4_digestFrom 4 = .ok (.lmul, 1) := by decide +kernel
theorem dX4_digestFrom_5 : decode cX4_digestFrom 5 = .ok (.aload_n 0, 1) := by decide +kernel
theorem dX4_digestFrom_6 : decode cX4_digestFrom 6 = .ok (.getfield 15, 3) := by decide +kernel
theorem dX4_digestFrom_9 : decode cX4_digestFrom 9 = .ok (.i2l, 1) := by decide +kernel
theorem dX4_digestFrom_10 : decode cX4_digestFrom 10 = .ok (.ladd, 1) := by decide +kernel
theorem dX4_digestFrom_11 : decode cX4_digestFrom 11 = .ok (.lstore_n 3, 1) := by decide +kernel
theorem dX4_digestFrom_12 : decode cX4_digestFrom 12 = .ok (.iconst 0, 1) := by decide +kernel
theorem dX4_digestFrom_13 : decode cX4_digestFrom 13 = .ok (.istore 5, 2) := by decide +kernel
theorem dX4_digestFrom_15 : decode cX4_digestFrom 15 = .ok (.iload 5, 2) := by decide +kernel
theorem dX4_digestFrom_17 : decode cX4_digestFrom 17 = .ok (.aload_n 0, 1) := by decide +kernel
theorem dX4_digestFrom_18 : decode cX4_digestFrom 18 = .ok (.getfield 15, 3) := by decide +kernel
theorem dX4_digestFrom_21 : decode cX4_digestFrom 21 = .ok (.if_icmp .ge 24, 3) := by decide +kernel
theorem dX4_digestFrom_24 : decode cX4_digestFrom 24 = .ok (.ldc2_w 25, 3) := by decide +kernel
theorem dX4_digestFrom_27 : decode cX4_digestFrom 27 = .ok (.lload_n 3, 1) := by decide +kernel
theorem dX4_digestFrom_28 : decode cX4_digestFrom 28 = .ok (.lmul, 1) := by decide +kernel
theorem dX4_digestFrom_29 : decode cX4_digestFrom 29 = .ok (.aload_n 0, 1) := by decide +kernel
theorem dX4_digestFrom_30 : decode cX4_digestFrom 30 = .ok (.getfield 9, 3) := by decide +kernel
theorem dX4_digestFrom_33 : decode cX4_digestFrom 33 = .ok (.iload 5, 2) := by decide +kernel
theorem dX4_digestFrom_35 : decode cX4_digestFrom 35 = .ok (.iaload, 1) := by decide +kernel
theorem dX4_digestFrom_36 : decode cX4_digestFrom 36 = .ok (.i2l, 1) := by decide +kernel
theorem dX4_digestFrom_37 : decode cX4_digestFrom 37 = .ok (.ladd, 1) := by decide +kernel
theorem dX4_digestFrom_38 : decode cX4_digestFrom 38 = .ok (.lstore_n 3, 1) := by decide +kernel
theorem dX4_digestFrom_39 : decode cX4_digestFrom 39 = .ok (.iinc 5 1, 3) := by decide +kernel
theorem dX4_digestFrom_42 : decode cX4_digestFrom 42 = .ok (.goto (-27), 3) := by decide +kernel
theorem dX4_digestFrom_45 : decode cX4_digestFrom 45 = .ok (.lload_n 3, 1) := by decide +kernel
theorem dX4_digestFrom_46 : decode cX4_digestFrom 46 = .ok (.lreturn, 1) := by decide +kernel
theorem dX5_init_0 : decode cX5_init 0 = .ok (.aload_n 0, 1) := by decide +kernel
theorem dX5_init_1 : decode cX5_init 1 = .ok (.invokespecial 3, 3) := by decide +kernel
theorem dX5_init_4 : decode cX5_init 4 = .ok (.aload_n 0, 1) := by decide +kernel
theorem dX5_init_5 : decode cX5_init 5 = .ok (.bipush 60, 2) := by decide +kernel
theorem dX5_init_7 : decode cX5_init 7 = .ok (.newarray .byte, 2) := by decide +kernel
theorem dX5_init_9 : decode cX5_init 9 = .ok (.putfield 9, 3) := by decide +kernel
theorem dX5_init_12 : decode cX5_init 12 = .ok (.aload_n 0, 1) := by decide +kernel
theorem dX5_init_13 : decode cX5_init 13 = .ok (.iconst (-1), 1) := by decide +kernel
theorem dX5_init_14 : decode cX5_init 14 = .ok (.putfield 15, 3) := by decide +kernel
theorem dX5_init_17 : decode cX5_init 17 = .ok (.return_, 1) := by decide +kernel
theorem dX5_isMissing_0 : decode cX5_isMissing 0 = .ok (.aload_n 0, 1) := by decide +kernel
theorem dX5_isMissing_1 : decode cX5_isMissing 1 = .ok (.getfield 15, 3) := by decide +kernel
theorem dX5_isMissing_4 : decode cX5_isMissing 4 = .ok (.iconst (-1), 1) := by decide +kernel
theorem dX5_isMissing_5 : decode cX5_isMissing 5 = .ok (.if_icmp .ne 7, 3) := by decide +kernel
theorem dX5_isMissing_8 : decode cX5_isMissing 8 = .ok (.iconst 1, 1) := by decide +kernel
theorem dX5_isMissing_9 : decode cX5_isMissing 9 = .ok (.goto 4, 3) := by decide +kernel
theorem dX5_isMissing_12 : decode cX5_isMissing 12 = .ok (.iconst 0, 1) := by decide +kernel
theorem dX5_isMissing_13 : decode cX5_isMissing 13 = .ok (.ireturn, 1) := by decide +kernel
theorem dX5_has_0 : decode cX5_has 0 = .ok (.iload_n 1, 1) := by decide +kernel
theorem dX5_has_1 : decode cX5_has 1 = .ok (.ifCond .lt 15, 3) := by decide +kernel
theorem dX5_has_4 : decode cX5_has 4 = .ok (.iload_n 1, 1) := by decide +kernel
theorem dX5_has_5 : decode cX5_has 5 = .ok (.aload_n 0, 1) := by decide +kernel
theorem dX5_has_6 : decode cX5_has 6 = .ok (.getfield 15, 3) := by decide +kernel
theorem dX5_has_9 : decode cX5_has 9 = .ok (.if_icmp .ge 7, 3) := by decide +kernel
theorem dX5_has_12 : decode cX5_has 12 = .ok (.iconst 1, 1) := by decide +kernel
theorem dX5_has_13 : decode cX5_has 13 = .ok (.goto 4, 3) := by decide +kernel
theorem dX5_has_16 : decode cX5_has 16 = .ok (.iconst 0, 1) := by decide +kernel
theorem dX5_has_17 : decode cX5_has 17 = .ok (.ireturn, 1) := by decide +kernel
theorem dX5_renew_0 : decode cX5_renew 0 = .ok (.aload_n 0, 1) := by decide +kernel
theorem dX5_renew_1 : decode cX5_renew 1 = .ok (.getfield 9, 3) := by decide +kernel
theorem dX5_renew_4 : decode cX5_renew 4 = .ok (.bipush 32, 2) := by decide +kernel
theorem dX5_renew_6 : decode cX5_renew 6 = .ok (.invokestatic 19, 3) := by decide +kernel
theorem dX5_renew_9 : decode cX5_renew 9 = .ok (.aload_n 0, 1) := by decide +kernel
theorem dX5_renew_10 : decode cX5_renew 10 = .ok (.iload_n 1, 1) := by decide +kernel
theorem dX5_renew_11 : decode cX5_renew 11 = .ok (.putfield 15, 3) := by decide +kernel
theorem dX5_renew_14 : decode cX5_renew 14 = .ok (.return_, 1) := by decide +kernel
theorem dX5_signAt_0 : decode cX5_signAt 0 = .ok (.aload_n 0, 1) := by decide +kernel
theorem dX5_signAt_1 : decode cX5_signAt 1 = .ok (.iload_n 1, 1) := by decide +kernel
theorem dX5_signAt_2 : decode cX5_signAt 2 = .ok (.invokevirtual 25, 3) := by decide +kernel
theorem dX5_signAt_5 : decode cX5_signAt 5 = .ok (.ifCond .eq 12, 3) := by decide +kernel
theorem dX5_signAt_8 : decode cX5_signAt 8 = .ok (.aload_n 0, 1) := by decide +kernel
theorem dX5_signAt_9 : decode cX5_signAt 9 = .ok (.getfield 9, 3) := by decide +kernel
theorem dX5_signAt_12 : decode cX5_signAt 12 = .ok (.iload_n 1, 1) := by decide +kernel
theorem dX5_signAt_13 : decode cX5_signAt 13 = .ok (.baload, 1) := by decide +kernel
theorem dX5_signAt_14 : decode cX5_signAt 14 = .ok (.goto 5, 3) := by decide +kernel
theorem dX5_signAt_17 : decode cX5_signAt 17 = .ok (.bipush (-9), 2) := by decide +kernel
theorem dX5_signAt_19 : decode cX5_signAt 19 = .ok (.ireturn, 1) := by decide +kernel
theorem dX5_figureAt_0 : decode cX5_figureAt 0 = .ok (.aload_n 0, 1) := by decide +kernel
theorem dX5_figureAt_1 : decode cX5_figureAt 1 = .ok (.iload_n 1, 1) := by decide +kernel
theorem dX5_figureAt_2 : decode cX5_figureAt 2 = .ok (.invokevirtual 29, 3) := by decide +kernel
theorem dX5_figureAt_5 : decode cX5_figureAt 5 = .ok (.bipush 48, 2) := by decide +kernel
theorem dX5_figureAt_7 : decode cX5_figureAt 7 = .ok (.isub, 1) := by decide +kernel
theorem dX5_figureAt_8 : decode cX5_figureAt 8 = .ok (.istore_n 2, 1) := by decide +kernel
theorem dX5_figureAt_9 : decode cX5_figureAt 9 = .ok (.iload_n 2, 1) := by decide +kernel
theorem dX5_figureAt_10 : decode cX5_figureAt 10 = .ok (.ifCond .lt 13, 3) := by decide +kernel
theorem dX5_figureAt_13 : decode cX5_figureAt 13 = .ok (.iload_n 2, 1) := by decide +kernel
theorem dX5_figureAt_14 : decode cX5_figureAt 14 = .ok (.bipush 9, 2) := by decide +kernel
theorem dX5_figureAt_16 : decode cX5_figureAt 16 = .ok (.if_icmp .gt 7, 3) := by decide +kernel
theorem dX5_figureAt_19 : decode cX5_figureAt 19 = .ok (.iload_n 2, 1) := by decide +kernel
theorem dX5_figureAt_20 : decode cX5_figureAt 20 = .ok (.goto 5, 3) := by decide +kernel
theorem dX5_figureAt_23 : decode cX5_figureAt 23 = .ok (.bipush (-9), 2) := by decide +kernel
theorem dX5_figureAt_25 : decode cX5_figureAt 25 = .ok (.ireturn, 1) := by decide +kernel
theorem dX5_digestFrom_0 : decode cX5_digestFrom 0 = .ok (.ldc2_w 33, 3) := by decide +kernel
theorem dX5_digestFrom_3 : decode cX5_digestFrom 3 = .ok (.lload_n 1, 1) := by decide +kernel
theorem dX5_digestFrom_4 : decode cX5_digestFrom 4 = .ok (.lmul, 1) := by decide +kernel
theorem dX5_digestFrom_5 : decode cX5_digestFrom 5 = .ok (.aload_n 0, 1) := by decide +kernel
theorem dX5_digestFrom_6 : decode cX5_digestFrom 6 = .ok (.getfield 15, 3) := by decide +kernel
theorem dX5_digestFrom_9 : decode cX5_digestFrom 9 = .ok (.i2l, 1) := by decide +kernel
theorem dX5_digestFrom_10 : decode cX5_digestFrom 10 = .ok (.ladd, 1) := by decide +kernel
theorem dX5_digestFrom_11 : decode cX5_digestFrom 11 = .ok (.lstore_n 3, 1) := by decide +kernel
theorem dX5_digestFrom_12 : decode cX5_digestFrom 12 = .ok (.iconst 0, 1) := by decide +kernel
theorem dX5_digestFrom_13 : decode cX5_digestFrom 13 = .ok (.istore 5, 2) := by decide +kernel
theorem dX5_digestFrom_15 : decode cX5_digestFrom 15 = .ok (.iload 5, 2) := by decide +kernel
theorem dX5_digestFrom_17 : decode cX5_digestFrom 17 = .ok (.aload_n 0, 1) := by decide +kernel
theorem dX5_digestFrom_18 : decode cX5_digestFrom 18 = .ok (.getfield 15, 3) := by decide +kernel
theorem dX5_digestFrom_21 : decode cX5_digestFrom 21 = .ok (.if_icmp .ge 24, 3) := by decide +kernel
theorem dX5_digestFrom_24 : decode cX5_digestFrom 24 = .ok (.ldc2_w 33, 3) := by decide +kernel
theorem dX5_digestFrom_27 : decode cX5_digestFrom 27 = .ok (.lload_n 3, 1) := by decide +kernel
theorem dX5_digestFrom_28 : decode cX5_digestFrom 28 = .ok (.lmul, 1) := by decide +kernel
theorem dX5_digestFrom_29 : decode cX5_digestFrom 29 = .ok (.aload_n 0, 1) := by decide +kernel
theorem dX5_digestFrom_30 : decode cX5_digestFrom 30 = .ok (.getfield 9, 3) := by decide +kernel
theorem dX5_digestFrom_33 : decode cX5_digestFrom 33 = .ok (.iload 5, 2) := by decide +kernel
theorem dX5_digestFrom_35 : decode cX5_digestFrom 35 = .ok (.baload, 1) := by decide +kernel
theorem dX5_digestFrom_36 : decode cX5_digestFrom 36 = .ok (.i2l, 1) := by decide +kernel
theorem dX5_digestFrom_37 : decode cX5_digestFrom 37 = .ok (.ladd, 1) := by decide +kernel
theorem dX5_digestFrom_38 : decode cX5_digestFrom 38 = .ok (.lstore_n 3, 1) := by decide +kernel
theorem dX5_digestFrom_39 : decode cX5_digestFrom 39 = .ok (.iinc 5 1, 3) := by decide +kernel
theorem dX5_digestFrom_42 : decode cX5_digestFrom 42 = .ok (.goto (-27), 3) := by decide +kernel
theorem dX5_digestFrom_45 : decode cX5_digestFrom 45 = .ok (.lload_n 3, 1) := by decide +kernel
theorem dX5_digestFrom_46 : decode cX5_digestFrom 46 = .ok (.lreturn, 1) := by decide +kernel
theorem dX6_init_0 : decode cX6_init 0 = .ok (.aload_n 0, 1) := by decide +kernel
theorem dX6_init_1 : decode cX6_init 1 = .ok (.invokespecial 3, 3) := by decide +kernel
theorem dX6_init_4 : decode cX6_init 4 = .ok (.aload_n 0, 1) := by decide +kernel
theorem dX6_init_5 : decode cX6_init 5 = .ok (.iconst 5, 1) := by decide +kernel
theorem dX6_init_6 : decode cX6_init 6 = .ok (.newarray .int, 2) := by decide +kernel
theorem dX6_init_8 : decode cX6_init 8 = .ok (.putfield 9, 3) := by decide +kernel
theorem dX6_init_11 : decode cX6_init 11 = .ok (.aload_n 0, 1) := by decide +kernel
theorem dX6_init_12 : decode cX6_init 12 = .ok (.iconst 5, 1) := by decide +kernel
theorem dX6_init_13 : decode cX6_init 13 = .ok (.newarray .int, 2) := by decide +kernel
theorem dX6_init_15 : decode cX6_init 15 = .ok (.putfield 15, 3) := by decide +kernel
theorem dX6_init_18 : decode cX6_init 18 = .ok (.aload_n 0, 1) := by decide +kernel
theorem dX6_init_19 : decode cX6_init 19 = .ok (.iconst 0, 1) := by decide +kernel
theorem dX6_init_20 : decode cX6_init 20 = .ok (.putfield 18, 3) := by decide +kernel
theorem dX6_init_23 : decode cX6_init 23 = .ok (.aload_n 0, 1) := by decide +kernel
theorem dX6_init_24 : decode cX6_init 24 = .ok (.iconst 0, 1) := by decide +kernel
theorem dX6_init_25 : decode cX6_init 25 = .ok (.putfield 22, 3) := by decide +kernel
theorem dX6_init_28 : decode cX6_init 28 = .ok (.return_, 1) := by decide +kernel
theorem dX6_begin_0 : decode cX6_begin 0 = .ok (.aload_n 1, 1) := by decide +kernel
theorem dX6_begin_1 : decode cX6_begin 1 = .ok (.getfield 25, 3) := by decide +kernel
theorem dX6_begin_4 : decode cX6_begin 4 = .ok (.iconst 0, 1) := by decide +kernel
theorem dX6_begin_5 : decode cX6_begin 5 = .ok (.aload_n 0, 1) := by decide +kernel
theorem dX6_begin_6 : decode cX6_begin 6 = .ok (.getfield 9, 3) := by decide +kernel
theorem dX6_begin_9 : decode cX6_begin 9 = .ok (.iconst 0, 1) := by decide +kernel
theorem dX6_begin_10 : decode cX6_begin 10 = .ok (.iconst 5, 1) := by decide +kernel
theorem dX6_begin_11 : decode cX6_begin 11 = .ok (.invokestatic 28, 3) := by decide +kernel
theorem dX6_begin_14 : decode cX6_begin 14 = .ok (.aload_n 0, 1) := by decide +kernel
theorem dX6_begin_15 : decode cX6_begin 15 = .ok (.getfield 15, 3) := by decide +kernel
theorem dX6_begin_18 : decode cX6_begin 18 = .ok (.iconst 0, 1) := by decide +kernel
theorem dX6_begin_19 : decode cX6_begin 19 = .ok (.invokestatic 34, 3) := by decide +kernel
theorem dX6_begin_22 : decode cX6_begin 22 = .ok (.aload_n 0, 1) := by decide +kernel
theorem dX6_begin_23 : decode cX6_begin 23 = .ok (.iconst 0, 1) := by decide +kernel
theorem dX6_begin_24 : decode cX6_begin 24 = .ok (.putfield 18, 3) := by decide +kernel
theorem dX6_begin_27 : decode cX6_begin 27 = .ok (.aload_n 0, 1) := by decide +kernel
theorem dX6_begin_28 : decode cX6_begin 28 = .ok (.iconst 0, 1) := by decide +kernel
theorem dX6_begin_29 : decode cX6_begin 29 = .ok (.putfield 22, 3) := by decide +kernel
theorem dX6_begin_32 : decode cX6_begin 32 = .ok (.return_, 1) := by decide +kernel
theorem dX6_takeOver_0 : decode cX6_takeOver 0 = .ok (.aload_n 1, 1) := by decide +kernel
theorem dX6_takeOver_1 : decode cX6_takeOver 1 = .ok (.getfield 9, 3) := by decide +kernel
theorem dX6_takeOver_4 : decode cX6_takeOver 4 = .ok (.iconst 0, 1) := by decide +kernel
theorem dX6_takeOver_5 : decode cX6_takeOver 5 = .ok (.aload_n 0, 1) := by decide +kernel
theorem dX6_takeOver_6 : decode cX6_takeOver 6 = .ok (.getfield 9, 3) := by decide +kernel
theorem dX6_takeOver_9 : decode cX6_takeOver 9 = .ok (.iconst 0, 1) := by decide +kernel
theorem dX6_takeOver_10 : decode cX6_takeOver 10 = .ok (.iconst 5, 1) := by decide +kernel
theorem dX6_takeOver_11 : decode cX6_takeOver 11 = .ok (.invokestatic 28, 3) := by decide +kernel
theorem dX6_takeOver_14 : decode cX6_takeOver 14 = .ok (.aload_n 1, 1) := by decide +kernel
theorem dX6_takeOver_15 : decode cX6_takeOver 15 = .ok (.getfield 15, 3) := by decide +kernel
theorem dX6_takeOver_18 : decode cX6_takeOver 18 = .ok (.iconst 0, 1) := by decide +kernel
theorem dX6_takeOver_19 : decode cX6_takeOver 19 = .ok (.aload_n 0, 1) := by decide +kernel
theorem dX6_takeOver_20 : decode cX6_takeOver 20 = .ok (.getfield 15, 3) := by decide +kernel
theorem dX6_takeOver_23 : decode cX6_takeOver 23 = .ok (.iconst 0, 1) := by decide +kernel
theorem dX6_takeOver_24 : decode cX6_takeOver 24 = .ok (.iconst 5, 1) := by decide +kernel
theorem dX6_takeOver_25 : decode cX6_takeOver 25 = .ok (.invokestatic 28, 3) := by decide +kernel
theorem dX6_takeOver_28 : decode cX6_takeOver 28 = .ok (.aload_n 0, 1) := by decide +kernel
theorem dX6_takeOver_29 : decode cX6_takeOver 29 = .ok (.aload_n 1, 1) := by decide +kernel
theorem dX6_takeOver_30 : decode cX6_takeOver 30 = .ok (.getfield 18, 3) := by decide +kernel
theorem dX6_takeOver_33 : decode cX6_takeOver 33 = .ok (.putfield 18, 3) := by decide +kernel
theorem dX6_takeOver_36 : decode cX6_takeOver 36 = .ok (.aload_n 0, 1) := by decide +kernel
theorem dX6_takeOver_37 : decode cX6_takeOver 37 = .ok (.aload_n 1, 1) := by decide +kernel
theorem dX6_takeOver_38 : decode cX6_takeOver 38 = .ok (.getfield 22, 3) := by decide +kernel
theorem dX6_takeOver_41 : decode cX6_takeOver 41 = .ok (.putfield 22, 3) := by decide +kernel
theorem dX6_takeOver_44 : decode cX6_takeOver 44 = .ok (.return_, 1) := by decide +kernel
theorem dX6_isDone_0 : decode cX6_isDone 0 = .ok (.aload_n 0, 1) := by decide +kernel
theorem dX6_isDone_1 : decode cX6_isDone 1 = .ok (.getfield 18, 3) := by decide +kernel
theorem dX6_isDone_4 : decode cX6_isDone 4 = .ok (.iload_n 1, 1) := by decide +kernel
theorem dX6_isDone_5 : decode cX6_isDone 5 = .ok (.invokestatic 40, 3) := by decide +kernel
theorem dX6_isDone_8 : decode cX6_isDone 8 = .ok (.ireturn, 1) := by decide +kernel
theorem dX6_isAble_0 : decode cX6_isAble 0 = .ok (.aload_n 1, 1) := by decide +kernel
theorem dX6_isAble_1 : decode cX6_isAble 1 = .ok (.iload_n 2, 1) := by decide +kernel
theorem dX6_isAble_2 : decode cX6_isAble 2 = .ok (.invokevirtual 44, 3) := by decide +kernel
theorem dX6_isAble_5 : decode cX6_isAble 5 = .ok (.ifCond .eq 11, 3) := by decide +kernel
theorem dX6_isAble_8 : decode cX6_isAble 8 = .ok (.aload_n 0, 1) := by decide +kernel
theorem dX6_isAble_9 : decode cX6_isAble 9 = .ok (.iload_n 3, 1) := by decide +kernel
theorem dX6_isAble_10 : decode cX6_isAble 10 = .ok (.invokevirtual 48, 3) := by decide +kernel
theorem dX6_isAble_13 : decode cX6_isAble 13 = .ok (.ifCond .eq 5, 3) := by decide +kernel
theorem dX6_isAble_16 : decode cX6_isAble 16 = .ok (.iconst 0, 1) := by decide +kernel
theorem dX6_isAble_17 : decode cX6_isAble 17 = .ok (.ireturn, 1) := by decide +kernel
theorem dX6_isAble_18 : decode cX6_isAble 18 = .ok (.aload_n 1, 1) := by decide +kernel
theorem dX6_isAble_19 : decode cX6_isAble 19 = .ok (.iload_n 2, 1) := by decide +kernel
theorem dX6_isAble_20 : decode cX6_isAble 20 = .ok (.iload_n 3, 1) := by decide +kernel
theorem dX6_isAble_21 : decode cX6_isAble 21 = .ok (.invokevirtual 51, 3) := by decide +kernel
theorem dX6_isAble_24 : decode cX6_isAble 24 = .ok (.istore 4, 2) := by decide +kernel
theorem dX6_isAble_26 : decode cX6_isAble 26 = .ok (.iload 4, 2) := by decide +kernel
theorem dX6_isAble_28 : decode cX6_isAble 28 = .ok (.bipush (-9), 2) := by decide +kernel
theorem dX6_isAble_30 : decode cX6_isAble 30 = .ok (.if_icmp .eq 18, 3) := by decide +kernel
theorem dX6_isAble_33 : decode cX6_isAble 33 = .ok (.iload 4, 2) := by decide +kernel
theorem dX6_isAble_35 : decode cX6_isAble 35 = .ok (.aload_n 0, 1) := by decide +kernel
theorem dX6_isAble_36 : decode cX6_isAble 36 = .ok (.getfield 9, 3) := by decide +kernel
theorem dX6_isAble_39 : decode cX6_isAble 39 = .ok (.iload_n 2, 1) := by decide +kernel
theorem dX6_isAble_40 : decode cX6_isAble 40 = .ok (.iaload, 1) := by decide +kernel
theorem dX6_isAble_41 : decode cX6_isAble 41 = .ok (.if_icmp .gt 7, 3) := by decide +kernel
theorem dX6_isAble_44 : decode cX6_isAble 44 = .ok (.iconst 1, 1) := by decide +kernel
theorem dX6_isAble_45 : decode cX6_isAble 45 = .ok (.goto 4, 3) := by decide +kernel
theorem dX6_isAble_48 : decode cX6_isAble 48 = .ok (.iconst 0, 1) := by decide +kernel
theorem dX6_isAble_49 : decode cX6_isAble 49 = .ok (.ireturn, 1) := by decide +kernel
theorem dX6_allBreath_0 : decode cX6_allBreath 0 = .ok (.iconst 0, 1) := by decide +kernel
theorem dX6_allBreath_1 : decode cX6_allBreath 1 = .ok (.istore_n 2, 1) := by decide +kernel
theorem dX6_allBreath_2 : decode cX6_allBreath 2 = .ok (.iconst 0, 1) := by decide +kernel
theorem dX6_allBreath_3 : decode cX6_allBreath 3 = .ok (.istore_n 3, 1) := by decide +kernel
theorem dX6_allBreath_4 : decode cX6_allBreath 4 = .ok (.iload_n 3, 1) := by decide +kernel
theorem dX6_allBreath_5 : decode cX6_allBreath 5 = .ok (.aload_n 1, 1) := by decide +kernel
theorem dX6_allBreath_6 : decode cX6_allBreath 6 = .ok (.getfield 55, 3) := by decide +kernel
theorem dX6_allBreath_9 : decode cX6_allBreath 9 = .ok (.if_icmp .ge 18, 3) := by decide +kernel
theorem dX6_allBreath_12 : decode cX6_allBreath 12 = .ok (.iload_n 2, 1) := by decide +kernel
theorem dX6_allBreath_13 : decode cX6_allBreath 13 = .ok (.aload_n 0, 1) := by decide +kernel
theorem dX6_allBreath_14 : decode cX6_allBreath 14 = .ok (.getfield 9, 3) := by decide +kernel
theorem dX6_allBreath_17 : decode cX6_allBreath 17 = .ok (.iload_n 3, 1) := by decide +kernel
theorem dX6_allBreath_18 : decode cX6_allBreath 18 = .ok (.iaload, 1) := by decide +kernel
theorem dX6_allBreath_19 : decode cX6_allBreath 19 = .ok (.iadd, 1) := by decide +kernel
theorem dX6_allBreath_20 : decode cX6_allBreath 20 = .ok (.istore_n 2, 1) := by decide +kernel
theorem dX6_allBreath_21 : decode cX6_allBreath 21 = .ok (.iinc 3 1, 3) := by decide +kernel
theorem dX6_allBreath_24 : decode cX6_allBreath 24 = .ok (.goto (-20), 3) := by decide +kernel
theorem dX6_allBreath_27 : decode cX6_allBreath 27 = .ok (.iload_n 2, 1) := by decide +kernel
theorem dX6_allBreath_28 : decode cX6_allBreath 28 = .ok (.ireturn, 1) := by decide +kernel
theorem dX6_sighOrder_0 : decode cX6_sighOrder 0 = .ok (.aload_n 0, 1) := by decide +kernel
theorem dX6_sighOrder_1 : decode cX6_sighOrder 1 = .ok (.aload_n 1, 1) := by decide +kernel
theorem dX6_sighOrder_2 : decode cX6_sighOrder 2 = .ok (.iload_n 2, 1) := by decide +kernel
theorem dX6_sighOrder_3 : decode cX6_sighOrder 3 = .ok (.iload_n 3, 1) := by decide +kernel
theorem dX6_sighOrder_4 : decode cX6_sighOrder 4 = .ok (.invokevirtual 58, 3) := by decide +kernel
theorem dX6_sighOrder_7 : decode cX6_sighOrder 7 = .ok (.ifCond .eq 45, 3) := by decide +kernel
theorem dX6_sighOrder_10 : decode cX6_sighOrder 10 = .ok (.aload_n 0, 1) := by decide +kernel
theorem dX6_sighOrder_11 : decode cX6_sighOrder 11 = .ok (.getfield 9, 3) := by decide +kernel
theorem dX6_sighOrder_14 : decode cX6_sighOrder 14 = .ok (.iload_n 2, 1) := by decide +kernel
theorem dX6_sighOrder_15 : decode cX6_sighOrder 15 = .ok (.dup2, 1) := by decide +kernel
theorem dX6_sighOrder_16 : decode cX6_sighOrder 16 = .ok (.iaload, 1) := by decide +kernel
theorem dX6_sighOrder_17 : decode cX6_sighOrder 17 = .ok (.aload_n 1, 1) := by decide +kernel
theorem dX6_sighOrder_18 : decode cX6_sighOrder 18 = .ok (.iload_n 2, 1) := by decide +kernel
theorem dX6_sighOrder_19 : decode cX6_sighOrder 19 = .ok (.iload_n 3, 1) := by decide +kernel
theorem dX6_sighOrder_20 : decode cX6_sighOrder 20 = .ok (.invokevirtual 51, 3) := by decide +kernel
theorem dX6_sighOrder_23 : decode cX6_sighOrder 23 = .ok (.isub, 1) := by decide +kernel
theorem dX6_sighOrder_24 : decode cX6_sighOrder 24 = .ok (.iastore, 1) := by decide +kernel
theorem dX6_sighOrder_25 : decode cX6_sighOrder 25 = .ok (.aload_n 0, 1) := by decide +kernel
theorem dX6_sighOrder_26 : decode cX6_sighOrder 26 = .ok (.dup, 1) := by decide +kernel
theorem dX6_sighOrder_27 : decode cX6_sighOrder 27 = .ok (.getfield 22, 3) := by decide +kernel
theorem dX6_sighOrder_30 : decode cX6_sighOrder 30 = .ok (.aload_n 1, 1) := by decide +kernel
theorem dX6_sighOrder_31 : decode cX6_sighOrder 31 = .ok (.iload_n 2, 1) := by decide +kernel
theorem dX6_sighOrder_32 : decode cX6_sighOrder 32 = .ok (.iload_n 3, 1) := by decide +kernel
theorem dX6_sighOrder_33 : decode cX6_sighOrder 33 = .ok (.invokevirtual 62, 3) := by decide +kernel
theorem dX6_sighOrder_36 : decode cX6_sighOrder 36 = .ok (.iadd, 1) := by decide +kernel
theorem dX6_sighOrder_37 : decode cX6_sighOrder 37 = .ok (.putfield 22, 3) := by decide +kernel
theorem dX6_sighOrder_40 : decode cX6_sighOrder 40 = .ok (.aload_n 0, 1) := by decide +kernel
theorem dX6_sighOrder_41 : decode cX6_sighOrder 41 = .ok (.dup, 1) := by decide +kernel
theorem dX6_sighOrder_42 : decode cX6_sighOrder 42 = .ok (.getfield 18, 3) := by decide +kernel
theorem dX6_sighOrder_45 : decode cX6_sighOrder 45 = .ok (.iconst 1, 1) := by decide +kernel
theorem dX6_sighOrder_46 : decode cX6_sighOrder 46 = .ok (.iload_n 3, 1) := by decide +kernel
theorem dX6_sighOrder_47 : decode cX6_sighOrder 47 = .ok (.ishl, 1) := by decide +kernel
theorem dX6_sighOrder_48 : decode cX6_sighOrder 48 = .ok (.ior, 1) := by decide +kernel
theorem dX6_sighOrder_49 : decode cX6_sighOrder 49 = .ok (.putfield 18, 3) := by decide +kernel
theorem dX6_sighOrder_52 : decode cX6_sighOrder 52 = .ok (.return_, 1) := by decide +kernel
theorem dX6_perform_0 : decode cX6_perform 0 = .ok (.iload_n 2, 1) := by decide +kernel
theorem dX6_perform_1 : decode cX6_perform 1 = .ok (.invokestatic 65, 3) := by decide +kernel
theorem dX6_perform_4 : decode cX6_perform 4 = .ok (.istore_n 3, 1) := by decide +kernel
theorem dX6_perform_5 : decode cX6_perform 5 = .ok (.aload_n 1, 1) := by decide +kernel
theorem dX6_perform_6 : decode cX6_perform 6 = .ok (.iload_n 3, 1) := by decide +kernel
theorem dX6_perform_7 : decode cX6_perform 7 = .ok (.invokevirtual 44, 3) := by decide +kernel
theorem dX6_perform_10 : decode cX6_perform 10 = .ok (.ifCond .ne 4, 3) := by decide +kernel
theorem dX6_perform_13 : decode cX6_perform 13 = .ok (.return_, 1) := by decide +kernel
theorem dX6_perform_14 : decode cX6_perform 14 = .ok (.iload_n 2, 1) := by decide +kernel
theorem dX6_perform_15 : decode cX6_perform 15 = .ok (.invokestatic 71, 3) := by decide +kernel
theorem dX6_perform_18 : decode cX6_perform 18 = .ok (.lookupswitch 52 #[(0, 26), (1, 39)], 26) := by decide +kernel
theorem dX6_perform_44 : decode cX6_perform 44 = .ok (.aload_n 0, 1) := by decide +kernel
theorem dX6_perform_45 : decode cX6_perform 45 = .ok (.getfield 15, 3) := by decide +kernel
theorem dX6_perform_48 : decode cX6_perform 48 = .ok (.iload_n 3, 1) := by decide +kernel
theorem dX6_perform_49 : decode cX6_perform 49 = .ok (.iload_n 2, 1) := by decide +kernel
theorem dX6_perform_50 : decode cX6_perform 50 = .ok (.invokestatic 74, 3) := by decide +kernel
theorem dX6_perform_53 : decode cX6_perform 53 = .ok (.iastore, 1) := by decide +kernel
theorem dX6_perform_54 : decode cX6_perform 54 = .ok (.goto 35, 3) := by decide +kernel
theorem dX6_perform_57 : decode cX6_perform 57 = .ok (.aload_n 0, 1) := by decide +kernel
theorem dX6_perform_58 : decode cX6_perform 58 = .ok (.aload_n 1, 1) := by decide +kernel
theorem dX6_perform_59 : decode cX6_perform 59 = .ok (.iload_n 3, 1) := by decide +kernel
theorem dX6_perform_60 : decode cX6_perform 60 = .ok (.iload_n 2, 1) := by decide +kernel
theorem dX6_perform_61 : decode cX6_perform 61 = .ok (.invokestatic 74, 3) := by decide +kernel
theorem dX6_perform_64 : decode cX6_perform 64 = .ok (.invokevirtual 77, 3) := by decide +kernel
theorem dX6_perform_67 : decode cX6_perform 67 = .ok (.goto 22, 3) := by decide +kernel
theorem dX6_perform_70 : decode cX6_perform 70 = .ok (.aload_n 0, 1) := by decide +kernel
theorem dX6_perform_71 : decode cX6_perform 71 = .ok (.getfield 9, 3) := by decide +kernel
theorem dX6_perform_74 : decode cX6_perform 74 = .ok (.iload_n 3, 1) := by decide +kernel
theorem dX6_perform_75 : decode cX6_perform 75 = .ok (.bipush 9, 2) := by decide +kernel
theorem dX6_perform_77 : decode cX6_perform 77 = .ok (.aload_n 0, 1) := by decide +kernel
theorem dX6_perform_78 : decode cX6_perform 78 = .ok (.getfield 9, 3) := by decide +kernel
theorem dX6_perform_81 : decode cX6_perform 81 = .ok (.iload_n 3, 1) := by decide +kernel
theorem dX6_perform_82 : decode cX6_perform 82 = .ok (.iaload, 1) := by decide +kernel
theorem dX6_perform_83 : decode cX6_perform 83 = .ok (.iconst 2, 1) := by decide +kernel
theorem dX6_perform_84 : decode cX6_perform 84 = .ok (.iadd, 1) := by decide +kernel
theorem dX6_perform_85 : decode cX6_perform 85 = .ok (.invokestatic 81, 3) := by decide +kernel
theorem dX6_perform_88 : decode cX6_perform 88 = .ok (.iastore, 1) := by decide +kernel
theorem dX6_perform_89 : decode cX6_perform 89 = .ok (.return_, 1) := by decide +kernel
theorem dX7_init_0 : decode cX7_init 0 = .ok (.aload_n 0, 1) := by decide +kernel
theorem dX7_init_1 : decode cX7_init 1 = .ok (.invokespecial 1, 3) := by decide +kernel
theorem dX7_init_4 : decode cX7_init 4 = .ok (.aload_n 0, 1) := by decide +kernel
theorem dX7_init_5 : decode cX7_init 5 = .ok (.bipush 6, 2) := by decide +kernel
theorem dX7_init_7 : decode cX7_init 7 = .ok (.anewarray 9, 3) := by decide +kernel
theorem dX7_init_10 : decode cX7_init 10 = .ok (.putfield 11, 3) := by decide +kernel
theorem dX7_init_13 : decode cX7_init 13 = .ok (.aload_n 0, 1) := by decide +kernel
theorem dX7_init_14 : decode cX7_init 14 = .ok (.iconst 4, 1) := by decide +kernel
theorem dX7_init_15 : decode cX7_init 15 = .ok (.anewarray 15, 3) := by decide +kernel
theorem dX7_init_18 : decode cX7_init 18 = .ok (.putfield 17, 3) := by decide +kernel
theorem dX7_init_21 : decode cX7_init 21 = .ok (.aload_n 0, 1) := by decide +kernel
theorem dX7_init_22 : decode cX7_init 22 = .ok (.new 21, 3) := by decide +kernel
theorem dX7_init_25 : decode cX7_init 25 = .ok (.dup, 1) := by decide +kernel
theorem dX7_init_26 : decode cX7_init 26 = .ok (.invokespecial 23, 3) := by decide +kernel
theorem dX7_init_29 : decode cX7_init 29 = .ok (.putfield 24, 3) := by decide +kernel
theorem dX7_init_32 : decode cX7_init 32 = .ok (.aload_n 0, 1) := by decide +kernel
theorem dX7_init_33 : decode cX7_init 33 = .ok (.new 21, 3) := by decide +kernel
theorem dX7_init_36 : decode cX7_init 36 = .ok (.dup, 1) := by decide +kernel
theorem dX7_init_37 : decode cX7_init 37 = .ok (.invokespecial 23, 3) := by decide +kernel
theorem dX7_init_40 : decode cX7_init 40 = .ok (.putfield 28, 3) := by decide +kernel
theorem dX7_init_43 : decode cX7_init 43 = .ok (.aload_n 0, 1) := by decide +kernel
theorem dX7_init_44 : decode cX7_init 44 = .ok (.new 31, 3) := by decide +kernel
theorem dX7_init_47 : decode cX7_init 47 = .ok (.dup, 1) := by decide +kernel
theorem dX7_init_48 : decode cX7_init 48 = .ok (.invokespecial 33, 3) := by decide +kernel
theorem dX7_init_51 : decode cX7_init 51 = .ok (.putfield 34, 3) := by decide +kernel
theorem dX7_init_54 : decode cX7_init 54 = .ok (.aload_n 0, 1) := by decide +kernel
theorem dX7_init_55 : decode cX7_init 55 = .ok (.new 31, 3) := by decide +kernel
theorem dX7_init_58 : decode cX7_init 58 = .ok (.dup, 1) := by decide +kernel
theorem dX7_init_59 : decode cX7_init 59 = .ok (.invokespecial 33, 3) := by decide +kernel
theorem dX7_init_62 : decode cX7_init 62 = .ok (.putfield 38, 3) := by decide +kernel
theorem dX7_init_65 : decode cX7_init 65 = .ok (.aload_n 0, 1) := by decide +kernel
theorem dX7_init_66 : decode cX7_init 66 = .ok (.new 41, 3) := by decide +kernel
theorem dX7_init_69 : decode cX7_init 69 = .ok (.dup, 1) := by decide +kernel
theorem dX7_init_70 : decode cX7_init 70 = .ok (.invokespecial 43, 3) := by decide +kernel
theorem dX7_init_73 : decode cX7_init 73 = .ok (.putfield 44, 3) := by decide +kernel
theorem dX7_init_76 : decode cX7_init 76 = .ok (.aload_n 0, 1) := by decide +kernel
theorem dX7_init_77 : decode cX7_init 77 = .ok (.iconst 3, 1) := by decide +kernel
theorem dX7_init_78 : decode cX7_init 78 = .ok (.anewarray 41, 3) := by decide +kernel
theorem dX7_init_81 : decode cX7_init 81 = .ok (.putfield 48, 3) := by decide +kernel
theorem dX7_init_84 : decode cX7_init 84 = .ok (.aload_n 0, 1) := by decide +kernel
theorem dX7_init_85 : decode cX7_init 85 = .ok (.new 52, 3) := by decide +kernel
theorem dX7_init_88 : decode cX7_init 88 = .ok (.dup, 1) := by decide +kernel
theorem dX7_init_89 : decode cX7_init 89 = .ok (.invokespecial 54, 3) := by decide +kernel
theorem dX7_init_92 : decode cX7_init 92 = .ok (.putfield 55, 3) := by decide +kernel
theorem dX7_init_95 : decode cX7_init 95 = .ok (.aload_n 0, 1) := by decide +kernel
theorem dX7_init_96 : decode cX7_init 96 = .ok (.new 59, 3) := by decide +kernel
theorem dX7_init_99 : decode cX7_init 99 = .ok (.dup, 1) := by decide +kernel
theorem dX7_init_100 : decode cX7_init 100 = .ok (.invokespecial 61, 3) := by decide +kernel
theorem dX7_init_103 : decode cX7_init 103 = .ok (.putfield 62, 3) := by decide +kernel
theorem dX7_init_106 : decode cX7_init 106 = .ok (.aload_n 0, 1) := by decide +kernel
theorem dX7_init_107 : decode cX7_init 107 = .ok (.iconst 0, 1) := by decide +kernel
theorem dX7_init_108 : decode cX7_init 108 = .ok (.putfield 66, 3) := by decide +kernel
theorem dX7_init_111 : decode cX7_init 111 = .ok (.aload_n 0, 1) := by decide +kernel
theorem dX7_init_112 : decode cX7_init 112 = .ok (.lconst 0, 1) := by decide +kernel
theorem dX7_init_113 : decode cX7_init 113 = .ok (.putfield 70, 3) := by decide +kernel
theorem dX7_init_116 : decode cX7_init 116 = .ok (.aload_n 0, 1) := by decide +kernel
theorem dX7_init_117 : decode cX7_init 117 = .ok (.lconst 1, 1) := by decide +kernel
theorem dX7_init_118 : decode cX7_init 118 = .ok (.putfield 74, 3) := by decide +kernel
theorem dX7_init_121 : decode cX7_init 121 = .ok (.aload_n 0, 1) := by decide +kernel
theorem dX7_init_122 : decode cX7_init 122 = .ok (.iconst 0, 1) := by decide +kernel
theorem dX7_init_123 : decode cX7_init 123 = .ok (.putfield 77, 3) := by decide +kernel
theorem dX7_init_126 : decode cX7_init 126 = .ok (.aload_n 0, 1) := by decide +kernel
theorem dX7_init_127 : decode cX7_init 127 = .ok (.bipush 6, 2) := by decide +kernel
theorem dX7_init_129 : decode cX7_init 129 = .ok (.newarray .int, 2) := by decide +kernel
theorem dX7_init_131 : decode cX7_init 131 = .ok (.putfield 80, 3) := by decide +kernel
theorem dX7_init_134 : decode cX7_init 134 = .ok (.iconst 0, 1) := by decide +kernel
theorem dX7_init_135 : decode cX7_init 135 = .ok (.istore_n 1, 1) := by decide +kernel
theorem dX7_init_136 : decode cX7_init 136 = .ok (.iload_n 1, 1) := by decide +kernel
theorem dX7_init_137 : decode cX7_init 137 = .ok (.aload_n 0, 1) := by decide +kernel
theorem dX7_init_138 : decode cX7_init 138 = .ok (.getfield 11, 3) := by decide +kernel
theorem dX7_init_141 : decode cX7_init 141 = .ok (.arraylength, 1) := by decide +kernel
theorem dX7_init_142 : decode cX7_init 142 = .ok (.if_icmp .ge 22, 3) := by decide +kernel
theorem dX7_init_145 : decode cX7_init 145 = .ok (.aload_n 0, 1) := by decide +kernel
theorem dX7_init_146 : decode cX7_init 146 = .ok (.getfield 11, 3) := by decide +kernel
theorem dX7_init_149 : decode cX7_init 149 = .ok (.iload_n 1, 1) := by decide +kernel
theorem dX7_init_150 : decode cX7_init 150 = .ok (.new 9, 3) := by decide +kernel
theorem dX7_init_153 : decode cX7_init 153 = .ok (.dup, 1) := by decide +kernel
theorem dX7_init_154 : decode cX7_init 154 = .ok (.invokespecial 84, 3) := by decide +kernel
theorem dX7_init_157 : decode cX7_init 157 = .ok (.aastore, 1) := by decide +kernel
theorem dX7_init_158 : decode cX7_init 158 = .ok (.iinc 1 1, 3) := by decide +kernel
theorem dX7_init_161 : decode cX7_init 161 = .ok (.goto (-25), 3) := by decide +kernel
theorem dX7_init_164 : decode cX7_init 164 = .ok (.iconst 0, 1) := by decide +kernel
theorem dX7_init_165 : decode cX7_init 165 = .ok (.istore_n 1, 1) := by decide +kernel
theorem dX7_init_166 : decode cX7_init 166 = .ok (.iload_n 1, 1) := by decide +kernel
theorem dX7_init_167 : decode cX7_init 167 = .ok (.aload_n 0, 1) := by decide +kernel
theorem dX7_init_168 : decode cX7_init 168 = .ok (.getfield 17, 3) := by decide +kernel
theorem dX7_init_171 : decode cX7_init 171 = .ok (.arraylength, 1) := by decide +kernel
theorem dX7_init_172 : decode cX7_init 172 = .ok (.if_icmp .ge 22, 3) := by decide +kernel
theorem dX7_init_175 : decode cX7_init 175 = .ok (.aload_n 0, 1) := by decide +kernel
theorem dX7_init_176 : decode cX7_init 176 = .ok (.getfield 17, 3) := by decide +kernel
theorem dX7_init_179 : decode cX7_init 179 = .ok (.iload_n 1, 1) := by decide +kernel
theorem dX7_init_180 : decode cX7_init 180 = .ok (.new 15, 3) := by decide +kernel
theorem dX7_init_183 : decode cX7_init 183 = .ok (.dup, 1) := by decide +kernel
theorem dX7_init_184 : decode cX7_init 184 = .ok (.invokespecial 85, 3) := by decide +kernel
theorem dX7_init_187 : decode cX7_init 187 = .ok (.aastore, 1) := by decide +kernel
theorem dX7_init_188 : decode cX7_init 188 = .ok (.iinc 1 1, 3) := by decide +kernel
theorem dX7_init_191 : decode cX7_init 191 = .ok (.goto (-25), 3) := by decide +kernel
theorem dX7_init_194 : decode cX7_init 194 = .ok (.iconst 0, 1) := by decide +kernel
theorem dX7_init_195 : decode cX7_init 195 = .ok (.istore_n 1, 1) := by decide +kernel
theorem dX7_init_196 : decode cX7_init 196 = .ok (.iload_n 1, 1) := by decide +kernel
theorem dX7_init_197 : decode cX7_init 197 = .ok (.aload_n 0, 1) := by decide +kernel
theorem dX7_init_198 : decode cX7_init 198 = .ok (.getfield 48, 3) := by decide +kernel
theorem dX7_init_201 : decode cX7_init 201 = .ok (.arraylength, 1) := by decide +kernel
theorem dX7_init_202 : decode cX7_init 202 = .ok (.if_icmp .ge 32, 3) := by decide +kernel
theorem dX7_init_205 : decode cX7_init 205 = .ok (.aload_n 0, 1) := by decide +kernel
theorem dX7_init_206 : decode cX7_init 206 = .ok (.getfield 48, 3) := by decide +kernel
theorem dX7_init_209 : decode cX7_init 209 = .ok (.iload_n 1, 1) := by decide +kernel
theorem dX7_init_210 : decode cX7_init 210 = .ok (.new 41, 3) := by decide +kernel
theorem dX7_init_213 : decode cX7_init 213 = .ok (.dup, 1) := by decide +kernel
theorem dX7_init_214 : decode cX7_init 214 = .ok (.invokespecial 43, 3) := by decide +kernel
theorem dX7_init_217 : decode cX7_init 217 = .ok (.aastore, 1) := by decide +kernel
theorem dX7_init_218 : decode cX7_init 218 = .ok (.aload_n 0, 1) := by decide +kernel
theorem dX7_init_219 : decode cX7_init 219 = .ok (.getfield 48, 3) := by decide +kernel
theorem dX7_init_222 : decode cX7_init 222 = .ok (.iload_n 1, 1) := by decide +kernel
theorem dX7_init_223 : decode cX7_init 223 = .ok (.aaload, 1) := by decide +kernel
theorem dX7_init_224 : decode cX7_init 224 = .ok (.iconst (-1), 1) := by decide +kernel
theorem dX7_init_225 : decode cX7_init 225 = .ok (.putfield 86, 3) := by decide +kernel
theorem dX7_init_228 : decode cX7_init 228 = .ok (.iinc 1 1, 3) := by decide +kernel
theorem dX7_init_231 : decode cX7_init 231 = .ok (.goto (-35), 3) := by decide +kernel
theorem dX7_init_234 : decode cX7_init 234 = .ok (.return_, 1) := by decide +kernel
theorem dX7_row_0 : decode cX7_row 0 = .ok (.aload_n 0, 1) := by decide +kernel
theorem dX7_row_1 : decode cX7_row 1 = .ok (.iload_n 1, 1) := by decide +kernel
theorem dX7_row_2 : decode cX7_row 2 = .ok (.invokevirtual 89, 3) := by decide +kernel
theorem dX7_row_5 : decode cX7_row 5 = .ok (.astore_n 3, 1) := by decide +kernel
theorem dX7_row_6 : decode cX7_row 6 = .ok (.aload_n 3, 1) := by decide +kernel
theorem dX7_row_7 : decode cX7_row 7 = .ok (.ifnull 9, 3) := by decide +kernel
theorem dX7_row_10 : decode cX7_row 10 = .ok (.iload_n 2, 1) := by decide +kernel
theorem dX7_row_11 : decode cX7_row 11 = .ok (.bipush 40, 2) := by decide +kernel
theorem dX7_row_13 : decode cX7_row 13 = .ok (.if_icmp .le 5, 3) := by decide +kernel
theorem dX7_row_16 : decode cX7_row 16 = .ok (.iconst (-1), 1) := by decide +kernel
theorem dX7_row_17 : decode cX7_row 17 = .ok (.ireturn, 1) := by decide +kernel
theorem dX7_row_18 : decode cX7_row 18 = .ok (.iload_n 2, 1) := by decide +kernel
theorem dX7_row_19 : decode cX7_row 19 = .ok (.ifCond .ge 9, 3) := by decide +kernel
theorem dX7_row_22 : decode cX7_row 22 = .ok (.aload_n 0, 1) := by decide +kernel
theorem dX7_row_23 : decode cX7_row 23 = .ok (.iconst 5, 1) := by decide +kernel
theorem dX7_row_24 : decode cX7_row 24 = .ok (.invokevirtual 93, 3) := by decide +kernel
theorem dX7_row_27 : decode cX7_row 27 = .ok (.ireturn, 1) := by decide +kernel
theorem dX7_row_28 : decode cX7_row 28 = .ok (.aload_n 3, 1) := by decide +kernel
theorem dX7_row_29 : decode cX7_row 29 = .ok (.iload_n 2, 1) := by decide +kernel
theorem dX7_row_30 : decode cX7_row 30 = .ok (.invokevirtual 97, 3) := by decide +kernel
theorem dX7_row_33 : decode cX7_row 33 = .ok (.iload_n 2, 1) := by decide +kernel
theorem dX7_row_34 : decode cX7_row 34 = .ok (.ireturn, 1) := by decide +kernel
theorem dX7_lay_0 : decode cX7_lay 0 = .ok (.aload_n 0, 1) := by decide +kernel
theorem dX7_lay_1 : decode cX7_lay 1 = .ok (.iload_n 1, 1) := by decide +kernel
theorem dX7_lay_2 : decode cX7_lay 2 = .ok (.invokevirtual 89, 3) := by decide +kernel
theorem dX7_lay_5 : decode cX7_lay 5 = .ok (.astore 4, 2) := by decide +kernel
theorem dX7_lay_7 : decode cX7_lay 7 = .ok (.aload 4, 2) := by decide +kernel
theorem dX7_lay_9 : decode cX7_lay 9 = .ok (.ifnonnull 5, 3) := by decide +kernel
theorem dX7_lay_12 : decode cX7_lay 12 = .ok (.iconst (-1), 1) := by decide +kernel
theorem dX7_lay_13 : decode cX7_lay 13 = .ok (.ireturn, 1) := by decide +kernel
theorem dX7_lay_14 : decode cX7_lay 14 = .ok (.aload 4, 2) := by decide +kernel
theorem dX7_lay_16 : decode cX7_lay 16 = .ok (.invokevirtual 101, 3) := by decide +kernel
theorem dX7_lay_19 : decode cX7_lay 19 = .ok (.ifCond .eq 9, 3) := by decide +kernel
theorem dX7_lay_22 : decode cX7_lay 22 = .ok (.aload_n 0, 1) := by decide +kernel
theorem dX7_lay_23 : decode cX7_lay 23 = .ok (.iconst 1, 1) := by decide +kernel
theorem dX7_lay_24 : decode cX7_lay 24 = .ok (.invokevirtual 93, 3) := by decide +kernel
theorem dX7_lay_27 : decode cX7_lay 27 = .ok (.ireturn, 1) := by decide +kernel
theorem dX7_lay_28 : decode cX7_lay 28 = .ok (.aload 4, 2) := by decide +kernel
theorem dX7_lay_30 : decode cX7_lay 30 = .ok (.iload_n 2, 1) := by decide +kernel
theorem dX7_lay_31 : decode cX7_lay 31 = .ok (.invokevirtual 105, 3) := by decide +kernel
theorem dX7_lay_34 : decode cX7_lay 34 = .ok (.ifCond .ne 9, 3) := by decide +kernel
theorem dX7_lay_37 : decode cX7_lay 37 = .ok (.aload_n 0, 1) := by decide +kernel
theorem dX7_lay_38 : decode cX7_lay 38 = .ok (.iconst 2, 1) := by decide +kernel
theorem dX7_lay_39 : decode cX7_lay 39 = .ok (.invokevirtual 93, 3) := by decide +kernel
theorem dX7_lay_42 : decode cX7_lay 42 = .ok (.ireturn, 1) := by decide +kernel
theorem dX7_lay_43 : decode cX7_lay 43 = .ok (.aload_n 0, 1) := by decide +kernel
theorem dX7_lay_44 : decode cX7_lay 44 = .ok (.aload 4, 2) := by decide +kernel
theorem dX7_lay_46 : decode cX7_lay 46 = .ok (.getfield 109, 3) := by decide +kernel
theorem dX7_lay_49 : decode cX7_lay 49 = .ok (.iload_n 2, 1) := by decide +kernel
theorem dX7_lay_50 : decode cX7_lay 50 = .ok (.iaload, 1) := by decide +kernel
theorem dX7_lay_51 : decode cX7_lay 51 = .ok (.putfield 66, 3) := by decide +kernel
theorem dX7_lay_54 : decode cX7_lay 54 = .ok (.aload 4, 2) := by decide +kernel
theorem dX7_lay_56 : decode cX7_lay 56 = .ok (.getfield 109, 3) := by decide +kernel
theorem dX7_lay_59 : decode cX7_lay 59 = .ok (.iload_n 2, 1) := by decide +kernel
theorem dX7_lay_60 : decode cX7_lay 60 = .ok (.iload_n 3, 1) := by decide +kernel
theorem dX7_lay_61 : decode cX7_lay 61 = .ok (.iastore, 1) := by decide +kernel
theorem dX7_lay_62 : decode cX7_lay 62 = .ok (.iconst 1, 1) := by decide +kernel
theorem dX7_lay_63 : decode cX7_lay 63 = .ok (.ireturn, 1) := by decide +kernel
theorem dX7_at_0 : decode cX7_at 0 = .ok (.aload_n 0, 1) := by decide +kernel
theorem dX7_at_1 : decode cX7_at 1 = .ok (.iload_n 1, 1) := by decide +kernel
theorem dX7_at_2 : decode cX7_at 2 = .ok (.invokevirtual 89, 3) := by decide +kernel
theorem dX7_at_5 : decode cX7_at 5 = .ok (.astore_n 3, 1) := by decide +kernel
theorem dX7_at_6 : decode cX7_at 6 = .ok (.aload_n 3, 1) := by decide +kernel
theorem dX7_at_7 : decode cX7_at 7 = .ok (.ifnonnull 5, 3) := by decide +kernel
theorem dX7_at_10 : decode cX7_at 10 = .ok (.iconst (-1), 1) := by decide +kernel
theorem dX7_at_11 : decode cX7_at 11 = .ok (.ireturn, 1) := by decide +kernel
theorem dX7_at_12 : decode cX7_at 12 = .ok (.aload_n 3, 1) := by decide +kernel
theorem dX7_at_13 : decode cX7_at 13 = .ok (.invokevirtual 101, 3) := by decide +kernel
theorem dX7_at_16 : decode cX7_at 16 = .ok (.ifCond .eq 9, 3) := by decide +kernel
theorem dX7_at_19 : decode cX7_at 19 = .ok (.aload_n 0, 1) := by decide +kernel
theorem dX7_at_20 : decode cX7_at 20 = .ok (.iconst 1, 1) := by decide +kernel
theorem dX7_at_21 : decode cX7_at 21 = .ok (.invokevirtual 93, 3) := by decide +kernel
theorem dX7_at_24 : decode cX7_at 24 = .ok (.ireturn, 1) := by decide +kernel
theorem dX7_at_25 : decode cX7_at 25 = .ok (.aload_n 3, 1) := by decide +kernel
theorem dX7_at_26 : decode cX7_at 26 = .ok (.iload_n 2, 1) := by decide +kernel
theorem dX7_at_27 : decode cX7_at 27 = .ok (.invokevirtual 105, 3) := by decide +kernel
theorem dX7_at_30 : decode cX7_at 30 = .ok (.ifCond .ne 9, 3) := by decide +kernel
theorem dX7_at_33 : decode cX7_at 33 = .ok (.aload_n 0, 1) := by decide +kernel
theorem dX7_at_34 : decode cX7_at 34 = .ok (.iconst 2, 1) := by decide +kernel
theorem dX7_at_35 : decode cX7_at 35 = .ok (.invokevirtual 93, 3) := by decide +kernel
theorem dX7_at_38 : decode cX7_at 38 = .ok (.ireturn, 1) := by decide +kernel
theorem dX7_at_39 : decode cX7_at 39 = .ok (.aload_n 0, 1) := by decide +kernel
theorem dX7_at_40 : decode cX7_at 40 = .ok (.aload_n 3, 1) := by decide +kernel
theorem dX7_at_41 : decode cX7_at 41 = .ok (.getfield 109, 3) := by decide +kernel
theorem dX7_at_44 : decode cX7_at 44 = .ok (.iload_n 2, 1) := by decide +kernel
theorem dX7_at_45 : decode cX7_at 45 = .ok (.iaload, 1) := by decide +kernel
theorem dX7_at_46 : decode cX7_at 46 = .ok (.putfield 66, 3) := by decide +kernel
theorem dX7_at_49 : decode cX7_at 49 = .ok (.iconst 1, 1) := by decide +kernel
theorem dX7_at_50 : decode cX7_at 50 = .ok (.ireturn, 1) := by decide +kernel
theorem dX7_tear_0 : decode cX7_tear 0 = .ok (.aload_n 0, 1) := by decide +kernel
theorem dX7_tear_1 : decode cX7_tear 1 = .ok (.iload_n 1, 1) := by decide +kernel
theorem dX7_tear_2 : decode cX7_tear 2 = .ok (.invokevirtual 89, 3) := by decide +kernel
theorem dX7_tear_5 : decode cX7_tear 5 = .ok (.astore_n 2, 1) := by decide +kernel
theorem dX7_tear_6 : decode cX7_tear 6 = .ok (.aload_n 2, 1) := by decide +kernel
theorem dX7_tear_7 : decode cX7_tear 7 = .ok (.ifnonnull 5, 3) := by decide +kernel
theorem dX7_tear_10 : decode cX7_tear 10 = .ok (.iconst (-1), 1) := by decide +kernel
theorem dX7_tear_11 : decode cX7_tear 11 = .ok (.ireturn, 1) := by decide +kernel
theorem dX7_tear_12 : decode cX7_tear 12 = .ok (.aload_n 2, 1) := by decide +kernel
theorem dX7_tear_13 : decode cX7_tear 13 = .ok (.invokevirtual 101, 3) := by decide +kernel
theorem dX7_tear_16 : decode cX7_tear 16 = .ok (.ifCond .eq 9, 3) := by decide +kernel
theorem dX7_tear_19 : decode cX7_tear 19 = .ok (.aload_n 0, 1) := by decide +kernel
theorem dX7_tear_20 : decode cX7_tear 20 = .ok (.iconst 1, 1) := by decide +kernel
theorem dX7_tear_21 : decode cX7_tear 21 = .ok (.invokevirtual 93, 3) := by decide +kernel
theorem dX7_tear_24 : decode cX7_tear 24 = .ok (.ireturn, 1) := by decide +kernel
theorem dX7_tear_25 : decode cX7_tear 25 = .ok (.aload_n 2, 1) := by decide +kernel
theorem dX7_tear_26 : decode cX7_tear 26 = .ok (.iconst (-1), 1) := by decide +kernel
theorem dX7_tear_27 : decode cX7_tear 27 = .ok (.putfield 112, 3) := by decide +kernel
theorem dX7_tear_30 : decode cX7_tear 30 = .ok (.iconst 1, 1) := by decide +kernel
theorem dX7_tear_31 : decode cX7_tear 31 = .ok (.ireturn, 1) := by decide +kernel
theorem dX7_copy_0 : decode cX7_copy 0 = .ok (.aload_n 0, 1) := by decide +kernel
theorem dX7_copy_1 : decode cX7_copy 1 = .ok (.iload_n 1, 1) := by decide +kernel
theorem dX7_copy_2 : decode cX7_copy 2 = .ok (.invokevirtual 89, 3) := by decide +kernel
theorem dX7_copy_5 : decode cX7_copy 5 = .ok (.astore 6, 2) := by decide +kernel
theorem dX7_copy_7 : decode cX7_copy 7 = .ok (.aload_n 0, 1) := by decide +kernel
theorem dX7_copy_8 : decode cX7_copy 8 = .ok (.iload_n 3, 1) := by decide +kernel
theorem dX7_copy_9 : decode cX7_copy 9 = .ok (.invokevirtual 89, 3) := by decide +kernel
theorem dX7_copy_12 : decode cX7_copy 12 = .ok (.astore 7, 2) := by decide +kernel
theorem dX7_copy_14 : decode cX7_copy 14 = .ok (.aload 6, 2) := by decide +kernel
theorem dX7_copy_16 : decode cX7_copy 16 = .ok (.ifnull 8, 3) := by decide +kernel
theorem dX7_copy_19 : decode cX7_copy 19 = .ok (.aload 7, 2) := by decide +kernel
theorem dX7_copy_21 : decode cX7_copy 21 = .ok (.ifnonnull 5, 3) := by decide +kernel
theorem dX7_copy_24 : decode cX7_copy 24 = .ok (.iconst (-1), 1) := by decide +kernel
theorem dX7_copy_25 : decode cX7_copy 25 = .ok (.ireturn, 1) := by decide +kernel
theorem dX7_copy_26 : decode cX7_copy 26 = .ok (.iload 5, 2) := by decide +kernel
theorem dX7_copy_28 : decode cX7_copy 28 = .ok (.ifCond .ge 9, 3) := by decide +kernel
theorem dX7_copy_31 : decode cX7_copy 31 = .ok (.aload_n 0, 1) := by decide +kernel
theorem dX7_copy_32 : decode cX7_copy 32 = .ok (.iconst 5, 1) := by decide +kernel
theorem dX7_copy_33 : decode cX7_copy 33 = .ok (.invokevirtual 93, 3) := by decide +kernel
theorem dX7_copy_36 : decode cX7_copy 36 = .ok (.ireturn, 1) := by decide +kernel
theorem dX7_copy_37 : decode cX7_copy 37 = .ok (.aload 6, 2) := by decide +kernel
theorem dX7_copy_39 : decode cX7_copy 39 = .ok (.invokevirtual 101, 3) := by decide +kernel
theorem dX7_copy_42 : decode cX7_copy 42 = .ok (.ifCond .ne 11, 3) := by decide +kernel
theorem dX7_copy_45 : decode cX7_copy 45 = .ok (.aload 7, 2) := by decide +kernel
theorem dX7_copy_47 : decode cX7_copy 47 = .ok (.invokevirtual 101, 3) := by decide +kernel
theorem dX7_copy_50 : decode cX7_copy 50 = .ok (.ifCond .eq 9, 3) := by decide +kernel
theorem dX7_copy_53 : decode cX7_copy 53 = .ok (.aload_n 0, 1) := by decide +kernel
theorem dX7_copy_54 : decode cX7_copy 54 = .ok (.iconst 1, 1) := by decide +kernel
theorem dX7_copy_55 : decode cX7_copy 55 = .ok (.invokevirtual 93, 3) := by decide +kernel
theorem dX7_copy_58 : decode cX7_copy 58 = .ok (.ireturn, 1) := by decide +kernel
theorem dX7_copy_59 : decode cX7_copy 59 = .ok (.aload 6, 2) := by decide +kernel
theorem dX7_copy_61 : decode cX7_copy 61 = .ok (.iload_n 2, 1) := by decide +kernel
theorem dX7_copy_62 : decode cX7_copy 62 = .ok (.iload 5, 2) := by decide +kernel
theorem dX7_copy_64 : decode cX7_copy 64 = .ok (.invokevirtual 115, 3) := by decide +kernel
theorem dX7_copy_67 : decode cX7_copy 67 = .ok (.ifCond .eq 15, 3) := by decide +kernel
theorem dX7_copy_70 : decode cX7_copy 70 = .ok (.aload 7, 2) := by decide +kernel
theorem dX7_copy_72 : decode cX7_copy 72 = .ok (.iload 4, 2) := by decide +kernel
theorem dX7_copy_74 : decode cX7_copy 74 = .ok (.iload 5, 2) := by decide +kernel
theorem dX7_copy_76 : decode cX7_copy 76 = .ok (.invokevirtual 115, 3) := by decide +kernel
theorem dX7_copy_79 : decode cX7_copy 79 = .ok (.ifCond .ne 9, 3) := by decide +kernel
theorem dX7_copy_82 : decode cX7_copy 82 = .ok (.aload_n 0, 1) := by decide +kernel
theorem dX7_copy_83 : decode cX7_copy 83 = .ok (.iconst 2, 1) := by decide +kernel
theorem dX7_copy_84 : decode cX7_copy 84 = .ok (.invokevirtual 93, 3) := by decide +kernel
theorem dX7_copy_87 : decode cX7_copy 87 = .ok (.ireturn, 1) := by decide +kernel
theorem dX7_copy_88 : decode cX7_copy 88 = .ok (.aload 6, 2) := by decide +kernel
theorem dX7_copy_90 : decode cX7_copy 90 = .ok (.getfield 109, 3) := by decide +kernel
theorem dX7_copy_93 : decode cX7_copy 93 = .ok (.iload_n 2, 1) := by decide +kernel
theorem dX7_copy_94 : decode cX7_copy 94 = .ok (.aload 7, 2) := by decide +kernel
theorem dX7_copy_96 : decode cX7_copy 96 = .ok (.getfield 109, 3) := by decide +kernel
theorem dX7_copy_99 : decode cX7_copy 99 = .ok (.iload 4, 2) := by decide +kernel
theorem dX7_copy_101 : decode cX7_copy 101 = .ok (.iload 5, 2) := by decide +kernel
theorem dX7_copy_103 : decode cX7_copy 103 = .ok (.invokestatic 119, 3) := by decide +kernel
theorem dX7_copy_106 : decode cX7_copy 106 = .ok (.iconst 1, 1) := by decide +kernel
theorem dX7_copy_107 : decode cX7_copy 107 = .ok (.ireturn, 1) := by decide +kernel
theorem dX7_mean_0 : decode cX7_mean 0 = .ok (.aload_n 0, 1) := by decide +kernel
theorem dX7_mean_1 : decode cX7_mean 1 = .ok (.iload_n 1, 1) := by decide +kernel
theorem dX7_mean_2 : decode cX7_mean 2 = .ok (.invokevirtual 89, 3) := by decide +kernel
theorem dX7_mean_5 : decode cX7_mean 5 = .ok (.astore_n 2, 1) := by decide +kernel
theorem dX7_mean_6 : decode cX7_mean 6 = .ok (.aload_n 2, 1) := by decide +kernel
theorem dX7_mean_7 : decode cX7_mean 7 = .ok (.ifnonnull 5, 3) := by decide +kernel
theorem dX7_mean_10 : decode cX7_mean 10 = .ok (.iconst (-1), 1) := by decide +kernel
theorem dX7_mean_11 : decode cX7_mean 11 = .ok (.ireturn, 1) := by decide +kernel
theorem dX7_mean_12 : decode cX7_mean 12 = .ok (.aload_n 2, 1) := by decide +kernel
theorem dX7_mean_13 : decode cX7_mean 13 = .ok (.invokevirtual 101, 3) := by decide +kernel
theorem dX7_mean_16 : decode cX7_mean 16 = .ok (.ifCond .eq 9, 3) := by decide +kernel
theorem dX7_mean_19 : decode cX7_mean 19 = .ok (.aload_n 0, 1) := by decide +kernel
theorem dX7_mean_20 : decode cX7_mean 20 = .ok (.iconst 1, 1) := by decide +kernel
theorem dX7_mean_21 : decode cX7_mean 21 = .ok (.invokevirtual 93, 3) := by decide +kernel
theorem dX7_mean_24 : decode cX7_mean 24 = .ok (.ireturn, 1) := by decide +kernel
theorem dX7_mean_25 : decode cX7_mean 25 = .ok (.aload_n 2, 1) := by decide +kernel
theorem dX7_mean_26 : decode cX7_mean 26 = .ok (.getfield 112, 3) := by decide +kernel
theorem dX7_mean_29 : decode cX7_mean 29 = .ok (.ifCond .ne 9, 3) := by decide +kernel
theorem dX7_mean_32 : decode cX7_mean 32 = .ok (.aload_n 0, 1) := by decide +kernel
theorem dX7_mean_33 : decode cX7_mean 33 = .ok (.iconst 4, 1) := by decide +kernel
theorem dX7_mean_34 : decode cX7_mean 34 = .ok (.invokevirtual 93, 3) := by decide +kernel
theorem dX7_mean_37 : decode cX7_mean 37 = .ok (.ireturn, 1) := by decide +kernel
theorem dX7_mean_38 : decode cX7_mean 38 = .ok (.aload_n 0, 1) := by decide +kernel
theorem dX7_mean_39 : decode cX7_mean 39 = .ok (.aload_n 2, 1) := by decide +kernel
theorem dX7_mean_40 : decode cX7_mean 40 = .ok (.invokevirtual 125, 3) := by decide +kernel
theorem dX7_mean_43 : decode cX7_mean 43 = .ok (.aload_n 2, 1) := by decide +kernel
theorem dX7_mean_44 : decode cX7_mean 44 = .ok (.getfield 112, 3) := by decide +kernel
theorem dX7_mean_47 : decode cX7_mean 47 = .ok (.i2l, 1) := by decide +kernel
theorem dX7_mean_48 : decode cX7_mean 48 = .ok (.ldiv, 1) := by decide +kernel
theorem dX7_mean_49 : decode cX7_mean 49 = .ok (.l2i, 1) := by decide +kernel
theorem dX7_mean_50 : decode cX7_mean 50 = .ok (.putfield 66, 3) := by decide +kernel
theorem dX7_mean_53 : decode cX7_mean 53 = .ok (.iconst 1, 1) := by decide +kernel
theorem dX7_mean_54 : decode cX7_mean 54 = .ok (.ireturn, 1) := by decide +kernel
theorem dX7_text_0 : decode cX7_text 0 = .ok (.aload_n 0, 1) := by decide +kernel
theorem dX7_text_1 : decode cX7_text 1 = .ok (.iload_n 1, 1) := by decide +kernel
theorem dX7_text_2 : decode cX7_text 2 = .ok (.invokevirtual 129, 3) := by decide +kernel
theorem dX7_text_5 : decode cX7_text 5 = .ok (.astore_n 3, 1) := by decide +kernel
theorem dX7_text_6 : decode cX7_text 6 = .ok (.aload_n 3, 1) := by decide +kernel
theorem dX7_text_7 : decode cX7_text 7 = .ok (.ifnull 9, 3) := by decide +kernel
theorem dX7_text_10 : decode cX7_text 10 = .ok (.iload_n 2, 1) := by decide +kernel
theorem dX7_text_11 : decode cX7_text 11 = .ok (.bipush 60, 2) := by decide +kernel
theorem dX7_text_13 : decode cX7_text 13 = .ok (.if_icmp .le 5, 3) := by decide +kernel
theorem dX7_text_16 : decode cX7_text 16 = .ok (.iconst (-1), 1) := by decide +kernel
theorem dX7_text_17 : decode cX7_text 17 = .ok (.ireturn, 1) := by decide +kernel
theorem dX7_text_18 : decode cX7_text 18 = .ok (.iload_n 2, 1) := by decide +kernel
theorem dX7_text_19 : decode cX7_text 19 = .ok (.ifCond .ge 9, 3) := by decide +kernel
theorem dX7_text_22 : decode cX7_text 22 = .ok (.aload_n 0, 1) := by decide +kernel
theorem dX7_text_23 : decode cX7_text 23 = .ok (.iconst 5, 1) := by decide +kernel
theorem dX7_text_24 : decode cX7_text 24 = .ok (.invokevirtual 93, 3) := by decide +kernel
theorem dX7_text_27 : decode cX7_text 27 = .ok (.ireturn, 1) := by decide +kernel
theorem dX7_text_28 : decode cX7_text 28 = .ok (.aload_n 3, 1) := by decide +kernel
theorem dX7_text_29 : decode cX7_text 29 = .ok (.iload_n 2, 1) := by decide +kernel
theorem dX7_text_30 : decode cX7_text 30 = .ok (.invokevirtual 133, 3) := by decide +kernel
theorem dX7_text_33 : decode cX7_text 33 = .ok (.iload_n 2, 1) := by decide +kernel
theorem dX7_text_34 : decode cX7_text 34 = .ok (.ireturn, 1) := by decide +kernel
theorem dX7_put_0 : decode cX7_put 0 = .ok (.aload_n 0, 1) := by decide +kernel
theorem dX7_put_1 : decode cX7_put 1 = .ok (.iload_n 1, 1) := by decide +kernel
theorem dX7_put_2 : decode cX7_put 2 = .ok (.invokevirtual 129, 3) := by decide +kernel
theorem dX7_put_5 : decode cX7_put 5 = .ok (.astore 4, 2) := by decide +kernel
theorem dX7_put_7 : decode cX7_put 7 = .ok (.aload 4, 2) := by decide +kernel
theorem dX7_put_9 : decode cX7_put 9 = .ok (.ifnonnull 5, 3) := by decide +kernel
theorem dX7_put_12 : decode cX7_put 12 = .ok (.iconst (-1), 1) := by decide +kernel
theorem dX7_put_13 : decode cX7_put 13 = .ok (.ireturn, 1) := by decide +kernel
theorem dX7_put_14 : decode cX7_put 14 = .ok (.aload 4, 2) := by decide +kernel
theorem dX7_put_16 : decode cX7_put 16 = .ok (.invokevirtual 134, 3) := by decide +kernel
theorem dX7_put_19 : decode cX7_put 19 = .ok (.ifCond .eq 9, 3) := by decide +kernel
theorem dX7_put_22 : decode cX7_put 22 = .ok (.aload_n 0, 1) := by decide +kernel
theorem dX7_put_23 : decode cX7_put 23 = .ok (.iconst 1, 1) := by decide +kernel
theorem dX7_put_24 : decode cX7_put 24 = .ok (.invokevirtual 93, 3) := by decide +kernel
theorem dX7_put_27 : decode cX7_put 27 = .ok (.ireturn, 1) := by decide +kernel
theorem dX7_put_28 : decode cX7_put 28 = .ok (.aload 4, 2) := by decide +kernel
theorem dX7_put_30 : decode cX7_put 30 = .ok (.iload_n 2, 1) := by decide +kernel
theorem dX7_put_31 : decode cX7_put 31 = .ok (.invokevirtual 135, 3) := by decide +kernel
theorem dX7_put_34 : decode cX7_put 34 = .ok (.ifCond .ne 9, 3) := by decide +kernel
theorem dX7_put_37 : decode cX7_put 37 = .ok (.aload_n 0, 1) := by decide +kernel
theorem dX7_put_38 : decode cX7_put 38 = .ok (.iconst 2, 1) := by decide +kernel
theorem dX7_put_39 : decode cX7_put 39 = .ok (.invokevirtual 93, 3) := by decide +kernel
theorem dX7_put_42 : decode cX7_put 42 = .ok (.ireturn, 1) := by decide +kernel
theorem dX7_put_43 : decode cX7_put 43 = .ok (.aload 4, 2) := by decide +kernel
theorem dX7_put_45 : decode cX7_put 45 = .ok (.getfield 136, 3) := by decide +kernel
theorem dX7_put_48 : decode cX7_put 48 = .ok (.iload_n 2, 1) := by decide +kernel
theorem dX7_put_49 : decode cX7_put 49 = .ok (.baload, 1) := by decide +kernel
theorem dX7_put_50 : decode cX7_put 50 = .ok (.istore 5, 2) := by decide +kernel
theorem dX7_put_52 : decode cX7_put 52 = .ok (.aload 4, 2) := by decide +kernel
theorem dX7_put_54 : decode cX7_put 54 = .ok (.getfield 136, 3) := by decide +kernel
theorem dX7_put_57 : decode cX7_put 57 = .ok (.iload_n 2, 1) := by decide +kernel
theorem dX7_put_58 : decode cX7_put 58 = .ok (.iload_n 3, 1) := by decide +kernel
theorem dX7_put_59 : decode cX7_put 59 = .ok (.i2b, 1) := by decide +kernel
theorem dX7_put_60 : decode cX7_put 60 = .ok (.bastore, 1) := by decide +kernel
theorem dX7_put_61 : decode cX7_put 61 = .ok (.iload 5, 2) := by decide +kernel
theorem dX7_put_63 : decode cX7_put 63 = .ok (.sipush 1000, 3) := by decide +kernel
theorem dX7_put_66 : decode cX7_put 66 = .ok (.iadd, 1) := by decide +kernel
theorem dX7_put_67 : decode cX7_put 67 = .ok (.ireturn, 1) := by decide +kernel
theorem dX7_fault_0 : decode cX7_fault 0 = .ok (.aload_n 0, 1) := by decide +kernel
theorem dX7_fault_1 : decode cX7_fault 1 = .ok (.iload_n 1, 1) := by decide +kernel
theorem dX7_fault_2 : decode cX7_fault 2 = .ok (.invokevirtual 129, 3) := by decide +kernel
theorem dX7_fault_5 : decode cX7_fault 5 = .ok (.astore_n 2, 1) := by decide +kernel
theorem dX7_fault_6 : decode cX7_fault 6 = .ok (.aload_n 2, 1) := by decide +kernel
theorem dX7_fault_7 : decode cX7_fault 7 = .ok (.ifnonnull 5, 3) := by decide +kernel
theorem dX7_fault_10 : decode cX7_fault 10 = .ok (.iconst (-1), 1) := by decide +kernel
theorem dX7_fault_11 : decode cX7_fault 11 = .ok (.ireturn, 1) := by decide +kernel
theorem dX7_fault_12 : decode cX7_fault 12 = .ok (.aload_n 2, 1) := by decide +kernel
theorem dX7_fault_13 : decode cX7_fault 13 = .ok (.invokevirtual 134, 3) := by decide +kernel
theorem dX7_fault_16 : decode cX7_fault 16 = .ok (.ifCond .eq 9, 3) := by decide +kernel
theorem dX7_fault_19 : decode cX7_fault 19 = .ok (.aload_n 0, 1) := by decide +kernel
theorem dX7_fault_20 : decode cX7_fault 20 = .ok (.iconst 1, 1) := by decide +kernel
theorem dX7_fault_21 : decode cX7_fault 21 = .ok (.invokevirtual 93, 3) := by decide +kernel
theorem dX7_fault_24 : decode cX7_fault 24 = .ok (.ireturn, 1) := by decide +kernel
theorem dX7_fault_25 : decode cX7_fault 25 = .ok (.aload_n 0, 1) := by decide +kernel
theorem dX7_fault_26 : decode cX7_fault 26 = .ok (.getfield 28, 3) := by decide +kernel
theorem dX7_fault_29 : decode cX7_fault 29 = .ok (.aload_n 2, 1) := by decide +kernel
theorem dX7_fault_30 : decode cX7_fault 30 = .ok (.invokevirtual 140, 3) := by decide +kernel
theorem dX7_fault_33 : decode cX7_fault 33 = .ok (.ireturn, 1) := by decide +kernel
theorem dX7_guild_0 : decode cX7_guild 0 = .ok (.aload_n 0, 1) := by decide +kernel
theorem dX7_guild_1 : decode cX7_guild 1 = .ok (.iload_n 1, 1) := by decide +kernel
theorem dX7_guild_2 : decode cX7_guild 2 = .ok (.invokevirtual 129, 3) := by decide +kernel
theorem dX7_guild_5 : decode cX7_guild 5 = .ok (.astore_n 2, 1) := by decide +kernel
theorem dX7_guild_6 : decode cX7_guild 6 = .ok (.aload_n 2, 1) := by decide +kernel
theorem dX7_guild_7 : decode cX7_guild 7 = .ok (.ifnonnull 5, 3) := by decide +kernel
theorem dX7_guild_10 : decode cX7_guild 10 = .ok (.iconst (-1), 1) := by decide +kernel
theorem dX7_guild_11 : decode cX7_guild 11 = .ok (.ireturn, 1) := by decide +kernel
theorem dX7_guild_12 : decode cX7_guild 12 = .ok (.aload_n 2, 1) := by decide +kernel
theorem dX7_guild_13 : decode cX7_guild 13 = .ok (.invokevirtual 134, 3) := by decide +kernel
theorem dX7_guild_16 : decode cX7_guild 16 = .ok (.ifCond .eq 9, 3) := by decide +kernel
theorem dX7_guild_19 : decode cX7_guild 19 = .ok (.aload_n 0, 1) := by decide +kernel
theorem dX7_guild_20 : decode cX7_guild 20 = .ok (.iconst 1, 1) := by decide +kernel
theorem dX7_guild_21 : decode cX7_guild 21 = .ok (.invokevirtual 93, 3) := by decide +kernel
theorem dX7_guild_24 : decode cX7_guild 24 = .ok (.ireturn, 1) := by decide +kernel
theorem dX7_guild_25 : decode cX7_guild 25 = .ok (.aload_n 0, 1) := by decide +kernel
theorem dX7_guild_26 : decode cX7_guild 26 = .ok (.getfield 28, 3) := by decide +kernel
theorem dX7_guild_29 : decode cX7_guild 29 = .ok (.aload_n 2, 1) := by decide +kernel
theorem dX7_guild_30 : decode cX7_guild 30 = .ok (.invokevirtual 140, 3) := by decide +kernel
theorem dX7_guild_33 : decode cX7_guild 33 = .ok (.bipush (-9), 2) := by decide +kernel
theorem dX7_guild_35 : decode cX7_guild 35 = .ok (.if_icmp .eq 6, 3) := by decide +kernel
theorem dX7_guild_38 : decode cX7_guild 38 = .ok (.bipush (-4), 2) := by decide +kernel
theorem dX7_guild_40 : decode cX7_guild 40 = .ok (.ireturn, 1) := by decide +kernel
theorem dX7_guild_41 : decode cX7_guild 41 = .ok (.aload_n 0, 1) := by decide +kernel
theorem dX7_guild_42 : decode cX7_guild 42 = .ok (.getfield 24, 3) := by decide +kernel
theorem dX7_guild_45 : decode cX7_guild 45 = .ok (.astore_n 3, 1) := by decide +kernel
theorem dX7_guild_46 : decode cX7_guild 46 = .ok (.aload_n 0, 1) := by decide +kernel
theorem dX7_guild_47 : decode cX7_guild 47 = .ok (.aload_n 0, 1) := by decide +kernel
theorem dX7_guild_48 : decode cX7_guild 48 = .ok (.getfield 28, 3) := by decide +kernel
theorem dX7_guild_51 : decode cX7_guild 51 = .ok (.putfield 24, 3) := by decide +kernel
theorem dX7_guild_54 : decode cX7_guild 54 = .ok (.aload_n 0, 1) := by decide +kernel
theorem dX7_guild_55 : decode cX7_guild 55 = .ok (.aload_n 3, 1) := by decide +kernel
theorem dX7_guild_56 : decode cX7_guild 56 = .ok (.putfield 28, 3) := by decide +kernel
theorem dX7_guild_59 : decode cX7_guild 59 = .ok (.aload_n 0, 1) := by decide +kernel
theorem dX7_guild_60 : decode cX7_guild 60 = .ok (.getfield 34, 3) := by decide +kernel
theorem dX7_guild_63 : decode cX7_guild 63 = .ok (.aload_n 0, 1) := by decide +kernel
theorem dX7_guild_64 : decode cX7_guild 64 = .ok (.getfield 24, 3) := by decide +kernel
theorem dX7_guild_67 : decode cX7_guild 67 = .ok (.invokevirtual 144, 3) := by decide +kernel
theorem dX7_guild_70 : decode cX7_guild 70 = .ok (.aload_n 0, 1) := by decide +kernel
theorem dX7_guild_71 : decode cX7_guild 71 = .ok (.getfield 44, 3) := by decide +kernel
theorem dX7_guild_74 : decode cX7_guild 74 = .ok (.iconst 0, 1) := by decide +kernel
theorem dX7_guild_75 : decode cX7_guild 75 = .ok (.putfield 86, 3) := by decide +kernel
theorem dX7_guild_78 : decode cX7_guild 78 = .ok (.iconst 0, 1) := by decide +kernel
theorem dX7_guild_79 : decode cX7_guild 79 = .ok (.istore 4, 2) := by decide +kernel
theorem dX7_guild_81 : decode cX7_guild 81 = .ok (.iload 4, 2) := by decide +kernel
theorem dX7_guild_83 : decode cX7_guild 83 = .ok (.aload_n 0, 1) := by decide +kernel
theorem dX7_guild_84 : decode cX7_guild 84 = .ok (.getfield 48, 3) := by decide +kernel
theorem dX7_guild_87 : decode cX7_guild 87 = .ok (.arraylength, 1) := by decide +kernel
theorem dX7_guild_88 : decode cX7_guild 88 = .ok (.if_icmp .ge 20, 3) := by decide +kernel
theorem dX7_guild_91 : decode cX7_guild 91 = .ok (.aload_n 0, 1) := by decide +kernel
theorem dX7_guild_92 : decode cX7_guild 92 = .ok (.getfield 48, 3) := by decide +kernel
theorem dX7_guild_95 : decode cX7_guild 95 = .ok (.iload 4, 2) := by decide +kernel
theorem dX7_guild_97 : decode cX7_guild 97 = .ok (.aaload, 1) := by decide +kernel
theorem dX7_guild_98 : decode cX7_guild 98 = .ok (.iconst (-1), 1) := by decide +kernel
theorem dX7_guild_99 : decode cX7_guild 99 = .ok (.putfield 86, 3) := by decide +kernel
theorem dX7_guild_102 : decode cX7_guild 102 = .ok (.iinc 4 1, 3) := by decide +kernel
theorem dX7_guild_105 : decode cX7_guild 105 = .ok (.goto (-24), 3) := by decide +kernel
theorem dX7_guild_108 : decode cX7_guild 108 = .ok (.aload_n 0, 1) := by decide +kernel
theorem dX7_guild_109 : decode cX7_guild 109 = .ok (.getfield 24, 3) := by decide +kernel
theorem dX7_guild_112 : decode cX7_guild 112 = .ok (.getfield 148, 3) := by decide +kernel
theorem dX7_guild_115 : decode cX7_guild 115 = .ok (.ireturn, 1) := by decide +kernel
theorem dX7_sigher_0 : decode cX7_sigher 0 = .ok (.aload_n 0, 1) := by decide +kernel
theorem dX7_sigher_1 : decode cX7_sigher 1 = .ok (.getfield 24, 3) := by decide +kernel
theorem dX7_sigher_4 : decode cX7_sigher 4 = .ok (.iload_n 1, 1) := by decide +kernel
theorem dX7_sigher_5 : decode cX7_sigher 5 = .ok (.invokevirtual 151, 3) := by decide +kernel
theorem dX7_sigher_8 : decode cX7_sigher 8 = .ok (.ifCond .eq 12, 3) := by decide +kernel
theorem dX7_sigher_11 : decode cX7_sigher 11 = .ok (.iload_n 2, 1) := by decide +kernel
theorem dX7_sigher_12 : decode cX7_sigher 12 = .ok (.ifCond .lt 8, 3) := by decide +kernel
theorem dX7_sigher_15 : decode cX7_sigher 15 = .ok (.iload_n 2, 1) := by decide +kernel
theorem dX7_sigher_16 : decode cX7_sigher 16 = .ok (.iconst 5, 1) := by decide +kernel
theorem dX7_sigher_17 : decode cX7_sigher 17 = .ok (.if_icmp .lt 5, 3) := by decide +kernel
theorem dX7_sigher_20 : decode cX7_sigher 20 = .ok (.iconst (-1), 1) := by decide +kernel
theorem dX7_sigher_21 : decode cX7_sigher 21 = .ok (.ireturn, 1) := by decide +kernel
theorem dX7_sigher_22 : decode cX7_sigher 22 = .ok (.aload_n 0, 1) := by decide +kernel
theorem dX7_sigher_23 : decode cX7_sigher 23 = .ok (.aload_n 0, 1) := by decide +kernel
theorem dX7_sigher_24 : decode cX7_sigher 24 = .ok (.iload_n 1, 1) := by decide +kernel
theorem dX7_sigher_25 : decode cX7_sigher 25 = .ok (.iload_n 2, 1) := by decide +kernel
theorem dX7_sigher_26 : decode cX7_sigher 26 = .ok (.invokevirtual 154, 3) := by decide +kernel
theorem dX7_sigher_29 : decode cX7_sigher 29 = .ok (.putfield 66, 3) := by decide +kernel
theorem dX7_sigher_32 : decode cX7_sigher 32 = .ok (.iconst 1, 1) := by decide +kernel
theorem dX7_sigher_33 : decode cX7_sigher 33 = .ok (.ireturn, 1) := by decide +kernel
theorem dX7_order_0 : decode cX7_order 0 = .ok (.aload_n 0, 1) := by decide +kernel
theorem dX7_order_1 : decode cX7_order 1 = .ok (.getfield 24, 3) := by decide +kernel
theorem dX7_order_4 : decode cX7_order 4 = .ok (.iload_n 1, 1) := by decide +kernel
theorem dX7_order_5 : decode cX7_order 5 = .ok (.invokevirtual 158, 3) := by decide +kernel
theorem dX7_order_8 : decode cX7_order 8 = .ok (.ifCond .eq 12, 3) := by decide +kernel
theorem dX7_order_11 : decode cX7_order 11 = .ok (.iload_n 2, 1) := by decide +kernel
theorem dX7_order_12 : decode cX7_order 12 = .ok (.ifCond .lt 8, 3) := by decide +kernel
theorem dX7_order_15 : decode cX7_order 15 = .ok (.iload_n 2, 1) := by decide +kernel
theorem dX7_order_16 : decode cX7_order 16 = .ok (.iconst 5, 1) := by decide +kernel
theorem dX7_order_17 : decode cX7_order 17 = .ok (.if_icmp .lt 5, 3) := by decide +kernel
theorem dX7_order_20 : decode cX7_order 20 = .ok (.iconst (-1), 1) := by decide +kernel
theorem dX7_order_21 : decode cX7_order 21 = .ok (.ireturn, 1) := by decide +kernel
theorem dX7_order_22 : decode cX7_order 22 = .ok (.aload_n 0, 1) := by decide +kernel
theorem dX7_order_23 : decode cX7_order 23 = .ok (.aload_n 0, 1) := by decide +kernel
theorem dX7_order_24 : decode cX7_order 24 = .ok (.iload_n 1, 1) := by decide +kernel
theorem dX7_order_25 : decode cX7_order 25 = .ok (.iload_n 2, 1) := by decide +kernel
theorem dX7_order_26 : decode cX7_order 26 = .ok (.invokevirtual 161, 3) := by decide +kernel
theorem dX7_order_29 : decode cX7_order 29 = .ok (.putfield 66, 3) := by decide +kernel
theorem dX7_order_32 : decode cX7_order 32 = .ok (.iconst 1, 1) := by decide +kernel
theorem dX7_order_33 : decode cX7_order 33 = .ok (.ireturn, 1) := by decide +kernel
theorem dX7_mark_0 : decode cX7_mark 0 = .ok (.aload_n 0, 1) := by decide +kernel
theorem dX7_mark_1 : decode cX7_mark 1 = .ok (.getfield 24, 3) := by decide +kernel
theorem dX7_mark_4 : decode cX7_mark 4 = .ok (.iload_n 1, 1) := by decide +kernel
theorem dX7_mark_5 : decode cX7_mark 5 = .ok (.invokevirtual 151, 3) := by decide +kernel
theorem dX7_mark_8 : decode cX7_mark 8 = .ok (.ifCond .eq 13, 3) := by decide +kernel
theorem dX7_mark_11 : decode cX7_mark 11 = .ok (.iload_n 2, 1) := by decide +kernel
theorem dX7_mark_12 : decode cX7_mark 12 = .ok (.iconst 1, 1) := by decide +kernel
theorem dX7_mark_13 : decode cX7_mark 13 = .ok (.if_icmp .lt 8, 3) := by decide +kernel
theorem dX7_mark_16 : decode cX7_mark 16 = .ok (.iload_n 2, 1) := by decide +kernel
theorem dX7_mark_17 : decode cX7_mark 17 = .ok (.iconst 5, 1) := by decide +kernel
theorem dX7_mark_18 : decode cX7_mark 18 = .ok (.if_icmp .le 5, 3) := by decide +kernel
theorem dX7_mark_21 : decode cX7_mark 21 = .ok (.iconst (-1), 1) := by decide +kernel
theorem dX7_mark_22 : decode cX7_mark 22 = .ok (.ireturn, 1) := by decide +kernel
theorem dX7_mark_23 : decode cX7_mark 23 = .ok (.aload_n 0, 1) := by decide +kernel
theorem dX7_mark_24 : decode cX7_mark 24 = .ok (.getfield 24, 3) := by decide +kernel
theorem dX7_mark_27 : decode cX7_mark 27 = .ok (.getfield 164, 3) := by decide +kernel
theorem dX7_mark_30 : decode cX7_mark 30 = .ok (.iload_n 1, 1) := by decide +kernel
theorem dX7_mark_31 : decode cX7_mark 31 = .ok (.iaload, 1) := by decide +kernel
theorem dX7_mark_32 : decode cX7_mark 32 = .ok (.iload_n 2, 1) := by decide +kernel
theorem dX7_mark_33 : decode cX7_mark 33 = .ok (.invokestatic 167, 3) := by decide +kernel
theorem dX7_mark_36 : decode cX7_mark 36 = .ok (.ifCond .ne 9, 3) := by decide +kernel
theorem dX7_mark_39 : decode cX7_mark 39 = .ok (.aload_n 0, 1) := by decide +kernel
theorem dX7_mark_40 : decode cX7_mark 40 = .ok (.iconst 3, 1) := by decide +kernel
theorem dX7_mark_41 : decode cX7_mark 41 = .ok (.invokevirtual 93, 3) := by decide +kernel
theorem dX7_mark_44 : decode cX7_mark 44 = .ok (.ireturn, 1) := by decide +kernel
theorem dX7_mark_45 : decode cX7_mark 45 = .ok (.iconst 0, 1) := by decide +kernel
theorem dX7_mark_46 : decode cX7_mark 46 = .ok (.istore_n 3, 1) := by decide +kernel
theorem dX7_mark_47 : decode cX7_mark 47 = .ok (.iconst 0, 1) := by decide +kernel
theorem dX7_mark_48 : decode cX7_mark 48 = .ok (.istore 4, 2) := by decide +kernel
theorem dX7_mark_50 : decode cX7_mark 50 = .ok (.iload 4, 2) := by decide +kernel
theorem dX7_mark_52 : decode cX7_mark 52 = .ok (.aload_n 0, 1) := by decide +kernel
theorem dX7_mark_53 : decode cX7_mark 53 = .ok (.getfield 24, 3) := by decide +kernel
theorem dX7_mark_56 : decode cX7_mark 56 = .ok (.getfield 148, 3) := by decide +kernel
theorem dX7_mark_59 : decode cX7_mark 59 = .ok (.if_icmp .ge 20, 3) := by decide +kernel
theorem dX7_mark_62 : decode cX7_mark 62 = .ok (.iload_n 3, 1) := by decide +kernel
theorem dX7_mark_63 : decode cX7_mark 63 = .ok (.aload_n 0, 1) := by decide +kernel
