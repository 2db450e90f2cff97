theorem dX0_init_0 : decode cX0_init 0 = .ok (.aload_n 0, 1) := by decide +kernel
theorem dX0_init_1 : decode cX0_init 1 = .ok (.invokespecial 3, 3) := by decide +kernel
theorem dX0_init_4 : decode cX0_init 4 = .ok (.aload_n 0, 1) := by decide +kernel
theorem dX0_init_5 : decode cX0_init 5 = .ok (.bipush 40, 2) := by decide +kernel
theorem dX0_init_7 : decode cX0_init 7 = .ok (.newarray .int, 2) := by decide +kernel
theorem dX0_init_9 : decode cX0_init 9 = .ok (.putfield 9, 3) := by decide +kernel
theorem dX0_init_12 : decode cX0_init 12 = .ok (.aload_n 0, 1) := by decide +kernel
theorem dX0_init_13 : decode cX0_init 13 = .ok (.bipush 40, 2) := by decide +kernel
theorem dX0_init_15 : decode cX0_init 15 = .ok (.newarray .int, 2) := by decide +kernel
theorem dX0_init_17 : decode cX0_init 17 = .ok (.putfield 15, 3) := by decide +kernel
theorem dX0_init_20 : decode cX0_init 20 = .ok (.return_, 1) := by decide +kernel
theorem dX0_readEven_0 : decode cX0_readEven 0 = .ok (.aload_n 0, 1) := by decide +kernel
theorem dX0_readEven_1 : decode cX0_readEven 1 = .ok (.iconst 1, 1) := by decide +kernel
theorem dX0_readEven_2 : decode cX0_readEven 2 = .ok (.putfield 18, 3) := by decide +kernel
theorem dX0_readEven_5 : decode cX0_readEven 5 = .ok (.aload_n 0, 1) := by decide +kernel
theorem dX0_readEven_6 : decode cX0_readEven 6 = .ok (.getfield 9, 3) := by decide +kernel
theorem dX0_readEven_9 : decode cX0_readEven 9 = .ok (.iconst 0, 1) := by decide +kernel
theorem dX0_readEven_10 : decode cX0_readEven 10 = .ok (.iload_n 2, 1) := by decide +kernel
theorem dX0_readEven_11 : decode cX0_readEven 11 = .ok (.iastore, 1) := by decide +kernel
theorem dX0_readEven_12 : decode cX0_readEven 12 = .ok (.aload_n 0, 1) := by decide +kernel
theorem dX0_readEven_13 : decode cX0_readEven 13 = .ok (.getfield 15, 3) := by decide +kernel
theorem dX0_readEven_16 : decode cX0_readEven 16 = .ok (.iconst 0, 1) := by decide +kernel
theorem dX0_readEven_17 : decode cX0_readEven 17 = .ok (.aload_n 1, 1) := by decide +kernel
theorem dX0_readEven_18 : decode cX0_readEven 18 = .ok (.iconst 0, 1) := by decide +kernel
theorem dX0_readEven_19 : decode cX0_readEven 19 = .ok (.bipush 12, 2) := by decide +kernel
theorem dX0_readEven_21 : decode cX0_readEven 21 = .ok (.invokevirtual 22, 3) := by decide +kernel
theorem dX0_readEven_24 : decode cX0_readEven 24 = .ok (.iastore, 1) := by decide +kernel
theorem dX0_readEven_25 : decode cX0_readEven 25 = .ok (.return_, 1) := by decide +kernel
theorem dX0_readParts_0 : decode cX0_readParts 0 = .ok (.iconst 0, 1) := by decide +kernel
theorem dX0_readParts_1 : decode cX0_readParts 1 = .ok (.istore_n 3, 1) := by decide +kernel
theorem dX0_readParts_2 : decode cX0_readParts 2 = .ok (.iload_n 3, 1) := by decide +kernel
theorem dX0_readParts_3 : decode cX0_readParts 3 = .ok (.aload_n 0, 1) := by decide +kernel
theorem dX0_readParts_4 : decode cX0_readParts 4 = .ok (.getfield 9, 3) := by decide +kernel
theorem dX0_readParts_7 : decode cX0_readParts 7 = .ok (.arraylength, 1) := by decide +kernel
theorem dX0_readParts_8 : decode cX0_readParts 8 = .ok (.if_icmp .ge 16, 3) := by decide +kernel
theorem dX0_readParts_11 : decode cX0_readParts 11 = .ok (.aload_n 0, 1) := by decide +kernel
theorem dX0_readParts_12 : decode cX0_readParts 12 = .ok (.getfield 9, 3) := by decide +kernel
theorem dX0_readParts_15 : decode cX0_readParts 15 = .ok (.iload_n 3, 1) := by decide +kernel
theorem dX0_readParts_16 : decode cX0_readParts 16 = .ok (.iconst 0, 1) := by decide +kernel
theorem dX0_readParts_17 : decode cX0_readParts 17 = .ok (.iastore, 1) := by decide +kernel
theorem dX0_readParts_18 : decode cX0_readParts 18 = .ok (.iinc 3 1, 3) := by decide +kernel
theorem dX0_readParts_21 : decode cX0_readParts 21 = .ok (.goto (-19), 3) := by decide +kernel
theorem dX0_readParts_24 : decode cX0_readParts 24 = .ok (.aload_n 0, 1) := by decide +kernel
theorem dX0_readParts_25 : decode cX0_readParts 25 = .ok (.iconst 0, 1) := by decide +kernel
theorem dX0_readParts_26 : decode cX0_readParts 26 = .ok (.putfield 18, 3) := by decide +kernel
theorem dX0_readParts_29 : decode cX0_readParts 29 = .ok (.iconst 0, 1) := by decide +kernel
theorem dX0_readParts_30 : decode cX0_readParts 30 = .ok (.istore_n 3, 1) := by decide +kernel
theorem dX0_readParts_31 : decode cX0_readParts 31 = .ok (.iload_n 3, 1) := by decide +kernel
theorem dX0_readParts_32 : decode cX0_readParts 32 = .ok (.iload_n 2, 1) := by decide +kernel
theorem dX0_readParts_33 : decode cX0_readParts 33 = .ok (.if_icmp .ge 46, 3) := by decide +kernel
theorem dX0_readParts_36 : decode cX0_readParts 36 = .ok (.aload_n 1, 1) := by decide +kernel
theorem dX0_readParts_37 : decode cX0_readParts 37 = .ok (.iconst 0, 1) := by decide +kernel
theorem dX0_readParts_38 : decode cX0_readParts 38 = .ok (.bipush 11, 2) := by decide +kernel
theorem dX0_readParts_40 : decode cX0_readParts 40 = .ok (.invokevirtual 22, 3) := by decide +kernel
theorem dX0_readParts_43 : decode cX0_readParts 43 = .ok (.istore 4, 2) := by decide +kernel
theorem dX0_readParts_45 : decode cX0_readParts 45 = .ok (.aload_n 0, 1) := by decide +kernel
theorem dX0_readParts_46 : decode cX0_readParts 46 = .ok (.getfield 9, 3) := by decide +kernel
theorem dX0_readParts_49 : decode cX0_readParts 49 = .ok (.iload 4, 2) := by decide +kernel
theorem dX0_readParts_51 : decode cX0_readParts 51 = .ok (.dup2, 1) := by decide +kernel
theorem dX0_readParts_52 : decode cX0_readParts 52 = .ok (.iaload, 1) := by decide +kernel
theorem dX0_readParts_53 : decode cX0_readParts 53 = .ok (.iconst 1, 1) := by decide +kernel
theorem dX0_readParts_54 : decode cX0_readParts 54 = .ok (.iload_n 3, 1) := by decide +kernel
theorem dX0_readParts_55 : decode cX0_readParts 55 = .ok (.ishl, 1) := by decide +kernel
theorem dX0_readParts_56 : decode cX0_readParts 56 = .ok (.ior, 1) := by decide +kernel
theorem dX0_readParts_57 : decode cX0_readParts 57 = .ok (.iastore, 1) := by decide +kernel
theorem dX0_readParts_58 : decode cX0_readParts 58 = .ok (.aload_n 0, 1) := by decide +kernel
theorem dX0_readParts_59 : decode cX0_readParts 59 = .ok (.aload_n 0, 1) := by decide +kernel
theorem dX0_readParts_60 : decode cX0_readParts 60 = .ok (.getfield 18, 3) := by decide +kernel
theorem dX0_readParts_63 : decode cX0_readParts 63 = .ok (.iload 4, 2) := by decide +kernel
theorem dX0_readParts_65 : decode cX0_readParts 65 = .ok (.iconst 1, 1) := by decide +kernel
theorem dX0_readParts_66 : decode cX0_readParts 66 = .ok (.iadd, 1) := by decide +kernel
theorem dX0_readParts_67 : decode cX0_readParts 67 = .ok (.invokestatic 28, 3) := by decide +kernel
theorem dX0_readParts_70 : decode cX0_readParts 70 = .ok (.putfield 18, 3) := by decide +kernel
theorem dX0_readParts_73 : decode cX0_readParts 73 = .ok (.iinc 3 1, 3) := by decide +kernel
theorem dX0_readParts_76 : decode cX0_readParts 76 = .ok (.goto (-45), 3) := by decide +kernel
theorem dX0_readParts_79 : decode cX0_readParts 79 = .ok (.iconst 0, 1) := by decide +kernel
theorem dX0_readParts_80 : decode cX0_readParts 80 = .ok (.istore_n 3, 1) := by decide +kernel
theorem dX0_readParts_81 : decode cX0_readParts 81 = .ok (.iload_n 3, 1) := by decide +kernel
theorem dX0_readParts_82 : decode cX0_readParts 82 = .ok (.aload_n 0, 1) := by decide +kernel
theorem dX0_readParts_83 : decode cX0_readParts 83 = .ok (.getfield 18, 3) := by decide +kernel
theorem dX0_readParts_86 : decode cX0_readParts 86 = .ok (.if_icmp .ge 22, 3) := by decide +kernel
theorem dX0_readParts_89 : decode cX0_readParts 89 = .ok (.aload_n 0, 1) := by decide +kernel
theorem dX0_readParts_90 : decode cX0_readParts 90 = .ok (.getfield 15, 3) := by decide +kernel
theorem dX0_readParts_93 : decode cX0_readParts 93 = .ok (.iload_n 3, 1) := by decide +kernel
theorem dX0_readParts_94 : decode cX0_readParts 94 = .ok (.aload_n 1, 1) := by decide +kernel
theorem dX0_readParts_95 : decode cX0_readParts 95 = .ok (.iconst 0, 1) := by decide +kernel
theorem dX0_readParts_96 : decode cX0_readParts 96 = .ok (.bipush 12, 2) := by decide +kernel
theorem dX0_readParts_98 : decode cX0_readParts 98 = .ok (.invokevirtual 22, 3) := by decide +kernel
theorem dX0_readParts_101 : decode cX0_readParts 101 = .ok (.iastore, 1) := by decide +kernel
theorem dX0_readParts_102 : decode cX0_readParts 102 = .ok (.iinc 3 1, 3) := by decide +kernel
theorem dX0_readParts_105 : decode cX0_readParts 105 = .ok (.goto (-24), 3) := by decide +kernel
theorem dX0_readParts_108 : decode cX0_readParts 108 = .ok (.return_, 1) := by decide +kernel
theorem dX0_readNested_0 : decode cX0_readNested 0 = .ok (.aload_n 0, 1) := by decide +kernel
theorem dX0_readNested_1 : decode cX0_readNested 1 = .ok (.aload_n 1, 1) := by decide +kernel
theorem dX0_readNested_2 : decode cX0_readNested 2 = .ok (.iconst 0, 1) := by decide +kernel
theorem dX0_readNested_3 : decode cX0_readNested 3 = .ok (.bipush 40, 2) := by decide +kernel
theorem dX0_readNested_5 : decode cX0_readNested 5 = .ok (.invokevirtual 22, 3) := by decide +kernel
theorem dX0_readNested_8 : decode cX0_readNested 8 = .ok (.putfield 18, 3) := by decide +kernel
theorem dX0_readNested_11 : decode cX0_readNested 11 = .ok (.iconst 0, 1) := by decide +kernel
theorem dX0_readNested_12 : decode cX0_readNested 12 = .ok (.istore_n 3, 1) := by decide +kernel
theorem dX0_readNested_13 : decode cX0_readNested 13 = .ok (.iload_n 3, 1) := by decide +kernel
theorem dX0_readNested_14 : decode cX0_readNested 14 = .ok (.aload_n 0, 1) := by decide +kernel
theorem dX0_readNested_15 : decode cX0_readNested 15 = .ok (.getfield 18, 3) := by decide +kernel
theorem dX0_readNested_18 : decode cX0_readNested 18 = .ok (.if_icmp .ge 34, 3) := by decide +kernel
theorem dX0_readNested_21 : decode cX0_readNested 21 = .ok (.aload_n 0, 1) := by decide +kernel
theorem dX0_readNested_22 : decode cX0_readNested 22 = .ok (.getfield 9, 3) := by decide +kernel
theorem dX0_readNested_25 : decode cX0_readNested 25 = .ok (.iload_n 3, 1) := by decide +kernel
theorem dX0_readNested_26 : decode cX0_readNested 26 = .ok (.aload_n 1, 1) := by decide +kernel
theorem dX0_readNested_27 : decode cX0_readNested 27 = .ok (.iconst 0, 1) := by decide +kernel
theorem dX0_readNested_28 : decode cX0_readNested 28 = .ok (.iload_n 2, 1) := by decide +kernel
theorem dX0_readNested_29 : decode cX0_readNested 29 = .ok (.invokevirtual 22, 3) := by decide +kernel
theorem dX0_readNested_32 : decode cX0_readNested 32 = .ok (.iastore, 1) := by decide +kernel
theorem dX0_readNested_33 : decode cX0_readNested 33 = .ok (.aload_n 0, 1) := by decide +kernel
theorem dX0_readNested_34 : decode cX0_readNested 34 = .ok (.getfield 15, 3) := by decide +kernel
theorem dX0_readNested_37 : decode cX0_readNested 37 = .ok (.iload_n 3, 1) := by decide +kernel
theorem dX0_readNested_38 : decode cX0_readNested 38 = .ok (.aload_n 1, 1) := by decide +kernel
theorem dX0_readNested_39 : decode cX0_readNested 39 = .ok (.iconst 0, 1) := by decide +kernel
theorem dX0_readNested_40 : decode cX0_readNested 40 = .ok (.bipush 12, 2) := by decide +kernel
theorem dX0_readNested_42 : decode cX0_readNested 42 = .ok (.invokevirtual 22, 3) := by decide +kernel
theorem dX0_readNested_45 : decode cX0_readNested 45 = .ok (.iastore, 1) := by decide +kernel
theorem dX0_readNested_46 : decode cX0_readNested 46 = .ok (.iinc 3 1, 3) := by decide +kernel
theorem dX0_readNested_49 : decode cX0_readNested 49 = .ok (.goto (-36), 3) := by decide +kernel
theorem dX0_readNested_52 : decode cX0_readNested 52 = .ok (.return_, 1) := by decide +kernel
theorem dX0_lieNested_0 : decode cX0_lieNested 0 = .ok (.iconst 0, 1) := by decide +kernel
theorem dX0_lieNested_1 : decode cX0_lieNested 1 = .ok (.istore_n 1, 1) := by decide +kernel
theorem dX0_lieNested_2 : decode cX0_lieNested 2 = .ok (.iload_n 1, 1) := by decide +kernel
theorem dX0_lieNested_3 : decode cX0_lieNested 3 = .ok (.aload_n 0, 1) := by decide +kernel
theorem dX0_lieNested_4 : decode cX0_lieNested 4 = .ok (.getfield 18, 3) := by decide +kernel
theorem dX0_lieNested_7 : decode cX0_lieNested 7 = .ok (.if_icmp .ge 62, 3) := by decide +kernel
theorem dX0_lieNested_10 : decode cX0_lieNested 10 = .ok (.iconst 0, 1) := by decide +kernel
theorem dX0_lieNested_11 : decode cX0_lieNested 11 = .ok (.istore_n 2, 1) := by decide +kernel
theorem dX0_lieNested_12 : decode cX0_lieNested 12 = .ok (.iload_n 2, 1) := by decide +kernel
theorem dX0_lieNested_13 : decode cX0_lieNested 13 = .ok (.iload_n 1, 1) := by decide +kernel
theorem dX0_lieNested_14 : decode cX0_lieNested 14 = .ok (.if_icmp .ge 49, 3) := by decide +kernel
theorem dX0_lieNested_17 : decode cX0_lieNested 17 = .ok (.aload_n 0, 1) := by decide +kernel
theorem dX0_lieNested_18 : decode cX0_lieNested 18 = .ok (.getfield 9, 3) := by decide +kernel
theorem dX0_lieNested_21 : decode cX0_lieNested 21 = .ok (.iload_n 1, 1) := by decide +kernel
theorem dX0_lieNested_22 : decode cX0_lieNested 22 = .ok (.iaload, 1) := by decide +kernel
theorem dX0_lieNested_23 : decode cX0_lieNested 23 = .ok (.aload_n 0, 1) := by decide +kernel
theorem dX0_lieNested_24 : decode cX0_lieNested 24 = .ok (.getfield 9, 3) := by decide +kernel
theorem dX0_lieNested_27 : decode cX0_lieNested 27 = .ok (.iload_n 2, 1) := by decide +kernel
theorem dX0_lieNested_28 : decode cX0_lieNested 28 = .ok (.iaload, 1) := by decide +kernel
theorem dX0_lieNested_29 : decode cX0_lieNested 29 = .ok (.iand, 1) := by decide +kernel
theorem dX0_lieNested_30 : decode cX0_lieNested 30 = .ok (.istore_n 3, 1) := by decide +kernel
theorem dX0_lieNested_31 : decode cX0_lieNested 31 = .ok (.iload_n 3, 1) := by decide +kernel
theorem dX0_lieNested_32 : decode cX0_lieNested 32 = .ok (.ifCond .eq 25, 3) := by decide +kernel
theorem dX0_lieNested_35 : decode cX0_lieNested 35 = .ok (.iload_n 3, 1) := by decide +kernel
theorem dX0_lieNested_36 : decode cX0_lieNested 36 = .ok (.aload_n 0, 1) := by decide +kernel
theorem dX0_lieNested_37 : decode cX0_lieNested 37 = .ok (.getfield 9, 3) := by decide +kernel
theorem dX0_lieNested_40 : decode cX0_lieNested 40 = .ok (.iload_n 1, 1) := by decide +kernel
theorem dX0_lieNested_41 : decode cX0_lieNested 41 = .ok (.iaload, 1) := by decide +kernel
theorem dX0_lieNested_42 : decode cX0_lieNested 42 = .ok (.if_icmp .eq 15, 3) := by decide +kernel
theorem dX0_lieNested_45 : decode cX0_lieNested 45 = .ok (.iload_n 3, 1) := by decide +kernel
theorem dX0_lieNested_46 : decode cX0_lieNested 46 = .ok (.aload_n 0, 1) := by decide +kernel
theorem dX0_lieNested_47 : decode cX0_lieNested 47 = .ok (.getfield 9, 3) := by decide +kernel
theorem dX0_lieNested_50 : decode cX0_lieNested 50 = .ok (.iload_n 2, 1) := by decide +kernel
theorem dX0_lieNested_51 : decode cX0_lieNested 51 = .ok (.iaload, 1) := by decide +kernel
theorem dX0_lieNested_52 : decode cX0_lieNested 52 = .ok (.if_icmp .eq 5, 3) := by decide +kernel
theorem dX0_lieNested_55 : decode cX0_lieNested 55 = .ok (.iconst 0, 1) := by decide +kernel
theorem dX0_lieNested_56 : decode cX0_lieNested 56 = .ok (.ireturn, 1) := by decide +kernel
theorem dX0_lieNested_57 : decode cX0_lieNested 57 = .ok (.iinc 2 1, 3) := by decide +kernel
theorem dX0_lieNested_60 : decode cX0_lieNested 60 = .ok (.goto (-48), 3) := by decide +kernel
theorem dX0_lieNested_63 : decode cX0_lieNested 63 = .ok (.iinc 1 1, 3) := by decide +kernel
theorem dX0_lieNested_66 : decode cX0_lieNested 66 = .ok (.goto (-64), 3) := by decide +kernel
theorem dX0_lieNested_69 : decode cX0_lieNested 69 = .ok (.iconst 1, 1) := by decide +kernel
theorem dX0_lieNested_70 : decode cX0_lieNested 70 = .ok (.ireturn, 1) := by decide +kernel
theorem dX0_fits_0 : decode cX0_fits 0 = .ok (.iconst 0, 1) := by decide +kernel
theorem dX0_fits_1 : decode cX0_fits 1 = .ok (.istore_n 2, 1) := by decide +kernel
theorem dX0_fits_2 : decode cX0_fits 2 = .ok (.iload_n 2, 1) := by decide +kernel
theorem dX0_fits_3 : decode cX0_fits 3 = .ok (.aload_n 0, 1) := by decide +kernel
theorem dX0_fits_4 : decode cX0_fits 4 = .ok (.getfield 18, 3) := by decide +kernel
theorem dX0_fits_7 : decode cX0_fits 7 = .ok (.if_icmp .ge 31, 3) := by decide +kernel
theorem dX0_fits_10 : decode cX0_fits 10 = .ok (.iload_n 1, 1) := by decide +kernel
theorem dX0_fits_11 : decode cX0_fits 11 = .ok (.aload_n 0, 1) := by decide +kernel
theorem dX0_fits_12 : decode cX0_fits 12 = .ok (.getfield 9, 3) := by decide +kernel
theorem dX0_fits_15 : decode cX0_fits 15 = .ok (.iload_n 2, 1) := by decide +kernel
theorem dX0_fits_16 : decode cX0_fits 16 = .ok (.iaload, 1) := by decide +kernel
theorem dX0_fits_17 : decode cX0_fits 17 = .ok (.iand, 1) := by decide +kernel
theorem dX0_fits_18 : decode cX0_fits 18 = .ok (.invokestatic 33, 3) := by decide +kernel
theorem dX0_fits_21 : decode cX0_fits 21 = .ok (.aload_n 0, 1) := by decide +kernel
theorem dX0_fits_22 : decode cX0_fits 22 = .ok (.getfield 15, 3) := by decide +kernel
theorem dX0_fits_25 : decode cX0_fits 25 = .ok (.iload_n 2, 1) := by decide +kernel
theorem dX0_fits_26 : decode cX0_fits 26 = .ok (.iaload, 1) := by decide +kernel
theorem dX0_fits_27 : decode cX0_fits 27 = .ok (.if_icmp .le 5, 3) := by decide +kernel
theorem dX0_fits_30 : decode cX0_fits 30 = .ok (.iconst 0, 1) := by decide +kernel
theorem dX0_fits_31 : decode cX0_fits 31 = .ok (.ireturn, 1) := by decide +kernel
theorem dX0_fits_32 : decode cX0_fits 32 = .ok (.iinc 2 1, 3) := by decide +kernel
theorem dX0_fits_35 : decode cX0_fits 35 = .ok (.goto (-33), 3) := by decide +kernel
theorem dX0_fits_38 : decode cX0_fits 38 = .ok (.iconst 1, 1) := by decide +kernel
theorem dX0_fits_39 : decode cX0_fits 39 = .ok (.ireturn, 1) := by decide +kernel
theorem dX2_init_0 : decode cX2_init 0 = .ok (.aload_n 0, 1) := by decide +kernel
theorem dX2_init_1 : decode cX2_init 1 = .ok (.invokespecial 3, 3) := by decide +kernel
theorem dX2_init_4 : decode cX2_init 4 = .ok (.aload_n 0, 1) := by decide +kernel
theorem dX2_init_5 : decode cX2_init 5 = .ok (.iload_n 1, 1) := by decide +kernel
theorem dX2_init_6 : decode cX2_init 6 = .ok (.putfield 9, 3) := by decide +kernel
theorem dX2_init_9 : decode cX2_init 9 = .ok (.aload_n 0, 1) := by decide +kernel
theorem dX2_init_10 : decode cX2_init 10 = .ok (.aload_n 2, 1) := by decide +kernel
theorem dX2_init_11 : decode cX2_init 11 = .ok (.putfield 15, 3) := by decide +kernel
theorem dX2_init_14 : decode cX2_init 14 = .ok (.aload_n 0, 1) := by decide +kernel
theorem dX2_init_15 : decode cX2_init 15 = .ok (.aload_n 3, 1) := by decide +kernel
theorem dX2_init_16 : decode cX2_init 16 = .ok (.putfield 19, 3) := by decide +kernel
theorem dX2_init_19 : decode cX2_init 19 = .ok (.aload_n 0, 1) := by decide +kernel
theorem dX2_init_20 : decode cX2_init 20 = .ok (.iload 4, 2) := by decide +kernel
theorem dX2_init_22 : decode cX2_init 22 = .ok (.putfield 22, 3) := by decide +kernel
theorem dX2_init_25 : decode cX2_init 25 = .ok (.aload_n 0, 1) := by decide +kernel
theorem dX2_init_26 : decode cX2_init 26 = .ok (.iload 5, 2) := by decide +kernel
theorem dX2_init_28 : decode cX2_init 28 = .ok (.putfield 25, 3) := by decide +kernel
theorem dX2_init_31 : decode cX2_init 31 = .ok (.return_, 1) := by decide +kernel
theorem dX2_fits_0 : decode cX2_fits 0 = .ok (.iload_n 1, 1) := by decide +kernel
theorem dX2_fits_1 : decode cX2_fits 1 = .ok (.invokestatic 28, 3) := by decide +kernel
theorem dX2_fits_4 : decode cX2_fits 4 = .ok (.istore_n 2, 1) := by decide +kernel
theorem dX2_fits_5 : decode cX2_fits 5 = .ok (.aload_n 0, 1) := by decide +kernel
theorem dX2_fits_6 : decode cX2_fits 6 = .ok (.getfield 9, 3) := by decide +kernel
theorem dX2_fits_9 : decode cX2_fits 9 = .ok (.tableswitch 133 7 9 #[27, 54, 98], 27) := by decide +kernel
theorem dX2_fits_36 : decode cX2_fits 36 = .ok (.iload_n 1, 1) := by decide +kernel
theorem dX2_fits_37 : decode cX2_fits 37 = .ok (.aload_n 0, 1) := by decide +kernel
theorem dX2_fits_38 : decode cX2_fits 38 = .ok (.getfield 22, 3) := by decide +kernel
theorem dX2_fits_41 : decode cX2_fits 41 = .ok (.iand, 1) := by decide +kernel
theorem dX2_fits_42 : decode cX2_fits 42 = .ok (.ifCond .ne 19, 3) := by decide +kernel
theorem dX2_fits_45 : decode cX2_fits 45 = .ok (.aload_n 0, 1) := by decide +kernel
theorem dX2_fits_46 : decode cX2_fits 46 = .ok (.getfield 15, 3) := by decide +kernel
theorem dX2_fits_49 : decode cX2_fits 49 = .ok (.iload_n 1, 1) := by decide +kernel
theorem dX2_fits_50 : decode cX2_fits 50 = .ok (.invokevirtual 34, 3) := by decide +kernel
theorem dX2_fits_53 : decode cX2_fits 53 = .ok (.iload_n 2, 1) := by decide +kernel
theorem dX2_fits_54 : decode cX2_fits 54 = .ok (.if_icmp .ne 7, 3) := by decide +kernel
theorem dX2_fits_57 : decode cX2_fits 57 = .ok (.iconst 1, 1) := by decide +kernel
theorem dX2_fits_58 : decode cX2_fits 58 = .ok (.goto 4, 3) := by decide +kernel
theorem dX2_fits_61 : decode cX2_fits 61 = .ok (.iconst 0, 1) := by decide +kernel
theorem dX2_fits_62 : decode cX2_fits 62 = .ok (.ireturn, 1) := by decide +kernel
theorem dX2_fits_63 : decode cX2_fits 63 = .ok (.iload_n 1, 1) := by decide +kernel
theorem dX2_fits_64 : decode cX2_fits 64 = .ok (.aload_n 0, 1) := by decide +kernel
theorem dX2_fits_65 : decode cX2_fits 65 = .ok (.getfield 22, 3) := by decide +kernel
theorem dX2_fits_68 : decode cX2_fits 68 = .ok (.iand, 1) := by decide +kernel
theorem dX2_fits_69 : decode cX2_fits 69 = .ok (.ifCond .ne 36, 3) := by decide +kernel
theorem dX2_fits_72 : decode cX2_fits 72 = .ok (.aload_n 0, 1) := by decide +kernel
theorem dX2_fits_73 : decode cX2_fits 73 = .ok (.getfield 15, 3) := by decide +kernel
theorem dX2_fits_76 : decode cX2_fits 76 = .ok (.iload_n 1, 1) := by decide +kernel
theorem dX2_fits_77 : decode cX2_fits 77 = .ok (.aload_n 0, 1) := by decide +kernel
theorem dX2_fits_78 : decode cX2_fits 78 = .ok (.getfield 22, 3) := by decide +kernel
theorem dX2_fits_81 : decode cX2_fits 81 = .ok (.ior, 1) := by decide +kernel
theorem dX2_fits_82 : decode cX2_fits 82 = .ok (.invokevirtual 34, 3) := by decide +kernel
theorem dX2_fits_85 : decode cX2_fits 85 = .ok (.aload_n 0, 1) := by decide +kernel
theorem dX2_fits_86 : decode cX2_fits 86 = .ok (.getfield 15, 3) := by decide +kernel
theorem dX2_fits_89 : decode cX2_fits 89 = .ok (.aload_n 0, 1) := by decide +kernel
theorem dX2_fits_90 : decode cX2_fits 90 = .ok (.getfield 22, 3) := by decide +kernel
theorem dX2_fits_93 : decode cX2_fits 93 = .ok (.invokevirtual 34, 3) := by decide +kernel
theorem dX2_fits_96 : decode cX2_fits 96 = .ok (.iload_n 2, 1) := by decide +kernel
theorem dX2_fits_97 : decode cX2_fits 97 = .ok (.iadd, 1) := by decide +kernel
theorem dX2_fits_98 : decode cX2_fits 98 = .ok (.if_icmp .ne 7, 3) := by decide +kernel
theorem dX2_fits_101 : decode cX2_fits 101 = .ok (.iconst 1, 1) := by decide +kernel
theorem dX2_fits_102 : decode cX2_fits 102 = .ok (.goto 4, 3) := by decide +kernel
theorem dX2_fits_105 : decode cX2_fits 105 = .ok (.iconst 0, 1) := by decide +kernel
theorem dX2_fits_106 : decode cX2_fits 106 = .ok (.ireturn, 1) := by decide +kernel
theorem dX2_fits_107 : decode cX2_fits 107 = .ok (.aload_n 0, 1) := by decide +kernel
theorem dX2_fits_108 : decode cX2_fits 108 = .ok (.getfield 15, 3) := by decide +kernel
theorem dX2_fits_111 : decode cX2_fits 111 = .ok (.aload_n 0, 1) := by decide +kernel
theorem dX2_fits_112 : decode cX2_fits 112 = .ok (.getfield 25, 3) := by decide +kernel
theorem dX2_fits_115 : decode cX2_fits 115 = .ok (.iload_n 1, 1) := by decide +kernel
theorem dX2_fits_116 : decode cX2_fits 116 = .ok (.iconst (-1), 1) := by decide +kernel
theorem dX2_fits_117 : decode cX2_fits 117 = .ok (.ixor, 1) := by decide +kernel
theorem dX2_fits_118 : decode cX2_fits 118 = .ok (.iand, 1) := by decide +kernel
theorem dX2_fits_119 : decode cX2_fits 119 = .ok (.invokevirtual 34, 3) := by decide +kernel
theorem dX2_fits_122 : decode cX2_fits 122 = .ok (.aload_n 0, 1) := by decide +kernel
theorem dX2_fits_123 : decode cX2_fits 123 = .ok (.getfield 15, 3) := by decide +kernel
theorem dX2_fits_126 : decode cX2_fits 126 = .ok (.aload_n 0, 1) := by decide +kernel
theorem dX2_fits_127 : decode cX2_fits 127 = .ok (.getfield 25, 3) := by decide +kernel
theorem dX2_fits_130 : decode cX2_fits 130 = .ok (.invokevirtual 34, 3) := by decide +kernel
theorem dX2_fits_133 : decode cX2_fits 133 = .ok (.if_icmp .ne 7, 3) := by decide +kernel
theorem dX2_fits_136 : decode cX2_fits 136 = .ok (.iconst 1, 1) := by decide +kernel
theorem dX2_fits_137 : decode cX2_fits 137 = .ok (.goto 4, 3) := by decide +kernel
theorem dX2_fits_140 : decode cX2_fits 140 = .ok (.iconst 0, 1) := by decide +kernel
theorem dX2_fits_141 : decode cX2_fits 141 = .ok (.ireturn, 1) := by decide +kernel
theorem dX2_fits_142 : decode cX2_fits 142 = .ok (.aload_n 0, 1) := by decide +kernel
theorem dX2_fits_143 : decode cX2_fits 143 = .ok (.getfield 15, 3) := by decide +kernel
theorem dX2_fits_146 : decode cX2_fits 146 = .ok (.iload_n 1, 1) := by decide +kernel
theorem dX2_fits_147 : decode cX2_fits 147 = .ok (.invokevirtual 34, 3) := by decide +kernel
theorem dX2_fits_150 : decode cX2_fits 150 = .ok (.aload_n 0, 1) := by decide +kernel
theorem dX2_fits_151 : decode cX2_fits 151 = .ok (.getfield 19, 3) := by decide +kernel
theorem dX2_fits_154 : decode cX2_fits 154 = .ok (.iload_n 1, 1) := by decide +kernel
theorem dX2_fits_155 : decode cX2_fits 155 = .ok (.invokevirtual 34, 3) := by decide +kernel
theorem dX2_fits_158 : decode cX2_fits 158 = .ok (.iadd, 1) := by decide +kernel
theorem dX2_fits_159 : decode cX2_fits 159 = .ok (.iload_n 2, 1) := by decide +kernel
theorem dX2_fits_160 : decode cX2_fits 160 = .ok (.if_icmp .lt 7, 3) := by decide +kernel
theorem dX2_fits_163 : decode cX2_fits 163 = .ok (.iconst 1, 1) := by decide +kernel
theorem dX2_fits_164 : decode cX2_fits 164 = .ok (.goto 4, 3) := by decide +kernel
theorem dX2_fits_167 : decode cX2_fits 167 = .ok (.iconst 0, 1) := by decide +kernel
theorem dX2_fits_168 : decode cX2_fits 168 = .ok (.ireturn, 1) := by decide +kernel
theorem dX3_init_0 : decode cX3_init 0 = .ok (.aload_n 0, 1) := by decide +kernel
theorem dX3_init_1 : decode cX3_init 1 = .ok (.invokespecial 3, 3) := by decide +kernel
theorem dX3_init_4 : decode cX3_init 4 = .ok (.aload_n 0, 1) := by decide +kernel
theorem dX3_init_5 : decode cX3_init 5 = .ok (.bipush 12, 2) := by decide +kernel
theorem dX3_init_7 : decode cX3_init 7 = .ok (.newarray .int, 2) := by decide +kernel
theorem dX3_init_9 : decode cX3_init 9 = .ok (.putfield 9, 3) := by decide +kernel
theorem dX3_init_12 : decode cX3_init 12 = .ok (.return_, 1) := by decide +kernel
theorem dX3_readEdges_0 : decode cX3_readEdges 0 = .ok (.aload_n 0, 1) := by decide +kernel
theorem dX3_readEdges_1 : decode cX3_readEdges 1 = .ok (.iconst 1, 1) := by decide +kernel
theorem dX3_readEdges_2 : decode cX3_readEdges 2 = .ok (.putfield 15, 3) := by decide +kernel
theorem dX3_readEdges_5 : decode cX3_readEdges 5 = .ok (.iconst 0, 1) := by decide +kernel
theorem dX3_readEdges_6 : decode cX3_readEdges 6 = .ok (.istore_n 3, 1) := by decide +kernel
theorem dX3_readEdges_7 : decode cX3_readEdges 7 = .ok (.iload_n 3, 1) := by decide +kernel
theorem dX3_readEdges_8 : decode cX3_readEdges 8 = .ok (.iload_n 2, 1) := by decide +kernel
theorem dX3_readEdges_9 : decode cX3_readEdges 9 = .ok (.if_icmp .ge 51, 3) := by decide +kernel
theorem dX3_readEdges_12 : decode cX3_readEdges 12 = .ok (.iload_n 3, 1) := by decide +kernel
theorem dX3_readEdges_13 : decode cX3_readEdges 13 = .ok (.aload_n 0, 1) := by decide +kernel
theorem dX3_readEdges_14 : decode cX3_readEdges 14 = .ok (.getfield 9, 3) := by decide +kernel
theorem dX3_readEdges_17 : decode cX3_readEdges 17 = .ok (.arraylength, 1) := by decide +kernel
theorem dX3_readEdges_18 : decode cX3_readEdges 18 = .ok (.if_icmp .ge 42, 3) := by decide +kernel
theorem dX3_readEdges_21 : decode cX3_readEdges 21 = .ok (.aload_n 1, 1) := by decide +kernel
theorem dX3_readEdges_22 : decode cX3_readEdges 22 = .ok (.iconst 0, 1) := by decide +kernel
theorem dX3_readEdges_23 : decode cX3_readEdges 23 = .ok (.bipush 15, 2) := by decide +kernel
theorem dX3_readEdges_25 : decode cX3_readEdges 25 = .ok (.invokevirtual 19, 3) := by decide +kernel
theorem dX3_readEdges_28 : decode cX3_readEdges 28 = .ok (.istore 4, 2) := by decide +kernel
theorem dX3_readEdges_30 : decode cX3_readEdges 30 = .ok (.aload_n 1, 1) := by decide +kernel
theorem dX3_readEdges_31 : decode cX3_readEdges 31 = .ok (.iconst 0, 1) := by decide +kernel
theorem dX3_readEdges_32 : decode cX3_readEdges 32 = .ok (.bipush 15, 2) := by decide +kernel
theorem dX3_readEdges_34 : decode cX3_readEdges 34 = .ok (.invokevirtual 19, 3) := by decide +kernel
theorem dX3_readEdges_37 : decode cX3_readEdges 37 = .ok (.istore 5, 2) := by decide +kernel
theorem dX3_readEdges_39 : decode cX3_readEdges 39 = .ok (.aload_n 0, 1) := by decide +kernel
theorem dX3_readEdges_40 : decode cX3_readEdges 40 = .ok (.getfield 9, 3) := by decide +kernel
theorem dX3_readEdges_43 : decode cX3_readEdges 43 = .ok (.iload_n 3, 1) := by decide +kernel
theorem dX3_readEdges_44 : decode cX3_readEdges 44 = .ok (.iconst 1, 1) := by decide +kernel
theorem dX3_readEdges_45 : decode cX3_readEdges 45 = .ok (.iload 4, 2) := by decide +kernel
theorem dX3_readEdges_47 : decode cX3_readEdges 47 = .ok (.ishl, 1) := by decide +kernel
theorem dX3_readEdges_48 : decode cX3_readEdges 48 = .ok (.iconst 1, 1) := by decide +kernel
theorem dX3_readEdges_49 : decode cX3_readEdges 49 = .ok (.iload 5, 2) := by decide +kernel
theorem dX3_readEdges_51 : decode cX3_readEdges 51 = .ok (.ishl, 1) := by decide +kernel
theorem dX3_readEdges_52 : decode cX3_readEdges 52 = .ok (.ior, 1) := by decide +kernel
theorem dX3_readEdges_53 : decode cX3_readEdges 53 = .ok (.iastore, 1) := by decide +kernel
theorem dX3_readEdges_54 : decode cX3_readEdges 54 = .ok (.iinc 3 1, 3) := by decide +kernel
theorem dX3_readEdges_57 : decode cX3_readEdges 57 = .ok (.goto (-50), 3) := by decide +kernel
theorem dX3_readEdges_60 : decode cX3_readEdges 60 = .ok (.return_, 1) := by decide +kernel
theorem dX3_readPlaces_0 : decode cX3_readPlaces 0 = .ok (.aload_n 0, 1) := by decide +kernel
theorem dX3_readPlaces_1 : decode cX3_readPlaces 1 = .ok (.iconst 0, 1) := by decide +kernel
theorem dX3_readPlaces_2 : decode cX3_readPlaces 2 = .ok (.putfield 15, 3) := by decide +kernel
theorem dX3_readPlaces_5 : decode cX3_readPlaces 5 = .ok (.iconst 0, 1) := by decide +kernel
theorem dX3_readPlaces_6 : decode cX3_readPlaces 6 = .ok (.istore_n 3, 1) := by decide +kernel
theorem dX3_readPlaces_7 : decode cX3_readPlaces 7 = .ok (.iload_n 3, 1) := by decide +kernel
theorem dX3_readPlaces_8 : decode cX3_readPlaces 8 = .ok (.iload_n 2, 1) := by decide +kernel
theorem dX3_readPlaces_9 : decode cX3_readPlaces 9 = .ok (.if_icmp .ge 32, 3) := by decide +kernel
theorem dX3_readPlaces_12 : decode cX3_readPlaces 12 = .ok (.iload_n 3, 1) := by decide +kernel
theorem dX3_readPlaces_13 : decode cX3_readPlaces 13 = .ok (.aload_n 0, 1) := by decide +kernel
theorem dX3_readPlaces_14 : decode cX3_readPlaces 14 = .ok (.getfield 9, 3) := by decide +kernel
theorem dX3_readPlaces_17 : decode cX3_readPlaces 17 = .ok (.arraylength, 1) := by decide +kernel
theorem dX3_readPlaces_18 : decode cX3_readPlaces 18 = .ok (.if_icmp .ge 23, 3) := by decide +kernel
theorem dX3_readPlaces_21 : decode cX3_readPlaces 21 = .ok (.aload_n 0, 1) := by decide +kernel
theorem dX3_readPlaces_22 : decode cX3_readPlaces 22 = .ok (.getfield 9, 3) := by decide +kernel
theorem dX3_readPlaces_25 : decode cX3_readPlaces 25 = .ok (.iload_n 3, 1) := by decide +kernel
theorem dX3_readPlaces_26 : decode cX3_readPlaces 26 = .ok (.aload_n 1, 1) := by decide +kernel
theorem dX3_readPlaces_27 : decode cX3_readPlaces 27 = .ok (.iconst 0, 1) := by decide +kernel
theorem dX3_readPlaces_28 : decode cX3_readPlaces 28 = .ok (.sipush 4095, 3) := by decide +kernel
theorem dX3_readPlaces_31 : decode cX3_readPlaces 31 = .ok (.invokevirtual 19, 3) := by decide +kernel
theorem dX3_readPlaces_34 : decode cX3_readPlaces 34 = .ok (.iastore, 1) := by decide +kernel
theorem dX3_readPlaces_35 : decode cX3_readPlaces 35 = .ok (.iinc 3 1, 3) := by decide +kernel
theorem dX3_readPlaces_38 : decode cX3_readPlaces 38 = .ok (.goto (-31), 3) := by decide +kernel
theorem dX3_readPlaces_41 : decode cX3_readPlaces 41 = .ok (.return_, 1) := by decide +kernel
theorem dX3_fits_0 : decode cX3_fits 0 = .ok (.iconst 0, 1) := by decide +kernel
theorem dX3_fits_1 : decode cX3_fits 1 = .ok (.istore_n 2, 1) := by decide +kernel
theorem dX3_fits_2 : decode cX3_fits 2 = .ok (.iconst 0, 1) := by decide +kernel
theorem dX3_fits_3 : decode cX3_fits 3 = .ok (.istore_n 3, 1) := by decide +kernel
theorem dX3_fits_4 : decode cX3_fits 4 = .ok (.iload_n 3, 1) := by decide +kernel
theorem dX3_fits_5 : decode cX3_fits 5 = .ok (.aload_n 0, 1) := by decide +kernel
theorem dX3_fits_6 : decode cX3_fits 6 = .ok (.getfield 9, 3) := by decide +kernel
theorem dX3_fits_9 : decode cX3_fits 9 = .ok (.arraylength, 1) := by decide +kernel
theorem dX3_fits_10 : decode cX3_fits 10 = .ok (.if_icmp .ge 26, 3) := by decide +kernel
theorem dX3_fits_13 : decode cX3_fits 13 = .ok (.iload_n 1, 1) := by decide +kernel
theorem dX3_fits_14 : decode cX3_fits 14 = .ok (.iload_n 3, 1) := by decide +kernel
theorem dX3_fits_15 : decode cX3_fits 15 = .ok (.ishr, 1) := by decide +kernel
theorem dX3_fits_16 : decode cX3_fits 16 = .ok (.iconst 1, 1) := by decide +kernel
theorem dX3_fits_17 : decode cX3_fits 17 = .ok (.iand, 1) := by decide +kernel
theorem dX3_fits_18 : decode cX3_fits 18 = .ok (.ifCond .eq 12, 3) := by decide +kernel
theorem dX3_fits_21 : decode cX3_fits 21 = .ok (.iload_n 2, 1) := by decide +kernel
theorem dX3_fits_22 : decode cX3_fits 22 = .ok (.aload_n 0, 1) := by decide +kernel
theorem dX3_fits_23 : decode cX3_fits 23 = .ok (.getfield 9, 3) := by decide +kernel
theorem dX3_fits_26 : decode cX3_fits 26 = .ok (.iload_n 3, 1) := by decide +kernel
theorem dX3_fits_27 : decode cX3_fits 27 = .ok (.iaload, 1) := by decide +kernel
theorem dX3_fits_28 : decode cX3_fits 28 = .ok (.ior, 1) := by decide +kernel
theorem dX3_fits_29 : decode cX3_fits 29 = .ok (.istore_n 2, 1) := by decide +kernel
theorem dX3_fits_30 : decode cX3_fits 30 = .ok (.iinc 3 1, 3) := by decide +kernel
theorem dX3_fits_33 : decode cX3_fits 33 = .ok (.goto (-29), 3) := by decide +kernel
theorem dX3_fits_36 : decode cX3_fits 36 = .ok (.iload_n 2, 1) := by decide +kernel
theorem dX3_fits_37 : decode cX3_fits 37 = .ok (.invokestatic 25, 3) := by decide +kernel
theorem dX3_fits_40 : decode cX3_fits 40 = .ok (.iload_n 1, 1) := by decide +kernel
theorem dX3_fits_41 : decode cX3_fits 41 = .ok (.invokestatic 25, 3) := by decide +kernel
theorem dX3_fits_44 : decode cX3_fits 44 = .ok (.aload_n 0, 1) := by decide +kernel
theorem dX3_fits_45 : decode cX3_fits 45 = .ok (.getfield 15, 3) := by decide +kernel
theorem dX3_fits_48 : decode cX3_fits 48 = .ok (.iadd, 1) := by decide +kernel
theorem dX3_fits_49 : decode cX3_fits 49 = .ok (.if_icmp .lt 7, 3) := by decide +kernel
theorem dX3_fits_52 : decode cX3_fits 52 = .ok (.iconst 1, 1) := by decide +kernel
theorem dX3_fits_53 : decode cX3_fits 53 = .ok (.goto 4, 3) := by decide +kernel
theorem dX3_fits_56 : decode cX3_fits 56 = .ok (.iconst 0, 1) := by decide +kernel
theorem dX3_fits_57 : decode cX3_fits 57 = .ok (.ireturn, 1) := by decide +kernel
theorem dX4_init_0 : decode cX4_init 0 = .ok (.aload_n 0, 1) := by decide +kernel
theorem dX4_init_1 : decode cX4_init 1 = .ok (.invokespecial 3, 3) := by decide +kernel
theorem dX4_init_4 : decode cX4_init 4 = .ok (.return_, 1) := by decide +kernel
theorem dX4_start_0 : decode cX4_start 0 = .ok (.aload_n 0, 1) := by decide +kernel
theorem dX4_start_1 : decode cX4_start 1 = .ok (.aload_n 1, 1) := by decide +kernel
theorem dX4_start_2 : decode cX4_start 2 = .ok (.putfield 9, 3) := by decide +kernel
theorem dX4_start_5 : decode cX4_start 5 = .ok (.aload_n 0, 1) := by decide +kernel
theorem dX4_start_6 : decode cX4_start 6 = .ok (.iconst 0, 1) := by decide +kernel
theorem dX4_start_7 : decode cX4_start 7 = .ok (.putfield 15, 3) := by decide +kernel
theorem dX4_start_10 : decode cX4_start 10 = .ok (.aload_n 0, 1) := by decide +kernel
theorem dX4_start_11 : decode cX4_start 11 = .ok (.iconst 0, 1) := by decide +kernel
theorem dX4_start_12 : decode cX4_start 12 = .ok (.putfield 19, 3) := by decide +kernel
theorem dX4_start_15 : decode cX4_start 15 = .ok (.return_, 1) := by decide +kernel
theorem dX4_next_0 : decode cX4_next 0 = .ok (.aload_n 0, 1) := by decide +kernel
theorem dX4_next_1 : decode cX4_next 1 = .ok (.getfield 19, 3) := by decide +kernel
theorem dX4_next_4 : decode cX4_next 4 = .ok (.ifCond .eq 5, 3) := by decide +kernel
theorem dX4_next_7 : decode cX4_next 7 = .ok (.iload_n 1, 1) := by decide +kernel
theorem dX4_next_8 : decode cX4_next 8 = .ok (.ireturn, 1) := by decide +kernel
theorem dX4_next_9 : decode cX4_next 9 = .ok (.aload_n 0, 1) := by decide +kernel
theorem dX4_next_10 : decode cX4_next 10 = .ok (.getfield 9, 3) := by decide +kernel
theorem dX4_next_13 : decode cX4_next 13 = .ok (.ifnull 18, 3) := by decide +kernel
theorem dX4_next_16 : decode cX4_next 16 = .ok (.aload_n 0, 1) := by decide +kernel
theorem dX4_next_17 : decode cX4_next 17 = .ok (.getfield 9, 3) := by decide +kernel
theorem dX4_next_20 : decode cX4_next 20 = .ok (.aload_n 0, 1) := by decide +kernel
theorem dX4_next_21 : decode cX4_next 21 = .ok (.getfield 15, 3) := by decide +kernel
theorem dX4_next_24 : decode cX4_next 24 = .ok (.iconst 1, 1) := by decide +kernel
theorem dX4_next_25 : decode cX4_next 25 = .ok (.invokevirtual 22, 3) := by decide +kernel
theorem dX4_next_28 : decode cX4_next 28 = .ok (.ifCond .ne 11, 3) := by decide +kernel
theorem dX4_next_31 : decode cX4_next 31 = .ok (.aload_n 0, 1) := by decide +kernel
theorem dX4_next_32 : decode cX4_next 32 = .ok (.bipush (-6), 2) := by decide +kernel
theorem dX4_next_34 : decode cX4_next 34 = .ok (.putfield 19, 3) := by decide +kernel
theorem dX4_next_37 : decode cX4_next 37 = .ok (.iload_n 1, 1) := by decide +kernel
theorem dX4_next_38 : decode cX4_next 38 = .ok (.ireturn, 1) := by decide +kernel
theorem dX4_next_39 : decode cX4_next 39 = .ok (.aload_n 0, 1) := by decide +kernel
theorem dX4_next_40 : decode cX4_next 40 = .ok (.getfield 9, 3) := by decide +kernel
theorem dX4_next_43 : decode cX4_next 43 = .ok (.aload_n 0, 1) := by decide +kernel
theorem dX4_next_44 : decode cX4_next 44 = .ok (.getfield 15, 3) := by decide +kernel
theorem dX4_next_47 : decode cX4_next 47 = .ok (.invokevirtual 28, 3) := by decide +kernel
theorem dX4_next_50 : decode cX4_next 50 = .ok (.lstore_n 3, 1) := by decide +kernel
theorem dX4_next_51 : decode cX4_next 51 = .ok (.aload_n 0, 1) := by decide +kernel
theorem dX4_next_52 : decode cX4_next 52 = .ok (.dup, 1) := by decide +kernel
theorem dX4_next_53 : decode cX4_next 53 = .ok (.getfield 15, 3) := by decide +kernel
theorem dX4_next_56 : decode cX4_next 56 = .ok (.iconst 1, 1) := by decide +kernel
theorem dX4_next_57 : decode cX4_next 57 = .ok (.iadd, 1) := by decide +kernel
theorem dX4_next_58 : decode cX4_next 58 = .ok (.putfield 15, 3) := by decide +kernel
theorem dX4_next_61 : decode cX4_next 61 = .ok (.lload_n 3, 1) := by decide +kernel
theorem dX4_next_62 : decode cX4_next 62 = .ok (.iload_n 1, 1) := by decide +kernel
theorem dX4_next_63 : decode cX4_next 63 = .ok (.i2l, 1) := by decide +kernel
theorem dX4_next_64 : decode cX4_next 64 = .ok (.lcmp, 1) := by decide +kernel
theorem dX4_next_65 : decode cX4_next 65 = .ok (.ifCond .lt 10, 3) := by decide +kernel
theorem dX4_next_68 : decode cX4_next 68 = .ok (.lload_n 3, 1) := by decide +kernel
theorem dX4_next_69 : decode cX4_next 69 = .ok (.iload_n 2, 1) := by decide +kernel
theorem dX4_next_70 : decode cX4_next 70 = .ok (.i2l, 1) := by decide +kernel
theorem dX4_next_71 : decode cX4_next 71 = .ok (.lcmp, 1) := by decide +kernel
theorem dX4_next_72 : decode cX4_next 72 = .ok (.ifCond .le 11, 3) := by decide +kernel
theorem dX4_next_75 : decode cX4_next 75 = .ok (.aload_n 0, 1) := by decide +kernel
theorem dX4_next_76 : decode cX4_next 76 = .ok (.bipush (-4), 2) := by decide +kernel
theorem dX4_next_78 : decode cX4_next 78 = .ok (.putfield 19, 3) := by decide +kernel
theorem dX4_next_81 : decode cX4_next 81 = .ok (.iload_n 1, 1) := by decide +kernel
theorem dX4_next_82 : decode cX4_next 82 = .ok (.ireturn, 1) := by decide +kernel
theorem dX4_next_83 : decode cX4_next 83 = .ok (.lload_n 3, 1) := by decide +kernel
theorem dX4_next_84 : decode cX4_next 84 = .ok (.l2i, 1) := by decide +kernel
theorem dX4_next_85 : decode cX4_next 85 = .ok (.ireturn, 1) := by decide +kernel
theorem dX4_refuseLast_0 : decode cX4_refuseLast 0 = .ok (.aload_n 0, 1) := by decide +kernel
theorem dX4_refuseLast_1 : decode cX4_refuseLast 1 = .ok (.getfield 19, 3) := by decide +kernel
theorem dX4_refuseLast_4 : decode cX4_refuseLast 4 = .ok (.ifCond .ne 9, 3) := by decide +kernel
theorem dX4_refuseLast_7 : decode cX4_refuseLast 7 = .ok (.aload_n 0, 1) := by decide +kernel
theorem dX4_refuseLast_8 : decode cX4_refuseLast 8 = .ok (.bipush (-4), 2) := by decide +kernel
theorem dX4_refuseLast_10 : decode cX4_refuseLast 10 = .ok (.putfield 19, 3) := by decide +kernel
theorem dX4_refuseLast_13 : decode cX4_refuseLast 13 = .ok (.return_, 1) := by decide +kernel
theorem dX5_init_0 : decode cX5_init 0 = .ok (.aload_n 0, 1) := by decide +kernel
theorem dX5_init_1 : decode cX5_init 1 = .ok (.invokespecial 3, 3) := by decide +kernel
theorem dX5_init_4 : decode cX5_init 4 = .ok (.aload_n 0, 1) := by decide +kernel
theorem dX5_init_5 : decode cX5_init 5 = .ok (.iconst 1, 1) := by decide +kernel
theorem dX5_init_6 : decode cX5_init 6 = .ok (.newarray .byte, 2) := by decide +kernel
theorem dX5_init_8 : decode cX5_init 8 = .ok (.putfield 9, 3) := by decide +kernel
theorem dX5_init_11 : decode cX5_init 11 = .ok (.return_, 1) := by decide +kernel
theorem dX5_fill_0 : decode cX5_fill 0 = .ok (.iload_n 1, 1) := by decide +kernel
theorem dX5_fill_1 : decode cX5_fill 1 = .ok (.aload_n 0, 1) := by decide +kernel
theorem dX5_fill_2 : decode cX5_fill 2 = .ok (.getfield 9, 3) := by decide +kernel
theorem dX5_fill_5 : decode cX5_fill 5 = .ok (.arraylength, 1) := by decide +kernel
theorem dX5_fill_6 : decode cX5_fill 6 = .ok (.if_icmp .lt 12, 3) := by decide +kernel
theorem dX5_fill_9 : decode cX5_fill 9 = .ok (.aload_n 0, 1) := by decide +kernel
theorem dX5_fill_10 : decode cX5_fill 10 = .ok (.iload_n 1, 1) := by decide +kernel
theorem dX5_fill_11 : decode cX5_fill 11 = .ok (.iconst 1, 1) := by decide +kernel
theorem dX5_fill_12 : decode cX5_fill 12 = .ok (.iadd, 1) := by decide +kernel
theorem dX5_fill_13 : decode cX5_fill 13 = .ok (.newarray .byte, 2) := by decide +kernel
theorem dX5_fill_15 : decode cX5_fill 15 = .ok (.putfield 9, 3) := by decide +kernel
theorem dX5_fill_18 : decode cX5_fill 18 = .ok (.aload_n 0, 1) := by decide +kernel
theorem dX5_fill_19 : decode cX5_fill 19 = .ok (.getfield 9, 3) := by decide +kernel
theorem dX5_fill_22 : decode cX5_fill 22 = .ok (.iconst 0, 1) := by decide +kernel
theorem dX5_fill_23 : decode cX5_fill 23 = .ok (.iconst 0, 1) := by decide +kernel
theorem dX5_fill_24 : decode cX5_fill 24 = .ok (.bastore, 1) := by decide +kernel
theorem dX5_fill_25 : decode cX5_fill 25 = .ok (.iconst 1, 1) := by decide +kernel
theorem dX5_fill_26 : decode cX5_fill 26 = .ok (.istore_n 3, 1) := by decide +kernel
theorem dX5_fill_27 : decode cX5_fill 27 = .ok (.iload_n 3, 1) := by decide +kernel
theorem dX5_fill_28 : decode cX5_fill 28 = .ok (.iload_n 1, 1) := by decide +kernel
theorem dX5_fill_29 : decode cX5_fill 29 = .ok (.if_icmp .gt 31, 3) := by decide +kernel
theorem dX5_fill_32 : decode cX5_fill 32 = .ok (.iload_n 3, 1) := by decide +kernel
theorem dX5_fill_33 : decode cX5_fill 33 = .ok (.aload_n 0, 1) := by decide +kernel
theorem dX5_fill_34 : decode cX5_fill 34 = .ok (.getfield 9, 3) := by decide +kernel
theorem dX5_fill_37 : decode cX5_fill 37 = .ok (.arraylength, 1) := by decide +kernel
theorem dX5_fill_38 : decode cX5_fill 38 = .ok (.if_icmp .ge 22, 3) := by decide +kernel
theorem dX5_fill_41 : decode cX5_fill 41 = .ok (.aload_n 0, 1) := by decide +kernel
theorem dX5_fill_42 : decode cX5_fill 42 = .ok (.getfield 9, 3) := by decide +kernel
theorem dX5_fill_45 : decode cX5_fill 45 = .ok (.iload_n 3, 1) := by decide +kernel
theorem dX5_fill_46 : decode cX5_fill 46 = .ok (.aload_n 0, 1) := by decide +kernel
theorem dX5_fill_47 : decode cX5_fill 47 = .ok (.iload_n 3, 1) := by decide +kernel
theorem dX5_fill_48 : decode cX5_fill 48 = .ok (.aload_n 2, 1) := by decide +kernel
theorem dX5_fill_49 : decode cX5_fill 49 = .ok (.invokevirtual 15, 3) := by decide +kernel
theorem dX5_fill_52 : decode cX5_fill 52 = .ok (.i2b, 1) := by decide +kernel
theorem dX5_fill_53 : decode cX5_fill 53 = .ok (.bastore, 1) := by decide +kernel
theorem dX5_fill_54 : decode cX5_fill 54 = .ok (.iinc 3 1, 3) := by decide +kernel
theorem dX5_fill_57 : decode cX5_fill 57 = .ok (.goto (-30), 3) := by decide +kernel
theorem dX5_fill_60 : decode cX5_fill 60 = .ok (.return_, 1) := by decide +kernel
theorem dX5_rankByParts_0 : decode cX5_rankByParts 0 = .ok (.iload_n 1, 1) := by decide +kernel
theorem dX5_rankByParts_1 : decode cX5_rankByParts 1 = .ok (.invokestatic 19, 3) := by decide +kernel
theorem dX5_rankByParts_4 : decode cX5_rankByParts 4 = .ok (.istore_n 3, 1) := by decide +kernel
theorem dX5_rankByParts_5 : decode cX5_rankByParts 5 = .ok (.iconst 0, 1) := by decide +kernel
theorem dX5_rankByParts_6 : decode cX5_rankByParts 6 = .ok (.istore 4, 2) := by decide +kernel
theorem dX5_rankByParts_8 : decode cX5_rankByParts 8 = .ok (.iload_n 3, 1) := by decide +kernel
theorem dX5_rankByParts_9 : decode cX5_rankByParts 9 = .ok (.istore 5, 2) := by decide +kernel
theorem dX5_rankByParts_11 : decode cX5_rankByParts 11 = .ok (.iconst 0, 1) := by decide +kernel
theorem dX5_rankByParts_12 : decode cX5_rankByParts 12 = .ok (.istore 6, 2) := by decide +kernel
theorem dX5_rankByParts_14 : decode cX5_rankByParts 14 = .ok (.iload 6, 2) := by decide +kernel
theorem dX5_rankByParts_16 : decode cX5_rankByParts 16 = .ok (.bipush 12, 2) := by decide +kernel
theorem dX5_rankByParts_18 : decode cX5_rankByParts 18 = .ok (.if_icmp .ge 50, 3) := by decide +kernel
theorem dX5_rankByParts_21 : decode cX5_rankByParts 21 = .ok (.iload_n 1, 1) := by decide +kernel
theorem dX5_rankByParts_22 : decode cX5_rankByParts 22 = .ok (.iload 6, 2) := by decide +kernel
theorem dX5_rankByParts_24 : decode cX5_rankByParts 24 = .ok (.ishr, 1) := by decide +kernel
theorem dX5_rankByParts_25 : decode cX5_rankByParts 25 = .ok (.iconst 1, 1) := by decide +kernel
theorem dX5_rankByParts_26 : decode cX5_rankByParts 26 = .ok (.iand, 1) := by decide +kernel
theorem dX5_rankByParts_27 : decode cX5_rankByParts 27 = .ok (.ifCond .eq 35, 3) := by decide +kernel
theorem dX5_rankByParts_30 : decode cX5_rankByParts 30 = .ok (.aload_n 0, 1) := by decide +kernel
theorem dX5_rankByParts_31 : decode cX5_rankByParts 31 = .ok (.iload_n 1, 1) := by decide +kernel
theorem dX5_rankByParts_32 : decode cX5_rankByParts 32 = .ok (.iconst 1, 1) := by decide +kernel
theorem dX5_rankByParts_33 : decode cX5_rankByParts 33 = .ok (.iload 6, 2) := by decide +kernel
theorem dX5_rankByParts_35 : decode cX5_rankByParts 35 = .ok (.ishl, 1) := by decide +kernel
theorem dX5_rankByParts_36 : decode cX5_rankByParts 36 = .ok (.iconst (-1), 1) := by decide +kernel
theorem dX5_rankByParts_37 : decode cX5_rankByParts 37 = .ok (.ixor, 1) := by decide +kernel
theorem dX5_rankByParts_38 : decode cX5_rankByParts 38 = .ok (.iand, 1) := by decide +kernel
theorem dX5_rankByParts_39 : decode cX5_rankByParts 39 = .ok (.invokevirtual 25, 3) := by decide +kernel
theorem dX5_rankByParts_42 : decode cX5_rankByParts 42 = .ok (.istore 7, 2) := by decide +kernel
theorem dX5_rankByParts_44 : decode cX5_rankByParts 44 = .ok (.iload 4, 2) := by decide +kernel
theorem dX5_rankByParts_46 : decode cX5_rankByParts 46 = .ok (.iload 7, 2) := by decide +kernel
theorem dX5_rankByParts_48 : decode cX5_rankByParts 48 = .ok (.invokestatic 28, 3) := by decide +kernel
theorem dX5_rankByParts_51 : decode cX5_rankByParts 51 = .ok (.istore 4, 2) := by decide +kernel
theorem dX5_rankByParts_53 : decode cX5_rankByParts 53 = .ok (.iload 5, 2) := by decide +kernel
theorem dX5_rankByParts_55 : decode cX5_rankByParts 55 = .ok (.iload 7, 2) := by decide +kernel
theorem dX5_rankByParts_57 : decode cX5_rankByParts 57 = .ok (.invokestatic 34, 3) := by decide +kernel
theorem dX5_rankByParts_60 : decode cX5_rankByParts 60 = .ok (.istore 5, 2) := by decide +kernel
theorem dX5_rankByParts_62 : decode cX5_rankByParts 62 = .ok (.iinc 6 1, 3) := by decide +kernel
theorem dX5_rankByParts_65 : decode cX5_rankByParts 65 = .ok (.goto (-51), 3) := by decide +kernel
theorem dX5_rankByParts_68 : decode cX5_rankByParts 68 = .ok (.iload 5, 2) := by decide +kernel
theorem dX5_rankByParts_70 : decode cX5_rankByParts 70 = .ok (.iload_n 3, 1) := by decide +kernel
theorem dX5_rankByParts_71 : decode cX5_rankByParts 71 = .ok (.iconst 1, 1) := by decide +kernel
theorem dX5_rankByParts_72 : decode cX5_rankByParts 72 = .ok (.isub, 1) := by decide +kernel
theorem dX5_rankByParts_73 : decode cX5_rankByParts 73 = .ok (.if_icmp .ne 17, 3) := by decide +kernel
theorem dX5_rankByParts_76 : decode cX5_rankByParts 76 = .ok (.aload_n 2, 1) := by decide +kernel
theorem dX5_rankByParts_77 : decode cX5_rankByParts 77 = .ok (.iload_n 1, 1) := by decide +kernel
theorem dX5_rankByParts_78 : decode cX5_rankByParts 78 = .ok (.invokeinterface 37 2, 5) := by decide +kernel
theorem dX5_rankByParts_83 : decode cX5_rankByParts 83 = .ok (.ifCond .eq 7, 3) := by decide +kernel
theorem dX5_rankByParts_86 : decode cX5_rankByParts 86 = .ok (.iload_n 3, 1) := by decide +kernel
theorem dX5_rankByParts_87 : decode cX5_rankByParts 87 = .ok (.goto 5, 3) := by decide +kernel
theorem dX5_rankByParts_90 : decode cX5_rankByParts 90 = .ok (.iload 4, 2) := by decide +kernel
theorem dX5_rankByParts_92 : decode cX5_rankByParts 92 = .ok (.ireturn, 1) := by decide +kernel
theorem dX5_rankOf_0 : decode cX5_rankOf 0 = .ok (.iload_n 1, 1) := by decide +kernel
theorem dX5_rankOf_1 : decode cX5_rankOf 1 = .ok (.ifCond .lt 21, 3) := by decide +kernel
theorem dX5_rankOf_4 : decode cX5_rankOf 4 = .ok (.iload_n 1, 1) := by decide +kernel
theorem dX5_rankOf_5 : decode cX5_rankOf 5 = .ok (.aload_n 0, 1) := by decide +kernel
theorem dX5_rankOf_6 : decode cX5_rankOf 6 = .ok (.getfield 9, 3) := by decide +kernel
theorem dX5_rankOf_9 : decode cX5_rankOf 9 = .ok (.arraylength, 1) := by decide +kernel
theorem dX5_rankOf_10 : decode cX5_rankOf 10 = .ok (.if_icmp .ge 12, 3) := by decide +kernel
theorem dX5_rankOf_13 : decode cX5_rankOf 13 = .ok (.aload_n 0, 1) := by decide +kernel
theorem dX5_rankOf_14 : decode cX5_rankOf 14 = .ok (.getfield 9, 3) := by decide +kernel
theorem dX5_rankOf_17 : decode cX5_rankOf 17 = .ok (.iload_n 1, 1) := by decide +kernel
theorem dX5_rankOf_18 : decode cX5_rankOf 18 = .ok (.baload, 1) := by decide +kernel
theorem dX5_rankOf_19 : decode cX5_rankOf 19 = .ok (.goto 4, 3) := by decide +kernel
theorem dX5_rankOf_22 : decode cX5_rankOf 22 = .ok (.iconst 0, 1) := by decide +kernel
theorem dX5_rankOf_23 : decode cX5_rankOf 23 = .ok (.ireturn, 1) := by decide +kernel
theorem dX5_permits_0 : decode cX5_permits 0 = .ok (.aload_n 0, 1) := by decide +kernel
theorem dX5_permits_1 : decode cX5_permits 1 = .ok (.iload_n 1, 1) := by decide +kernel
theorem dX5_permits_2 : decode cX5_permits 2 = .ok (.invokevirtual 25, 3) := by decide +kernel
theorem dX5_permits_5 : decode cX5_permits 5 = .ok (.iload_n 1, 1) := by decide +kernel
theorem dX5_permits_6 : decode cX5_permits 6 = .ok (.invokestatic 19, 3) := by decide +kernel
theorem dX5_permits_9 : decode cX5_permits 9 = .ok (.if_icmp .ne 7, 3) := by decide +kernel
theorem dX5_permits_12 : decode cX5_permits 12 = .ok (.iconst 1, 1) := by decide +kernel
theorem dX5_permits_13 : decode cX5_permits 13 = .ok (.goto 4, 3) := by decide +kernel
theorem dX5_permits_16 : decode cX5_permits 16 = .ok (.iconst 0, 1) := by decide +kernel
theorem dX5_permits_17 : decode cX5_permits 17 = .ok (.ireturn, 1) := by decide +kernel
theorem dX5_permitsEachAlone_0 : decode cX5_permitsEachAlone 0 = .ok (.iconst 0, 1) := by decide +kernel
theorem dX5_permitsEachAlone_1 : decode cX5_permitsEachAlone 1 = .ok (.istore_n 2, 1) := by decide +kernel
theorem dX5_permitsEachAlone_2 : decode cX5_permitsEachAlone 2 = .ok (.iload_n 2, 1) := by decide +kernel
theorem dX5_permitsEachAlone_3 : decode cX5_permitsEachAlone 3 = .ok (.iload_n 1, 1) := by decide +kernel
theorem dX5_permitsEachAlone_4 : decode cX5_permitsEachAlone 4 = .ok (.if_icmp .ge 21, 3) := by decide +kernel
theorem dX5_permitsEachAlone_7 : decode cX5_permitsEachAlone 7 = .ok (.aload_n 0, 1) := by decide +kernel
theorem dX5_permitsEachAlone_8 : decode cX5_permitsEachAlone 8 = .ok (.iconst 1, 1) := by decide +kernel
theorem dX5_permitsEachAlone_9 : decode cX5_permitsEachAlone 9 = .ok (.iload_n 2, 1) := by decide +kernel
theorem dX5_permitsEachAlone_10 : decode cX5_permitsEachAlone 10 = .ok (.ishl, 1) := by decide +kernel
theorem dX5_permitsEachAlone_11 : decode cX5_permitsEachAlone 11 = .ok (.invokevirtual 43, 3) := by decide +kernel
theorem dX5_permitsEachAlone_14 : decode cX5_permitsEachAlone 14 = .ok (.ifCond .ne 5, 3) := by decide +kernel
theorem dX5_permitsEachAlone_17 : decode cX5_permitsEachAlone 17 = .ok (.iconst 0, 1) := by decide +kernel
theorem dX5_permitsEachAlone_18 : decode cX5_permitsEachAlone 18 = .ok (.ireturn, 1) := by decide +kernel
theorem dX5_permitsEachAlone_19 : decode cX5_permitsEachAlone 19 = .ok (.iinc 2 1, 3) := by decide +kernel
theorem dX5_permitsEachAlone_22 : decode cX5_permitsEachAlone 22 = .ok (.goto (-20), 3) := by decide +kernel
theorem dX5_permitsEachAlone_25 : decode cX5_permitsEachAlone 25 = .ok (.iconst 1, 1) := by decide +kernel
theorem dX5_permitsEachAlone_26 : decode cX5_permitsEachAlone 26 = .ok (.ireturn, 1) := by decide +kernel
theorem dX5_allowedSets_0 : decode cX5_allowedSets 0 = .ok (.iconst 0, 1) := by decide +kernel
theorem dX5_allowedSets_1 : decode cX5_allowedSets 1 = .ok (.istore_n 2, 1) := by decide +kernel
theorem dX5_allowedSets_2 : decode cX5_allowedSets 2 = .ok (.iconst 0, 1) := by decide +kernel
theorem dX5_allowedSets_3 : decode cX5_allowedSets 3 = .ok (.istore_n 3, 1) := by decide +kernel
theorem dX5_allowedSets_4 : decode cX5_allowedSets 4 = .ok (.iload_n 3, 1) := by decide +kernel
theorem dX5_allowedSets_5 : decode cX5_allowedSets 5 = .ok (.iload_n 1, 1) := by decide +kernel
theorem dX5_allowedSets_6 : decode cX5_allowedSets 6 = .ok (.if_icmp .gt 20, 3) := by decide +kernel
theorem dX5_allowedSets_9 : decode cX5_allowedSets 9 = .ok (.aload_n 0, 1) := by decide +kernel
theorem dX5_allowedSets_10 : decode cX5_allowedSets 10 = .ok (.iload_n 3, 1) := by decide +kernel
theorem dX5_allowedSets_11 : decode cX5_allowedSets 11 = .ok (.invokevirtual 43, 3) := by decide +kernel
theorem dX5_allowedSets_14 : decode cX5_allowedSets 14 = .ok (.ifCond .eq 6, 3) := by decide +kernel
theorem dX5_allowedSets_17 : decode cX5_allowedSets 17 = .ok (.iinc 2 1, 3) := by decide +kernel
theorem dX5_allowedSets_20 : decode cX5_allowedSets 20 = .ok (.iinc 3 1, 3) := by decide +kernel
theorem dX5_allowedSets_23 : decode cX5_allowedSets 23 = .ok (.goto (-19), 3) := by decide +kernel
theorem dX5_allowedSets_26 : decode cX5_allowedSets 26 = .ok (.iload_n 2, 1) := by decide +kernel
theorem dX5_allowedSets_27 : decode cX5_allowedSets 27 = .ok (.ireturn, 1) := by decide +kernel
theorem dX6_init_0 : decode cX6_init 0 = .ok (.aload_n 0, 1) := by decide +kernel
theorem dX6_init_1 : decode cX6_init 1 = .ok (.invokespecial 3, 3) := by decide +kernel
theorem dX6_init_4 : decode cX6_init 4 = .ok (.aload_n 0, 1) := by decide +kernel
theorem dX6_init_5 : decode cX6_init 5 = .ok (.sipush 200, 3) := by decide +kernel
theorem dX6_init_8 : decode cX6_init 8 = .ok (.newarray .long, 2) := by decide +kernel
theorem dX6_init_10 : decode cX6_init 10 = .ok (.putfield 9, 3) := by decide +kernel
theorem dX6_init_13 : decode cX6_init 13 = .ok (.aload_n 0, 1) := by decide +kernel
theorem dX6_init_14 : decode cX6_init 14 = .ok (.iconst (-1), 1) := by decide +kernel
theorem dX6_init_15 : decode cX6_init 15 = .ok (.putfield 15, 3) := by decide +kernel
theorem dX6_init_18 : decode cX6_init 18 = .ok (.return_, 1) := by decide +kernel
theorem dX6_hasRow_0 : decode cX6_hasRow 0 = .ok (.aload_n 0, 1) := by decide +kernel
theorem dX6_hasRow_1 : decode cX6_hasRow 1 = .ok (.getfield 15, 3) := by decide +kernel
theorem dX6_hasRow_4 : decode cX6_hasRow 4 = .ok (.iconst (-1), 1) := by decide +kernel
theorem dX6_hasRow_5 : decode cX6_hasRow 5 = .ok (.if_icmp .eq 7, 3) := by decide +kernel
theorem dX6_hasRow_8 : decode cX6_hasRow 8 = .ok (.iconst 1, 1) := by decide +kernel
theorem dX6_hasRow_9 : decode cX6_hasRow 9 = .ok (.goto 4, 3) := by decide +kernel
theorem dX6_hasRow_12 : decode cX6_hasRow 12 = .ok (.iconst 0, 1) := by decide +kernel
theorem dX6_hasRow_13 : decode cX6_hasRow 13 = .ok (.ireturn, 1) := by decide +kernel
theorem dX6_lay_0 : decode cX6_lay 0 = .ok (.aload_n 0, 1) := by decide +kernel
theorem dX6_lay_1 : decode cX6_lay 1 = .ok (.iload_n 1, 1) := by decide +kernel
theorem dX6_lay_2 : decode cX6_lay 2 = .ok (.putfield 15, 3) := by decide +kernel
theorem dX6_lay_5 : decode cX6_lay 5 = .ok (.aload_n 0, 1) := by decide +kernel
theorem dX6_lay_6 : decode cX6_lay 6 = .ok (.iload_n 2, 1) := by decide +kernel
theorem dX6_lay_7 : decode cX6_lay 7 = .ok (.aload_n 0, 1) := by decide +kernel
theorem dX6_lay_8 : decode cX6_lay 8 = .ok (.getfield 9, 3) := by decide +kernel
theorem dX6_lay_11 : decode cX6_lay 11 = .ok (.arraylength, 1) := by decide +kernel
theorem dX6_lay_12 : decode cX6_lay 12 = .ok (.invokestatic 19, 3) := by decide +kernel
theorem dX6_lay_15 : decode cX6_lay 15 = .ok (.putfield 25, 3) := by decide +kernel
theorem dX6_lay_18 : decode cX6_lay 18 = .ok (.iconst 0, 1) := by decide +kernel
theorem dX6_lay_19 : decode cX6_lay 19 = .ok (.istore_n 3, 1) := by decide +kernel
theorem dX6_lay_20 : decode cX6_lay 20 = .ok (.iload_n 3, 1) := by decide +kernel
theorem dX6_lay_21 : decode cX6_lay 21 = .ok (.aload_n 0, 1) := by decide +kernel
theorem dX6_lay_22 : decode cX6_lay 22 = .ok (.getfield 25, 3) := by decide +kernel
theorem dX6_lay_25 : decode cX6_lay 25 = .ok (.if_icmp .ge 16, 3) := by decide +kernel
theorem dX6_lay_28 : decode cX6_lay 28 = .ok (.aload_n 0, 1) := by decide +kernel
theorem dX6_lay_29 : decode cX6_lay 29 = .ok (.getfield 9, 3) := by decide +kernel
theorem dX6_lay_32 : decode cX6_lay 32 = .ok (.iload_n 3, 1) := by decide +kernel
theorem dX6_lay_33 : decode cX6_lay 33 = .ok (.lconst 0, 1) := by decide +kernel
theorem dX6_lay_34 : decode cX6_lay 34 = .ok (.lastore, 1) := by decide +kernel
theorem dX6_lay_35 : decode cX6_lay 35 = .ok (.iinc 3 1, 3) := by decide +kernel
theorem dX6_lay_38 : decode cX6_lay 38 = .ok (.goto (-18), 3) := by decide +kernel
theorem dX6_lay_41 : decode cX6_lay 41 = .ok (.return_, 1) := by decide +kernel
theorem dX6_clear_0 : decode cX6_clear 0 = .ok (.aload_n 0, 1) := by decide +kernel
theorem dX6_clear_1 : decode cX6_clear 1 = .ok (.iconst (-1), 1) := by decide +kernel
theorem dX6_clear_2 : decode cX6_clear 2 = .ok (.putfield 15, 3) := by decide +kernel
theorem dX6_clear_5 : decode cX6_clear 5 = .ok (.aload_n 0, 1) := by decide +kernel
theorem dX6_clear_6 : decode cX6_clear 6 = .ok (.iconst 0, 1) := by decide +kernel
theorem dX6_clear_7 : decode cX6_clear 7 = .ok (.putfield 25, 3) := by decide +kernel
theorem dX6_clear_10 : decode cX6_clear 10 = .ok (.return_, 1) := by decide +kernel
theorem dX6_hasStretch_0 : decode cX6_hasStretch 0 = .ok (.iload_n 1, 1) := by decide +kernel
theorem dX6_hasStretch_1 : decode cX6_hasStretch 1 = .ok (.ifCond .lt 29, 3) := by decide +kernel
theorem dX6_hasStretch_4 : decode cX6_hasStretch 4 = .ok (.iload_n 2, 1) := by decide +kernel
theorem dX6_hasStretch_5 : decode cX6_hasStretch 5 = .ok (.ifCond .lt 25, 3) := by decide +kernel
theorem dX6_hasStretch_8 : decode cX6_hasStretch 8 = .ok (.iload_n 2, 1) := by decide +kernel
theorem dX6_hasStretch_9 : decode cX6_hasStretch 9 = .ok (.aload_n 0, 1) := by decide +kernel
theorem dX6_hasStretch_10 : decode cX6_hasStretch 10 = .ok (.getfield 25, 3) := by decide +kernel
theorem dX6_hasStretch_13 : decode cX6_hasStretch 13 = .ok (.if_icmp .gt 17, 3) := by decide +kernel
theorem dX6_hasStretch_16 : decode cX6_hasStretch 16 = .ok (.iload_n 1, 1) := by decide +kernel
theorem dX6_hasStretch_17 : decode cX6_hasStretch 17 = .ok (.aload_n 0, 1) := by decide +kernel
theorem dX6_hasStretch_18 : decode cX6_hasStretch 18 = .ok (.getfield 25, 3) := by decide +kernel
theorem dX6_hasStretch_21 : decode cX6_hasStretch 21 = .ok (.iload_n 2, 1) := by decide +kernel
theorem dX6_hasStretch_22 : decode cX6_hasStretch 22 = .ok (.isub, 1) := by decide +kernel
theorem dX6_hasStretch_23 : decode cX6_hasStretch 23 = .ok (.if_icmp .gt 7, 3) := by decide +kernel
theorem dX6_hasStretch_26 : decode cX6_hasStretch 26 = .ok (.iconst 1, 1) := by decide +kernel
theorem dX6_hasStretch_27 : decode cX6_hasStretch 27 = .ok (.goto 4, 3) := by decide +kernel
theorem dX6_hasStretch_30 : decode cX6_hasStretch 30 = .ok (.iconst 0, 1) := by decide +kernel
theorem dX6_hasStretch_31 : decode cX6_hasStretch 31 = .ok (.ireturn, 1) := by decide +kernel
theorem dX6_number_0 : decode cX6_number 0 = .ok (.iload_n 1, 1) := by decide +kernel
theorem dX6_number_1 : decode cX6_number 1 = .ok (.ifCond .lt 20, 3) := by decide +kernel
theorem dX6_number_4 : decode cX6_number 4 = .ok (.iload_n 1, 1) := by decide +kernel
theorem dX6_number_5 : decode cX6_number 5 = .ok (.aload_n 0, 1) := by decide +kernel
theorem dX6_number_6 : decode cX6_number 6 = .ok (.getfield 25, 3) := by decide +kernel
theorem dX6_number_9 : decode cX6_number 9 = .ok (.if_icmp .ge 12, 3) := by decide +kernel
theorem dX6_number_12 : decode cX6_number 12 = .ok (.aload_n 0, 1) := by decide +kernel
theorem dX6_number_13 : decode cX6_number 13 = .ok (.getfield 9, 3) := by decide +kernel
theorem dX6_number_16 : decode cX6_number 16 = .ok (.iload_n 1, 1) := by decide +kernel
theorem dX6_number_17 : decode cX6_number 17 = .ok (.laload, 1) := by decide +kernel
theorem dX6_number_18 : decode cX6_number 18 = .ok (.goto 4, 3) := by decide +kernel
theorem dX6_number_21 : decode cX6_number 21 = .ok (.lconst 0, 1) := by decide +kernel
theorem dX6_number_22 : decode cX6_number 22 = .ok (.lreturn, 1) := by decide +kernel
theorem dX6_put_0 : decode cX6_put 0 = .ok (.iload_n 1, 1) := by decide +kernel
theorem dX6_put_1 : decode cX6_put 1 = .ok (.ifCond .lt 22, 3) := by decide +kernel
theorem dX6_put_4 : decode cX6_put 4 = .ok (.iload_n 1, 1) := by decide +kernel
theorem dX6_put_5 : decode cX6_put 5 = .ok (.aload_n 0, 1) := by decide +kernel
theorem dX6_put_6 : decode cX6_put 6 = .ok (.getfield 25, 3) := by decide +kernel
theorem dX6_put_9 : decode cX6_put 9 = .ok (.if_icmp .ge 14, 3) := by decide +kernel
theorem dX6_put_12 : decode cX6_put 12 = .ok (.aload_n 0, 1) := by decide +kernel
theorem dX6_put_13 : decode cX6_put 13 = .ok (.getfield 9, 3) := by decide +kernel
theorem dX6_put_16 : decode cX6_put 16 = .ok (.iload_n 1, 1) := by decide +kernel
theorem dX6_put_17 : decode cX6_put 17 = .ok (.aload_n 0, 1) := by decide +kernel
theorem dX6_put_18 : decode cX6_put 18 = .ok (.lload_n 2, 1) := by decide +kernel
theorem dX6_put_19 : decode cX6_put 19 = .ok (.invokevirtual 28, 3) := by decide +kernel
theorem dX6_put_22 : decode cX6_put 22 = .ok (.lastore, 1) := by decide +kernel
theorem dX6_put_23 : decode cX6_put 23 = .ok (.return_, 1) := by decide +kernel
theorem dX6_cut_0 : decode cX6_cut 0 = .ok (.aload_n 0, 1) := by decide +kernel
theorem dX6_cut_1 : decode cX6_cut 1 = .ok (.getfield 15, 3) := by decide +kernel
theorem dX6_cut_4 : decode cX6_cut 4 = .ok (.tableswitch 42 0 2 #[28, 33, 38], 28) := by decide +kernel
theorem dX6_cut_32 : decode cX6_cut 32 = .ok (.lload_n 1, 1) := by decide +kernel
theorem dX6_cut_33 : decode cX6_cut 33 = .ok (.l2i, 1) := by decide +kernel
theorem dX6_cut_34 : decode cX6_cut 34 = .ok (.i2b, 1) := by decide +kernel
theorem dX6_cut_35 : decode cX6_cut 35 = .ok (.i2l, 1) := by decide +kernel
theorem dX6_cut_36 : decode cX6_cut 36 = .ok (.lreturn, 1) := by decide +kernel
theorem dX6_cut_37 : decode cX6_cut 37 = .ok (.lload_n 1, 1) := by decide +kernel
theorem dX6_cut_38 : decode cX6_cut 38 = .ok (.l2i, 1) := by decide +kernel
theorem dX6_cut_39 : decode cX6_cut 39 = .ok (.i2s, 1) := by decide +kernel
theorem dX6_cut_40 : decode cX6_cut 40 = .ok (.i2l, 1) := by decide +kernel
theorem dX6_cut_41 : decode cX6_cut 41 = .ok (.lreturn, 1) := by decide +kernel
theorem dX6_cut_42 : decode cX6_cut 42 = .ok (.lload_n 1, 1) := by decide +kernel
theorem dX6_cut_43 : decode cX6_cut 43 = .ok (.l2i, 1) := by decide +kernel
theorem dX6_cut_44 : decode cX6_cut 44 = .ok (.i2l, 1) := by decide +kernel
theorem dX6_cut_45 : decode cX6_cut 45 = .ok (.lreturn, 1) := by decide +kernel
theorem dX6_cut_46 : decode cX6_cut 46 = .ok (.lload_n 1, 1) := by decide +kernel
theorem dX6_cut_47 : decode cX6_cut 47 = .ok (.lreturn, 1) := by decide +kernel
theorem dX7_init_0 : decode cX7_init 0 = .ok (.aload_n 0, 1) := by decide +kernel
theorem dX7_init_1 : decode cX7_init 1 = .ok (.invokespecial 3, 3) := by decide +kernel
theorem dX7_init_4 : decode cX7_init 4 = .ok (.aload_n 0, 1) := by decide +kernel
theorem dX7_init_5 : decode cX7_init 5 = .ok (.bipush 64, 2) := by decide +kernel
theorem dX7_init_7 : decode cX7_init 7 = .ok (.newarray .long, 2) := by decide +kernel
theorem dX7_init_9 : decode cX7_init 9 = .ok (.putfield 11, 3) := by decide +kernel
theorem dX7_init_12 : decode cX7_init 12 = .ok (.aload_n 0, 1) := by decide +kernel
theorem dX7_init_13 : decode cX7_init 13 = .ok (.sipush 150, 3) := by decide +kernel
theorem dX7_init_16 : decode cX7_init 16 = .ok (.newarray .int, 2) := by decide +kernel
theorem dX7_init_18 : decode cX7_init 18 = .ok (.putfield 15, 3) := by decide +kernel
theorem dX7_init_21 : decode cX7_init 21 = .ok (.return_, 1) := by decide +kernel
theorem dX7_forgetBreach_0 : decode cX7_forgetBreach 0 = .ok (.aload_n 0, 1) := by decide +kernel
theorem dX7_forgetBreach_1 : decode cX7_forgetBreach 1 = .ok (.iconst 0, 1) := by decide +kernel
theorem dX7_forgetBreach_2 : decode cX7_forgetBreach 2 = .ok (.iconst 0, 1) := by decide +kernel
theorem dX7_forgetBreach_3 : decode cX7_forgetBreach 3 = .ok (.iconst 0, 1) := by decide +kernel
theorem dX7_forgetBreach_4 : decode cX7_forgetBreach 4 = .ok (.invokevirtual 19, 3) := by decide +kernel
theorem dX7_forgetBreach_7 : decode cX7_forgetBreach 7 = .ok (.return_, 1) := by decide +kernel
theorem dX7_readSets_0 : decode cX7_readSets 0 = .ok (.iconst 0, 1) := by decide +kernel
theorem dX7_readSets_1 : decode cX7_readSets 1 = .ok (.istore_n 3, 1) := by decide +kernel
theorem dX7_readSets_2 : decode cX7_readSets 2 = .ok (.iload_n 3, 1) := by decide +kernel
theorem dX7_readSets_3 : decode cX7_readSets 3 = .ok (.aload_n 0, 1) := by decide +kernel
theorem dX7_readSets_4 : decode cX7_readSets 4 = .ok (.getfield 11, 3) := by decide +kernel
theorem dX7_readSets_7 : decode cX7_readSets 7 = .ok (.arraylength, 1) := by decide +kernel
theorem dX7_readSets_8 : decode cX7_readSets 8 = .ok (.if_icmp .ge 16, 3) := by decide +kernel
theorem dX7_readSets_11 : decode cX7_readSets 11 = .ok (.aload_n 0, 1) := by decide +kernel
theorem dX7_readSets_12 : decode cX7_readSets 12 = .ok (.getfield 11, 3) := by decide +kernel
theorem dX7_readSets_15 : decode cX7_readSets 15 = .ok (.iload_n 3, 1) := by decide +kernel
theorem dX7_readSets_16 : decode cX7_readSets 16 = .ok (.lconst 0, 1) := by decide +kernel
theorem dX7_readSets_17 : decode cX7_readSets 17 = .ok (.lastore, 1) := by decide +kernel
theorem dX7_readSets_18 : decode cX7_readSets 18 = .ok (.iinc 3 1, 3) := by decide +kernel
theorem dX7_readSets_21 : decode cX7_readSets 21 = .ok (.goto (-19), 3) := by decide +kernel
theorem dX7_readSets_24 : decode cX7_readSets 24 = .ok (.aload_n 1, 1) := by decide +kernel
theorem dX7_readSets_25 : decode cX7_readSets 25 = .ok (.iconst 0, 1) := by decide +kernel
theorem dX7_readSets_26 : decode cX7_readSets 26 = .ok (.sipush 150, 3) := by decide +kernel
theorem dX7_readSets_29 : decode cX7_readSets 29 = .ok (.invokevirtual 23, 3) := by decide +kernel
theorem dX7_readSets_32 : decode cX7_readSets 32 = .ok (.istore_n 3, 1) := by decide +kernel
theorem dX7_readSets_33 : decode cX7_readSets 33 = .ok (.iconst 0, 1) := by decide +kernel
theorem dX7_readSets_34 : decode cX7_readSets 34 = .ok (.istore 4, 2) := by decide +kernel
theorem dX7_readSets_36 : decode cX7_readSets 36 = .ok (.iload 4, 2) := by decide +kernel
theorem dX7_readSets_38 : decode cX7_readSets 38 = .ok (.iload_n 3, 1) := by decide +kernel
theorem dX7_readSets_39 : decode cX7_readSets 39 = .ok (.if_icmp .ge 50, 3) := by decide +kernel
theorem dX7_readSets_42 : decode cX7_readSets 42 = .ok (.aload_n 1, 1) := by decide +kernel
theorem dX7_readSets_43 : decode cX7_readSets 43 = .ok (.iconst 0, 1) := by decide +kernel
theorem dX7_readSets_44 : decode cX7_readSets 44 = .ok (.iload_n 2, 1) := by decide +kernel
theorem dX7_readSets_45 : decode cX7_readSets 45 = .ok (.invokevirtual 23, 3) := by decide +kernel
theorem dX7_readSets_48 : decode cX7_readSets 48 = .ok (.istore 5, 2) := by decide +kernel
theorem dX7_readSets_50 : decode cX7_readSets 50 = .ok (.iload 5, 2) := by decide +kernel
theorem dX7_readSets_52 : decode cX7_readSets 52 = .ok (.bipush 6, 2) := by decide +kernel
theorem dX7_readSets_54 : decode cX7_readSets 54 = .ok (.ishr, 1) := by decide +kernel
theorem dX7_readSets_55 : decode cX7_readSets 55 = .ok (.aload_n 0, 1) := by decide +kernel
theorem dX7_readSets_56 : decode cX7_readSets 56 = .ok (.getfield 11, 3) := by decide +kernel
theorem dX7_readSets_59 : decode cX7_readSets 59 = .ok (.arraylength, 1) := by decide +kernel
theorem dX7_readSets_60 : decode cX7_readSets 60 = .ok (.if_icmp .ge 23, 3) := by decide +kernel
theorem dX7_readSets_63 : decode cX7_readSets 63 = .ok (.aload_n 0, 1) := by decide +kernel
theorem dX7_readSets_64 : decode cX7_readSets 64 = .ok (.getfield 11, 3) := by decide +kernel
theorem dX7_readSets_67 : decode cX7_readSets 67 = .ok (.iload 5, 2) := by decide +kernel
theorem dX7_readSets_69 : decode cX7_readSets 69 = .ok (.bipush 6, 2) := by decide +kernel
theorem dX7_readSets_71 : decode cX7_readSets 71 = .ok (.ishr, 1) := by decide +kernel
theorem dX7_readSets_72 : decode cX7_readSets 72 = .ok (.dup2, 1) := by decide +kernel
theorem dX7_readSets_73 : decode cX7_readSets 73 = .ok (.laload, 1) := by decide +kernel
theorem dX7_readSets_74 : decode cX7_readSets 74 = .ok (.lconst 1, 1) := by decide +kernel
theorem dX7_readSets_75 : decode cX7_readSets 75 = .ok (.iload 5, 2) := by decide +kernel
theorem dX7_readSets_77 : decode cX7_readSets 77 = .ok (.bipush 63, 2) := by decide +kernel
theorem dX7_readSets_79 : decode cX7_readSets 79 = .ok (.iand, 1) := by decide +kernel
theorem dX7_readSets_80 : decode cX7_readSets 80 = .ok (.lshl, 1) := by decide +kernel
theorem dX7_readSets_81 : decode cX7_readSets 81 = .ok (.lor, 1) := by decide +kernel
theorem dX7_readSets_82 : decode cX7_readSets 82 = .ok (.lastore, 1) := by decide +kernel
theorem dX7_readSets_83 : decode cX7_readSets 83 = .ok (.iinc 4 1, 3) := by decide +kernel
theorem dX7_readSets_86 : decode cX7_readSets 86 = .ok (.goto (-50), 3) := by decide +kernel
theorem dX7_readSets_89 : decode cX7_readSets 89 = .ok (.return_, 1) := by decide +kernel
theorem dX7_fits_0 : decode cX7_fits 0 = .ok (.iload_n 1, 1) := by decide +kernel
theorem dX7_fits_1 : decode cX7_fits 1 = .ok (.ifCond .lt 35, 3) := by decide +kernel
theorem dX7_fits_4 : decode cX7_fits 4 = .ok (.iload_n 1, 1) := by decide +kernel
theorem dX7_fits_5 : decode cX7_fits 5 = .ok (.sipush 4096, 3) := by decide +kernel
theorem dX7_fits_8 : decode cX7_fits 8 = .ok (.if_icmp .ge 28, 3) := by decide +kernel
theorem dX7_fits_11 : decode cX7_fits 11 = .ok (.aload_n 0, 1) := by decide +kernel
theorem dX7_fits_12 : decode cX7_fits 12 = .ok (.getfield 11, 3) := by decide +kernel
theorem dX7_fits_15 : decode cX7_fits 15 = .ok (.iload_n 1, 1) := by decide +kernel
theorem dX7_fits_16 : decode cX7_fits 16 = .ok (.bipush 6, 2) := by decide +kernel
theorem dX7_fits_18 : decode cX7_fits 18 = .ok (.ishr, 1) := by decide +kernel
theorem dX7_fits_19 : decode cX7_fits 19 = .ok (.laload, 1) := by decide +kernel
theorem dX7_fits_20 : decode cX7_fits 20 = .ok (.iload_n 1, 1) := by decide +kernel
theorem dX7_fits_21 : decode cX7_fits 21 = .ok (.bipush 63, 2) := by decide +kernel
theorem dX7_fits_23 : decode cX7_fits 23 = .ok (.iand, 1) := by decide +kernel
theorem dX7_fits_24 : decode cX7_fits 24 = .ok (.lshr, 1) := by decide +kernel
theorem dX7_fits_25 : decode cX7_fits 25 = .ok (.lconst 1, 1) := by decide +kernel
theorem dX7_fits_26 : decode cX7_fits 26 = .ok (.land, 1) := by decide +kernel
theorem dX7_fits_27 : decode cX7_fits 27 = .ok (.lconst 0, 1) := by decide +kernel
theorem dX7_fits_28 : decode cX7_fits 28 = .ok (.lcmp, 1) := by decide +kernel
theorem dX7_fits_29 : decode cX7_fits 29 = .ok (.ifCond .eq 7, 3) := by decide +kernel
theorem dX7_fits_32 : decode cX7_fits 32 = .ok (.iconst 1, 1) := by decide +kernel
theorem dX7_fits_33 : decode cX7_fits 33 = .ok (.goto 4, 3) := by decide +kernel
theorem dX7_fits_36 : decode cX7_fits 36 = .ok (.iconst 0, 1) := by decide +kernel
theorem dX7_fits_37 : decode cX7_fits 37 = .ok (.ireturn, 1) := by decide +kernel
theorem dX7_breaksLaw_0 : decode cX7_breaksLaw 0 = .ok (.aload_n 0, 1) := by decide +kernel
theorem dX7_breaksLaw_1 : decode cX7_breaksLaw 1 = .ok (.iload_n 1, 1) := by decide +kernel
theorem dX7_breaksLaw_2 : decode cX7_breaksLaw 2 = .ok (.invokevirtual 29, 3) := by decide +kernel
theorem dX7_breaksLaw_5 : decode cX7_breaksLaw 5 = .ok (.aload_n 0, 1) := by decide +kernel
theorem dX7_breaksLaw_6 : decode cX7_breaksLaw 6 = .ok (.iconst 0, 1) := by decide +kernel
theorem dX7_breaksLaw_7 : decode cX7_breaksLaw 7 = .ok (.invokevirtual 33, 3) := by decide +kernel
theorem dX7_breaksLaw_10 : decode cX7_breaksLaw 10 = .ok (.ifCond .ne 12, 3) := by decide +kernel
theorem dX7_breaksLaw_13 : decode cX7_breaksLaw 13 = .ok (.aload_n 0, 1) := by decide +kernel
theorem dX7_breaksLaw_14 : decode cX7_breaksLaw 14 = .ok (.iconst 1, 1) := by decide +kernel
theorem dX7_breaksLaw_15 : decode cX7_breaksLaw 15 = .ok (.iconst 0, 1) := by decide +kernel
theorem dX7_breaksLaw_16 : decode cX7_breaksLaw 16 = .ok (.iconst 0, 1) := by decide +kernel
theorem dX7_breaksLaw_17 : decode cX7_breaksLaw 17 = .ok (.invokevirtual 19, 3) := by decide +kernel
theorem dX7_breaksLaw_20 : decode cX7_breaksLaw 20 = .ok (.iconst 1, 1) := by decide +kernel
theorem dX7_breaksLaw_21 : decode cX7_breaksLaw 21 = .ok (.ireturn, 1) := by decide +kernel
theorem dX7_breaksLaw_22 : decode cX7_breaksLaw 22 = .ok (.aload_n 0, 1) := by decide +kernel
theorem dX7_breaksLaw_23 : decode cX7_breaksLaw 23 = .ok (.invokevirtual 37, 3) := by decide +kernel
theorem dX7_breaksLaw_26 : decode cX7_breaksLaw 26 = .ok (.ifCond .ne 10, 3) := by decide +kernel
theorem dX7_breaksLaw_29 : decode cX7_breaksLaw 29 = .ok (.aload_n 0, 1) := by decide +kernel
theorem dX7_breaksLaw_30 : decode cX7_breaksLaw 30 = .ok (.invokevirtual 41, 3) := by decide +kernel
theorem dX7_breaksLaw_33 : decode cX7_breaksLaw 33 = .ok (.ifCond .eq 7, 3) := by decide +kernel
theorem dX7_breaksLaw_36 : decode cX7_breaksLaw 36 = .ok (.iconst 1, 1) := by decide +kernel
theorem dX7_breaksLaw_37 : decode cX7_breaksLaw 37 = .ok (.goto 4, 3) := by decide +kernel
theorem dX7_breaksLaw_40 : decode cX7_breaksLaw 40 = .ok (.iconst 0, 1) := by decide +kernel
theorem dX7_breaksLaw_41 : decode cX7_breaksLaw 41 = .ok (.ireturn, 1) := by decide +kernel
theorem dX7_noteBreach_0 : decode cX7_noteBreach 0 = .ok (.aload_n 0, 1) := by decide +kernel
theorem dX7_noteBreach_1 : decode cX7_noteBreach 1 = .ok (.iload_n 1, 1) := by decide +kernel
theorem dX7_noteBreach_2 : decode cX7_noteBreach 2 = .ok (.putfield 44, 3) := by decide +kernel
theorem dX7_noteBreach_5 : decode cX7_noteBreach 5 = .ok (.aload_n 0, 1) := by decide +kernel
theorem dX7_noteBreach_6 : decode cX7_noteBreach 6 = .ok (.iload_n 2, 1) := by decide +kernel
theorem dX7_noteBreach_7 : decode cX7_noteBreach 7 = .ok (.putfield 48, 3) := by decide +kernel
theorem dX7_noteBreach_10 : decode cX7_noteBreach 10 = .ok (.aload_n 0, 1) := by decide +kernel
theorem dX7_noteBreach_11 : decode cX7_noteBreach 11 = .ok (.iload_n 3, 1) := by decide +kernel
theorem dX7_noteBreach_12 : decode cX7_noteBreach 12 = .ok (.putfield 51, 3) := by decide +kernel
theorem dX7_noteBreach_15 : decode cX7_noteBreach 15 = .ok (.return_, 1) := by decide +kernel
theorem dX7_listSets_0 : decode cX7_listSets 0 = .ok (.aload_n 0, 1) := by decide +kernel
theorem dX7_listSets_1 : decode cX7_listSets 1 = .ok (.iconst 0, 1) := by decide +kernel
theorem dX7_listSets_2 : decode cX7_listSets 2 = .ok (.putfield 54, 3) := by decide +kernel
theorem dX7_listSets_5 : decode cX7_listSets 5 = .ok (.iconst 0, 1) := by decide +kernel
theorem dX7_listSets_6 : decode cX7_listSets 6 = .ok (.istore_n 2, 1) := by decide +kernel
theorem dX7_listSets_7 : decode cX7_listSets 7 = .ok (.iload_n 2, 1) := by decide +kernel
theorem dX7_listSets_8 : decode cX7_listSets 8 = .ok (.iload_n 1, 1) := by decide +kernel
theorem dX7_listSets_9 : decode cX7_listSets 9 = .ok (.if_icmp .gt 49, 3) := by decide +kernel
theorem dX7_listSets_12 : decode cX7_listSets 12 = .ok (.aload_n 0, 1) := by decide +kernel
theorem dX7_listSets_13 : decode cX7_listSets 13 = .ok (.getfield 54, 3) := by decide +kernel
theorem dX7_listSets_16 : decode cX7_listSets 16 = .ok (.aload_n 0, 1) := by decide +kernel
theorem dX7_listSets_17 : decode cX7_listSets 17 = .ok (.getfield 15, 3) := by decide +kernel
theorem dX7_listSets_20 : decode cX7_listSets 20 = .ok (.arraylength, 1) := by decide +kernel
theorem dX7_listSets_21 : decode cX7_listSets 21 = .ok (.if_icmp .ge 37, 3) := by decide +kernel
theorem dX7_listSets_24 : decode cX7_listSets 24 = .ok (.aload_n 0, 1) := by decide +kernel
theorem dX7_listSets_25 : decode cX7_listSets 25 = .ok (.iload_n 2, 1) := by decide +kernel
theorem dX7_listSets_26 : decode cX7_listSets 26 = .ok (.invokevirtual 33, 3) := by decide +kernel
theorem dX7_listSets_29 : decode cX7_listSets 29 = .ok (.ifCond .eq 23, 3) := by decide +kernel
theorem dX7_listSets_32 : decode cX7_listSets 32 = .ok (.aload_n 0, 1) := by decide +kernel
theorem dX7_listSets_33 : decode cX7_listSets 33 = .ok (.getfield 15, 3) := by decide +kernel
theorem dX7_listSets_36 : decode cX7_listSets 36 = .ok (.aload_n 0, 1) := by decide +kernel
theorem dX7_listSets_37 : decode cX7_listSets 37 = .ok (.getfield 54, 3) := by decide +kernel
theorem dX7_listSets_40 : decode cX7_listSets 40 = .ok (.iload_n 2, 1) := by decide +kernel
theorem dX7_listSets_41 : decode cX7_listSets 41 = .ok (.iastore, 1) := by decide +kernel
theorem dX7_listSets_42 : decode cX7_listSets 42 = .ok (.aload_n 0, 1) := by decide +kernel
theorem dX7_listSets_43 : decode cX7_listSets 43 = .ok (.dup, 1) := by decide +kernel
theorem dX7_listSets_44 : decode cX7_listSets 44 = .ok (.getfield 54, 3) := by decide +kernel
theorem dX7_listSets_47 : decode cX7_listSets 47 = .ok (.iconst 1, 1) := by decide +kernel
theorem dX7_listSets_48 : decode cX7_listSets 48 = .ok (.iadd, 1) := by decide +kernel
theorem dX7_listSets_49 : decode cX7_listSets 49 = .ok (.putfield 54, 3) := by decide +kernel
theorem dX7_listSets_52 : decode cX7_listSets 52 = .ok (.iinc 2 1, 3) := by decide +kernel
theorem dX7_listSets_55 : decode cX7_listSets 55 = .ok (.goto (-48), 3) := by decide +kernel
theorem dX7_listSets_58 : decode cX7_listSets 58 = .ok (.return_, 1) := by decide +kernel
theorem dX7_lacksPart_0 : decode cX7_lacksPart 0 = .ok (.iconst 0, 1) := by decide +kernel
theorem dX7_lacksPart_1 : decode cX7_lacksPart 1 = .ok (.istore_n 1, 1) := by decide +kernel
theorem dX7_lacksPart_2 : decode cX7_lacksPart 2 = .ok (.iload_n 1, 1) := by decide +kernel
theorem dX7_lacksPart_3 : decode cX7_lacksPart 3 = .ok (.aload_n 0, 1) := by decide +kernel
theorem dX7_lacksPart_4 : decode cX7_lacksPart 4 = .ok (.getfield 54, 3) := by decide +kernel
theorem dX7_lacksPart_7 : decode cX7_lacksPart 7 = .ok (.if_icmp .ge 39, 3) := by decide +kernel
theorem dX7_lacksPart_10 : decode cX7_lacksPart 10 = .ok (.aload_n 0, 1) := by decide +kernel
theorem dX7_lacksPart_11 : decode cX7_lacksPart 11 = .ok (.aload_n 0, 1) := by decide +kernel
theorem dX7_lacksPart_12 : decode cX7_lacksPart 12 = .ok (.getfield 15, 3) := by decide +kernel
theorem dX7_lacksPart_15 : decode cX7_lacksPart 15 = .ok (.iload_n 1, 1) := by decide +kernel
theorem dX7_lacksPart_16 : decode cX7_lacksPart 16 = .ok (.iaload, 1) := by decide +kernel
theorem dX7_lacksPart_17 : decode cX7_lacksPart 17 = .ok (.invokevirtual 57, 3) := by decide +kernel
theorem dX7_lacksPart_20 : decode cX7_lacksPart 20 = .ok (.istore_n 2, 1) := by decide +kernel
theorem dX7_lacksPart_21 : decode cX7_lacksPart 21 = .ok (.iload_n 2, 1) := by decide +kernel
theorem dX7_lacksPart_22 : decode cX7_lacksPart 22 = .ok (.iconst (-1), 1) := by decide +kernel
theorem dX7_lacksPart_23 : decode cX7_lacksPart 23 = .ok (.if_icmp .eq 17, 3) := by decide +kernel
theorem dX7_lacksPart_26 : decode cX7_lacksPart 26 = .ok (.aload_n 0, 1) := by decide +kernel
theorem dX7_lacksPart_27 : decode cX7_lacksPart 27 = .ok (.iconst 2, 1) := by decide +kernel
theorem dX7_lacksPart_28 : decode cX7_lacksPart 28 = .ok (.aload_n 0, 1) := by decide +kernel
theorem dX7_lacksPart_29 : decode cX7_lacksPart 29 = .ok (.getfield 15, 3) := by decide +kernel
theorem dX7_lacksPart_32 : decode cX7_lacksPart 32 = .ok (.iload_n 1, 1) := by decide +kernel
theorem dX7_lacksPart_33 : decode cX7_lacksPart 33 = .ok (.iaload, 1) := by decide +kernel
theorem dX7_lacksPart_34 : decode cX7_lacksPart 34 = .ok (.iload_n 2, 1) := by decide +kernel
theorem dX7_lacksPart_35 : decode cX7_lacksPart 35 = .ok (.invokevirtual 19, 3) := by decide +kernel
theorem dX7_lacksPart_38 : decode cX7_lacksPart 38 = .ok (.iconst 1, 1) := by decide +kernel
theorem dX7_lacksPart_39 : decode cX7_lacksPart 39 = .ok (.ireturn, 1) := by decide +kernel
theorem dX7_lacksPart_40 : decode cX7_lacksPart 40 = .ok (.iinc 1 1, 3) := by decide +kernel
theorem dX7_lacksPart_43 : decode cX7_lacksPart 43 = .ok (.goto (-41), 3) := by decide +kernel
theorem dX7_lacksPart_46 : decode cX7_lacksPart 46 = .ok (.iconst 0, 1) := by decide +kernel
theorem dX7_lacksPart_47 : decode cX7_lacksPart 47 = .ok (.ireturn, 1) := by decide +kernel
theorem dX7_leastPartNotTold_0 : decode cX7_leastPartNotTold 0 = .ok (.iconst 0, 1) := by decide +kernel
theorem dX7_leastPartNotTold_1 : decode cX7_leastPartNotTold 1 = .ok (.istore_n 2, 1) := by decide +kernel
theorem dX7_leastPartNotTold_2 : decode cX7_leastPartNotTold 2 = .ok (.iconst 0, 1) := by decide +kernel
theorem dX7_leastPartNotTold_3 : decode cX7_leastPartNotTold 3 = .ok (.istore_n 3, 1) := by decide +kernel
theorem dX7_leastPartNotTold_4 : decode cX7_leastPartNotTold 4 = .ok (.iload_n 3, 1) := by decide +kernel
theorem dX7_leastPartNotTold_5 : decode cX7_leastPartNotTold 5 = .ok (.sipush 4096, 3) := by decide +kernel
theorem dX7_leastPartNotTold_8 : decode cX7_leastPartNotTold 8 = .ok (.if_icmp .ge 30, 3) := by decide +kernel
theorem dX7_leastPartNotTold_11 : decode cX7_leastPartNotTold 11 = .ok (.iload_n 2, 1) := by decide +kernel
theorem dX7_leastPartNotTold_12 : decode cX7_leastPartNotTold 12 = .ok (.iload_n 1, 1) := by decide +kernel
theorem dX7_leastPartNotTold_13 : decode cX7_leastPartNotTold 13 = .ok (.if_icmp .ge 25, 3) := by decide +kernel
theorem dX7_leastPartNotTold_16 : decode cX7_leastPartNotTold 16 = .ok (.aload_n 0, 1) := by decide +kernel
theorem dX7_leastPartNotTold_17 : decode cX7_leastPartNotTold 17 = .ok (.iload_n 2, 1) := by decide +kernel
theorem dX7_leastPartNotTold_18 : decode cX7_leastPartNotTold 18 = .ok (.invokevirtual 33, 3) := by decide +kernel
theorem dX7_leastPartNotTold_21 : decode cX7_leastPartNotTold 21 = .ok (.ifCond .ne 5, 3) := by decide +kernel
theorem dX7_leastPartNotTold_24 : decode cX7_leastPartNotTold 24 = .ok (.iload_n 2, 1) := by decide +kernel
theorem dX7_leastPartNotTold_25 : decode cX7_leastPartNotTold 25 = .ok (.ireturn, 1) := by decide +kernel
theorem dX7_leastPartNotTold_26 : decode cX7_leastPartNotTold 26 = .ok (.iload_n 2, 1) := by decide +kernel
theorem dX7_leastPartNotTold_27 : decode cX7_leastPartNotTold 27 = .ok (.iload_n 1, 1) := by decide +kernel
theorem dX7_leastPartNotTold_28 : decode cX7_leastPartNotTold 28 = .ok (.isub, 1) := by decide +kernel
theorem dX7_leastPartNotTold_29 : decode cX7_leastPartNotTold 29 = .ok (.iload_n 1, 1) := by decide +kernel
theorem dX7_leastPartNotTold_30 : decode cX7_leastPartNotTold 30 = .ok (.iand, 1) := by decide +kernel
theorem dX7_leastPartNotTold_31 : decode cX7_leastPartNotTold 31 = .ok (.istore_n 2, 1) := by decide +kernel
theorem dX7_leastPartNotTold_32 : decode cX7_leastPartNotTold 32 = .ok (.iinc 3 1, 3) := by decide +kernel
theorem dX7_leastPartNotTold_35 : decode cX7_leastPartNotTold 35 = .ok (.goto (-31), 3) := by decide +kernel
theorem dX7_leastPartNotTold_38 : decode cX7_leastPartNotTold 38 = .ok (.iconst (-1), 1) := by decide +kernel
theorem dX7_leastPartNotTold_39 : decode cX7_leastPartNotTold 39 = .ok (.ireturn, 1) := by decide +kernel
theorem dX7_lacksExchange_0 : decode cX7_lacksExchange 0 = .ok (.iconst 0, 1) := by decide +kernel
theorem dX7_lacksExchange_1 : decode cX7_lacksExchange 1 = .ok (.istore_n 1, 1) := by decide +kernel
theorem dX7_lacksExchange_2 : decode cX7_lacksExchange 2 = .ok (.iload_n 1, 1) := by decide +kernel
theorem dX7_lacksExchange_3 : decode cX7_lacksExchange 3 = .ok (.aload_n 0, 1) := by decide +kernel
theorem dX7_lacksExchange_4 : decode cX7_lacksExchange 4 = .ok (.getfield 54, 3) := by decide +kernel
theorem dX7_lacksExchange_7 : decode cX7_lacksExchange 7 = .ok (.if_icmp .ge 39, 3) := by decide +kernel
theorem dX7_lacksExchange_10 : decode cX7_lacksExchange 10 = .ok (.aload_n 0, 1) := by decide +kernel
theorem dX7_lacksExchange_11 : decode cX7_lacksExchange 11 = .ok (.aload_n 0, 1) := by decide +kernel
theorem dX7_lacksExchange_12 : decode cX7_lacksExchange 12 = .ok (.getfield 15, 3) := by decide +kernel
theorem dX7_lacksExchange_15 : decode cX7_lacksExchange 15 = .ok (.iload_n 1, 1) := by decide +kernel
theorem dX7_lacksExchange_16 : decode cX7_lacksExchange 16 = .ok (.iaload, 1) := by decide +kernel
theorem dX7_lacksExchange_17 : decode cX7_lacksExchange 17 = .ok (.invokevirtual 61, 3) := by decide +kernel
theorem dX7_lacksExchange_20 : decode cX7_lacksExchange 20 = .ok (.istore_n 2, 1) := by decide +kernel
theorem dX7_lacksExchange_21 : decode cX7_lacksExchange 21 = .ok (.iload_n 2, 1) := by decide +kernel
theorem dX7_lacksExchange_22 : decode cX7_lacksExchange 22 = .ok (.iconst (-1), 1) := by decide +kernel
theorem dX7_lacksExchange_23 : decode cX7_lacksExchange 23 = .ok (.if_icmp .eq 17, 3) := by decide +kernel
theorem dX7_lacksExchange_26 : decode cX7_lacksExchange 26 = .ok (.aload_n 0, 1) := by decide +kernel
theorem dX7_lacksExchange_27 : decode cX7_lacksExchange 27 = .ok (.iconst 3, 1) := by decide +kernel
theorem dX7_lacksExchange_28 : decode cX7_lacksExchange 28 = .ok (.aload_n 0, 1) := by decide +kernel
theorem dX7_lacksExchange_29 : decode cX7_lacksExchange 29 = .ok (.getfield 15, 3) := by decide +kernel
theorem dX7_lacksExchange_32 : decode cX7_lacksExchange 32 = .ok (.iload_n 1, 1) := by decide +kernel
theorem dX7_lacksExchange_33 : decode cX7_lacksExchange 33 = .ok (.iaload, 1) := by decide +kernel
theorem dX7_lacksExchange_34 : decode cX7_lacksExchange 34 = .ok (.iload_n 2, 1) := by decide +kernel
theorem dX7_lacksExchange_35 : decode cX7_lacksExchange 35 = .ok (.invokevirtual 19, 3) := by decide +kernel
theorem dX7_lacksExchange_38 : decode cX7_lacksExchange 38 = .ok (.iconst 1, 1) := by decide +kernel
theorem dX7_lacksExchange_39 : decode cX7_lacksExchange 39 = .ok (.ireturn, 1) := by decide +kernel
theorem dX7_lacksExchange_40 : decode cX7_lacksExchange 40 = .ok (.iinc 1 1, 3) := by decide +kernel
theorem dX7_lacksExchange_43 : decode cX7_lacksExchange 43 = .ok (.goto (-41), 3) := by decide +kernel
theorem dX7_lacksExchange_46 : decode cX7_lacksExchange 46 = .ok (.iconst 0, 1) := by decide +kernel
theorem dX7_lacksExchange_47 : decode cX7_lacksExchange 47 = .ok (.ireturn, 1) := by decide +kernel
theorem dX7_leastWithNoneToCome_0 : decode cX7_leastWithNoneToCome 0 = .ok (.aload_n 0, 1) := by decide +kernel
theorem dX7_leastWithNoneToCome_1 : decode cX7_leastWithNoneToCome 1 = .ok (.iload_n 1, 1) := by decide +kernel
theorem dX7_leastWithNoneToCome_2 : decode cX7_leastWithNoneToCome 2 = .ok (.invokevirtual 64, 3) := by decide +kernel
theorem dX7_leastWithNoneToCome_5 : decode cX7_leastWithNoneToCome 5 = .ok (.istore_n 2, 1) := by decide +kernel
theorem dX7_leastWithNoneToCome_6 : decode cX7_leastWithNoneToCome 6 = .ok (.iconst 0, 1) := by decide +kernel
theorem dX7_leastWithNoneToCome_7 : decode cX7_leastWithNoneToCome 7 = .ok (.istore_n 3, 1) := by decide +kernel
theorem dX7_leastWithNoneToCome_8 : decode cX7_leastWithNoneToCome 8 = .ok (.iload_n 3, 1) := by decide +kernel
theorem dX7_leastWithNoneToCome_9 : decode cX7_leastWithNoneToCome 9 = .ok (.aload_n 0, 1) := by decide +kernel
theorem dX7_leastWithNoneToCome_10 : decode cX7_leastWithNoneToCome 10 = .ok (.getfield 54, 3) := by decide +kernel
theorem dX7_leastWithNoneToCome_13 : decode cX7_leastWithNoneToCome 13 = .ok (.if_icmp .ge 55, 3) := by decide +kernel
theorem dX7_leastWithNoneToCome_16 : decode cX7_leastWithNoneToCome 16 = .ok (.aload_n 0, 1) := by decide +kernel
theorem dX7_leastWithNoneToCome_17 : decode cX7_leastWithNoneToCome 17 = .ok (.getfield 15, 3) := by decide +kernel
theorem dX7_leastWithNoneToCome_20 : decode cX7_leastWithNoneToCome 20 = .ok (.iload_n 3, 1) := by decide +kernel
theorem dX7_leastWithNoneToCome_21 : decode cX7_leastWithNoneToCome 21 = .ok (.iaload, 1) := by decide +kernel
theorem dX7_leastWithNoneToCome_22 : decode cX7_leastWithNoneToCome 22 = .ok (.invokestatic 67, 3) := by decide +kernel
theorem dX7_leastWithNoneToCome_25 : decode cX7_leastWithNoneToCome 25 = .ok (.iload_n 1, 1) := by decide +kernel
theorem dX7_leastWithNoneToCome_26 : decode cX7_leastWithNoneToCome 26 = .ok (.invokestatic 67, 3) := by decide +kernel
theorem dX7_leastWithNoneToCome_29 : decode cX7_leastWithNoneToCome 29 = .ok (.if_icmp .le 7, 3) := by decide +kernel
theorem dX7_leastWithNoneToCome_32 : decode cX7_leastWithNoneToCome 32 = .ok (.iconst 1, 1) := by decide +kernel
theorem dX7_leastWithNoneToCome_33 : decode cX7_leastWithNoneToCome 33 = .ok (.goto 4, 3) := by decide +kernel
theorem dX7_leastWithNoneToCome_36 : decode cX7_leastWithNoneToCome 36 = .ok (.iconst 0, 1) := by decide +kernel
theorem dX7_leastWithNoneToCome_37 : decode cX7_leastWithNoneToCome 37 = .ok (.istore 4, 2) := by decide +kernel
theorem dX7_leastWithNoneToCome_39 : decode cX7_leastWithNoneToCome 39 = .ok (.iload 4, 2) := by decide +kernel
theorem dX7_leastWithNoneToCome_41 : decode cX7_leastWithNoneToCome 41 = .ok (.ifCond .eq 21, 3) := by decide +kernel
theorem dX7_leastWithNoneToCome_44 : decode cX7_leastWithNoneToCome 44 = .ok (.aload_n 0, 1) := by decide +kernel
theorem dX7_leastWithNoneToCome_45 : decode cX7_leastWithNoneToCome 45 = .ok (.getfield 15, 3) := by decide +kernel
theorem dX7_leastWithNoneToCome_48 : decode cX7_leastWithNoneToCome 48 = .ok (.iload_n 3, 1) := by decide +kernel
theorem dX7_leastWithNoneToCome_49 : decode cX7_leastWithNoneToCome 49 = .ok (.iaload, 1) := by decide +kernel
theorem dX7_leastWithNoneToCome_50 : decode cX7_leastWithNoneToCome 50 = .ok (.iload_n 2, 1) := by decide +kernel
theorem dX7_leastWithNoneToCome_51 : decode cX7_leastWithNoneToCome 51 = .ok (.iand, 1) := by decide +kernel
theorem dX7_leastWithNoneToCome_52 : decode cX7_leastWithNoneToCome 52 = .ok (.ifCond .ne 10, 3) := by decide +kernel
theorem dX7_leastWithNoneToCome_55 : decode cX7_leastWithNoneToCome 55 = .ok (.aload_n 0, 1) := by decide +kernel
theorem dX7_leastWithNoneToCome_56 : decode cX7_leastWithNoneToCome 56 = .ok (.getfield 15, 3) := by decide +kernel
theorem dX7_leastWithNoneToCome_59 : decode cX7_leastWithNoneToCome 59 = .ok (.iload_n 3, 1) := by decide +kernel
theorem dX7_leastWithNoneToCome_60 : decode cX7_leastWithNoneToCome 60 = .ok (.iaload, 1) := by decide +kernel
theorem dX7_leastWithNoneToCome_61 : decode cX7_leastWithNoneToCome 61 = .ok (.ireturn, 1) := by decide +kernel
theorem dX7_leastWithNoneToCome_62 : decode cX7_leastWithNoneToCome 62 = .ok (.iinc 3 1, 3) := by decide +kernel
theorem dX7_leastWithNoneToCome_65 : decode cX7_leastWithNoneToCome 65 = .ok (.goto (-57), 3) := by decide +kernel
theorem dX7_leastWithNoneToCome_68 : decode cX7_leastWithNoneToCome 68 = .ok (.iconst (-1), 1) := by decide +kernel
theorem dX7_leastWithNoneToCome_69 : decode cX7_leastWithNoneToCome 69 = .ok (.ireturn, 1) := by decide +kernel
theorem dX7_thingsThatMayCome_0 : decode cX7_thingsThatMayCome 0 = .ok (.iconst 0, 1) := by decide +kernel
theorem dX7_thingsThatMayCome_1 : decode cX7_thingsThatMayCome 1 = .ok (.istore_n 2, 1) := by decide +kernel
theorem dX7_thingsThatMayCome_2 : decode cX7_thingsThatMayCome 2 = .ok (.iconst 0, 1) := by decide +kernel
theorem dX7_thingsThatMayCome_3 : decode cX7_thingsThatMayCome 3 = .ok (.istore_n 3, 1) := by decide +kernel
theorem dX7_thingsThatMayCome_4 : decode cX7_thingsThatMayCome 4 = .ok (.iload_n 3, 1) := by decide +kernel
theorem dX7_thingsThatMayCome_5 : decode cX7_thingsThatMayCome 5 = .ok (.bipush 12, 2) := by decide +kernel
theorem dX7_thingsThatMayCome_7 : decode cX7_thingsThatMayCome 7 = .ok (.if_icmp .ge 37, 3) := by decide +kernel
theorem dX7_thingsThatMayCome_10 : decode cX7_thingsThatMayCome 10 = .ok (.iload_n 1, 1) := by decide +kernel
theorem dX7_thingsThatMayCome_11 : decode cX7_thingsThatMayCome 11 = .ok (.iconst 1, 1) := by decide +kernel
theorem dX7_thingsThatMayCome_12 : decode cX7_thingsThatMayCome 12 = .ok (.iload_n 3, 1) := by decide +kernel
theorem dX7_thingsThatMayCome_13 : decode cX7_thingsThatMayCome 13 = .ok (.ishl, 1) := by decide +kernel
theorem dX7_thingsThatMayCome_14 : decode cX7_thingsThatMayCome 14 = .ok (.ior, 1) := by decide +kernel
theorem dX7_thingsThatMayCome_15 : decode cX7_thingsThatMayCome 15 = .ok (.istore 4, 2) := by decide +kernel
theorem dX7_thingsThatMayCome_17 : decode cX7_thingsThatMayCome 17 = .ok (.iload 4, 2) := by decide +kernel
theorem dX7_thingsThatMayCome_19 : decode cX7_thingsThatMayCome 19 = .ok (.iload_n 1, 1) := by decide +kernel
theorem dX7_thingsThatMayCome_20 : decode cX7_thingsThatMayCome 20 = .ok (.if_icmp .eq 18, 3) := by decide +kernel
theorem dX7_thingsThatMayCome_23 : decode cX7_thingsThatMayCome 23 = .ok (.aload_n 0, 1) := by decide +kernel
theorem dX7_thingsThatMayCome_24 : decode cX7_thingsThatMayCome 24 = .ok (.iload 4, 2) := by decide +kernel
theorem dX7_thingsThatMayCome_26 : decode cX7_thingsThatMayCome 26 = .ok (.invokevirtual 33, 3) := by decide +kernel
theorem dX7_thingsThatMayCome_29 : decode cX7_thingsThatMayCome 29 = .ok (.ifCond .eq 9, 3) := by decide +kernel
theorem dX7_thingsThatMayCome_32 : decode cX7_thingsThatMayCome 32 = .ok (.iload_n 2, 1) := by decide +kernel
theorem dX7_thingsThatMayCome_33 : decode cX7_thingsThatMayCome 33 = .ok (.iconst 1, 1) := by decide +kernel
theorem dX7_thingsThatMayCome_34 : decode cX7_thingsThatMayCome 34 = .ok (.iload_n 3, 1) := by decide +kernel
theorem dX7_thingsThatMayCome_35 : decode cX7_thingsThatMayCome 35 = .ok (.ishl, 1) := by decide +kernel
theorem dX7_thingsThatMayCome_36 : decode cX7_thingsThatMayCome 36 = .ok (.ior, 1) := by decide +kernel
theorem dX7_thingsThatMayCome_37 : decode cX7_thingsThatMayCome 37 = .ok (.istore_n 2, 1) := by decide +kernel
theorem dX7_thingsThatMayCome_38 : decode cX7_thingsThatMayCome 38 = .ok (.iinc 3 1, 3) := by decide +kernel
theorem dX7_thingsThatMayCome_41 : decode cX7_thingsThatMayCome 41 = .ok (.goto (-37), 3) := by decide +kernel
theorem dX7_thingsThatMayCome_44 : decode cX7_thingsThatMayCome 44 = .ok (.iload_n 2, 1) := by decide +kernel
theorem dX7_thingsThatMayCome_45 : decode cX7_thingsThatMayCome 45 = .ok (.ireturn, 1) := by decide +kernel
theorem dX8_init_0 : decode cX8_init 0 = .ok (.aload_n 0, 1) := by decide +kernel
theorem dX8_init_1 : decode cX8_init 1 = .ok (.invokespecial 3, 3) := by decide +kernel
theorem dX8_init_4 : decode cX8_init 4 = .ok (.aload_n 0, 1) := by decide +kernel
theorem dX8_init_5 : decode cX8_init 5 = .ok (.bipush 12, 2) := by decide +kernel
theorem dX8_init_7 : decode cX8_init 7 = .ok (.bipush 6, 2) := by decide +kernel
theorem dX8_init_9 : decode cX8_init 9 = .ok (.multianewarray 9 2, 4) := by decide +kernel
theorem dX8_init_13 : decode cX8_init 13 = .ok (.putfield 11, 3) := by decide +kernel
theorem dX8_init_16 : decode cX8_init 16 = .ok (.aload_n 0, 1) := by decide +kernel
theorem dX8_init_17 : decode cX8_init 17 = .ok (.bipush 12, 2) := by decide +kernel
theorem dX8_init_19 : decode cX8_init 19 = .ok (.bipush 6, 2) := by decide +kernel
theorem dX8_init_21 : decode cX8_init 21 = .ok (.multianewarray 9 2, 4) := by decide +kernel
theorem dX8_init_25 : decode cX8_init 25 = .ok (.putfield 16, 3) := by decide +kernel
theorem dX8_init_28 : decode cX8_init 28 = .ok (.aload_n 0, 1) := by decide +kernel
theorem dX8_init_29 : decode cX8_init 29 = .ok (.bipush 12, 2) := by decide +kernel
theorem dX8_init_31 : decode cX8_init 31 = .ok (.newarray .int, 2) := by decide +kernel
theorem dX8_init_33 : decode cX8_init 33 = .ok (.putfield 19, 3) := by decide +kernel
theorem dX8_init_36 : decode cX8_init 36 = .ok (.aload_n 0, 1) := by decide +kernel
theorem dX8_init_37 : decode cX8_init 37 = .ok (.iconst 2, 1) := by decide +kernel
theorem dX8_init_38 : decode cX8_init 38 = .ok (.putfield 23, 3) := by decide +kernel
theorem dX8_init_41 : decode cX8_init 41 = .ok (.aload_n 0, 1) := by decide +kernel
theorem dX8_init_42 : decode cX8_init 42 = .ok (.iconst 1, 1) := by decide +kernel
theorem dX8_init_43 : decode cX8_init 43 = .ok (.putfield 27, 3) := by decide +kernel
theorem dX8_init_46 : decode cX8_init 46 = .ok (.return_, 1) := by decide +kernel
theorem dX8_readRows_0 : decode cX8_readRows 0 = .ok (.aload_n 0, 1) := by decide +kernel
theorem dX8_readRows_1 : decode cX8_readRows 1 = .ok (.aload_n 1, 1) := by decide +kernel
theorem dX8_readRows_2 : decode cX8_readRows 2 = .ok (.iconst 2, 1) := by decide +kernel
theorem dX8_readRows_3 : decode cX8_readRows 3 = .ok (.bipush 7, 2) := by decide +kernel
theorem dX8_readRows_5 : decode cX8_readRows 5 = .ok (.invokevirtual 30, 3) := by decide +kernel
theorem dX8_readRows_8 : decode cX8_readRows 8 = .ok (.putfield 23, 3) := by decide +kernel
theorem dX8_readRows_11 : decode cX8_readRows 11 = .ok (.aload_n 0, 1) := by decide +kernel
theorem dX8_readRows_12 : decode cX8_readRows 12 = .ok (.getfield 23, 3) := by decide +kernel
theorem dX8_readRows_15 : decode cX8_readRows 15 = .ok (.iconst 4, 1) := by decide +kernel
theorem dX8_readRows_16 : decode cX8_readRows 16 = .ok (.if_icmp .eq 12, 3) := by decide +kernel
theorem dX8_readRows_19 : decode cX8_readRows 19 = .ok (.aload_n 0, 1) := by decide +kernel
theorem dX8_readRows_20 : decode cX8_readRows 20 = .ok (.getfield 23, 3) := by decide +kernel
theorem dX8_readRows_23 : decode cX8_readRows 23 = .ok (.bipush 6, 2) := by decide +kernel
theorem dX8_readRows_25 : decode cX8_readRows 25 = .ok (.if_icmp .ne 7, 3) := by decide +kernel
theorem dX8_readRows_28 : decode cX8_readRows 28 = .ok (.aload_n 1, 1) := by decide +kernel
theorem dX8_readRows_29 : decode cX8_readRows 29 = .ok (.invokevirtual 36, 3) := by decide +kernel
theorem dX8_readRows_32 : decode cX8_readRows 32 = .ok (.aload_n 0, 1) := by decide +kernel
theorem dX8_readRows_33 : decode cX8_readRows 33 = .ok (.aload_n 1, 1) := by decide +kernel
theorem dX8_readRows_34 : decode cX8_readRows 34 = .ok (.iconst 1, 1) := by decide +kernel
theorem dX8_readRows_35 : decode cX8_readRows 35 = .ok (.bipush 6, 2) := by decide +kernel
theorem dX8_readRows_37 : decode cX8_readRows 37 = .ok (.invokevirtual 30, 3) := by decide +kernel
theorem dX8_readRows_40 : decode cX8_readRows 40 = .ok (.putfield 27, 3) := by decide +kernel
theorem dX8_readRows_43 : decode cX8_readRows 43 = .ok (.iconst 0, 1) := by decide +kernel
theorem dX8_readRows_44 : decode cX8_readRows 44 = .ok (.istore_n 3, 1) := by decide +kernel
theorem dX8_readRows_45 : decode cX8_readRows 45 = .ok (.iload_n 3, 1) := by decide +kernel
theorem dX8_readRows_46 : decode cX8_readRows 46 = .ok (.iload_n 2, 1) := by decide +kernel
theorem dX8_readRows_47 : decode cX8_readRows 47 = .ok (.if_icmp .ge 56, 3) := by decide +kernel
theorem dX8_readRows_50 : decode cX8_readRows 50 = .ok (.iload_n 3, 1) := by decide +kernel
theorem dX8_readRows_51 : decode cX8_readRows 51 = .ok (.aload_n 0, 1) := by decide +kernel
theorem dX8_readRows_52 : decode cX8_readRows 52 = .ok (.getfield 11, 3) := by decide +kernel
theorem dX8_readRows_55 : decode cX8_readRows 55 = .ok (.arraylength, 1) := by decide +kernel
theorem dX8_readRows_56 : decode cX8_readRows 56 = .ok (.if_icmp .ge 47, 3) := by decide +kernel
theorem dX8_readRows_59 : decode cX8_readRows 59 = .ok (.iconst 0, 1) := by decide +kernel
theorem dX8_readRows_60 : decode cX8_readRows 60 = .ok (.istore 4, 2) := by decide +kernel
theorem dX8_readRows_62 : decode cX8_readRows 62 = .ok (.iload 4, 2) := by decide +kernel
theorem dX8_readRows_64 : decode cX8_readRows 64 = .ok (.aload_n 0, 1) := by decide +kernel
theorem dX8_readRows_65 : decode cX8_readRows 65 = .ok (.getfield 27, 3) := by decide +kernel
theorem dX8_readRows_68 : decode cX8_readRows 68 = .ok (.if_icmp .ge 29, 3) := by decide +kernel
theorem dX8_readRows_71 : decode cX8_readRows 71 = .ok (.aload_n 0, 1) := by decide +kernel
theorem dX8_readRows_72 : decode cX8_readRows 72 = .ok (.getfield 11, 3) := by decide +kernel
theorem dX8_readRows_75 : decode cX8_readRows 75 = .ok (.iload_n 3, 1) := by decide +kernel
theorem dX8_readRows_76 : decode cX8_readRows 76 = .ok (.aaload, 1) := by decide +kernel
theorem dX8_readRows_77 : decode cX8_readRows 77 = .ok (.iload 4, 2) := by decide +kernel
theorem dX8_readRows_79 : decode cX8_readRows 79 = .ok (.aload_n 1, 1) := by decide +kernel
theorem dX8_readRows_80 : decode cX8_readRows 80 = .ok (.iconst 0, 1) := by decide +kernel
theorem dX8_readRows_81 : decode cX8_readRows 81 = .ok (.aload_n 0, 1) := by decide +kernel
theorem dX8_readRows_82 : decode cX8_readRows 82 = .ok (.getfield 23, 3) := by decide +kernel
theorem dX8_readRows_85 : decode cX8_readRows 85 = .ok (.iconst 1, 1) := by decide +kernel
theorem dX8_readRows_86 : decode cX8_readRows 86 = .ok (.isub, 1) := by decide +kernel
theorem dX8_readRows_87 : decode cX8_readRows 87 = .ok (.invokevirtual 30, 3) := by decide +kernel
theorem dX8_readRows_90 : decode cX8_readRows 90 = .ok (.iastore, 1) := by decide +kernel
theorem dX8_readRows_91 : decode cX8_readRows 91 = .ok (.iinc 4 1, 3) := by decide +kernel
theorem dX8_readRows_94 : decode cX8_readRows 94 = .ok (.goto (-32), 3) := by decide +kernel
theorem dX8_readRows_97 : decode cX8_readRows 97 = .ok (.iinc 3 1, 3) := by decide +kernel
theorem dX8_readRows_100 : decode cX8_readRows 100 = .ok (.goto (-55), 3) := by decide +kernel
theorem dX8_readRows_103 : decode cX8_readRows 103 = .ok (.return_, 1) := by decide +kernel
theorem dX8_fits_0 : decode cX8_fits 0 = .ok (.iload_n 1, 1) := by decide +kernel
theorem dX8_fits_1 : decode cX8_fits 1 = .ok (.ifCond .le 10, 3) := by decide +kernel
theorem dX8_fits_4 : decode cX8_fits 4 = .ok (.iload_n 1, 1) := by decide +kernel
theorem dX8_fits_5 : decode cX8_fits 5 = .ok (.bipush 12, 2) := by decide +kernel
theorem dX8_fits_7 : decode cX8_fits 7 = .ok (.ishr, 1) := by decide +kernel
theorem dX8_fits_8 : decode cX8_fits 8 = .ok (.ifCond .eq 13, 3) := by decide +kernel
theorem dX8_fits_11 : decode cX8_fits 11 = .ok (.iload_n 1, 1) := by decide +kernel
theorem dX8_fits_12 : decode cX8_fits 12 = .ok (.ifCond .ne 7, 3) := by decide +kernel
theorem dX8_fits_15 : decode cX8_fits 15 = .ok (.iconst 1, 1) := by decide +kernel
theorem dX8_fits_16 : decode cX8_fits 16 = .ok (.goto 4, 3) := by decide +kernel
theorem dX8_fits_19 : decode cX8_fits 19 = .ok (.iconst 0, 1) := by decide +kernel
theorem dX8_fits_20 : decode cX8_fits 20 = .ok (.ireturn, 1) := by decide +kernel
theorem dX8_fits_21 : decode cX8_fits 21 = .ok (.iload_n 1, 1) := by decide +kernel
theorem dX8_fits_22 : decode cX8_fits 22 = .ok (.iload_n 1, 1) := by decide +kernel
theorem dX8_fits_23 : decode cX8_fits 23 = .ok (.ineg, 1) := by decide +kernel
theorem dX8_fits_24 : decode cX8_fits 24 = .ok (.iand, 1) := by decide +kernel
theorem dX8_fits_25 : decode cX8_fits 25 = .ok (.iconst 1, 1) := by decide +kernel
theorem dX8_fits_26 : decode cX8_fits 26 = .ok (.isub, 1) := by decide +kernel
theorem dX8_fits_27 : decode cX8_fits 27 = .ok (.invokestatic 39, 3) := by decide +kernel
theorem dX8_fits_30 : decode cX8_fits 30 = .ok (.istore_n 2, 1) := by decide +kernel
theorem dX8_fits_31 : decode cX8_fits 31 = .ok (.iconst 0, 1) := by decide +kernel
theorem dX8_fits_32 : decode cX8_fits 32 = .ok (.istore_n 3, 1) := by decide +kernel
theorem dX8_fits_33 : decode cX8_fits 33 = .ok (.iload_n 3, 1) := by decide +kernel
theorem dX8_fits_34 : decode cX8_fits 34 = .ok (.aload_n 0, 1) := by decide +kernel
theorem dX8_fits_35 : decode cX8_fits 35 = .ok (.getfield 27, 3) := by decide +kernel
theorem dX8_fits_38 : decode cX8_fits 38 = .ok (.if_icmp .ge 25, 3) := by decide +kernel
theorem dX8_fits_41 : decode cX8_fits 41 = .ok (.aload_n 0, 1) := by decide +kernel
theorem dX8_fits_42 : decode cX8_fits 42 = .ok (.getfield 16, 3) := by decide +kernel
theorem dX8_fits_45 : decode cX8_fits 45 = .ok (.iload_n 2, 1) := by decide +kernel
theorem dX8_fits_46 : decode cX8_fits 46 = .ok (.aaload, 1) := by decide +kernel
theorem dX8_fits_47 : decode cX8_fits 47 = .ok (.iload_n 3, 1) := by decide +kernel
theorem dX8_fits_48 : decode cX8_fits 48 = .ok (.aload_n 0, 1) := by decide +kernel
theorem dX8_fits_49 : decode cX8_fits 49 = .ok (.getfield 11, 3) := by decide +kernel
theorem dX8_fits_52 : decode cX8_fits 52 = .ok (.iload_n 2, 1) := by decide +kernel
theorem dX8_fits_53 : decode cX8_fits 53 = .ok (.aaload, 1) := by decide +kernel
theorem dX8_fits_54 : decode cX8_fits 54 = .ok (.iload_n 3, 1) := by decide +kernel
theorem dX8_fits_55 : decode cX8_fits 55 = .ok (.iaload, 1) := by decide +kernel
theorem dX8_fits_56 : decode cX8_fits 56 = .ok (.iastore, 1) := by decide +kernel
theorem dX8_fits_57 : decode cX8_fits 57 = .ok (.iinc 3 1, 3) := by decide +kernel
theorem dX8_fits_60 : decode cX8_fits 60 = .ok (.goto (-27), 3) := by decide +kernel
theorem dX8_fits_63 : decode cX8_fits 63 = .ok (.bipush 11, 2) := by decide +kernel
theorem dX8_fits_65 : decode cX8_fits 65 = .ok (.istore_n 3, 1) := by decide +kernel
theorem dX8_fits_66 : decode cX8_fits 66 = .ok (.iload_n 3, 1) := by decide +kernel
theorem dX8_fits_67 : decode cX8_fits 67 = .ok (.iload_n 2, 1) := by decide +kernel
theorem dX8_fits_68 : decode cX8_fits 68 = .ok (.if_icmp .le 39, 3) := by decide +kernel
theorem dX8_fits_71 : decode cX8_fits 71 = .ok (.iload_n 1, 1) := by decide +kernel
theorem dX8_fits_72 : decode cX8_fits 72 = .ok (.iload_n 3, 1) := by decide +kernel
theorem dX8_fits_73 : decode cX8_fits 73 = .ok (.ishr, 1) := by decide +kernel
theorem dX8_fits_74 : decode cX8_fits 74 = .ok (.iconst 1, 1) := by decide +kernel
theorem dX8_fits_75 : decode cX8_fits 75 = .ok (.iand, 1) := by decide +kernel
theorem dX8_fits_76 : decode cX8_fits 76 = .ok (.ifCond .eq 25, 3) := by decide +kernel
theorem dX8_fits_79 : decode cX8_fits 79 = .ok (.aload_n 0, 1) := by decide +kernel
theorem dX8_fits_80 : decode cX8_fits 80 = .ok (.aload_n 0, 1) := by decide +kernel
theorem dX8_fits_81 : decode cX8_fits 81 = .ok (.getfield 16, 3) := by decide +kernel
theorem dX8_fits_84 : decode cX8_fits 84 = .ok (.iload_n 2, 1) := by decide +kernel
theorem dX8_fits_85 : decode cX8_fits 85 = .ok (.aaload, 1) := by decide +kernel
theorem dX8_fits_86 : decode cX8_fits 86 = .ok (.aload_n 0, 1) := by decide +kernel
theorem dX8_fits_87 : decode cX8_fits 87 = .ok (.getfield 16, 3) := by decide +kernel
theorem dX8_fits_90 : decode cX8_fits 90 = .ok (.iload_n 3, 1) := by decide +kernel
theorem dX8_fits_91 : decode cX8_fits 91 = .ok (.aaload, 1) := by decide +kernel
theorem dX8_fits_92 : decode cX8_fits 92 = .ok (.aload_n 0, 1) := by decide +kernel
theorem dX8_fits_93 : decode cX8_fits 93 = .ok (.getfield 19, 3) := by decide +kernel
theorem dX8_fits_96 : decode cX8_fits 96 = .ok (.iload_n 3, 1) := by decide +kernel
theorem dX8_fits_97 : decode cX8_fits 97 = .ok (.iaload, 1) := by decide +kernel
theorem dX8_fits_98 : decode cX8_fits 98 = .ok (.invokevirtual 45, 3) := by decide +kernel
theorem dX8_fits_101 : decode cX8_fits 101 = .ok (.iinc 3 (-1), 3) := by decide +kernel
theorem dX8_fits_104 : decode cX8_fits 104 = .ok (.goto (-38), 3) := by decide +kernel
theorem dX8_fits_107 : decode cX8_fits 107 = .ok (.aload_n 0, 1) := by decide +kernel
theorem dX8_fits_108 : decode cX8_fits 108 = .ok (.getfield 19, 3) := by decide +kernel
theorem dX8_fits_111 : decode cX8_fits 111 = .ok (.iload_n 2, 1) := by decide +kernel
theorem dX8_fits_112 : decode cX8_fits 112 = .ok (.aload_n 0, 1) := by decide +kernel
theorem dX8_fits_113 : decode cX8_fits 113 = .ok (.aload_n 0, 1) := by decide +kernel
theorem dX8_fits_114 : decode cX8_fits 114 = .ok (.getfield 16, 3) := by decide +kernel
theorem dX8_fits_117 : decode cX8_fits 117 = .ok (.iload_n 2, 1) := by decide +kernel
theorem dX8_fits_118 : decode cX8_fits 118 = .ok (.aaload, 1) := by decide +kernel
theorem dX8_fits_119 : decode cX8_fits 119 = .ok (.invokevirtual 49, 3) := by decide +kernel
theorem dX8_fits_122 : decode cX8_fits 122 = .ok (.iastore, 1) := by decide +kernel
theorem dX8_fits_123 : decode cX8_fits 123 = .ok (.aload_n 0, 1) := by decide +kernel
theorem dX8_fits_124 : decode cX8_fits 124 = .ok (.getfield 19, 3) := by decide +kernel
theorem dX8_fits_127 : decode cX8_fits 127 = .ok (.iload_n 2, 1) := by decide +kernel
theorem dX8_fits_128 : decode cX8_fits 128 = .ok (.iaload, 1) := by decide +kernel
theorem dX8_fits_129 : decode cX8_fits 129 = .ok (.iconst (-1), 1) := by decide +kernel
theorem dX8_fits_130 : decode cX8_fits 130 = .ok (.if_icmp .eq 7, 3) := by decide +kernel
theorem dX8_fits_133 : decode cX8_fits 133 = .ok (.iconst 1, 1) := by decide +kernel
theorem dX8_fits_134 : decode cX8_fits 134 = .ok (.goto 4, 3) := by decide +kernel
theorem dX8_fits_137 : decode cX8_fits 137 = .ok (.iconst 0, 1) := by decide +kernel
theorem dX8_fits_138 : decode cX8_fits 138 = .ok (.ireturn, 1) := by decide +kernel
theorem dX8_clearLead_0 : decode cX8_clearLead 0 = .ok (.iload_n 3, 1) := by decide +kernel
theorem dX8_clearLead_1 : decode cX8_clearLead 1 = .ok (.ifCond .lt 11, 3) := by decide +kernel
theorem dX8_clearLead_4 : decode cX8_clearLead 4 = .ok (.iload_n 3, 1) := by decide +kernel
theorem dX8_clearLead_5 : decode cX8_clearLead 5 = .ok (.aload_n 0, 1) := by decide +kernel
theorem dX8_clearLead_6 : decode cX8_clearLead 6 = .ok (.getfield 27, 3) := by decide +kernel
theorem dX8_clearLead_9 : decode cX8_clearLead 9 = .ok (.if_icmp .lt 4, 3) := by decide +kernel
theorem dX8_clearLead_12 : decode cX8_clearLead 12 = .ok (.return_, 1) := by decide +kernel
theorem dX8_clearLead_13 : decode cX8_clearLead 13 = .ok (.aload_n 2, 1) := by decide +kernel
theorem dX8_clearLead_14 : decode cX8_clearLead 14 = .ok (.iload_n 3, 1) := by decide +kernel
theorem dX8_clearLead_15 : decode cX8_clearLead 15 = .ok (.iaload, 1) := by decide +kernel
theorem dX8_clearLead_16 : decode cX8_clearLead 16 = .ok (.istore 4, 2) := by decide +kernel
theorem dX8_clearLead_18 : decode cX8_clearLead 18 = .ok (.aload_n 0, 1) := by decide +kernel
theorem dX8_clearLead_19 : decode cX8_clearLead 19 = .ok (.getfield 23, 3) := by decide +kernel
theorem dX8_clearLead_22 : decode cX8_clearLead 22 = .ok (.aload_n 1, 1) := by decide +kernel
theorem dX8_clearLead_23 : decode cX8_clearLead 23 = .ok (.iload_n 3, 1) := by decide +kernel
theorem dX8_clearLead_24 : decode cX8_clearLead 24 = .ok (.iaload, 1) := by decide +kernel
theorem dX8_clearLead_25 : decode cX8_clearLead 25 = .ok (.isub, 1) := by decide +kernel
theorem dX8_clearLead_26 : decode cX8_clearLead 26 = .ok (.istore 5, 2) := by decide +kernel
theorem dX8_clearLead_28 : decode cX8_clearLead 28 = .ok (.iconst 0, 1) := by decide +kernel
theorem dX8_clearLead_29 : decode cX8_clearLead 29 = .ok (.istore 6, 2) := by decide +kernel
theorem dX8_clearLead_31 : decode cX8_clearLead 31 = .ok (.iload 6, 2) := by decide +kernel
theorem dX8_clearLead_33 : decode cX8_clearLead 33 = .ok (.aload_n 0, 1) := by decide +kernel
theorem dX8_clearLead_34 : decode cX8_clearLead 34 = .ok (.getfield 27, 3) := by decide +kernel
theorem dX8_clearLead_37 : decode cX8_clearLead 37 = .ok (.if_icmp .ge 32, 3) := by decide +kernel
theorem dX8_clearLead_40 : decode cX8_clearLead 40 = .ok (.aload_n 1, 1) := by decide +kernel
theorem dX8_clearLead_41 : decode cX8_clearLead 41 = .ok (.iload 6, 2) := by decide +kernel
theorem dX8_clearLead_43 : decode cX8_clearLead 43 = .ok (.aload_n 0, 1) := by decide +kernel
theorem dX8_clearLead_44 : decode cX8_clearLead 44 = .ok (.iload 4, 2) := by decide +kernel
theorem dX8_clearLead_46 : decode cX8_clearLead 46 = .ok (.aload_n 1, 1) := by decide +kernel
theorem dX8_clearLead_47 : decode cX8_clearLead 47 = .ok (.iload 6, 2) := by decide +kernel
theorem dX8_clearLead_49 : decode cX8_clearLead 49 = .ok (.iaload, 1) := by decide +kernel
theorem dX8_clearLead_50 : decode cX8_clearLead 50 = .ok (.imul, 1) := by decide +kernel
theorem dX8_clearLead_51 : decode cX8_clearLead 51 = .ok (.iload 5, 2) := by decide +kernel
theorem dX8_clearLead_53 : decode cX8_clearLead 53 = .ok (.aload_n 2, 1) := by decide +kernel
theorem dX8_clearLead_54 : decode cX8_clearLead 54 = .ok (.iload 6, 2) := by decide +kernel
theorem dX8_clearLead_56 : decode cX8_clearLead 56 = .ok (.iaload, 1) := by decide +kernel
theorem dX8_clearLead_57 : decode cX8_clearLead 57 = .ok (.imul, 1) := by decide +kernel
theorem dX8_clearLead_58 : decode cX8_clearLead 58 = .ok (.iadd, 1) := by decide +kernel
theorem dX8_clearLead_59 : decode cX8_clearLead 59 = .ok (.invokevirtual 53, 3) := by decide +kernel
theorem dX8_clearLead_62 : decode cX8_clearLead 62 = .ok (.iastore, 1) := by decide +kernel
theorem dX8_clearLead_63 : decode cX8_clearLead 63 = .ok (.iinc 6 1, 3) := by decide +kernel
theorem dX8_clearLead_66 : decode cX8_clearLead 66 = .ok (.goto (-35), 3) := by decide +kernel
theorem dX8_clearLead_69 : decode cX8_clearLead 69 = .ok (.return_, 1) := by decide +kernel
theorem dX8_modulo_0 : decode cX8_modulo 0 = .ok (.aload_n 0, 1) := by decide +kernel
theorem dX8_modulo_1 : decode cX8_modulo 1 = .ok (.getfield 23, 3) := by decide +kernel
theorem dX8_modulo_4 : decode cX8_modulo 4 = .ok (.ifCond .le 12, 3) := by decide +kernel
theorem dX8_modulo_7 : decode cX8_modulo 7 = .ok (.iload_n 1, 1) := by decide +kernel
theorem dX8_modulo_8 : decode cX8_modulo 8 = .ok (.aload_n 0, 1) := by decide +kernel
theorem dX8_modulo_9 : decode cX8_modulo 9 = .ok (.getfield 23, 3) := by decide +kernel
theorem dX8_modulo_12 : decode cX8_modulo 12 = .ok (.irem, 1) := by decide +kernel
theorem dX8_modulo_13 : decode cX8_modulo 13 = .ok (.goto 4, 3) := by decide +kernel
theorem dX8_modulo_16 : decode cX8_modulo 16 = .ok (.iconst 0, 1) := by decide +kernel
theorem dX8_modulo_17 : decode cX8_modulo 17 = .ok (.ireturn, 1) := by decide +kernel
theorem dX8_firstNotZero_0 : decode cX8_firstNotZero 0 = .ok (.iconst 0, 1) := by decide +kernel
theorem dX8_firstNotZero_1 : decode cX8_firstNotZero 1 = .ok (.istore_n 2, 1) := by decide +kernel
theorem dX8_firstNotZero_2 : decode cX8_firstNotZero 2 = .ok (.iload_n 2, 1) := by decide +kernel
theorem dX8_firstNotZero_3 : decode cX8_firstNotZero 3 = .ok (.aload_n 0, 1) := by decide +kernel
theorem dX8_firstNotZero_4 : decode cX8_firstNotZero 4 = .ok (.getfield 27, 3) := by decide +kernel
theorem dX8_firstNotZero_7 : decode cX8_firstNotZero 7 = .ok (.if_icmp .ge 17, 3) := by decide +kernel
theorem dX8_firstNotZero_10 : decode cX8_firstNotZero 10 = .ok (.aload_n 1, 1) := by decide +kernel
theorem dX8_firstNotZero_11 : decode cX8_firstNotZero 11 = .ok (.iload_n 2, 1) := by decide +kernel
theorem dX8_firstNotZero_12 : decode cX8_firstNotZero 12 = .ok (.iaload, 1) := by decide +kernel
theorem dX8_firstNotZero_13 : decode cX8_firstNotZero 13 = .ok (.ifCond .eq 5, 3) := by decide +kernel
theorem dX8_firstNotZero_16 : decode cX8_firstNotZero 16 = .ok (.iload_n 2, 1) := by decide +kernel
theorem dX8_firstNotZero_17 : decode cX8_firstNotZero 17 = .ok (.ireturn, 1) := by decide +kernel
theorem dX8_firstNotZero_18 : decode cX8_firstNotZero 18 = .ok (.iinc 2 1, 3) := by decide +kernel
theorem dX8_firstNotZero_21 : decode cX8_firstNotZero 21 = .ok (.goto (-19), 3) := by decide +kernel
theorem dX8_firstNotZero_24 : decode cX8_firstNotZero 24 = .ok (.iconst (-1), 1) := by decide +kernel
theorem dX8_firstNotZero_25 : decode cX8_firstNotZero 25 = .ok (.ireturn, 1) := by decide +kernel
theorem dX9_init_0 : decode cX9_init 0 = .ok (.aload_n 0, 1) := by decide +kernel
theorem dX9_init_1 : decode cX9_init 1 = .ok (.invokespecial 1, 3) := by decide +kernel
theorem dX9_init_4 : decode cX9_init 4 = .ok (.aload_n 0, 1) := by decide +kernel
theorem dX9_init_5 : decode cX9_init 5 = .ok (.bipush 10, 2) := by decide +kernel
theorem dX9_init_7 : decode cX9_init 7 = .ok (.anewarray 9, 3) := by decide +kernel
theorem dX9_init_10 : decode cX9_init 10 = .ok (.putfield 11, 3) := by decide +kernel
theorem dX9_init_13 : decode cX9_init 13 = .ok (.aload_n 0, 1) := by decide +kernel
theorem dX9_init_14 : decode cX9_init 14 = .ok (.bipush 24, 2) := by decide +kernel
theorem dX9_init_16 : decode cX9_init 16 = .ok (.anewarray 15, 3) := by decide +kernel
theorem dX9_init_19 : decode cX9_init 19 = .ok (.putfield 17, 3) := by decide +kernel
theorem dX9_init_22 : decode cX9_init 22 = .ok (.aload_n 0, 1) := by decide +kernel
theorem dX9_init_23 : decode cX9_init 23 = .ok (.bipush 12, 2) := by decide +kernel
theorem dX9_init_25 : decode cX9_init 25 = .ok (.newarray .int, 2) := by decide +kernel
theorem dX9_init_27 : decode cX9_init 27 = .ok (.putfield 21, 3) := by decide +kernel
theorem dX9_init_30 : decode cX9_init 30 = .ok (.aload_n 0, 1) := by decide +kernel
theorem dX9_init_31 : decode cX9_init 31 = .ok (.bipush 12, 2) := by decide +kernel
theorem dX9_init_33 : decode cX9_init 33 = .ok (.newarray .int, 2) := by decide +kernel
theorem dX9_init_35 : decode cX9_init 35 = .ok (.putfield 25, 3) := by decide +kernel
theorem dX9_init_38 : decode cX9_init 38 = .ok (.aload_n 0, 1) := by decide +kernel
theorem dX9_init_39 : decode cX9_init 39 = .ok (.new 28, 3) := by decide +kernel
theorem dX9_init_42 : decode cX9_init 42 = .ok (.dup, 1) := by decide +kernel
theorem dX9_init_43 : decode cX9_init 43 = .ok (.invokespecial 30, 3) := by decide +kernel
theorem dX9_init_46 : decode cX9_init 46 = .ok (.putfield 31, 3) := by decide +kernel
theorem dX9_init_49 : decode cX9_init 49 = .ok (.aload_n 0, 1) := by decide +kernel
theorem dX9_init_50 : decode cX9_init 50 = .ok (.new 35, 3) := by decide +kernel
theorem dX9_init_53 : decode cX9_init 53 = .ok (.dup, 1) := by decide +kernel
theorem dX9_init_54 : decode cX9_init 54 = .ok (.invokespecial 37, 3) := by decide +kernel
theorem dX9_init_57 : decode cX9_init 57 = .ok (.putfield 38, 3) := by decide +kernel
theorem dX9_init_60 : decode cX9_init 60 = .ok (.aload_n 0, 1) := by decide +kernel
theorem dX9_init_61 : decode cX9_init 61 = .ok (.new 42, 3) := by decide +kernel
theorem dX9_init_64 : decode cX9_init 64 = .ok (.dup, 1) := by decide +kernel
theorem dX9_init_65 : decode cX9_init 65 = .ok (.invokespecial 44, 3) := by decide +kernel
theorem dX9_init_68 : decode cX9_init 68 = .ok (.putfield 45, 3) := by decide +kernel
theorem dX9_init_71 : decode cX9_init 71 = .ok (.aload_n 0, 1) := by decide +kernel
theorem dX9_init_72 : decode cX9_init 72 = .ok (.new 49, 3) := by decide +kernel
theorem dX9_init_75 : decode cX9_init 75 = .ok (.dup, 1) := by decide +kernel
theorem dX9_init_76 : decode cX9_init 76 = .ok (.invokespecial 51, 3) := by decide +kernel
theorem dX9_init_79 : decode cX9_init 79 = .ok (.putfield 52, 3) := by decide +kernel
theorem dX9_init_82 : decode cX9_init 82 = .ok (.aload_n 0, 1) := by decide +kernel
theorem dX9_init_83 : decode cX9_init 83 = .ok (.new 56, 3) := by decide +kernel
theorem dX9_init_86 : decode cX9_init 86 = .ok (.dup, 1) := by decide +kernel
theorem dX9_init_87 : decode cX9_init 87 = .ok (.invokespecial 58, 3) := by decide +kernel
theorem dX9_init_90 : decode cX9_init 90 = .ok (.putfield 59, 3) := by decide +kernel
theorem dX9_init_93 : decode cX9_init 93 = .ok (.iconst 0, 1) := by decide +kernel
theorem dX9_init_94 : decode cX9_init 94 = .ok (.istore_n 1, 1) := by decide +kernel
theorem dX9_init_95 : decode cX9_init 95 = .ok (.iload_n 1, 1) := by decide +kernel
theorem dX9_init_96 : decode cX9_init 96 = .ok (.aload_n 0, 1) := by decide +kernel
theorem dX9_init_97 : decode cX9_init 97 = .ok (.getfield 11, 3) := by decide +kernel
theorem dX9_init_100 : decode cX9_init 100 = .ok (.arraylength, 1) := by decide +kernel
theorem dX9_init_101 : decode cX9_init 101 = .ok (.if_icmp .ge 22, 3) := by decide +kernel
theorem dX9_init_104 : decode cX9_init 104 = .ok (.aload_n 0, 1) := by decide +kernel
theorem dX9_init_105 : decode cX9_init 105 = .ok (.getfield 11, 3) := by decide +kernel
theorem dX9_init_108 : decode cX9_init 108 = .ok (.iload_n 1, 1) := by decide +kernel
theorem dX9_init_109 : decode cX9_init 109 = .ok (.new 9, 3) := by decide +kernel
theorem dX9_init_112 : decode cX9_init 112 = .ok (.dup, 1) := by decide +kernel
theorem dX9_init_113 : decode cX9_init 113 = .ok (.invokespecial 63, 3) := by decide +kernel
theorem dX9_init_116 : decode cX9_init 116 = .ok (.aastore, 1) := by decide +kernel
theorem dX9_init_117 : decode cX9_init 117 = .ok (.iinc 1 1, 3) := by decide +kernel
theorem dX9_init_120 : decode cX9_init 120 = .ok (.goto (-25), 3) := by decide +kernel
theorem dX9_init_123 : decode cX9_init 123 = .ok (.aload_n 0, 1) := by decide +kernel
theorem dX9_init_124 : decode cX9_init 124 = .ok (.bipush 8, 2) := by decide +kernel
theorem dX9_init_126 : decode cX9_init 126 = .ok (.invokevirtual 64, 3) := by decide +kernel
theorem dX9_init_129 : decode cX9_init 129 = .ok (.return_, 1) := by decide +kernel
theorem dX9_fresh_0 : decode cX9_fresh 0 = .ok (.iload_n 1, 1) := by decide +kernel
theorem dX9_fresh_1 : decode cX9_fresh 1 = .ok (.iconst 1, 1) := by decide +kernel
theorem dX9_fresh_2 : decode cX9_fresh 2 = .ok (.if_icmp .lt 9, 3) := by decide +kernel
theorem dX9_fresh_5 : decode cX9_fresh 5 = .ok (.iload_n 1, 1) := by decide +kernel
theorem dX9_fresh_6 : decode cX9_fresh 6 = .ok (.bipush 12, 2) := by decide +kernel
theorem dX9_fresh_8 : decode cX9_fresh 8 = .ok (.if_icmp .le 5, 3) := by decide +kernel
theorem dX9_fresh_11 : decode cX9_fresh 11 = .ok (.iconst 0, 1) := by decide +kernel
theorem dX9_fresh_12 : decode cX9_fresh 12 = .ok (.ireturn, 1) := by decide +kernel
theorem dX9_fresh_13 : decode cX9_fresh 13 = .ok (.aload_n 0, 1) := by decide +kernel
theorem dX9_fresh_14 : decode cX9_fresh 14 = .ok (.iload_n 1, 1) := by decide +kernel
theorem dX9_fresh_15 : decode cX9_fresh 15 = .ok (.invokevirtual 64, 3) := by decide +kernel
theorem dX9_fresh_18 : decode cX9_fresh 18 = .ok (.iconst 1, 1) := by decide +kernel
theorem dX9_fresh_19 : decode cX9_fresh 19 = .ok (.ireturn, 1) := by decide +kernel
theorem dX9_weight_0 : decode cX9_weight 0 = .ok (.aload_n 0, 1) := by decide +kernel
theorem dX9_weight_1 : decode cX9_weight 1 = .ok (.iload_n 1, 1) := by decide +kernel
theorem dX9_weight_2 : decode cX9_weight 2 = .ok (.invokevirtual 68, 3) := by decide +kernel
theorem dX9_weight_5 : decode cX9_weight 5 = .ok (.ifCond .eq 13, 3) := by decide +kernel
theorem dX9_weight_8 : decode cX9_weight 8 = .ok (.iload_n 2, 1) := by decide +kernel
theorem dX9_weight_9 : decode cX9_weight 9 = .ok (.ifCond .lt 9, 3) := by decide +kernel
theorem dX9_weight_12 : decode cX9_weight 12 = .ok (.iload_n 2, 1) := by decide +kernel
theorem dX9_weight_13 : decode cX9_weight 13 = .ok (.ldc 72, 2) := by decide +kernel
theorem dX9_weight_15 : decode cX9_weight 15 = .ok (.if_icmp .le 5, 3) := by decide +kernel
theorem dX9_weight_18 : decode cX9_weight 18 = .ok (.iconst (-1), 1) := by decide +kernel
theorem dX9_weight_19 : decode cX9_weight 19 = .ok (.ireturn, 1) := by decide +kernel
theorem dX9_weight_20 : decode cX9_weight 20 = .ok (.aload_n 0, 1) := by decide +kernel
theorem dX9_weight_21 : decode cX9_weight 21 = .ok (.getfield 21, 3) := by decide +kernel
theorem dX9_weight_24 : decode cX9_weight 24 = .ok (.iload_n 1, 1) := by decide +kernel
theorem dX9_weight_25 : decode cX9_weight 25 = .ok (.iaload, 1) := by decide +kernel
theorem dX9_weight_26 : decode cX9_weight 26 = .ok (.istore_n 3, 1) := by decide +kernel
theorem dX9_weight_27 : decode cX9_weight 27 = .ok (.aload_n 0, 1) := by decide +kernel
theorem dX9_weight_28 : decode cX9_weight 28 = .ok (.getfield 21, 3) := by decide +kernel
theorem dX9_weight_31 : decode cX9_weight 31 = .ok (.iload_n 1, 1) := by decide +kernel
theorem dX9_weight_32 : decode cX9_weight 32 = .ok (.iload_n 2, 1) := by decide +kernel
theorem dX9_weight_33 : decode cX9_weight 33 = .ok (.iastore, 1) := by decide +kernel
theorem dX9_weight_34 : decode cX9_weight 34 = .ok (.iload_n 3, 1) := by decide +kernel
theorem dX9_weight_35 : decode cX9_weight 35 = .ok (.ireturn, 1) := by decide +kernel
theorem dX9_row_0 : decode cX9_row 0 = .ok (.aload_n 0, 1) := by decide +kernel
theorem dX9_row_1 : decode cX9_row 1 = .ok (.iload_n 1, 1) := by decide +kernel
theorem dX9_row_2 : decode cX9_row 2 = .ok (.invokevirtual 73, 3) := by decide +kernel
theorem dX9_row_5 : decode cX9_row 5 = .ok (.astore 4, 2) := by decide +kernel
theorem dX9_row_7 : decode cX9_row 7 = .ok (.aload 4, 2) := by decide +kernel
theorem dX9_row_9 : decode cX9_row 9 = .ok (.ifnull 19, 3) := by decide +kernel
theorem dX9_row_12 : decode cX9_row 12 = .ok (.iload_n 2, 1) := by decide +kernel
theorem dX9_row_13 : decode cX9_row 13 = .ok (.ifCond .lt 15, 3) := by decide +kernel
theorem dX9_row_16 : decode cX9_row 16 = .ok (.iload_n 2, 1) := by decide +kernel
theorem dX9_row_17 : decode cX9_row 17 = .ok (.iconst 3, 1) := by decide +kernel
theorem dX9_row_18 : decode cX9_row 18 = .ok (.if_icmp .gt 10, 3) := by decide +kernel
theorem dX9_row_21 : decode cX9_row 21 = .ok (.iload_n 3, 1) := by decide +kernel
theorem dX9_row_22 : decode cX9_row 22 = .ok (.sipush 200, 3) := by decide +kernel
theorem dX9_row_25 : decode cX9_row 25 = .ok (.if_icmp .le 6, 3) := by decide +kernel
theorem dX9_row_28 : decode cX9_row 28 = .ok (.bipush (-2), 2) := by decide +kernel
theorem dX9_row_30 : decode cX9_row 30 = .ok (.ireturn, 1) := by decide +kernel
theorem dX9_row_31 : decode cX9_row 31 = .ok (.iload_n 3, 1) := by decide +kernel
theorem dX9_row_32 : decode cX9_row 32 = .ok (.ifCond .ge 6, 3) := by decide +kernel
theorem dX9_row_35 : decode cX9_row 35 = .ok (.bipush (-3), 2) := by decide +kernel
theorem dX9_row_37 : decode cX9_row 37 = .ok (.ireturn, 1) := by decide +kernel
theorem dX9_row_38 : decode cX9_row 38 = .ok (.aload 4, 2) := by decide +kernel
theorem dX9_row_40 : decode cX9_row 40 = .ok (.iload_n 2, 1) := by decide +kernel
theorem dX9_row_41 : decode cX9_row 41 = .ok (.iload_n 3, 1) := by decide +kernel
theorem dX9_row_42 : decode cX9_row 42 = .ok (.invokevirtual 77, 3) := by decide +kernel
theorem dX9_row_45 : decode cX9_row 45 = .ok (.iconst 0, 1) := by decide +kernel
theorem dX9_row_46 : decode cX9_row 46 = .ok (.ireturn, 1) := by decide +kernel
theorem dX9_tear_0 : decode cX9_tear 0 = .ok (.aload_n 0, 1) := by decide +kernel
theorem dX9_tear_1 : decode cX9_tear 1 = .ok (.iload_n 1, 1) := by decide +kernel
theorem dX9_tear_2 : decode cX9_tear 2 = .ok (.invokevirtual 73, 3) := by decide +kernel
theorem dX9_tear_5 : decode cX9_tear 5 = .ok (.astore_n 2, 1) := by decide +kernel
theorem dX9_tear_6 : decode cX9_tear 6 = .ok (.aload_n 2, 1) := by decide +kernel
theorem dX9_tear_7 : decode cX9_tear 7 = .ok (.ifnull 10, 3) := by decide +kernel
theorem dX9_tear_10 : decode cX9_tear 10 = .ok (.aload_n 2, 1) := by decide +kernel
theorem dX9_tear_11 : decode cX9_tear 11 = .ok (.invokevirtual 81, 3) := by decide +kernel
theorem dX9_tear_14 : decode cX9_tear 14 = .ok (.ifCond .ne 5, 3) := by decide +kernel
theorem dX9_tear_17 : decode cX9_tear 17 = .ok (.iconst 0, 1) := by decide +kernel
theorem dX9_tear_18 : decode cX9_tear 18 = .ok (.ireturn, 1) := by decide +kernel
theorem dX9_tear_19 : decode cX9_tear 19 = .ok (.aload_n 2, 1) := by decide +kernel
theorem dX9_tear_20 : decode cX9_tear 20 = .ok (.invokevirtual 85, 3) := by decide +kernel
theorem dX9_tear_23 : decode cX9_tear 23 = .ok (.iconst 1, 1) := by decide +kernel
theorem dX9_tear_24 : decode cX9_tear 24 = .ok (.ireturn, 1) := by decide +kernel
theorem dX9_write_0 : decode cX9_write 0 = .ok (.aload_n 0, 1) := by decide +kernel
theorem dX9_write_1 : decode cX9_write 1 = .ok (.iload_n 1, 1) := by decide +kernel
theorem dX9_write_2 : decode cX9_write 2 = .ok (.iload_n 2, 1) := by decide +kernel
theorem dX9_write_3 : decode cX9_write 3 = .ok (.invokevirtual 88, 3) := by decide +kernel
theorem dX9_write_6 : decode cX9_write 6 = .ok (.istore 5, 2) := by decide +kernel
theorem dX9_write_8 : decode cX9_write 8 = .ok (.aload_n 0, 1) := by decide +kernel
theorem dX9_write_9 : decode cX9_write 9 = .ok (.iload_n 1, 1) := by decide +kernel
theorem dX9_write_10 : decode cX9_write 10 = .ok (.invokevirtual 73, 3) := by decide +kernel
theorem dX9_write_13 : decode cX9_write 13 = .ok (.astore 6, 2) := by decide +kernel
theorem dX9_write_15 : decode cX9_write 15 = .ok (.iload 5, 2) := by decide +kernel
theorem dX9_write_17 : decode cX9_write 17 = .ok (.ifCond .ne 15, 3) := by decide +kernel
theorem dX9_write_20 : decode cX9_write 20 = .ok (.aload 6, 2) := by decide +kernel
theorem dX9_write_22 : decode cX9_write 22 = .ok (.ifnull 10, 3) := by decide +kernel
theorem dX9_write_25 : decode cX9_write 25 = .ok (.aload 6, 2) := by decide +kernel
theorem dX9_write_27 : decode cX9_write 27 = .ok (.iload_n 2, 1) := by decide +kernel
theorem dX9_write_28 : decode cX9_write 28 = .ok (.lload_n 3, 1) := by decide +kernel
theorem dX9_write_29 : decode cX9_write 29 = .ok (.invokevirtual 92, 3) := by decide +kernel
theorem dX9_write_32 : decode cX9_write 32 = .ok (.iload 5, 2) := by decide +kernel
theorem dX9_write_34 : decode cX9_write 34 = .ok (.ireturn, 1) := by decide +kernel
theorem dX9_read_0 : decode cX9_read 0 = .ok (.aload_n 0, 1) := by decide +kernel
theorem dX9_read_1 : decode cX9_read 1 = .ok (.iload_n 1, 1) := by decide +kernel
theorem dX9_read_2 : decode cX9_read 2 = .ok (.invokevirtual 73, 3) := by decide +kernel
theorem dX9_read_5 : decode cX9_read 5 = .ok (.astore_n 3, 1) := by decide +kernel
theorem dX9_read_6 : decode cX9_read 6 = .ok (.aload_n 3, 1) := by decide +kernel
theorem dX9_read_7 : decode cX9_read 7 = .ok (.ifnull 12, 3) := by decide +kernel
theorem dX9_read_10 : decode cX9_read 10 = .ok (.aload_n 0, 1) := by decide +kernel
theorem dX9_read_11 : decode cX9_read 11 = .ok (.iload_n 1, 1) := by decide +kernel
theorem dX9_read_12 : decode cX9_read 12 = .ok (.iload_n 2, 1) := by decide +kernel
theorem dX9_read_13 : decode cX9_read 13 = .ok (.invokevirtual 88, 3) := by decide +kernel
theorem dX9_read_16 : decode cX9_read 16 = .ok (.ifCond .eq 7, 3) := by decide +kernel
theorem dX9_read_19 : decode cX9_read 19 = .ok (.lconst 0, 1) := by decide +kernel
theorem dX9_read_20 : decode cX9_read 20 = .ok (.goto 8, 3) := by decide +kernel
theorem dX9_read_23 : decode cX9_read 23 = .ok (.aload_n 3, 1) := by decide +kernel
theorem dX9_read_24 : decode cX9_read 24 = .ok (.iload_n 2, 1) := by decide +kernel
theorem dX9_read_25 : decode cX9_read 25 = .ok (.invokevirtual 96, 3) := by decide +kernel
theorem dX9_read_28 : decode cX9_read 28 = .ok (.lreturn, 1) := by decide +kernel
theorem dX9_copy_0 : decode cX9_copy 0 = .ok (.aload_n 0, 1) := by decide +kernel
theorem dX9_copy_1 : decode cX9_copy 1 = .ok (.iload_n 1, 1) := by decide +kernel
theorem dX9_copy_2 : decode cX9_copy 2 = .ok (.invokevirtual 73, 3) := by decide +kernel
theorem dX9_copy_5 : decode cX9_copy 5 = .ok (.astore 6, 2) := by decide +kernel
theorem dX9_copy_7 : decode cX9_copy 7 = .ok (.aload_n 0, 1) := by decide +kernel
theorem dX9_copy_8 : decode cX9_copy 8 = .ok (.iload_n 3, 1) := by decide +kernel
theorem dX9_copy_9 : decode cX9_copy 9 = .ok (.invokevirtual 73, 3) := by decide +kernel
theorem dX9_copy_12 : decode cX9_copy 12 = .ok (.astore 7, 2) := by decide +kernel
theorem dX9_copy_14 : decode cX9_copy 14 = .ok (.aload 6, 2) := by decide +kernel
theorem dX9_copy_16 : decode cX9_copy 16 = .ok (.ifnull 8, 3) := by decide +kernel
theorem dX9_copy_19 : decode cX9_copy 19 = .ok (.aload 7, 2) := by decide +kernel
theorem dX9_copy_21 : decode cX9_copy 21 = .ok (.ifnonnull 6, 3) := by decide +kernel
theorem dX9_copy_24 : decode cX9_copy 24 = .ok (.bipush (-2), 2) := by decide +kernel
theorem dX9_copy_26 : decode cX9_copy 26 = .ok (.ireturn, 1) := by decide +kernel
theorem dX9_copy_27 : decode cX9_copy 27 = .ok (.aload 6, 2) := by decide +kernel
theorem dX9_copy_29 : decode cX9_copy 29 = .ok (.invokevirtual 81, 3) := by decide +kernel
theorem dX9_copy_32 : decode cX9_copy 32 = .ok (.ifCond .eq 11, 3) := by decide +kernel
theorem dX9_copy_35 : decode cX9_copy 35 = .ok (.aload 7, 2) := by decide +kernel
theorem dX9_copy_37 : decode cX9_copy 37 = .ok (.invokevirtual 81, 3) := by decide +kernel
theorem dX9_copy_40 : decode cX9_copy 40 = .ok (.ifCond .ne 6, 3) := by decide +kernel
theorem dX9_copy_43 : decode cX9_copy 43 = .ok (.bipush (-5), 2) := by decide +kernel
theorem dX9_copy_45 : decode cX9_copy 45 = .ok (.ireturn, 1) := by decide +kernel
theorem dX9_copy_46 : decode cX9_copy 46 = .ok (.aload 6, 2) := by decide +kernel
theorem dX9_copy_48 : decode cX9_copy 48 = .ok (.getfield 100, 3) := by decide +kernel
theorem dX9_copy_51 : decode cX9_copy 51 = .ok (.aload 7, 2) := by decide +kernel
theorem dX9_copy_53 : decode cX9_copy 53 = .ok (.getfield 100, 3) := by decide +kernel
theorem dX9_copy_56 : decode cX9_copy 56 = .ok (.if_icmp .eq 6, 3) := by decide +kernel
theorem dX9_copy_59 : decode cX9_copy 59 = .ok (.bipush (-7), 2) := by decide +kernel
theorem dX9_copy_61 : decode cX9_copy 61 = .ok (.ireturn, 1) := by decide +kernel
theorem dX9_copy_62 : decode cX9_copy 62 = .ok (.aload 6, 2) := by decide +kernel
theorem dX9_copy_64 : decode cX9_copy 64 = .ok (.iload_n 2, 1) := by decide +kernel
theorem dX9_copy_65 : decode cX9_copy 65 = .ok (.iload 5, 2) := by decide +kernel
theorem dX9_copy_67 : decode cX9_copy 67 = .ok (.invokevirtual 104, 3) := by decide +kernel
theorem dX9_copy_70 : decode cX9_copy 70 = .ok (.ifCond .eq 15, 3) := by decide +kernel
theorem dX9_copy_73 : decode cX9_copy 73 = .ok (.aload 7, 2) := by decide +kernel
theorem dX9_copy_75 : decode cX9_copy 75 = .ok (.iload 4, 2) := by decide +kernel
theorem dX9_copy_77 : decode cX9_copy 77 = .ok (.iload 5, 2) := by decide +kernel
theorem dX9_copy_79 : decode cX9_copy 79 = .ok (.invokevirtual 104, 3) := by decide +kernel
theorem dX9_copy_82 : decode cX9_copy 82 = .ok (.ifCond .ne 6, 3) := by decide +kernel
theorem dX9_copy_85 : decode cX9_copy 85 = .ok (.bipush (-6), 2) := by decide +kernel
theorem dX9_copy_87 : decode cX9_copy 87 = .ok (.ireturn, 1) := by decide +kernel
theorem dX9_copy_88 : decode cX9_copy 88 = .ok (.aload 6, 2) := by decide +kernel
theorem dX9_copy_90 : decode cX9_copy 90 = .ok (.getfield 108, 3) := by decide +kernel
theorem dX9_copy_93 : decode cX9_copy 93 = .ok (.iload_n 2, 1) := by decide +kernel
theorem dX9_copy_94 : decode cX9_copy 94 = .ok (.aload 7, 2) := by decide +kernel
theorem dX9_copy_96 : decode cX9_copy 96 = .ok (.getfield 108, 3) := by decide +kernel
theorem dX9_copy_99 : decode cX9_copy 99 = .ok (.iload 4, 2) := by decide +kernel
theorem dX9_copy_101 : decode cX9_copy 101 = .ok (.iload 5, 2) := by decide +kernel
theorem dX9_copy_103 : decode cX9_copy 103 = .ok (.invokestatic 112, 3) := by decide +kernel
theorem dX9_copy_106 : decode cX9_copy 106 = .ok (.iconst 0, 1) := by decide +kernel
theorem dX9_copy_107 : decode cX9_copy 107 = .ok (.ireturn, 1) := by decide +kernel
theorem dX9_rule_0 : decode cX9_rule 0 = .ok (.aload_n 0, 1) := by decide +kernel
theorem dX9_rule_1 : decode cX9_rule 1 = .ok (.iload_n 2, 1) := by decide +kernel
theorem dX9_rule_2 : decode cX9_rule 2 = .ok (.invokevirtual 73, 3) := by decide +kernel
theorem dX9_rule_5 : decode cX9_rule 5 = .ok (.astore_n 3, 1) := by decide +kernel
theorem dX9_rule_6 : decode cX9_rule 6 = .ok (.aload_n 3, 1) := by decide +kernel
theorem dX9_rule_7 : decode cX9_rule 7 = .ok (.ifnull 13, 3) := by decide +kernel
theorem dX9_rule_10 : decode cX9_rule 10 = .ok (.iload_n 1, 1) := by decide +kernel
theorem dX9_rule_11 : decode cX9_rule 11 = .ok (.ifCond .lt 9, 3) := by decide +kernel
theorem dX9_rule_14 : decode cX9_rule 14 = .ok (.iload_n 1, 1) := by decide +kernel
theorem dX9_rule_15 : decode cX9_rule 15 = .ok (.bipush 6, 2) := by decide +kernel
theorem dX9_rule_17 : decode cX9_rule 17 = .ok (.if_icmp .le 6, 3) := by decide +kernel
theorem dX9_rule_20 : decode cX9_rule 20 = .ok (.bipush (-2), 2) := by decide +kernel
theorem dX9_rule_22 : decode cX9_rule 22 = .ok (.ireturn, 1) := by decide +kernel
theorem dX9_rule_23 : decode cX9_rule 23 = .ok (.aload_n 0, 1) := by decide +kernel
theorem dX9_rule_24 : decode cX9_rule 24 = .ok (.getfield 118, 3) := by decide +kernel
theorem dX9_rule_27 : decode cX9_rule 27 = .ok (.bipush 24, 2) := by decide +kernel
theorem dX9_rule_29 : decode cX9_rule 29 = .ok (.if_icmp .lt 6, 3) := by decide +kernel
theorem dX9_rule_32 : decode cX9_rule 32 = .ok (.bipush (-8), 2) := by decide +kernel
theorem dX9_rule_34 : decode cX9_rule 34 = .ok (.ireturn, 1) := by decide +kernel
theorem dX9_rule_35 : decode cX9_rule 35 = .ok (.aload_n 3, 1) := by decide +kernel
theorem dX9_rule_36 : decode cX9_rule 36 = .ok (.invokevirtual 81, 3) := by decide +kernel
theorem dX9_rule_39 : decode cX9_rule 39 = .ok (.ifCond .ne 6, 3) := by decide +kernel
theorem dX9_rule_42 : decode cX9_rule 42 = .ok (.bipush (-5), 2) := by decide +kernel
theorem dX9_rule_44 : decode cX9_rule 44 = .ok (.ireturn, 1) := by decide +kernel
theorem dX9_rule_45 : decode cX9_rule 45 = .ok (.aload_n 0, 1) := by decide +kernel
theorem dX9_rule_46 : decode cX9_rule 46 = .ok (.getfield 31, 3) := by decide +kernel
theorem dX9_rule_49 : decode cX9_rule 49 = .ok (.aload_n 3, 1) := by decide +kernel
theorem dX9_rule_50 : decode cX9_rule 50 = .ok (.invokevirtual 121, 3) := by decide +kernel
theorem dX9_rule_53 : decode cX9_rule 53 = .ok (.aload_n 0, 1) := by decide +kernel
theorem dX9_rule_54 : decode cX9_rule 54 = .ok (.iload_n 1, 1) := by decide +kernel
theorem dX9_rule_55 : decode cX9_rule 55 = .ok (.invokevirtual 125, 3) := by decide +kernel
theorem dX9_rule_58 : decode cX9_rule 58 = .ok (.astore 4, 2) := by decide +kernel
theorem dX9_rule_60 : decode cX9_rule 60 = .ok (.aload_n 0, 1) := by decide +kernel
theorem dX9_rule_61 : decode cX9_rule 61 = .ok (.getfield 31, 3) := by decide +kernel
theorem dX9_rule_64 : decode cX9_rule 64 = .ok (.getfield 129, 3) := by decide +kernel
theorem dX9_rule_67 : decode cX9_rule 67 = .ok (.ifCond .eq 11, 3) := by decide +kernel
theorem dX9_rule_70 : decode cX9_rule 70 = .ok (.aload_n 0, 1) := by decide +kernel
theorem dX9_rule_71 : decode cX9_rule 71 = .ok (.getfield 31, 3) := by decide +kernel
theorem dX9_rule_74 : decode cX9_rule 74 = .ok (.getfield 129, 3) := by decide +kernel
theorem dX9_rule_77 : decode cX9_rule 77 = .ok (.ireturn, 1) := by decide +kernel
theorem dX9_rule_78 : decode cX9_rule 78 = .ok (.iload_n 1, 1) := by decide +kernel
theorem dX9_rule_79 : decode cX9_rule 79 = .ok (.iconst 3, 1) := by decide +kernel
theorem dX9_rule_80 : decode cX9_rule 80 = .ok (.if_icmp .ne 16, 3) := by decide +kernel
theorem dX9_rule_83 : decode cX9_rule 83 = .ok (.aload_n 0, 1) := by decide +kernel
theorem dX9_rule_84 : decode cX9_rule 84 = .ok (.getfield 45, 3) := by decide +kernel
theorem dX9_rule_87 : decode cX9_rule 87 = .ok (.invokevirtual 132, 3) := by decide +kernel
theorem dX9_rule_90 : decode cX9_rule 90 = .ok (.ifCond .ne 6, 3) := by decide +kernel
theorem dX9_rule_93 : decode cX9_rule 93 = .ok (.bipush (-7), 2) := by decide +kernel
theorem dX9_rule_95 : decode cX9_rule 95 = .ok (.ireturn, 1) := by decide +kernel
theorem dX9_rule_96 : decode cX9_rule 96 = .ok (.iload_n 1, 1) := by decide +kernel
theorem dX9_rule_97 : decode cX9_rule 97 = .ok (.ifCond .ne 20, 3) := by decide +kernel
theorem dX9_rule_100 : decode cX9_rule 100 = .ok (.aload_n 0, 1) := by decide +kernel
theorem dX9_rule_101 : decode cX9_rule 101 = .ok (.getfield 38, 3) := by decide +kernel
theorem dX9_rule_104 : decode cX9_rule 104 = .ok (.aload_n 0, 1) := by decide +kernel
theorem dX9_rule_105 : decode cX9_rule 105 = .ok (.getfield 135, 3) := by decide +kernel
theorem dX9_rule_108 : decode cX9_rule 108 = .ok (.invokevirtual 138, 3) := by decide +kernel
theorem dX9_rule_111 : decode cX9_rule 111 = .ok (.ifCond .eq 6, 3) := by decide +kernel
theorem dX9_rule_114 : decode cX9_rule 114 = .ok (.bipush (-9), 2) := by decide +kernel
theorem dX9_rule_116 : decode cX9_rule 116 = .ok (.ireturn, 1) := by decide +kernel
theorem dX9_rule_117 : decode cX9_rule 117 = .ok (.aload_n 0, 1) := by decide +kernel
theorem dX9_rule_118 : decode cX9_rule 118 = .ok (.iload_n 1, 1) := by decide +kernel
theorem dX9_rule_119 : decode cX9_rule 119 = .ok (.iconst (-1), 1) := by decide +kernel
theorem dX9_rule_120 : decode cX9_rule 120 = .ok (.iconst (-1), 1) := by decide +kernel
theorem dX9_rule_121 : decode cX9_rule 121 = .ok (.iconst 1, 1) := by decide +kernel
theorem dX9_rule_122 : decode cX9_rule 122 = .ok (.aload 4, 2) := by decide +kernel
theorem dX9_rule_124 : decode cX9_rule 124 = .ok (.invokevirtual 141, 3) := by decide +kernel
theorem dX9_rule_127 : decode cX9_rule 127 = .ok (.ireturn, 1) := by decide +kernel
theorem dX9_less_0 : decode cX9_less 0 = .ok (.aload_n 0, 1) := by decide +kernel
theorem dX9_less_1 : decode cX9_less 1 = .ok (.bipush 7, 2) := by decide +kernel
theorem dX9_less_3 : decode cX9_less 3 = .ok (.iload_n 1, 1) := by decide +kernel
theorem dX9_less_4 : decode cX9_less 4 = .ok (.iload_n 1, 1) := by decide +kernel
theorem dX9_less_5 : decode cX9_less 5 = .ok (.iload_n 2, 1) := by decide +kernel
theorem dX9_less_6 : decode cX9_less 6 = .ok (.invokevirtual 145, 3) := by decide +kernel
theorem dX9_less_9 : decode cX9_less 9 = .ok (.ireturn, 1) := by decide +kernel
theorem dX9_take_0 : decode cX9_take 0 = .ok (.aload_n 0, 1) := by decide +kernel
theorem dX9_take_1 : decode cX9_take 1 = .ok (.bipush 8, 2) := by decide +kernel
theorem dX9_take_3 : decode cX9_take 3 = .ok (.iload_n 1, 1) := by decide +kernel
theorem dX9_take_4 : decode cX9_take 4 = .ok (.iload_n 1, 1) := by decide +kernel
theorem dX9_take_5 : decode cX9_take 5 = .ok (.iload_n 2, 1) := by decide +kernel
theorem dX9_take_6 : decode cX9_take 6 = .ok (.invokevirtual 145, 3) := by decide +kernel
theorem dX9_take_9 : decode cX9_take 9 = .ok (.ireturn, 1) := by decide +kernel
theorem dX9_turn_0 : decode cX9_turn 0 = .ok (.aload_n 0, 1) := by decide +kernel
theorem dX9_turn_1 : decode cX9_turn 1 = .ok (.bipush 9, 2) := by decide +kernel
theorem dX9_turn_3 : decode cX9_turn 3 = .ok (.iload_n 1, 1) := by decide +kernel
theorem dX9_turn_4 : decode cX9_turn 4 = .ok (.iload_n 1, 1) := by decide +kernel
theorem dX9_turn_5 : decode cX9_turn 5 = .ok (.iconst 0, 1) := by decide +kernel
theorem dX9_turn_6 : decode cX9_turn 6 = .ok (.invokevirtual 145, 3) := by decide +kernel
theorem dX9_turn_9 : decode cX9_turn 9 = .ok (.ireturn, 1) := by decide +kernel
theorem dX9_join_0 : decode cX9_join 0 = .ok (.aload_n 0, 1) := by decide +kernel
theorem dX9_join_1 : decode cX9_join 1 = .ok (.bipush 10, 2) := by decide +kernel
theorem dX9_join_3 : decode cX9_join 3 = .ok (.iload_n 1, 1) := by decide +kernel
theorem dX9_join_4 : decode cX9_join 4 = .ok (.iload_n 2, 1) := by decide +kernel
theorem dX9_join_5 : decode cX9_join 5 = .ok (.iconst 0, 1) := by decide +kernel
theorem dX9_join_6 : decode cX9_join 6 = .ok (.invokevirtual 145, 3) := by decide +kernel
theorem dX9_join_9 : decode cX9_join 9 = .ok (.ireturn, 1) := by decide +kernel
theorem dX9_broken_0 : decode cX9_broken 0 = .ok (.iload_n 1, 1) := by decide +kernel
theorem dX9_broken_1 : decode cX9_broken 1 = .ok (.tableswitch 51 0 2 #[27, 35, 43], 27) := by decide +kernel
theorem dX9_broken_28 : decode cX9_broken 28 = .ok (.aload_n 0, 1) := by decide +kernel
theorem dX9_broken_29 : decode cX9_broken 29 = .ok (.getfield 38, 3) := by decide +kernel
theorem dX9_broken_32 : decode cX9_broken 32 = .ok (.getfield 149, 3) := by decide +kernel
theorem dX9_broken_35 : decode cX9_broken 35 = .ok (.ireturn, 1) := by decide +kernel
theorem dX9_broken_36 : decode cX9_broken 36 = .ok (.aload_n 0, 1) := by decide +kernel
theorem dX9_broken_37 : decode cX9_broken 37 = .ok (.getfield 38, 3) := by decide +kernel
theorem dX9_broken_40 : decode cX9_broken 40 = .ok (.getfield 152, 3) := by decide +kernel
theorem dX9_broken_43 : decode cX9_broken 43 = .ok (.ireturn, 1) := by decide +kernel
theorem dX9_broken_44 : decode cX9_broken 44 = .ok (.aload_n 0, 1) := by decide +kernel
theorem dX9_broken_45 : decode cX9_broken 45 = .ok (.getfield 38, 3) := by decide +kernel
theorem dX9_broken_48 : decode cX9_broken 48 = .ok (.getfield 155, 3) := by decide +kernel
theorem dX9_broken_51 : decode cX9_broken 51 = .ok (.ireturn, 1) := by decide +kernel
theorem dX9_broken_52 : decode cX9_broken 52 = .ok (.iconst (-1), 1) := by decide +kernel
theorem dX9_broken_53 : decode cX9_broken 53 = .ok (.ireturn, 1) := by decide +kernel
theorem dX9_look_0 : decode cX9_look 0 = .ok (.aload_n 0, 1) := by decide +kernel
theorem dX9_look_1 : decode cX9_look 1 = .ok (.iload_n 1, 1) := by decide +kernel
theorem dX9_look_2 : decode cX9_look 2 = .ok (.invokevirtual 158, 3) := by decide +kernel
theorem dX9_look_5 : decode cX9_look 5 = .ok (.astore_n 3, 1) := by decide +kernel
theorem dX9_look_6 : decode cX9_look 6 = .ok (.aload_n 3, 1) := by decide +kernel
theorem dX9_look_7 : decode cX9_look 7 = .ok (.ifnonnull 5, 3) := by decide +kernel
theorem dX9_look_10 : decode cX9_look 10 = .ok (.iconst (-1), 1) := by decide +kernel
theorem dX9_look_11 : decode cX9_look 11 = .ok (.ireturn, 1) := by decide +kernel
theorem dX9_look_12 : decode cX9_look 12 = .ok (.iload_n 2, 1) := by decide +kernel
theorem dX9_look_13 : decode cX9_look 13 = .ok (.tableswitch 77 0 5 #[39, 44, 53, 62, 67, 72], 39) := by decide +kernel
theorem dX9_look_52 : decode cX9_look 52 = .ok (.aload_n 3, 1) := by decide +kernel
theorem dX9_look_53 : decode cX9_look 53 = .ok (.getfield 162, 3) := by decide +kernel
theorem dX9_look_56 : decode cX9_look 56 = .ok (.ireturn, 1) := by decide +kernel
theorem dX9_look_57 : decode cX9_look 57 = .ok (.aload_n 3, 1) := by decide +kernel
theorem dX9_look_58 : decode cX9_look 58 = .ok (.aload_n 0, 1) := by decide +kernel
theorem dX9_look_59 : decode cX9_look 59 = .ok (.getfield 135, 3) := by decide +kernel
theorem dX9_look_62 : decode cX9_look 62 = .ok (.invokevirtual 165, 3) := by decide +kernel
theorem dX9_look_65 : decode cX9_look 65 = .ok (.ireturn, 1) := by decide +kernel
theorem dX9_look_66 : decode cX9_look 66 = .ok (.aload_n 3, 1) := by decide +kernel
theorem dX9_look_67 : decode cX9_look 67 = .ok (.aload_n 0, 1) := by decide +kernel
theorem dX9_look_68 : decode cX9_look 68 = .ok (.getfield 135, 3) := by decide +kernel
theorem dX9_look_71 : decode cX9_look 71 = .ok (.invokevirtual 169, 3) := by decide +kernel
theorem dX9_look_74 : decode cX9_look 74 = .ok (.ireturn, 1) := by decide +kernel
theorem dX9_look_75 : decode cX9_look 75 = .ok (.aload_n 3, 1) := by decide +kernel
theorem dX9_look_76 : decode cX9_look 76 = .ok (.getfield 172, 3) := by decide +kernel
theorem dX9_look_79 : decode cX9_look 79 = .ok (.ireturn, 1) := by decide +kernel
theorem dX9_look_80 : decode cX9_look 80 = .ok (.aload_n 3, 1) := by decide +kernel
theorem dX9_look_81 : decode cX9_look 81 = .ok (.getfield 175, 3) := by decide +kernel
theorem dX9_look_84 : decode cX9_look 84 = .ok (.ireturn, 1) := by decide +kernel
theorem dX9_look_85 : decode cX9_look 85 = .ok (.aload_n 3, 1) := by decide +kernel
theorem dX9_look_86 : decode cX9_look 86 = .ok (.getfield 178, 3) := by decide +kernel
theorem dX9_look_89 : decode cX9_look 89 = .ok (.ireturn, 1) := by decide +kernel
theorem dX9_look_90 : decode cX9_look 90 = .ok (.iconst (-1), 1) := by decide +kernel
theorem dX9_look_91 : decode cX9_look 91 = .ok (.ireturn, 1) := by decide +kernel
theorem dX9_allows_0 : decode cX9_allows 0 = .ok (.aload_n 0, 1) := by decide +kernel
theorem dX9_allows_1 : decode cX9_allows 1 = .ok (.iload_n 1, 1) := by decide +kernel
theorem dX9_allows_2 : decode cX9_allows 2 = .ok (.invokevirtual 158, 3) := by decide +kernel
theorem dX9_allows_5 : decode cX9_allows 5 = .ok (.astore_n 3, 1) := by decide +kernel
theorem dX9_allows_6 : decode cX9_allows 6 = .ok (.aload_n 3, 1) := by decide +kernel
theorem dX9_allows_7 : decode cX9_allows 7 = .ok (.ifnull 11, 3) := by decide +kernel
theorem dX9_allows_10 : decode cX9_allows 10 = .ok (.aload_n 0, 1) := by decide +kernel
theorem dX9_allows_11 : decode cX9_allows 11 = .ok (.iload_n 2, 1) := by decide +kernel
theorem dX9_allows_12 : decode cX9_allows 12 = .ok (.invokevirtual 181, 3) := by decide +kernel
theorem dX9_allows_15 : decode cX9_allows 15 = .ok (.ifCond .ne 5, 3) := by decide +kernel
theorem dX9_allows_18 : decode cX9_allows 18 = .ok (.iconst (-1), 1) := by decide +kernel
theorem dX9_allows_19 : decode cX9_allows 19 = .ok (.ireturn, 1) := by decide +kernel
theorem dX9_allows_20 : decode cX9_allows 20 = .ok (.aload_n 3, 1) := by decide +kernel
theorem dX9_allows_21 : decode cX9_allows 21 = .ok (.iload_n 2, 1) := by decide +kernel
theorem dX9_allows_22 : decode cX9_allows 22 = .ok (.invokevirtual 184, 3) := by decide +kernel
theorem dX9_allows_25 : decode cX9_allows 25 = .ok (.ifCond .eq 7, 3) := by decide +kernel
theorem dX9_allows_28 : decode cX9_allows 28 = .ok (.iconst 1, 1) := by decide +kernel
theorem dX9_allows_29 : decode cX9_allows 29 = .ok (.goto 4, 3) := by decide +kernel
theorem dX9_allows_32 : decode cX9_allows 32 = .ok (.iconst 0, 1) := by decide +kernel
theorem dX9_allows_33 : decode cX9_allows 33 = .ok (.ireturn, 1) := by decide +kernel
theorem dX9_rank_0 : decode cX9_rank 0 = .ok (.aload_n 0, 1) := by decide +kernel
theorem dX9_rank_1 : decode cX9_rank 1 = .ok (.iload_n 1, 1) := by decide +kernel
theorem dX9_rank_2 : decode cX9_rank 2 = .ok (.invokevirtual 158, 3) := by decide +kernel
theorem dX9_rank_5 : decode cX9_rank 5 = .ok (.astore_n 3, 1) := by decide +kernel
theorem dX9_rank_6 : decode cX9_rank 6 = .ok (.aload_n 3, 1) := by decide +kernel
theorem dX9_rank_7 : decode cX9_rank 7 = .ok (.ifnull 11, 3) := by decide +kernel
