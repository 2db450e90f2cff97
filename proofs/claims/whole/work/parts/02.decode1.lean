theorem dX9_rank_10 : decode cX9_rank 10 = .ok (.aload_n 0, 1) := by decide +kernel
theorem dX9_rank_11 : decode cX9_rank 11 = .ok (.iload_n 2, 1) := by decide +kernel
theorem dX9_rank_12 : decode cX9_rank 12 = .ok (.invokevirtual 181, 3) := by decide +kernel
theorem dX9_rank_15 : decode cX9_rank 15 = .ok (.ifCond .ne 7, 3) := by decide +kernel
theorem dX9_rank_18 : decode cX9_rank 18 = .ok (.iconst (-1), 1) := by decide +kernel
theorem dX9_rank_19 : decode cX9_rank 19 = .ok (.goto 8, 3) := by decide +kernel
theorem dX9_rank_22 : decode cX9_rank 22 = .ok (.aload_n 3, 1) := by decide +kernel
theorem dX9_rank_23 : decode cX9_rank 23 = .ok (.iload_n 2, 1) := by decide +kernel
theorem dX9_rank_24 : decode cX9_rank 24 = .ok (.invokevirtual 165, 3) := by decide +kernel
theorem dX9_rank_27 : decode cX9_rank 27 = .ok (.ireturn, 1) := by decide +kernel
theorem dX9_span_0 : decode cX9_span 0 = .ok (.aload_n 0, 1) := by decide +kernel
theorem dX9_span_1 : decode cX9_span 1 = .ok (.iload_n 1, 1) := by decide +kernel
theorem dX9_span_2 : decode cX9_span 2 = .ok (.invokevirtual 158, 3) := by decide +kernel
theorem dX9_span_5 : decode cX9_span 5 = .ok (.astore_n 3, 1) := by decide +kernel
theorem dX9_span_6 : decode cX9_span 6 = .ok (.aload_n 3, 1) := by decide +kernel
theorem dX9_span_7 : decode cX9_span 7 = .ok (.ifnull 11, 3) := by decide +kernel
theorem dX9_span_10 : decode cX9_span 10 = .ok (.aload_n 0, 1) := by decide +kernel
theorem dX9_span_11 : decode cX9_span 11 = .ok (.iload_n 2, 1) := by decide +kernel
theorem dX9_span_12 : decode cX9_span 12 = .ok (.invokevirtual 181, 3) := by decide +kernel
theorem dX9_span_15 : decode cX9_span 15 = .ok (.ifCond .ne 5, 3) := by decide +kernel
theorem dX9_span_18 : decode cX9_span 18 = .ok (.iconst (-1), 1) := by decide +kernel
theorem dX9_span_19 : decode cX9_span 19 = .ok (.ireturn, 1) := by decide +kernel
theorem dX9_span_20 : decode cX9_span 20 = .ok (.iconst 0, 1) := by decide +kernel
theorem dX9_span_21 : decode cX9_span 21 = .ok (.istore 4, 2) := by decide +kernel
theorem dX9_span_23 : decode cX9_span 23 = .ok (.iconst 0, 1) := by decide +kernel
theorem dX9_span_24 : decode cX9_span 24 = .ok (.istore 5, 2) := by decide +kernel
theorem dX9_span_26 : decode cX9_span 26 = .ok (.iload 5, 2) := by decide +kernel
theorem dX9_span_28 : decode cX9_span 28 = .ok (.aload_n 0, 1) := by decide +kernel
theorem dX9_span_29 : decode cX9_span 29 = .ok (.getfield 187, 3) := by decide +kernel
theorem dX9_span_32 : decode cX9_span 32 = .ok (.if_icmp .ge 36, 3) := by decide +kernel
theorem dX9_span_35 : decode cX9_span 35 = .ok (.aload_n 3, 1) := by decide +kernel
theorem dX9_span_36 : decode cX9_span 36 = .ok (.iload_n 2, 1) := by decide +kernel
theorem dX9_span_37 : decode cX9_span 37 = .ok (.iconst 1, 1) := by decide +kernel
theorem dX9_span_38 : decode cX9_span 38 = .ok (.iload 5, 2) := by decide +kernel
theorem dX9_span_40 : decode cX9_span 40 = .ok (.ishl, 1) := by decide +kernel
theorem dX9_span_41 : decode cX9_span 41 = .ok (.ior, 1) := by decide +kernel
theorem dX9_span_42 : decode cX9_span 42 = .ok (.invokevirtual 165, 3) := by decide +kernel
theorem dX9_span_45 : decode cX9_span 45 = .ok (.aload_n 3, 1) := by decide +kernel
theorem dX9_span_46 : decode cX9_span 46 = .ok (.iload_n 2, 1) := by decide +kernel
theorem dX9_span_47 : decode cX9_span 47 = .ok (.invokevirtual 165, 3) := by decide +kernel
theorem dX9_span_50 : decode cX9_span 50 = .ok (.if_icmp .ne 12, 3) := by decide +kernel
theorem dX9_span_53 : decode cX9_span 53 = .ok (.iload 4, 2) := by decide +kernel
theorem dX9_span_55 : decode cX9_span 55 = .ok (.iconst 1, 1) := by decide +kernel
theorem dX9_span_56 : decode cX9_span 56 = .ok (.iload 5, 2) := by decide +kernel
theorem dX9_span_58 : decode cX9_span 58 = .ok (.ishl, 1) := by decide +kernel
theorem dX9_span_59 : decode cX9_span 59 = .ok (.ior, 1) := by decide +kernel
theorem dX9_span_60 : decode cX9_span 60 = .ok (.istore 4, 2) := by decide +kernel
theorem dX9_span_62 : decode cX9_span 62 = .ok (.iinc 5 1, 3) := by decide +kernel
theorem dX9_span_65 : decode cX9_span 65 = .ok (.goto (-39), 3) := by decide +kernel
theorem dX9_span_68 : decode cX9_span 68 = .ok (.iload 4, 2) := by decide +kernel
theorem dX9_span_70 : decode cX9_span 70 = .ok (.ireturn, 1) := by decide +kernel
theorem dX9_ring_0 : decode cX9_ring 0 = .ok (.aload_n 0, 1) := by decide +kernel
theorem dX9_ring_1 : decode cX9_ring 1 = .ok (.iload_n 1, 1) := by decide +kernel
theorem dX9_ring_2 : decode cX9_ring 2 = .ok (.invokevirtual 158, 3) := by decide +kernel
theorem dX9_ring_5 : decode cX9_ring 5 = .ok (.astore_n 3, 1) := by decide +kernel
theorem dX9_ring_6 : decode cX9_ring 6 = .ok (.aload_n 3, 1) := by decide +kernel
theorem dX9_ring_7 : decode cX9_ring 7 = .ok (.ifnull 11, 3) := by decide +kernel
theorem dX9_ring_10 : decode cX9_ring 10 = .ok (.aload_n 0, 1) := by decide +kernel
theorem dX9_ring_11 : decode cX9_ring 11 = .ok (.iload_n 2, 1) := by decide +kernel
theorem dX9_ring_12 : decode cX9_ring 12 = .ok (.invokevirtual 181, 3) := by decide +kernel
theorem dX9_ring_15 : decode cX9_ring 15 = .ok (.ifCond .ne 5, 3) := by decide +kernel
theorem dX9_ring_18 : decode cX9_ring 18 = .ok (.iconst (-1), 1) := by decide +kernel
theorem dX9_ring_19 : decode cX9_ring 19 = .ok (.ireturn, 1) := by decide +kernel
theorem dX9_ring_20 : decode cX9_ring 20 = .ok (.aload_n 3, 1) := by decide +kernel
theorem dX9_ring_21 : decode cX9_ring 21 = .ok (.iload_n 2, 1) := by decide +kernel
theorem dX9_ring_22 : decode cX9_ring 22 = .ok (.invokevirtual 184, 3) := by decide +kernel
theorem dX9_ring_25 : decode cX9_ring 25 = .ok (.ifCond .eq 5, 3) := by decide +kernel
theorem dX9_ring_28 : decode cX9_ring 28 = .ok (.iconst 0, 1) := by decide +kernel
theorem dX9_ring_29 : decode cX9_ring 29 = .ok (.ireturn, 1) := by decide +kernel
theorem dX9_ring_30 : decode cX9_ring 30 = .ok (.iload_n 2, 1) := by decide +kernel
theorem dX9_ring_31 : decode cX9_ring 31 = .ok (.istore 4, 2) := by decide +kernel
theorem dX9_ring_33 : decode cX9_ring 33 = .ok (.aload_n 0, 1) := by decide +kernel
theorem dX9_ring_34 : decode cX9_ring 34 = .ok (.getfield 187, 3) := by decide +kernel
theorem dX9_ring_37 : decode cX9_ring 37 = .ok (.iconst 1, 1) := by decide +kernel
theorem dX9_ring_38 : decode cX9_ring 38 = .ok (.isub, 1) := by decide +kernel
theorem dX9_ring_39 : decode cX9_ring 39 = .ok (.istore 5, 2) := by decide +kernel
theorem dX9_ring_41 : decode cX9_ring 41 = .ok (.iload 5, 2) := by decide +kernel
theorem dX9_ring_43 : decode cX9_ring 43 = .ok (.ifCond .lt 36, 3) := by decide +kernel
theorem dX9_ring_46 : decode cX9_ring 46 = .ok (.aload_n 3, 1) := by decide +kernel
theorem dX9_ring_47 : decode cX9_ring 47 = .ok (.iload 4, 2) := by decide +kernel
theorem dX9_ring_49 : decode cX9_ring 49 = .ok (.iconst 1, 1) := by decide +kernel
theorem dX9_ring_50 : decode cX9_ring 50 = .ok (.iload 5, 2) := by decide +kernel
theorem dX9_ring_52 : decode cX9_ring 52 = .ok (.ishl, 1) := by decide +kernel
theorem dX9_ring_53 : decode cX9_ring 53 = .ok (.iconst (-1), 1) := by decide +kernel
theorem dX9_ring_54 : decode cX9_ring 54 = .ok (.ixor, 1) := by decide +kernel
theorem dX9_ring_55 : decode cX9_ring 55 = .ok (.iand, 1) := by decide +kernel
theorem dX9_ring_56 : decode cX9_ring 56 = .ok (.invokevirtual 184, 3) := by decide +kernel
theorem dX9_ring_59 : decode cX9_ring 59 = .ok (.ifCond .ne 14, 3) := by decide +kernel
theorem dX9_ring_62 : decode cX9_ring 62 = .ok (.iload 4, 2) := by decide +kernel
theorem dX9_ring_64 : decode cX9_ring 64 = .ok (.iconst 1, 1) := by decide +kernel
theorem dX9_ring_65 : decode cX9_ring 65 = .ok (.iload 5, 2) := by decide +kernel
theorem dX9_ring_67 : decode cX9_ring 67 = .ok (.ishl, 1) := by decide +kernel
theorem dX9_ring_68 : decode cX9_ring 68 = .ok (.iconst (-1), 1) := by decide +kernel
theorem dX9_ring_69 : decode cX9_ring 69 = .ok (.ixor, 1) := by decide +kernel
theorem dX9_ring_70 : decode cX9_ring 70 = .ok (.iand, 1) := by decide +kernel
theorem dX9_ring_71 : decode cX9_ring 71 = .ok (.istore 4, 2) := by decide +kernel
theorem dX9_ring_73 : decode cX9_ring 73 = .ok (.iinc 5 (-1), 3) := by decide +kernel
theorem dX9_ring_76 : decode cX9_ring 76 = .ok (.goto (-35), 3) := by decide +kernel
theorem dX9_ring_79 : decode cX9_ring 79 = .ok (.iload 4, 2) := by decide +kernel
theorem dX9_ring_81 : decode cX9_ring 81 = .ok (.ireturn, 1) := by decide +kernel
theorem dX9_exchange_0 : decode cX9_exchange 0 = .ok (.aload_n 0, 1) := by decide +kernel
theorem dX9_exchange_1 : decode cX9_exchange 1 = .ok (.iload_n 1, 1) := by decide +kernel
theorem dX9_exchange_2 : decode cX9_exchange 2 = .ok (.invokevirtual 158, 3) := by decide +kernel
theorem dX9_exchange_5 : decode cX9_exchange 5 = .ok (.astore 4, 2) := by decide +kernel
theorem dX9_exchange_7 : decode cX9_exchange 7 = .ok (.aload 4, 2) := by decide +kernel
theorem dX9_exchange_9 : decode cX9_exchange 9 = .ok (.ifnull 19, 3) := by decide +kernel
theorem dX9_exchange_12 : decode cX9_exchange 12 = .ok (.aload_n 0, 1) := by decide +kernel
theorem dX9_exchange_13 : decode cX9_exchange 13 = .ok (.iload_n 2, 1) := by decide +kernel
theorem dX9_exchange_14 : decode cX9_exchange 14 = .ok (.invokevirtual 181, 3) := by decide +kernel
theorem dX9_exchange_17 : decode cX9_exchange 17 = .ok (.ifCond .eq 11, 3) := by decide +kernel
theorem dX9_exchange_20 : decode cX9_exchange 20 = .ok (.aload_n 0, 1) := by decide +kernel
theorem dX9_exchange_21 : decode cX9_exchange 21 = .ok (.iload_n 3, 1) := by decide +kernel
theorem dX9_exchange_22 : decode cX9_exchange 22 = .ok (.invokevirtual 68, 3) := by decide +kernel
theorem dX9_exchange_25 : decode cX9_exchange 25 = .ok (.ifCond .ne 5, 3) := by decide +kernel
theorem dX9_exchange_28 : decode cX9_exchange 28 = .ok (.iconst (-1), 1) := by decide +kernel
theorem dX9_exchange_29 : decode cX9_exchange 29 = .ok (.ireturn, 1) := by decide +kernel
theorem dX9_exchange_30 : decode cX9_exchange 30 = .ok (.iload_n 2, 1) := by decide +kernel
theorem dX9_exchange_31 : decode cX9_exchange 31 = .ok (.iconst 1, 1) := by decide +kernel
theorem dX9_exchange_32 : decode cX9_exchange 32 = .ok (.iload_n 3, 1) := by decide +kernel
theorem dX9_exchange_33 : decode cX9_exchange 33 = .ok (.ishl, 1) := by decide +kernel
theorem dX9_exchange_34 : decode cX9_exchange 34 = .ok (.ior, 1) := by decide +kernel
theorem dX9_exchange_35 : decode cX9_exchange 35 = .ok (.istore 5, 2) := by decide +kernel
theorem dX9_exchange_37 : decode cX9_exchange 37 = .ok (.aload 4, 2) := by decide +kernel
theorem dX9_exchange_39 : decode cX9_exchange 39 = .ok (.iload_n 2, 1) := by decide +kernel
theorem dX9_exchange_40 : decode cX9_exchange 40 = .ok (.invokevirtual 184, 3) := by decide +kernel
theorem dX9_exchange_43 : decode cX9_exchange 43 = .ok (.ifCond .eq 9, 3) := by decide +kernel
theorem dX9_exchange_46 : decode cX9_exchange 46 = .ok (.iload 5, 2) := by decide +kernel
theorem dX9_exchange_48 : decode cX9_exchange 48 = .ok (.iload_n 2, 1) := by decide +kernel
theorem dX9_exchange_49 : decode cX9_exchange 49 = .ok (.if_icmp .ne 5, 3) := by decide +kernel
theorem dX9_exchange_52 : decode cX9_exchange 52 = .ok (.iconst (-1), 1) := by decide +kernel
theorem dX9_exchange_53 : decode cX9_exchange 53 = .ok (.ireturn, 1) := by decide +kernel
theorem dX9_exchange_54 : decode cX9_exchange 54 = .ok (.aload 4, 2) := by decide +kernel
theorem dX9_exchange_56 : decode cX9_exchange 56 = .ok (.iload 5, 2) := by decide +kernel
theorem dX9_exchange_58 : decode cX9_exchange 58 = .ok (.invokevirtual 184, 3) := by decide +kernel
theorem dX9_exchange_61 : decode cX9_exchange 61 = .ok (.ifCond .eq 7, 3) := by decide +kernel
theorem dX9_exchange_64 : decode cX9_exchange 64 = .ok (.iconst 0, 1) := by decide +kernel
theorem dX9_exchange_65 : decode cX9_exchange 65 = .ok (.goto 12, 3) := by decide +kernel
theorem dX9_exchange_68 : decode cX9_exchange 68 = .ok (.aload_n 0, 1) := by decide +kernel
theorem dX9_exchange_69 : decode cX9_exchange 69 = .ok (.aload 4, 2) := by decide +kernel
theorem dX9_exchange_71 : decode cX9_exchange 71 = .ok (.iload_n 2, 1) := by decide +kernel
theorem dX9_exchange_72 : decode cX9_exchange 72 = .ok (.iload 5, 2) := by decide +kernel
theorem dX9_exchange_74 : decode cX9_exchange 74 = .ok (.invokevirtual 190, 3) := by decide +kernel
theorem dX9_exchange_77 : decode cX9_exchange 77 = .ok (.ireturn, 1) := by decide +kernel
theorem dX9_full_0 : decode cX9_full 0 = .ok (.aload_n 0, 1) := by decide +kernel
theorem dX9_full_1 : decode cX9_full 1 = .ok (.iload_n 1, 1) := by decide +kernel
theorem dX9_full_2 : decode cX9_full 2 = .ok (.invokevirtual 158, 3) := by decide +kernel
theorem dX9_full_5 : decode cX9_full 5 = .ok (.astore_n 3, 1) := by decide +kernel
theorem dX9_full_6 : decode cX9_full 6 = .ok (.aload_n 3, 1) := by decide +kernel
theorem dX9_full_7 : decode cX9_full 7 = .ok (.ifnonnull 5, 3) := by decide +kernel
theorem dX9_full_10 : decode cX9_full 10 = .ok (.iconst (-1), 1) := by decide +kernel
theorem dX9_full_11 : decode cX9_full 11 = .ok (.ireturn, 1) := by decide +kernel
theorem dX9_full_12 : decode cX9_full 12 = .ok (.iconst 0, 1) := by decide +kernel
theorem dX9_full_13 : decode cX9_full 13 = .ok (.istore 4, 2) := by decide +kernel
theorem dX9_full_15 : decode cX9_full 15 = .ok (.iconst 0, 1) := by decide +kernel
theorem dX9_full_16 : decode cX9_full 16 = .ok (.istore 5, 2) := by decide +kernel
theorem dX9_full_18 : decode cX9_full 18 = .ok (.iconst 0, 1) := by decide +kernel
theorem dX9_full_19 : decode cX9_full 19 = .ok (.istore 6, 2) := by decide +kernel
theorem dX9_full_21 : decode cX9_full 21 = .ok (.iload 6, 2) := by decide +kernel
theorem dX9_full_23 : decode cX9_full 23 = .ok (.aload_n 0, 1) := by decide +kernel
theorem dX9_full_24 : decode cX9_full 24 = .ok (.getfield 187, 3) := by decide +kernel
theorem dX9_full_27 : decode cX9_full 27 = .ok (.if_icmp .ge 46, 3) := by decide +kernel
theorem dX9_full_30 : decode cX9_full 30 = .ok (.iconst 1, 1) := by decide +kernel
theorem dX9_full_31 : decode cX9_full 31 = .ok (.aload_n 0, 1) := by decide +kernel
theorem dX9_full_32 : decode cX9_full 32 = .ok (.iload 5, 2) := by decide +kernel
theorem dX9_full_34 : decode cX9_full 34 = .ok (.iload_n 2, 1) := by decide +kernel
theorem dX9_full_35 : decode cX9_full 35 = .ok (.invokevirtual 194, 3) := by decide +kernel
theorem dX9_full_38 : decode cX9_full 38 = .ok (.ishl, 1) := by decide +kernel
theorem dX9_full_39 : decode cX9_full 39 = .ok (.istore 7, 2) := by decide +kernel
theorem dX9_full_41 : decode cX9_full 41 = .ok (.iload 5, 2) := by decide +kernel
theorem dX9_full_43 : decode cX9_full 43 = .ok (.iload 7, 2) := by decide +kernel
theorem dX9_full_45 : decode cX9_full 45 = .ok (.ior, 1) := by decide +kernel
theorem dX9_full_46 : decode cX9_full 46 = .ok (.istore 5, 2) := by decide +kernel
theorem dX9_full_48 : decode cX9_full 48 = .ok (.aload_n 3, 1) := by decide +kernel
theorem dX9_full_49 : decode cX9_full 49 = .ok (.iload 4, 2) := by decide +kernel
theorem dX9_full_51 : decode cX9_full 51 = .ok (.iload 7, 2) := by decide +kernel
theorem dX9_full_53 : decode cX9_full 53 = .ok (.ior, 1) := by decide +kernel
theorem dX9_full_54 : decode cX9_full 54 = .ok (.invokevirtual 184, 3) := by decide +kernel
theorem dX9_full_57 : decode cX9_full 57 = .ok (.ifCond .eq 10, 3) := by decide +kernel
theorem dX9_full_60 : decode cX9_full 60 = .ok (.iload 4, 2) := by decide +kernel
theorem dX9_full_62 : decode cX9_full 62 = .ok (.iload 7, 2) := by decide +kernel
theorem dX9_full_64 : decode cX9_full 64 = .ok (.ior, 1) := by decide +kernel
theorem dX9_full_65 : decode cX9_full 65 = .ok (.istore 4, 2) := by decide +kernel
theorem dX9_full_67 : decode cX9_full 67 = .ok (.iinc 6 1, 3) := by decide +kernel
theorem dX9_full_70 : decode cX9_full 70 = .ok (.goto (-49), 3) := by decide +kernel
theorem dX9_full_73 : decode cX9_full 73 = .ok (.iload 4, 2) := by decide +kernel
theorem dX9_full_75 : decode cX9_full 75 = .ok (.ireturn, 1) := by decide +kernel
theorem dX9_both_0 : decode cX9_both 0 = .ok (.aload_n 0, 1) := by decide +kernel
theorem dX9_both_1 : decode cX9_both 1 = .ok (.iload_n 1, 1) := by decide +kernel
theorem dX9_both_2 : decode cX9_both 2 = .ok (.invokevirtual 158, 3) := by decide +kernel
theorem dX9_both_5 : decode cX9_both 5 = .ok (.astore_n 3, 1) := by decide +kernel
theorem dX9_both_6 : decode cX9_both 6 = .ok (.aload_n 0, 1) := by decide +kernel
theorem dX9_both_7 : decode cX9_both 7 = .ok (.iload_n 2, 1) := by decide +kernel
theorem dX9_both_8 : decode cX9_both 8 = .ok (.invokevirtual 158, 3) := by decide +kernel
theorem dX9_both_11 : decode cX9_both 11 = .ok (.astore 4, 2) := by decide +kernel
theorem dX9_both_13 : decode cX9_both 13 = .ok (.aload_n 3, 1) := by decide +kernel
theorem dX9_both_14 : decode cX9_both 14 = .ok (.ifnull 8, 3) := by decide +kernel
theorem dX9_both_17 : decode cX9_both 17 = .ok (.aload 4, 2) := by decide +kernel
theorem dX9_both_19 : decode cX9_both 19 = .ok (.ifnonnull 7, 3) := by decide +kernel
theorem dX9_both_22 : decode cX9_both 22 = .ok (.iconst (-1), 1) := by decide +kernel
theorem dX9_both_23 : decode cX9_both 23 = .ok (.goto 12, 3) := by decide +kernel
theorem dX9_both_26 : decode cX9_both 26 = .ok (.aload_n 0, 1) := by decide +kernel
theorem dX9_both_27 : decode cX9_both 27 = .ok (.aload_n 3, 1) := by decide +kernel
theorem dX9_both_28 : decode cX9_both 28 = .ok (.aload 4, 2) := by decide +kernel
theorem dX9_both_30 : decode cX9_both 30 = .ok (.aload 4, 2) := by decide +kernel
theorem dX9_both_32 : decode cX9_both 32 = .ok (.invokevirtual 198, 3) := by decide +kernel
theorem dX9_both_35 : decode cX9_both 35 = .ok (.ireturn, 1) := by decide +kernel
theorem dX9_split_0 : decode cX9_split 0 = .ok (.aload_n 0, 1) := by decide +kernel
theorem dX9_split_1 : decode cX9_split 1 = .ok (.iload_n 1, 1) := by decide +kernel
theorem dX9_split_2 : decode cX9_split 2 = .ok (.invokevirtual 158, 3) := by decide +kernel
theorem dX9_split_5 : decode cX9_split 5 = .ok (.astore_n 3, 1) := by decide +kernel
theorem dX9_split_6 : decode cX9_split 6 = .ok (.aload_n 0, 1) := by decide +kernel
theorem dX9_split_7 : decode cX9_split 7 = .ok (.iload_n 2, 1) := by decide +kernel
theorem dX9_split_8 : decode cX9_split 8 = .ok (.invokevirtual 158, 3) := by decide +kernel
theorem dX9_split_11 : decode cX9_split 11 = .ok (.astore 4, 2) := by decide +kernel
theorem dX9_split_13 : decode cX9_split 13 = .ok (.aload_n 3, 1) := by decide +kernel
theorem dX9_split_14 : decode cX9_split 14 = .ok (.ifnull 8, 3) := by decide +kernel
theorem dX9_split_17 : decode cX9_split 17 = .ok (.aload 4, 2) := by decide +kernel
theorem dX9_split_19 : decode cX9_split 19 = .ok (.ifnonnull 5, 3) := by decide +kernel
theorem dX9_split_22 : decode cX9_split 22 = .ok (.iconst (-1), 1) := by decide +kernel
theorem dX9_split_23 : decode cX9_split 23 = .ok (.ireturn, 1) := by decide +kernel
theorem dX9_split_24 : decode cX9_split 24 = .ok (.aload_n 0, 1) := by decide +kernel
theorem dX9_split_25 : decode cX9_split 25 = .ok (.aload_n 3, 1) := by decide +kernel
theorem dX9_split_26 : decode cX9_split 26 = .ok (.aload 4, 2) := by decide +kernel
theorem dX9_split_28 : decode cX9_split 28 = .ok (.aload 4, 2) := by decide +kernel
theorem dX9_split_30 : decode cX9_split 30 = .ok (.invokevirtual 198, 3) := by decide +kernel
theorem dX9_split_33 : decode cX9_split 33 = .ok (.invokestatic 202, 3) := by decide +kernel
theorem dX9_split_36 : decode cX9_split 36 = .ok (.istore 5, 2) := by decide +kernel
theorem dX9_split_38 : decode cX9_split 38 = .ok (.iconst 0, 1) := by decide +kernel
theorem dX9_split_39 : decode cX9_split 39 = .ok (.istore 6, 2) := by decide +kernel
theorem dX9_split_41 : decode cX9_split 41 = .ok (.iload 6, 2) := by decide +kernel
theorem dX9_split_43 : decode cX9_split 43 = .ok (.aload_n 0, 1) := by decide +kernel
theorem dX9_split_44 : decode cX9_split 44 = .ok (.getfield 135, 3) := by decide +kernel
theorem dX9_split_47 : decode cX9_split 47 = .ok (.if_icmp .gt 38, 3) := by decide +kernel
theorem dX9_split_50 : decode cX9_split 50 = .ok (.aload_n 3, 1) := by decide +kernel
theorem dX9_split_51 : decode cX9_split 51 = .ok (.iload 6, 2) := by decide +kernel
theorem dX9_split_53 : decode cX9_split 53 = .ok (.invokevirtual 165, 3) := by decide +kernel
theorem dX9_split_56 : decode cX9_split 56 = .ok (.aload 4, 2) := by decide +kernel
theorem dX9_split_58 : decode cX9_split 58 = .ok (.aload_n 0, 1) := by decide +kernel
theorem dX9_split_59 : decode cX9_split 59 = .ok (.getfield 135, 3) := by decide +kernel
theorem dX9_split_62 : decode cX9_split 62 = .ok (.iload 6, 2) := by decide +kernel
theorem dX9_split_64 : decode cX9_split 64 = .ok (.iconst (-1), 1) := by decide +kernel
theorem dX9_split_65 : decode cX9_split 65 = .ok (.ixor, 1) := by decide +kernel
theorem dX9_split_66 : decode cX9_split 66 = .ok (.iand, 1) := by decide +kernel
theorem dX9_split_67 : decode cX9_split 67 = .ok (.invokevirtual 165, 3) := by decide +kernel
theorem dX9_split_70 : decode cX9_split 70 = .ok (.iadd, 1) := by decide +kernel
theorem dX9_split_71 : decode cX9_split 71 = .ok (.iload 5, 2) := by decide +kernel
theorem dX9_split_73 : decode cX9_split 73 = .ok (.if_icmp .ne 6, 3) := by decide +kernel
theorem dX9_split_76 : decode cX9_split 76 = .ok (.iload 6, 2) := by decide +kernel
theorem dX9_split_78 : decode cX9_split 78 = .ok (.ireturn, 1) := by decide +kernel
theorem dX9_split_79 : decode cX9_split 79 = .ok (.iinc 6 1, 3) := by decide +kernel
theorem dX9_split_82 : decode cX9_split 82 = .ok (.goto (-41), 3) := by decide +kernel
theorem dX9_split_85 : decode cX9_split 85 = .ok (.iconst (-1), 1) := by decide +kernel
theorem dX9_split_86 : decode cX9_split 86 = .ok (.ireturn, 1) := by decide +kernel
theorem dX9_most_0 : decode cX9_most 0 = .ok (.aload_n 0, 1) := by decide +kernel
theorem dX9_most_1 : decode cX9_most 1 = .ok (.iload_n 1, 1) := by decide +kernel
theorem dX9_most_2 : decode cX9_most 2 = .ok (.invokevirtual 158, 3) := by decide +kernel
theorem dX9_most_5 : decode cX9_most 5 = .ok (.astore 4, 2) := by decide +kernel
theorem dX9_most_7 : decode cX9_most 7 = .ok (.aload_n 0, 1) := by decide +kernel
theorem dX9_most_8 : decode cX9_most 8 = .ok (.iload_n 2, 1) := by decide +kernel
theorem dX9_most_9 : decode cX9_most 9 = .ok (.invokevirtual 158, 3) := by decide +kernel
theorem dX9_most_12 : decode cX9_most 12 = .ok (.astore 5, 2) := by decide +kernel
theorem dX9_most_14 : decode cX9_most 14 = .ok (.aload 4, 2) := by decide +kernel
theorem dX9_most_16 : decode cX9_most 16 = .ok (.ifnull 8, 3) := by decide +kernel
theorem dX9_most_19 : decode cX9_most 19 = .ok (.aload 5, 2) := by decide +kernel
theorem dX9_most_21 : decode cX9_most 21 = .ok (.ifnonnull 5, 3) := by decide +kernel
theorem dX9_most_24 : decode cX9_most 24 = .ok (.iconst (-1), 1) := by decide +kernel
theorem dX9_most_25 : decode cX9_most 25 = .ok (.ireturn, 1) := by decide +kernel
theorem dX9_most_26 : decode cX9_most 26 = .ok (.iconst (-1), 1) := by decide +kernel
theorem dX9_most_27 : decode cX9_most 27 = .ok (.istore 6, 2) := by decide +kernel
theorem dX9_most_29 : decode cX9_most 29 = .ok (.iconst 0, 1) := by decide +kernel
theorem dX9_most_30 : decode cX9_most 30 = .ok (.istore 7, 2) := by decide +kernel
theorem dX9_most_32 : decode cX9_most 32 = .ok (.iload 7, 2) := by decide +kernel
theorem dX9_most_34 : decode cX9_most 34 = .ok (.aload_n 0, 1) := by decide +kernel
theorem dX9_most_35 : decode cX9_most 35 = .ok (.getfield 135, 3) := by decide +kernel
theorem dX9_most_38 : decode cX9_most 38 = .ok (.if_icmp .gt 51, 3) := by decide +kernel
theorem dX9_most_41 : decode cX9_most 41 = .ok (.iload 7, 2) := by decide +kernel
theorem dX9_most_43 : decode cX9_most 43 = .ok (.invokestatic 202, 3) := by decide +kernel
theorem dX9_most_46 : decode cX9_most 46 = .ok (.iload_n 3, 1) := by decide +kernel
theorem dX9_most_47 : decode cX9_most 47 = .ok (.if_icmp .ne 36, 3) := by decide +kernel
theorem dX9_most_50 : decode cX9_most 50 = .ok (.aload 4, 2) := by decide +kernel
theorem dX9_most_52 : decode cX9_most 52 = .ok (.iload 7, 2) := by decide +kernel
theorem dX9_most_54 : decode cX9_most 54 = .ok (.invokevirtual 184, 3) := by decide +kernel
theorem dX9_most_57 : decode cX9_most 57 = .ok (.ifCond .eq 26, 3) := by decide +kernel
theorem dX9_most_60 : decode cX9_most 60 = .ok (.aload 5, 2) := by decide +kernel
theorem dX9_most_62 : decode cX9_most 62 = .ok (.iload 7, 2) := by decide +kernel
theorem dX9_most_64 : decode cX9_most 64 = .ok (.invokevirtual 184, 3) := by decide +kernel
theorem dX9_most_67 : decode cX9_most 67 = .ok (.ifCond .eq 16, 3) := by decide +kernel
theorem dX9_most_70 : decode cX9_most 70 = .ok (.iload 6, 2) := by decide +kernel
theorem dX9_most_72 : decode cX9_most 72 = .ok (.aload_n 0, 1) := by decide +kernel
theorem dX9_most_73 : decode cX9_most 73 = .ok (.iload 7, 2) := by decide +kernel
theorem dX9_most_75 : decode cX9_most 75 = .ok (.invokevirtual 207, 3) := by decide +kernel
theorem dX9_most_78 : decode cX9_most 78 = .ok (.invokestatic 210, 3) := by decide +kernel
theorem dX9_most_81 : decode cX9_most 81 = .ok (.istore 6, 2) := by decide +kernel
theorem dX9_most_83 : decode cX9_most 83 = .ok (.iinc 7 1, 3) := by decide +kernel
theorem dX9_most_86 : decode cX9_most 86 = .ok (.goto (-54), 3) := by decide +kernel
theorem dX9_most_89 : decode cX9_most 89 = .ok (.iload 6, 2) := by decide +kernel
theorem dX9_most_91 : decode cX9_most 91 = .ok (.ireturn, 1) := by decide +kernel
theorem dX9_three_0 : decode cX9_three 0 = .ok (.aload_n 0, 1) := by decide +kernel
theorem dX9_three_1 : decode cX9_three 1 = .ok (.iload_n 1, 1) := by decide +kernel
theorem dX9_three_2 : decode cX9_three 2 = .ok (.invokevirtual 158, 3) := by decide +kernel
theorem dX9_three_5 : decode cX9_three 5 = .ok (.astore 4, 2) := by decide +kernel
theorem dX9_three_7 : decode cX9_three 7 = .ok (.aload_n 0, 1) := by decide +kernel
theorem dX9_three_8 : decode cX9_three 8 = .ok (.iload_n 2, 1) := by decide +kernel
theorem dX9_three_9 : decode cX9_three 9 = .ok (.invokevirtual 158, 3) := by decide +kernel
theorem dX9_three_12 : decode cX9_three 12 = .ok (.astore 5, 2) := by decide +kernel
theorem dX9_three_14 : decode cX9_three 14 = .ok (.aload_n 0, 1) := by decide +kernel
theorem dX9_three_15 : decode cX9_three 15 = .ok (.iload_n 3, 1) := by decide +kernel
theorem dX9_three_16 : decode cX9_three 16 = .ok (.invokevirtual 158, 3) := by decide +kernel
theorem dX9_three_19 : decode cX9_three 19 = .ok (.astore 6, 2) := by decide +kernel
theorem dX9_three_21 : decode cX9_three 21 = .ok (.aload 4, 2) := by decide +kernel
theorem dX9_three_23 : decode cX9_three 23 = .ok (.ifnull 13, 3) := by decide +kernel
theorem dX9_three_26 : decode cX9_three 26 = .ok (.aload 5, 2) := by decide +kernel
theorem dX9_three_28 : decode cX9_three 28 = .ok (.ifnull 8, 3) := by decide +kernel
theorem dX9_three_31 : decode cX9_three 31 = .ok (.aload 6, 2) := by decide +kernel
theorem dX9_three_33 : decode cX9_three 33 = .ok (.ifnonnull 5, 3) := by decide +kernel
theorem dX9_three_36 : decode cX9_three 36 = .ok (.iconst (-1), 1) := by decide +kernel
theorem dX9_three_37 : decode cX9_three 37 = .ok (.ireturn, 1) := by decide +kernel
theorem dX9_three_38 : decode cX9_three 38 = .ok (.aload_n 0, 1) := by decide +kernel
theorem dX9_three_39 : decode cX9_three 39 = .ok (.aload 4, 2) := by decide +kernel
theorem dX9_three_41 : decode cX9_three 41 = .ok (.aload 5, 2) := by decide +kernel
theorem dX9_three_43 : decode cX9_three 43 = .ok (.aload 6, 2) := by decide +kernel
theorem dX9_three_45 : decode cX9_three 45 = .ok (.invokevirtual 198, 3) := by decide +kernel
theorem dX9_three_48 : decode cX9_three 48 = .ok (.invokestatic 202, 3) := by decide +kernel
theorem dX9_three_51 : decode cX9_three 51 = .ok (.ireturn, 1) := by decide +kernel
theorem dX9_fewest_0 : decode cX9_fewest 0 = .ok (.aload_n 0, 1) := by decide +kernel
theorem dX9_fewest_1 : decode cX9_fewest 1 = .ok (.iload_n 1, 1) := by decide +kernel
theorem dX9_fewest_2 : decode cX9_fewest 2 = .ok (.invokevirtual 158, 3) := by decide +kernel
theorem dX9_fewest_5 : decode cX9_fewest 5 = .ok (.astore_n 2, 1) := by decide +kernel
theorem dX9_fewest_6 : decode cX9_fewest 6 = .ok (.aload_n 2, 1) := by decide +kernel
theorem dX9_fewest_7 : decode cX9_fewest 7 = .ok (.ifnonnull 5, 3) := by decide +kernel
theorem dX9_fewest_10 : decode cX9_fewest 10 = .ok (.iconst (-1), 1) := by decide +kernel
theorem dX9_fewest_11 : decode cX9_fewest 11 = .ok (.ireturn, 1) := by decide +kernel
theorem dX9_fewest_12 : decode cX9_fewest 12 = .ok (.aload_n 2, 1) := by decide +kernel
theorem dX9_fewest_13 : decode cX9_fewest 13 = .ok (.aload_n 0, 1) := by decide +kernel
theorem dX9_fewest_14 : decode cX9_fewest 14 = .ok (.getfield 187, 3) := by decide +kernel
theorem dX9_fewest_17 : decode cX9_fewest 17 = .ok (.invokevirtual 215, 3) := by decide +kernel
theorem dX9_fewest_20 : decode cX9_fewest 20 = .ok (.ifCond .eq 16, 3) := by decide +kernel
theorem dX9_fewest_23 : decode cX9_fewest 23 = .ok (.aload_n 0, 1) := by decide +kernel
theorem dX9_fewest_24 : decode cX9_fewest 24 = .ok (.aload_n 2, 1) := by decide +kernel
theorem dX9_fewest_25 : decode cX9_fewest 25 = .ok (.aload_n 0, 1) := by decide +kernel
theorem dX9_fewest_26 : decode cX9_fewest 26 = .ok (.aload_n 2, 1) := by decide +kernel
theorem dX9_fewest_27 : decode cX9_fewest 27 = .ok (.invokevirtual 218, 3) := by decide +kernel
theorem dX9_fewest_30 : decode cX9_fewest 30 = .ok (.invokevirtual 222, 3) := by decide +kernel
theorem dX9_fewest_33 : decode cX9_fewest 33 = .ok (.goto 5, 3) := by decide +kernel
theorem dX9_fewest_36 : decode cX9_fewest 36 = .ok (.bipush (-2), 2) := by decide +kernel
theorem dX9_fewest_38 : decode cX9_fewest 38 = .ok (.ireturn, 1) := by decide +kernel
theorem dX9_dealt_0 : decode cX9_dealt 0 = .ok (.aload_n 0, 1) := by decide +kernel
theorem dX9_dealt_1 : decode cX9_dealt 1 = .ok (.iload_n 1, 1) := by decide +kernel
theorem dX9_dealt_2 : decode cX9_dealt 2 = .ok (.invokevirtual 158, 3) := by decide +kernel
theorem dX9_dealt_5 : decode cX9_dealt 5 = .ok (.astore_n 3, 1) := by decide +kernel
theorem dX9_dealt_6 : decode cX9_dealt 6 = .ok (.aload_n 3, 1) := by decide +kernel
theorem dX9_dealt_7 : decode cX9_dealt 7 = .ok (.ifnull 11, 3) := by decide +kernel
theorem dX9_dealt_10 : decode cX9_dealt 10 = .ok (.aload_n 0, 1) := by decide +kernel
theorem dX9_dealt_11 : decode cX9_dealt 11 = .ok (.iload_n 2, 1) := by decide +kernel
theorem dX9_dealt_12 : decode cX9_dealt 12 = .ok (.invokevirtual 68, 3) := by decide +kernel
theorem dX9_dealt_15 : decode cX9_dealt 15 = .ok (.ifCond .ne 5, 3) := by decide +kernel
theorem dX9_dealt_18 : decode cX9_dealt 18 = .ok (.iconst (-1), 1) := by decide +kernel
theorem dX9_dealt_19 : decode cX9_dealt 19 = .ok (.ireturn, 1) := by decide +kernel
theorem dX9_dealt_20 : decode cX9_dealt 20 = .ok (.aload_n 3, 1) := by decide +kernel
theorem dX9_dealt_21 : decode cX9_dealt 21 = .ok (.aload_n 0, 1) := by decide +kernel
theorem dX9_dealt_22 : decode cX9_dealt 22 = .ok (.getfield 187, 3) := by decide +kernel
theorem dX9_dealt_25 : decode cX9_dealt 25 = .ok (.invokevirtual 215, 3) := by decide +kernel
theorem dX9_dealt_28 : decode cX9_dealt 28 = .ok (.ifCond .eq 12, 3) := by decide +kernel
theorem dX9_dealt_31 : decode cX9_dealt 31 = .ok (.aload_n 0, 1) := by decide +kernel
theorem dX9_dealt_32 : decode cX9_dealt 32 = .ok (.aload_n 3, 1) := by decide +kernel
theorem dX9_dealt_33 : decode cX9_dealt 33 = .ok (.iload_n 2, 1) := by decide +kernel
theorem dX9_dealt_34 : decode cX9_dealt 34 = .ok (.invokevirtual 226, 3) := by decide +kernel
theorem dX9_dealt_37 : decode cX9_dealt 37 = .ok (.goto 5, 3) := by decide +kernel
theorem dX9_dealt_40 : decode cX9_dealt 40 = .ok (.bipush (-2), 2) := by decide +kernel
theorem dX9_dealt_42 : decode cX9_dealt 42 = .ok (.ireturn, 1) := by decide +kernel
theorem dX9_crowd_0 : decode cX9_crowd 0 = .ok (.aload_n 0, 1) := by decide +kernel
theorem dX9_crowd_1 : decode cX9_crowd 1 = .ok (.iload_n 1, 1) := by decide +kernel
theorem dX9_crowd_2 : decode cX9_crowd 2 = .ok (.invokevirtual 158, 3) := by decide +kernel
theorem dX9_crowd_5 : decode cX9_crowd 5 = .ok (.astore_n 2, 1) := by decide +kernel
theorem dX9_crowd_6 : decode cX9_crowd 6 = .ok (.aload_n 2, 1) := by decide +kernel
theorem dX9_crowd_7 : decode cX9_crowd 7 = .ok (.ifnonnull 5, 3) := by decide +kernel
theorem dX9_crowd_10 : decode cX9_crowd 10 = .ok (.iconst (-1), 1) := by decide +kernel
theorem dX9_crowd_11 : decode cX9_crowd 11 = .ok (.ireturn, 1) := by decide +kernel
theorem dX9_crowd_12 : decode cX9_crowd 12 = .ok (.aload_n 2, 1) := by decide +kernel
theorem dX9_crowd_13 : decode cX9_crowd 13 = .ok (.aload_n 0, 1) := by decide +kernel
theorem dX9_crowd_14 : decode cX9_crowd 14 = .ok (.getfield 187, 3) := by decide +kernel
theorem dX9_crowd_17 : decode cX9_crowd 17 = .ok (.invokevirtual 215, 3) := by decide +kernel
theorem dX9_crowd_20 : decode cX9_crowd 20 = .ok (.ifCond .eq 11, 3) := by decide +kernel
theorem dX9_crowd_23 : decode cX9_crowd 23 = .ok (.aload_n 0, 1) := by decide +kernel
theorem dX9_crowd_24 : decode cX9_crowd 24 = .ok (.aload_n 2, 1) := by decide +kernel
theorem dX9_crowd_25 : decode cX9_crowd 25 = .ok (.invokevirtual 218, 3) := by decide +kernel
theorem dX9_crowd_28 : decode cX9_crowd 28 = .ok (.goto 5, 3) := by decide +kernel
theorem dX9_crowd_31 : decode cX9_crowd 31 = .ok (.bipush (-2), 2) := by decide +kernel
theorem dX9_crowd_33 : decode cX9_crowd 33 = .ok (.ireturn, 1) := by decide +kernel
theorem dX9_pack_0 : decode cX9_pack 0 = .ok (.aload_n 0, 1) := by decide +kernel
theorem dX9_pack_1 : decode cX9_pack 1 = .ok (.iload_n 1, 1) := by decide +kernel
theorem dX9_pack_2 : decode cX9_pack 2 = .ok (.invokevirtual 158, 3) := by decide +kernel
theorem dX9_pack_5 : decode cX9_pack 5 = .ok (.astore_n 2, 1) := by decide +kernel
theorem dX9_pack_6 : decode cX9_pack 6 = .ok (.aload_n 2, 1) := by decide +kernel
theorem dX9_pack_7 : decode cX9_pack 7 = .ok (.ifnonnull 5, 3) := by decide +kernel
theorem dX9_pack_10 : decode cX9_pack 10 = .ok (.iconst (-1), 1) := by decide +kernel
theorem dX9_pack_11 : decode cX9_pack 11 = .ok (.ireturn, 1) := by decide +kernel
theorem dX9_pack_12 : decode cX9_pack 12 = .ok (.aload_n 2, 1) := by decide +kernel
theorem dX9_pack_13 : decode cX9_pack 13 = .ok (.aload_n 0, 1) := by decide +kernel
theorem dX9_pack_14 : decode cX9_pack 14 = .ok (.getfield 135, 3) := by decide +kernel
theorem dX9_pack_17 : decode cX9_pack 17 = .ok (.invokevirtual 165, 3) := by decide +kernel
theorem dX9_pack_20 : decode cX9_pack 20 = .ok (.istore_n 3, 1) := by decide +kernel
theorem dX9_pack_21 : decode cX9_pack 21 = .ok (.iload_n 3, 1) := by decide +kernel
theorem dX9_pack_22 : decode cX9_pack 22 = .ok (.ifCond .ne 6, 3) := by decide +kernel
theorem dX9_pack_25 : decode cX9_pack 25 = .ok (.bipush (-2), 2) := by decide +kernel
theorem dX9_pack_27 : decode cX9_pack 27 = .ok (.ireturn, 1) := by decide +kernel
theorem dX9_pack_28 : decode cX9_pack 28 = .ok (.aload_n 0, 1) := by decide +kernel
theorem dX9_pack_29 : decode cX9_pack 29 = .ok (.getfield 187, 3) := by decide +kernel
theorem dX9_pack_32 : decode cX9_pack 32 = .ok (.istore 4, 2) := by decide +kernel
theorem dX9_pack_34 : decode cX9_pack 34 = .ok (.iconst 0, 1) := by decide +kernel
theorem dX9_pack_35 : decode cX9_pack 35 = .ok (.istore 5, 2) := by decide +kernel
theorem dX9_pack_37 : decode cX9_pack 37 = .ok (.iload 5, 2) := by decide +kernel
theorem dX9_pack_39 : decode cX9_pack 39 = .ok (.aload_n 0, 1) := by decide +kernel
theorem dX9_pack_40 : decode cX9_pack 40 = .ok (.getfield 135, 3) := by decide +kernel
theorem dX9_pack_43 : decode cX9_pack 43 = .ok (.if_icmp .gt 44, 3) := by decide +kernel
theorem dX9_pack_46 : decode cX9_pack 46 = .ok (.iload_n 3, 1) := by decide +kernel
theorem dX9_pack_47 : decode cX9_pack 47 = .ok (.aload_n 2, 1) := by decide +kernel
theorem dX9_pack_48 : decode cX9_pack 48 = .ok (.iload 5, 2) := by decide +kernel
theorem dX9_pack_50 : decode cX9_pack 50 = .ok (.invokevirtual 165, 3) := by decide +kernel
theorem dX9_pack_53 : decode cX9_pack 53 = .ok (.isub, 1) := by decide +kernel
theorem dX9_pack_54 : decode cX9_pack 54 = .ok (.istore 6, 2) := by decide +kernel
theorem dX9_pack_56 : decode cX9_pack 56 = .ok (.iload 6, 2) := by decide +kernel
theorem dX9_pack_58 : decode cX9_pack 58 = .ok (.ifCond .le 23, 3) := by decide +kernel
theorem dX9_pack_61 : decode cX9_pack 61 = .ok (.iload 4, 2) := by decide +kernel
theorem dX9_pack_63 : decode cX9_pack 63 = .ok (.aload_n 0, 1) := by decide +kernel
theorem dX9_pack_64 : decode cX9_pack 64 = .ok (.getfield 187, 3) := by decide +kernel
theorem dX9_pack_67 : decode cX9_pack 67 = .ok (.iload 5, 2) := by decide +kernel
theorem dX9_pack_69 : decode cX9_pack 69 = .ok (.invokestatic 202, 3) := by decide +kernel
theorem dX9_pack_72 : decode cX9_pack 72 = .ok (.isub, 1) := by decide +kernel
theorem dX9_pack_73 : decode cX9_pack 73 = .ok (.iload 6, 2) := by decide +kernel
theorem dX9_pack_75 : decode cX9_pack 75 = .ok (.idiv, 1) := by decide +kernel
theorem dX9_pack_76 : decode cX9_pack 76 = .ok (.invokestatic 229, 3) := by decide +kernel
theorem dX9_pack_79 : decode cX9_pack 79 = .ok (.istore 4, 2) := by decide +kernel
theorem dX9_pack_81 : decode cX9_pack 81 = .ok (.iinc 5 1, 3) := by decide +kernel
theorem dX9_pack_84 : decode cX9_pack 84 = .ok (.goto (-47), 3) := by decide +kernel
theorem dX9_pack_87 : decode cX9_pack 87 = .ok (.iload 4, 2) := by decide +kernel
theorem dX9_pack_89 : decode cX9_pack 89 = .ok (.ireturn, 1) := by decide +kernel
theorem dX9_same_0 : decode cX9_same 0 = .ok (.aload_n 0, 1) := by decide +kernel
theorem dX9_same_1 : decode cX9_same 1 = .ok (.iload_n 1, 1) := by decide +kernel
theorem dX9_same_2 : decode cX9_same 2 = .ok (.invokevirtual 158, 3) := by decide +kernel
theorem dX9_same_5 : decode cX9_same 5 = .ok (.astore_n 3, 1) := by decide +kernel
theorem dX9_same_6 : decode cX9_same 6 = .ok (.aload_n 0, 1) := by decide +kernel
theorem dX9_same_7 : decode cX9_same 7 = .ok (.iload_n 2, 1) := by decide +kernel
theorem dX9_same_8 : decode cX9_same 8 = .ok (.invokevirtual 158, 3) := by decide +kernel
theorem dX9_same_11 : decode cX9_same 11 = .ok (.astore 4, 2) := by decide +kernel
theorem dX9_same_13 : decode cX9_same 13 = .ok (.aload_n 3, 1) := by decide +kernel
theorem dX9_same_14 : decode cX9_same 14 = .ok (.ifnull 8, 3) := by decide +kernel
theorem dX9_same_17 : decode cX9_same 17 = .ok (.aload 4, 2) := by decide +kernel
theorem dX9_same_19 : decode cX9_same 19 = .ok (.ifnonnull 5, 3) := by decide +kernel
theorem dX9_same_22 : decode cX9_same 22 = .ok (.iconst (-1), 1) := by decide +kernel
theorem dX9_same_23 : decode cX9_same 23 = .ok (.ireturn, 1) := by decide +kernel
theorem dX9_same_24 : decode cX9_same 24 = .ok (.iconst 0, 1) := by decide +kernel
theorem dX9_same_25 : decode cX9_same 25 = .ok (.istore 5, 2) := by decide +kernel
theorem dX9_same_27 : decode cX9_same 27 = .ok (.iload 5, 2) := by decide +kernel
theorem dX9_same_29 : decode cX9_same 29 = .ok (.aload_n 0, 1) := by decide +kernel
theorem dX9_same_30 : decode cX9_same 30 = .ok (.getfield 135, 3) := by decide +kernel
theorem dX9_same_33 : decode cX9_same 33 = .ok (.if_icmp .gt 27, 3) := by decide +kernel
theorem dX9_same_36 : decode cX9_same 36 = .ok (.aload_n 3, 1) := by decide +kernel
theorem dX9_same_37 : decode cX9_same 37 = .ok (.iload 5, 2) := by decide +kernel
theorem dX9_same_39 : decode cX9_same 39 = .ok (.invokevirtual 184, 3) := by decide +kernel
theorem dX9_same_42 : decode cX9_same 42 = .ok (.aload 4, 2) := by decide +kernel
theorem dX9_same_44 : decode cX9_same 44 = .ok (.iload 5, 2) := by decide +kernel
theorem dX9_same_46 : decode cX9_same 46 = .ok (.invokevirtual 184, 3) := by decide +kernel
theorem dX9_same_49 : decode cX9_same 49 = .ok (.if_icmp .eq 5, 3) := by decide +kernel
theorem dX9_same_52 : decode cX9_same 52 = .ok (.iconst 0, 1) := by decide +kernel
theorem dX9_same_53 : decode cX9_same 53 = .ok (.ireturn, 1) := by decide +kernel
theorem dX9_same_54 : decode cX9_same 54 = .ok (.iinc 5 1, 3) := by decide +kernel
theorem dX9_same_57 : decode cX9_same 57 = .ok (.goto (-30), 3) := by decide +kernel
theorem dX9_same_60 : decode cX9_same 60 = .ok (.iconst 1, 1) := by decide +kernel
theorem dX9_same_61 : decode cX9_same 61 = .ok (.ireturn, 1) := by decide +kernel
theorem dX9_count_0 : decode cX9_count 0 = .ok (.iload_n 1, 1) := by decide +kernel
theorem dX9_count_1 : decode cX9_count 1 = .ok (.tableswitch 55 0 3 #[31, 36, 41, 46], 31) := by decide +kernel
theorem dX9_count_32 : decode cX9_count 32 = .ok (.aload_n 0, 1) := by decide +kernel
theorem dX9_count_33 : decode cX9_count 33 = .ok (.getfield 187, 3) := by decide +kernel
theorem dX9_count_36 : decode cX9_count 36 = .ok (.ireturn, 1) := by decide +kernel
theorem dX9_count_37 : decode cX9_count 37 = .ok (.aload_n 0, 1) := by decide +kernel
theorem dX9_count_38 : decode cX9_count 38 = .ok (.getfield 118, 3) := by decide +kernel
theorem dX9_count_41 : decode cX9_count 41 = .ok (.ireturn, 1) := by decide +kernel
theorem dX9_count_42 : decode cX9_count 42 = .ok (.aload_n 0, 1) := by decide +kernel
theorem dX9_count_43 : decode cX9_count 43 = .ok (.invokevirtual 232, 3) := by decide +kernel
theorem dX9_count_46 : decode cX9_count 46 = .ok (.ireturn, 1) := by decide +kernel
theorem dX9_count_47 : decode cX9_count 47 = .ok (.aload_n 0, 1) := by decide +kernel
theorem dX9_count_48 : decode cX9_count 48 = .ok (.aload_n 0, 1) := by decide +kernel
theorem dX9_count_49 : decode cX9_count 49 = .ok (.getfield 135, 3) := by decide +kernel
theorem dX9_count_52 : decode cX9_count 52 = .ok (.invokevirtual 207, 3) := by decide +kernel
theorem dX9_count_55 : decode cX9_count 55 = .ok (.ireturn, 1) := by decide +kernel
theorem dX9_count_56 : decode cX9_count 56 = .ok (.iconst (-1), 1) := by decide +kernel
theorem dX9_count_57 : decode cX9_count 57 = .ok (.ireturn, 1) := by decide +kernel
theorem dX9_startAnew_0 : decode cX9_startAnew 0 = .ok (.aload_n 0, 1) := by decide +kernel
theorem dX9_startAnew_1 : decode cX9_startAnew 1 = .ok (.iload_n 1, 1) := by decide +kernel
theorem dX9_startAnew_2 : decode cX9_startAnew 2 = .ok (.putfield 187, 3) := by decide +kernel
theorem dX9_startAnew_5 : decode cX9_startAnew 5 = .ok (.aload_n 0, 1) := by decide +kernel
theorem dX9_startAnew_6 : decode cX9_startAnew 6 = .ok (.iconst 1, 1) := by decide +kernel
theorem dX9_startAnew_7 : decode cX9_startAnew 7 = .ok (.iload_n 1, 1) := by decide +kernel
theorem dX9_startAnew_8 : decode cX9_startAnew 8 = .ok (.ishl, 1) := by decide +kernel
theorem dX9_startAnew_9 : decode cX9_startAnew 9 = .ok (.iconst 1, 1) := by decide +kernel
theorem dX9_startAnew_10 : decode cX9_startAnew 10 = .ok (.isub, 1) := by decide +kernel
theorem dX9_startAnew_11 : decode cX9_startAnew 11 = .ok (.putfield 135, 3) := by decide +kernel
theorem dX9_startAnew_14 : decode cX9_startAnew 14 = .ok (.aload_n 0, 1) := by decide +kernel
theorem dX9_startAnew_15 : decode cX9_startAnew 15 = .ok (.iconst 0, 1) := by decide +kernel
theorem dX9_startAnew_16 : decode cX9_startAnew 16 = .ok (.putfield 118, 3) := by decide +kernel
theorem dX9_startAnew_19 : decode cX9_startAnew 19 = .ok (.iconst 0, 1) := by decide +kernel
theorem dX9_startAnew_20 : decode cX9_startAnew 20 = .ok (.istore_n 2, 1) := by decide +kernel
theorem dX9_startAnew_21 : decode cX9_startAnew 21 = .ok (.iload_n 2, 1) := by decide +kernel
theorem dX9_startAnew_22 : decode cX9_startAnew 22 = .ok (.aload_n 0, 1) := by decide +kernel
theorem dX9_startAnew_23 : decode cX9_startAnew 23 = .ok (.getfield 21, 3) := by decide +kernel
theorem dX9_startAnew_26 : decode cX9_startAnew 26 = .ok (.arraylength, 1) := by decide +kernel
theorem dX9_startAnew_27 : decode cX9_startAnew 27 = .ok (.if_icmp .ge 16, 3) := by decide +kernel
theorem dX9_startAnew_30 : decode cX9_startAnew 30 = .ok (.aload_n 0, 1) := by decide +kernel
theorem dX9_startAnew_31 : decode cX9_startAnew 31 = .ok (.getfield 21, 3) := by decide +kernel
theorem dX9_startAnew_34 : decode cX9_startAnew 34 = .ok (.iload_n 2, 1) := by decide +kernel
theorem dX9_startAnew_35 : decode cX9_startAnew 35 = .ok (.iconst 1, 1) := by decide +kernel
theorem dX9_startAnew_36 : decode cX9_startAnew 36 = .ok (.iastore, 1) := by decide +kernel
theorem dX9_startAnew_37 : decode cX9_startAnew 37 = .ok (.iinc 2 1, 3) := by decide +kernel
theorem dX9_startAnew_40 : decode cX9_startAnew 40 = .ok (.goto (-19), 3) := by decide +kernel
theorem dX9_startAnew_43 : decode cX9_startAnew 43 = .ok (.aload_n 0, 1) := by decide +kernel
theorem dX9_startAnew_44 : decode cX9_startAnew 44 = .ok (.getfield 38, 3) := by decide +kernel
theorem dX9_startAnew_47 : decode cX9_startAnew 47 = .ok (.invokevirtual 236, 3) := by decide +kernel
theorem dX9_startAnew_50 : decode cX9_startAnew 50 = .ok (.return_, 1) := by decide +kernel
theorem dX9_isThing_0 : decode cX9_isThing 0 = .ok (.iload_n 1, 1) := by decide +kernel
theorem dX9_isThing_1 : decode cX9_isThing 1 = .ok (.ifCond .lt 15, 3) := by decide +kernel
theorem dX9_isThing_4 : decode cX9_isThing 4 = .ok (.iload_n 1, 1) := by decide +kernel
theorem dX9_isThing_5 : decode cX9_isThing 5 = .ok (.aload_n 0, 1) := by decide +kernel
theorem dX9_isThing_6 : decode cX9_isThing 6 = .ok (.getfield 187, 3) := by decide +kernel
theorem dX9_isThing_9 : decode cX9_isThing 9 = .ok (.if_icmp .ge 7, 3) := by decide +kernel
theorem dX9_isThing_12 : decode cX9_isThing 12 = .ok (.iconst 1, 1) := by decide +kernel
theorem dX9_isThing_13 : decode cX9_isThing 13 = .ok (.goto 4, 3) := by decide +kernel
theorem dX9_isThing_16 : decode cX9_isThing 16 = .ok (.iconst 0, 1) := by decide +kernel
theorem dX9_isThing_17 : decode cX9_isThing 17 = .ok (.ireturn, 1) := by decide +kernel
theorem dX9_isSet_0 : decode cX9_isSet 0 = .ok (.iload_n 1, 1) := by decide +kernel
theorem dX9_isSet_1 : decode cX9_isSet 1 = .ok (.ifCond .lt 15, 3) := by decide +kernel
theorem dX9_isSet_4 : decode cX9_isSet 4 = .ok (.iload_n 1, 1) := by decide +kernel
theorem dX9_isSet_5 : decode cX9_isSet 5 = .ok (.aload_n 0, 1) := by decide +kernel
theorem dX9_isSet_6 : decode cX9_isSet 6 = .ok (.getfield 135, 3) := by decide +kernel
theorem dX9_isSet_9 : decode cX9_isSet 9 = .ok (.if_icmp .gt 7, 3) := by decide +kernel
theorem dX9_isSet_12 : decode cX9_isSet 12 = .ok (.iconst 1, 1) := by decide +kernel
theorem dX9_isSet_13 : decode cX9_isSet 13 = .ok (.goto 4, 3) := by decide +kernel
theorem dX9_isSet_16 : decode cX9_isSet 16 = .ok (.iconst 0, 1) := by decide +kernel
theorem dX9_isSet_17 : decode cX9_isSet 17 = .ok (.ireturn, 1) := by decide +kernel
theorem dX9_slotAt_0 : decode cX9_slotAt 0 = .ok (.iload_n 1, 1) := by decide +kernel
theorem dX9_slotAt_1 : decode cX9_slotAt 1 = .ok (.ifCond .lt 21, 3) := by decide +kernel
theorem dX9_slotAt_4 : decode cX9_slotAt 4 = .ok (.iload_n 1, 1) := by decide +kernel
theorem dX9_slotAt_5 : decode cX9_slotAt 5 = .ok (.aload_n 0, 1) := by decide +kernel
theorem dX9_slotAt_6 : decode cX9_slotAt 6 = .ok (.getfield 11, 3) := by decide +kernel
theorem dX9_slotAt_9 : decode cX9_slotAt 9 = .ok (.arraylength, 1) := by decide +kernel
theorem dX9_slotAt_10 : decode cX9_slotAt 10 = .ok (.if_icmp .ge 12, 3) := by decide +kernel
theorem dX9_slotAt_13 : decode cX9_slotAt 13 = .ok (.aload_n 0, 1) := by decide +kernel
theorem dX9_slotAt_14 : decode cX9_slotAt 14 = .ok (.getfield 11, 3) := by decide +kernel
theorem dX9_slotAt_17 : decode cX9_slotAt 17 = .ok (.iload_n 1, 1) := by decide +kernel
theorem dX9_slotAt_18 : decode cX9_slotAt 18 = .ok (.aaload, 1) := by decide +kernel
theorem dX9_slotAt_19 : decode cX9_slotAt 19 = .ok (.goto 4, 3) := by decide +kernel
theorem dX9_slotAt_22 : decode cX9_slotAt 22 = .ok (.aconst_null, 1) := by decide +kernel
theorem dX9_slotAt_23 : decode cX9_slotAt 23 = .ok (.areturn, 1) := by decide +kernel
theorem dX9_ruleAt_0 : decode cX9_ruleAt 0 = .ok (.iload_n 1, 1) := by decide +kernel
theorem dX9_ruleAt_1 : decode cX9_ruleAt 1 = .ok (.ifCond .lt 29, 3) := by decide +kernel
theorem dX9_ruleAt_4 : decode cX9_ruleAt 4 = .ok (.iload_n 1, 1) := by decide +kernel
theorem dX9_ruleAt_5 : decode cX9_ruleAt 5 = .ok (.aload_n 0, 1) := by decide +kernel
theorem dX9_ruleAt_6 : decode cX9_ruleAt 6 = .ok (.getfield 118, 3) := by decide +kernel
theorem dX9_ruleAt_9 : decode cX9_ruleAt 9 = .ok (.if_icmp .ge 21, 3) := by decide +kernel
theorem dX9_ruleAt_12 : decode cX9_ruleAt 12 = .ok (.iload_n 1, 1) := by decide +kernel
theorem dX9_ruleAt_13 : decode cX9_ruleAt 13 = .ok (.aload_n 0, 1) := by decide +kernel
theorem dX9_ruleAt_14 : decode cX9_ruleAt 14 = .ok (.getfield 17, 3) := by decide +kernel
theorem dX9_ruleAt_17 : decode cX9_ruleAt 17 = .ok (.arraylength, 1) := by decide +kernel
theorem dX9_ruleAt_18 : decode cX9_ruleAt 18 = .ok (.if_icmp .ge 12, 3) := by decide +kernel
theorem dX9_ruleAt_21 : decode cX9_ruleAt 21 = .ok (.aload_n 0, 1) := by decide +kernel
theorem dX9_ruleAt_22 : decode cX9_ruleAt 22 = .ok (.getfield 17, 3) := by decide +kernel
theorem dX9_ruleAt_25 : decode cX9_ruleAt 25 = .ok (.iload_n 1, 1) := by decide +kernel
theorem dX9_ruleAt_26 : decode cX9_ruleAt 26 = .ok (.aaload, 1) := by decide +kernel
theorem dX9_ruleAt_27 : decode cX9_ruleAt 27 = .ok (.goto 4, 3) := by decide +kernel
theorem dX9_ruleAt_30 : decode cX9_ruleAt 30 = .ok (.aconst_null, 1) := by decide +kernel
theorem dX9_ruleAt_31 : decode cX9_ruleAt 31 = .ok (.areturn, 1) := by decide +kernel
theorem dX9_slotsWithRow_0 : decode cX9_slotsWithRow 0 = .ok (.iconst 0, 1) := by decide +kernel
theorem dX9_slotsWithRow_1 : decode cX9_slotsWithRow 1 = .ok (.istore_n 1, 1) := by decide +kernel
theorem dX9_slotsWithRow_2 : decode cX9_slotsWithRow 2 = .ok (.iconst 0, 1) := by decide +kernel
theorem dX9_slotsWithRow_3 : decode cX9_slotsWithRow 3 = .ok (.istore_n 2, 1) := by decide +kernel
theorem dX9_slotsWithRow_4 : decode cX9_slotsWithRow 4 = .ok (.iload_n 2, 1) := by decide +kernel
theorem dX9_slotsWithRow_5 : decode cX9_slotsWithRow 5 = .ok (.aload_n 0, 1) := by decide +kernel
theorem dX9_slotsWithRow_6 : decode cX9_slotsWithRow 6 = .ok (.getfield 11, 3) := by decide +kernel
theorem dX9_slotsWithRow_9 : decode cX9_slotsWithRow 9 = .ok (.arraylength, 1) := by decide +kernel
theorem dX9_slotsWithRow_10 : decode cX9_slotsWithRow 10 = .ok (.if_icmp .ge 29, 3) := by decide +kernel
theorem dX9_slotsWithRow_13 : decode cX9_slotsWithRow 13 = .ok (.aload_n 0, 1) := by decide +kernel
theorem dX9_slotsWithRow_14 : decode cX9_slotsWithRow 14 = .ok (.iload_n 2, 1) := by decide +kernel
theorem dX9_slotsWithRow_15 : decode cX9_slotsWithRow 15 = .ok (.invokevirtual 73, 3) := by decide +kernel
theorem dX9_slotsWithRow_18 : decode cX9_slotsWithRow 18 = .ok (.astore_n 3, 1) := by decide +kernel
theorem dX9_slotsWithRow_19 : decode cX9_slotsWithRow 19 = .ok (.aload_n 3, 1) := by decide +kernel
theorem dX9_slotsWithRow_20 : decode cX9_slotsWithRow 20 = .ok (.ifnull 13, 3) := by decide +kernel
theorem dX9_slotsWithRow_23 : decode cX9_slotsWithRow 23 = .ok (.aload_n 3, 1) := by decide +kernel
theorem dX9_slotsWithRow_24 : decode cX9_slotsWithRow 24 = .ok (.invokevirtual 81, 3) := by decide +kernel
theorem dX9_slotsWithRow_27 : decode cX9_slotsWithRow 27 = .ok (.ifCond .eq 6, 3) := by decide +kernel
theorem dX9_slotsWithRow_30 : decode cX9_slotsWithRow 30 = .ok (.iinc 1 1, 3) := by decide +kernel
theorem dX9_slotsWithRow_33 : decode cX9_slotsWithRow 33 = .ok (.iinc 2 1, 3) := by decide +kernel
theorem dX9_slotsWithRow_36 : decode cX9_slotsWithRow 36 = .ok (.goto (-32), 3) := by decide +kernel
theorem dX9_slotsWithRow_39 : decode cX9_slotsWithRow 39 = .ok (.iload_n 1, 1) := by decide +kernel
theorem dX9_slotsWithRow_40 : decode cX9_slotsWithRow 40 = .ok (.ireturn, 1) := by decide +kernel
theorem dX9_numberRefusal_0 : decode cX9_numberRefusal 0 = .ok (.aload_n 0, 1) := by decide +kernel
theorem dX9_numberRefusal_1 : decode cX9_numberRefusal 1 = .ok (.iload_n 1, 1) := by decide +kernel
theorem dX9_numberRefusal_2 : decode cX9_numberRefusal 2 = .ok (.invokevirtual 73, 3) := by decide +kernel
theorem dX9_numberRefusal_5 : decode cX9_numberRefusal 5 = .ok (.astore_n 3, 1) := by decide +kernel
theorem dX9_numberRefusal_6 : decode cX9_numberRefusal 6 = .ok (.aload_n 3, 1) := by decide +kernel
theorem dX9_numberRefusal_7 : decode cX9_numberRefusal 7 = .ok (.ifnonnull 6, 3) := by decide +kernel
theorem dX9_numberRefusal_10 : decode cX9_numberRefusal 10 = .ok (.bipush (-2), 2) := by decide +kernel
theorem dX9_numberRefusal_12 : decode cX9_numberRefusal 12 = .ok (.ireturn, 1) := by decide +kernel
theorem dX9_numberRefusal_13 : decode cX9_numberRefusal 13 = .ok (.aload_n 3, 1) := by decide +kernel
theorem dX9_numberRefusal_14 : decode cX9_numberRefusal 14 = .ok (.invokevirtual 81, 3) := by decide +kernel
theorem dX9_numberRefusal_17 : decode cX9_numberRefusal 17 = .ok (.ifCond .ne 6, 3) := by decide +kernel
theorem dX9_numberRefusal_20 : decode cX9_numberRefusal 20 = .ok (.bipush (-5), 2) := by decide +kernel
theorem dX9_numberRefusal_22 : decode cX9_numberRefusal 22 = .ok (.ireturn, 1) := by decide +kernel
theorem dX9_numberRefusal_23 : decode cX9_numberRefusal 23 = .ok (.aload_n 3, 1) := by decide +kernel
theorem dX9_numberRefusal_24 : decode cX9_numberRefusal 24 = .ok (.iload_n 2, 1) := by decide +kernel
theorem dX9_numberRefusal_25 : decode cX9_numberRefusal 25 = .ok (.iconst 1, 1) := by decide +kernel
theorem dX9_numberRefusal_26 : decode cX9_numberRefusal 26 = .ok (.invokevirtual 104, 3) := by decide +kernel
theorem dX9_numberRefusal_29 : decode cX9_numberRefusal 29 = .ok (.ifCond .eq 7, 3) := by decide +kernel
theorem dX9_numberRefusal_32 : decode cX9_numberRefusal 32 = .ok (.iconst 0, 1) := by decide +kernel
theorem dX9_numberRefusal_33 : decode cX9_numberRefusal 33 = .ok (.goto 5, 3) := by decide +kernel
theorem dX9_numberRefusal_36 : decode cX9_numberRefusal 36 = .ok (.bipush (-6), 2) := by decide +kernel
theorem dX9_numberRefusal_38 : decode cX9_numberRefusal 38 = .ok (.ireturn, 1) := by decide +kernel
theorem dX9_weightOf_0 : decode cX9_weightOf 0 = .ok (.iconst 0, 1) := by decide +kernel
theorem dX9_weightOf_1 : decode cX9_weightOf 1 = .ok (.istore_n 2, 1) := by decide +kernel
theorem dX9_weightOf_2 : decode cX9_weightOf 2 = .ok (.iconst 0, 1) := by decide +kernel
theorem dX9_weightOf_3 : decode cX9_weightOf 3 = .ok (.istore_n 3, 1) := by decide +kernel
theorem dX9_weightOf_4 : decode cX9_weightOf 4 = .ok (.iload_n 3, 1) := by decide +kernel
theorem dX9_weightOf_5 : decode cX9_weightOf 5 = .ok (.aload_n 0, 1) := by decide +kernel
theorem dX9_weightOf_6 : decode cX9_weightOf 6 = .ok (.getfield 187, 3) := by decide +kernel
theorem dX9_weightOf_9 : decode cX9_weightOf 9 = .ok (.if_icmp .ge 26, 3) := by decide +kernel
theorem dX9_weightOf_12 : decode cX9_weightOf 12 = .ok (.iload_n 1, 1) := by decide +kernel
theorem dX9_weightOf_13 : decode cX9_weightOf 13 = .ok (.iload_n 3, 1) := by decide +kernel
theorem dX9_weightOf_14 : decode cX9_weightOf 14 = .ok (.ishr, 1) := by decide +kernel
theorem dX9_weightOf_15 : decode cX9_weightOf 15 = .ok (.iconst 1, 1) := by decide +kernel
theorem dX9_weightOf_16 : decode cX9_weightOf 16 = .ok (.iand, 1) := by decide +kernel
theorem dX9_weightOf_17 : decode cX9_weightOf 17 = .ok (.ifCond .eq 12, 3) := by decide +kernel
theorem dX9_weightOf_20 : decode cX9_weightOf 20 = .ok (.iload_n 2, 1) := by decide +kernel
theorem dX9_weightOf_21 : decode cX9_weightOf 21 = .ok (.aload_n 0, 1) := by decide +kernel
theorem dX9_weightOf_22 : decode cX9_weightOf 22 = .ok (.getfield 21, 3) := by decide +kernel
theorem dX9_weightOf_25 : decode cX9_weightOf 25 = .ok (.iload_n 3, 1) := by decide +kernel
theorem dX9_weightOf_26 : decode cX9_weightOf 26 = .ok (.iaload, 1) := by decide +kernel
theorem dX9_weightOf_27 : decode cX9_weightOf 27 = .ok (.iadd, 1) := by decide +kernel
theorem dX9_weightOf_28 : decode cX9_weightOf 28 = .ok (.istore_n 2, 1) := by decide +kernel
theorem dX9_weightOf_29 : decode cX9_weightOf 29 = .ok (.iinc 3 1, 3) := by decide +kernel
theorem dX9_weightOf_32 : decode cX9_weightOf 32 = .ok (.goto (-28), 3) := by decide +kernel
theorem dX9_weightOf_35 : decode cX9_weightOf 35 = .ok (.iload_n 2, 1) := by decide +kernel
theorem dX9_weightOf_36 : decode cX9_weightOf 36 = .ok (.ireturn, 1) := by decide +kernel
theorem dX9_checkFromNumbers_0 : decode cX9_checkFromNumbers 0 = .ok (.iload_n 1, 1) := by decide +kernel
theorem dX9_checkFromNumbers_1 : decode cX9_checkFromNumbers 1 = .ok (.tableswitch 159 0 5 #[39, 59, 79, 99, 119, 139], 39) := by decide +kernel
theorem dX9_checkFromNumbers_40 : decode cX9_checkFromNumbers 40 = .ok (.aload_n 0, 1) := by decide +kernel
theorem dX9_checkFromNumbers_41 : decode cX9_checkFromNumbers 41 = .ok (.getfield 38, 3) := by decide +kernel
theorem dX9_checkFromNumbers_44 : decode cX9_checkFromNumbers 44 = .ok (.aload_n 0, 1) := by decide +kernel
theorem dX9_checkFromNumbers_45 : decode cX9_checkFromNumbers 45 = .ok (.getfield 31, 3) := by decide +kernel
theorem dX9_checkFromNumbers_48 : decode cX9_checkFromNumbers 48 = .ok (.aload_n 0, 1) := by decide +kernel
theorem dX9_checkFromNumbers_49 : decode cX9_checkFromNumbers 49 = .ok (.getfield 135, 3) := by decide +kernel
theorem dX9_checkFromNumbers_52 : decode cX9_checkFromNumbers 52 = .ok (.invokevirtual 239, 3) := by decide +kernel
theorem dX9_checkFromNumbers_55 : decode cX9_checkFromNumbers 55 = .ok (.aload_n 0, 1) := by decide +kernel
theorem dX9_checkFromNumbers_56 : decode cX9_checkFromNumbers 56 = .ok (.getfield 38, 3) := by decide +kernel
theorem dX9_checkFromNumbers_59 : decode cX9_checkFromNumbers 59 = .ok (.areturn, 1) := by decide +kernel
theorem dX9_checkFromNumbers_60 : decode cX9_checkFromNumbers 60 = .ok (.aload_n 0, 1) := by decide +kernel
theorem dX9_checkFromNumbers_61 : decode cX9_checkFromNumbers 61 = .ok (.getfield 45, 3) := by decide +kernel
theorem dX9_checkFromNumbers_64 : decode cX9_checkFromNumbers 64 = .ok (.aload_n 0, 1) := by decide +kernel
theorem dX9_checkFromNumbers_65 : decode cX9_checkFromNumbers 65 = .ok (.getfield 31, 3) := by decide +kernel
theorem dX9_checkFromNumbers_68 : decode cX9_checkFromNumbers 68 = .ok (.aload_n 0, 1) := by decide +kernel
theorem dX9_checkFromNumbers_69 : decode cX9_checkFromNumbers 69 = .ok (.getfield 135, 3) := by decide +kernel
theorem dX9_checkFromNumbers_72 : decode cX9_checkFromNumbers 72 = .ok (.invokevirtual 243, 3) := by decide +kernel
theorem dX9_checkFromNumbers_75 : decode cX9_checkFromNumbers 75 = .ok (.aload_n 0, 1) := by decide +kernel
theorem dX9_checkFromNumbers_76 : decode cX9_checkFromNumbers 76 = .ok (.getfield 45, 3) := by decide +kernel
theorem dX9_checkFromNumbers_79 : decode cX9_checkFromNumbers 79 = .ok (.areturn, 1) := by decide +kernel
theorem dX9_checkFromNumbers_80 : decode cX9_checkFromNumbers 80 = .ok (.aload_n 0, 1) := by decide +kernel
theorem dX9_checkFromNumbers_81 : decode cX9_checkFromNumbers 81 = .ok (.getfield 45, 3) := by decide +kernel
theorem dX9_checkFromNumbers_84 : decode cX9_checkFromNumbers 84 = .ok (.aload_n 0, 1) := by decide +kernel
theorem dX9_checkFromNumbers_85 : decode cX9_checkFromNumbers 85 = .ok (.getfield 31, 3) := by decide +kernel
theorem dX9_checkFromNumbers_88 : decode cX9_checkFromNumbers 88 = .ok (.aload_n 0, 1) := by decide +kernel
theorem dX9_checkFromNumbers_89 : decode cX9_checkFromNumbers 89 = .ok (.getfield 187, 3) := by decide +kernel
theorem dX9_checkFromNumbers_92 : decode cX9_checkFromNumbers 92 = .ok (.invokevirtual 246, 3) := by decide +kernel
theorem dX9_checkFromNumbers_95 : decode cX9_checkFromNumbers 95 = .ok (.aload_n 0, 1) := by decide +kernel
theorem dX9_checkFromNumbers_96 : decode cX9_checkFromNumbers 96 = .ok (.getfield 45, 3) := by decide +kernel
theorem dX9_checkFromNumbers_99 : decode cX9_checkFromNumbers 99 = .ok (.areturn, 1) := by decide +kernel
theorem dX9_checkFromNumbers_100 : decode cX9_checkFromNumbers 100 = .ok (.aload_n 0, 1) := by decide +kernel
theorem dX9_checkFromNumbers_101 : decode cX9_checkFromNumbers 101 = .ok (.getfield 45, 3) := by decide +kernel
theorem dX9_checkFromNumbers_104 : decode cX9_checkFromNumbers 104 = .ok (.aload_n 0, 1) := by decide +kernel
theorem dX9_checkFromNumbers_105 : decode cX9_checkFromNumbers 105 = .ok (.getfield 31, 3) := by decide +kernel
theorem dX9_checkFromNumbers_108 : decode cX9_checkFromNumbers 108 = .ok (.aload_n 0, 1) := by decide +kernel
theorem dX9_checkFromNumbers_109 : decode cX9_checkFromNumbers 109 = .ok (.getfield 135, 3) := by decide +kernel
theorem dX9_checkFromNumbers_112 : decode cX9_checkFromNumbers 112 = .ok (.invokevirtual 249, 3) := by decide +kernel
theorem dX9_checkFromNumbers_115 : decode cX9_checkFromNumbers 115 = .ok (.aload_n 0, 1) := by decide +kernel
theorem dX9_checkFromNumbers_116 : decode cX9_checkFromNumbers 116 = .ok (.getfield 45, 3) := by decide +kernel
theorem dX9_checkFromNumbers_119 : decode cX9_checkFromNumbers 119 = .ok (.areturn, 1) := by decide +kernel
theorem dX9_checkFromNumbers_120 : decode cX9_checkFromNumbers 120 = .ok (.aload_n 0, 1) := by decide +kernel
theorem dX9_checkFromNumbers_121 : decode cX9_checkFromNumbers 121 = .ok (.getfield 52, 3) := by decide +kernel
theorem dX9_checkFromNumbers_124 : decode cX9_checkFromNumbers 124 = .ok (.aload_n 0, 1) := by decide +kernel
theorem dX9_checkFromNumbers_125 : decode cX9_checkFromNumbers 125 = .ok (.getfield 31, 3) := by decide +kernel
theorem dX9_checkFromNumbers_128 : decode cX9_checkFromNumbers 128 = .ok (.aload_n 0, 1) := by decide +kernel
theorem dX9_checkFromNumbers_129 : decode cX9_checkFromNumbers 129 = .ok (.getfield 187, 3) := by decide +kernel
theorem dX9_checkFromNumbers_132 : decode cX9_checkFromNumbers 132 = .ok (.invokevirtual 252, 3) := by decide +kernel
theorem dX9_checkFromNumbers_135 : decode cX9_checkFromNumbers 135 = .ok (.aload_n 0, 1) := by decide +kernel
theorem dX9_checkFromNumbers_136 : decode cX9_checkFromNumbers 136 = .ok (.getfield 52, 3) := by decide +kernel
theorem dX9_checkFromNumbers_139 : decode cX9_checkFromNumbers 139 = .ok (.areturn, 1) := by decide +kernel
theorem dX9_checkFromNumbers_140 : decode cX9_checkFromNumbers 140 = .ok (.aload_n 0, 1) := by decide +kernel
theorem dX9_checkFromNumbers_141 : decode cX9_checkFromNumbers 141 = .ok (.getfield 59, 3) := by decide +kernel
theorem dX9_checkFromNumbers_144 : decode cX9_checkFromNumbers 144 = .ok (.aload_n 0, 1) := by decide +kernel
theorem dX9_checkFromNumbers_145 : decode cX9_checkFromNumbers 145 = .ok (.getfield 31, 3) := by decide +kernel
theorem dX9_checkFromNumbers_148 : decode cX9_checkFromNumbers 148 = .ok (.aload_n 0, 1) := by decide +kernel
theorem dX9_checkFromNumbers_149 : decode cX9_checkFromNumbers 149 = .ok (.getfield 187, 3) := by decide +kernel
theorem dX9_checkFromNumbers_152 : decode cX9_checkFromNumbers 152 = .ok (.invokevirtual 255, 3) := by decide +kernel
theorem dX9_checkFromNumbers_155 : decode cX9_checkFromNumbers 155 = .ok (.aload_n 0, 1) := by decide +kernel
theorem dX9_checkFromNumbers_156 : decode cX9_checkFromNumbers 156 = .ok (.getfield 59, 3) := by decide +kernel
theorem dX9_checkFromNumbers_159 : decode cX9_checkFromNumbers 159 = .ok (.areturn, 1) := by decide +kernel
theorem dX9_checkFromNumbers_160 : decode cX9_checkFromNumbers 160 = .ok (.aload_n 0, 1) := by decide +kernel
theorem dX9_checkFromNumbers_161 : decode cX9_checkFromNumbers 161 = .ok (.getfield 52, 3) := by decide +kernel
theorem dX9_checkFromNumbers_164 : decode cX9_checkFromNumbers 164 = .ok (.aload_n 0, 1) := by decide +kernel
theorem dX9_checkFromNumbers_165 : decode cX9_checkFromNumbers 165 = .ok (.getfield 31, 3) := by decide +kernel
theorem dX9_checkFromNumbers_168 : decode cX9_checkFromNumbers 168 = .ok (.aload_n 0, 1) := by decide +kernel
theorem dX9_checkFromNumbers_169 : decode cX9_checkFromNumbers 169 = .ok (.getfield 187, 3) := by decide +kernel
theorem dX9_checkFromNumbers_172 : decode cX9_checkFromNumbers 172 = .ok (.invokevirtual 258, 3) := by decide +kernel
theorem dX9_checkFromNumbers_175 : decode cX9_checkFromNumbers 175 = .ok (.aload_n 0, 1) := by decide +kernel
theorem dX9_checkFromNumbers_176 : decode cX9_checkFromNumbers 176 = .ok (.getfield 52, 3) := by decide +kernel
theorem dX9_checkFromNumbers_179 : decode cX9_checkFromNumbers 179 = .ok (.areturn, 1) := by decide +kernel
theorem dX9_addDerived_0 : decode cX9_addDerived 0 = .ok (.aload_n 0, 1) := by decide +kernel
theorem dX9_addDerived_1 : decode cX9_addDerived 1 = .ok (.iload_n 2, 1) := by decide +kernel
theorem dX9_addDerived_2 : decode cX9_addDerived 2 = .ok (.invokevirtual 158, 3) := by decide +kernel
theorem dX9_addDerived_5 : decode cX9_addDerived 5 = .ok (.astore 5, 2) := by decide +kernel
theorem dX9_addDerived_7 : decode cX9_addDerived 7 = .ok (.aload_n 0, 1) := by decide +kernel
theorem dX9_addDerived_8 : decode cX9_addDerived 8 = .ok (.iload_n 3, 1) := by decide +kernel
theorem dX9_addDerived_9 : decode cX9_addDerived 9 = .ok (.invokevirtual 158, 3) := by decide +kernel
theorem dX9_addDerived_12 : decode cX9_addDerived 12 = .ok (.astore 6, 2) := by decide +kernel
theorem dX9_addDerived_14 : decode cX9_addDerived 14 = .ok (.aload 5, 2) := by decide +kernel
theorem dX9_addDerived_16 : decode cX9_addDerived 16 = .ok (.ifnull 17, 3) := by decide +kernel
theorem dX9_addDerived_19 : decode cX9_addDerived 19 = .ok (.aload 6, 2) := by decide +kernel
theorem dX9_addDerived_21 : decode cX9_addDerived 21 = .ok (.ifnull 12, 3) := by decide +kernel
theorem dX9_addDerived_24 : decode cX9_addDerived 24 = .ok (.aload_n 0, 1) := by decide +kernel
theorem dX9_addDerived_25 : decode cX9_addDerived 25 = .ok (.iload 4, 2) := by decide +kernel
theorem dX9_addDerived_27 : decode cX9_addDerived 27 = .ok (.invokevirtual 181, 3) := by decide +kernel
theorem dX9_addDerived_30 : decode cX9_addDerived 30 = .ok (.ifCond .ne 6, 3) := by decide +kernel
theorem dX9_addDerived_33 : decode cX9_addDerived 33 = .ok (.bipush (-2), 2) := by decide +kernel
theorem dX9_addDerived_35 : decode cX9_addDerived 35 = .ok (.ireturn, 1) := by decide +kernel
theorem dX9_addDerived_36 : decode cX9_addDerived 36 = .ok (.aload_n 0, 1) := by decide +kernel
theorem dX9_addDerived_37 : decode cX9_addDerived 37 = .ok (.getfield 118, 3) := by decide +kernel
theorem dX9_addDerived_40 : decode cX9_addDerived 40 = .ok (.bipush 24, 2) := by decide +kernel
theorem dX9_addDerived_42 : decode cX9_addDerived 42 = .ok (.if_icmp .lt 6, 3) := by decide +kernel
theorem dX9_addDerived_45 : decode cX9_addDerived 45 = .ok (.bipush (-8), 2) := by decide +kernel
theorem dX9_addDerived_47 : decode cX9_addDerived 47 = .ok (.ireturn, 1) := by decide +kernel
theorem dX9_addDerived_48 : decode cX9_addDerived 48 = .ok (.aload 5, 2) := by decide +kernel
theorem dX9_addDerived_50 : decode cX9_addDerived 50 = .ok (.getfield 178, 3) := by decide +kernel
theorem dX9_addDerived_53 : decode cX9_addDerived 53 = .ok (.aload 6, 2) := by decide +kernel
theorem dX9_addDerived_55 : decode cX9_addDerived 55 = .ok (.getfield 178, 3) := by decide +kernel
theorem dX9_addDerived_58 : decode cX9_addDerived 58 = .ok (.invokestatic 210, 3) := by decide +kernel
theorem dX9_addDerived_61 : decode cX9_addDerived 61 = .ok (.istore 7, 2) := by decide +kernel
theorem dX9_addDerived_63 : decode cX9_addDerived 63 = .ok (.iload 7, 2) := by decide +kernel
theorem dX9_addDerived_65 : decode cX9_addDerived 65 = .ok (.iconst 3, 1) := by decide +kernel
theorem dX9_addDerived_66 : decode cX9_addDerived 66 = .ok (.if_icmp .lt 6, 3) := by decide +kernel
theorem dX9_addDerived_69 : decode cX9_addDerived 69 = .ok (.bipush (-3), 2) := by decide +kernel
theorem dX9_addDerived_71 : decode cX9_addDerived 71 = .ok (.ireturn, 1) := by decide +kernel
theorem dX9_addDerived_72 : decode cX9_addDerived 72 = .ok (.new 261, 3) := by decide +kernel
theorem dX9_addDerived_75 : decode cX9_addDerived 75 = .ok (.dup, 1) := by decide +kernel
theorem dX9_addDerived_76 : decode cX9_addDerived 76 = .ok (.iload_n 1, 1) := by decide +kernel
theorem dX9_addDerived_77 : decode cX9_addDerived 77 = .ok (.aload 5, 2) := by decide +kernel
theorem dX9_addDerived_79 : decode cX9_addDerived 79 = .ok (.aload 6, 2) := by decide +kernel
theorem dX9_addDerived_81 : decode cX9_addDerived 81 = .ok (.iload 4, 2) := by decide +kernel
theorem dX9_addDerived_83 : decode cX9_addDerived 83 = .ok (.aload_n 0, 1) := by decide +kernel
theorem dX9_addDerived_84 : decode cX9_addDerived 84 = .ok (.getfield 135, 3) := by decide +kernel
theorem dX9_addDerived_87 : decode cX9_addDerived 87 = .ok (.invokespecial 263, 3) := by decide +kernel
theorem dX9_addDerived_90 : decode cX9_addDerived 90 = .ok (.astore 8, 2) := by decide +kernel
theorem dX9_addDerived_92 : decode cX9_addDerived 92 = .ok (.aload_n 0, 1) := by decide +kernel
theorem dX9_addDerived_93 : decode cX9_addDerived 93 = .ok (.iload_n 1, 1) := by decide +kernel
theorem dX9_addDerived_94 : decode cX9_addDerived 94 = .ok (.iload_n 2, 1) := by decide +kernel
theorem dX9_addDerived_95 : decode cX9_addDerived 95 = .ok (.iload_n 1, 1) := by decide +kernel
theorem dX9_addDerived_96 : decode cX9_addDerived 96 = .ok (.bipush 10, 2) := by decide +kernel
theorem dX9_addDerived_98 : decode cX9_addDerived 98 = .ok (.if_icmp .ne 7, 3) := by decide +kernel
theorem dX9_addDerived_101 : decode cX9_addDerived 101 = .ok (.iload_n 3, 1) := by decide +kernel
theorem dX9_addDerived_102 : decode cX9_addDerived 102 = .ok (.goto 4, 3) := by decide +kernel
theorem dX9_addDerived_105 : decode cX9_addDerived 105 = .ok (.iconst (-1), 1) := by decide +kernel
theorem dX9_addDerived_106 : decode cX9_addDerived 106 = .ok (.iload 7, 2) := by decide +kernel
theorem dX9_addDerived_108 : decode cX9_addDerived 108 = .ok (.iconst 1, 1) := by decide +kernel
theorem dX9_addDerived_109 : decode cX9_addDerived 109 = .ok (.iadd, 1) := by decide +kernel
theorem dX9_addDerived_110 : decode cX9_addDerived 110 = .ok (.aload 8, 2) := by decide +kernel
theorem dX9_addDerived_112 : decode cX9_addDerived 112 = .ok (.invokevirtual 141, 3) := by decide +kernel
theorem dX9_addDerived_115 : decode cX9_addDerived 115 = .ok (.ireturn, 1) := by decide +kernel
theorem dX9_addRule_0 : decode cX9_addRule 0 = .ok (.aload_n 0, 1) := by decide +kernel
theorem dX9_addRule_1 : decode cX9_addRule 1 = .ok (.getfield 118, 3) := by decide +kernel
theorem dX9_addRule_4 : decode cX9_addRule 4 = .ok (.aload_n 0, 1) := by decide +kernel
theorem dX9_addRule_5 : decode cX9_addRule 5 = .ok (.getfield 17, 3) := by decide +kernel
theorem dX9_addRule_8 : decode cX9_addRule 8 = .ok (.arraylength, 1) := by decide +kernel
theorem dX9_addRule_9 : decode cX9_addRule 9 = .ok (.if_icmp .lt 6, 3) := by decide +kernel
theorem dX9_addRule_12 : decode cX9_addRule 12 = .ok (.bipush (-8), 2) := by decide +kernel
theorem dX9_addRule_14 : decode cX9_addRule 14 = .ok (.ireturn, 1) := by decide +kernel
theorem dX9_addRule_15 : decode cX9_addRule 15 = .ok (.aload_n 0, 1) := by decide +kernel
theorem dX9_addRule_16 : decode cX9_addRule 16 = .ok (.getfield 17, 3) := by decide +kernel
theorem dX9_addRule_19 : decode cX9_addRule 19 = .ok (.aload_n 0, 1) := by decide +kernel
theorem dX9_addRule_20 : decode cX9_addRule 20 = .ok (.getfield 118, 3) := by decide +kernel
theorem dX9_addRule_23 : decode cX9_addRule 23 = .ok (.aaload, 1) := by decide +kernel
theorem dX9_addRule_24 : decode cX9_addRule 24 = .ok (.ifnonnull 19, 3) := by decide +kernel
theorem dX9_addRule_27 : decode cX9_addRule 27 = .ok (.aload_n 0, 1) := by decide +kernel
theorem dX9_addRule_28 : decode cX9_addRule 28 = .ok (.getfield 17, 3) := by decide +kernel
theorem dX9_addRule_31 : decode cX9_addRule 31 = .ok (.aload_n 0, 1) := by decide +kernel
theorem dX9_addRule_32 : decode cX9_addRule 32 = .ok (.getfield 118, 3) := by decide +kernel
theorem dX9_addRule_35 : decode cX9_addRule 35 = .ok (.new 15, 3) := by decide +kernel
theorem dX9_addRule_38 : decode cX9_addRule 38 = .ok (.dup, 1) := by decide +kernel
theorem dX9_addRule_39 : decode cX9_addRule 39 = .ok (.invokespecial 266, 3) := by decide +kernel
theorem dX9_addRule_42 : decode cX9_addRule 42 = .ok (.aastore, 1) := by decide +kernel
theorem dX9_addRule_43 : decode cX9_addRule 43 = .ok (.aload_n 0, 1) := by decide +kernel
theorem dX9_addRule_44 : decode cX9_addRule 44 = .ok (.getfield 17, 3) := by decide +kernel
theorem dX9_addRule_47 : decode cX9_addRule 47 = .ok (.aload_n 0, 1) := by decide +kernel
theorem dX9_addRule_48 : decode cX9_addRule 48 = .ok (.getfield 118, 3) := by decide +kernel
theorem dX9_addRule_51 : decode cX9_addRule 51 = .ok (.aaload, 1) := by decide +kernel
theorem dX9_addRule_52 : decode cX9_addRule 52 = .ok (.astore 6, 2) := by decide +kernel
theorem dX9_addRule_54 : decode cX9_addRule 54 = .ok (.aload 6, 2) := by decide +kernel
theorem dX9_addRule_56 : decode cX9_addRule 56 = .ok (.iload_n 1, 1) := by decide +kernel
theorem dX9_addRule_57 : decode cX9_addRule 57 = .ok (.putfield 162, 3) := by decide +kernel
theorem dX9_addRule_60 : decode cX9_addRule 60 = .ok (.aload 6, 2) := by decide +kernel
theorem dX9_addRule_62 : decode cX9_addRule 62 = .ok (.iload_n 2, 1) := by decide +kernel
theorem dX9_addRule_63 : decode cX9_addRule 63 = .ok (.putfield 172, 3) := by decide +kernel
theorem dX9_addRule_66 : decode cX9_addRule 66 = .ok (.aload 6, 2) := by decide +kernel
theorem dX9_addRule_68 : decode cX9_addRule 68 = .ok (.iload_n 3, 1) := by decide +kernel
theorem dX9_addRule_69 : decode cX9_addRule 69 = .ok (.putfield 175, 3) := by decide +kernel
theorem dX9_addRule_72 : decode cX9_addRule 72 = .ok (.aload 6, 2) := by decide +kernel
theorem dX9_addRule_74 : decode cX9_addRule 74 = .ok (.iload 4, 2) := by decide +kernel
theorem dX9_addRule_76 : decode cX9_addRule 76 = .ok (.putfield 178, 3) := by decide +kernel
theorem dX9_addRule_79 : decode cX9_addRule 79 = .ok (.aload 6, 2) := by decide +kernel
theorem dX9_addRule_81 : decode cX9_addRule 81 = .ok (.aload_n 0, 1) := by decide +kernel
theorem dX9_addRule_82 : decode cX9_addRule 82 = .ok (.getfield 135, 3) := by decide +kernel
theorem dX9_addRule_85 : decode cX9_addRule 85 = .ok (.aload 5, 2) := by decide +kernel
theorem dX9_addRule_87 : decode cX9_addRule 87 = .ok (.invokevirtual 267, 3) := by decide +kernel
theorem dX9_addRule_90 : decode cX9_addRule 90 = .ok (.aload_n 0, 1) := by decide +kernel
theorem dX9_addRule_91 : decode cX9_addRule 91 = .ok (.dup, 1) := by decide +kernel
theorem dX9_addRule_92 : decode cX9_addRule 92 = .ok (.getfield 118, 3) := by decide +kernel
theorem dX9_addRule_95 : decode cX9_addRule 95 = .ok (.iconst 1, 1) := by decide +kernel
theorem dX9_addRule_96 : decode cX9_addRule 96 = .ok (.iadd, 1) := by decide +kernel
theorem dX9_addRule_97 : decode cX9_addRule 97 = .ok (.putfield 118, 3) := by decide +kernel
theorem dX9_addRule_100 : decode cX9_addRule 100 = .ok (.aload_n 0, 1) := by decide +kernel
theorem dX9_addRule_101 : decode cX9_addRule 101 = .ok (.getfield 118, 3) := by decide +kernel
theorem dX9_addRule_104 : decode cX9_addRule 104 = .ok (.iconst 1, 1) := by decide +kernel
theorem dX9_addRule_105 : decode cX9_addRule 105 = .ok (.isub, 1) := by decide +kernel
theorem dX9_addRule_106 : decode cX9_addRule 106 = .ok (.ireturn, 1) := by decide +kernel
theorem dX9_thingsThatMayGo_0 : decode cX9_thingsThatMayGo 0 = .ok (.iconst 0, 1) := by decide +kernel
theorem dX9_thingsThatMayGo_1 : decode cX9_thingsThatMayGo 1 = .ok (.istore 4, 2) := by decide +kernel
theorem dX9_thingsThatMayGo_3 : decode cX9_thingsThatMayGo 3 = .ok (.iconst 0, 1) := by decide +kernel
theorem dX9_thingsThatMayGo_4 : decode cX9_thingsThatMayGo 4 = .ok (.istore 5, 2) := by decide +kernel
theorem dX9_thingsThatMayGo_6 : decode cX9_thingsThatMayGo 6 = .ok (.iload 5, 2) := by decide +kernel
theorem dX9_thingsThatMayGo_8 : decode cX9_thingsThatMayGo 8 = .ok (.aload_n 0, 1) := by decide +kernel
theorem dX9_thingsThatMayGo_9 : decode cX9_thingsThatMayGo 9 = .ok (.getfield 187, 3) := by decide +kernel
theorem dX9_thingsThatMayGo_12 : decode cX9_thingsThatMayGo 12 = .ok (.if_icmp .ge 42, 3) := by decide +kernel
theorem dX9_thingsThatMayGo_15 : decode cX9_thingsThatMayGo 15 = .ok (.iconst 1, 1) := by decide +kernel
theorem dX9_thingsThatMayGo_16 : decode cX9_thingsThatMayGo 16 = .ok (.iload 5, 2) := by decide +kernel
theorem dX9_thingsThatMayGo_18 : decode cX9_thingsThatMayGo 18 = .ok (.ishl, 1) := by decide +kernel
theorem dX9_thingsThatMayGo_19 : decode cX9_thingsThatMayGo 19 = .ok (.istore 6, 2) := by decide +kernel
theorem dX9_thingsThatMayGo_21 : decode cX9_thingsThatMayGo 21 = .ok (.iload_n 2, 1) := by decide +kernel
theorem dX9_thingsThatMayGo_22 : decode cX9_thingsThatMayGo 22 = .ok (.iload 6, 2) := by decide +kernel
theorem dX9_thingsThatMayGo_24 : decode cX9_thingsThatMayGo 24 = .ok (.iand, 1) := by decide +kernel
theorem dX9_thingsThatMayGo_25 : decode cX9_thingsThatMayGo 25 = .ok (.ifCond .eq 23, 3) := by decide +kernel
theorem dX9_thingsThatMayGo_28 : decode cX9_thingsThatMayGo 28 = .ok (.aload_n 1, 1) := by decide +kernel
theorem dX9_thingsThatMayGo_29 : decode cX9_thingsThatMayGo 29 = .ok (.iload_n 3, 1) := by decide +kernel
theorem dX9_thingsThatMayGo_30 : decode cX9_thingsThatMayGo 30 = .ok (.iload 6, 2) := by decide +kernel
theorem dX9_thingsThatMayGo_32 : decode cX9_thingsThatMayGo 32 = .ok (.iconst (-1), 1) := by decide +kernel
theorem dX9_thingsThatMayGo_33 : decode cX9_thingsThatMayGo 33 = .ok (.ixor, 1) := by decide +kernel
theorem dX9_thingsThatMayGo_34 : decode cX9_thingsThatMayGo 34 = .ok (.iand, 1) := by decide +kernel
theorem dX9_thingsThatMayGo_35 : decode cX9_thingsThatMayGo 35 = .ok (.invokevirtual 184, 3) := by decide +kernel
theorem dX9_thingsThatMayGo_38 : decode cX9_thingsThatMayGo 38 = .ok (.ifCond .eq 10, 3) := by decide +kernel
theorem dX9_thingsThatMayGo_41 : decode cX9_thingsThatMayGo 41 = .ok (.iload 4, 2) := by decide +kernel
theorem dX9_thingsThatMayGo_43 : decode cX9_thingsThatMayGo 43 = .ok (.iload 6, 2) := by decide +kernel
theorem dX9_thingsThatMayGo_45 : decode cX9_thingsThatMayGo 45 = .ok (.ior, 1) := by decide +kernel
theorem dX9_thingsThatMayGo_46 : decode cX9_thingsThatMayGo 46 = .ok (.istore 4, 2) := by decide +kernel
theorem dX9_thingsThatMayGo_48 : decode cX9_thingsThatMayGo 48 = .ok (.iinc 5 1, 3) := by decide +kernel
theorem dX9_thingsThatMayGo_51 : decode cX9_thingsThatMayGo 51 = .ok (.goto (-45), 3) := by decide +kernel
theorem dX9_thingsThatMayGo_54 : decode cX9_thingsThatMayGo 54 = .ok (.iload 4, 2) := by decide +kernel
theorem dX9_thingsThatMayGo_56 : decode cX9_thingsThatMayGo 56 = .ok (.ireturn, 1) := by decide +kernel
theorem dX9_nextByWeight_0 : decode cX9_nextByWeight 0 = .ok (.iconst (-1), 1) := by decide +kernel
theorem dX9_nextByWeight_1 : decode cX9_nextByWeight 1 = .ok (.istore_n 3, 1) := by decide +kernel
theorem dX9_nextByWeight_2 : decode cX9_nextByWeight 2 = .ok (.iconst 0, 1) := by decide +kernel
theorem dX9_nextByWeight_3 : decode cX9_nextByWeight 3 = .ok (.istore 4, 2) := by decide +kernel
theorem dX9_nextByWeight_5 : decode cX9_nextByWeight 5 = .ok (.iload 4, 2) := by decide +kernel
theorem dX9_nextByWeight_7 : decode cX9_nextByWeight 7 = .ok (.aload_n 0, 1) := by decide +kernel
theorem dX9_nextByWeight_8 : decode cX9_nextByWeight 8 = .ok (.getfield 187, 3) := by decide +kernel
theorem dX9_nextByWeight_11 : decode cX9_nextByWeight 11 = .ok (.if_icmp .ge 36, 3) := by decide +kernel
theorem dX9_nextByWeight_14 : decode cX9_nextByWeight 14 = .ok (.iload_n 1, 1) := by decide +kernel
theorem dX9_nextByWeight_15 : decode cX9_nextByWeight 15 = .ok (.iload 4, 2) := by decide +kernel
theorem dX9_nextByWeight_17 : decode cX9_nextByWeight 17 = .ok (.ishr, 1) := by decide +kernel
theorem dX9_nextByWeight_18 : decode cX9_nextByWeight 18 = .ok (.iconst 1, 1) := by decide +kernel
theorem dX9_nextByWeight_19 : decode cX9_nextByWeight 19 = .ok (.iand, 1) := by decide +kernel
theorem dX9_nextByWeight_20 : decode cX9_nextByWeight 20 = .ok (.ifCond .ne 21, 3) := by decide +kernel
theorem dX9_nextByWeight_23 : decode cX9_nextByWeight 23 = .ok (.iload_n 3, 1) := by decide +kernel
theorem dX9_nextByWeight_24 : decode cX9_nextByWeight 24 = .ok (.ifCond .lt 14, 3) := by decide +kernel
theorem dX9_nextByWeight_27 : decode cX9_nextByWeight 27 = .ok (.aload_n 0, 1) := by decide +kernel
theorem dX9_nextByWeight_28 : decode cX9_nextByWeight 28 = .ok (.iload 4, 2) := by decide +kernel
theorem dX9_nextByWeight_30 : decode cX9_nextByWeight 30 = .ok (.iload_n 3, 1) := by decide +kernel
theorem dX9_nextByWeight_31 : decode cX9_nextByWeight 31 = .ok (.iload_n 2, 1) := by decide +kernel
theorem dX9_nextByWeight_32 : decode cX9_nextByWeight 32 = .ok (.invokevirtual 271, 3) := by decide +kernel
theorem dX9_nextByWeight_35 : decode cX9_nextByWeight 35 = .ok (.ifCond .eq 6, 3) := by decide +kernel
theorem dX9_nextByWeight_38 : decode cX9_nextByWeight 38 = .ok (.iload 4, 2) := by decide +kernel
theorem dX9_nextByWeight_40 : decode cX9_nextByWeight 40 = .ok (.istore_n 3, 1) := by decide +kernel
theorem dX9_nextByWeight_41 : decode cX9_nextByWeight 41 = .ok (.iinc 4 1, 3) := by decide +kernel
theorem dX9_nextByWeight_44 : decode cX9_nextByWeight 44 = .ok (.goto (-39), 3) := by decide +kernel
theorem dX9_nextByWeight_47 : decode cX9_nextByWeight 47 = .ok (.iload_n 3, 1) := by decide +kernel
theorem dX9_nextByWeight_48 : decode cX9_nextByWeight 48 = .ok (.iconst 0, 1) := by decide +kernel
theorem dX9_nextByWeight_49 : decode cX9_nextByWeight 49 = .ok (.invokestatic 210, 3) := by decide +kernel
theorem dX9_nextByWeight_52 : decode cX9_nextByWeight 52 = .ok (.ireturn, 1) := by decide +kernel
theorem dX9_goesAhead_0 : decode cX9_goesAhead 0 = .ok (.iload_n 3, 1) := by decide +kernel
theorem dX9_goesAhead_1 : decode cX9_goesAhead 1 = .ok (.ifCond .eq 26, 3) := by decide +kernel
theorem dX9_goesAhead_4 : decode cX9_goesAhead 4 = .ok (.aload_n 0, 1) := by decide +kernel
theorem dX9_goesAhead_5 : decode cX9_goesAhead 5 = .ok (.getfield 21, 3) := by decide +kernel
theorem dX9_goesAhead_8 : decode cX9_goesAhead 8 = .ok (.iload_n 1, 1) := by decide +kernel
theorem dX9_goesAhead_9 : decode cX9_goesAhead 9 = .ok (.iaload, 1) := by decide +kernel
theorem dX9_goesAhead_10 : decode cX9_goesAhead 10 = .ok (.aload_n 0, 1) := by decide +kernel
theorem dX9_goesAhead_11 : decode cX9_goesAhead 11 = .ok (.getfield 21, 3) := by decide +kernel
theorem dX9_goesAhead_14 : decode cX9_goesAhead 14 = .ok (.iload_n 2, 1) := by decide +kernel
theorem dX9_goesAhead_15 : decode cX9_goesAhead 15 = .ok (.iaload, 1) := by decide +kernel
theorem dX9_goesAhead_16 : decode cX9_goesAhead 16 = .ok (.if_icmp .ge 7, 3) := by decide +kernel
theorem dX9_goesAhead_19 : decode cX9_goesAhead 19 = .ok (.iconst 1, 1) := by decide +kernel
theorem dX9_goesAhead_20 : decode cX9_goesAhead 20 = .ok (.goto 27, 3) := by decide +kernel
theorem dX9_goesAhead_23 : decode cX9_goesAhead 23 = .ok (.iconst 0, 1) := by decide +kernel
theorem dX9_goesAhead_24 : decode cX9_goesAhead 24 = .ok (.goto 23, 3) := by decide +kernel
theorem dX9_goesAhead_27 : decode cX9_goesAhead 27 = .ok (.aload_n 0, 1) := by decide +kernel
theorem dX9_goesAhead_28 : decode cX9_goesAhead 28 = .ok (.getfield 21, 3) := by decide +kernel
theorem dX9_goesAhead_31 : decode cX9_goesAhead 31 = .ok (.iload_n 1, 1) := by decide +kernel
theorem dX9_goesAhead_32 : decode cX9_goesAhead 32 = .ok (.iaload, 1) := by decide +kernel
theorem dX9_goesAhead_33 : decode cX9_goesAhead 33 = .ok (.aload_n 0, 1) := by decide +kernel
theorem dX9_goesAhead_34 : decode cX9_goesAhead 34 = .ok (.getfield 21, 3) := by decide +kernel
theorem dX9_goesAhead_37 : decode cX9_goesAhead 37 = .ok (.iload_n 2, 1) := by decide +kernel
theorem dX9_goesAhead_38 : decode cX9_goesAhead 38 = .ok (.iaload, 1) := by decide +kernel
theorem dX9_goesAhead_39 : decode cX9_goesAhead 39 = .ok (.if_icmp .le 7, 3) := by decide +kernel
theorem dX9_goesAhead_42 : decode cX9_goesAhead 42 = .ok (.iconst 1, 1) := by decide +kernel
theorem dX9_goesAhead_43 : decode cX9_goesAhead 43 = .ok (.goto 4, 3) := by decide +kernel
theorem dX9_goesAhead_46 : decode cX9_goesAhead 46 = .ok (.iconst 0, 1) := by decide +kernel
theorem dX9_goesAhead_47 : decode cX9_goesAhead 47 = .ok (.ireturn, 1) := by decide +kernel
theorem dX9_mostCommon_0 : decode cX9_mostCommon 0 = .ok (.iconst 0, 1) := by decide +kernel
theorem dX9_mostCommon_1 : decode cX9_mostCommon 1 = .ok (.istore 4, 2) := by decide +kernel
theorem dX9_mostCommon_3 : decode cX9_mostCommon 3 = .ok (.iconst 1, 1) := by decide +kernel
theorem dX9_mostCommon_4 : decode cX9_mostCommon 4 = .ok (.istore 5, 2) := by decide +kernel
theorem dX9_mostCommon_6 : decode cX9_mostCommon 6 = .ok (.iload 5, 2) := by decide +kernel
theorem dX9_mostCommon_8 : decode cX9_mostCommon 8 = .ok (.aload_n 0, 1) := by decide +kernel
theorem dX9_mostCommon_9 : decode cX9_mostCommon 9 = .ok (.getfield 135, 3) := by decide +kernel
theorem dX9_mostCommon_12 : decode cX9_mostCommon 12 = .ok (.if_icmp .gt 53, 3) := by decide +kernel
theorem dX9_mostCommon_15 : decode cX9_mostCommon 15 = .ok (.iload 5, 2) := by decide +kernel
theorem dX9_mostCommon_17 : decode cX9_mostCommon 17 = .ok (.invokestatic 202, 3) := by decide +kernel
theorem dX9_mostCommon_20 : decode cX9_mostCommon 20 = .ok (.iload 4, 2) := by decide +kernel
theorem dX9_mostCommon_22 : decode cX9_mostCommon 22 = .ok (.invokestatic 202, 3) := by decide +kernel
theorem dX9_mostCommon_25 : decode cX9_mostCommon 25 = .ok (.if_icmp .le 34, 3) := by decide +kernel
theorem dX9_mostCommon_28 : decode cX9_mostCommon 28 = .ok (.aload_n 1, 1) := by decide +kernel
theorem dX9_mostCommon_29 : decode cX9_mostCommon 29 = .ok (.iload 5, 2) := by decide +kernel
theorem dX9_mostCommon_31 : decode cX9_mostCommon 31 = .ok (.invokevirtual 184, 3) := by decide +kernel
theorem dX9_mostCommon_34 : decode cX9_mostCommon 34 = .ok (.ifCond .eq 25, 3) := by decide +kernel
theorem dX9_mostCommon_37 : decode cX9_mostCommon 37 = .ok (.aload_n 2, 1) := by decide +kernel
theorem dX9_mostCommon_38 : decode cX9_mostCommon 38 = .ok (.iload 5, 2) := by decide +kernel
theorem dX9_mostCommon_40 : decode cX9_mostCommon 40 = .ok (.invokevirtual 184, 3) := by decide +kernel
theorem dX9_mostCommon_43 : decode cX9_mostCommon 43 = .ok (.ifCond .eq 16, 3) := by decide +kernel
theorem dX9_mostCommon_46 : decode cX9_mostCommon 46 = .ok (.aload_n 3, 1) := by decide +kernel
theorem dX9_mostCommon_47 : decode cX9_mostCommon 47 = .ok (.iload 5, 2) := by decide +kernel
theorem dX9_mostCommon_49 : decode cX9_mostCommon 49 = .ok (.invokevirtual 184, 3) := by decide +kernel
theorem dX9_mostCommon_52 : decode cX9_mostCommon 52 = .ok (.ifCond .eq 7, 3) := by decide +kernel
theorem dX9_mostCommon_55 : decode cX9_mostCommon 55 = .ok (.iload 5, 2) := by decide +kernel
theorem dX9_mostCommon_57 : decode cX9_mostCommon 57 = .ok (.istore 4, 2) := by decide +kernel
theorem dX9_mostCommon_59 : decode cX9_mostCommon 59 = .ok (.iinc 5 1, 3) := by decide +kernel
theorem dX9_mostCommon_62 : decode cX9_mostCommon 62 = .ok (.goto (-56), 3) := by decide +kernel
theorem dX9_mostCommon_65 : decode cX9_mostCommon 65 = .ok (.iload 4, 2) := by decide +kernel
theorem dX9_mostCommon_67 : decode cX9_mostCommon 67 = .ok (.ireturn, 1) := by decide +kernel
theorem dX9_heapsNeeded_0 : decode cX9_heapsNeeded 0 = .ok (.aload_n 1, 1) := by decide +kernel
theorem dX9_heapsNeeded_1 : decode cX9_heapsNeeded 1 = .ok (.iload_n 2, 1) := by decide +kernel
theorem dX9_heapsNeeded_2 : decode cX9_heapsNeeded 2 = .ok (.invokevirtual 165, 3) := by decide +kernel
theorem dX9_heapsNeeded_5 : decode cX9_heapsNeeded 5 = .ok (.istore_n 3, 1) := by decide +kernel
theorem dX9_heapsNeeded_6 : decode cX9_heapsNeeded 6 = .ok (.iload_n 3, 1) := by decide +kernel
theorem dX9_heapsNeeded_7 : decode cX9_heapsNeeded 7 = .ok (.ifCond .le 16, 3) := by decide +kernel
theorem dX9_heapsNeeded_10 : decode cX9_heapsNeeded 10 = .ok (.iload_n 2, 1) := by decide +kernel
theorem dX9_heapsNeeded_11 : decode cX9_heapsNeeded 11 = .ok (.invokestatic 202, 3) := by decide +kernel
theorem dX9_heapsNeeded_14 : decode cX9_heapsNeeded 14 = .ok (.iload_n 3, 1) := by decide +kernel
theorem dX9_heapsNeeded_15 : decode cX9_heapsNeeded 15 = .ok (.iadd, 1) := by decide +kernel
theorem dX9_heapsNeeded_16 : decode cX9_heapsNeeded 16 = .ok (.iconst 1, 1) := by decide +kernel
theorem dX9_heapsNeeded_17 : decode cX9_heapsNeeded 17 = .ok (.isub, 1) := by decide +kernel
theorem dX9_heapsNeeded_18 : decode cX9_heapsNeeded 18 = .ok (.iload_n 3, 1) := by decide +kernel
theorem dX9_heapsNeeded_19 : decode cX9_heapsNeeded 19 = .ok (.idiv, 1) := by decide +kernel
theorem dX9_heapsNeeded_20 : decode cX9_heapsNeeded 20 = .ok (.goto 4, 3) := by decide +kernel
theorem dX9_heapsNeeded_23 : decode cX9_heapsNeeded 23 = .ok (.iconst 0, 1) := by decide +kernel
theorem dX9_heapsNeeded_24 : decode cX9_heapsNeeded 24 = .ok (.ireturn, 1) := by decide +kernel
theorem dX9_mostCrowded_0 : decode cX9_mostCrowded 0 = .ok (.iconst 1, 1) := by decide +kernel
theorem dX9_mostCrowded_1 : decode cX9_mostCrowded 1 = .ok (.istore_n 2, 1) := by decide +kernel
theorem dX9_mostCrowded_2 : decode cX9_mostCrowded 2 = .ok (.aload_n 0, 1) := by decide +kernel
theorem dX9_mostCrowded_3 : decode cX9_mostCrowded 3 = .ok (.aload_n 1, 1) := by decide +kernel
theorem dX9_mostCrowded_4 : decode cX9_mostCrowded 4 = .ok (.iload_n 2, 1) := by decide +kernel
theorem dX9_mostCrowded_5 : decode cX9_mostCrowded 5 = .ok (.invokevirtual 222, 3) := by decide +kernel
theorem dX9_mostCrowded_8 : decode cX9_mostCrowded 8 = .ok (.istore_n 3, 1) := by decide +kernel
theorem dX9_mostCrowded_9 : decode cX9_mostCrowded 9 = .ok (.iconst 2, 1) := by decide +kernel
theorem dX9_mostCrowded_10 : decode cX9_mostCrowded 10 = .ok (.istore 4, 2) := by decide +kernel
theorem dX9_mostCrowded_12 : decode cX9_mostCrowded 12 = .ok (.iload 4, 2) := by decide +kernel
theorem dX9_mostCrowded_14 : decode cX9_mostCrowded 14 = .ok (.aload_n 0, 1) := by decide +kernel
theorem dX9_mostCrowded_15 : decode cX9_mostCrowded 15 = .ok (.getfield 135, 3) := by decide +kernel
theorem dX9_mostCrowded_18 : decode cX9_mostCrowded 18 = .ok (.if_icmp .gt 30, 3) := by decide +kernel
theorem dX9_mostCrowded_21 : decode cX9_mostCrowded 21 = .ok (.aload_n 0, 1) := by decide +kernel
theorem dX9_mostCrowded_22 : decode cX9_mostCrowded 22 = .ok (.aload_n 1, 1) := by decide +kernel
theorem dX9_mostCrowded_23 : decode cX9_mostCrowded 23 = .ok (.iload 4, 2) := by decide +kernel
theorem dX9_mostCrowded_25 : decode cX9_mostCrowded 25 = .ok (.invokevirtual 222, 3) := by decide +kernel
theorem dX9_mostCrowded_28 : decode cX9_mostCrowded 28 = .ok (.istore 5, 2) := by decide +kernel
theorem dX9_mostCrowded_30 : decode cX9_mostCrowded 30 = .ok (.iload 5, 2) := by decide +kernel
theorem dX9_mostCrowded_32 : decode cX9_mostCrowded 32 = .ok (.iload_n 3, 1) := by decide +kernel
theorem dX9_mostCrowded_33 : decode cX9_mostCrowded 33 = .ok (.if_icmp .le 9, 3) := by decide +kernel
theorem dX9_mostCrowded_36 : decode cX9_mostCrowded 36 = .ok (.iload 4, 2) := by decide +kernel
theorem dX9_mostCrowded_38 : decode cX9_mostCrowded 38 = .ok (.istore_n 2, 1) := by decide +kernel
theorem dX9_mostCrowded_39 : decode cX9_mostCrowded 39 = .ok (.iload 5, 2) := by decide +kernel
theorem dX9_mostCrowded_41 : decode cX9_mostCrowded 41 = .ok (.istore_n 3, 1) := by decide +kernel
theorem dX9_mostCrowded_42 : decode cX9_mostCrowded 42 = .ok (.iinc 4 1, 3) := by decide +kernel
theorem dX9_mostCrowded_45 : decode cX9_mostCrowded 45 = .ok (.goto (-33), 3) := by decide +kernel
theorem dX9_mostCrowded_48 : decode cX9_mostCrowded 48 = .ok (.iload_n 2, 1) := by decide +kernel
theorem dX9_mostCrowded_49 : decode cX9_mostCrowded 49 = .ok (.ireturn, 1) := by decide +kernel
theorem dX9_numberInDeal_0 : decode cX9_numberInDeal 0 = .ok (.aload_n 0, 1) := by decide +kernel
theorem dX9_numberInDeal_1 : decode cX9_numberInDeal 1 = .ok (.aload_n 1, 1) := by decide +kernel
theorem dX9_numberInDeal_2 : decode cX9_numberInDeal 2 = .ok (.aload_n 0, 1) := by decide +kernel
theorem dX9_numberInDeal_3 : decode cX9_numberInDeal 3 = .ok (.aload_n 1, 1) := by decide +kernel
theorem dX9_numberInDeal_4 : decode cX9_numberInDeal 4 = .ok (.invokevirtual 218, 3) := by decide +kernel
theorem dX9_numberInDeal_7 : decode cX9_numberInDeal 7 = .ok (.invokevirtual 222, 3) := by decide +kernel
theorem dX9_numberInDeal_10 : decode cX9_numberInDeal 10 = .ok (.istore_n 3, 1) := by decide +kernel
theorem dX9_numberInDeal_11 : decode cX9_numberInDeal 11 = .ok (.iconst 0, 1) := by decide +kernel
theorem dX9_numberInDeal_12 : decode cX9_numberInDeal 12 = .ok (.istore 4, 2) := by decide +kernel
theorem dX9_numberInDeal_14 : decode cX9_numberInDeal 14 = .ok (.iconst 0, 1) := by decide +kernel
theorem dX9_numberInDeal_15 : decode cX9_numberInDeal 15 = .ok (.istore 5, 2) := by decide +kernel
theorem dX9_numberInDeal_17 : decode cX9_numberInDeal 17 = .ok (.iconst 0, 1) := by decide +kernel
theorem dX9_numberInDeal_18 : decode cX9_numberInDeal 18 = .ok (.istore 6, 2) := by decide +kernel
theorem dX9_numberInDeal_20 : decode cX9_numberInDeal 20 = .ok (.iload 6, 2) := by decide +kernel
theorem dX9_numberInDeal_22 : decode cX9_numberInDeal 22 = .ok (.iload_n 2, 1) := by decide +kernel
theorem dX9_numberInDeal_23 : decode cX9_numberInDeal 23 = .ok (.if_icmp .gt 52, 3) := by decide +kernel
theorem dX9_numberInDeal_26 : decode cX9_numberInDeal 26 = .ok (.iload 4, 2) := by decide +kernel
theorem dX9_numberInDeal_28 : decode cX9_numberInDeal 28 = .ok (.aload_n 0, 1) := by decide +kernel
theorem dX9_numberInDeal_29 : decode cX9_numberInDeal 29 = .ok (.getfield 25, 3) := by decide +kernel
theorem dX9_numberInDeal_32 : decode cX9_numberInDeal 32 = .ok (.arraylength, 1) := by decide +kernel
theorem dX9_numberInDeal_33 : decode cX9_numberInDeal 33 = .ok (.if_icmp .ge 42, 3) := by decide +kernel
theorem dX9_numberInDeal_36 : decode cX9_numberInDeal 36 = .ok (.aload_n 0, 1) := by decide +kernel
theorem dX9_numberInDeal_37 : decode cX9_numberInDeal 37 = .ok (.aload_n 1, 1) := by decide +kernel
theorem dX9_numberInDeal_38 : decode cX9_numberInDeal 38 = .ok (.iload 6, 2) := by decide +kernel
theorem dX9_numberInDeal_40 : decode cX9_numberInDeal 40 = .ok (.iload 4, 2) := by decide +kernel
theorem dX9_numberInDeal_42 : decode cX9_numberInDeal 42 = .ok (.iload_n 3, 1) := by decide +kernel
theorem dX9_numberInDeal_43 : decode cX9_numberInDeal 43 = .ok (.invokevirtual 275, 3) := by decide +kernel
theorem dX9_numberInDeal_46 : decode cX9_numberInDeal 46 = .ok (.istore 5, 2) := by decide +kernel
theorem dX9_numberInDeal_48 : decode cX9_numberInDeal 48 = .ok (.iload 5, 2) := by decide +kernel
theorem dX9_numberInDeal_50 : decode cX9_numberInDeal 50 = .ok (.iload 4, 2) := by decide +kernel
theorem dX9_numberInDeal_52 : decode cX9_numberInDeal 52 = .ok (.if_icmp .ne 17, 3) := by decide +kernel
theorem dX9_numberInDeal_55 : decode cX9_numberInDeal 55 = .ok (.aload_n 0, 1) := by decide +kernel
theorem dX9_numberInDeal_56 : decode cX9_numberInDeal 56 = .ok (.getfield 25, 3) := by decide +kernel
theorem dX9_numberInDeal_59 : decode cX9_numberInDeal 59 = .ok (.iload 4, 2) := by decide +kernel
theorem dX9_numberInDeal_61 : decode cX9_numberInDeal 61 = .ok (.iconst 1, 1) := by decide +kernel
theorem dX9_numberInDeal_62 : decode cX9_numberInDeal 62 = .ok (.iload 6, 2) := by decide +kernel
theorem dX9_numberInDeal_64 : decode cX9_numberInDeal 64 = .ok (.ishl, 1) := by decide +kernel
theorem dX9_numberInDeal_65 : decode cX9_numberInDeal 65 = .ok (.iastore, 1) := by decide +kernel
theorem dX9_numberInDeal_66 : decode cX9_numberInDeal 66 = .ok (.iinc 4 1, 3) := by decide +kernel
theorem dX9_numberInDeal_69 : decode cX9_numberInDeal 69 = .ok (.iinc 6 1, 3) := by decide +kernel
theorem dX9_numberInDeal_72 : decode cX9_numberInDeal 72 = .ok (.goto (-52), 3) := by decide +kernel
theorem dX9_numberInDeal_75 : decode cX9_numberInDeal 75 = .ok (.iload 5, 2) := by decide +kernel
theorem dX9_numberInDeal_77 : decode cX9_numberInDeal 77 = .ok (.ireturn, 1) := by decide +kernel
theorem dX9_heapThatMayTake_0 : decode cX9_heapThatMayTake 0 = .ok (.iconst 0, 1) := by decide +kernel
theorem dX9_heapThatMayTake_1 : decode cX9_heapThatMayTake 1 = .ok (.istore 5, 2) := by decide +kernel
theorem dX9_heapThatMayTake_3 : decode cX9_heapThatMayTake 3 = .ok (.iload 5, 2) := by decide +kernel
theorem dX9_heapThatMayTake_5 : decode cX9_heapThatMayTake 5 = .ok (.iload_n 3, 1) := by decide +kernel
theorem dX9_heapThatMayTake_6 : decode cX9_heapThatMayTake 6 = .ok (.if_icmp .ge 71, 3) := by decide +kernel
theorem dX9_heapThatMayTake_9 : decode cX9_heapThatMayTake 9 = .ok (.aload_n 0, 1) := by decide +kernel
theorem dX9_heapThatMayTake_10 : decode cX9_heapThatMayTake 10 = .ok (.getfield 25, 3) := by decide +kernel
theorem dX9_heapThatMayTake_13 : decode cX9_heapThatMayTake 13 = .ok (.iload 5, 2) := by decide +kernel
theorem dX9_heapThatMayTake_15 : decode cX9_heapThatMayTake 15 = .ok (.iaload, 1) := by decide +kernel
theorem dX9_heapThatMayTake_16 : decode cX9_heapThatMayTake 16 = .ok (.istore 6, 2) := by decide +kernel
theorem dX9_heapThatMayTake_18 : decode cX9_heapThatMayTake 18 = .ok (.aload_n 0, 1) := by decide +kernel
theorem dX9_heapThatMayTake_19 : decode cX9_heapThatMayTake 19 = .ok (.getfield 25, 3) := by decide +kernel
theorem dX9_heapThatMayTake_22 : decode cX9_heapThatMayTake 22 = .ok (.iload 5, 2) := by decide +kernel
theorem dX9_heapThatMayTake_24 : decode cX9_heapThatMayTake 24 = .ok (.iload 6, 2) := by decide +kernel
theorem dX9_heapThatMayTake_26 : decode cX9_heapThatMayTake 26 = .ok (.iconst 1, 1) := by decide +kernel
theorem dX9_heapThatMayTake_27 : decode cX9_heapThatMayTake 27 = .ok (.iload_n 2, 1) := by decide +kernel
theorem dX9_heapThatMayTake_28 : decode cX9_heapThatMayTake 28 = .ok (.ishl, 1) := by decide +kernel
theorem dX9_heapThatMayTake_29 : decode cX9_heapThatMayTake 29 = .ok (.ior, 1) := by decide +kernel
theorem dX9_heapThatMayTake_30 : decode cX9_heapThatMayTake 30 = .ok (.iastore, 1) := by decide +kernel
theorem dX9_heapThatMayTake_31 : decode cX9_heapThatMayTake 31 = .ok (.aload_n 1, 1) := by decide +kernel
theorem dX9_heapThatMayTake_32 : decode cX9_heapThatMayTake 32 = .ok (.aload_n 0, 1) := by decide +kernel
theorem dX9_heapThatMayTake_33 : decode cX9_heapThatMayTake 33 = .ok (.getfield 25, 3) := by decide +kernel
theorem dX9_heapThatMayTake_36 : decode cX9_heapThatMayTake 36 = .ok (.iload 5, 2) := by decide +kernel
theorem dX9_heapThatMayTake_38 : decode cX9_heapThatMayTake 38 = .ok (.iaload, 1) := by decide +kernel
theorem dX9_heapThatMayTake_39 : decode cX9_heapThatMayTake 39 = .ok (.invokevirtual 184, 3) := by decide +kernel
theorem dX9_heapThatMayTake_42 : decode cX9_heapThatMayTake 42 = .ok (.ifCond .eq 20, 3) := by decide +kernel
theorem dX9_heapThatMayTake_45 : decode cX9_heapThatMayTake 45 = .ok (.aload_n 0, 1) := by decide +kernel
theorem dX9_heapThatMayTake_46 : decode cX9_heapThatMayTake 46 = .ok (.aload_n 1, 1) := by decide +kernel
theorem dX9_heapThatMayTake_47 : decode cX9_heapThatMayTake 47 = .ok (.iload_n 2, 1) := by decide +kernel
theorem dX9_heapThatMayTake_48 : decode cX9_heapThatMayTake 48 = .ok (.iconst 1, 1) := by decide +kernel
theorem dX9_heapThatMayTake_49 : decode cX9_heapThatMayTake 49 = .ok (.iadd, 1) := by decide +kernel
theorem dX9_heapThatMayTake_50 : decode cX9_heapThatMayTake 50 = .ok (.iload_n 3, 1) := by decide +kernel
theorem dX9_heapThatMayTake_51 : decode cX9_heapThatMayTake 51 = .ok (.iload 4, 2) := by decide +kernel
theorem dX9_heapThatMayTake_53 : decode cX9_heapThatMayTake 53 = .ok (.invokevirtual 279, 3) := by decide +kernel
theorem dX9_heapThatMayTake_56 : decode cX9_heapThatMayTake 56 = .ok (.ifCond .eq 6, 3) := by decide +kernel
theorem dX9_heapThatMayTake_59 : decode cX9_heapThatMayTake 59 = .ok (.iload 5, 2) := by decide +kernel
theorem dX9_heapThatMayTake_61 : decode cX9_heapThatMayTake 61 = .ok (.ireturn, 1) := by decide +kernel
theorem dX9_heapThatMayTake_62 : decode cX9_heapThatMayTake 62 = .ok (.aload_n 0, 1) := by decide +kernel
theorem dX9_heapThatMayTake_63 : decode cX9_heapThatMayTake 63 = .ok (.getfield 25, 3) := by decide +kernel
theorem dX9_heapThatMayTake_66 : decode cX9_heapThatMayTake 66 = .ok (.iload 5, 2) := by decide +kernel
theorem dX9_heapThatMayTake_68 : decode cX9_heapThatMayTake 68 = .ok (.iload 6, 2) := by decide +kernel
theorem dX9_heapThatMayTake_70 : decode cX9_heapThatMayTake 70 = .ok (.iastore, 1) := by decide +kernel
theorem dX9_heapThatMayTake_71 : decode cX9_heapThatMayTake 71 = .ok (.iinc 5 1, 3) := by decide +kernel
theorem dX9_heapThatMayTake_74 : decode cX9_heapThatMayTake 74 = .ok (.goto (-71), 3) := by decide +kernel
theorem dX9_heapThatMayTake_77 : decode cX9_heapThatMayTake 77 = .ok (.iload_n 3, 1) := by decide +kernel
theorem dX9_heapThatMayTake_78 : decode cX9_heapThatMayTake 78 = .ok (.ireturn, 1) := by decide +kernel
theorem dX9_restCanBeDealt_0 : decode cX9_restCanBeDealt 0 = .ok (.iconst 0, 1) := by decide +kernel
theorem dX9_restCanBeDealt_1 : decode cX9_restCanBeDealt 1 = .ok (.istore 5, 2) := by decide +kernel
theorem dX9_restCanBeDealt_3 : decode cX9_restCanBeDealt 3 = .ok (.iload 5, 2) := by decide +kernel
theorem dX9_restCanBeDealt_5 : decode cX9_restCanBeDealt 5 = .ok (.aload_n 0, 1) := by decide +kernel
theorem dX9_restCanBeDealt_6 : decode cX9_restCanBeDealt 6 = .ok (.getfield 135, 3) := by decide +kernel
theorem dX9_restCanBeDealt_9 : decode cX9_restCanBeDealt 9 = .ok (.iload_n 2, 1) := by decide +kernel
theorem dX9_restCanBeDealt_10 : decode cX9_restCanBeDealt 10 = .ok (.ishr, 1) := by decide +kernel
theorem dX9_restCanBeDealt_11 : decode cX9_restCanBeDealt 11 = .ok (.if_icmp .gt 35, 3) := by decide +kernel
theorem dX9_restCanBeDealt_14 : decode cX9_restCanBeDealt 14 = .ok (.iload 5, 2) := by decide +kernel
theorem dX9_restCanBeDealt_16 : decode cX9_restCanBeDealt 16 = .ok (.iload_n 2, 1) := by decide +kernel
theorem dX9_restCanBeDealt_17 : decode cX9_restCanBeDealt 17 = .ok (.ishl, 1) := by decide +kernel
theorem dX9_restCanBeDealt_18 : decode cX9_restCanBeDealt 18 = .ok (.istore 6, 2) := by decide +kernel
theorem dX9_restCanBeDealt_20 : decode cX9_restCanBeDealt 20 = .ok (.aload_n 0, 1) := by decide +kernel
theorem dX9_restCanBeDealt_21 : decode cX9_restCanBeDealt 21 = .ok (.aload_n 1, 1) := by decide +kernel
theorem dX9_restCanBeDealt_22 : decode cX9_restCanBeDealt 22 = .ok (.iload 6, 2) := by decide +kernel
theorem dX9_restCanBeDealt_24 : decode cX9_restCanBeDealt 24 = .ok (.iload_n 3, 1) := by decide +kernel
theorem dX9_restCanBeDealt_25 : decode cX9_restCanBeDealt 25 = .ok (.iload 4, 2) := by decide +kernel
theorem dX9_restCanBeDealt_27 : decode cX9_restCanBeDealt 27 = .ok (.invokevirtual 283, 3) := by decide +kernel
theorem dX9_restCanBeDealt_30 : decode cX9_restCanBeDealt 30 = .ok (.iload 6, 2) := by decide +kernel
theorem dX9_restCanBeDealt_32 : decode cX9_restCanBeDealt 32 = .ok (.invokestatic 202, 3) := by decide +kernel
theorem dX9_restCanBeDealt_35 : decode cX9_restCanBeDealt 35 = .ok (.if_icmp .ge 5, 3) := by decide +kernel
theorem dX9_restCanBeDealt_38 : decode cX9_restCanBeDealt 38 = .ok (.iconst 0, 1) := by decide +kernel
theorem dX9_restCanBeDealt_39 : decode cX9_restCanBeDealt 39 = .ok (.ireturn, 1) := by decide +kernel
theorem dX9_restCanBeDealt_40 : decode cX9_restCanBeDealt 40 = .ok (.iinc 5 1, 3) := by decide +kernel
theorem dX9_restCanBeDealt_43 : decode cX9_restCanBeDealt 43 = .ok (.goto (-40), 3) := by decide +kernel
theorem dX9_restCanBeDealt_46 : decode cX9_restCanBeDealt 46 = .ok (.iconst 1, 1) := by decide +kernel
theorem dX9_restCanBeDealt_47 : decode cX9_restCanBeDealt 47 = .ok (.ireturn, 1) := by decide +kernel
theorem dX9_roomFor_0 : decode cX9_roomFor 0 = .ok (.iload 4, 2) := by decide +kernel
theorem dX9_roomFor_2 : decode cX9_roomFor 2 = .ok (.iload_n 3, 1) := by decide +kernel
theorem dX9_roomFor_3 : decode cX9_roomFor 3 = .ok (.isub, 1) := by decide +kernel
theorem dX9_roomFor_4 : decode cX9_roomFor 4 = .ok (.aload_n 1, 1) := by decide +kernel
theorem dX9_roomFor_5 : decode cX9_roomFor 5 = .ok (.iload_n 2, 1) := by decide +kernel
theorem dX9_roomFor_6 : decode cX9_roomFor 6 = .ok (.invokevirtual 165, 3) := by decide +kernel
theorem dX9_roomFor_9 : decode cX9_roomFor 9 = .ok (.imul, 1) := by decide +kernel
theorem dX9_roomFor_10 : decode cX9_roomFor 10 = .ok (.istore 5, 2) := by decide +kernel
theorem dX9_roomFor_12 : decode cX9_roomFor 12 = .ok (.iconst 0, 1) := by decide +kernel
theorem dX9_roomFor_13 : decode cX9_roomFor 13 = .ok (.istore 6, 2) := by decide +kernel
theorem dX9_roomFor_15 : decode cX9_roomFor 15 = .ok (.iload 6, 2) := by decide +kernel
theorem dX9_roomFor_17 : decode cX9_roomFor 17 = .ok (.iload_n 3, 1) := by decide +kernel
theorem dX9_roomFor_18 : decode cX9_roomFor 18 = .ok (.if_icmp .ge 38, 3) := by decide +kernel
theorem dX9_roomFor_21 : decode cX9_roomFor 21 = .ok (.iload 5, 2) := by decide +kernel
theorem dX9_roomFor_23 : decode cX9_roomFor 23 = .ok (.aload_n 1, 1) := by decide +kernel
theorem dX9_roomFor_24 : decode cX9_roomFor 24 = .ok (.aload_n 0, 1) := by decide +kernel
theorem dX9_roomFor_25 : decode cX9_roomFor 25 = .ok (.getfield 25, 3) := by decide +kernel
theorem dX9_roomFor_28 : decode cX9_roomFor 28 = .ok (.iload 6, 2) := by decide +kernel
theorem dX9_roomFor_30 : decode cX9_roomFor 30 = .ok (.iaload, 1) := by decide +kernel
theorem dX9_roomFor_31 : decode cX9_roomFor 31 = .ok (.iload_n 2, 1) := by decide +kernel
theorem dX9_roomFor_32 : decode cX9_roomFor 32 = .ok (.ior, 1) := by decide +kernel
theorem dX9_roomFor_33 : decode cX9_roomFor 33 = .ok (.invokevirtual 165, 3) := by decide +kernel
theorem dX9_roomFor_36 : decode cX9_roomFor 36 = .ok (.aload_n 0, 1) := by decide +kernel
theorem dX9_roomFor_37 : decode cX9_roomFor 37 = .ok (.getfield 25, 3) := by decide +kernel
theorem dX9_roomFor_40 : decode cX9_roomFor 40 = .ok (.iload 6, 2) := by decide +kernel
theorem dX9_roomFor_42 : decode cX9_roomFor 42 = .ok (.iaload, 1) := by decide +kernel
theorem dX9_roomFor_43 : decode cX9_roomFor 43 = .ok (.invokestatic 202, 3) := by decide +kernel
theorem dX9_roomFor_46 : decode cX9_roomFor 46 = .ok (.isub, 1) := by decide +kernel
theorem dX9_roomFor_47 : decode cX9_roomFor 47 = .ok (.iadd, 1) := by decide +kernel
theorem dX9_roomFor_48 : decode cX9_roomFor 48 = .ok (.istore 5, 2) := by decide +kernel
theorem dX9_roomFor_50 : decode cX9_roomFor 50 = .ok (.iinc 6 1, 3) := by decide +kernel
theorem dX9_roomFor_53 : decode cX9_roomFor 53 = .ok (.goto (-38), 3) := by decide +kernel
theorem dX9_roomFor_56 : decode cX9_roomFor 56 = .ok (.iload 5, 2) := by decide +kernel
theorem dX9_roomFor_58 : decode cX9_roomFor 58 = .ok (.ireturn, 1) := by decide +kernel
theorem dX10_init_0 : decode cX10_init 0 = .ok (.aload_n 0, 1) := by decide +kernel
theorem dX10_init_1 : decode cX10_init 1 = .ok (.invokespecial 1, 3) := by decide +kernel
theorem dX10_init_4 : decode cX10_init 4 = .ok (.aload_n 0, 1) := by decide +kernel
theorem dX10_init_5 : decode cX10_init 5 = .ok (.bipush 8, 2) := by decide +kernel
theorem dX10_init_7 : decode cX10_init 7 = .ok (.putfield 7, 3) := by decide +kernel
theorem dX10_init_10 : decode cX10_init 10 = .ok (.aload_n 0, 1) := by decide +kernel
theorem dX10_init_11 : decode cX10_init 11 = .ok (.sipush 255, 3) := by decide +kernel
theorem dX10_init_14 : decode cX10_init 14 = .ok (.putfield 13, 3) := by decide +kernel
theorem dX10_init_17 : decode cX10_init 17 = .ok (.aload_n 0, 1) := by decide +kernel
theorem dX10_init_18 : decode cX10_init 18 = .ok (.bipush 12, 2) := by decide +kernel
theorem dX10_init_20 : decode cX10_init 20 = .ok (.newarray .int, 2) := by decide +kernel
theorem dX10_init_22 : decode cX10_init 22 = .ok (.putfield 16, 3) := by decide +kernel
theorem dX10_init_25 : decode cX10_init 25 = .ok (.aload_n 0, 1) := by decide +kernel
theorem dX10_init_26 : decode cX10_init 26 = .ok (.ldc 20, 2) := by decide +kernel
theorem dX10_init_28 : decode cX10_init 28 = .ok (.newarray .boolean, 2) := by decide +kernel
theorem dX10_init_30 : decode cX10_init 30 = .ok (.putfield 21, 3) := by decide +kernel
theorem dX10_init_33 : decode cX10_init 33 = .ok (.aload_n 0, 1) := by decide +kernel
theorem dX10_init_34 : decode cX10_init 34 = .ok (.ldc 20, 2) := by decide +kernel
theorem dX10_init_36 : decode cX10_init 36 = .ok (.newarray .byte, 2) := by decide +kernel
theorem dX10_init_38 : decode cX10_init 38 = .ok (.putfield 25, 3) := by decide +kernel
theorem dX10_init_41 : decode cX10_init 41 = .ok (.aload_n 0, 1) := by decide +kernel
theorem dX10_init_42 : decode cX10_init 42 = .ok (.bipush 24, 2) := by decide +kernel
theorem dX10_init_44 : decode cX10_init 44 = .ok (.newarray .int, 2) := by decide +kernel
theorem dX10_init_46 : decode cX10_init 46 = .ok (.putfield 29, 3) := by decide +kernel
theorem dX10_init_49 : decode cX10_init 49 = .ok (.aload_n 0, 1) := by decide +kernel
theorem dX10_init_50 : decode cX10_init 50 = .ok (.bipush 24, 2) := by decide +kernel
theorem dX10_init_52 : decode cX10_init 52 = .ok (.newarray .int, 2) := by decide +kernel
theorem dX10_init_54 : decode cX10_init 54 = .ok (.putfield 32, 3) := by decide +kernel
theorem dX10_init_57 : decode cX10_init 57 = .ok (.aload_n 0, 1) := by decide +kernel
theorem dX10_init_58 : decode cX10_init 58 = .ok (.bipush 24, 2) := by decide +kernel
theorem dX10_init_60 : decode cX10_init 60 = .ok (.newarray .int, 2) := by decide +kernel
theorem dX10_init_62 : decode cX10_init 62 = .ok (.putfield 35, 3) := by decide +kernel
theorem dX10_init_65 : decode cX10_init 65 = .ok (.aload_n 0, 1) := by decide +kernel
theorem dX10_init_66 : decode cX10_init 66 = .ok (.bipush 24, 2) := by decide +kernel
theorem dX10_init_68 : decode cX10_init 68 = .ok (.newarray .int, 2) := by decide +kernel
theorem dX10_init_70 : decode cX10_init 70 = .ok (.putfield 38, 3) := by decide +kernel
theorem dX10_init_73 : decode cX10_init 73 = .ok (.aload_n 0, 1) := by decide +kernel
theorem dX10_init_74 : decode cX10_init 74 = .ok (.iconst 3, 1) := by decide +kernel
theorem dX10_init_75 : decode cX10_init 75 = .ok (.newarray .int, 2) := by decide +kernel
theorem dX10_init_77 : decode cX10_init 77 = .ok (.putfield 41, 3) := by decide +kernel
theorem dX10_init_80 : decode cX10_init 80 = .ok (.aload_n 0, 1) := by decide +kernel
theorem dX10_init_81 : decode cX10_init 81 = .ok (.bipush 10, 2) := by decide +kernel
theorem dX10_init_83 : decode cX10_init 83 = .ok (.newarray .int, 2) := by decide +kernel
theorem dX10_init_85 : decode cX10_init 85 = .ok (.putfield 44, 3) := by decide +kernel
theorem dX10_init_88 : decode cX10_init 88 = .ok (.aload_n 0, 1) := by decide +kernel
theorem dX10_init_89 : decode cX10_init 89 = .ok (.bipush 10, 2) := by decide +kernel
theorem dX10_init_91 : decode cX10_init 91 = .ok (.newarray .int, 2) := by decide +kernel
theorem dX10_init_93 : decode cX10_init 93 = .ok (.putfield 47, 3) := by decide +kernel
theorem dX10_init_96 : decode cX10_init 96 = .ok (.aload_n 0, 1) := by decide +kernel
theorem dX10_init_97 : decode cX10_init 97 = .ok (.sipush 2000, 3) := by decide +kernel
theorem dX10_init_100 : decode cX10_init 100 = .ok (.newarray .long, 2) := by decide +kernel
theorem dX10_init_102 : decode cX10_init 102 = .ok (.putfield 50, 3) := by decide +kernel
theorem dX10_init_105 : decode cX10_init 105 = .ok (.aload_n 0, 1) := by decide +kernel
theorem dX10_init_106 : decode cX10_init 106 = .ok (.sipush 200, 3) := by decide +kernel
theorem dX10_init_109 : decode cX10_init 109 = .ok (.newarray .long, 2) := by decide +kernel
theorem dX10_init_111 : decode cX10_init 111 = .ok (.putfield 54, 3) := by decide +kernel
theorem dX10_init_114 : decode cX10_init 114 = .ok (.aload_n 0, 1) := by decide +kernel
theorem dX10_init_115 : decode cX10_init 115 = .ok (.sipush 200, 3) := by decide +kernel
theorem dX10_init_118 : decode cX10_init 118 = .ok (.newarray .int, 2) := by decide +kernel
theorem dX10_init_120 : decode cX10_init 120 = .ok (.putfield 57, 3) := by decide +kernel
theorem dX10_init_123 : decode cX10_init 123 = .ok (.aload_n 0, 1) := by decide +kernel
theorem dX10_init_124 : decode cX10_init 124 = .ok (.sipush 200, 3) := by decide +kernel
theorem dX10_init_127 : decode cX10_init 127 = .ok (.newarray .int, 2) := by decide +kernel
theorem dX10_init_129 : decode cX10_init 129 = .ok (.putfield 60, 3) := by decide +kernel
theorem dX10_init_132 : decode cX10_init 132 = .ok (.aload_n 0, 1) := by decide +kernel
theorem dX10_init_133 : decode cX10_init 133 = .ok (.bipush 16, 2) := by decide +kernel
theorem dX10_init_135 : decode cX10_init 135 = .ok (.newarray .int, 2) := by decide +kernel
theorem dX10_init_137 : decode cX10_init 137 = .ok (.putfield 63, 3) := by decide +kernel
theorem dX10_init_140 : decode cX10_init 140 = .ok (.aload_n 0, 1) := by decide +kernel
theorem dX10_init_141 : decode cX10_init 141 = .ok (.bipush 72, 2) := by decide +kernel
theorem dX10_init_143 : decode cX10_init 143 = .ok (.newarray .int, 2) := by decide +kernel
theorem dX10_init_145 : decode cX10_init 145 = .ok (.putfield 66, 3) := by decide +kernel
theorem dX10_init_148 : decode cX10_init 148 = .ok (.aload_n 0, 1) := by decide +kernel
theorem dX10_init_149 : decode cX10_init 149 = .ok (.bipush 72, 2) := by decide +kernel
theorem dX10_init_151 : decode cX10_init 151 = .ok (.newarray .int, 2) := by decide +kernel
theorem dX10_init_153 : decode cX10_init 153 = .ok (.putfield 69, 3) := by decide +kernel
theorem dX10_init_156 : decode cX10_init 156 = .ok (.aload_n 0, 1) := by decide +kernel
theorem dX10_init_157 : decode cX10_init 157 = .ok (.sipush 4096, 3) := by decide +kernel
theorem dX10_init_160 : decode cX10_init 160 = .ok (.newarray .byte, 2) := by decide +kernel
theorem dX10_init_162 : decode cX10_init 162 = .ok (.putfield 72, 3) := by decide +kernel
theorem dX10_init_165 : decode cX10_init 165 = .ok (.aload_n 0, 1) := by decide +kernel
theorem dX10_init_166 : decode cX10_init 166 = .ok (.bipush 12, 2) := by decide +kernel
theorem dX10_init_168 : decode cX10_init 168 = .ok (.newarray .int, 2) := by decide +kernel
theorem dX10_init_170 : decode cX10_init 170 = .ok (.putfield 75, 3) := by decide +kernel
theorem dX10_init_173 : decode cX10_init 173 = .ok (.aload_n 0, 1) := by decide +kernel
theorem dX10_init_174 : decode cX10_init 174 = .ok (.bipush 12, 2) := by decide +kernel
theorem dX10_init_176 : decode cX10_init 176 = .ok (.newarray .int, 2) := by decide +kernel
theorem dX10_init_178 : decode cX10_init 178 = .ok (.putfield 78, 3) := by decide +kernel
theorem dX10_init_181 : decode cX10_init 181 = .ok (.aload_n 0, 1) := by decide +kernel
theorem dX10_init_182 : decode cX10_init 182 = .ok (.bipush 8, 2) := by decide +kernel
theorem dX10_init_184 : decode cX10_init 184 = .ok (.invokevirtual 81, 3) := by decide +kernel
theorem dX10_init_187 : decode cX10_init 187 = .ok (.return_, 1) := by decide +kernel
theorem dX10_anew_0 : decode cX10_anew 0 = .ok (.aload_n 0, 1) := by decide +kernel
theorem dX10_anew_1 : decode cX10_anew 1 = .ok (.iload_n 1, 1) := by decide +kernel
theorem dX10_anew_2 : decode cX10_anew 2 = .ok (.putfield 7, 3) := by decide +kernel
theorem dX10_anew_5 : decode cX10_anew 5 = .ok (.aload_n 0, 1) := by decide +kernel
theorem dX10_anew_6 : decode cX10_anew 6 = .ok (.iconst 1, 1) := by decide +kernel
theorem dX10_anew_7 : decode cX10_anew 7 = .ok (.iload_n 1, 1) := by decide +kernel
theorem dX10_anew_8 : decode cX10_anew 8 = .ok (.ishl, 1) := by decide +kernel
theorem dX10_anew_9 : decode cX10_anew 9 = .ok (.iconst 1, 1) := by decide +kernel
theorem dX10_anew_10 : decode cX10_anew 10 = .ok (.isub, 1) := by decide +kernel
theorem dX10_anew_11 : decode cX10_anew 11 = .ok (.putfield 13, 3) := by decide +kernel
theorem dX10_anew_14 : decode cX10_anew 14 = .ok (.aload_n 0, 1) := by decide +kernel
theorem dX10_anew_15 : decode cX10_anew 15 = .ok (.iconst 0, 1) := by decide +kernel
theorem dX10_anew_16 : decode cX10_anew 16 = .ok (.putfield 85, 3) := by decide +kernel
theorem dX10_anew_19 : decode cX10_anew 19 = .ok (.iconst 0, 1) := by decide +kernel
theorem dX10_anew_20 : decode cX10_anew 20 = .ok (.istore_n 2, 1) := by decide +kernel
theorem dX10_anew_21 : decode cX10_anew 21 = .ok (.iload_n 2, 1) := by decide +kernel
theorem dX10_anew_22 : decode cX10_anew 22 = .ok (.bipush 12, 2) := by decide +kernel
theorem dX10_anew_24 : decode cX10_anew 24 = .ok (.if_icmp .ge 16, 3) := by decide +kernel
theorem dX10_anew_27 : decode cX10_anew 27 = .ok (.aload_n 0, 1) := by decide +kernel
theorem dX10_anew_28 : decode cX10_anew 28 = .ok (.getfield 16, 3) := by decide +kernel
theorem dX10_anew_31 : decode cX10_anew 31 = .ok (.iload_n 2, 1) := by decide +kernel
theorem dX10_anew_32 : decode cX10_anew 32 = .ok (.iconst 1, 1) := by decide +kernel
theorem dX10_anew_33 : decode cX10_anew 33 = .ok (.iastore, 1) := by decide +kernel
theorem dX10_anew_34 : decode cX10_anew 34 = .ok (.iinc 2 1, 3) := by decide +kernel
theorem dX10_anew_37 : decode cX10_anew 37 = .ok (.goto (-16), 3) := by decide +kernel
theorem dX10_anew_40 : decode cX10_anew 40 = .ok (.iconst 0, 1) := by decide +kernel
theorem dX10_anew_41 : decode cX10_anew 41 = .ok (.istore_n 2, 1) := by decide +kernel
theorem dX10_anew_42 : decode cX10_anew 42 = .ok (.iload_n 2, 1) := by decide +kernel
theorem dX10_anew_43 : decode cX10_anew 43 = .ok (.iconst 3, 1) := by decide +kernel
theorem dX10_anew_44 : decode cX10_anew 44 = .ok (.if_icmp .ge 16, 3) := by decide +kernel
theorem dX10_anew_47 : decode cX10_anew 47 = .ok (.aload_n 0, 1) := by decide +kernel
theorem dX10_anew_48 : decode cX10_anew 48 = .ok (.getfield 41, 3) := by decide +kernel
theorem dX10_anew_51 : decode cX10_anew 51 = .ok (.iload_n 2, 1) := by decide +kernel
theorem dX10_anew_52 : decode cX10_anew 52 = .ok (.iconst 0, 1) := by decide +kernel
theorem dX10_anew_53 : decode cX10_anew 53 = .ok (.iastore, 1) := by decide +kernel
theorem dX10_anew_54 : decode cX10_anew 54 = .ok (.iinc 2 1, 3) := by decide +kernel
theorem dX10_anew_57 : decode cX10_anew 57 = .ok (.goto (-15), 3) := by decide +kernel
theorem dX10_anew_60 : decode cX10_anew 60 = .ok (.return_, 1) := by decide +kernel
theorem dX10_fresh_0 : decode cX10_fresh 0 = .ok (.iload_n 1, 1) := by decide +kernel
theorem dX10_fresh_1 : decode cX10_fresh 1 = .ok (.iconst 1, 1) := by decide +kernel
theorem dX10_fresh_2 : decode cX10_fresh 2 = .ok (.if_icmp .lt 9, 3) := by decide +kernel
theorem dX10_fresh_5 : decode cX10_fresh 5 = .ok (.iload_n 1, 1) := by decide +kernel
theorem dX10_fresh_6 : decode cX10_fresh 6 = .ok (.bipush 12, 2) := by decide +kernel
theorem dX10_fresh_8 : decode cX10_fresh 8 = .ok (.if_icmp .le 5, 3) := by decide +kernel
theorem dX10_fresh_11 : decode cX10_fresh 11 = .ok (.iconst 0, 1) := by decide +kernel
theorem dX10_fresh_12 : decode cX10_fresh 12 = .ok (.ireturn, 1) := by decide +kernel
theorem dX10_fresh_13 : decode cX10_fresh 13 = .ok (.aload_n 0, 1) := by decide +kernel
theorem dX10_fresh_14 : decode cX10_fresh 14 = .ok (.iload_n 1, 1) := by decide +kernel
theorem dX10_fresh_15 : decode cX10_fresh 15 = .ok (.invokevirtual 81, 3) := by decide +kernel
theorem dX10_fresh_18 : decode cX10_fresh 18 = .ok (.iconst 1, 1) := by decide +kernel
theorem dX10_fresh_19 : decode cX10_fresh 19 = .ok (.ireturn, 1) := by decide +kernel
theorem dX10_isThing_0 : decode cX10_isThing 0 = .ok (.iload_n 1, 1) := by decide +kernel
theorem dX10_isThing_1 : decode cX10_isThing 1 = .ok (.ifCond .lt 15, 3) := by decide +kernel
theorem dX10_isThing_4 : decode cX10_isThing 4 = .ok (.iload_n 1, 1) := by decide +kernel
theorem dX10_isThing_5 : decode cX10_isThing 5 = .ok (.aload_n 0, 1) := by decide +kernel
theorem dX10_isThing_6 : decode cX10_isThing 6 = .ok (.getfield 7, 3) := by decide +kernel
theorem dX10_isThing_9 : decode cX10_isThing 9 = .ok (.if_icmp .ge 7, 3) := by decide +kernel
theorem dX10_isThing_12 : decode cX10_isThing 12 = .ok (.iconst 1, 1) := by decide +kernel
theorem dX10_isThing_13 : decode cX10_isThing 13 = .ok (.goto 4, 3) := by decide +kernel
theorem dX10_isThing_16 : decode cX10_isThing 16 = .ok (.iconst 0, 1) := by decide +kernel
theorem dX10_isThing_17 : decode cX10_isThing 17 = .ok (.ireturn, 1) := by decide +kernel
theorem dX10_isSet_0 : decode cX10_isSet 0 = .ok (.iload_n 1, 1) := by decide +kernel
theorem dX10_isSet_1 : decode cX10_isSet 1 = .ok (.ifCond .lt 15, 3) := by decide +kernel
theorem dX10_isSet_4 : decode cX10_isSet 4 = .ok (.iload_n 1, 1) := by decide +kernel
theorem dX10_isSet_5 : decode cX10_isSet 5 = .ok (.aload_n 0, 1) := by decide +kernel
theorem dX10_isSet_6 : decode cX10_isSet 6 = .ok (.getfield 13, 3) := by decide +kernel
theorem dX10_isSet_9 : decode cX10_isSet 9 = .ok (.if_icmp .gt 7, 3) := by decide +kernel
theorem dX10_isSet_12 : decode cX10_isSet 12 = .ok (.iconst 1, 1) := by decide +kernel
theorem dX10_isSet_13 : decode cX10_isSet 13 = .ok (.goto 4, 3) := by decide +kernel
theorem dX10_isSet_16 : decode cX10_isSet 16 = .ok (.iconst 0, 1) := by decide +kernel
theorem dX10_isSet_17 : decode cX10_isSet 17 = .ok (.ireturn, 1) := by decide +kernel
theorem dX10_isRule_0 : decode cX10_isRule 0 = .ok (.iload_n 1, 1) := by decide +kernel
theorem dX10_isRule_1 : decode cX10_isRule 1 = .ok (.ifCond .lt 15, 3) := by decide +kernel
theorem dX10_isRule_4 : decode cX10_isRule 4 = .ok (.iload_n 1, 1) := by decide +kernel
theorem dX10_isRule_5 : decode cX10_isRule 5 = .ok (.aload_n 0, 1) := by decide +kernel
theorem dX10_isRule_6 : decode cX10_isRule 6 = .ok (.getfield 85, 3) := by decide +kernel
theorem dX10_isRule_9 : decode cX10_isRule 9 = .ok (.if_icmp .ge 7, 3) := by decide +kernel
theorem dX10_isRule_12 : decode cX10_isRule 12 = .ok (.iconst 1, 1) := by decide +kernel
theorem dX10_isRule_13 : decode cX10_isRule 13 = .ok (.goto 4, 3) := by decide +kernel
theorem dX10_isRule_16 : decode cX10_isRule 16 = .ok (.iconst 0, 1) := by decide +kernel
theorem dX10_isRule_17 : decode cX10_isRule 17 = .ok (.ireturn, 1) := by decide +kernel
theorem dX10_weight_0 : decode cX10_weight 0 = .ok (.aload_n 0, 1) := by decide +kernel
theorem dX10_weight_1 : decode cX10_weight 1 = .ok (.iload_n 1, 1) := by decide +kernel
theorem dX10_weight_2 : decode cX10_weight 2 = .ok (.invokevirtual 88, 3) := by decide +kernel
theorem dX10_weight_5 : decode cX10_weight 5 = .ok (.ifCond .eq 13, 3) := by decide +kernel
theorem dX10_weight_8 : decode cX10_weight 8 = .ok (.iload_n 2, 1) := by decide +kernel
theorem dX10_weight_9 : decode cX10_weight 9 = .ok (.ifCond .lt 9, 3) := by decide +kernel
theorem dX10_weight_12 : decode cX10_weight 12 = .ok (.iload_n 2, 1) := by decide +kernel
theorem dX10_weight_13 : decode cX10_weight 13 = .ok (.ldc 92, 2) := by decide +kernel
theorem dX10_weight_15 : decode cX10_weight 15 = .ok (.if_icmp .le 5, 3) := by decide +kernel
theorem dX10_weight_18 : decode cX10_weight 18 = .ok (.iconst (-1), 1) := by decide +kernel
theorem dX10_weight_19 : decode cX10_weight 19 = .ok (.ireturn, 1) := by decide +kernel
theorem dX10_weight_20 : decode cX10_weight 20 = .ok (.aload_n 0, 1) := by decide +kernel
theorem dX10_weight_21 : decode cX10_weight 21 = .ok (.getfield 16, 3) := by decide +kernel
theorem dX10_weight_24 : decode cX10_weight 24 = .ok (.iload_n 1, 1) := by decide +kernel
theorem dX10_weight_25 : decode cX10_weight 25 = .ok (.iaload, 1) := by decide +kernel
theorem dX10_weight_26 : decode cX10_weight 26 = .ok (.istore_n 3, 1) := by decide +kernel
theorem dX10_weight_27 : decode cX10_weight 27 = .ok (.aload_n 0, 1) := by decide +kernel
theorem dX10_weight_28 : decode cX10_weight 28 = .ok (.getfield 16, 3) := by decide +kernel
theorem dX10_weight_31 : decode cX10_weight 31 = .ok (.iload_n 1, 1) := by decide +kernel
theorem dX10_weight_32 : decode cX10_weight 32 = .ok (.iload_n 2, 1) := by decide +kernel
theorem dX10_weight_33 : decode cX10_weight 33 = .ok (.iastore, 1) := by decide +kernel
theorem dX10_weight_34 : decode cX10_weight 34 = .ok (.iload_n 3, 1) := by decide +kernel
theorem dX10_weight_35 : decode cX10_weight 35 = .ok (.ireturn, 1) := by decide +kernel
theorem dX10_isSlot_0 : decode cX10_isSlot 0 = .ok (.iload_n 0, 1) := by decide +kernel
theorem dX10_isSlot_1 : decode cX10_isSlot 1 = .ok (.ifCond .lt 13, 3) := by decide +kernel
theorem dX10_isSlot_4 : decode cX10_isSlot 4 = .ok (.iload_n 0, 1) := by decide +kernel
theorem dX10_isSlot_5 : decode cX10_isSlot 5 = .ok (.bipush 9, 2) := by decide +kernel
theorem dX10_isSlot_7 : decode cX10_isSlot 7 = .ok (.if_icmp .gt 7, 3) := by decide +kernel
theorem dX10_isSlot_10 : decode cX10_isSlot 10 = .ok (.iconst 1, 1) := by decide +kernel
theorem dX10_isSlot_11 : decode cX10_isSlot 11 = .ok (.goto 4, 3) := by decide +kernel
theorem dX10_isSlot_14 : decode cX10_isSlot 14 = .ok (.iconst 0, 1) := by decide +kernel
theorem dX10_isSlot_15 : decode cX10_isSlot 15 = .ok (.ireturn, 1) := by decide +kernel
theorem dX10_row_0 : decode cX10_row 0 = .ok (.iload_n 1, 1) := by decide +kernel
theorem dX10_row_1 : decode cX10_row 1 = .ok (.invokestatic 93, 3) := by decide +kernel
theorem dX10_row_4 : decode cX10_row 4 = .ok (.ifCond .eq 19, 3) := by decide +kernel
theorem dX10_row_7 : decode cX10_row 7 = .ok (.iload_n 2, 1) := by decide +kernel
theorem dX10_row_8 : decode cX10_row 8 = .ok (.ifCond .lt 15, 3) := by decide +kernel
theorem dX10_row_11 : decode cX10_row 11 = .ok (.iload_n 2, 1) := by decide +kernel
theorem dX10_row_12 : decode cX10_row 12 = .ok (.iconst 3, 1) := by decide +kernel
theorem dX10_row_13 : decode cX10_row 13 = .ok (.if_icmp .gt 10, 3) := by decide +kernel
theorem dX10_row_16 : decode cX10_row 16 = .ok (.iload_n 3, 1) := by decide +kernel
theorem dX10_row_17 : decode cX10_row 17 = .ok (.sipush 200, 3) := by decide +kernel
theorem dX10_row_20 : decode cX10_row 20 = .ok (.if_icmp .le 6, 3) := by decide +kernel
theorem dX10_row_23 : decode cX10_row 23 = .ok (.bipush (-2), 2) := by decide +kernel
theorem dX10_row_25 : decode cX10_row 25 = .ok (.ireturn, 1) := by decide +kernel
theorem dX10_row_26 : decode cX10_row 26 = .ok (.iload_n 3, 1) := by decide +kernel
theorem dX10_row_27 : decode cX10_row 27 = .ok (.ifCond .ge 6, 3) := by decide +kernel
theorem dX10_row_30 : decode cX10_row 30 = .ok (.bipush (-3), 2) := by decide +kernel
theorem dX10_row_32 : decode cX10_row 32 = .ok (.ireturn, 1) := by decide +kernel
theorem dX10_row_33 : decode cX10_row 33 = .ok (.aload_n 0, 1) := by decide +kernel
theorem dX10_row_34 : decode cX10_row 34 = .ok (.getfield 44, 3) := by decide +kernel
theorem dX10_row_37 : decode cX10_row 37 = .ok (.iload_n 1, 1) := by decide +kernel
theorem dX10_row_38 : decode cX10_row 38 = .ok (.iload_n 3, 1) := by decide +kernel
theorem dX10_row_39 : decode cX10_row 39 = .ok (.iconst 1, 1) := by decide +kernel
theorem dX10_row_40 : decode cX10_row 40 = .ok (.iadd, 1) := by decide +kernel
theorem dX10_row_41 : decode cX10_row 41 = .ok (.iastore, 1) := by decide +kernel
theorem dX10_row_42 : decode cX10_row 42 = .ok (.aload_n 0, 1) := by decide +kernel
theorem dX10_row_43 : decode cX10_row 43 = .ok (.getfield 47, 3) := by decide +kernel
theorem dX10_row_46 : decode cX10_row 46 = .ok (.iload_n 1, 1) := by decide +kernel
theorem dX10_row_47 : decode cX10_row 47 = .ok (.iload_n 2, 1) := by decide +kernel
theorem dX10_row_48 : decode cX10_row 48 = .ok (.iastore, 1) := by decide +kernel
theorem dX10_row_49 : decode cX10_row 49 = .ok (.iconst 0, 1) := by decide +kernel
theorem dX10_row_50 : decode cX10_row 50 = .ok (.istore 4, 2) := by decide +kernel
theorem dX10_row_52 : decode cX10_row 52 = .ok (.iload 4, 2) := by decide +kernel
theorem dX10_row_54 : decode cX10_row 54 = .ok (.iload_n 3, 1) := by decide +kernel
theorem dX10_row_55 : decode cX10_row 55 = .ok (.if_icmp .ge 23, 3) := by decide +kernel
theorem dX10_row_58 : decode cX10_row 58 = .ok (.aload_n 0, 1) := by decide +kernel
theorem dX10_row_59 : decode cX10_row 59 = .ok (.getfield 50, 3) := by decide +kernel
theorem dX10_row_62 : decode cX10_row 62 = .ok (.sipush 200, 3) := by decide +kernel
theorem dX10_row_65 : decode cX10_row 65 = .ok (.iload_n 1, 1) := by decide +kernel
theorem dX10_row_66 : decode cX10_row 66 = .ok (.imul, 1) := by decide +kernel
theorem dX10_row_67 : decode cX10_row 67 = .ok (.iload 4, 2) := by decide +kernel
theorem dX10_row_69 : decode cX10_row 69 = .ok (.iadd, 1) := by decide +kernel
theorem dX10_row_70 : decode cX10_row 70 = .ok (.lconst 0, 1) := by decide +kernel
theorem dX10_row_71 : decode cX10_row 71 = .ok (.lastore, 1) := by decide +kernel
theorem dX10_row_72 : decode cX10_row 72 = .ok (.iinc 4 1, 3) := by decide +kernel
theorem dX10_row_75 : decode cX10_row 75 = .ok (.goto (-23), 3) := by decide +kernel
theorem dX10_row_78 : decode cX10_row 78 = .ok (.iconst 0, 1) := by decide +kernel
theorem dX10_row_79 : decode cX10_row 79 = .ok (.ireturn, 1) := by decide +kernel
theorem dX10_tear_0 : decode cX10_tear 0 = .ok (.iload_n 1, 1) := by decide +kernel
theorem dX10_tear_1 : decode cX10_tear 1 = .ok (.invokestatic 93, 3) := by decide +kernel
theorem dX10_tear_4 : decode cX10_tear 4 = .ok (.ifCond .eq 12, 3) := by decide +kernel
theorem dX10_tear_7 : decode cX10_tear 7 = .ok (.aload_n 0, 1) := by decide +kernel
theorem dX10_tear_8 : decode cX10_tear 8 = .ok (.getfield 44, 3) := by decide +kernel
theorem dX10_tear_11 : decode cX10_tear 11 = .ok (.iload_n 1, 1) := by decide +kernel
theorem dX10_tear_12 : decode cX10_tear 12 = .ok (.iaload, 1) := by decide +kernel
theorem dX10_tear_13 : decode cX10_tear 13 = .ok (.ifCond .ne 5, 3) := by decide +kernel
theorem dX10_tear_16 : decode cX10_tear 16 = .ok (.iconst 0, 1) := by decide +kernel
theorem dX10_tear_17 : decode cX10_tear 17 = .ok (.ireturn, 1) := by decide +kernel
theorem dX10_tear_18 : decode cX10_tear 18 = .ok (.aload_n 0, 1) := by decide +kernel
theorem dX10_tear_19 : decode cX10_tear 19 = .ok (.getfield 44, 3) := by decide +kernel
theorem dX10_tear_22 : decode cX10_tear 22 = .ok (.iload_n 1, 1) := by decide +kernel
theorem dX10_tear_23 : decode cX10_tear 23 = .ok (.iconst 0, 1) := by decide +kernel
theorem dX10_tear_24 : decode cX10_tear 24 = .ok (.iastore, 1) := by decide +kernel
theorem dX10_tear_25 : decode cX10_tear 25 = .ok (.iconst 1, 1) := by decide +kernel
theorem dX10_tear_26 : decode cX10_tear 26 = .ok (.ireturn, 1) := by decide +kernel
theorem dX10_wrong_0 : decode cX10_wrong 0 = .ok (.iload_n 1, 1) := by decide +kernel
theorem dX10_wrong_1 : decode cX10_wrong 1 = .ok (.invokestatic 93, 3) := by decide +kernel
theorem dX10_wrong_4 : decode cX10_wrong 4 = .ok (.ifCond .ne 6, 3) := by decide +kernel
theorem dX10_wrong_7 : decode cX10_wrong 7 = .ok (.bipush (-2), 2) := by decide +kernel
theorem dX10_wrong_9 : decode cX10_wrong 9 = .ok (.ireturn, 1) := by decide +kernel
theorem dX10_wrong_10 : decode cX10_wrong 10 = .ok (.aload_n 0, 1) := by decide +kernel
theorem dX10_wrong_11 : decode cX10_wrong 11 = .ok (.getfield 44, 3) := by decide +kernel
theorem dX10_wrong_14 : decode cX10_wrong 14 = .ok (.iload_n 1, 1) := by decide +kernel
theorem dX10_wrong_15 : decode cX10_wrong 15 = .ok (.iaload, 1) := by decide +kernel
theorem dX10_wrong_16 : decode cX10_wrong 16 = .ok (.ifCond .ne 8, 3) := by decide +kernel
theorem dX10_wrong_19 : decode cX10_wrong 19 = .ok (.bipush (-5), 2) := by decide +kernel
theorem dX10_wrong_21 : decode cX10_wrong 21 = .ok (.goto 25, 3) := by decide +kernel
theorem dX10_wrong_24 : decode cX10_wrong 24 = .ok (.iload_n 2, 1) := by decide +kernel
theorem dX10_wrong_25 : decode cX10_wrong 25 = .ok (.ifCond .lt 15, 3) := by decide +kernel
theorem dX10_wrong_28 : decode cX10_wrong 28 = .ok (.iload_n 2, 1) := by decide +kernel
theorem dX10_wrong_29 : decode cX10_wrong 29 = .ok (.aload_n 0, 1) := by decide +kernel
theorem dX10_wrong_30 : decode cX10_wrong 30 = .ok (.getfield 44, 3) := by decide +kernel
theorem dX10_wrong_33 : decode cX10_wrong 33 = .ok (.iload_n 1, 1) := by decide +kernel
theorem dX10_wrong_34 : decode cX10_wrong 34 = .ok (.iaload, 1) := by decide +kernel
theorem dX10_wrong_35 : decode cX10_wrong 35 = .ok (.iconst 1, 1) := by decide +kernel
theorem dX10_wrong_36 : decode cX10_wrong 36 = .ok (.isub, 1) := by decide +kernel
theorem dX10_wrong_37 : decode cX10_wrong 37 = .ok (.if_icmp .lt 8, 3) := by decide +kernel
theorem dX10_wrong_40 : decode cX10_wrong 40 = .ok (.bipush (-6), 2) := by decide +kernel
theorem dX10_wrong_42 : decode cX10_wrong 42 = .ok (.goto 4, 3) := by decide +kernel
theorem dX10_wrong_45 : decode cX10_wrong 45 = .ok (.iconst 0, 1) := by decide +kernel
theorem dX10_wrong_46 : decode cX10_wrong 46 = .ok (.ireturn, 1) := by decide +kernel
theorem dX10_write_0 : decode cX10_write 0 = .ok (.aload_n 0, 1) := by decide +kernel
theorem dX10_write_1 : decode cX10_write 1 = .ok (.iload_n 1, 1) := by decide +kernel
theorem dX10_write_2 : decode cX10_write 2 = .ok (.iload_n 2, 1) := by decide +kernel
theorem dX10_write_3 : decode cX10_write 3 = .ok (.invokevirtual 96, 3) := by decide +kernel
theorem dX10_write_6 : decode cX10_write 6 = .ok (.istore 5, 2) := by decide +kernel
theorem dX10_write_8 : decode cX10_write 8 = .ok (.iload 5, 2) := by decide +kernel
theorem dX10_write_10 : decode cX10_write 10 = .ok (.ifCond .ne 61, 3) := by decide +kernel
theorem dX10_write_13 : decode cX10_write 13 = .ok (.aload_n 0, 1) := by decide +kernel
theorem dX10_write_14 : decode cX10_write 14 = .ok (.getfield 47, 3) := by decide +kernel
theorem dX10_write_17 : decode cX10_write 17 = .ok (.iload_n 1, 1) := by decide +kernel
theorem dX10_write_18 : decode cX10_write 18 = .ok (.iaload, 1) := by decide +kernel
theorem dX10_write_19 : decode cX10_write 19 = .ok (.istore 6, 2) := by decide +kernel
theorem dX10_write_21 : decode cX10_write 21 = .ok (.aload_n 0, 1) := by decide +kernel
theorem dX10_write_22 : decode cX10_write 22 = .ok (.getfield 50, 3) := by decide +kernel
theorem dX10_write_25 : decode cX10_write 25 = .ok (.sipush 200, 3) := by decide +kernel
theorem dX10_write_28 : decode cX10_write 28 = .ok (.iload_n 1, 1) := by decide +kernel
theorem dX10_write_29 : decode cX10_write 29 = .ok (.imul, 1) := by decide +kernel
theorem dX10_write_30 : decode cX10_write 30 = .ok (.iload_n 2, 1) := by decide +kernel
theorem dX10_write_31 : decode cX10_write 31 = .ok (.iadd, 1) := by decide +kernel
theorem dX10_write_32 : decode cX10_write 32 = .ok (.iload 6, 2) := by decide +kernel
theorem dX10_write_34 : decode cX10_write 34 = .ok (.ifCond .ne 10, 3) := by decide +kernel
theorem dX10_write_37 : decode cX10_write 37 = .ok (.lload_n 3, 1) := by decide +kernel
theorem dX10_write_38 : decode cX10_write 38 = .ok (.l2i, 1) := by decide +kernel
theorem dX10_write_39 : decode cX10_write 39 = .ok (.i2b, 1) := by decide +kernel
theorem dX10_write_40 : decode cX10_write 40 = .ok (.i2l, 1) := by decide +kernel
theorem dX10_write_41 : decode cX10_write 41 = .ok (.goto 29, 3) := by decide +kernel
theorem dX10_write_44 : decode cX10_write 44 = .ok (.iload 6, 2) := by decide +kernel
theorem dX10_write_46 : decode cX10_write 46 = .ok (.iconst 1, 1) := by decide +kernel
theorem dX10_write_47 : decode cX10_write 47 = .ok (.if_icmp .ne 10, 3) := by decide +kernel
theorem dX10_write_50 : decode cX10_write 50 = .ok (.lload_n 3, 1) := by decide +kernel
theorem dX10_write_51 : decode cX10_write 51 = .ok (.l2i, 1) := by decide +kernel
theorem dX10_write_52 : decode cX10_write 52 = .ok (.i2s, 1) := by decide +kernel
theorem dX10_write_53 : decode cX10_write 53 = .ok (.i2l, 1) := by decide +kernel
theorem dX10_write_54 : decode cX10_write 54 = .ok (.goto 16, 3) := by decide +kernel
theorem dX10_write_57 : decode cX10_write 57 = .ok (.iload 6, 2) := by decide +kernel
theorem dX10_write_59 : decode cX10_write 59 = .ok (.iconst 2, 1) := by decide +kernel
theorem dX10_write_60 : decode cX10_write 60 = .ok (.if_icmp .ne 9, 3) := by decide +kernel
theorem dX10_write_63 : decode cX10_write 63 = .ok (.lload_n 3, 1) := by decide +kernel
theorem dX10_write_64 : decode cX10_write 64 = .ok (.l2i, 1) := by decide +kernel
theorem dX10_write_65 : decode cX10_write 65 = .ok (.i2l, 1) := by decide +kernel
theorem dX10_write_66 : decode cX10_write 66 = .ok (.goto 4, 3) := by decide +kernel
theorem dX10_write_69 : decode cX10_write 69 = .ok (.lload_n 3, 1) := by decide +kernel
theorem dX10_write_70 : decode cX10_write 70 = .ok (.lastore, 1) := by decide +kernel
theorem dX10_write_71 : decode cX10_write 71 = .ok (.iload 5, 2) := by decide +kernel
theorem dX10_write_73 : decode cX10_write 73 = .ok (.ireturn, 1) := by decide +kernel
theorem dX10_read_0 : decode cX10_read 0 = .ok (.aload_n 0, 1) := by decide +kernel
theorem dX10_read_1 : decode cX10_read 1 = .ok (.iload_n 1, 1) := by decide +kernel
theorem dX10_read_2 : decode cX10_read 2 = .ok (.iload_n 2, 1) := by decide +kernel
theorem dX10_read_3 : decode cX10_read 3 = .ok (.invokevirtual 96, 3) := by decide +kernel
theorem dX10_read_6 : decode cX10_read 6 = .ok (.ifCond .ne 18, 3) := by decide +kernel
theorem dX10_read_9 : decode cX10_read 9 = .ok (.aload_n 0, 1) := by decide +kernel
theorem dX10_read_10 : decode cX10_read 10 = .ok (.getfield 50, 3) := by decide +kernel
theorem dX10_read_13 : decode cX10_read 13 = .ok (.sipush 200, 3) := by decide +kernel
theorem dX10_read_16 : decode cX10_read 16 = .ok (.iload_n 1, 1) := by decide +kernel
theorem dX10_read_17 : decode cX10_read 17 = .ok (.imul, 1) := by decide +kernel
theorem dX10_read_18 : decode cX10_read 18 = .ok (.iload_n 2, 1) := by decide +kernel
theorem dX10_read_19 : decode cX10_read 19 = .ok (.iadd, 1) := by decide +kernel
theorem dX10_read_20 : decode cX10_read 20 = .ok (.laload, 1) := by decide +kernel
theorem dX10_read_21 : decode cX10_read 21 = .ok (.goto 4, 3) := by decide +kernel
theorem dX10_read_24 : decode cX10_read 24 = .ok (.lconst 0, 1) := by decide +kernel
theorem dX10_read_25 : decode cX10_read 25 = .ok (.lreturn, 1) := by decide +kernel
theorem dX10_copy_0 : decode cX10_copy 0 = .ok (.iload_n 1, 1) := by decide +kernel
theorem dX10_copy_1 : decode cX10_copy 1 = .ok (.invokestatic 93, 3) := by decide +kernel
theorem dX10_copy_4 : decode cX10_copy 4 = .ok (.ifCond .eq 10, 3) := by decide +kernel
theorem dX10_copy_7 : decode cX10_copy 7 = .ok (.iload_n 3, 1) := by decide +kernel
theorem dX10_copy_8 : decode cX10_copy 8 = .ok (.invokestatic 93, 3) := by decide +kernel
theorem dX10_copy_11 : decode cX10_copy 11 = .ok (.ifCond .ne 6, 3) := by decide +kernel
theorem dX10_copy_14 : decode cX10_copy 14 = .ok (.bipush (-2), 2) := by decide +kernel
theorem dX10_copy_16 : decode cX10_copy 16 = .ok (.ireturn, 1) := by decide +kernel
theorem dX10_copy_17 : decode cX10_copy 17 = .ok (.aload_n 0, 1) := by decide +kernel
theorem dX10_copy_18 : decode cX10_copy 18 = .ok (.getfield 44, 3) := by decide +kernel
theorem dX10_copy_21 : decode cX10_copy 21 = .ok (.iload_n 1, 1) := by decide +kernel
theorem dX10_copy_22 : decode cX10_copy 22 = .ok (.iaload, 1) := by decide +kernel
theorem dX10_copy_23 : decode cX10_copy 23 = .ok (.ifCond .eq 12, 3) := by decide +kernel
theorem dX10_copy_26 : decode cX10_copy 26 = .ok (.aload_n 0, 1) := by decide +kernel
theorem dX10_copy_27 : decode cX10_copy 27 = .ok (.getfield 44, 3) := by decide +kernel
theorem dX10_copy_30 : decode cX10_copy 30 = .ok (.iload_n 3, 1) := by decide +kernel
theorem dX10_copy_31 : decode cX10_copy 31 = .ok (.iaload, 1) := by decide +kernel
theorem dX10_copy_32 : decode cX10_copy 32 = .ok (.ifCond .ne 6, 3) := by decide +kernel
theorem dX10_copy_35 : decode cX10_copy 35 = .ok (.bipush (-5), 2) := by decide +kernel
theorem dX10_copy_37 : decode cX10_copy 37 = .ok (.ireturn, 1) := by decide +kernel
theorem dX10_copy_38 : decode cX10_copy 38 = .ok (.aload_n 0, 1) := by decide +kernel
theorem dX10_copy_39 : decode cX10_copy 39 = .ok (.getfield 47, 3) := by decide +kernel
theorem dX10_copy_42 : decode cX10_copy 42 = .ok (.iload_n 1, 1) := by decide +kernel
theorem dX10_copy_43 : decode cX10_copy 43 = .ok (.iaload, 1) := by decide +kernel
theorem dX10_copy_44 : decode cX10_copy 44 = .ok (.aload_n 0, 1) := by decide +kernel
theorem dX10_copy_45 : decode cX10_copy 45 = .ok (.getfield 47, 3) := by decide +kernel
theorem dX10_copy_48 : decode cX10_copy 48 = .ok (.iload_n 3, 1) := by decide +kernel
theorem dX10_copy_49 : decode cX10_copy 49 = .ok (.iaload, 1) := by decide +kernel
theorem dX10_copy_50 : decode cX10_copy 50 = .ok (.if_icmp .eq 6, 3) := by decide +kernel
theorem dX10_copy_53 : decode cX10_copy 53 = .ok (.bipush (-7), 2) := by decide +kernel
theorem dX10_copy_55 : decode cX10_copy 55 = .ok (.ireturn, 1) := by decide +kernel
theorem dX10_copy_56 : decode cX10_copy 56 = .ok (.iload_n 2, 1) := by decide +kernel
theorem dX10_copy_57 : decode cX10_copy 57 = .ok (.ifCond .lt 52, 3) := by decide +kernel
theorem dX10_copy_60 : decode cX10_copy 60 = .ok (.iload 4, 2) := by decide +kernel
theorem dX10_copy_62 : decode cX10_copy 62 = .ok (.ifCond .lt 47, 3) := by decide +kernel
theorem dX10_copy_65 : decode cX10_copy 65 = .ok (.iload 5, 2) := by decide +kernel
theorem dX10_copy_67 : decode cX10_copy 67 = .ok (.ifCond .lt 42, 3) := by decide +kernel
theorem dX10_copy_70 : decode cX10_copy 70 = .ok (.iload_n 2, 1) := by decide +kernel
theorem dX10_copy_71 : decode cX10_copy 71 = .ok (.i2l, 1) := by decide +kernel
theorem dX10_copy_72 : decode cX10_copy 72 = .ok (.iload 5, 2) := by decide +kernel
theorem dX10_copy_74 : decode cX10_copy 74 = .ok (.i2l, 1) := by decide +kernel
theorem dX10_copy_75 : decode cX10_copy 75 = .ok (.ladd, 1) := by decide +kernel
theorem dX10_copy_76 : decode cX10_copy 76 = .ok (.aload_n 0, 1) := by decide +kernel
theorem dX10_copy_77 : decode cX10_copy 77 = .ok (.getfield 44, 3) := by decide +kernel
theorem dX10_copy_80 : decode cX10_copy 80 = .ok (.iload_n 1, 1) := by decide +kernel
theorem dX10_copy_81 : decode cX10_copy 81 = .ok (.iaload, 1) := by decide +kernel
theorem dX10_copy_82 : decode cX10_copy 82 = .ok (.iconst 1, 1) := by decide +kernel
theorem dX10_copy_83 : decode cX10_copy 83 = .ok (.isub, 1) := by decide +kernel
theorem dX10_copy_84 : decode cX10_copy 84 = .ok (.i2l, 1) := by decide +kernel
theorem dX10_copy_85 : decode cX10_copy 85 = .ok (.lcmp, 1) := by decide +kernel
theorem dX10_copy_86 : decode cX10_copy 86 = .ok (.ifCond .gt 23, 3) := by decide +kernel
theorem dX10_copy_89 : decode cX10_copy 89 = .ok (.iload 4, 2) := by decide +kernel
theorem dX10_copy_91 : decode cX10_copy 91 = .ok (.i2l, 1) := by decide +kernel
theorem dX10_copy_92 : decode cX10_copy 92 = .ok (.iload 5, 2) := by decide +kernel
theorem dX10_copy_94 : decode cX10_copy 94 = .ok (.i2l, 1) := by decide +kernel
theorem dX10_copy_95 : decode cX10_copy 95 = .ok (.ladd, 1) := by decide +kernel
theorem dX10_copy_96 : decode cX10_copy 96 = .ok (.aload_n 0, 1) := by decide +kernel
theorem dX10_copy_97 : decode cX10_copy 97 = .ok (.getfield 44, 3) := by decide +kernel
theorem dX10_copy_100 : decode cX10_copy 100 = .ok (.iload_n 3, 1) := by decide +kernel
theorem dX10_copy_101 : decode cX10_copy 101 = .ok (.iaload, 1) := by decide +kernel
theorem dX10_copy_102 : decode cX10_copy 102 = .ok (.iconst 1, 1) := by decide +kernel
theorem dX10_copy_103 : decode cX10_copy 103 = .ok (.isub, 1) := by decide +kernel
theorem dX10_copy_104 : decode cX10_copy 104 = .ok (.i2l, 1) := by decide +kernel
theorem dX10_copy_105 : decode cX10_copy 105 = .ok (.lcmp, 1) := by decide +kernel
theorem dX10_copy_106 : decode cX10_copy 106 = .ok (.ifCond .le 6, 3) := by decide +kernel
theorem dX10_copy_109 : decode cX10_copy 109 = .ok (.bipush (-6), 2) := by decide +kernel
theorem dX10_copy_111 : decode cX10_copy 111 = .ok (.ireturn, 1) := by decide +kernel
theorem dX10_copy_112 : decode cX10_copy 112 = .ok (.iconst 0, 1) := by decide +kernel
theorem dX10_copy_113 : decode cX10_copy 113 = .ok (.istore 6, 2) := by decide +kernel
theorem dX10_copy_115 : decode cX10_copy 115 = .ok (.iload 6, 2) := by decide +kernel
theorem dX10_copy_117 : decode cX10_copy 117 = .ok (.iload 5, 2) := by decide +kernel
theorem dX10_copy_119 : decode cX10_copy 119 = .ok (.if_icmp .ge 31, 3) := by decide +kernel
theorem dX10_copy_122 : decode cX10_copy 122 = .ok (.aload_n 0, 1) := by decide +kernel
theorem dX10_copy_123 : decode cX10_copy 123 = .ok (.getfield 54, 3) := by decide +kernel
theorem dX10_copy_126 : decode cX10_copy 126 = .ok (.iload 6, 2) := by decide +kernel
theorem dX10_copy_128 : decode cX10_copy 128 = .ok (.aload_n 0, 1) := by decide +kernel
theorem dX10_copy_129 : decode cX10_copy 129 = .ok (.getfield 50, 3) := by decide +kernel
theorem dX10_copy_132 : decode cX10_copy 132 = .ok (.sipush 200, 3) := by decide +kernel
theorem dX10_copy_135 : decode cX10_copy 135 = .ok (.iload_n 1, 1) := by decide +kernel
theorem dX10_copy_136 : decode cX10_copy 136 = .ok (.imul, 1) := by decide +kernel
theorem dX10_copy_137 : decode cX10_copy 137 = .ok (.iload_n 2, 1) := by decide +kernel
theorem dX10_copy_138 : decode cX10_copy 138 = .ok (.iadd, 1) := by decide +kernel
theorem dX10_copy_139 : decode cX10_copy 139 = .ok (.iload 6, 2) := by decide +kernel
theorem dX10_copy_141 : decode cX10_copy 141 = .ok (.iadd, 1) := by decide +kernel
theorem dX10_copy_142 : decode cX10_copy 142 = .ok (.laload, 1) := by decide +kernel
theorem dX10_copy_143 : decode cX10_copy 143 = .ok (.lastore, 1) := by decide +kernel
theorem dX10_copy_144 : decode cX10_copy 144 = .ok (.iinc 6 1, 3) := by decide +kernel
theorem dX10_copy_147 : decode cX10_copy 147 = .ok (.goto (-32), 3) := by decide +kernel
theorem dX10_copy_150 : decode cX10_copy 150 = .ok (.iconst 0, 1) := by decide +kernel
theorem dX10_copy_151 : decode cX10_copy 151 = .ok (.istore 6, 2) := by decide +kernel
theorem dX10_copy_153 : decode cX10_copy 153 = .ok (.iload 6, 2) := by decide +kernel
theorem dX10_copy_155 : decode cX10_copy 155 = .ok (.iload 5, 2) := by decide +kernel
theorem dX10_copy_157 : decode cX10_copy 157 = .ok (.if_icmp .ge 32, 3) := by decide +kernel
theorem dX10_copy_160 : decode cX10_copy 160 = .ok (.aload_n 0, 1) := by decide +kernel
theorem dX10_copy_161 : decode cX10_copy 161 = .ok (.getfield 50, 3) := by decide +kernel
theorem dX10_copy_164 : decode cX10_copy 164 = .ok (.sipush 200, 3) := by decide +kernel
theorem dX10_copy_167 : decode cX10_copy 167 = .ok (.iload_n 3, 1) := by decide +kernel
theorem dX10_copy_168 : decode cX10_copy 168 = .ok (.imul, 1) := by decide +kernel
theorem dX10_copy_169 : decode cX10_copy 169 = .ok (.iload 4, 2) := by decide +kernel
theorem dX10_copy_171 : decode cX10_copy 171 = .ok (.iadd, 1) := by decide +kernel
theorem dX10_copy_172 : decode cX10_copy 172 = .ok (.iload 6, 2) := by decide +kernel
theorem dX10_copy_174 : decode cX10_copy 174 = .ok (.iadd, 1) := by decide +kernel
theorem dX10_copy_175 : decode cX10_copy 175 = .ok (.aload_n 0, 1) := by decide +kernel
theorem dX10_copy_176 : decode cX10_copy 176 = .ok (.getfield 54, 3) := by decide +kernel
theorem dX10_copy_179 : decode cX10_copy 179 = .ok (.iload 6, 2) := by decide +kernel
theorem dX10_copy_181 : decode cX10_copy 181 = .ok (.laload, 1) := by decide +kernel
theorem dX10_copy_182 : decode cX10_copy 182 = .ok (.lastore, 1) := by decide +kernel
theorem dX10_copy_183 : decode cX10_copy 183 = .ok (.iinc 6 1, 3) := by decide +kernel
theorem dX10_copy_186 : decode cX10_copy 186 = .ok (.goto (-33), 3) := by decide +kernel
theorem dX10_copy_189 : decode cX10_copy 189 = .ok (.iconst 0, 1) := by decide +kernel
theorem dX10_copy_190 : decode cX10_copy 190 = .ok (.ireturn, 1) := by decide +kernel
theorem dX10_bitsOf_0 : decode cX10_bitsOf 0 = .ok (.iconst 0, 1) := by decide +kernel
theorem dX10_bitsOf_1 : decode cX10_bitsOf 1 = .ok (.istore_n 1, 1) := by decide +kernel
theorem dX10_bitsOf_2 : decode cX10_bitsOf 2 = .ok (.iconst 0, 1) := by decide +kernel
theorem dX10_bitsOf_3 : decode cX10_bitsOf 3 = .ok (.istore_n 2, 1) := by decide +kernel
theorem dX10_bitsOf_4 : decode cX10_bitsOf 4 = .ok (.iload_n 2, 1) := by decide +kernel
theorem dX10_bitsOf_5 : decode cX10_bitsOf 5 = .ok (.bipush 12, 2) := by decide +kernel
theorem dX10_bitsOf_7 : decode cX10_bitsOf 7 = .ok (.if_icmp .ge 17, 3) := by decide +kernel
theorem dX10_bitsOf_10 : decode cX10_bitsOf 10 = .ok (.iload_n 1, 1) := by decide +kernel
theorem dX10_bitsOf_11 : decode cX10_bitsOf 11 = .ok (.iload_n 0, 1) := by decide +kernel
theorem dX10_bitsOf_12 : decode cX10_bitsOf 12 = .ok (.iload_n 2, 1) := by decide +kernel
theorem dX10_bitsOf_13 : decode cX10_bitsOf 13 = .ok (.ishr, 1) := by decide +kernel
theorem dX10_bitsOf_14 : decode cX10_bitsOf 14 = .ok (.iconst 1, 1) := by decide +kernel
theorem dX10_bitsOf_15 : decode cX10_bitsOf 15 = .ok (.iand, 1) := by decide +kernel
theorem dX10_bitsOf_16 : decode cX10_bitsOf 16 = .ok (.iadd, 1) := by decide +kernel
theorem dX10_bitsOf_17 : decode cX10_bitsOf 17 = .ok (.istore_n 1, 1) := by decide +kernel
theorem dX10_bitsOf_18 : decode cX10_bitsOf 18 = .ok (.iinc 2 1, 3) := by decide +kernel
theorem dX10_bitsOf_21 : decode cX10_bitsOf 21 = .ok (.goto (-17), 3) := by decide +kernel
theorem dX10_bitsOf_24 : decode cX10_bitsOf 24 = .ok (.iload_n 1, 1) := by decide +kernel
theorem dX10_bitsOf_25 : decode cX10_bitsOf 25 = .ok (.ireturn, 1) := by decide +kernel
theorem dX10_isAllowed_0 : decode cX10_isAllowed 0 = .ok (.aload_n 0, 1) := by decide +kernel
theorem dX10_isAllowed_1 : decode cX10_isAllowed 1 = .ok (.getfield 21, 3) := by decide +kernel
theorem dX10_isAllowed_4 : decode cX10_isAllowed 4 = .ok (.sipush 4096, 3) := by decide +kernel
theorem dX10_isAllowed_7 : decode cX10_isAllowed 7 = .ok (.iload_n 1, 1) := by decide +kernel
theorem dX10_isAllowed_8 : decode cX10_isAllowed 8 = .ok (.imul, 1) := by decide +kernel
theorem dX10_isAllowed_9 : decode cX10_isAllowed 9 = .ok (.iload_n 2, 1) := by decide +kernel
theorem dX10_isAllowed_10 : decode cX10_isAllowed 10 = .ok (.iadd, 1) := by decide +kernel
theorem dX10_isAllowed_11 : decode cX10_isAllowed 11 = .ok (.baload, 1) := by decide +kernel
theorem dX10_isAllowed_12 : decode cX10_isAllowed 12 = .ok (.ireturn, 1) := by decide +kernel
theorem dX10_rankOf_0 : decode cX10_rankOf 0 = .ok (.aload_n 0, 1) := by decide +kernel
theorem dX10_rankOf_1 : decode cX10_rankOf 1 = .ok (.getfield 25, 3) := by decide +kernel
theorem dX10_rankOf_4 : decode cX10_rankOf 4 = .ok (.sipush 4096, 3) := by decide +kernel
theorem dX10_rankOf_7 : decode cX10_rankOf 7 = .ok (.iload_n 1, 1) := by decide +kernel
theorem dX10_rankOf_8 : decode cX10_rankOf 8 = .ok (.imul, 1) := by decide +kernel
theorem dX10_rankOf_9 : decode cX10_rankOf 9 = .ok (.iload_n 2, 1) := by decide +kernel
theorem dX10_rankOf_10 : decode cX10_rankOf 10 = .ok (.iadd, 1) := by decide +kernel
theorem dX10_rankOf_11 : decode cX10_rankOf 11 = .ok (.baload, 1) := by decide +kernel
theorem dX10_rankOf_12 : decode cX10_rankOf 12 = .ok (.ireturn, 1) := by decide +kernel
theorem dX10_made_0 : decode cX10_made 0 = .ok (.aload_n 0, 1) := by decide +kernel
theorem dX10_made_1 : decode cX10_made 1 = .ok (.getfield 85, 3) := by decide +kernel
theorem dX10_made_4 : decode cX10_made 4 = .ok (.istore 5, 2) := by decide +kernel
theorem dX10_made_6 : decode cX10_made 6 = .ok (.iconst 0, 1) := by decide +kernel
theorem dX10_made_7 : decode cX10_made 7 = .ok (.istore 6, 2) := by decide +kernel
theorem dX10_made_9 : decode cX10_made 9 = .ok (.iload 6, 2) := by decide +kernel
theorem dX10_made_11 : decode cX10_made 11 = .ok (.aload_n 0, 1) := by decide +kernel
theorem dX10_made_12 : decode cX10_made 12 = .ok (.getfield 13, 3) := by decide +kernel
theorem dX10_made_15 : decode cX10_made 15 = .ok (.if_icmp .gt 99, 3) := by decide +kernel
theorem dX10_made_18 : decode cX10_made 18 = .ok (.aload_n 0, 1) := by decide +kernel
theorem dX10_made_19 : decode cX10_made 19 = .ok (.iload 5, 2) := by decide +kernel
theorem dX10_made_21 : decode cX10_made 21 = .ok (.iload 6, 2) := by decide +kernel
theorem dX10_made_23 : decode cX10_made 23 = .ok (.invokevirtual 100, 3) := by decide +kernel
theorem dX10_made_26 : decode cX10_made 26 = .ok (.ifCond .eq 11, 3) := by decide +kernel
theorem dX10_made_29 : decode cX10_made 29 = .ok (.iload 6, 2) := by decide +kernel
theorem dX10_made_31 : decode cX10_made 31 = .ok (.invokestatic 104, 3) := by decide +kernel
theorem dX10_made_34 : decode cX10_made 34 = .ok (.goto 4, 3) := by decide +kernel
theorem dX10_made_37 : decode cX10_made 37 = .ok (.iconst 0, 1) := by decide +kernel
theorem dX10_made_38 : decode cX10_made 38 = .ok (.istore 7, 2) := by decide +kernel
theorem dX10_made_40 : decode cX10_made 40 = .ok (.iconst 0, 1) := by decide +kernel
theorem dX10_made_41 : decode cX10_made 41 = .ok (.istore 8, 2) := by decide +kernel
theorem dX10_made_43 : decode cX10_made 43 = .ok (.iload 8, 2) := by decide +kernel
theorem dX10_made_45 : decode cX10_made 45 = .ok (.aload_n 0, 1) := by decide +kernel
theorem dX10_made_46 : decode cX10_made 46 = .ok (.getfield 7, 3) := by decide +kernel
theorem dX10_made_49 : decode cX10_made 49 = .ok (.if_icmp .ge 42, 3) := by decide +kernel
theorem dX10_made_52 : decode cX10_made 52 = .ok (.iload 6, 2) := by decide +kernel
theorem dX10_made_54 : decode cX10_made 54 = .ok (.iload 8, 2) := by decide +kernel
