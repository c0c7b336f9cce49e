theorem dX8_readsFirst_24 : decode cX8_readsFirst 24 = .ok (.iconst 1, 1) := by decide +kernel
theorem dX8_readsFirst_25 : decode cX8_readsFirst 25 = .ok (.bipush 16, 2) := by decide +kernel
theorem dX8_readsFirst_27 : decode cX8_readsFirst 27 = .ok (.invokevirtual 137, 3) := by decide +kernel
theorem dX8_readsFirst_30 : decode cX8_readsFirst 30 = .ok (.ifCond .ne 5, 3) := by decide +kernel
theorem dX8_readsFirst_33 : decode cX8_readsFirst 33 = .ok (.iconst 0, 1) := by decide +kernel
theorem dX8_readsFirst_34 : decode cX8_readsFirst 34 = .ok (.ireturn, 1) := by decide +kernel
theorem dX8_readsFirst_35 : decode cX8_readsFirst 35 = .ok (.aload_n 0, 1) := by decide +kernel
theorem dX8_readsFirst_36 : decode cX8_readsFirst 36 = .ok (.aload_n 0, 1) := by decide +kernel
theorem dX8_readsFirst_37 : decode cX8_readsFirst 37 = .ok (.getfield 131, 3) := by decide +kernel
theorem dX8_readsFirst_40 : decode cX8_readsFirst 40 = .ok (.putfield 134, 3) := by decide +kernel
theorem dX8_readsFirst_43 : decode cX8_readsFirst 43 = .ok (.aload_n 0, 1) := by decide +kernel
theorem dX8_readsFirst_44 : decode cX8_readsFirst 44 = .ok (.invokevirtual 141, 3) := by decide +kernel
theorem dX8_readsFirst_47 : decode cX8_readsFirst 47 = .ok (.ireturn, 1) := by decide +kernel
theorem dX8_readsItem_0 : decode cX8_readsItem 0 = .ok (.aload_n 0, 1) := by decide +kernel
theorem dX8_readsItem_1 : decode cX8_readsItem 1 = .ok (.invokevirtual 148, 3) := by decide +kernel
theorem dX8_readsItem_4 : decode cX8_readsItem 4 = .ok (.istore_n 1, 1) := by decide +kernel
theorem dX8_readsItem_5 : decode cX8_readsItem 5 = .ok (.iload_n 1, 1) := by decide +kernel
theorem dX8_readsItem_6 : decode cX8_readsItem 6 = .ok (.iconst 1, 1) := by decide +kernel
theorem dX8_readsItem_7 : decode cX8_readsItem 7 = .ok (.if_icmp .lt 17, 3) := by decide +kernel
theorem dX8_readsItem_10 : decode cX8_readsItem 10 = .ok (.iload_n 1, 1) := by decide +kernel
theorem dX8_readsItem_11 : decode cX8_readsItem 11 = .ok (.iconst 2, 1) := by decide +kernel
theorem dX8_readsItem_12 : decode cX8_readsItem 12 = .ok (.if_icmp .ne 14, 3) := by decide +kernel
theorem dX8_readsItem_15 : decode cX8_readsItem 15 = .ok (.aload_n 0, 1) := by decide +kernel
theorem dX8_readsItem_16 : decode cX8_readsItem 16 = .ok (.getfield 145, 3) := by decide +kernel
theorem dX8_readsItem_19 : decode cX8_readsItem 19 = .ok (.bipush 7, 2) := by decide +kernel
theorem dX8_readsItem_21 : decode cX8_readsItem 21 = .ok (.if_icmp .ne 5, 3) := by decide +kernel
theorem dX8_readsItem_24 : decode cX8_readsItem 24 = .ok (.iconst 0, 1) := by decide +kernel
theorem dX8_readsItem_25 : decode cX8_readsItem 25 = .ok (.ireturn, 1) := by decide +kernel
theorem dX8_readsItem_26 : decode cX8_readsItem 26 = .ok (.aload_n 0, 1) := by decide +kernel
theorem dX8_readsItem_27 : decode cX8_readsItem 27 = .ok (.dup, 1) := by decide +kernel
theorem dX8_readsItem_28 : decode cX8_readsItem 28 = .ok (.getfield 109, 3) := by decide +kernel
theorem dX8_readsItem_31 : decode cX8_readsItem 31 = .ok (.iload_n 1, 1) := by decide +kernel
theorem dX8_readsItem_32 : decode cX8_readsItem 32 = .ok (.iconst 1, 1) := by decide +kernel
theorem dX8_readsItem_33 : decode cX8_readsItem 33 = .ok (.if_icmp .ne 7, 3) := by decide +kernel
theorem dX8_readsItem_36 : decode cX8_readsItem 36 = .ok (.iconst 4, 1) := by decide +kernel
theorem dX8_readsItem_37 : decode cX8_readsItem 37 = .ok (.goto 5, 3) := by decide +kernel
theorem dX8_readsItem_40 : decode cX8_readsItem 40 = .ok (.bipush 8, 2) := by decide +kernel
theorem dX8_readsItem_42 : decode cX8_readsItem 42 = .ok (.iadd, 1) := by decide +kernel
theorem dX8_readsItem_43 : decode cX8_readsItem 43 = .ok (.putfield 109, 3) := by decide +kernel
theorem dX8_readsItem_46 : decode cX8_readsItem 46 = .ok (.iload_n 1, 1) := by decide +kernel
theorem dX8_readsItem_47 : decode cX8_readsItem 47 = .ok (.iconst 1, 1) := by decide +kernel
theorem dX8_readsItem_48 : decode cX8_readsItem 48 = .ok (.if_icmp .ne 10, 3) := by decide +kernel
theorem dX8_readsItem_51 : decode cX8_readsItem 51 = .ok (.aload_n 0, 1) := by decide +kernel
theorem dX8_readsItem_52 : decode cX8_readsItem 52 = .ok (.invokevirtual 151, 3) := by decide +kernel
theorem dX8_readsItem_55 : decode cX8_readsItem 55 = .ok (.goto 7, 3) := by decide +kernel
theorem dX8_readsItem_58 : decode cX8_readsItem 58 = .ok (.aload_n 0, 1) := by decide +kernel
theorem dX8_readsItem_59 : decode cX8_readsItem 59 = .ok (.invokevirtual 154, 3) := by decide +kernel
theorem dX8_readsItem_62 : decode cX8_readsItem 62 = .ok (.ireturn, 1) := by decide +kernel
theorem dX8_readsFair_0 : decode cX8_readsFair 0 = .ok (.aload_n 0, 1) := by decide +kernel
theorem dX8_readsFair_1 : decode cX8_readsFair 1 = .ok (.iconst 0, 1) := by decide +kernel
theorem dX8_readsFair_2 : decode cX8_readsFair 2 = .ok (.putfield 109, 3) := by decide +kernel
theorem dX8_readsFair_5 : decode cX8_readsFair 5 = .ok (.aload_n 0, 1) := by decide +kernel
theorem dX8_readsFair_6 : decode cX8_readsFair 6 = .ok (.iconst 0, 1) := by decide +kernel
theorem dX8_readsFair_7 : decode cX8_readsFair 7 = .ok (.putfield 145, 3) := by decide +kernel
theorem dX8_readsFair_10 : decode cX8_readsFair 10 = .ok (.iconst 0, 1) := by decide +kernel
theorem dX8_readsFair_11 : decode cX8_readsFair 11 = .ok (.istore_n 1, 1) := by decide +kernel
theorem dX8_readsFair_12 : decode cX8_readsFair 12 = .ok (.iload_n 1, 1) := by decide +kernel
theorem dX8_readsFair_13 : decode cX8_readsFair 13 = .ok (.bipush 16, 2) := by decide +kernel
theorem dX8_readsFair_15 : decode cX8_readsFair 15 = .ok (.if_icmp .ge 16, 3) := by decide +kernel
theorem dX8_readsFair_18 : decode cX8_readsFair 18 = .ok (.aload_n 0, 1) := by decide +kernel
theorem dX8_readsFair_19 : decode cX8_readsFair 19 = .ok (.getfield 35, 3) := by decide +kernel
theorem dX8_readsFair_22 : decode cX8_readsFair 22 = .ok (.iload_n 1, 1) := by decide +kernel
theorem dX8_readsFair_23 : decode cX8_readsFair 23 = .ok (.iconst 1, 1) := by decide +kernel
theorem dX8_readsFair_24 : decode cX8_readsFair 24 = .ok (.iastore, 1) := by decide +kernel
theorem dX8_readsFair_25 : decode cX8_readsFair 25 = .ok (.iinc 1 1, 3) := by decide +kernel
theorem dX8_readsFair_28 : decode cX8_readsFair 28 = .ok (.goto (-16), 3) := by decide +kernel
theorem dX8_readsFair_31 : decode cX8_readsFair 31 = .ok (.aload_n 0, 1) := by decide +kernel
theorem dX8_readsFair_32 : decode cX8_readsFair 32 = .ok (.invokevirtual 157, 3) := by decide +kernel
theorem dX8_readsFair_35 : decode cX8_readsFair 35 = .ok (.ifCond .ne 5, 3) := by decide +kernel
theorem dX8_readsFair_38 : decode cX8_readsFair 38 = .ok (.iconst (-1), 1) := by decide +kernel
theorem dX8_readsFair_39 : decode cX8_readsFair 39 = .ok (.ireturn, 1) := by decide +kernel
theorem dX8_readsFair_40 : decode cX8_readsFair 40 = .ok (.iconst 1, 1) := by decide +kernel
theorem dX8_readsFair_41 : decode cX8_readsFair 41 = .ok (.istore_n 1, 1) := by decide +kernel
theorem dX8_readsFair_42 : decode cX8_readsFair 42 = .ok (.aload_n 0, 1) := by decide +kernel
theorem dX8_readsFair_43 : decode cX8_readsFair 43 = .ok (.invokevirtual 125, 3) := by decide +kernel
theorem dX8_readsFair_46 : decode cX8_readsFair 46 = .ok (.aload_n 0, 1) := by decide +kernel
theorem dX8_readsFair_47 : decode cX8_readsFair 47 = .ok (.getfield 109, 3) := by decide +kernel
theorem dX8_readsFair_50 : decode cX8_readsFair 50 = .ok (.aload_n 0, 1) := by decide +kernel
theorem dX8_readsFair_51 : decode cX8_readsFair 51 = .ok (.getfield 106, 3) := by decide +kernel
theorem dX8_readsFair_54 : decode cX8_readsFair 54 = .ok (.if_icmp .ge 22, 3) := by decide +kernel
theorem dX8_readsFair_57 : decode cX8_readsFair 57 = .ok (.aload_n 0, 1) := by decide +kernel
theorem dX8_readsFair_58 : decode cX8_readsFair 58 = .ok (.invokevirtual 160, 3) := by decide +kernel
theorem dX8_readsFair_61 : decode cX8_readsFair 61 = .ok (.ifCond .ne 5, 3) := by decide +kernel
theorem dX8_readsFair_64 : decode cX8_readsFair 64 = .ok (.iconst (-1), 1) := by decide +kernel
theorem dX8_readsFair_65 : decode cX8_readsFair 65 = .ok (.ireturn, 1) := by decide +kernel
theorem dX8_readsFair_66 : decode cX8_readsFair 66 = .ok (.iinc 1 1, 3) := by decide +kernel
theorem dX8_readsFair_69 : decode cX8_readsFair 69 = .ok (.aload_n 0, 1) := by decide +kernel
theorem dX8_readsFair_70 : decode cX8_readsFair 70 = .ok (.invokevirtual 125, 3) := by decide +kernel
theorem dX8_readsFair_73 : decode cX8_readsFair 73 = .ok (.goto (-27), 3) := by decide +kernel
theorem dX8_readsFair_76 : decode cX8_readsFair 76 = .ok (.iload_n 1, 1) := by decide +kernel
theorem dX8_readsFair_77 : decode cX8_readsFair 77 = .ok (.ireturn, 1) := by decide +kernel
theorem dX8_read_0 : decode cX8_read 0 = .ok (.aload_n 0, 1) := by decide +kernel
theorem dX8_read_1 : decode cX8_read 1 = .ok (.invokevirtual 163, 3) := by decide +kernel
theorem dX8_read_4 : decode cX8_read 4 = .ok (.istore_n 1, 1) := by decide +kernel
theorem dX8_read_5 : decode cX8_read 5 = .ok (.iload_n 1, 1) := by decide +kernel
theorem dX8_read_6 : decode cX8_read 6 = .ok (.ifCond .ge 11, 3) := by decide +kernel
theorem dX8_read_9 : decode cX8_read 9 = .ok (.bipush (-10), 2) := by decide +kernel
theorem dX8_read_11 : decode cX8_read 11 = .ok (.aload_n 0, 1) := by decide +kernel
theorem dX8_read_12 : decode cX8_read 12 = .ok (.getfield 109, 3) := by decide +kernel
theorem dX8_read_15 : decode cX8_read 15 = .ok (.isub, 1) := by decide +kernel
theorem dX8_read_16 : decode cX8_read 16 = .ok (.ireturn, 1) := by decide +kernel
theorem dX8_read_17 : decode cX8_read 17 = .ok (.aload_n 0, 1) := by decide +kernel
theorem dX8_read_18 : decode cX8_read 18 = .ok (.aload_n 0, 1) := by decide +kernel
theorem dX8_read_19 : decode cX8_read 19 = .ok (.getfield 134, 3) := by decide +kernel
theorem dX8_read_22 : decode cX8_read 22 = .ok (.invokevirtual 71, 3) := by decide +kernel
theorem dX8_read_25 : decode cX8_read 25 = .ok (.iconst 0, 1) := by decide +kernel
theorem dX8_read_26 : decode cX8_read 26 = .ok (.istore_n 2, 1) := by decide +kernel
theorem dX8_read_27 : decode cX8_read 27 = .ok (.iload_n 2, 1) := by decide +kernel
theorem dX8_read_28 : decode cX8_read 28 = .ok (.bipush 16, 2) := by decide +kernel
theorem dX8_read_30 : decode cX8_read 30 = .ok (.if_icmp .ge 21, 3) := by decide +kernel
theorem dX8_read_33 : decode cX8_read 33 = .ok (.aload_n 0, 1) := by decide +kernel
theorem dX8_read_34 : decode cX8_read 34 = .ok (.getfield 17, 3) := by decide +kernel
theorem dX8_read_37 : decode cX8_read 37 = .ok (.iload_n 2, 1) := by decide +kernel
theorem dX8_read_38 : decode cX8_read 38 = .ok (.aload_n 0, 1) := by decide +kernel
theorem dX8_read_39 : decode cX8_read 39 = .ok (.getfield 35, 3) := by decide +kernel
theorem dX8_read_42 : decode cX8_read 42 = .ok (.iload_n 2, 1) := by decide +kernel
theorem dX8_read_43 : decode cX8_read 43 = .ok (.iaload, 1) := by decide +kernel
theorem dX8_read_44 : decode cX8_read 44 = .ok (.iastore, 1) := by decide +kernel
theorem dX8_read_45 : decode cX8_read 45 = .ok (.iinc 2 1, 3) := by decide +kernel
theorem dX8_read_48 : decode cX8_read 48 = .ok (.goto (-21), 3) := by decide +kernel
theorem dX8_read_51 : decode cX8_read 51 = .ok (.iconst 0, 1) := by decide +kernel
theorem dX8_read_52 : decode cX8_read 52 = .ok (.istore_n 2, 1) := by decide +kernel
theorem dX8_read_53 : decode cX8_read 53 = .ok (.iload_n 2, 1) := by decide +kernel
theorem dX8_read_54 : decode cX8_read 54 = .ok (.aload_n 0, 1) := by decide +kernel
theorem dX8_read_55 : decode cX8_read 55 = .ok (.getfield 145, 3) := by decide +kernel
theorem dX8_read_58 : decode cX8_read 58 = .ok (.if_icmp .ge 42, 3) := by decide +kernel
theorem dX8_read_61 : decode cX8_read 61 = .ok (.aload_n 0, 1) := by decide +kernel
theorem dX8_read_62 : decode cX8_read 62 = .ok (.aload_n 0, 1) := by decide +kernel
theorem dX8_read_63 : decode cX8_read 63 = .ok (.getfield 38, 3) := by decide +kernel
theorem dX8_read_66 : decode cX8_read 66 = .ok (.iconst 3, 1) := by decide +kernel
theorem dX8_read_67 : decode cX8_read 67 = .ok (.iload_n 2, 1) := by decide +kernel
theorem dX8_read_68 : decode cX8_read 68 = .ok (.imul, 1) := by decide +kernel
theorem dX8_read_69 : decode cX8_read 69 = .ok (.iaload, 1) := by decide +kernel
theorem dX8_read_70 : decode cX8_read 70 = .ok (.aload_n 0, 1) := by decide +kernel
theorem dX8_read_71 : decode cX8_read 71 = .ok (.getfield 38, 3) := by decide +kernel
theorem dX8_read_74 : decode cX8_read 74 = .ok (.iconst 3, 1) := by decide +kernel
theorem dX8_read_75 : decode cX8_read 75 = .ok (.iload_n 2, 1) := by decide +kernel
theorem dX8_read_76 : decode cX8_read 76 = .ok (.imul, 1) := by decide +kernel
theorem dX8_read_77 : decode cX8_read 77 = .ok (.iconst 1, 1) := by decide +kernel
theorem dX8_read_78 : decode cX8_read 78 = .ok (.iadd, 1) := by decide +kernel
theorem dX8_read_79 : decode cX8_read 79 = .ok (.iaload, 1) := by decide +kernel
theorem dX8_read_80 : decode cX8_read 80 = .ok (.aload_n 0, 1) := by decide +kernel
theorem dX8_read_81 : decode cX8_read 81 = .ok (.getfield 38, 3) := by decide +kernel
theorem dX8_read_84 : decode cX8_read 84 = .ok (.iconst 3, 1) := by decide +kernel
theorem dX8_read_85 : decode cX8_read 85 = .ok (.iload_n 2, 1) := by decide +kernel
theorem dX8_read_86 : decode cX8_read 86 = .ok (.imul, 1) := by decide +kernel
theorem dX8_read_87 : decode cX8_read 87 = .ok (.iconst 2, 1) := by decide +kernel
theorem dX8_read_88 : decode cX8_read 88 = .ok (.iadd, 1) := by decide +kernel
theorem dX8_read_89 : decode cX8_read 89 = .ok (.iaload, 1) := by decide +kernel
theorem dX8_read_90 : decode cX8_read 90 = .ok (.invokevirtual 99, 3) := by decide +kernel
theorem dX8_read_93 : decode cX8_read 93 = .ok (.pop, 1) := by decide +kernel
theorem dX8_read_94 : decode cX8_read 94 = .ok (.iinc 2 1, 3) := by decide +kernel
theorem dX8_read_97 : decode cX8_read 97 = .ok (.goto (-44), 3) := by decide +kernel
theorem dX8_read_100 : decode cX8_read 100 = .ok (.iload_n 1, 1) := by decide +kernel
theorem dX8_read_101 : decode cX8_read 101 = .ok (.ireturn, 1) := by decide +kernel
theorem dX8_answerBy_0 : decode cX8_answerBy 0 = .ok (.iload_n 2, 1) := by decide +kernel
theorem dX8_answerBy_1 : decode cX8_answerBy 1 = .ok (.iload_n 1, 1) := by decide +kernel
theorem dX8_answerBy_2 : decode cX8_answerBy 2 = .ok (.if_icmp .lt 7, 3) := by decide +kernel
theorem dX8_answerBy_5 : decode cX8_answerBy 5 = .ok (.iconst 1, 1) := by decide +kernel
theorem dX8_answerBy_6 : decode cX8_answerBy 6 = .ok (.goto 4, 3) := by decide +kernel
theorem dX8_answerBy_9 : decode cX8_answerBy 9 = .ok (.iconst 0, 1) := by decide +kernel
theorem dX8_answerBy_10 : decode cX8_answerBy 10 = .ok (.istore_n 3, 1) := by decide +kernel
theorem dX8_answerBy_11 : decode cX8_answerBy 11 = .ok (.iload_n 2, 1) := by decide +kernel
theorem dX8_answerBy_12 : decode cX8_answerBy 12 = .ok (.iload_n 1, 1) := by decide +kernel
theorem dX8_answerBy_13 : decode cX8_answerBy 13 = .ok (.iconst 4, 1) := by decide +kernel
theorem dX8_answerBy_14 : decode cX8_answerBy 14 = .ok (.irem, 1) := by decide +kernel
theorem dX8_answerBy_15 : decode cX8_answerBy 15 = .ok (.iconst 2, 1) := by decide +kernel
theorem dX8_answerBy_16 : decode cX8_answerBy 16 = .ok (.iadd, 1) := by decide +kernel
theorem dX8_answerBy_17 : decode cX8_answerBy 17 = .ok (.irem, 1) := by decide +kernel
theorem dX8_answerBy_18 : decode cX8_answerBy 18 = .ok (.istore 4, 2) := by decide +kernel
theorem dX8_answerBy_20 : decode cX8_answerBy 20 = .ok (.iload_n 0, 1) := by decide +kernel
theorem dX8_answerBy_21 : decode cX8_answerBy 21 = .ok (.tableswitch 56 0 4 #[35, 37, 41, 44, 49], 35) := by decide +kernel
theorem dX8_answerBy_56 : decode cX8_answerBy 56 = .ok (.iload_n 3, 1) := by decide +kernel
theorem dX8_answerBy_57 : decode cX8_answerBy 57 = .ok (.ireturn, 1) := by decide +kernel
theorem dX8_answerBy_58 : decode cX8_answerBy 58 = .ok (.iconst 1, 1) := by decide +kernel
theorem dX8_answerBy_59 : decode cX8_answerBy 59 = .ok (.iload_n 3, 1) := by decide +kernel
theorem dX8_answerBy_60 : decode cX8_answerBy 60 = .ok (.isub, 1) := by decide +kernel
theorem dX8_answerBy_61 : decode cX8_answerBy 61 = .ok (.ireturn, 1) := by decide +kernel
theorem dX8_answerBy_62 : decode cX8_answerBy 62 = .ok (.iload 4, 2) := by decide +kernel
theorem dX8_answerBy_64 : decode cX8_answerBy 64 = .ok (.ireturn, 1) := by decide +kernel
theorem dX8_answerBy_65 : decode cX8_answerBy 65 = .ok (.iload 4, 2) := by decide +kernel
theorem dX8_answerBy_67 : decode cX8_answerBy 67 = .ok (.iconst 2, 1) := by decide +kernel
theorem dX8_answerBy_68 : decode cX8_answerBy 68 = .ok (.idiv, 1) := by decide +kernel
theorem dX8_answerBy_69 : decode cX8_answerBy 69 = .ok (.ireturn, 1) := by decide +kernel
theorem dX8_answerBy_70 : decode cX8_answerBy 70 = .ok (.iload 4, 2) := by decide +kernel
theorem dX8_answerBy_72 : decode cX8_answerBy 72 = .ok (.iconst 5, 1) := by decide +kernel
theorem dX8_answerBy_73 : decode cX8_answerBy 73 = .ok (.iload_n 3, 1) := by decide +kernel
theorem dX8_answerBy_74 : decode cX8_answerBy 74 = .ok (.imul, 1) := by decide +kernel
theorem dX8_answerBy_75 : decode cX8_answerBy 75 = .ok (.iadd, 1) := by decide +kernel
theorem dX8_answerBy_76 : decode cX8_answerBy 76 = .ok (.ireturn, 1) := by decide +kernel
theorem dX8_answerBy_77 : decode cX8_answerBy 77 = .ok (.iload_n 2, 1) := by decide +kernel
theorem dX8_answerBy_78 : decode cX8_answerBy 78 = .ok (.iload_n 1, 1) := by decide +kernel
theorem dX8_answerBy_79 : decode cX8_answerBy 79 = .ok (.if_icmp .ne 7, 3) := by decide +kernel
theorem dX8_answerBy_82 : decode cX8_answerBy 82 = .ok (.iconst 2, 1) := by decide +kernel
theorem dX8_answerBy_83 : decode cX8_answerBy 83 = .ok (.goto 6, 3) := by decide +kernel
theorem dX8_answerBy_86 : decode cX8_answerBy 86 = .ok (.iconst 1, 1) := by decide +kernel
theorem dX8_answerBy_87 : decode cX8_answerBy 87 = .ok (.iload_n 3, 1) := by decide +kernel
theorem dX8_answerBy_88 : decode cX8_answerBy 88 = .ok (.isub, 1) := by decide +kernel
theorem dX8_answerBy_89 : decode cX8_answerBy 89 = .ok (.ireturn, 1) := by decide +kernel
theorem dX8_answerOf_0 : decode cX8_answerOf 0 = .ok (.aload_n 0, 1) := by decide +kernel
theorem dX8_answerOf_1 : decode cX8_answerOf 1 = .ok (.getfield 20, 3) := by decide +kernel
theorem dX8_answerOf_4 : decode cX8_answerOf 4 = .ok (.iload_n 1, 1) := by decide +kernel
theorem dX8_answerOf_5 : decode cX8_answerOf 5 = .ok (.iaload, 1) := by decide +kernel
theorem dX8_answerOf_6 : decode cX8_answerOf 6 = .ok (.aload_n 0, 1) := by decide +kernel
theorem dX8_answerOf_7 : decode cX8_answerOf 7 = .ok (.getfield 23, 3) := by decide +kernel
theorem dX8_answerOf_10 : decode cX8_answerOf 10 = .ok (.iload_n 1, 1) := by decide +kernel
theorem dX8_answerOf_11 : decode cX8_answerOf 11 = .ok (.iaload, 1) := by decide +kernel
theorem dX8_answerOf_12 : decode cX8_answerOf 12 = .ok (.iload_n 2, 1) := by decide +kernel
theorem dX8_answerOf_13 : decode cX8_answerOf 13 = .ok (.invokestatic 166, 3) := by decide +kernel
theorem dX8_answerOf_16 : decode cX8_answerOf 16 = .ok (.ireturn, 1) := by decide +kernel
theorem dX8_casesBy_0 : decode cX8_casesBy 0 = .ok (.iconst 0, 1) := by decide +kernel
theorem dX8_casesBy_1 : decode cX8_casesBy 1 = .ok (.istore_n 3, 1) := by decide +kernel
theorem dX8_casesBy_2 : decode cX8_casesBy 2 = .ok (.iconst 0, 1) := by decide +kernel
theorem dX8_casesBy_3 : decode cX8_casesBy 3 = .ok (.istore 4, 2) := by decide +kernel
theorem dX8_casesBy_5 : decode cX8_casesBy 5 = .ok (.iload 4, 2) := by decide +kernel
theorem dX8_casesBy_7 : decode cX8_casesBy 7 = .ok (.aload_n 0, 1) := by decide +kernel
theorem dX8_casesBy_8 : decode cX8_casesBy 8 = .ok (.getfield 13, 3) := by decide +kernel
theorem dX8_casesBy_11 : decode cX8_casesBy 11 = .ok (.if_icmp .ge 31, 3) := by decide +kernel
theorem dX8_casesBy_14 : decode cX8_casesBy 14 = .ok (.iload_n 3, 1) := by decide +kernel
theorem dX8_casesBy_15 : decode cX8_casesBy 15 = .ok (.aload_n 0, 1) := by decide +kernel
theorem dX8_casesBy_16 : decode cX8_casesBy 16 = .ok (.iload_n 1, 1) := by decide +kernel
theorem dX8_casesBy_17 : decode cX8_casesBy 17 = .ok (.iload 4, 2) := by decide +kernel
theorem dX8_casesBy_19 : decode cX8_casesBy 19 = .ok (.invokevirtual 169, 3) := by decide +kernel
theorem dX8_casesBy_22 : decode cX8_casesBy 22 = .ok (.iload_n 2, 1) := by decide +kernel
theorem dX8_casesBy_23 : decode cX8_casesBy 23 = .ok (.if_icmp .ne 10, 3) := by decide +kernel
theorem dX8_casesBy_26 : decode cX8_casesBy 26 = .ok (.iconst 1, 1) := by decide +kernel
theorem dX8_casesBy_27 : decode cX8_casesBy 27 = .ok (.iload 4, 2) := by decide +kernel
theorem dX8_casesBy_29 : decode cX8_casesBy 29 = .ok (.ishl, 1) := by decide +kernel
theorem dX8_casesBy_30 : decode cX8_casesBy 30 = .ok (.goto 4, 3) := by decide +kernel
theorem dX8_casesBy_33 : decode cX8_casesBy 33 = .ok (.iconst 0, 1) := by decide +kernel
theorem dX8_casesBy_34 : decode cX8_casesBy 34 = .ok (.ior, 1) := by decide +kernel
theorem dX8_casesBy_35 : decode cX8_casesBy 35 = .ok (.istore_n 3, 1) := by decide +kernel
theorem dX8_casesBy_36 : decode cX8_casesBy 36 = .ok (.iinc 4 1, 3) := by decide +kernel
theorem dX8_casesBy_39 : decode cX8_casesBy 39 = .ok (.goto (-34), 3) := by decide +kernel
theorem dX8_casesBy_42 : decode cX8_casesBy 42 = .ok (.iload_n 3, 1) := by decide +kernel
theorem dX8_casesBy_43 : decode cX8_casesBy 43 = .ok (.ireturn, 1) := by decide +kernel
theorem dX8_leftOver_0 : decode cX8_leftOver 0 = .ok (.aload_n 0, 1) := by decide +kernel
theorem dX8_leftOver_1 : decode cX8_leftOver 1 = .ok (.invokevirtual 173, 3) := by decide +kernel
theorem dX8_leftOver_4 : decode cX8_leftOver 4 = .ok (.istore_n 1, 1) := by decide +kernel
theorem dX8_leftOver_5 : decode cX8_leftOver 5 = .ok (.iconst 0, 1) := by decide +kernel
theorem dX8_leftOver_6 : decode cX8_leftOver 6 = .ok (.istore_n 2, 1) := by decide +kernel
theorem dX8_leftOver_7 : decode cX8_leftOver 7 = .ok (.iload_n 2, 1) := by decide +kernel
theorem dX8_leftOver_8 : decode cX8_leftOver 8 = .ok (.aload_n 0, 1) := by decide +kernel
theorem dX8_leftOver_9 : decode cX8_leftOver 9 = .ok (.getfield 78, 3) := by decide +kernel
theorem dX8_leftOver_12 : decode cX8_leftOver 12 = .ok (.if_icmp .ge 34, 3) := by decide +kernel
theorem dX8_leftOver_15 : decode cX8_leftOver 15 = .ok (.iload_n 1, 1) := by decide +kernel
theorem dX8_leftOver_16 : decode cX8_leftOver 16 = .ok (.aload_n 0, 1) := by decide +kernel
theorem dX8_leftOver_17 : decode cX8_leftOver 17 = .ok (.aload_n 0, 1) := by decide +kernel
theorem dX8_leftOver_18 : decode cX8_leftOver 18 = .ok (.getfield 29, 3) := by decide +kernel
theorem dX8_leftOver_21 : decode cX8_leftOver 21 = .ok (.iconst 2, 1) := by decide +kernel
theorem dX8_leftOver_22 : decode cX8_leftOver 22 = .ok (.iload_n 2, 1) := by decide +kernel
theorem dX8_leftOver_23 : decode cX8_leftOver 23 = .ok (.imul, 1) := by decide +kernel
theorem dX8_leftOver_24 : decode cX8_leftOver 24 = .ok (.iaload, 1) := by decide +kernel
theorem dX8_leftOver_25 : decode cX8_leftOver 25 = .ok (.aload_n 0, 1) := by decide +kernel
theorem dX8_leftOver_26 : decode cX8_leftOver 26 = .ok (.getfield 29, 3) := by decide +kernel
theorem dX8_leftOver_29 : decode cX8_leftOver 29 = .ok (.iconst 2, 1) := by decide +kernel
theorem dX8_leftOver_30 : decode cX8_leftOver 30 = .ok (.iload_n 2, 1) := by decide +kernel
theorem dX8_leftOver_31 : decode cX8_leftOver 31 = .ok (.imul, 1) := by decide +kernel
theorem dX8_leftOver_32 : decode cX8_leftOver 32 = .ok (.iconst 1, 1) := by decide +kernel
theorem dX8_leftOver_33 : decode cX8_leftOver 33 = .ok (.iadd, 1) := by decide +kernel
theorem dX8_leftOver_34 : decode cX8_leftOver 34 = .ok (.iaload, 1) := by decide +kernel
theorem dX8_leftOver_35 : decode cX8_leftOver 35 = .ok (.invokevirtual 176, 3) := by decide +kernel
theorem dX8_leftOver_38 : decode cX8_leftOver 38 = .ok (.iand, 1) := by decide +kernel
theorem dX8_leftOver_39 : decode cX8_leftOver 39 = .ok (.istore_n 1, 1) := by decide +kernel
theorem dX8_leftOver_40 : decode cX8_leftOver 40 = .ok (.iinc 2 1, 3) := by decide +kernel
theorem dX8_leftOver_43 : decode cX8_leftOver 43 = .ok (.goto (-36), 3) := by decide +kernel
theorem dX8_leftOver_46 : decode cX8_leftOver 46 = .ok (.iload_n 1, 1) := by decide +kernel
theorem dX8_leftOver_47 : decode cX8_leftOver 47 = .ok (.ireturn, 1) := by decide +kernel
theorem dX8_notes_0 : decode cX8_notes 0 = .ok (.aload_n 0, 1) := by decide +kernel
theorem dX8_notes_1 : decode cX8_notes 1 = .ok (.getfield 81, 3) := by decide +kernel
theorem dX8_notes_4 : decode cX8_notes 4 = .ok (.bipush 8, 2) := by decide +kernel
theorem dX8_notes_6 : decode cX8_notes 6 = .ok (.if_icmp .ne 42, 3) := by decide +kernel
theorem dX8_notes_9 : decode cX8_notes 9 = .ok (.iconst 0, 1) := by decide +kernel
theorem dX8_notes_10 : decode cX8_notes 10 = .ok (.istore_n 1, 1) := by decide +kernel
theorem dX8_notes_11 : decode cX8_notes 11 = .ok (.iload_n 1, 1) := by decide +kernel
theorem dX8_notes_12 : decode cX8_notes 12 = .ok (.bipush 119, 2) := by decide +kernel
theorem dX8_notes_14 : decode cX8_notes 14 = .ok (.if_icmp .ge 24, 3) := by decide +kernel
theorem dX8_notes_17 : decode cX8_notes 17 = .ok (.aload_n 0, 1) := by decide +kernel
theorem dX8_notes_18 : decode cX8_notes 18 = .ok (.getfield 41, 3) := by decide +kernel
theorem dX8_notes_21 : decode cX8_notes 21 = .ok (.iload_n 1, 1) := by decide +kernel
theorem dX8_notes_22 : decode cX8_notes 22 = .ok (.aload_n 0, 1) := by decide +kernel
theorem dX8_notes_23 : decode cX8_notes 23 = .ok (.getfield 41, 3) := by decide +kernel
theorem dX8_notes_26 : decode cX8_notes 26 = .ok (.iload_n 1, 1) := by decide +kernel
theorem dX8_notes_27 : decode cX8_notes 27 = .ok (.bipush 17, 2) := by decide +kernel
theorem dX8_notes_29 : decode cX8_notes 29 = .ok (.iadd, 1) := by decide +kernel
theorem dX8_notes_30 : decode cX8_notes 30 = .ok (.iaload, 1) := by decide +kernel
theorem dX8_notes_31 : decode cX8_notes 31 = .ok (.iastore, 1) := by decide +kernel
theorem dX8_notes_32 : decode cX8_notes 32 = .ok (.iinc 1 1, 3) := by decide +kernel
theorem dX8_notes_35 : decode cX8_notes 35 = .ok (.goto (-24), 3) := by decide +kernel
theorem dX8_notes_38 : decode cX8_notes 38 = .ok (.aload_n 0, 1) := by decide +kernel
theorem dX8_notes_39 : decode cX8_notes 39 = .ok (.dup, 1) := by decide +kernel
theorem dX8_notes_40 : decode cX8_notes 40 = .ok (.getfield 81, 3) := by decide +kernel
theorem dX8_notes_43 : decode cX8_notes 43 = .ok (.iconst 1, 1) := by decide +kernel
theorem dX8_notes_44 : decode cX8_notes 44 = .ok (.isub, 1) := by decide +kernel
theorem dX8_notes_45 : decode cX8_notes 45 = .ok (.putfield 81, 3) := by decide +kernel
theorem dX8_notes_48 : decode cX8_notes 48 = .ok (.bipush 17, 2) := by decide +kernel
theorem dX8_notes_50 : decode cX8_notes 50 = .ok (.aload_n 0, 1) := by decide +kernel
theorem dX8_notes_51 : decode cX8_notes 51 = .ok (.getfield 81, 3) := by decide +kernel
theorem dX8_notes_54 : decode cX8_notes 54 = .ok (.imul, 1) := by decide +kernel
theorem dX8_notes_55 : decode cX8_notes 55 = .ok (.istore_n 1, 1) := by decide +kernel
theorem dX8_notes_56 : decode cX8_notes 56 = .ok (.aload_n 0, 1) := by decide +kernel
theorem dX8_notes_57 : decode cX8_notes 57 = .ok (.getfield 41, 3) := by decide +kernel
theorem dX8_notes_60 : decode cX8_notes 60 = .ok (.iload_n 1, 1) := by decide +kernel
theorem dX8_notes_61 : decode cX8_notes 61 = .ok (.aload_n 0, 1) := by decide +kernel
theorem dX8_notes_62 : decode cX8_notes 62 = .ok (.getfield 78, 3) := by decide +kernel
theorem dX8_notes_65 : decode cX8_notes 65 = .ok (.iastore, 1) := by decide +kernel
theorem dX8_notes_66 : decode cX8_notes 66 = .ok (.iconst 0, 1) := by decide +kernel
theorem dX8_notes_67 : decode cX8_notes 67 = .ok (.istore_n 2, 1) := by decide +kernel
theorem dX8_notes_68 : decode cX8_notes 68 = .ok (.iload_n 2, 1) := by decide +kernel
theorem dX8_notes_69 : decode cX8_notes 69 = .ok (.bipush 16, 2) := by decide +kernel
theorem dX8_notes_71 : decode cX8_notes 71 = .ok (.if_icmp .ge 25, 3) := by decide +kernel
theorem dX8_notes_74 : decode cX8_notes 74 = .ok (.aload_n 0, 1) := by decide +kernel
theorem dX8_notes_75 : decode cX8_notes 75 = .ok (.getfield 41, 3) := by decide +kernel
theorem dX8_notes_78 : decode cX8_notes 78 = .ok (.iload_n 1, 1) := by decide +kernel
theorem dX8_notes_79 : decode cX8_notes 79 = .ok (.iconst 1, 1) := by decide +kernel
theorem dX8_notes_80 : decode cX8_notes 80 = .ok (.iadd, 1) := by decide +kernel
theorem dX8_notes_81 : decode cX8_notes 81 = .ok (.iload_n 2, 1) := by decide +kernel
theorem dX8_notes_82 : decode cX8_notes 82 = .ok (.iadd, 1) := by decide +kernel
theorem dX8_notes_83 : decode cX8_notes 83 = .ok (.aload_n 0, 1) := by decide +kernel
theorem dX8_notes_84 : decode cX8_notes 84 = .ok (.getfield 29, 3) := by decide +kernel
theorem dX8_notes_87 : decode cX8_notes 87 = .ok (.iload_n 2, 1) := by decide +kernel
theorem dX8_notes_88 : decode cX8_notes 88 = .ok (.iaload, 1) := by decide +kernel
theorem dX8_notes_89 : decode cX8_notes 89 = .ok (.iastore, 1) := by decide +kernel
theorem dX8_notes_90 : decode cX8_notes 90 = .ok (.iinc 2 1, 3) := by decide +kernel
theorem dX8_notes_93 : decode cX8_notes 93 = .ok (.goto (-25), 3) := by decide +kernel
theorem dX8_notes_96 : decode cX8_notes 96 = .ok (.aload_n 0, 1) := by decide +kernel
theorem dX8_notes_97 : decode cX8_notes 97 = .ok (.dup, 1) := by decide +kernel
theorem dX8_notes_98 : decode cX8_notes 98 = .ok (.getfield 81, 3) := by decide +kernel
theorem dX8_notes_101 : decode cX8_notes 101 = .ok (.iconst 1, 1) := by decide +kernel
theorem dX8_notes_102 : decode cX8_notes 102 = .ok (.iadd, 1) := by decide +kernel
theorem dX8_notes_103 : decode cX8_notes 103 = .ok (.putfield 81, 3) := by decide +kernel
theorem dX8_notes_106 : decode cX8_notes 106 = .ok (.return_, 1) := by decide +kernel
theorem dX8_ask_0 : decode cX8_ask 0 = .ok (.aload_n 0, 1) := by decide +kernel
theorem dX8_ask_1 : decode cX8_ask 1 = .ok (.iload_n 1, 1) := by decide +kernel
theorem dX8_ask_2 : decode cX8_ask 2 = .ok (.invokevirtual 103, 3) := by decide +kernel
theorem dX8_ask_5 : decode cX8_ask 5 = .ok (.ifCond .eq 13, 3) := by decide +kernel
theorem dX8_ask_8 : decode cX8_ask 8 = .ok (.iload_n 2, 1) := by decide +kernel
theorem dX8_ask_9 : decode cX8_ask 9 = .ok (.iconst 0, 1) := by decide +kernel
theorem dX8_ask_10 : decode cX8_ask 10 = .ok (.bipush 15, 2) := by decide +kernel
theorem dX8_ask_12 : decode cX8_ask 12 = .ok (.invokestatic 84, 3) := by decide +kernel
theorem dX8_ask_15 : decode cX8_ask 15 = .ok (.ifCond .ne 8, 3) := by decide +kernel
theorem dX8_ask_18 : decode cX8_ask 18 = .ok (.aload_n 0, 1) := by decide +kernel
theorem dX8_ask_19 : decode cX8_ask 19 = .ok (.invokevirtual 88, 3) := by decide +kernel
theorem dX8_ask_22 : decode cX8_ask 22 = .ok (.ireturn, 1) := by decide +kernel
theorem dX8_ask_23 : decode cX8_ask 23 = .ok (.aload_n 0, 1) := by decide +kernel
theorem dX8_ask_24 : decode cX8_ask 24 = .ok (.getfield 78, 3) := by decide +kernel
theorem dX8_ask_27 : decode cX8_ask 27 = .ok (.bipush 8, 2) := by decide +kernel
theorem dX8_ask_29 : decode cX8_ask 29 = .ok (.if_icmp .ne 8, 3) := by decide +kernel
theorem dX8_ask_32 : decode cX8_ask 32 = .ok (.aload_n 0, 1) := by decide +kernel
theorem dX8_ask_33 : decode cX8_ask 33 = .ok (.invokevirtual 96, 3) := by decide +kernel
theorem dX8_ask_36 : decode cX8_ask 36 = .ok (.ireturn, 1) := by decide +kernel
theorem dX8_ask_37 : decode cX8_ask 37 = .ok (.aload_n 0, 1) := by decide +kernel
theorem dX8_ask_38 : decode cX8_ask 38 = .ok (.invokevirtual 179, 3) := by decide +kernel
theorem dX8_ask_41 : decode cX8_ask 41 = .ok (.aload_n 0, 1) := by decide +kernel
theorem dX8_ask_42 : decode cX8_ask 42 = .ok (.getfield 29, 3) := by decide +kernel
theorem dX8_ask_45 : decode cX8_ask 45 = .ok (.iconst 2, 1) := by decide +kernel
theorem dX8_ask_46 : decode cX8_ask 46 = .ok (.aload_n 0, 1) := by decide +kernel
theorem dX8_ask_47 : decode cX8_ask 47 = .ok (.getfield 78, 3) := by decide +kernel
theorem dX8_ask_50 : decode cX8_ask 50 = .ok (.imul, 1) := by decide +kernel
theorem dX8_ask_51 : decode cX8_ask 51 = .ok (.iload_n 1, 1) := by decide +kernel
theorem dX8_ask_52 : decode cX8_ask 52 = .ok (.iastore, 1) := by decide +kernel
theorem dX8_ask_53 : decode cX8_ask 53 = .ok (.aload_n 0, 1) := by decide +kernel
theorem dX8_ask_54 : decode cX8_ask 54 = .ok (.getfield 29, 3) := by decide +kernel
theorem dX8_ask_57 : decode cX8_ask 57 = .ok (.iconst 2, 1) := by decide +kernel
theorem dX8_ask_58 : decode cX8_ask 58 = .ok (.aload_n 0, 1) := by decide +kernel
theorem dX8_ask_59 : decode cX8_ask 59 = .ok (.getfield 78, 3) := by decide +kernel
theorem dX8_ask_62 : decode cX8_ask 62 = .ok (.imul, 1) := by decide +kernel
theorem dX8_ask_63 : decode cX8_ask 63 = .ok (.iconst 1, 1) := by decide +kernel
theorem dX8_ask_64 : decode cX8_ask 64 = .ok (.iadd, 1) := by decide +kernel
theorem dX8_ask_65 : decode cX8_ask 65 = .ok (.iload_n 2, 1) := by decide +kernel
theorem dX8_ask_66 : decode cX8_ask 66 = .ok (.iastore, 1) := by decide +kernel
theorem dX8_ask_67 : decode cX8_ask 67 = .ok (.aload_n 0, 1) := by decide +kernel
theorem dX8_ask_68 : decode cX8_ask 68 = .ok (.dup, 1) := by decide +kernel
theorem dX8_ask_69 : decode cX8_ask 69 = .ok (.getfield 78, 3) := by decide +kernel
theorem dX8_ask_72 : decode cX8_ask 72 = .ok (.iconst 1, 1) := by decide +kernel
theorem dX8_ask_73 : decode cX8_ask 73 = .ok (.iadd, 1) := by decide +kernel
theorem dX8_ask_74 : decode cX8_ask 74 = .ok (.putfield 78, 3) := by decide +kernel
theorem dX8_ask_77 : decode cX8_ask 77 = .ok (.aload_n 0, 1) := by decide +kernel
theorem dX8_ask_78 : decode cX8_ask 78 = .ok (.invokevirtual 182, 3) := by decide +kernel
theorem dX8_ask_81 : decode cX8_ask 81 = .ok (.ireturn, 1) := by decide +kernel
theorem dX8_forget_0 : decode cX8_forget 0 = .ok (.aload_n 0, 1) := by decide +kernel
theorem dX8_forget_1 : decode cX8_forget 1 = .ok (.getfield 78, 3) := by decide +kernel
theorem dX8_forget_4 : decode cX8_forget 4 = .ok (.ifCond .ne 8, 3) := by decide +kernel
theorem dX8_forget_7 : decode cX8_forget 7 = .ok (.aload_n 0, 1) := by decide +kernel
theorem dX8_forget_8 : decode cX8_forget 8 = .ok (.invokevirtual 185, 3) := by decide +kernel
theorem dX8_forget_11 : decode cX8_forget 11 = .ok (.ireturn, 1) := by decide +kernel
theorem dX8_forget_12 : decode cX8_forget 12 = .ok (.aload_n 0, 1) := by decide +kernel
theorem dX8_forget_13 : decode cX8_forget 13 = .ok (.invokevirtual 179, 3) := by decide +kernel
theorem dX8_forget_16 : decode cX8_forget 16 = .ok (.iconst 0, 1) := by decide +kernel
theorem dX8_forget_17 : decode cX8_forget 17 = .ok (.istore_n 1, 1) := by decide +kernel
theorem dX8_forget_18 : decode cX8_forget 18 = .ok (.iload_n 1, 1) := by decide +kernel
theorem dX8_forget_19 : decode cX8_forget 19 = .ok (.bipush 14, 2) := by decide +kernel
theorem dX8_forget_21 : decode cX8_forget 21 = .ok (.if_icmp .ge 23, 3) := by decide +kernel
theorem dX8_forget_24 : decode cX8_forget 24 = .ok (.aload_n 0, 1) := by decide +kernel
theorem dX8_forget_25 : decode cX8_forget 25 = .ok (.getfield 29, 3) := by decide +kernel
theorem dX8_forget_28 : decode cX8_forget 28 = .ok (.iload_n 1, 1) := by decide +kernel
theorem dX8_forget_29 : decode cX8_forget 29 = .ok (.aload_n 0, 1) := by decide +kernel
theorem dX8_forget_30 : decode cX8_forget 30 = .ok (.getfield 29, 3) := by decide +kernel
theorem dX8_forget_33 : decode cX8_forget 33 = .ok (.iload_n 1, 1) := by decide +kernel
theorem dX8_forget_34 : decode cX8_forget 34 = .ok (.iconst 2, 1) := by decide +kernel
theorem dX8_forget_35 : decode cX8_forget 35 = .ok (.iadd, 1) := by decide +kernel
theorem dX8_forget_36 : decode cX8_forget 36 = .ok (.iaload, 1) := by decide +kernel
theorem dX8_forget_37 : decode cX8_forget 37 = .ok (.iastore, 1) := by decide +kernel
theorem dX8_forget_38 : decode cX8_forget 38 = .ok (.iinc 1 1, 3) := by decide +kernel
theorem dX8_forget_41 : decode cX8_forget 41 = .ok (.goto (-23), 3) := by decide +kernel
theorem dX8_forget_44 : decode cX8_forget 44 = .ok (.aload_n 0, 1) := by decide +kernel
theorem dX8_forget_45 : decode cX8_forget 45 = .ok (.dup, 1) := by decide +kernel
theorem dX8_forget_46 : decode cX8_forget 46 = .ok (.getfield 78, 3) := by decide +kernel
theorem dX8_forget_49 : decode cX8_forget 49 = .ok (.iconst 1, 1) := by decide +kernel
theorem dX8_forget_50 : decode cX8_forget 50 = .ok (.isub, 1) := by decide +kernel
theorem dX8_forget_51 : decode cX8_forget 51 = .ok (.putfield 78, 3) := by decide +kernel
theorem dX8_forget_54 : decode cX8_forget 54 = .ok (.aload_n 0, 1) := by decide +kernel
theorem dX8_forget_55 : decode cX8_forget 55 = .ok (.getfield 78, 3) := by decide +kernel
theorem dX8_forget_58 : decode cX8_forget 58 = .ok (.ireturn, 1) := by decide +kernel
theorem dX8_undo_0 : decode cX8_undo 0 = .ok (.aload_n 0, 1) := by decide +kernel
theorem dX8_undo_1 : decode cX8_undo 1 = .ok (.getfield 81, 3) := by decide +kernel
theorem dX8_undo_4 : decode cX8_undo 4 = .ok (.ifCond .ne 8, 3) := by decide +kernel
theorem dX8_undo_7 : decode cX8_undo 7 = .ok (.aload_n 0, 1) := by decide +kernel
theorem dX8_undo_8 : decode cX8_undo 8 = .ok (.invokevirtual 185, 3) := by decide +kernel
theorem dX8_undo_11 : decode cX8_undo 11 = .ok (.ireturn, 1) := by decide +kernel
theorem dX8_undo_12 : decode cX8_undo 12 = .ok (.aload_n 0, 1) := by decide +kernel
theorem dX8_undo_13 : decode cX8_undo 13 = .ok (.dup, 1) := by decide +kernel
theorem dX8_undo_14 : decode cX8_undo 14 = .ok (.getfield 81, 3) := by decide +kernel
theorem dX8_undo_17 : decode cX8_undo 17 = .ok (.iconst 1, 1) := by decide +kernel
theorem dX8_undo_18 : decode cX8_undo 18 = .ok (.isub, 1) := by decide +kernel
theorem dX8_undo_19 : decode cX8_undo 19 = .ok (.putfield 81, 3) := by decide +kernel
theorem dX8_undo_22 : decode cX8_undo 22 = .ok (.bipush 17, 2) := by decide +kernel
theorem dX8_undo_24 : decode cX8_undo 24 = .ok (.aload_n 0, 1) := by decide +kernel
theorem dX8_undo_25 : decode cX8_undo 25 = .ok (.getfield 81, 3) := by decide +kernel
theorem dX8_undo_28 : decode cX8_undo 28 = .ok (.imul, 1) := by decide +kernel
theorem dX8_undo_29 : decode cX8_undo 29 = .ok (.istore_n 1, 1) := by decide +kernel
theorem dX8_undo_30 : decode cX8_undo 30 = .ok (.aload_n 0, 1) := by decide +kernel
theorem dX8_undo_31 : decode cX8_undo 31 = .ok (.aload_n 0, 1) := by decide +kernel
theorem dX8_undo_32 : decode cX8_undo 32 = .ok (.getfield 41, 3) := by decide +kernel
theorem dX8_undo_35 : decode cX8_undo 35 = .ok (.iload_n 1, 1) := by decide +kernel
theorem dX8_undo_36 : decode cX8_undo 36 = .ok (.iaload, 1) := by decide +kernel
theorem dX8_undo_37 : decode cX8_undo 37 = .ok (.putfield 78, 3) := by decide +kernel
theorem dX8_undo_40 : decode cX8_undo 40 = .ok (.iconst 0, 1) := by decide +kernel
theorem dX8_undo_41 : decode cX8_undo 41 = .ok (.istore_n 2, 1) := by decide +kernel
theorem dX8_undo_42 : decode cX8_undo 42 = .ok (.iload_n 2, 1) := by decide +kernel
theorem dX8_undo_43 : decode cX8_undo 43 = .ok (.bipush 16, 2) := by decide +kernel
theorem dX8_undo_45 : decode cX8_undo 45 = .ok (.if_icmp .ge 25, 3) := by decide +kernel
theorem dX8_undo_48 : decode cX8_undo 48 = .ok (.aload_n 0, 1) := by decide +kernel
theorem dX8_undo_49 : decode cX8_undo 49 = .ok (.getfield 29, 3) := by decide +kernel
theorem dX8_undo_52 : decode cX8_undo 52 = .ok (.iload_n 2, 1) := by decide +kernel
theorem dX8_undo_53 : decode cX8_undo 53 = .ok (.aload_n 0, 1) := by decide +kernel
theorem dX8_undo_54 : decode cX8_undo 54 = .ok (.getfield 41, 3) := by decide +kernel
theorem dX8_undo_57 : decode cX8_undo 57 = .ok (.iload_n 1, 1) := by decide +kernel
theorem dX8_undo_58 : decode cX8_undo 58 = .ok (.iconst 1, 1) := by decide +kernel
theorem dX8_undo_59 : decode cX8_undo 59 = .ok (.iadd, 1) := by decide +kernel
theorem dX8_undo_60 : decode cX8_undo 60 = .ok (.iload_n 2, 1) := by decide +kernel
theorem dX8_undo_61 : decode cX8_undo 61 = .ok (.iadd, 1) := by decide +kernel
theorem dX8_undo_62 : decode cX8_undo 62 = .ok (.iaload, 1) := by decide +kernel
theorem dX8_undo_63 : decode cX8_undo 63 = .ok (.iastore, 1) := by decide +kernel
theorem dX8_undo_64 : decode cX8_undo 64 = .ok (.iinc 2 1, 3) := by decide +kernel
theorem dX8_undo_67 : decode cX8_undo 67 = .ok (.goto (-25), 3) := by decide +kernel
theorem dX8_undo_70 : decode cX8_undo 70 = .ok (.aload_n 0, 1) := by decide +kernel
theorem dX8_undo_71 : decode cX8_undo 71 = .ok (.getfield 78, 3) := by decide +kernel
theorem dX8_undo_74 : decode cX8_undo 74 = .ok (.ireturn, 1) := by decide +kernel
theorem dX8_of_0 : decode cX8_of 0 = .ok (.aload_n 0, 1) := by decide +kernel
theorem dX8_of_1 : decode cX8_of 1 = .ok (.iload_n 1, 1) := by decide +kernel
theorem dX8_of_2 : decode cX8_of 2 = .ok (.invokevirtual 103, 3) := by decide +kernel
theorem dX8_of_5 : decode cX8_of 5 = .ok (.ifCond .eq 12, 3) := by decide +kernel
theorem dX8_of_8 : decode cX8_of 8 = .ok (.iload_n 2, 1) := by decide +kernel
theorem dX8_of_9 : decode cX8_of 9 = .ok (.iconst 0, 1) := by decide +kernel
theorem dX8_of_10 : decode cX8_of 10 = .ok (.iconst 2, 1) := by decide +kernel
theorem dX8_of_11 : decode cX8_of 11 = .ok (.invokestatic 84, 3) := by decide +kernel
theorem dX8_of_14 : decode cX8_of 14 = .ok (.ifCond .ne 8, 3) := by decide +kernel
theorem dX8_of_17 : decode cX8_of 17 = .ok (.aload_n 0, 1) := by decide +kernel
theorem dX8_of_18 : decode cX8_of 18 = .ok (.invokevirtual 88, 3) := by decide +kernel
theorem dX8_of_21 : decode cX8_of 21 = .ok (.ireturn, 1) := by decide +kernel
theorem dX8_of_22 : decode cX8_of 22 = .ok (.iload_n 2, 1) := by decide +kernel
theorem dX8_of_23 : decode cX8_of 23 = .ok (.ifCond .ne 12, 3) := by decide +kernel
theorem dX8_of_26 : decode cX8_of 26 = .ok (.aload_n 0, 1) := by decide +kernel
theorem dX8_of_27 : decode cX8_of 27 = .ok (.getfield 20, 3) := by decide +kernel
theorem dX8_of_30 : decode cX8_of 30 = .ok (.iload_n 1, 1) := by decide +kernel
theorem dX8_of_31 : decode cX8_of 31 = .ok (.iaload, 1) := by decide +kernel
theorem dX8_of_32 : decode cX8_of 32 = .ok (.goto 23, 3) := by decide +kernel
theorem dX8_of_35 : decode cX8_of 35 = .ok (.iload_n 2, 1) := by decide +kernel
theorem dX8_of_36 : decode cX8_of 36 = .ok (.iconst 1, 1) := by decide +kernel
theorem dX8_of_37 : decode cX8_of 37 = .ok (.if_icmp .ne 12, 3) := by decide +kernel
theorem dX8_of_40 : decode cX8_of 40 = .ok (.aload_n 0, 1) := by decide +kernel
theorem dX8_of_41 : decode cX8_of 41 = .ok (.getfield 23, 3) := by decide +kernel
theorem dX8_of_44 : decode cX8_of 44 = .ok (.iload_n 1, 1) := by decide +kernel
theorem dX8_of_45 : decode cX8_of 45 = .ok (.iaload, 1) := by decide +kernel
theorem dX8_of_46 : decode cX8_of 46 = .ok (.goto 9, 3) := by decide +kernel
theorem dX8_of_49 : decode cX8_of 49 = .ok (.aload_n 0, 1) := by decide +kernel
theorem dX8_of_50 : decode cX8_of 50 = .ok (.getfield 26, 3) := by decide +kernel
theorem dX8_of_53 : decode cX8_of 53 = .ok (.iload_n 1, 1) := by decide +kernel
theorem dX8_of_54 : decode cX8_of 54 = .ok (.iaload, 1) := by decide +kernel
theorem dX8_of_55 : decode cX8_of 55 = .ok (.ireturn, 1) := by decide +kernel
theorem dX8_answer_0 : decode cX8_answer 0 = .ok (.aload_n 0, 1) := by decide +kernel
theorem dX8_answer_1 : decode cX8_answer 1 = .ok (.iload_n 1, 1) := by decide +kernel
theorem dX8_answer_2 : decode cX8_answer 2 = .ok (.invokevirtual 103, 3) := by decide +kernel
theorem dX8_answer_5 : decode cX8_answer 5 = .ok (.ifCond .eq 20, 3) := by decide +kernel
theorem dX8_answer_8 : decode cX8_answer 8 = .ok (.aload_n 0, 1) := by decide +kernel
theorem dX8_answer_9 : decode cX8_answer 9 = .ok (.iload_n 2, 1) := by decide +kernel
theorem dX8_answer_10 : decode cX8_answer 10 = .ok (.invokevirtual 92, 3) := by decide +kernel
theorem dX8_answer_13 : decode cX8_answer 13 = .ok (.ifCond .eq 12, 3) := by decide +kernel
theorem dX8_answer_16 : decode cX8_answer 16 = .ok (.aload_n 0, 1) := by decide +kernel
theorem dX8_answer_17 : decode cX8_answer 17 = .ok (.iload_n 1, 1) := by decide +kernel
theorem dX8_answer_18 : decode cX8_answer 18 = .ok (.iload_n 2, 1) := by decide +kernel
theorem dX8_answer_19 : decode cX8_answer 19 = .ok (.invokevirtual 169, 3) := by decide +kernel
theorem dX8_answer_22 : decode cX8_answer 22 = .ok (.goto 7, 3) := by decide +kernel
theorem dX8_answer_25 : decode cX8_answer 25 = .ok (.aload_n 0, 1) := by decide +kernel
theorem dX8_answer_26 : decode cX8_answer 26 = .ok (.invokevirtual 88, 3) := by decide +kernel
theorem dX8_answer_29 : decode cX8_answer 29 = .ok (.ireturn, 1) := by decide +kernel
theorem dX8_left_0 : decode cX8_left 0 = .ok (.aload_n 0, 1) := by decide +kernel
theorem dX8_left_1 : decode cX8_left 1 = .ok (.invokevirtual 182, 3) := by decide +kernel
theorem dX8_left_4 : decode cX8_left 4 = .ok (.ireturn, 1) := by decide +kernel
theorem dX8_weightOf_0 : decode cX8_weightOf 0 = .ok (.iconst 0, 1) := by decide +kernel
theorem dX8_weightOf_1 : decode cX8_weightOf 1 = .ok (.istore_n 2, 1) := by decide +kernel
theorem dX8_weightOf_2 : decode cX8_weightOf 2 = .ok (.iconst 0, 1) := by decide +kernel
theorem dX8_weightOf_3 : decode cX8_weightOf 3 = .ok (.istore_n 3, 1) := by decide +kernel
theorem dX8_weightOf_4 : decode cX8_weightOf 4 = .ok (.iload_n 3, 1) := by decide +kernel
theorem dX8_weightOf_5 : decode cX8_weightOf 5 = .ok (.aload_n 0, 1) := by decide +kernel
theorem dX8_weightOf_6 : decode cX8_weightOf 6 = .ok (.getfield 13, 3) := by decide +kernel
theorem dX8_weightOf_9 : decode cX8_weightOf 9 = .ok (.if_icmp .ge 30, 3) := by decide +kernel
theorem dX8_weightOf_12 : decode cX8_weightOf 12 = .ok (.iload_n 2, 1) := by decide +kernel
theorem dX8_weightOf_13 : decode cX8_weightOf 13 = .ok (.iload_n 1, 1) := by decide +kernel
theorem dX8_weightOf_14 : decode cX8_weightOf 14 = .ok (.iload_n 3, 1) := by decide +kernel
theorem dX8_weightOf_15 : decode cX8_weightOf 15 = .ok (.invokestatic 188, 3) := by decide +kernel
theorem dX8_weightOf_18 : decode cX8_weightOf 18 = .ok (.ifCond .eq 12, 3) := by decide +kernel
theorem dX8_weightOf_21 : decode cX8_weightOf 21 = .ok (.aload_n 0, 1) := by decide +kernel
theorem dX8_weightOf_22 : decode cX8_weightOf 22 = .ok (.getfield 17, 3) := by decide +kernel
theorem dX8_weightOf_25 : decode cX8_weightOf 25 = .ok (.iload_n 3, 1) := by decide +kernel
theorem dX8_weightOf_26 : decode cX8_weightOf 26 = .ok (.iaload, 1) := by decide +kernel
theorem dX8_weightOf_27 : decode cX8_weightOf 27 = .ok (.goto 4, 3) := by decide +kernel
theorem dX8_weightOf_30 : decode cX8_weightOf 30 = .ok (.iconst 0, 1) := by decide +kernel
theorem dX8_weightOf_31 : decode cX8_weightOf 31 = .ok (.iadd, 1) := by decide +kernel
theorem dX8_weightOf_32 : decode cX8_weightOf 32 = .ok (.istore_n 2, 1) := by decide +kernel
theorem dX8_weightOf_33 : decode cX8_weightOf 33 = .ok (.iinc 3 1, 3) := by decide +kernel
theorem dX8_weightOf_36 : decode cX8_weightOf 36 = .ok (.goto (-32), 3) := by decide +kernel
theorem dX8_weightOf_39 : decode cX8_weightOf 39 = .ok (.iload_n 2, 1) := by decide +kernel
theorem dX8_weightOf_40 : decode cX8_weightOf 40 = .ok (.ireturn, 1) := by decide +kernel
theorem dX8_cutOf_0 : decode cX8_cutOf 0 = .ok (.iconst 0, 1) := by decide +kernel
theorem dX8_cutOf_1 : decode cX8_cutOf 1 = .ok (.istore 4, 2) := by decide +kernel
theorem dX8_cutOf_3 : decode cX8_cutOf 3 = .ok (.iconst 0, 1) := by decide +kernel
theorem dX8_cutOf_4 : decode cX8_cutOf 4 = .ok (.istore 5, 2) := by decide +kernel
theorem dX8_cutOf_6 : decode cX8_cutOf 6 = .ok (.ldc 191, 2) := by decide +kernel
theorem dX8_cutOf_8 : decode cX8_cutOf 8 = .ok (.istore 6, 2) := by decide +kernel
theorem dX8_cutOf_10 : decode cX8_cutOf 10 = .ok (.iconst 0, 1) := by decide +kernel
theorem dX8_cutOf_11 : decode cX8_cutOf 11 = .ok (.istore 7, 2) := by decide +kernel
theorem dX8_cutOf_13 : decode cX8_cutOf 13 = .ok (.iload 7, 2) := by decide +kernel
theorem dX8_cutOf_15 : decode cX8_cutOf 15 = .ok (.bipush 16, 2) := by decide +kernel
theorem dX8_cutOf_17 : decode cX8_cutOf 17 = .ok (.if_icmp .ge 75, 3) := by decide +kernel
theorem dX8_cutOf_20 : decode cX8_cutOf 20 = .ok (.iload_n 2, 1) := by decide +kernel
theorem dX8_cutOf_21 : decode cX8_cutOf 21 = .ok (.aload_n 0, 1) := by decide +kernel
theorem dX8_cutOf_22 : decode cX8_cutOf 22 = .ok (.iload_n 1, 1) := by decide +kernel
theorem dX8_cutOf_23 : decode cX8_cutOf 23 = .ok (.iload 7, 2) := by decide +kernel
theorem dX8_cutOf_25 : decode cX8_cutOf 25 = .ok (.invokevirtual 176, 3) := by decide +kernel
theorem dX8_cutOf_28 : decode cX8_cutOf 28 = .ok (.iand, 1) := by decide +kernel
theorem dX8_cutOf_29 : decode cX8_cutOf 29 = .ok (.istore 8, 2) := by decide +kernel
theorem dX8_cutOf_31 : decode cX8_cutOf 31 = .ok (.iload 8, 2) := by decide +kernel
theorem dX8_cutOf_33 : decode cX8_cutOf 33 = .ok (.ifCond .eq 53, 3) := by decide +kernel
theorem dX8_cutOf_36 : decode cX8_cutOf 36 = .ok (.iload 8, 2) := by decide +kernel
theorem dX8_cutOf_38 : decode cX8_cutOf 38 = .ok (.invokestatic 192, 3) := by decide +kernel
theorem dX8_cutOf_41 : decode cX8_cutOf 41 = .ok (.istore 9, 2) := by decide +kernel
theorem dX8_cutOf_43 : decode cX8_cutOf 43 = .ok (.aload_n 0, 1) := by decide +kernel
theorem dX8_cutOf_44 : decode cX8_cutOf 44 = .ok (.iload 8, 2) := by decide +kernel
theorem dX8_cutOf_46 : decode cX8_cutOf 46 = .ok (.invokevirtual 195, 3) := by decide +kernel
theorem dX8_cutOf_49 : decode cX8_cutOf 49 = .ok (.istore 10, 2) := by decide +kernel
theorem dX8_cutOf_51 : decode cX8_cutOf 51 = .ok (.iload 9, 2) := by decide +kernel
theorem dX8_cutOf_53 : decode cX8_cutOf 53 = .ok (.iload 4, 2) := by decide +kernel
theorem dX8_cutOf_55 : decode cX8_cutOf 55 = .ok (.if_icmp .le 8, 3) := by decide +kernel
theorem dX8_cutOf_58 : decode cX8_cutOf 58 = .ok (.iload 9, 2) := by decide +kernel
theorem dX8_cutOf_60 : decode cX8_cutOf 60 = .ok (.goto 5, 3) := by decide +kernel
theorem dX8_cutOf_63 : decode cX8_cutOf 63 = .ok (.iload 4, 2) := by decide +kernel
theorem dX8_cutOf_65 : decode cX8_cutOf 65 = .ok (.istore 4, 2) := by decide +kernel
theorem dX8_cutOf_67 : decode cX8_cutOf 67 = .ok (.iload 10, 2) := by decide +kernel
theorem dX8_cutOf_69 : decode cX8_cutOf 69 = .ok (.iload 6, 2) := by decide +kernel
theorem dX8_cutOf_71 : decode cX8_cutOf 71 = .ok (.if_icmp .ge 8, 3) := by decide +kernel
theorem dX8_cutOf_74 : decode cX8_cutOf 74 = .ok (.iload 10, 2) := by decide +kernel
theorem dX8_cutOf_76 : decode cX8_cutOf 76 = .ok (.goto 5, 3) := by decide +kernel
theorem dX8_cutOf_79 : decode cX8_cutOf 79 = .ok (.iload 6, 2) := by decide +kernel
theorem dX8_cutOf_81 : decode cX8_cutOf 81 = .ok (.istore 6, 2) := by decide +kernel
theorem dX8_cutOf_83 : decode cX8_cutOf 83 = .ok (.iinc 5 1, 3) := by decide +kernel
theorem dX8_cutOf_86 : decode cX8_cutOf 86 = .ok (.iinc 7 1, 3) := by decide +kernel
theorem dX8_cutOf_89 : decode cX8_cutOf 89 = .ok (.goto (-76), 3) := by decide +kernel
theorem dX8_cutOf_92 : decode cX8_cutOf 92 = .ok (.iload_n 3, 1) := by decide +kernel
theorem dX8_cutOf_93 : decode cX8_cutOf 93 = .ok (.ifCond .ne 8, 3) := by decide +kernel
theorem dX8_cutOf_96 : decode cX8_cutOf 96 = .ok (.iload 4, 2) := by decide +kernel
theorem dX8_cutOf_98 : decode cX8_cutOf 98 = .ok (.goto 24, 3) := by decide +kernel
theorem dX8_cutOf_101 : decode cX8_cutOf 101 = .ok (.iload_n 3, 1) := by decide +kernel
theorem dX8_cutOf_102 : decode cX8_cutOf 102 = .ok (.iconst 1, 1) := by decide +kernel
theorem dX8_cutOf_103 : decode cX8_cutOf 103 = .ok (.if_icmp .ne 8, 3) := by decide +kernel
theorem dX8_cutOf_106 : decode cX8_cutOf 106 = .ok (.iload 5, 2) := by decide +kernel
theorem dX8_cutOf_108 : decode cX8_cutOf 108 = .ok (.goto 14, 3) := by decide +kernel
theorem dX8_cutOf_111 : decode cX8_cutOf 111 = .ok (.iload 5, 2) := by decide +kernel
theorem dX8_cutOf_113 : decode cX8_cutOf 113 = .ok (.ifCond .ne 7, 3) := by decide +kernel
theorem dX8_cutOf_116 : decode cX8_cutOf 116 = .ok (.iconst 0, 1) := by decide +kernel
theorem dX8_cutOf_117 : decode cX8_cutOf 117 = .ok (.goto 5, 3) := by decide +kernel
theorem dX8_cutOf_120 : decode cX8_cutOf 120 = .ok (.iload 6, 2) := by decide +kernel
theorem dX8_cutOf_122 : decode cX8_cutOf 122 = .ok (.ireturn, 1) := by decide +kernel
theorem dX8_cuts_0 : decode cX8_cuts 0 = .ok (.aload_n 0, 1) := by decide +kernel
theorem dX8_cuts_1 : decode cX8_cuts 1 = .ok (.iload_n 1, 1) := by decide +kernel
theorem dX8_cuts_2 : decode cX8_cuts 2 = .ok (.invokevirtual 103, 3) := by decide +kernel
theorem dX8_cuts_5 : decode cX8_cuts 5 = .ok (.ifCond .eq 25, 3) := by decide +kernel
theorem dX8_cuts_8 : decode cX8_cuts 8 = .ok (.iload_n 2, 1) := by decide +kernel
theorem dX8_cuts_9 : decode cX8_cuts 9 = .ok (.iconst 0, 1) := by decide +kernel
theorem dX8_cuts_10 : decode cX8_cuts 10 = .ok (.iconst 2, 1) := by decide +kernel
theorem dX8_cuts_11 : decode cX8_cuts 11 = .ok (.invokestatic 84, 3) := by decide +kernel
theorem dX8_cuts_14 : decode cX8_cuts 14 = .ok (.ifCond .eq 16, 3) := by decide +kernel
theorem dX8_cuts_17 : decode cX8_cuts 17 = .ok (.aload_n 0, 1) := by decide +kernel
theorem dX8_cuts_18 : decode cX8_cuts 18 = .ok (.iload_n 1, 1) := by decide +kernel
theorem dX8_cuts_19 : decode cX8_cuts 19 = .ok (.aload_n 0, 1) := by decide +kernel
theorem dX8_cuts_20 : decode cX8_cuts 20 = .ok (.invokevirtual 182, 3) := by decide +kernel
theorem dX8_cuts_23 : decode cX8_cuts 23 = .ok (.iload_n 2, 1) := by decide +kernel
theorem dX8_cuts_24 : decode cX8_cuts 24 = .ok (.invokevirtual 198, 3) := by decide +kernel
theorem dX8_cuts_27 : decode cX8_cuts 27 = .ok (.goto 7, 3) := by decide +kernel
theorem dX8_cuts_30 : decode cX8_cuts 30 = .ok (.aload_n 0, 1) := by decide +kernel
theorem dX8_cuts_31 : decode cX8_cuts 31 = .ok (.invokevirtual 88, 3) := by decide +kernel
theorem dX8_cuts_34 : decode cX8_cuts 34 = .ok (.ireturn, 1) := by decide +kernel
theorem dX8_empty_0 : decode cX8_empty 0 = .ok (.aload_n 0, 1) := by decide +kernel
theorem dX8_empty_1 : decode cX8_empty 1 = .ok (.invokevirtual 182, 3) := by decide +kernel
theorem dX8_empty_4 : decode cX8_empty 4 = .ok (.istore_n 1, 1) := by decide +kernel
theorem dX8_empty_5 : decode cX8_empty 5 = .ok (.iconst 0, 1) := by decide +kernel
theorem dX8_empty_6 : decode cX8_empty 6 = .ok (.istore_n 2, 1) := by decide +kernel
theorem dX8_empty_7 : decode cX8_empty 7 = .ok (.iconst 0, 1) := by decide +kernel
theorem dX8_empty_8 : decode cX8_empty 8 = .ok (.istore_n 3, 1) := by decide +kernel
theorem dX8_empty_9 : decode cX8_empty 9 = .ok (.iload_n 3, 1) := by decide +kernel
theorem dX8_empty_10 : decode cX8_empty 10 = .ok (.aload_n 0, 1) := by decide +kernel
theorem dX8_empty_11 : decode cX8_empty 11 = .ok (.getfield 75, 3) := by decide +kernel
theorem dX8_empty_14 : decode cX8_empty 14 = .ok (.if_icmp .ge 30, 3) := by decide +kernel
theorem dX8_empty_17 : decode cX8_empty 17 = .ok (.iload_n 2, 1) := by decide +kernel
theorem dX8_empty_18 : decode cX8_empty 18 = .ok (.aload_n 0, 1) := by decide +kernel
theorem dX8_empty_19 : decode cX8_empty 19 = .ok (.iload_n 3, 1) := by decide +kernel
theorem dX8_empty_20 : decode cX8_empty 20 = .ok (.iload_n 1, 1) := by decide +kernel
theorem dX8_empty_21 : decode cX8_empty 21 = .ok (.iconst 1, 1) := by decide +kernel
theorem dX8_empty_22 : decode cX8_empty 22 = .ok (.invokevirtual 198, 3) := by decide +kernel
theorem dX8_empty_25 : decode cX8_empty 25 = .ok (.iconst 2, 1) := by decide +kernel
theorem dX8_empty_26 : decode cX8_empty 26 = .ok (.if_icmp .ge 9, 3) := by decide +kernel
theorem dX8_empty_29 : decode cX8_empty 29 = .ok (.iconst 1, 1) := by decide +kernel
theorem dX8_empty_30 : decode cX8_empty 30 = .ok (.iload_n 3, 1) := by decide +kernel
theorem dX8_empty_31 : decode cX8_empty 31 = .ok (.ishl, 1) := by decide +kernel
theorem dX8_empty_32 : decode cX8_empty 32 = .ok (.goto 4, 3) := by decide +kernel
theorem dX8_empty_35 : decode cX8_empty 35 = .ok (.iconst 0, 1) := by decide +kernel
theorem dX8_empty_36 : decode cX8_empty 36 = .ok (.ior, 1) := by decide +kernel
theorem dX8_empty_37 : decode cX8_empty 37 = .ok (.istore_n 2, 1) := by decide +kernel
theorem dX8_empty_38 : decode cX8_empty 38 = .ok (.iinc 3 1, 3) := by decide +kernel
theorem dX8_empty_41 : decode cX8_empty 41 = .ok (.goto (-32), 3) := by decide +kernel
theorem dX8_empty_44 : decode cX8_empty 44 = .ok (.iload_n 2, 1) := by decide +kernel
theorem dX8_empty_45 : decode cX8_empty 45 = .ok (.ireturn, 1) := by decide +kernel
theorem dX8_parts_0 : decode cX8_parts 0 = .ok (.aload_n 0, 1) := by decide +kernel
theorem dX8_parts_1 : decode cX8_parts 1 = .ok (.iload_n 1, 1) := by decide +kernel
theorem dX8_parts_2 : decode cX8_parts 2 = .ok (.iload_n 2, 1) := by decide +kernel
theorem dX8_parts_3 : decode cX8_parts 3 = .ok (.invokevirtual 169, 3) := by decide +kernel
theorem dX8_parts_6 : decode cX8_parts 6 = .ok (.aload_n 0, 1) := by decide +kernel
theorem dX8_parts_7 : decode cX8_parts 7 = .ok (.iload_n 1, 1) := by decide +kernel
theorem dX8_parts_8 : decode cX8_parts 8 = .ok (.iload_n 3, 1) := by decide +kernel
theorem dX8_parts_9 : decode cX8_parts 9 = .ok (.invokevirtual 169, 3) := by decide +kernel
theorem dX8_parts_12 : decode cX8_parts 12 = .ok (.if_icmp .eq 7, 3) := by decide +kernel
theorem dX8_parts_15 : decode cX8_parts 15 = .ok (.iconst 1, 1) := by decide +kernel
theorem dX8_parts_16 : decode cX8_parts 16 = .ok (.goto 4, 3) := by decide +kernel
theorem dX8_parts_19 : decode cX8_parts 19 = .ok (.iconst 0, 1) := by decide +kernel
theorem dX8_parts_20 : decode cX8_parts 20 = .ok (.ireturn, 1) := by decide +kernel
theorem dX8_areSame_0 : decode cX8_areSame 0 = .ok (.iconst 1, 1) := by decide +kernel
theorem dX8_areSame_1 : decode cX8_areSame 1 = .ok (.istore 4, 2) := by decide +kernel
theorem dX8_areSame_3 : decode cX8_areSame 3 = .ok (.iconst 0, 1) := by decide +kernel
theorem dX8_areSame_4 : decode cX8_areSame 4 = .ok (.istore 5, 2) := by decide +kernel
theorem dX8_areSame_6 : decode cX8_areSame 6 = .ok (.iload 5, 2) := by decide +kernel
theorem dX8_areSame_8 : decode cX8_areSame 8 = .ok (.aload_n 0, 1) := by decide +kernel
theorem dX8_areSame_9 : decode cX8_areSame 9 = .ok (.getfield 13, 3) := by decide +kernel
theorem dX8_areSame_12 : decode cX8_areSame 12 = .ok (.if_icmp .ge 76, 3) := by decide +kernel
theorem dX8_areSame_15 : decode cX8_areSame 15 = .ok (.iconst 0, 1) := by decide +kernel
theorem dX8_areSame_16 : decode cX8_areSame 16 = .ok (.istore 6, 2) := by decide +kernel
theorem dX8_areSame_18 : decode cX8_areSame 18 = .ok (.iload 6, 2) := by decide +kernel
theorem dX8_areSame_20 : decode cX8_areSame 20 = .ok (.iload 5, 2) := by decide +kernel
theorem dX8_areSame_22 : decode cX8_areSame 22 = .ok (.if_icmp .ge 60, 3) := by decide +kernel
theorem dX8_areSame_25 : decode cX8_areSame 25 = .ok (.iload 4, 2) := by decide +kernel
theorem dX8_areSame_27 : decode cX8_areSame 27 = .ok (.ifCond .eq 46, 3) := by decide +kernel
theorem dX8_areSame_30 : decode cX8_areSame 30 = .ok (.iload_n 3, 1) := by decide +kernel
theorem dX8_areSame_31 : decode cX8_areSame 31 = .ok (.iload 5, 2) := by decide +kernel
theorem dX8_areSame_33 : decode cX8_areSame 33 = .ok (.invokestatic 188, 3) := by decide +kernel
theorem dX8_areSame_36 : decode cX8_areSame 36 = .ok (.ifCond .eq 33, 3) := by decide +kernel
theorem dX8_areSame_39 : decode cX8_areSame 39 = .ok (.iload_n 3, 1) := by decide +kernel
theorem dX8_areSame_40 : decode cX8_areSame 40 = .ok (.iload 6, 2) := by decide +kernel
theorem dX8_areSame_42 : decode cX8_areSame 42 = .ok (.invokestatic 188, 3) := by decide +kernel
theorem dX8_areSame_45 : decode cX8_areSame 45 = .ok (.ifCond .eq 24, 3) := by decide +kernel
theorem dX8_areSame_48 : decode cX8_areSame 48 = .ok (.aload_n 0, 1) := by decide +kernel
theorem dX8_areSame_49 : decode cX8_areSame 49 = .ok (.iload_n 1, 1) := by decide +kernel
theorem dX8_areSame_50 : decode cX8_areSame 50 = .ok (.iload 5, 2) := by decide +kernel
theorem dX8_areSame_52 : decode cX8_areSame 52 = .ok (.iload 6, 2) := by decide +kernel
theorem dX8_areSame_54 : decode cX8_areSame 54 = .ok (.invokevirtual 201, 3) := by decide +kernel
theorem dX8_areSame_57 : decode cX8_areSame 57 = .ok (.aload_n 0, 1) := by decide +kernel
theorem dX8_areSame_58 : decode cX8_areSame 58 = .ok (.iload_n 2, 1) := by decide +kernel
theorem dX8_areSame_59 : decode cX8_areSame 59 = .ok (.iload 5, 2) := by decide +kernel
theorem dX8_areSame_61 : decode cX8_areSame 61 = .ok (.iload 6, 2) := by decide +kernel
theorem dX8_areSame_63 : decode cX8_areSame 63 = .ok (.invokevirtual 201, 3) := by decide +kernel
theorem dX8_areSame_66 : decode cX8_areSame 66 = .ok (.if_icmp .ne 7, 3) := by decide +kernel
theorem dX8_areSame_69 : decode cX8_areSame 69 = .ok (.iconst 1, 1) := by decide +kernel
theorem dX8_areSame_70 : decode cX8_areSame 70 = .ok (.goto 4, 3) := by decide +kernel
theorem dX8_areSame_73 : decode cX8_areSame 73 = .ok (.iconst 0, 1) := by decide +kernel
theorem dX8_areSame_74 : decode cX8_areSame 74 = .ok (.istore 4, 2) := by decide +kernel
theorem dX8_areSame_76 : decode cX8_areSame 76 = .ok (.iinc 6 1, 3) := by decide +kernel
theorem dX8_areSame_79 : decode cX8_areSame 79 = .ok (.goto (-61), 3) := by decide +kernel
theorem dX8_areSame_82 : decode cX8_areSame 82 = .ok (.iinc 5 1, 3) := by decide +kernel
theorem dX8_areSame_85 : decode cX8_areSame 85 = .ok (.goto (-79), 3) := by decide +kernel
theorem dX8_areSame_88 : decode cX8_areSame 88 = .ok (.iload 4, 2) := by decide +kernel
theorem dX8_areSame_90 : decode cX8_areSame 90 = .ok (.ireturn, 1) := by decide +kernel
theorem dX8_same_0 : decode cX8_same 0 = .ok (.iload_n 1, 1) := by decide +kernel
theorem dX8_same_1 : decode cX8_same 1 = .ok (.iconst (-1), 1) := by decide +kernel
theorem dX8_same_2 : decode cX8_same 2 = .ok (.if_icmp .ge 8, 3) := by decide +kernel
theorem dX8_same_5 : decode cX8_same 5 = .ok (.aload_n 0, 1) := by decide +kernel
theorem dX8_same_6 : decode cX8_same 6 = .ok (.invokevirtual 204, 3) := by decide +kernel
theorem dX8_same_9 : decode cX8_same 9 = .ok (.ireturn, 1) := by decide +kernel
theorem dX8_same_10 : decode cX8_same 10 = .ok (.aload_n 0, 1) := by decide +kernel
theorem dX8_same_11 : decode cX8_same 11 = .ok (.invokevirtual 182, 3) := by decide +kernel
theorem dX8_same_14 : decode cX8_same 14 = .ok (.istore_n 2, 1) := by decide +kernel
theorem dX8_same_15 : decode cX8_same 15 = .ok (.iconst 0, 1) := by decide +kernel
theorem dX8_same_16 : decode cX8_same 16 = .ok (.istore_n 3, 1) := by decide +kernel
theorem dX8_same_17 : decode cX8_same 17 = .ok (.bipush (-5), 2) := by decide +kernel
theorem dX8_same_19 : decode cX8_same 19 = .ok (.istore 4, 2) := by decide +kernel
theorem dX8_same_21 : decode cX8_same 21 = .ok (.iconst 0, 1) := by decide +kernel
theorem dX8_same_22 : decode cX8_same 22 = .ok (.istore 5, 2) := by decide +kernel
theorem dX8_same_24 : decode cX8_same 24 = .ok (.iload 5, 2) := by decide +kernel
theorem dX8_same_26 : decode cX8_same 26 = .ok (.aload_n 0, 1) := by decide +kernel
theorem dX8_same_27 : decode cX8_same 27 = .ok (.getfield 75, 3) := by decide +kernel
theorem dX8_same_30 : decode cX8_same 30 = .ok (.if_icmp .ge 65, 3) := by decide +kernel
theorem dX8_same_33 : decode cX8_same 33 = .ok (.iload 5, 2) := by decide +kernel
theorem dX8_same_35 : decode cX8_same 35 = .ok (.iconst 1, 1) := by decide +kernel
theorem dX8_same_36 : decode cX8_same 36 = .ok (.iadd, 1) := by decide +kernel
theorem dX8_same_37 : decode cX8_same 37 = .ok (.istore 6, 2) := by decide +kernel
theorem dX8_same_39 : decode cX8_same 39 = .ok (.iload 6, 2) := by decide +kernel
theorem dX8_same_41 : decode cX8_same 41 = .ok (.aload_n 0, 1) := by decide +kernel
theorem dX8_same_42 : decode cX8_same 42 = .ok (.getfield 75, 3) := by decide +kernel
theorem dX8_same_45 : decode cX8_same 45 = .ok (.if_icmp .ge 44, 3) := by decide +kernel
theorem dX8_same_48 : decode cX8_same 48 = .ok (.aload_n 0, 1) := by decide +kernel
theorem dX8_same_49 : decode cX8_same 49 = .ok (.iload 5, 2) := by decide +kernel
theorem dX8_same_51 : decode cX8_same 51 = .ok (.iload 6, 2) := by decide +kernel
theorem dX8_same_53 : decode cX8_same 53 = .ok (.iload_n 2, 1) := by decide +kernel
theorem dX8_same_54 : decode cX8_same 54 = .ok (.invokevirtual 207, 3) := by decide +kernel
theorem dX8_same_57 : decode cX8_same 57 = .ok (.ifCond .eq 26, 3) := by decide +kernel
theorem dX8_same_60 : decode cX8_same 60 = .ok (.iload_n 3, 1) := by decide +kernel
theorem dX8_same_61 : decode cX8_same 61 = .ok (.iload_n 1, 1) := by decide +kernel
theorem dX8_same_62 : decode cX8_same 62 = .ok (.if_icmp .ne 14, 3) := by decide +kernel
theorem dX8_same_65 : decode cX8_same 65 = .ok (.bipush 10, 2) := by decide +kernel
theorem dX8_same_67 : decode cX8_same 67 = .ok (.iload 5, 2) := by decide +kernel
theorem dX8_same_69 : decode cX8_same 69 = .ok (.imul, 1) := by decide +kernel
theorem dX8_same_70 : decode cX8_same 70 = .ok (.iload 6, 2) := by decide +kernel
theorem dX8_same_72 : decode cX8_same 72 = .ok (.iadd, 1) := by decide +kernel
theorem dX8_same_73 : decode cX8_same 73 = .ok (.goto 5, 3) := by decide +kernel
theorem dX8_same_76 : decode cX8_same 76 = .ok (.iload 4, 2) := by decide +kernel
theorem dX8_same_78 : decode cX8_same 78 = .ok (.istore 4, 2) := by decide +kernel
theorem dX8_same_80 : decode cX8_same 80 = .ok (.iinc 3 1, 3) := by decide +kernel
theorem dX8_same_83 : decode cX8_same 83 = .ok (.iinc 6 1, 3) := by decide +kernel
theorem dX8_same_86 : decode cX8_same 86 = .ok (.goto (-47), 3) := by decide +kernel
theorem dX8_same_89 : decode cX8_same 89 = .ok (.iinc 5 1, 3) := by decide +kernel
theorem dX8_same_92 : decode cX8_same 92 = .ok (.goto (-68), 3) := by decide +kernel
theorem dX8_same_95 : decode cX8_same 95 = .ok (.iload_n 1, 1) := by decide +kernel
theorem dX8_same_96 : decode cX8_same 96 = .ok (.iconst (-1), 1) := by decide +kernel
theorem dX8_same_97 : decode cX8_same 97 = .ok (.if_icmp .ne 7, 3) := by decide +kernel
theorem dX8_same_100 : decode cX8_same 100 = .ok (.iload_n 3, 1) := by decide +kernel
theorem dX8_same_101 : decode cX8_same 101 = .ok (.goto 5, 3) := by decide +kernel
theorem dX8_same_104 : decode cX8_same 104 = .ok (.iload 4, 2) := by decide +kernel
theorem dX8_same_106 : decode cX8_same 106 = .ok (.ireturn, 1) := by decide +kernel
theorem dX8_best_0 : decode cX8_best 0 = .ok (.aload_n 0, 1) := by decide +kernel
theorem dX8_best_1 : decode cX8_best 1 = .ok (.invokevirtual 182, 3) := by decide +kernel
theorem dX8_best_4 : decode cX8_best 4 = .ok (.istore_n 1, 1) := by decide +kernel
theorem dX8_best_5 : decode cX8_best 5 = .ok (.iconst (-1), 1) := by decide +kernel
theorem dX8_best_6 : decode cX8_best 6 = .ok (.istore_n 2, 1) := by decide +kernel
theorem dX8_best_7 : decode cX8_best 7 = .ok (.iconst 0, 1) := by decide +kernel
theorem dX8_best_8 : decode cX8_best 8 = .ok (.istore_n 3, 1) := by decide +kernel
theorem dX8_best_9 : decode cX8_best 9 = .ok (.iload_n 3, 1) := by decide +kernel
theorem dX8_best_10 : decode cX8_best 10 = .ok (.aload_n 0, 1) := by decide +kernel
theorem dX8_best_11 : decode cX8_best 11 = .ok (.getfield 75, 3) := by decide +kernel
theorem dX8_best_14 : decode cX8_best 14 = .ok (.if_icmp .ge 70, 3) := by decide +kernel
theorem dX8_best_17 : decode cX8_best 17 = .ok (.iload_n 1, 1) := by decide +kernel
theorem dX8_best_18 : decode cX8_best 18 = .ok (.ifCond .eq 66, 3) := by decide +kernel
theorem dX8_best_21 : decode cX8_best 21 = .ok (.iload_n 2, 1) := by decide +kernel
theorem dX8_best_22 : decode cX8_best 22 = .ok (.iconst (-1), 1) := by decide +kernel
theorem dX8_best_23 : decode cX8_best 23 = .ok (.if_icmp .ne 7, 3) := by decide +kernel
theorem dX8_best_26 : decode cX8_best 26 = .ok (.iconst (-1), 1) := by decide +kernel
theorem dX8_best_27 : decode cX8_best 27 = .ok (.goto 18, 3) := by decide +kernel
theorem dX8_best_30 : decode cX8_best 30 = .ok (.aload_n 0, 1) := by decide +kernel
theorem dX8_best_31 : decode cX8_best 31 = .ok (.iload_n 3, 1) := by decide +kernel
theorem dX8_best_32 : decode cX8_best 32 = .ok (.iload_n 1, 1) := by decide +kernel
theorem dX8_best_33 : decode cX8_best 33 = .ok (.iconst 0, 1) := by decide +kernel
theorem dX8_best_34 : decode cX8_best 34 = .ok (.invokevirtual 198, 3) := by decide +kernel
theorem dX8_best_37 : decode cX8_best 37 = .ok (.aload_n 0, 1) := by decide +kernel
theorem dX8_best_38 : decode cX8_best 38 = .ok (.iload_n 2, 1) := by decide +kernel
theorem dX8_best_39 : decode cX8_best 39 = .ok (.iload_n 1, 1) := by decide +kernel
theorem dX8_best_40 : decode cX8_best 40 = .ok (.iconst 0, 1) := by decide +kernel
theorem dX8_best_41 : decode cX8_best 41 = .ok (.invokevirtual 198, 3) := by decide +kernel
theorem dX8_best_44 : decode cX8_best 44 = .ok (.isub, 1) := by decide +kernel
theorem dX8_best_45 : decode cX8_best 45 = .ok (.istore 4, 2) := by decide +kernel
theorem dX8_best_47 : decode cX8_best 47 = .ok (.iload 4, 2) := by decide +kernel
theorem dX8_best_49 : decode cX8_best 49 = .ok (.ifCond .lt 23, 3) := by decide +kernel
theorem dX8_best_52 : decode cX8_best 52 = .ok (.iload 4, 2) := by decide +kernel
theorem dX8_best_54 : decode cX8_best 54 = .ok (.ifCond .ne 22, 3) := by decide +kernel
theorem dX8_best_57 : decode cX8_best 57 = .ok (.aload_n 0, 1) := by decide +kernel
theorem dX8_best_58 : decode cX8_best 58 = .ok (.getfield 26, 3) := by decide +kernel
theorem dX8_best_61 : decode cX8_best 61 = .ok (.iload_n 3, 1) := by decide +kernel
theorem dX8_best_62 : decode cX8_best 62 = .ok (.iaload, 1) := by decide +kernel
theorem dX8_best_63 : decode cX8_best 63 = .ok (.aload_n 0, 1) := by decide +kernel
theorem dX8_best_64 : decode cX8_best 64 = .ok (.getfield 26, 3) := by decide +kernel
theorem dX8_best_67 : decode cX8_best 67 = .ok (.iload_n 2, 1) := by decide +kernel
theorem dX8_best_68 : decode cX8_best 68 = .ok (.iaload, 1) := by decide +kernel
theorem dX8_best_69 : decode cX8_best 69 = .ok (.if_icmp .ge 7, 3) := by decide +kernel
theorem dX8_best_72 : decode cX8_best 72 = .ok (.iload_n 3, 1) := by decide +kernel
theorem dX8_best_73 : decode cX8_best 73 = .ok (.goto 4, 3) := by decide +kernel
theorem dX8_best_76 : decode cX8_best 76 = .ok (.iload_n 2, 1) := by decide +kernel
theorem dX8_best_77 : decode cX8_best 77 = .ok (.istore_n 2, 1) := by decide +kernel
theorem dX8_best_78 : decode cX8_best 78 = .ok (.iinc 3 1, 3) := by decide +kernel
theorem dX8_best_81 : decode cX8_best 81 = .ok (.goto (-72), 3) := by decide +kernel
theorem dX8_best_84 : decode cX8_best 84 = .ok (.iload_n 2, 1) := by decide +kernel
theorem dX8_best_85 : decode cX8_best 85 = .ok (.ireturn, 1) := by decide +kernel
theorem dX8_setTells_0 : decode cX8_setTells 0 = .ok (.iconst 0, 1) := by decide +kernel
theorem dX8_setTells_1 : decode cX8_setTells 1 = .ok (.istore_n 2, 1) := by decide +kernel
theorem dX8_setTells_2 : decode cX8_setTells 2 = .ok (.iload_n 2, 1) := by decide +kernel
theorem dX8_setTells_3 : decode cX8_setTells 3 = .ok (.sipush 128, 3) := by decide +kernel
theorem dX8_setTells_6 : decode cX8_setTells 6 = .ok (.if_icmp .ge 30, 3) := by decide +kernel
theorem dX8_setTells_9 : decode cX8_setTells 9 = .ok (.aload_n 0, 1) := by decide +kernel
theorem dX8_setTells_10 : decode cX8_setTells 10 = .ok (.getfield 44, 3) := by decide +kernel
theorem dX8_setTells_13 : decode cX8_setTells 13 = .ok (.iload_n 2, 1) := by decide +kernel
theorem dX8_setTells_14 : decode cX8_setTells 14 = .ok (.iload_n 2, 1) := by decide +kernel
theorem dX8_setTells_15 : decode cX8_setTells 15 = .ok (.iconst 1, 1) := by decide +kernel
theorem dX8_setTells_16 : decode cX8_setTells 16 = .ok (.aload_n 0, 1) := by decide +kernel
theorem dX8_setTells_17 : decode cX8_setTells 17 = .ok (.getfield 75, 3) := by decide +kernel
theorem dX8_setTells_20 : decode cX8_setTells 20 = .ok (.ishl, 1) := by decide +kernel
theorem dX8_setTells_21 : decode cX8_setTells 21 = .ok (.if_icmp .ge 7, 3) := by decide +kernel
theorem dX8_setTells_24 : decode cX8_setTells 24 = .ok (.iconst 1, 1) := by decide +kernel
theorem dX8_setTells_25 : decode cX8_setTells 25 = .ok (.goto 4, 3) := by decide +kernel
theorem dX8_setTells_28 : decode cX8_setTells 28 = .ok (.iconst 0, 1) := by decide +kernel
theorem dX8_setTells_29 : decode cX8_setTells 29 = .ok (.bastore, 1) := by decide +kernel
theorem dX8_setTells_30 : decode cX8_setTells 30 = .ok (.iinc 2 1, 3) := by decide +kernel
theorem dX8_setTells_33 : decode cX8_setTells 33 = .ok (.goto (-31), 3) := by decide +kernel
theorem dX8_setTells_36 : decode cX8_setTells 36 = .ok (.iconst 0, 1) := by decide +kernel
theorem dX8_setTells_37 : decode cX8_setTells 37 = .ok (.istore_n 2, 1) := by decide +kernel
theorem dX8_setTells_38 : decode cX8_setTells 38 = .ok (.iload_n 2, 1) := by decide +kernel
theorem dX8_setTells_39 : decode cX8_setTells 39 = .ok (.aload_n 0, 1) := by decide +kernel
theorem dX8_setTells_40 : decode cX8_setTells 40 = .ok (.getfield 13, 3) := by decide +kernel
theorem dX8_setTells_43 : decode cX8_setTells 43 = .ok (.if_icmp .ge 130, 3) := by decide +kernel
theorem dX8_setTells_46 : decode cX8_setTells 46 = .ok (.iconst 0, 1) := by decide +kernel
theorem dX8_setTells_47 : decode cX8_setTells 47 = .ok (.istore_n 3, 1) := by decide +kernel
theorem dX8_setTells_48 : decode cX8_setTells 48 = .ok (.iload_n 3, 1) := by decide +kernel
theorem dX8_setTells_49 : decode cX8_setTells 49 = .ok (.iload_n 2, 1) := by decide +kernel
theorem dX8_setTells_50 : decode cX8_setTells 50 = .ok (.if_icmp .ge 117, 3) := by decide +kernel
theorem dX8_setTells_53 : decode cX8_setTells 53 = .ok (.iconst 0, 1) := by decide +kernel
theorem dX8_setTells_54 : decode cX8_setTells 54 = .ok (.istore 4, 2) := by decide +kernel
theorem dX8_setTells_56 : decode cX8_setTells 56 = .ok (.iconst 0, 1) := by decide +kernel
theorem dX8_setTells_57 : decode cX8_setTells 57 = .ok (.istore 5, 2) := by decide +kernel
theorem dX8_setTells_59 : decode cX8_setTells 59 = .ok (.iload 5, 2) := by decide +kernel
theorem dX8_setTells_61 : decode cX8_setTells 61 = .ok (.aload_n 0, 1) := by decide +kernel
theorem dX8_setTells_62 : decode cX8_setTells 62 = .ok (.getfield 75, 3) := by decide +kernel
theorem dX8_setTells_65 : decode cX8_setTells 65 = .ok (.if_icmp .ge 33, 3) := by decide +kernel
theorem dX8_setTells_68 : decode cX8_setTells 68 = .ok (.iload 4, 2) := by decide +kernel
theorem dX8_setTells_70 : decode cX8_setTells 70 = .ok (.aload_n 0, 1) := by decide +kernel
theorem dX8_setTells_71 : decode cX8_setTells 71 = .ok (.iload 5, 2) := by decide +kernel
theorem dX8_setTells_73 : decode cX8_setTells 73 = .ok (.iload_n 2, 1) := by decide +kernel
theorem dX8_setTells_74 : decode cX8_setTells 74 = .ok (.iload_n 3, 1) := by decide +kernel
theorem dX8_setTells_75 : decode cX8_setTells 75 = .ok (.invokevirtual 201, 3) := by decide +kernel
theorem dX8_setTells_78 : decode cX8_setTells 78 = .ok (.ifCond .eq 10, 3) := by decide +kernel
theorem dX8_setTells_81 : decode cX8_setTells 81 = .ok (.iconst 1, 1) := by decide +kernel
theorem dX8_setTells_82 : decode cX8_setTells 82 = .ok (.iload 5, 2) := by decide +kernel
theorem dX8_setTells_84 : decode cX8_setTells 84 = .ok (.ishl, 1) := by decide +kernel
theorem dX8_setTells_85 : decode cX8_setTells 85 = .ok (.goto 4, 3) := by decide +kernel
theorem dX8_setTells_88 : decode cX8_setTells 88 = .ok (.iconst 0, 1) := by decide +kernel
theorem dX8_setTells_89 : decode cX8_setTells 89 = .ok (.ior, 1) := by decide +kernel
theorem dX8_setTells_90 : decode cX8_setTells 90 = .ok (.istore 4, 2) := by decide +kernel
theorem dX8_setTells_92 : decode cX8_setTells 92 = .ok (.iinc 5 1, 3) := by decide +kernel
theorem dX8_setTells_95 : decode cX8_setTells 95 = .ok (.goto (-36), 3) := by decide +kernel
theorem dX8_setTells_98 : decode cX8_setTells 98 = .ok (.iconst 0, 1) := by decide +kernel
theorem dX8_setTells_99 : decode cX8_setTells 99 = .ok (.istore 5, 2) := by decide +kernel
theorem dX8_setTells_101 : decode cX8_setTells 101 = .ok (.iload 5, 2) := by decide +kernel
theorem dX8_setTells_103 : decode cX8_setTells 103 = .ok (.sipush 128, 3) := by decide +kernel
theorem dX8_setTells_106 : decode cX8_setTells 106 = .ok (.if_icmp .ge 55, 3) := by decide +kernel
theorem dX8_setTells_109 : decode cX8_setTells 109 = .ok (.iload_n 1, 1) := by decide +kernel
theorem dX8_setTells_110 : decode cX8_setTells 110 = .ok (.iload_n 2, 1) := by decide +kernel
theorem dX8_setTells_111 : decode cX8_setTells 111 = .ok (.invokestatic 188, 3) := by decide +kernel
theorem dX8_setTells_114 : decode cX8_setTells 114 = .ok (.ifCond .eq 47, 3) := by decide +kernel
theorem dX8_setTells_117 : decode cX8_setTells 117 = .ok (.iload_n 1, 1) := by decide +kernel
theorem dX8_setTells_118 : decode cX8_setTells 118 = .ok (.iload_n 3, 1) := by decide +kernel
theorem dX8_setTells_119 : decode cX8_setTells 119 = .ok (.invokestatic 188, 3) := by decide +kernel
theorem dX8_setTells_122 : decode cX8_setTells 122 = .ok (.ifCond .eq 39, 3) := by decide +kernel
theorem dX8_setTells_125 : decode cX8_setTells 125 = .ok (.aload_n 0, 1) := by decide +kernel
theorem dX8_setTells_126 : decode cX8_setTells 126 = .ok (.getfield 44, 3) := by decide +kernel
theorem dX8_setTells_129 : decode cX8_setTells 129 = .ok (.iload 5, 2) := by decide +kernel
theorem dX8_setTells_131 : decode cX8_setTells 131 = .ok (.aload_n 0, 1) := by decide +kernel
theorem dX8_setTells_132 : decode cX8_setTells 132 = .ok (.getfield 44, 3) := by decide +kernel
theorem dX8_setTells_135 : decode cX8_setTells 135 = .ok (.iload 5, 2) := by decide +kernel
theorem dX8_setTells_137 : decode cX8_setTells 137 = .ok (.baload, 1) := by decide +kernel
theorem dX8_setTells_138 : decode cX8_setTells 138 = .ok (.ifCond .eq 15, 3) := by decide +kernel
theorem dX8_setTells_141 : decode cX8_setTells 141 = .ok (.iload 5, 2) := by decide +kernel
theorem dX8_setTells_143 : decode cX8_setTells 143 = .ok (.iload 4, 2) := by decide +kernel
theorem dX8_setTells_145 : decode cX8_setTells 145 = .ok (.iand, 1) := by decide +kernel
theorem dX8_setTells_146 : decode cX8_setTells 146 = .ok (.ifCond .eq 7, 3) := by decide +kernel
theorem dX8_setTells_149 : decode cX8_setTells 149 = .ok (.iconst 1, 1) := by decide +kernel
theorem dX8_setTells_150 : decode cX8_setTells 150 = .ok (.goto 4, 3) := by decide +kernel
theorem dX8_setTells_153 : decode cX8_setTells 153 = .ok (.iconst 0, 1) := by decide +kernel
theorem dX8_setTells_154 : decode cX8_setTells 154 = .ok (.bastore, 1) := by decide +kernel
theorem dX8_setTells_155 : decode cX8_setTells 155 = .ok (.iinc 5 1, 3) := by decide +kernel
theorem dX8_setTells_158 : decode cX8_setTells 158 = .ok (.goto (-57), 3) := by decide +kernel
theorem dX8_setTells_161 : decode cX8_setTells 161 = .ok (.iinc 3 1, 3) := by decide +kernel
theorem dX8_setTells_164 : decode cX8_setTells 164 = .ok (.goto (-116), 3) := by decide +kernel
theorem dX8_setTells_167 : decode cX8_setTells 167 = .ok (.iinc 2 1, 3) := by decide +kernel
theorem dX8_setTells_170 : decode cX8_setTells 170 = .ok (.goto (-132), 3) := by decide +kernel
theorem dX8_setTells_173 : decode cX8_setTells 173 = .ok (.return_, 1) := by decide +kernel
theorem dX8_costOf_0 : decode cX8_costOf 0 = .ok (.iconst 0, 1) := by decide +kernel
theorem dX8_costOf_1 : decode cX8_costOf 1 = .ok (.istore_n 2, 1) := by decide +kernel
theorem dX8_costOf_2 : decode cX8_costOf 2 = .ok (.iconst 0, 1) := by decide +kernel
theorem dX8_costOf_3 : decode cX8_costOf 3 = .ok (.istore_n 3, 1) := by decide +kernel
theorem dX8_costOf_4 : decode cX8_costOf 4 = .ok (.iload_n 3, 1) := by decide +kernel
theorem dX8_costOf_5 : decode cX8_costOf 5 = .ok (.aload_n 0, 1) := by decide +kernel
theorem dX8_costOf_6 : decode cX8_costOf 6 = .ok (.getfield 75, 3) := by decide +kernel
theorem dX8_costOf_9 : decode cX8_costOf 9 = .ok (.if_icmp .ge 30, 3) := by decide +kernel
theorem dX8_costOf_12 : decode cX8_costOf 12 = .ok (.iload_n 2, 1) := by decide +kernel
theorem dX8_costOf_13 : decode cX8_costOf 13 = .ok (.iload_n 1, 1) := by decide +kernel
theorem dX8_costOf_14 : decode cX8_costOf 14 = .ok (.iload_n 3, 1) := by decide +kernel
theorem dX8_costOf_15 : decode cX8_costOf 15 = .ok (.invokestatic 188, 3) := by decide +kernel
theorem dX8_costOf_18 : decode cX8_costOf 18 = .ok (.ifCond .eq 12, 3) := by decide +kernel
theorem dX8_costOf_21 : decode cX8_costOf 21 = .ok (.aload_n 0, 1) := by decide +kernel
theorem dX8_costOf_22 : decode cX8_costOf 22 = .ok (.getfield 26, 3) := by decide +kernel
theorem dX8_costOf_25 : decode cX8_costOf 25 = .ok (.iload_n 3, 1) := by decide +kernel
theorem dX8_costOf_26 : decode cX8_costOf 26 = .ok (.iaload, 1) := by decide +kernel
theorem dX8_costOf_27 : decode cX8_costOf 27 = .ok (.goto 4, 3) := by decide +kernel
theorem dX8_costOf_30 : decode cX8_costOf 30 = .ok (.iconst 0, 1) := by decide +kernel
theorem dX8_costOf_31 : decode cX8_costOf 31 = .ok (.iadd, 1) := by decide +kernel
theorem dX8_costOf_32 : decode cX8_costOf 32 = .ok (.istore_n 2, 1) := by decide +kernel
theorem dX8_costOf_33 : decode cX8_costOf 33 = .ok (.iinc 3 1, 3) := by decide +kernel
theorem dX8_costOf_36 : decode cX8_costOf 36 = .ok (.goto (-32), 3) := by decide +kernel
theorem dX8_costOf_39 : decode cX8_costOf 39 = .ok (.iload_n 2, 1) := by decide +kernel
theorem dX8_costOf_40 : decode cX8_costOf 40 = .ok (.ireturn, 1) := by decide +kernel
theorem dX8_cheapest_0 : decode cX8_cheapest 0 = .ok (.iconst (-1), 1) := by decide +kernel
theorem dX8_cheapest_1 : decode cX8_cheapest 1 = .ok (.istore_n 1, 1) := by decide +kernel
theorem dX8_cheapest_2 : decode cX8_cheapest 2 = .ok (.iconst 0, 1) := by decide +kernel
theorem dX8_cheapest_3 : decode cX8_cheapest 3 = .ok (.istore_n 2, 1) := by decide +kernel
theorem dX8_cheapest_4 : decode cX8_cheapest 4 = .ok (.iload_n 2, 1) := by decide +kernel
theorem dX8_cheapest_5 : decode cX8_cheapest 5 = .ok (.iconst 1, 1) := by decide +kernel
theorem dX8_cheapest_6 : decode cX8_cheapest 6 = .ok (.aload_n 0, 1) := by decide +kernel
theorem dX8_cheapest_7 : decode cX8_cheapest 7 = .ok (.getfield 75, 3) := by decide +kernel
theorem dX8_cheapest_10 : decode cX8_cheapest 10 = .ok (.ishl, 1) := by decide +kernel
theorem dX8_cheapest_11 : decode cX8_cheapest 11 = .ok (.if_icmp .ge 64, 3) := by decide +kernel
theorem dX8_cheapest_14 : decode cX8_cheapest 14 = .ok (.aload_n 0, 1) := by decide +kernel
theorem dX8_cheapest_15 : decode cX8_cheapest 15 = .ok (.getfield 44, 3) := by decide +kernel
theorem dX8_cheapest_18 : decode cX8_cheapest 18 = .ok (.iload_n 2, 1) := by decide +kernel
theorem dX8_cheapest_19 : decode cX8_cheapest 19 = .ok (.baload, 1) := by decide +kernel
theorem dX8_cheapest_20 : decode cX8_cheapest 20 = .ok (.ifCond .eq 49, 3) := by decide +kernel
theorem dX8_cheapest_23 : decode cX8_cheapest 23 = .ok (.iload_n 1, 1) := by decide +kernel
theorem dX8_cheapest_24 : decode cX8_cheapest 24 = .ok (.iconst (-1), 1) := by decide +kernel
theorem dX8_cheapest_25 : decode cX8_cheapest 25 = .ok (.if_icmp .ne 7, 3) := by decide +kernel
theorem dX8_cheapest_28 : decode cX8_cheapest 28 = .ok (.iconst (-1), 1) := by decide +kernel
theorem dX8_cheapest_29 : decode cX8_cheapest 29 = .ok (.goto 14, 3) := by decide +kernel
theorem dX8_cheapest_32 : decode cX8_cheapest 32 = .ok (.aload_n 0, 1) := by decide +kernel
theorem dX8_cheapest_33 : decode cX8_cheapest 33 = .ok (.iload_n 2, 1) := by decide +kernel
theorem dX8_cheapest_34 : decode cX8_cheapest 34 = .ok (.invokevirtual 210, 3) := by decide +kernel
theorem dX8_cheapest_37 : decode cX8_cheapest 37 = .ok (.aload_n 0, 1) := by decide +kernel
theorem dX8_cheapest_38 : decode cX8_cheapest 38 = .ok (.iload_n 1, 1) := by decide +kernel
theorem dX8_cheapest_39 : decode cX8_cheapest 39 = .ok (.invokevirtual 210, 3) := by decide +kernel
theorem dX8_cheapest_42 : decode cX8_cheapest 42 = .ok (.isub, 1) := by decide +kernel
theorem dX8_cheapest_43 : decode cX8_cheapest 43 = .ok (.istore_n 3, 1) := by decide +kernel
theorem dX8_cheapest_44 : decode cX8_cheapest 44 = .ok (.iload_n 3, 1) := by decide +kernel
theorem dX8_cheapest_45 : decode cX8_cheapest 45 = .ok (.ifCond .lt 18, 3) := by decide +kernel
theorem dX8_cheapest_48 : decode cX8_cheapest 48 = .ok (.iload_n 3, 1) := by decide +kernel
theorem dX8_cheapest_49 : decode cX8_cheapest 49 = .ok (.ifCond .ne 18, 3) := by decide +kernel
theorem dX8_cheapest_52 : decode cX8_cheapest 52 = .ok (.iload_n 2, 1) := by decide +kernel
theorem dX8_cheapest_53 : decode cX8_cheapest 53 = .ok (.invokestatic 192, 3) := by decide +kernel
theorem dX8_cheapest_56 : decode cX8_cheapest 56 = .ok (.iload_n 1, 1) := by decide +kernel
theorem dX8_cheapest_57 : decode cX8_cheapest 57 = .ok (.invokestatic 192, 3) := by decide +kernel
theorem dX8_cheapest_60 : decode cX8_cheapest 60 = .ok (.if_icmp .ge 7, 3) := by decide +kernel
theorem dX8_cheapest_63 : decode cX8_cheapest 63 = .ok (.iload_n 2, 1) := by decide +kernel
theorem dX8_cheapest_64 : decode cX8_cheapest 64 = .ok (.goto 4, 3) := by decide +kernel
theorem dX8_cheapest_67 : decode cX8_cheapest 67 = .ok (.iload_n 1, 1) := by decide +kernel
theorem dX8_cheapest_68 : decode cX8_cheapest 68 = .ok (.istore_n 1, 1) := by decide +kernel
theorem dX8_cheapest_69 : decode cX8_cheapest 69 = .ok (.iinc 2 1, 3) := by decide +kernel
theorem dX8_cheapest_72 : decode cX8_cheapest 72 = .ok (.goto (-68), 3) := by decide +kernel
theorem dX8_cheapest_75 : decode cX8_cheapest 75 = .ok (.iload_n 1, 1) := by decide +kernel
theorem dX8_cheapest_76 : decode cX8_cheapest 76 = .ok (.ireturn, 1) := by decide +kernel
theorem dX8_atOnce_0 : decode cX8_atOnce 0 = .ok (.iload_n 1, 1) := by decide +kernel
theorem dX8_atOnce_1 : decode cX8_atOnce 1 = .ok (.iconst 0, 1) := by decide +kernel
theorem dX8_atOnce_2 : decode cX8_atOnce 2 = .ok (.iconst 1, 1) := by decide +kernel
theorem dX8_atOnce_3 : decode cX8_atOnce 3 = .ok (.invokestatic 84, 3) := by decide +kernel
theorem dX8_atOnce_6 : decode cX8_atOnce 6 = .ok (.ifCond .ne 8, 3) := by decide +kernel
theorem dX8_atOnce_9 : decode cX8_atOnce 9 = .ok (.aload_n 0, 1) := by decide +kernel
theorem dX8_atOnce_10 : decode cX8_atOnce 10 = .ok (.invokevirtual 88, 3) := by decide +kernel
theorem dX8_atOnce_13 : decode cX8_atOnce 13 = .ok (.ireturn, 1) := by decide +kernel
theorem dX8_atOnce_14 : decode cX8_atOnce 14 = .ok (.aload_n 0, 1) := by decide +kernel
theorem dX8_atOnce_15 : decode cX8_atOnce 15 = .ok (.aload_n 0, 1) := by decide +kernel
theorem dX8_atOnce_16 : decode cX8_atOnce 16 = .ok (.invokevirtual 182, 3) := by decide +kernel
theorem dX8_atOnce_19 : decode cX8_atOnce 19 = .ok (.invokevirtual 213, 3) := by decide +kernel
theorem dX8_atOnce_22 : decode cX8_atOnce 22 = .ok (.aload_n 0, 1) := by decide +kernel
theorem dX8_atOnce_23 : decode cX8_atOnce 23 = .ok (.invokevirtual 216, 3) := by decide +kernel
theorem dX8_atOnce_26 : decode cX8_atOnce 26 = .ok (.istore_n 2, 1) := by decide +kernel
theorem dX8_atOnce_27 : decode cX8_atOnce 27 = .ok (.iload_n 2, 1) := by decide +kernel
theorem dX8_atOnce_28 : decode cX8_atOnce 28 = .ok (.iconst (-1), 1) := by decide +kernel
theorem dX8_atOnce_29 : decode cX8_atOnce 29 = .ok (.if_icmp .eq 7, 3) := by decide +kernel
theorem dX8_atOnce_32 : decode cX8_atOnce 32 = .ok (.iload_n 1, 1) := by decide +kernel
theorem dX8_atOnce_33 : decode cX8_atOnce 33 = .ok (.ifCond .ne 7, 3) := by decide +kernel
theorem dX8_atOnce_36 : decode cX8_atOnce 36 = .ok (.iload_n 2, 1) := by decide +kernel
theorem dX8_atOnce_37 : decode cX8_atOnce 37 = .ok (.goto 8, 3) := by decide +kernel
theorem dX8_atOnce_40 : decode cX8_atOnce 40 = .ok (.aload_n 0, 1) := by decide +kernel
theorem dX8_atOnce_41 : decode cX8_atOnce 41 = .ok (.iload_n 2, 1) := by decide +kernel
theorem dX8_atOnce_42 : decode cX8_atOnce 42 = .ok (.invokevirtual 210, 3) := by decide +kernel
theorem dX8_atOnce_45 : decode cX8_atOnce 45 = .ok (.ireturn, 1) := by decide +kernel
theorem dX8_haggle_0 : decode cX8_haggle 0 = .ok (.aload_n 0, 1) := by decide +kernel
theorem dX8_haggle_1 : decode cX8_haggle 1 = .ok (.iload_n 1, 1) := by decide +kernel
theorem dX8_haggle_2 : decode cX8_haggle 2 = .ok (.invokevirtual 103, 3) := by decide +kernel
theorem dX8_haggle_5 : decode cX8_haggle 5 = .ok (.ifCond .ne 8, 3) := by decide +kernel
theorem dX8_haggle_8 : decode cX8_haggle 8 = .ok (.aload_n 0, 1) := by decide +kernel
theorem dX8_haggle_9 : decode cX8_haggle 9 = .ok (.invokevirtual 88, 3) := by decide +kernel
theorem dX8_haggle_12 : decode cX8_haggle 12 = .ok (.ireturn, 1) := by decide +kernel
theorem dX8_haggle_13 : decode cX8_haggle 13 = .ok (.aload_n 0, 1) := by decide +kernel
theorem dX8_haggle_14 : decode cX8_haggle 14 = .ok (.aload_n 0, 1) := by decide +kernel
theorem dX8_haggle_15 : decode cX8_haggle 15 = .ok (.invokevirtual 182, 3) := by decide +kernel
theorem dX8_haggle_18 : decode cX8_haggle 18 = .ok (.invokevirtual 213, 3) := by decide +kernel
theorem dX8_haggle_21 : decode cX8_haggle 21 = .ok (.aload_n 0, 1) := by decide +kernel
theorem dX8_haggle_22 : decode cX8_haggle 22 = .ok (.getfield 26, 3) := by decide +kernel
theorem dX8_haggle_25 : decode cX8_haggle 25 = .ok (.iload_n 1, 1) := by decide +kernel
theorem dX8_haggle_26 : decode cX8_haggle 26 = .ok (.iaload, 1) := by decide +kernel
theorem dX8_haggle_27 : decode cX8_haggle 27 = .ok (.istore_n 2, 1) := by decide +kernel
theorem dX8_haggle_28 : decode cX8_haggle 28 = .ok (.iconst (-1), 1) := by decide +kernel
theorem dX8_haggle_29 : decode cX8_haggle 29 = .ok (.istore_n 3, 1) := by decide +kernel
theorem dX8_haggle_30 : decode cX8_haggle 30 = .ok (.iconst 0, 1) := by decide +kernel
theorem dX8_haggle_31 : decode cX8_haggle 31 = .ok (.istore 4, 2) := by decide +kernel
theorem dX8_haggle_33 : decode cX8_haggle 33 = .ok (.iload 4, 2) := by decide +kernel
theorem dX8_haggle_35 : decode cX8_haggle 35 = .ok (.bipush 100, 2) := by decide +kernel
theorem dX8_haggle_37 : decode cX8_haggle 37 = .ok (.if_icmp .ge 45, 3) := by decide +kernel
theorem dX8_haggle_40 : decode cX8_haggle 40 = .ok (.aload_n 0, 1) := by decide +kernel
theorem dX8_haggle_41 : decode cX8_haggle 41 = .ok (.getfield 26, 3) := by decide +kernel
theorem dX8_haggle_44 : decode cX8_haggle 44 = .ok (.iload_n 1, 1) := by decide +kernel
theorem dX8_haggle_45 : decode cX8_haggle 45 = .ok (.iload 4, 2) := by decide +kernel
theorem dX8_haggle_47 : decode cX8_haggle 47 = .ok (.iastore, 1) := by decide +kernel
theorem dX8_haggle_48 : decode cX8_haggle 48 = .ok (.aload_n 0, 1) := by decide +kernel
theorem dX8_haggle_49 : decode cX8_haggle 49 = .ok (.invokevirtual 216, 3) := by decide +kernel
theorem dX8_haggle_52 : decode cX8_haggle 52 = .ok (.istore 5, 2) := by decide +kernel
theorem dX8_haggle_54 : decode cX8_haggle 54 = .ok (.iload 5, 2) := by decide +kernel
theorem dX8_haggle_56 : decode cX8_haggle 56 = .ok (.iconst (-1), 1) := by decide +kernel
theorem dX8_haggle_57 : decode cX8_haggle 57 = .ok (.if_icmp .eq 17, 3) := by decide +kernel
theorem dX8_haggle_60 : decode cX8_haggle 60 = .ok (.iload 5, 2) := by decide +kernel
theorem dX8_haggle_62 : decode cX8_haggle 62 = .ok (.iload_n 1, 1) := by decide +kernel
theorem dX8_haggle_63 : decode cX8_haggle 63 = .ok (.invokestatic 188, 3) := by decide +kernel
theorem dX8_haggle_66 : decode cX8_haggle 66 = .ok (.ifCond .eq 8, 3) := by decide +kernel
theorem dX8_haggle_69 : decode cX8_haggle 69 = .ok (.iload 4, 2) := by decide +kernel
theorem dX8_haggle_71 : decode cX8_haggle 71 = .ok (.goto 4, 3) := by decide +kernel
theorem dX8_haggle_74 : decode cX8_haggle 74 = .ok (.iload_n 3, 1) := by decide +kernel
theorem dX8_haggle_75 : decode cX8_haggle 75 = .ok (.istore_n 3, 1) := by decide +kernel
theorem dX8_haggle_76 : decode cX8_haggle 76 = .ok (.iinc 4 1, 3) := by decide +kernel
theorem dX8_haggle_79 : decode cX8_haggle 79 = .ok (.goto (-46), 3) := by decide +kernel
theorem dX8_haggle_82 : decode cX8_haggle 82 = .ok (.aload_n 0, 1) := by decide +kernel
theorem dX8_haggle_83 : decode cX8_haggle 83 = .ok (.getfield 26, 3) := by decide +kernel
theorem dX8_haggle_86 : decode cX8_haggle 86 = .ok (.iload_n 1, 1) := by decide +kernel
theorem dX8_haggle_87 : decode cX8_haggle 87 = .ok (.iload_n 2, 1) := by decide +kernel
theorem dX8_haggle_88 : decode cX8_haggle 88 = .ok (.iastore, 1) := by decide +kernel
theorem dX8_haggle_89 : decode cX8_haggle 89 = .ok (.iload_n 3, 1) := by decide +kernel
theorem dX8_haggle_90 : decode cX8_haggle 90 = .ok (.ireturn, 1) := by decide +kernel
theorem dX8_setLeast_0 : decode cX8_setLeast 0 = .ok (.iconst 0, 1) := by decide +kernel
theorem dX8_setLeast_1 : decode cX8_setLeast 1 = .ok (.istore_n 2, 1) := by decide +kernel
theorem dX8_setLeast_2 : decode cX8_setLeast 2 = .ok (.iload_n 2, 1) := by decide +kernel
theorem dX8_setLeast_3 : decode cX8_setLeast 3 = .ok (.aload_n 0, 1) := by decide +kernel
theorem dX8_setLeast_4 : decode cX8_setLeast 4 = .ok (.getfield 75, 3) := by decide +kernel
theorem dX8_setLeast_7 : decode cX8_setLeast 7 = .ok (.if_icmp .ge 40, 3) := by decide +kernel
theorem dX8_setLeast_10 : decode cX8_setLeast 10 = .ok (.iconst 0, 1) := by decide +kernel
theorem dX8_setLeast_11 : decode cX8_setLeast 11 = .ok (.istore_n 3, 1) := by decide +kernel
theorem dX8_setLeast_12 : decode cX8_setLeast 12 = .ok (.iload_n 3, 1) := by decide +kernel
theorem dX8_setLeast_13 : decode cX8_setLeast 13 = .ok (.bipush 16, 2) := by decide +kernel
theorem dX8_setLeast_15 : decode cX8_setLeast 15 = .ok (.if_icmp .ge 26, 3) := by decide +kernel
theorem dX8_setLeast_18 : decode cX8_setLeast 18 = .ok (.aload_n 0, 1) := by decide +kernel
theorem dX8_setLeast_19 : decode cX8_setLeast 19 = .ok (.getfield 58, 3) := by decide +kernel
theorem dX8_setLeast_22 : decode cX8_setLeast 22 = .ok (.bipush 16, 2) := by decide +kernel
theorem dX8_setLeast_24 : decode cX8_setLeast 24 = .ok (.iload_n 2, 1) := by decide +kernel
theorem dX8_setLeast_25 : decode cX8_setLeast 25 = .ok (.imul, 1) := by decide +kernel
theorem dX8_setLeast_26 : decode cX8_setLeast 26 = .ok (.iload_n 3, 1) := by decide +kernel
theorem dX8_setLeast_27 : decode cX8_setLeast 27 = .ok (.iadd, 1) := by decide +kernel
theorem dX8_setLeast_28 : decode cX8_setLeast 28 = .ok (.aload_n 0, 1) := by decide +kernel
theorem dX8_setLeast_29 : decode cX8_setLeast 29 = .ok (.iload_n 2, 1) := by decide +kernel
theorem dX8_setLeast_30 : decode cX8_setLeast 30 = .ok (.iload_n 3, 1) := by decide +kernel
theorem dX8_setLeast_31 : decode cX8_setLeast 31 = .ok (.invokevirtual 176, 3) := by decide +kernel
theorem dX8_setLeast_34 : decode cX8_setLeast 34 = .ok (.iastore, 1) := by decide +kernel
theorem dX8_setLeast_35 : decode cX8_setLeast 35 = .ok (.iinc 3 1, 3) := by decide +kernel
theorem dX8_setLeast_38 : decode cX8_setLeast 38 = .ok (.goto (-26), 3) := by decide +kernel
theorem dX8_setLeast_41 : decode cX8_setLeast 41 = .ok (.iinc 2 1, 3) := by decide +kernel
theorem dX8_setLeast_44 : decode cX8_setLeast 44 = .ok (.goto (-42), 3) := by decide +kernel
theorem dX8_setLeast_47 : decode cX8_setLeast 47 = .ok (.iconst 0, 1) := by decide +kernel
theorem dX8_setLeast_48 : decode cX8_setLeast 48 = .ok (.istore_n 2, 1) := by decide +kernel
theorem dX8_setLeast_49 : decode cX8_setLeast 49 = .ok (.iload_n 2, 1) := by decide +kernel
theorem dX8_setLeast_50 : decode cX8_setLeast 50 = .ok (.iload_n 1, 1) := by decide +kernel
theorem dX8_setLeast_51 : decode cX8_setLeast 51 = .ok (.if_icmp .gt 22, 3) := by decide +kernel
theorem dX8_setLeast_54 : decode cX8_setLeast 54 = .ok (.iload_n 2, 1) := by decide +kernel
theorem dX8_setLeast_55 : decode cX8_setLeast 55 = .ok (.iload_n 1, 1) := by decide +kernel
theorem dX8_setLeast_56 : decode cX8_setLeast 56 = .ok (.iconst (-1), 1) := by decide +kernel
theorem dX8_setLeast_57 : decode cX8_setLeast 57 = .ok (.ixor, 1) := by decide +kernel
theorem dX8_setLeast_58 : decode cX8_setLeast 58 = .ok (.iand, 1) := by decide +kernel
theorem dX8_setLeast_59 : decode cX8_setLeast 59 = .ok (.ifCond .ne 8, 3) := by decide +kernel
theorem dX8_setLeast_62 : decode cX8_setLeast 62 = .ok (.aload_n 0, 1) := by decide +kernel
theorem dX8_setLeast_63 : decode cX8_setLeast 63 = .ok (.iload_n 2, 1) := by decide +kernel
theorem dX8_setLeast_64 : decode cX8_setLeast 64 = .ok (.invokevirtual 219, 3) := by decide +kernel
theorem dX8_setLeast_67 : decode cX8_setLeast 67 = .ok (.iinc 2 1, 3) := by decide +kernel
theorem dX8_setLeast_70 : decode cX8_setLeast 70 = .ok (.goto (-21), 3) := by decide +kernel
theorem dX8_setLeast_73 : decode cX8_setLeast 73 = .ok (.return_, 1) := by decide +kernel
theorem dX8_setOne_0 : decode cX8_setOne 0 = .ok (.iload_n 1, 1) := by decide +kernel
theorem dX8_setOne_1 : decode cX8_setOne 1 = .ok (.iload_n 1, 1) := by decide +kernel
theorem dX8_setOne_2 : decode cX8_setOne 2 = .ok (.iconst 1, 1) := by decide +kernel
theorem dX8_setOne_3 : decode cX8_setOne 3 = .ok (.isub, 1) := by decide +kernel
theorem dX8_setOne_4 : decode cX8_setOne 4 = .ok (.iand, 1) := by decide +kernel
theorem dX8_setOne_5 : decode cX8_setOne 5 = .ok (.ifCond .ne 7, 3) := by decide +kernel
theorem dX8_setOne_8 : decode cX8_setOne 8 = .ok (.iconst 1, 1) := by decide +kernel
theorem dX8_setOne_9 : decode cX8_setOne 9 = .ok (.goto 4, 3) := by decide +kernel
theorem dX8_setOne_12 : decode cX8_setOne 12 = .ok (.iconst 0, 1) := by decide +kernel
theorem dX8_setOne_13 : decode cX8_setOne 13 = .ok (.istore_n 2, 1) := by decide +kernel
theorem dX8_setOne_14 : decode cX8_setOne 14 = .ok (.aload_n 0, 1) := by decide +kernel
theorem dX8_setOne_15 : decode cX8_setOne 15 = .ok (.getfield 49, 3) := by decide +kernel
theorem dX8_setOne_18 : decode cX8_setOne 18 = .ok (.iload_n 1, 1) := by decide +kernel
theorem dX8_setOne_19 : decode cX8_setOne 19 = .ok (.iload_n 2, 1) := by decide +kernel
theorem dX8_setOne_20 : decode cX8_setOne 20 = .ok (.ifCond .eq 7, 3) := by decide +kernel
theorem dX8_setOne_23 : decode cX8_setOne 23 = .ok (.iconst 0, 1) := by decide +kernel
theorem dX8_setOne_24 : decode cX8_setOne 24 = .ok (.goto 5, 3) := by decide +kernel
theorem dX8_setOne_27 : decode cX8_setOne 27 = .ok (.ldc 191, 2) := by decide +kernel
theorem dX8_setOne_29 : decode cX8_setOne 29 = .ok (.iastore, 1) := by decide +kernel
theorem dX8_setOne_30 : decode cX8_setOne 30 = .ok (.aload_n 0, 1) := by decide +kernel
theorem dX8_setOne_31 : decode cX8_setOne 31 = .ok (.getfield 52, 3) := by decide +kernel
theorem dX8_setOne_34 : decode cX8_setOne 34 = .ok (.iload_n 1, 1) := by decide +kernel
theorem dX8_setOne_35 : decode cX8_setOne 35 = .ok (.iconst (-1), 1) := by decide +kernel
theorem dX8_setOne_36 : decode cX8_setOne 36 = .ok (.iastore, 1) := by decide +kernel
theorem dX8_setOne_37 : decode cX8_setOne 37 = .ok (.aload_n 0, 1) := by decide +kernel
theorem dX8_setOne_38 : decode cX8_setOne 38 = .ok (.getfield 55, 3) := by decide +kernel
theorem dX8_setOne_41 : decode cX8_setOne 41 = .ok (.iload_n 1, 1) := by decide +kernel
theorem dX8_setOne_42 : decode cX8_setOne 42 = .ok (.iconst 0, 1) := by decide +kernel
theorem dX8_setOne_43 : decode cX8_setOne 43 = .ok (.iastore, 1) := by decide +kernel
theorem dX8_setOne_44 : decode cX8_setOne 44 = .ok (.iconst 0, 1) := by decide +kernel
theorem dX8_setOne_45 : decode cX8_setOne 45 = .ok (.istore_n 3, 1) := by decide +kernel
theorem dX8_setOne_46 : decode cX8_setOne 46 = .ok (.iload_n 3, 1) := by decide +kernel
theorem dX8_setOne_47 : decode cX8_setOne 47 = .ok (.aload_n 0, 1) := by decide +kernel
theorem dX8_setOne_48 : decode cX8_setOne 48 = .ok (.getfield 75, 3) := by decide +kernel
theorem dX8_setOne_51 : decode cX8_setOne 51 = .ok (.if_icmp .ge 196, 3) := by decide +kernel
theorem dX8_setOne_54 : decode cX8_setOne 54 = .ok (.iload_n 2, 1) := by decide +kernel
theorem dX8_setOne_55 : decode cX8_setOne 55 = .ok (.ifCond .ne 192, 3) := by decide +kernel
theorem dX8_setOne_58 : decode cX8_setOne 58 = .ok (.iconst 0, 1) := by decide +kernel
theorem dX8_setOne_59 : decode cX8_setOne 59 = .ok (.istore 4, 2) := by decide +kernel
theorem dX8_setOne_61 : decode cX8_setOne 61 = .ok (.iconst 0, 1) := by decide +kernel
theorem dX8_setOne_62 : decode cX8_setOne 62 = .ok (.istore 5, 2) := by decide +kernel
theorem dX8_setOne_64 : decode cX8_setOne 64 = .ok (.iconst 1, 1) := by decide +kernel
theorem dX8_setOne_65 : decode cX8_setOne 65 = .ok (.istore 6, 2) := by decide +kernel
theorem dX8_setOne_67 : decode cX8_setOne 67 = .ok (.iconst 0, 1) := by decide +kernel
theorem dX8_setOne_68 : decode cX8_setOne 68 = .ok (.istore 7, 2) := by decide +kernel
theorem dX8_setOne_70 : decode cX8_setOne 70 = .ok (.iload 7, 2) := by decide +kernel
theorem dX8_setOne_72 : decode cX8_setOne 72 = .ok (.bipush 10, 2) := by decide +kernel
theorem dX8_setOne_74 : decode cX8_setOne 74 = .ok (.if_icmp .ge 105, 3) := by decide +kernel
theorem dX8_setOne_77 : decode cX8_setOne 77 = .ok (.iload_n 1, 1) := by decide +kernel
theorem dX8_setOne_78 : decode cX8_setOne 78 = .ok (.aload_n 0, 1) := by decide +kernel
theorem dX8_setOne_79 : decode cX8_setOne 79 = .ok (.getfield 58, 3) := by decide +kernel
theorem dX8_setOne_82 : decode cX8_setOne 82 = .ok (.bipush 16, 2) := by decide +kernel
theorem dX8_setOne_84 : decode cX8_setOne 84 = .ok (.iload_n 3, 1) := by decide +kernel
theorem dX8_setOne_85 : decode cX8_setOne 85 = .ok (.imul, 1) := by decide +kernel
theorem dX8_setOne_86 : decode cX8_setOne 86 = .ok (.iload 7, 2) := by decide +kernel
theorem dX8_setOne_88 : decode cX8_setOne 88 = .ok (.iadd, 1) := by decide +kernel
theorem dX8_setOne_89 : decode cX8_setOne 89 = .ok (.iaload, 1) := by decide +kernel
theorem dX8_setOne_90 : decode cX8_setOne 90 = .ok (.iand, 1) := by decide +kernel
theorem dX8_setOne_91 : decode cX8_setOne 91 = .ok (.istore 8, 2) := by decide +kernel
theorem dX8_setOne_93 : decode cX8_setOne 93 = .ok (.iload 6, 2) := by decide +kernel
theorem dX8_setOne_95 : decode cX8_setOne 95 = .ok (.ifCond .eq 13, 3) := by decide +kernel
theorem dX8_setOne_98 : decode cX8_setOne 98 = .ok (.iload 8, 2) := by decide +kernel
theorem dX8_setOne_100 : decode cX8_setOne 100 = .ok (.iload_n 1, 1) := by decide +kernel
theorem dX8_setOne_101 : decode cX8_setOne 101 = .ok (.if_icmp .eq 7, 3) := by decide +kernel
theorem dX8_setOne_104 : decode cX8_setOne 104 = .ok (.iconst 1, 1) := by decide +kernel
theorem dX8_setOne_105 : decode cX8_setOne 105 = .ok (.goto 4, 3) := by decide +kernel
theorem dX8_setOne_108 : decode cX8_setOne 108 = .ok (.iconst 0, 1) := by decide +kernel
theorem dX8_setOne_109 : decode cX8_setOne 109 = .ok (.istore 6, 2) := by decide +kernel
theorem dX8_setOne_111 : decode cX8_setOne 111 = .ok (.iload 6, 2) := by decide +kernel
theorem dX8_setOne_113 : decode cX8_setOne 113 = .ok (.ifCond .eq 25, 3) := by decide +kernel
theorem dX8_setOne_116 : decode cX8_setOne 116 = .ok (.aload_n 0, 1) := by decide +kernel
theorem dX8_setOne_117 : decode cX8_setOne 117 = .ok (.getfield 49, 3) := by decide +kernel
theorem dX8_setOne_120 : decode cX8_setOne 120 = .ok (.iload 8, 2) := by decide +kernel
theorem dX8_setOne_122 : decode cX8_setOne 122 = .ok (.iaload, 1) := by decide +kernel
theorem dX8_setOne_123 : decode cX8_setOne 123 = .ok (.iload 4, 2) := by decide +kernel
theorem dX8_setOne_125 : decode cX8_setOne 125 = .ok (.if_icmp .le 13, 3) := by decide +kernel
theorem dX8_setOne_128 : decode cX8_setOne 128 = .ok (.aload_n 0, 1) := by decide +kernel
theorem dX8_setOne_129 : decode cX8_setOne 129 = .ok (.getfield 49, 3) := by decide +kernel
theorem dX8_setOne_132 : decode cX8_setOne 132 = .ok (.iload 8, 2) := by decide +kernel
theorem dX8_setOne_134 : decode cX8_setOne 134 = .ok (.iaload, 1) := by decide +kernel
theorem dX8_setOne_135 : decode cX8_setOne 135 = .ok (.goto 5, 3) := by decide +kernel
theorem dX8_setOne_138 : decode cX8_setOne 138 = .ok (.iload 4, 2) := by decide +kernel
theorem dX8_setOne_140 : decode cX8_setOne 140 = .ok (.istore 4, 2) := by decide +kernel
theorem dX8_setOne_142 : decode cX8_setOne 142 = .ok (.iload 6, 2) := by decide +kernel
theorem dX8_setOne_144 : decode cX8_setOne 144 = .ok (.ifCond .eq 25, 3) := by decide +kernel
theorem dX8_setOne_147 : decode cX8_setOne 147 = .ok (.aload_n 0, 1) := by decide +kernel
theorem dX8_setOne_148 : decode cX8_setOne 148 = .ok (.getfield 55, 3) := by decide +kernel
theorem dX8_setOne_151 : decode cX8_setOne 151 = .ok (.iload 8, 2) := by decide +kernel
theorem dX8_setOne_153 : decode cX8_setOne 153 = .ok (.iaload, 1) := by decide +kernel
theorem dX8_setOne_154 : decode cX8_setOne 154 = .ok (.iload 5, 2) := by decide +kernel
theorem dX8_setOne_156 : decode cX8_setOne 156 = .ok (.if_icmp .le 13, 3) := by decide +kernel
theorem dX8_setOne_159 : decode cX8_setOne 159 = .ok (.aload_n 0, 1) := by decide +kernel
theorem dX8_setOne_160 : decode cX8_setOne 160 = .ok (.getfield 55, 3) := by decide +kernel
theorem dX8_setOne_163 : decode cX8_setOne 163 = .ok (.iload 8, 2) := by decide +kernel
theorem dX8_setOne_165 : decode cX8_setOne 165 = .ok (.iaload, 1) := by decide +kernel
theorem dX8_setOne_166 : decode cX8_setOne 166 = .ok (.goto 5, 3) := by decide +kernel
theorem dX8_setOne_169 : decode cX8_setOne 169 = .ok (.iload 5, 2) := by decide +kernel
theorem dX8_setOne_171 : decode cX8_setOne 171 = .ok (.istore 5, 2) := by decide +kernel
theorem dX8_setOne_173 : decode cX8_setOne 173 = .ok (.iinc 7 1, 3) := by decide +kernel
theorem dX8_setOne_176 : decode cX8_setOne 176 = .ok (.goto (-106), 3) := by decide +kernel
theorem dX8_setOne_179 : decode cX8_setOne 179 = .ok (.iload 6, 2) := by decide +kernel
theorem dX8_setOne_181 : decode cX8_setOne 181 = .ok (.ifCond .eq 60, 3) := by decide +kernel
theorem dX8_setOne_184 : decode cX8_setOne 184 = .ok (.iload 4, 2) := by decide +kernel
theorem dX8_setOne_186 : decode cX8_setOne 186 = .ok (.ldc 191, 2) := by decide +kernel
theorem dX8_setOne_188 : decode cX8_setOne 188 = .ok (.if_icmp .ge 53, 3) := by decide +kernel
theorem dX8_setOne_191 : decode cX8_setOne 191 = .ok (.iload 4, 2) := by decide +kernel
theorem dX8_setOne_193 : decode cX8_setOne 193 = .ok (.aload_n 0, 1) := by decide +kernel
theorem dX8_setOne_194 : decode cX8_setOne 194 = .ok (.getfield 26, 3) := by decide +kernel
theorem dX8_setOne_197 : decode cX8_setOne 197 = .ok (.iload_n 3, 1) := by decide +kernel
theorem dX8_setOne_198 : decode cX8_setOne 198 = .ok (.iaload, 1) := by decide +kernel
theorem dX8_setOne_199 : decode cX8_setOne 199 = .ok (.iadd, 1) := by decide +kernel
theorem dX8_setOne_200 : decode cX8_setOne 200 = .ok (.aload_n 0, 1) := by decide +kernel
theorem dX8_setOne_201 : decode cX8_setOne 201 = .ok (.getfield 49, 3) := by decide +kernel
theorem dX8_setOne_204 : decode cX8_setOne 204 = .ok (.iload_n 1, 1) := by decide +kernel
theorem dX8_setOne_205 : decode cX8_setOne 205 = .ok (.iaload, 1) := by decide +kernel
theorem dX8_setOne_206 : decode cX8_setOne 206 = .ok (.if_icmp .ge 35, 3) := by decide +kernel
theorem dX8_setOne_209 : decode cX8_setOne 209 = .ok (.aload_n 0, 1) := by decide +kernel
theorem dX8_setOne_210 : decode cX8_setOne 210 = .ok (.getfield 49, 3) := by decide +kernel
theorem dX8_setOne_213 : decode cX8_setOne 213 = .ok (.iload_n 1, 1) := by decide +kernel
theorem dX8_setOne_214 : decode cX8_setOne 214 = .ok (.iload 4, 2) := by decide +kernel
theorem dX8_setOne_216 : decode cX8_setOne 216 = .ok (.aload_n 0, 1) := by decide +kernel
theorem dX8_setOne_217 : decode cX8_setOne 217 = .ok (.getfield 26, 3) := by decide +kernel
theorem dX8_setOne_220 : decode cX8_setOne 220 = .ok (.iload_n 3, 1) := by decide +kernel
theorem dX8_setOne_221 : decode cX8_setOne 221 = .ok (.iaload, 1) := by decide +kernel
theorem dX8_setOne_222 : decode cX8_setOne 222 = .ok (.iadd, 1) := by decide +kernel
theorem dX8_setOne_223 : decode cX8_setOne 223 = .ok (.iastore, 1) := by decide +kernel
theorem dX8_setOne_224 : decode cX8_setOne 224 = .ok (.aload_n 0, 1) := by decide +kernel
theorem dX8_setOne_225 : decode cX8_setOne 225 = .ok (.getfield 52, 3) := by decide +kernel
theorem dX8_setOne_228 : decode cX8_setOne 228 = .ok (.iload_n 1, 1) := by decide +kernel
theorem dX8_setOne_229 : decode cX8_setOne 229 = .ok (.iload_n 3, 1) := by decide +kernel
theorem dX8_setOne_230 : decode cX8_setOne 230 = .ok (.iastore, 1) := by decide +kernel
theorem dX8_setOne_231 : decode cX8_setOne 231 = .ok (.aload_n 0, 1) := by decide +kernel
theorem dX8_setOne_232 : decode cX8_setOne 232 = .ok (.getfield 55, 3) := by decide +kernel
theorem dX8_setOne_235 : decode cX8_setOne 235 = .ok (.iload_n 1, 1) := by decide +kernel
theorem dX8_setOne_236 : decode cX8_setOne 236 = .ok (.iconst 1, 1) := by decide +kernel
theorem dX8_setOne_237 : decode cX8_setOne 237 = .ok (.iload 5, 2) := by decide +kernel
theorem dX8_setOne_239 : decode cX8_setOne 239 = .ok (.iadd, 1) := by decide +kernel
theorem dX8_setOne_240 : decode cX8_setOne 240 = .ok (.iastore, 1) := by decide +kernel
theorem dX8_setOne_241 : decode cX8_setOne 241 = .ok (.iinc 3 1, 3) := by decide +kernel
theorem dX8_setOne_244 : decode cX8_setOne 244 = .ok (.goto (-198), 3) := by decide +kernel
theorem dX8_setOne_247 : decode cX8_setOne 247 = .ok (.return_, 1) := by decide +kernel
theorem dX8_oneByOne_0 : decode cX8_oneByOne 0 = .ok (.iload_n 1, 1) := by decide +kernel
theorem dX8_oneByOne_1 : decode cX8_oneByOne 1 = .ok (.iconst 0, 1) := by decide +kernel
theorem dX8_oneByOne_2 : decode cX8_oneByOne 2 = .ok (.iconst 2, 1) := by decide +kernel
theorem dX8_oneByOne_3 : decode cX8_oneByOne 3 = .ok (.invokestatic 84, 3) := by decide +kernel
theorem dX8_oneByOne_6 : decode cX8_oneByOne 6 = .ok (.ifCond .ne 8, 3) := by decide +kernel
theorem dX8_oneByOne_9 : decode cX8_oneByOne 9 = .ok (.aload_n 0, 1) := by decide +kernel
theorem dX8_oneByOne_10 : decode cX8_oneByOne 10 = .ok (.invokevirtual 88, 3) := by decide +kernel
theorem dX8_oneByOne_13 : decode cX8_oneByOne 13 = .ok (.ireturn, 1) := by decide +kernel
theorem dX8_oneByOne_14 : decode cX8_oneByOne 14 = .ok (.aload_n 0, 1) := by decide +kernel
theorem dX8_oneByOne_15 : decode cX8_oneByOne 15 = .ok (.invokevirtual 182, 3) := by decide +kernel
theorem dX8_oneByOne_18 : decode cX8_oneByOne 18 = .ok (.istore_n 2, 1) := by decide +kernel
theorem dX8_oneByOne_19 : decode cX8_oneByOne 19 = .ok (.aload_n 0, 1) := by decide +kernel
theorem dX8_oneByOne_20 : decode cX8_oneByOne 20 = .ok (.iload_n 2, 1) := by decide +kernel
theorem dX8_oneByOne_21 : decode cX8_oneByOne 21 = .ok (.invokevirtual 222, 3) := by decide +kernel
theorem dX8_oneByOne_24 : decode cX8_oneByOne 24 = .ok (.aload_n 0, 1) := by decide +kernel
theorem dX8_oneByOne_25 : decode cX8_oneByOne 25 = .ok (.getfield 49, 3) := by decide +kernel
theorem dX8_oneByOne_28 : decode cX8_oneByOne 28 = .ok (.iload_n 2, 1) := by decide +kernel
theorem dX8_oneByOne_29 : decode cX8_oneByOne 29 = .ok (.iaload, 1) := by decide +kernel
theorem dX8_oneByOne_30 : decode cX8_oneByOne 30 = .ok (.ldc 191, 2) := by decide +kernel
theorem dX8_oneByOne_32 : decode cX8_oneByOne 32 = .ok (.if_icmp .lt 5, 3) := by decide +kernel
theorem dX8_oneByOne_35 : decode cX8_oneByOne 35 = .ok (.iconst (-1), 1) := by decide +kernel
theorem dX8_oneByOne_36 : decode cX8_oneByOne 36 = .ok (.ireturn, 1) := by decide +kernel
theorem dX8_oneByOne_37 : decode cX8_oneByOne 37 = .ok (.iload_n 1, 1) := by decide +kernel
theorem dX8_oneByOne_38 : decode cX8_oneByOne 38 = .ok (.ifCond .ne 12, 3) := by decide +kernel
theorem dX8_oneByOne_41 : decode cX8_oneByOne 41 = .ok (.aload_n 0, 1) := by decide +kernel
theorem dX8_oneByOne_42 : decode cX8_oneByOne 42 = .ok (.getfield 49, 3) := by decide +kernel
theorem dX8_oneByOne_45 : decode cX8_oneByOne 45 = .ok (.iload_n 2, 1) := by decide +kernel
theorem dX8_oneByOne_46 : decode cX8_oneByOne 46 = .ok (.iaload, 1) := by decide +kernel
theorem dX8_oneByOne_47 : decode cX8_oneByOne 47 = .ok (.goto 23, 3) := by decide +kernel
theorem dX8_oneByOne_50 : decode cX8_oneByOne 50 = .ok (.iload_n 1, 1) := by decide +kernel
theorem dX8_oneByOne_51 : decode cX8_oneByOne 51 = .ok (.iconst 1, 1) := by decide +kernel
theorem dX8_oneByOne_52 : decode cX8_oneByOne 52 = .ok (.if_icmp .ne 12, 3) := by decide +kernel
theorem dX8_oneByOne_55 : decode cX8_oneByOne 55 = .ok (.aload_n 0, 1) := by decide +kernel
theorem dX8_oneByOne_56 : decode cX8_oneByOne 56 = .ok (.getfield 52, 3) := by decide +kernel
theorem dX8_oneByOne_59 : decode cX8_oneByOne 59 = .ok (.iload_n 2, 1) := by decide +kernel
theorem dX8_oneByOne_60 : decode cX8_oneByOne 60 = .ok (.iaload, 1) := by decide +kernel
theorem dX8_oneByOne_61 : decode cX8_oneByOne 61 = .ok (.goto 9, 3) := by decide +kernel
theorem dX8_oneByOne_64 : decode cX8_oneByOne 64 = .ok (.aload_n 0, 1) := by decide +kernel
theorem dX8_oneByOne_65 : decode cX8_oneByOne 65 = .ok (.getfield 55, 3) := by decide +kernel
theorem dX8_oneByOne_68 : decode cX8_oneByOne 68 = .ok (.iload_n 2, 1) := by decide +kernel
theorem dX8_oneByOne_69 : decode cX8_oneByOne 69 = .ok (.iaload, 1) := by decide +kernel
theorem dX8_oneByOne_70 : decode cX8_oneByOne 70 = .ok (.ireturn, 1) := by decide +kernel
theorem dX8_oneWrong_0 : decode cX8_oneWrong 0 = .ok (.iconst 0, 1) := by decide +kernel
theorem dX8_oneWrong_1 : decode cX8_oneWrong 1 = .ok (.istore_n 1, 1) := by decide +kernel
theorem dX8_oneWrong_2 : decode cX8_oneWrong 2 = .ok (.iconst 0, 1) := by decide +kernel
theorem dX8_oneWrong_3 : decode cX8_oneWrong 3 = .ok (.istore_n 2, 1) := by decide +kernel
theorem dX8_oneWrong_4 : decode cX8_oneWrong 4 = .ok (.iload_n 2, 1) := by decide +kernel
theorem dX8_oneWrong_5 : decode cX8_oneWrong 5 = .ok (.aload_n 0, 1) := by decide +kernel
theorem dX8_oneWrong_6 : decode cX8_oneWrong 6 = .ok (.getfield 13, 3) := by decide +kernel
theorem dX8_oneWrong_9 : decode cX8_oneWrong 9 = .ok (.if_icmp .ge 80, 3) := by decide +kernel
theorem dX8_oneWrong_12 : decode cX8_oneWrong 12 = .ok (.iconst 0, 1) := by decide +kernel
theorem dX8_oneWrong_13 : decode cX8_oneWrong 13 = .ok (.istore_n 3, 1) := by decide +kernel
theorem dX8_oneWrong_14 : decode cX8_oneWrong 14 = .ok (.iconst 0, 1) := by decide +kernel
theorem dX8_oneWrong_15 : decode cX8_oneWrong 15 = .ok (.istore 4, 2) := by decide +kernel
theorem dX8_oneWrong_17 : decode cX8_oneWrong 17 = .ok (.iload 4, 2) := by decide +kernel
theorem dX8_oneWrong_19 : decode cX8_oneWrong 19 = .ok (.aload_n 0, 1) := by decide +kernel
theorem dX8_oneWrong_20 : decode cX8_oneWrong 20 = .ok (.getfield 78, 3) := by decide +kernel
theorem dX8_oneWrong_23 : decode cX8_oneWrong 23 = .ok (.if_icmp .ge 45, 3) := by decide +kernel
theorem dX8_oneWrong_26 : decode cX8_oneWrong 26 = .ok (.iload_n 3, 1) := by decide +kernel
theorem dX8_oneWrong_27 : decode cX8_oneWrong 27 = .ok (.aload_n 0, 1) := by decide +kernel
theorem dX8_oneWrong_28 : decode cX8_oneWrong 28 = .ok (.aload_n 0, 1) := by decide +kernel
theorem dX8_oneWrong_29 : decode cX8_oneWrong 29 = .ok (.getfield 29, 3) := by decide +kernel
theorem dX8_oneWrong_32 : decode cX8_oneWrong 32 = .ok (.iconst 2, 1) := by decide +kernel
theorem dX8_oneWrong_33 : decode cX8_oneWrong 33 = .ok (.iload 4, 2) := by decide +kernel
theorem dX8_oneWrong_35 : decode cX8_oneWrong 35 = .ok (.imul, 1) := by decide +kernel
theorem dX8_oneWrong_36 : decode cX8_oneWrong 36 = .ok (.iaload, 1) := by decide +kernel
theorem dX8_oneWrong_37 : decode cX8_oneWrong 37 = .ok (.iload_n 2, 1) := by decide +kernel
theorem dX8_oneWrong_38 : decode cX8_oneWrong 38 = .ok (.invokevirtual 169, 3) := by decide +kernel
theorem dX8_oneWrong_41 : decode cX8_oneWrong 41 = .ok (.aload_n 0, 1) := by decide +kernel
theorem dX8_oneWrong_42 : decode cX8_oneWrong 42 = .ok (.getfield 29, 3) := by decide +kernel
