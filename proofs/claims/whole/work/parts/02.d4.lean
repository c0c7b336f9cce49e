theorem dX8_oneWrong_45 : decode cX8_oneWrong 45 = .ok (.iconst 2, 1) := by decide +kernel
theorem dX8_oneWrong_46 : decode cX8_oneWrong 46 = .ok (.iload 4, 2) := by decide +kernel
theorem dX8_oneWrong_48 : decode cX8_oneWrong 48 = .ok (.imul, 1) := by decide +kernel
theorem dX8_oneWrong_49 : decode cX8_oneWrong 49 = .ok (.iconst 1, 1) := by decide +kernel
theorem dX8_oneWrong_50 : decode cX8_oneWrong 50 = .ok (.iadd, 1) := by decide +kernel
theorem dX8_oneWrong_51 : decode cX8_oneWrong 51 = .ok (.iaload, 1) := by decide +kernel
theorem dX8_oneWrong_52 : decode cX8_oneWrong 52 = .ok (.if_icmp .ne 7, 3) := by decide +kernel
theorem dX8_oneWrong_55 : decode cX8_oneWrong 55 = .ok (.iconst 0, 1) := by decide +kernel
theorem dX8_oneWrong_56 : decode cX8_oneWrong 56 = .ok (.goto 4, 3) := by decide +kernel
theorem dX8_oneWrong_59 : decode cX8_oneWrong 59 = .ok (.iconst 1, 1) := by decide +kernel
theorem dX8_oneWrong_60 : decode cX8_oneWrong 60 = .ok (.iadd, 1) := by decide +kernel
theorem dX8_oneWrong_61 : decode cX8_oneWrong 61 = .ok (.istore_n 3, 1) := by decide +kernel
theorem dX8_oneWrong_62 : decode cX8_oneWrong 62 = .ok (.iinc 4 1, 3) := by decide +kernel
theorem dX8_oneWrong_65 : decode cX8_oneWrong 65 = .ok (.goto (-48), 3) := by decide +kernel
theorem dX8_oneWrong_68 : decode cX8_oneWrong 68 = .ok (.iload_n 1, 1) := by decide +kernel
theorem dX8_oneWrong_69 : decode cX8_oneWrong 69 = .ok (.iload_n 3, 1) := by decide +kernel
theorem dX8_oneWrong_70 : decode cX8_oneWrong 70 = .ok (.iconst 2, 1) := by decide +kernel
theorem dX8_oneWrong_71 : decode cX8_oneWrong 71 = .ok (.if_icmp .ge 9, 3) := by decide +kernel
theorem dX8_oneWrong_74 : decode cX8_oneWrong 74 = .ok (.iconst 1, 1) := by decide +kernel
theorem dX8_oneWrong_75 : decode cX8_oneWrong 75 = .ok (.iload_n 2, 1) := by decide +kernel
theorem dX8_oneWrong_76 : decode cX8_oneWrong 76 = .ok (.ishl, 1) := by decide +kernel
theorem dX8_oneWrong_77 : decode cX8_oneWrong 77 = .ok (.goto 4, 3) := by decide +kernel
theorem dX8_oneWrong_80 : decode cX8_oneWrong 80 = .ok (.iconst 0, 1) := by decide +kernel
theorem dX8_oneWrong_81 : decode cX8_oneWrong 81 = .ok (.ior, 1) := by decide +kernel
theorem dX8_oneWrong_82 : decode cX8_oneWrong 82 = .ok (.istore_n 1, 1) := by decide +kernel
theorem dX8_oneWrong_83 : decode cX8_oneWrong 83 = .ok (.iinc 2 1, 3) := by decide +kernel
theorem dX8_oneWrong_86 : decode cX8_oneWrong 86 = .ok (.goto (-82), 3) := by decide +kernel
theorem dX8_oneWrong_89 : decode cX8_oneWrong 89 = .ok (.iload_n 1, 1) := by decide +kernel
theorem dX8_oneWrong_90 : decode cX8_oneWrong 90 = .ok (.ireturn, 1) := by decide +kernel
theorem dX8_knownBy_0 : decode cX8_knownBy 0 = .ok (.aload_n 0, 1) := by decide +kernel
theorem dX8_knownBy_1 : decode cX8_knownBy 1 = .ok (.invokevirtual 173, 3) := by decide +kernel
theorem dX8_knownBy_4 : decode cX8_knownBy 4 = .ok (.istore_n 3, 1) := by decide +kernel
theorem dX8_knownBy_5 : decode cX8_knownBy 5 = .ok (.iconst 0, 1) := by decide +kernel
theorem dX8_knownBy_6 : decode cX8_knownBy 6 = .ok (.istore 4, 2) := by decide +kernel
theorem dX8_knownBy_8 : decode cX8_knownBy 8 = .ok (.iload 4, 2) := by decide +kernel
theorem dX8_knownBy_10 : decode cX8_knownBy 10 = .ok (.aload_n 0, 1) := by decide +kernel
theorem dX8_knownBy_11 : decode cX8_knownBy 11 = .ok (.getfield 75, 3) := by decide +kernel
theorem dX8_knownBy_14 : decode cX8_knownBy 14 = .ok (.if_icmp .ge 38, 3) := by decide +kernel
theorem dX8_knownBy_17 : decode cX8_knownBy 17 = .ok (.iload_n 3, 1) := by decide +kernel
theorem dX8_knownBy_18 : decode cX8_knownBy 18 = .ok (.iload_n 1, 1) := by decide +kernel
theorem dX8_knownBy_19 : decode cX8_knownBy 19 = .ok (.iload 4, 2) := by decide +kernel
theorem dX8_knownBy_21 : decode cX8_knownBy 21 = .ok (.invokestatic 188, 3) := by decide +kernel
theorem dX8_knownBy_24 : decode cX8_knownBy 24 = .ok (.ifCond .eq 19, 3) := by decide +kernel
theorem dX8_knownBy_27 : decode cX8_knownBy 27 = .ok (.aload_n 0, 1) := by decide +kernel
theorem dX8_knownBy_28 : decode cX8_knownBy 28 = .ok (.iload 4, 2) := by decide +kernel
theorem dX8_knownBy_30 : decode cX8_knownBy 30 = .ok (.aload_n 0, 1) := by decide +kernel
theorem dX8_knownBy_31 : decode cX8_knownBy 31 = .ok (.iload 4, 2) := by decide +kernel
theorem dX8_knownBy_33 : decode cX8_knownBy 33 = .ok (.iload_n 2, 1) := by decide +kernel
theorem dX8_knownBy_34 : decode cX8_knownBy 34 = .ok (.invokevirtual 169, 3) := by decide +kernel
theorem dX8_knownBy_37 : decode cX8_knownBy 37 = .ok (.invokevirtual 176, 3) := by decide +kernel
theorem dX8_knownBy_40 : decode cX8_knownBy 40 = .ok (.goto 4, 3) := by decide +kernel
theorem dX8_knownBy_43 : decode cX8_knownBy 43 = .ok (.iload_n 3, 1) := by decide +kernel
theorem dX8_knownBy_44 : decode cX8_knownBy 44 = .ok (.iand, 1) := by decide +kernel
theorem dX8_knownBy_45 : decode cX8_knownBy 45 = .ok (.istore_n 3, 1) := by decide +kernel
theorem dX8_knownBy_46 : decode cX8_knownBy 46 = .ok (.iinc 4 1, 3) := by decide +kernel
theorem dX8_knownBy_49 : decode cX8_knownBy 49 = .ok (.goto (-41), 3) := by decide +kernel
theorem dX8_knownBy_52 : decode cX8_knownBy 52 = .ok (.iload_n 3, 1) := by decide +kernel
theorem dX8_knownBy_53 : decode cX8_knownBy 53 = .ok (.ireturn, 1) := by decide +kernel
theorem dX8_knows_0 : decode cX8_knows 0 = .ok (.aload_n 0, 1) := by decide +kernel
theorem dX8_knows_1 : decode cX8_knows 1 = .ok (.iload_n 1, 1) := by decide +kernel
theorem dX8_knows_2 : decode cX8_knows 2 = .ok (.invokevirtual 92, 3) := by decide +kernel
theorem dX8_knows_5 : decode cX8_knows 5 = .ok (.ifCond .eq 32, 3) := by decide +kernel
theorem dX8_knows_8 : decode cX8_knows 8 = .ok (.iload_n 2, 1) := by decide +kernel
theorem dX8_knows_9 : decode cX8_knows 9 = .ok (.iconst 0, 1) := by decide +kernel
theorem dX8_knows_10 : decode cX8_knows 10 = .ok (.aload_n 0, 1) := by decide +kernel
theorem dX8_knows_11 : decode cX8_knows 11 = .ok (.invokevirtual 173, 3) := by decide +kernel
theorem dX8_knows_14 : decode cX8_knows 14 = .ok (.invokestatic 84, 3) := by decide +kernel
theorem dX8_knows_17 : decode cX8_knows 17 = .ok (.ifCond .eq 20, 3) := by decide +kernel
theorem dX8_knows_20 : decode cX8_knows 20 = .ok (.iload_n 2, 1) := by decide +kernel
theorem dX8_knows_21 : decode cX8_knows 21 = .ok (.iload_n 1, 1) := by decide +kernel
theorem dX8_knows_22 : decode cX8_knows 22 = .ok (.invokestatic 188, 3) := by decide +kernel
theorem dX8_knows_25 : decode cX8_knows 25 = .ok (.ifCond .eq 12, 3) := by decide +kernel
theorem dX8_knows_28 : decode cX8_knows 28 = .ok (.iload_n 3, 1) := by decide +kernel
theorem dX8_knows_29 : decode cX8_knows 29 = .ok (.iconst 0, 1) := by decide +kernel
theorem dX8_knows_30 : decode cX8_knows 30 = .ok (.iconst 1, 1) := by decide +kernel
theorem dX8_knows_31 : decode cX8_knows 31 = .ok (.invokestatic 84, 3) := by decide +kernel
theorem dX8_knows_34 : decode cX8_knows 34 = .ok (.ifCond .ne 8, 3) := by decide +kernel
theorem dX8_knows_37 : decode cX8_knows 37 = .ok (.aload_n 0, 1) := by decide +kernel
theorem dX8_knows_38 : decode cX8_knows 38 = .ok (.invokevirtual 204, 3) := by decide +kernel
theorem dX8_knows_41 : decode cX8_knows 41 = .ok (.ireturn, 1) := by decide +kernel
theorem dX8_knows_42 : decode cX8_knows 42 = .ok (.iconst 0, 1) := by decide +kernel
theorem dX8_knows_43 : decode cX8_knows 43 = .ok (.istore 4, 2) := by decide +kernel
theorem dX8_knows_45 : decode cX8_knows 45 = .ok (.iconst (-1), 1) := by decide +kernel
theorem dX8_knows_46 : decode cX8_knows 46 = .ok (.istore 5, 2) := by decide +kernel
theorem dX8_knows_48 : decode cX8_knows 48 = .ok (.iconst 0, 1) := by decide +kernel
theorem dX8_knows_49 : decode cX8_knows 49 = .ok (.istore 6, 2) := by decide +kernel
theorem dX8_knows_51 : decode cX8_knows 51 = .ok (.iload 6, 2) := by decide +kernel
theorem dX8_knows_53 : decode cX8_knows 53 = .ok (.iconst 1, 1) := by decide +kernel
theorem dX8_knows_54 : decode cX8_knows 54 = .ok (.aload_n 0, 1) := by decide +kernel
theorem dX8_knows_55 : decode cX8_knows 55 = .ok (.getfield 75, 3) := by decide +kernel
theorem dX8_knows_58 : decode cX8_knows 58 = .ok (.ishl, 1) := by decide +kernel
theorem dX8_knows_59 : decode cX8_knows 59 = .ok (.if_icmp .ge 40, 3) := by decide +kernel
theorem dX8_knows_62 : decode cX8_knows 62 = .ok (.aload_n 0, 1) := by decide +kernel
theorem dX8_knows_63 : decode cX8_knows 63 = .ok (.iload 6, 2) := by decide +kernel
theorem dX8_knows_65 : decode cX8_knows 65 = .ok (.iload_n 1, 1) := by decide +kernel
theorem dX8_knows_66 : decode cX8_knows 66 = .ok (.invokevirtual 225, 3) := by decide +kernel
theorem dX8_knows_69 : decode cX8_knows 69 = .ok (.iload_n 2, 1) := by decide +kernel
theorem dX8_knows_70 : decode cX8_knows 70 = .ok (.if_icmp .ne 23, 3) := by decide +kernel
theorem dX8_knows_73 : decode cX8_knows 73 = .ok (.iload 4, 2) := by decide +kernel
theorem dX8_knows_75 : decode cX8_knows 75 = .ok (.ifCond .ne 8, 3) := by decide +kernel
theorem dX8_knows_78 : decode cX8_knows 78 = .ok (.iload 6, 2) := by decide +kernel
theorem dX8_knows_80 : decode cX8_knows 80 = .ok (.goto 8, 3) := by decide +kernel
theorem dX8_knows_83 : decode cX8_knows 83 = .ok (.iload 5, 2) := by decide +kernel
theorem dX8_knows_85 : decode cX8_knows 85 = .ok (.iload 6, 2) := by decide +kernel
theorem dX8_knows_87 : decode cX8_knows 87 = .ok (.iand, 1) := by decide +kernel
theorem dX8_knows_88 : decode cX8_knows 88 = .ok (.istore 5, 2) := by decide +kernel
theorem dX8_knows_90 : decode cX8_knows 90 = .ok (.iinc 4 1, 3) := by decide +kernel
theorem dX8_knows_93 : decode cX8_knows 93 = .ok (.iinc 6 1, 3) := by decide +kernel
theorem dX8_knows_96 : decode cX8_knows 96 = .ok (.goto (-45), 3) := by decide +kernel
theorem dX8_knows_99 : decode cX8_knows 99 = .ok (.iload_n 3, 1) := by decide +kernel
theorem dX8_knows_100 : decode cX8_knows 100 = .ok (.ifCond .ne 8, 3) := by decide +kernel
theorem dX8_knows_103 : decode cX8_knows 103 = .ok (.iload 4, 2) := by decide +kernel
theorem dX8_knows_105 : decode cX8_knows 105 = .ok (.goto 5, 3) := by decide +kernel
theorem dX8_knows_108 : decode cX8_knows 108 = .ok (.iload 5, 2) := by decide +kernel
theorem dX8_knows_110 : decode cX8_knows 110 = .ok (.ireturn, 1) := by decide +kernel
theorem dX8_partedBy_0 : decode cX8_partedBy 0 = .ok (.iconst 0, 1) := by decide +kernel
theorem dX8_partedBy_1 : decode cX8_partedBy 1 = .ok (.istore_n 3, 1) := by decide +kernel
theorem dX8_partedBy_2 : decode cX8_partedBy 2 = .ok (.iconst 0, 1) := by decide +kernel
theorem dX8_partedBy_3 : decode cX8_partedBy 3 = .ok (.istore 4, 2) := by decide +kernel
theorem dX8_partedBy_5 : decode cX8_partedBy 5 = .ok (.iload 4, 2) := by decide +kernel
theorem dX8_partedBy_7 : decode cX8_partedBy 7 = .ok (.aload_n 0, 1) := by decide +kernel
theorem dX8_partedBy_8 : decode cX8_partedBy 8 = .ok (.getfield 13, 3) := by decide +kernel
theorem dX8_partedBy_11 : decode cX8_partedBy 11 = .ok (.if_icmp .ge 63, 3) := by decide +kernel
theorem dX8_partedBy_14 : decode cX8_partedBy 14 = .ok (.iconst 0, 1) := by decide +kernel
theorem dX8_partedBy_15 : decode cX8_partedBy 15 = .ok (.istore 5, 2) := by decide +kernel
theorem dX8_partedBy_17 : decode cX8_partedBy 17 = .ok (.iload 5, 2) := by decide +kernel
theorem dX8_partedBy_19 : decode cX8_partedBy 19 = .ok (.iload 4, 2) := by decide +kernel
theorem dX8_partedBy_21 : decode cX8_partedBy 21 = .ok (.if_icmp .ge 47, 3) := by decide +kernel
theorem dX8_partedBy_24 : decode cX8_partedBy 24 = .ok (.iload_n 3, 1) := by decide +kernel
theorem dX8_partedBy_25 : decode cX8_partedBy 25 = .ok (.iload_n 2, 1) := by decide +kernel
theorem dX8_partedBy_26 : decode cX8_partedBy 26 = .ok (.iload 4, 2) := by decide +kernel
theorem dX8_partedBy_28 : decode cX8_partedBy 28 = .ok (.invokestatic 188, 3) := by decide +kernel
theorem dX8_partedBy_31 : decode cX8_partedBy 31 = .ok (.ifCond .eq 28, 3) := by decide +kernel
theorem dX8_partedBy_34 : decode cX8_partedBy 34 = .ok (.iload_n 2, 1) := by decide +kernel
theorem dX8_partedBy_35 : decode cX8_partedBy 35 = .ok (.iload 5, 2) := by decide +kernel
theorem dX8_partedBy_37 : decode cX8_partedBy 37 = .ok (.invokestatic 188, 3) := by decide +kernel
theorem dX8_partedBy_40 : decode cX8_partedBy 40 = .ok (.ifCond .eq 19, 3) := by decide +kernel
theorem dX8_partedBy_43 : decode cX8_partedBy 43 = .ok (.aload_n 0, 1) := by decide +kernel
theorem dX8_partedBy_44 : decode cX8_partedBy 44 = .ok (.iload_n 1, 1) := by decide +kernel
theorem dX8_partedBy_45 : decode cX8_partedBy 45 = .ok (.iload 4, 2) := by decide +kernel
theorem dX8_partedBy_47 : decode cX8_partedBy 47 = .ok (.iload 5, 2) := by decide +kernel
theorem dX8_partedBy_49 : decode cX8_partedBy 49 = .ok (.invokevirtual 201, 3) := by decide +kernel
theorem dX8_partedBy_52 : decode cX8_partedBy 52 = .ok (.ifCond .eq 7, 3) := by decide +kernel
theorem dX8_partedBy_55 : decode cX8_partedBy 55 = .ok (.iconst 1, 1) := by decide +kernel
theorem dX8_partedBy_56 : decode cX8_partedBy 56 = .ok (.goto 4, 3) := by decide +kernel
theorem dX8_partedBy_59 : decode cX8_partedBy 59 = .ok (.iconst 0, 1) := by decide +kernel
theorem dX8_partedBy_60 : decode cX8_partedBy 60 = .ok (.iadd, 1) := by decide +kernel
theorem dX8_partedBy_61 : decode cX8_partedBy 61 = .ok (.istore_n 3, 1) := by decide +kernel
theorem dX8_partedBy_62 : decode cX8_partedBy 62 = .ok (.iinc 5 1, 3) := by decide +kernel
theorem dX8_partedBy_65 : decode cX8_partedBy 65 = .ok (.goto (-48), 3) := by decide +kernel
theorem dX8_partedBy_68 : decode cX8_partedBy 68 = .ok (.iinc 4 1, 3) := by decide +kernel
theorem dX8_partedBy_71 : decode cX8_partedBy 71 = .ok (.goto (-66), 3) := by decide +kernel
theorem dX8_partedBy_74 : decode cX8_partedBy 74 = .ok (.iload_n 3, 1) := by decide +kernel
theorem dX8_partedBy_75 : decode cX8_partedBy 75 = .ok (.ireturn, 1) := by decide +kernel
theorem dX8_partedByAny_0 : decode cX8_partedByAny 0 = .ok (.iconst 0, 1) := by decide +kernel
theorem dX8_partedByAny_1 : decode cX8_partedByAny 1 = .ok (.istore_n 2, 1) := by decide +kernel
theorem dX8_partedByAny_2 : decode cX8_partedByAny 2 = .ok (.iconst 0, 1) := by decide +kernel
theorem dX8_partedByAny_3 : decode cX8_partedByAny 3 = .ok (.istore_n 3, 1) := by decide +kernel
theorem dX8_partedByAny_4 : decode cX8_partedByAny 4 = .ok (.iload_n 3, 1) := by decide +kernel
theorem dX8_partedByAny_5 : decode cX8_partedByAny 5 = .ok (.aload_n 0, 1) := by decide +kernel
theorem dX8_partedByAny_6 : decode cX8_partedByAny 6 = .ok (.getfield 13, 3) := by decide +kernel
theorem dX8_partedByAny_9 : decode cX8_partedByAny 9 = .ok (.if_icmp .ge 99, 3) := by decide +kernel
theorem dX8_partedByAny_12 : decode cX8_partedByAny 12 = .ok (.iconst 0, 1) := by decide +kernel
theorem dX8_partedByAny_13 : decode cX8_partedByAny 13 = .ok (.istore 4, 2) := by decide +kernel
theorem dX8_partedByAny_15 : decode cX8_partedByAny 15 = .ok (.iload 4, 2) := by decide +kernel
theorem dX8_partedByAny_17 : decode cX8_partedByAny 17 = .ok (.iload_n 3, 1) := by decide +kernel
theorem dX8_partedByAny_18 : decode cX8_partedByAny 18 = .ok (.if_icmp .ge 84, 3) := by decide +kernel
theorem dX8_partedByAny_21 : decode cX8_partedByAny 21 = .ok (.iconst 0, 1) := by decide +kernel
theorem dX8_partedByAny_22 : decode cX8_partedByAny 22 = .ok (.istore 5, 2) := by decide +kernel
theorem dX8_partedByAny_24 : decode cX8_partedByAny 24 = .ok (.iconst 0, 1) := by decide +kernel
theorem dX8_partedByAny_25 : decode cX8_partedByAny 25 = .ok (.istore 6, 2) := by decide +kernel
theorem dX8_partedByAny_27 : decode cX8_partedByAny 27 = .ok (.iload 6, 2) := by decide +kernel
theorem dX8_partedByAny_29 : decode cX8_partedByAny 29 = .ok (.aload_n 0, 1) := by decide +kernel
theorem dX8_partedByAny_30 : decode cX8_partedByAny 30 = .ok (.getfield 75, 3) := by decide +kernel
theorem dX8_partedByAny_33 : decode cX8_partedByAny 33 = .ok (.if_icmp .ge 33, 3) := by decide +kernel
theorem dX8_partedByAny_36 : decode cX8_partedByAny 36 = .ok (.iload 5, 2) := by decide +kernel
theorem dX8_partedByAny_38 : decode cX8_partedByAny 38 = .ok (.ifCond .ne 15, 3) := by decide +kernel
theorem dX8_partedByAny_41 : decode cX8_partedByAny 41 = .ok (.aload_n 0, 1) := by decide +kernel
theorem dX8_partedByAny_42 : decode cX8_partedByAny 42 = .ok (.iload 6, 2) := by decide +kernel
theorem dX8_partedByAny_44 : decode cX8_partedByAny 44 = .ok (.iload_n 3, 1) := by decide +kernel
theorem dX8_partedByAny_45 : decode cX8_partedByAny 45 = .ok (.iload 4, 2) := by decide +kernel
theorem dX8_partedByAny_47 : decode cX8_partedByAny 47 = .ok (.invokevirtual 201, 3) := by decide +kernel
theorem dX8_partedByAny_50 : decode cX8_partedByAny 50 = .ok (.ifCond .eq 7, 3) := by decide +kernel
theorem dX8_partedByAny_53 : decode cX8_partedByAny 53 = .ok (.iconst 1, 1) := by decide +kernel
theorem dX8_partedByAny_54 : decode cX8_partedByAny 54 = .ok (.goto 4, 3) := by decide +kernel
theorem dX8_partedByAny_57 : decode cX8_partedByAny 57 = .ok (.iconst 0, 1) := by decide +kernel
theorem dX8_partedByAny_58 : decode cX8_partedByAny 58 = .ok (.istore 5, 2) := by decide +kernel
theorem dX8_partedByAny_60 : decode cX8_partedByAny 60 = .ok (.iinc 6 1, 3) := by decide +kernel
theorem dX8_partedByAny_63 : decode cX8_partedByAny 63 = .ok (.goto (-36), 3) := by decide +kernel
theorem dX8_partedByAny_66 : decode cX8_partedByAny 66 = .ok (.iload_n 2, 1) := by decide +kernel
theorem dX8_partedByAny_67 : decode cX8_partedByAny 67 = .ok (.iload 5, 2) := by decide +kernel
theorem dX8_partedByAny_69 : decode cX8_partedByAny 69 = .ok (.ifCond .eq 24, 3) := by decide +kernel
theorem dX8_partedByAny_72 : decode cX8_partedByAny 72 = .ok (.iload_n 1, 1) := by decide +kernel
theorem dX8_partedByAny_73 : decode cX8_partedByAny 73 = .ok (.iload_n 3, 1) := by decide +kernel
theorem dX8_partedByAny_74 : decode cX8_partedByAny 74 = .ok (.invokestatic 188, 3) := by decide +kernel
theorem dX8_partedByAny_77 : decode cX8_partedByAny 77 = .ok (.ifCond .eq 16, 3) := by decide +kernel
theorem dX8_partedByAny_80 : decode cX8_partedByAny 80 = .ok (.iload_n 1, 1) := by decide +kernel
theorem dX8_partedByAny_81 : decode cX8_partedByAny 81 = .ok (.iload 4, 2) := by decide +kernel
theorem dX8_partedByAny_83 : decode cX8_partedByAny 83 = .ok (.invokestatic 188, 3) := by decide +kernel
theorem dX8_partedByAny_86 : decode cX8_partedByAny 86 = .ok (.ifCond .eq 7, 3) := by decide +kernel
theorem dX8_partedByAny_89 : decode cX8_partedByAny 89 = .ok (.iconst 1, 1) := by decide +kernel
theorem dX8_partedByAny_90 : decode cX8_partedByAny 90 = .ok (.goto 4, 3) := by decide +kernel
theorem dX8_partedByAny_93 : decode cX8_partedByAny 93 = .ok (.iconst 0, 1) := by decide +kernel
theorem dX8_partedByAny_94 : decode cX8_partedByAny 94 = .ok (.iadd, 1) := by decide +kernel
theorem dX8_partedByAny_95 : decode cX8_partedByAny 95 = .ok (.istore_n 2, 1) := by decide +kernel
theorem dX8_partedByAny_96 : decode cX8_partedByAny 96 = .ok (.iinc 4 1, 3) := by decide +kernel
theorem dX8_partedByAny_99 : decode cX8_partedByAny 99 = .ok (.goto (-84), 3) := by decide +kernel
theorem dX8_partedByAny_102 : decode cX8_partedByAny 102 = .ok (.iinc 3 1, 3) := by decide +kernel
theorem dX8_partedByAny_105 : decode cX8_partedByAny 105 = .ok (.goto (-101), 3) := by decide +kernel
theorem dX8_partedByAny_108 : decode cX8_partedByAny 108 = .ok (.iload_n 2, 1) := by decide +kernel
theorem dX8_partedByAny_109 : decode cX8_partedByAny 109 = .ok (.ireturn, 1) := by decide +kernel
theorem dX8_parted_0 : decode cX8_parted 0 = .ok (.iload_n 1, 1) := by decide +kernel
theorem dX8_parted_1 : decode cX8_parted 1 = .ok (.iconst (-1), 1) := by decide +kernel
theorem dX8_parted_2 : decode cX8_parted 2 = .ok (.if_icmp .eq 16, 3) := by decide +kernel
theorem dX8_parted_5 : decode cX8_parted 5 = .ok (.aload_n 0, 1) := by decide +kernel
theorem dX8_parted_6 : decode cX8_parted 6 = .ok (.iload_n 1, 1) := by decide +kernel
theorem dX8_parted_7 : decode cX8_parted 7 = .ok (.invokevirtual 103, 3) := by decide +kernel
theorem dX8_parted_10 : decode cX8_parted 10 = .ok (.ifCond .ne 8, 3) := by decide +kernel
theorem dX8_parted_13 : decode cX8_parted 13 = .ok (.aload_n 0, 1) := by decide +kernel
theorem dX8_parted_14 : decode cX8_parted 14 = .ok (.invokevirtual 204, 3) := by decide +kernel
theorem dX8_parted_17 : decode cX8_parted 17 = .ok (.ireturn, 1) := by decide +kernel
theorem dX8_parted_18 : decode cX8_parted 18 = .ok (.aload_n 0, 1) := by decide +kernel
theorem dX8_parted_19 : decode cX8_parted 19 = .ok (.invokevirtual 182, 3) := by decide +kernel
theorem dX8_parted_22 : decode cX8_parted 22 = .ok (.istore_n 2, 1) := by decide +kernel
theorem dX8_parted_23 : decode cX8_parted 23 = .ok (.iload_n 1, 1) := by decide +kernel
theorem dX8_parted_24 : decode cX8_parted 24 = .ok (.iconst (-1), 1) := by decide +kernel
theorem dX8_parted_25 : decode cX8_parted 25 = .ok (.if_icmp .ne 11, 3) := by decide +kernel
theorem dX8_parted_28 : decode cX8_parted 28 = .ok (.aload_n 0, 1) := by decide +kernel
theorem dX8_parted_29 : decode cX8_parted 29 = .ok (.iload_n 2, 1) := by decide +kernel
theorem dX8_parted_30 : decode cX8_parted 30 = .ok (.invokevirtual 228, 3) := by decide +kernel
theorem dX8_parted_33 : decode cX8_parted 33 = .ok (.goto 9, 3) := by decide +kernel
theorem dX8_parted_36 : decode cX8_parted 36 = .ok (.aload_n 0, 1) := by decide +kernel
theorem dX8_parted_37 : decode cX8_parted 37 = .ok (.iload_n 1, 1) := by decide +kernel
theorem dX8_parted_38 : decode cX8_parted 38 = .ok (.iload_n 2, 1) := by decide +kernel
theorem dX8_parted_39 : decode cX8_parted 39 = .ok (.invokevirtual 231, 3) := by decide +kernel
theorem dX8_parted_42 : decode cX8_parted 42 = .ok (.ireturn, 1) := by decide +kernel
theorem dX8_lay_0 : decode cX8_lay 0 = .ok (.lload_n 1, 1) := by decide +kernel
theorem dX8_lay_1 : decode cX8_lay 1 = .ok (.lstore 5, 2) := by decide +kernel
theorem dX8_lay_3 : decode cX8_lay 3 = .ok (.lload_n 3, 1) := by decide +kernel
theorem dX8_lay_4 : decode cX8_lay 4 = .ok (.lstore 7, 2) := by decide +kernel
theorem dX8_lay_6 : decode cX8_lay 6 = .ok (.lload 7, 2) := by decide +kernel
theorem dX8_lay_8 : decode cX8_lay 8 = .ok (.lconst 0, 1) := by decide +kernel
theorem dX8_lay_9 : decode cX8_lay 9 = .ok (.lcmp, 1) := by decide +kernel
theorem dX8_lay_10 : decode cX8_lay 10 = .ok (.ifCond .eq 21, 3) := by decide +kernel
theorem dX8_lay_13 : decode cX8_lay 13 = .ok (.lload 5, 2) := by decide +kernel
theorem dX8_lay_15 : decode cX8_lay 15 = .ok (.lload 7, 2) := by decide +kernel
theorem dX8_lay_17 : decode cX8_lay 17 = .ok (.lrem, 1) := by decide +kernel
theorem dX8_lay_18 : decode cX8_lay 18 = .ok (.lstore 9, 2) := by decide +kernel
theorem dX8_lay_20 : decode cX8_lay 20 = .ok (.lload 7, 2) := by decide +kernel
theorem dX8_lay_22 : decode cX8_lay 22 = .ok (.lstore 5, 2) := by decide +kernel
theorem dX8_lay_24 : decode cX8_lay 24 = .ok (.lload 9, 2) := by decide +kernel
theorem dX8_lay_26 : decode cX8_lay 26 = .ok (.lstore 7, 2) := by decide +kernel
theorem dX8_lay_28 : decode cX8_lay 28 = .ok (.goto (-22), 3) := by decide +kernel
theorem dX8_lay_31 : decode cX8_lay 31 = .ok (.aload_n 0, 1) := by decide +kernel
theorem dX8_lay_32 : decode cX8_lay 32 = .ok (.lload_n 1, 1) := by decide +kernel
theorem dX8_lay_33 : decode cX8_lay 33 = .ok (.lload 5, 2) := by decide +kernel
theorem dX8_lay_35 : decode cX8_lay 35 = .ok (.ldiv, 1) := by decide +kernel
theorem dX8_lay_36 : decode cX8_lay 36 = .ok (.putfield 234, 3) := by decide +kernel
theorem dX8_lay_39 : decode cX8_lay 39 = .ok (.aload_n 0, 1) := by decide +kernel
theorem dX8_lay_40 : decode cX8_lay 40 = .ok (.lload_n 3, 1) := by decide +kernel
theorem dX8_lay_41 : decode cX8_lay 41 = .ok (.lload 5, 2) := by decide +kernel
theorem dX8_lay_43 : decode cX8_lay 43 = .ok (.ldiv, 1) := by decide +kernel
theorem dX8_lay_44 : decode cX8_lay 44 = .ok (.putfield 61, 3) := by decide +kernel
theorem dX8_lay_47 : decode cX8_lay 47 = .ok (.return_, 1) := by decide +kernel
theorem dX8_layLine_0 : decode cX8_layLine 0 = .ok (.iload_n 1, 1) := by decide +kernel
theorem dX8_layLine_1 : decode cX8_layLine 1 = .ok (.istore_n 2, 1) := by decide +kernel
theorem dX8_layLine_2 : decode cX8_layLine 2 = .ok (.iconst 0, 1) := by decide +kernel
theorem dX8_layLine_3 : decode cX8_layLine 3 = .ok (.istore_n 3, 1) := by decide +kernel
theorem dX8_layLine_4 : decode cX8_layLine 4 = .ok (.iload_n 2, 1) := by decide +kernel
theorem dX8_layLine_5 : decode cX8_layLine 5 = .ok (.ifCond .le 20, 3) := by decide +kernel
theorem dX8_layLine_8 : decode cX8_layLine 8 = .ok (.iload_n 3, 1) := by decide +kernel
theorem dX8_layLine_9 : decode cX8_layLine 9 = .ok (.bipush 7, 2) := by decide +kernel
theorem dX8_layLine_11 : decode cX8_layLine 11 = .ok (.if_icmp .ge 14, 3) := by decide +kernel
theorem dX8_layLine_14 : decode cX8_layLine 14 = .ok (.iload_n 2, 1) := by decide +kernel
theorem dX8_layLine_15 : decode cX8_layLine 15 = .ok (.bipush 10, 2) := by decide +kernel
theorem dX8_layLine_17 : decode cX8_layLine 17 = .ok (.idiv, 1) := by decide +kernel
theorem dX8_layLine_18 : decode cX8_layLine 18 = .ok (.istore_n 2, 1) := by decide +kernel
theorem dX8_layLine_19 : decode cX8_layLine 19 = .ok (.iinc 3 1, 3) := by decide +kernel
theorem dX8_layLine_22 : decode cX8_layLine 22 = .ok (.goto (-18), 3) := by decide +kernel
theorem dX8_layLine_25 : decode cX8_layLine 25 = .ok (.iload_n 1, 1) := by decide +kernel
theorem dX8_layLine_26 : decode cX8_layLine 26 = .ok (.ifCond .lt 11, 3) := by decide +kernel
theorem dX8_layLine_29 : decode cX8_layLine 29 = .ok (.iload_n 2, 1) := by decide +kernel
theorem dX8_layLine_30 : decode cX8_layLine 30 = .ok (.ifCond .ne 7, 3) := by decide +kernel
theorem dX8_layLine_33 : decode cX8_layLine 33 = .ok (.iconst 1, 1) := by decide +kernel
theorem dX8_layLine_34 : decode cX8_layLine 34 = .ok (.goto 4, 3) := by decide +kernel
theorem dX8_layLine_37 : decode cX8_layLine 37 = .ok (.iconst 0, 1) := by decide +kernel
theorem dX8_layLine_38 : decode cX8_layLine 38 = .ok (.istore 4, 2) := by decide +kernel
theorem dX8_layLine_40 : decode cX8_layLine 40 = .ok (.iload_n 1, 1) := by decide +kernel
theorem dX8_layLine_41 : decode cX8_layLine 41 = .ok (.istore_n 2, 1) := by decide +kernel
theorem dX8_layLine_42 : decode cX8_layLine 42 = .ok (.iload_n 3, 1) := by decide +kernel
theorem dX8_layLine_43 : decode cX8_layLine 43 = .ok (.iconst 1, 1) := by decide +kernel
theorem dX8_layLine_44 : decode cX8_layLine 44 = .ok (.isub, 1) := by decide +kernel
theorem dX8_layLine_45 : decode cX8_layLine 45 = .ok (.istore 5, 2) := by decide +kernel
theorem dX8_layLine_47 : decode cX8_layLine 47 = .ok (.iload 5, 2) := by decide +kernel
theorem dX8_layLine_49 : decode cX8_layLine 49 = .ok (.ifCond .lt 53, 3) := by decide +kernel
theorem dX8_layLine_52 : decode cX8_layLine 52 = .ok (.aload_n 0, 1) := by decide +kernel
theorem dX8_layLine_53 : decode cX8_layLine 53 = .ok (.getfield 65, 3) := by decide +kernel
theorem dX8_layLine_56 : decode cX8_layLine 56 = .ok (.iload 5, 2) := by decide +kernel
theorem dX8_layLine_58 : decode cX8_layLine 58 = .ok (.iload_n 2, 1) := by decide +kernel
theorem dX8_layLine_59 : decode cX8_layLine 59 = .ok (.bipush 10, 2) := by decide +kernel
theorem dX8_layLine_61 : decode cX8_layLine 61 = .ok (.irem, 1) := by decide +kernel
theorem dX8_layLine_62 : decode cX8_layLine 62 = .ok (.iconst 1, 1) := by decide +kernel
theorem dX8_layLine_63 : decode cX8_layLine 63 = .ok (.isub, 1) := by decide +kernel
theorem dX8_layLine_64 : decode cX8_layLine 64 = .ok (.iastore, 1) := by decide +kernel
theorem dX8_layLine_65 : decode cX8_layLine 65 = .ok (.iload 4, 2) := by decide +kernel
theorem dX8_layLine_67 : decode cX8_layLine 67 = .ok (.ifCond .eq 21, 3) := by decide +kernel
theorem dX8_layLine_70 : decode cX8_layLine 70 = .ok (.aload_n 0, 1) := by decide +kernel
theorem dX8_layLine_71 : decode cX8_layLine 71 = .ok (.aload_n 0, 1) := by decide +kernel
theorem dX8_layLine_72 : decode cX8_layLine 72 = .ok (.getfield 65, 3) := by decide +kernel
theorem dX8_layLine_75 : decode cX8_layLine 75 = .ok (.iload 5, 2) := by decide +kernel
theorem dX8_layLine_77 : decode cX8_layLine 77 = .ok (.iaload, 1) := by decide +kernel
theorem dX8_layLine_78 : decode cX8_layLine 78 = .ok (.invokevirtual 103, 3) := by decide +kernel
theorem dX8_layLine_81 : decode cX8_layLine 81 = .ok (.ifCond .eq 7, 3) := by decide +kernel
theorem dX8_layLine_84 : decode cX8_layLine 84 = .ok (.iconst 1, 1) := by decide +kernel
theorem dX8_layLine_85 : decode cX8_layLine 85 = .ok (.goto 4, 3) := by decide +kernel
theorem dX8_layLine_88 : decode cX8_layLine 88 = .ok (.iconst 0, 1) := by decide +kernel
theorem dX8_layLine_89 : decode cX8_layLine 89 = .ok (.istore 4, 2) := by decide +kernel
theorem dX8_layLine_91 : decode cX8_layLine 91 = .ok (.iload_n 2, 1) := by decide +kernel
theorem dX8_layLine_92 : decode cX8_layLine 92 = .ok (.bipush 10, 2) := by decide +kernel
theorem dX8_layLine_94 : decode cX8_layLine 94 = .ok (.idiv, 1) := by decide +kernel
theorem dX8_layLine_95 : decode cX8_layLine 95 = .ok (.istore_n 2, 1) := by decide +kernel
theorem dX8_layLine_96 : decode cX8_layLine 96 = .ok (.iinc 5 (-1), 3) := by decide +kernel
theorem dX8_layLine_99 : decode cX8_layLine 99 = .ok (.goto (-52), 3) := by decide +kernel
theorem dX8_layLine_102 : decode cX8_layLine 102 = .ok (.aload_n 0, 1) := by decide +kernel
theorem dX8_layLine_103 : decode cX8_layLine 103 = .ok (.iload_n 3, 1) := by decide +kernel
theorem dX8_layLine_104 : decode cX8_layLine 104 = .ok (.putfield 237, 3) := by decide +kernel
theorem dX8_layLine_107 : decode cX8_layLine 107 = .ok (.iload 4, 2) := by decide +kernel
theorem dX8_layLine_109 : decode cX8_layLine 109 = .ok (.ireturn, 1) := by decide +kernel
theorem dX8_paidBy_0 : decode cX8_paidBy 0 = .ok (.iconst 0, 1) := by decide +kernel
theorem dX8_paidBy_1 : decode cX8_paidBy 1 = .ok (.istore_n 2, 1) := by decide +kernel
theorem dX8_paidBy_2 : decode cX8_paidBy 2 = .ok (.iconst 0, 1) := by decide +kernel
theorem dX8_paidBy_3 : decode cX8_paidBy 3 = .ok (.istore_n 3, 1) := by decide +kernel
theorem dX8_paidBy_4 : decode cX8_paidBy 4 = .ok (.iload_n 3, 1) := by decide +kernel
theorem dX8_paidBy_5 : decode cX8_paidBy 5 = .ok (.aload_n 0, 1) := by decide +kernel
theorem dX8_paidBy_6 : decode cX8_paidBy 6 = .ok (.getfield 13, 3) := by decide +kernel
theorem dX8_paidBy_9 : decode cX8_paidBy 9 = .ok (.if_icmp .ge 108, 3) := by decide +kernel
theorem dX8_paidBy_12 : decode cX8_paidBy 12 = .ok (.iload_n 1, 1) := by decide +kernel
theorem dX8_paidBy_13 : decode cX8_paidBy 13 = .ok (.istore 4, 2) := by decide +kernel
theorem dX8_paidBy_15 : decode cX8_paidBy 15 = .ok (.iconst 0, 1) := by decide +kernel
theorem dX8_paidBy_16 : decode cX8_paidBy 16 = .ok (.istore 5, 2) := by decide +kernel
theorem dX8_paidBy_18 : decode cX8_paidBy 18 = .ok (.iconst 0, 1) := by decide +kernel
theorem dX8_paidBy_19 : decode cX8_paidBy 19 = .ok (.istore 6, 2) := by decide +kernel
theorem dX8_paidBy_21 : decode cX8_paidBy 21 = .ok (.iload 6, 2) := by decide +kernel
theorem dX8_paidBy_23 : decode cX8_paidBy 23 = .ok (.aload_n 0, 1) := by decide +kernel
theorem dX8_paidBy_24 : decode cX8_paidBy 24 = .ok (.getfield 237, 3) := by decide +kernel
theorem dX8_paidBy_27 : decode cX8_paidBy 27 = .ok (.if_icmp .ge 72, 3) := by decide +kernel
theorem dX8_paidBy_30 : decode cX8_paidBy 30 = .ok (.iload_n 1, 1) := by decide +kernel
theorem dX8_paidBy_31 : decode cX8_paidBy 31 = .ok (.iload_n 3, 1) := by decide +kernel
theorem dX8_paidBy_32 : decode cX8_paidBy 32 = .ok (.invokestatic 188, 3) := by decide +kernel
theorem dX8_paidBy_35 : decode cX8_paidBy 35 = .ok (.ifCond .eq 64, 3) := by decide +kernel
theorem dX8_paidBy_38 : decode cX8_paidBy 38 = .ok (.iload 4, 2) := by decide +kernel
theorem dX8_paidBy_40 : decode cX8_paidBy 40 = .ok (.iload 4, 2) := by decide +kernel
theorem dX8_paidBy_42 : decode cX8_paidBy 42 = .ok (.iconst 1, 1) := by decide +kernel
theorem dX8_paidBy_43 : decode cX8_paidBy 43 = .ok (.isub, 1) := by decide +kernel
theorem dX8_paidBy_44 : decode cX8_paidBy 44 = .ok (.iand, 1) := by decide +kernel
theorem dX8_paidBy_45 : decode cX8_paidBy 45 = .ok (.ifCond .eq 48, 3) := by decide +kernel
theorem dX8_paidBy_48 : decode cX8_paidBy 48 = .ok (.iload 5, 2) := by decide +kernel
theorem dX8_paidBy_50 : decode cX8_paidBy 50 = .ok (.aload_n 0, 1) := by decide +kernel
theorem dX8_paidBy_51 : decode cX8_paidBy 51 = .ok (.getfield 26, 3) := by decide +kernel
theorem dX8_paidBy_54 : decode cX8_paidBy 54 = .ok (.aload_n 0, 1) := by decide +kernel
theorem dX8_paidBy_55 : decode cX8_paidBy 55 = .ok (.getfield 65, 3) := by decide +kernel
theorem dX8_paidBy_58 : decode cX8_paidBy 58 = .ok (.iload 6, 2) := by decide +kernel
theorem dX8_paidBy_60 : decode cX8_paidBy 60 = .ok (.iaload, 1) := by decide +kernel
theorem dX8_paidBy_61 : decode cX8_paidBy 61 = .ok (.iaload, 1) := by decide +kernel
theorem dX8_paidBy_62 : decode cX8_paidBy 62 = .ok (.iadd, 1) := by decide +kernel
theorem dX8_paidBy_63 : decode cX8_paidBy 63 = .ok (.istore 5, 2) := by decide +kernel
theorem dX8_paidBy_65 : decode cX8_paidBy 65 = .ok (.iload 4, 2) := by decide +kernel
theorem dX8_paidBy_67 : decode cX8_paidBy 67 = .ok (.aload_n 0, 1) := by decide +kernel
theorem dX8_paidBy_68 : decode cX8_paidBy 68 = .ok (.aload_n 0, 1) := by decide +kernel
theorem dX8_paidBy_69 : decode cX8_paidBy 69 = .ok (.getfield 65, 3) := by decide +kernel
theorem dX8_paidBy_72 : decode cX8_paidBy 72 = .ok (.iload 6, 2) := by decide +kernel
theorem dX8_paidBy_74 : decode cX8_paidBy 74 = .ok (.iaload, 1) := by decide +kernel
theorem dX8_paidBy_75 : decode cX8_paidBy 75 = .ok (.aload_n 0, 1) := by decide +kernel
theorem dX8_paidBy_76 : decode cX8_paidBy 76 = .ok (.aload_n 0, 1) := by decide +kernel
theorem dX8_paidBy_77 : decode cX8_paidBy 77 = .ok (.getfield 65, 3) := by decide +kernel
theorem dX8_paidBy_80 : decode cX8_paidBy 80 = .ok (.iload 6, 2) := by decide +kernel
theorem dX8_paidBy_82 : decode cX8_paidBy 82 = .ok (.iaload, 1) := by decide +kernel
theorem dX8_paidBy_83 : decode cX8_paidBy 83 = .ok (.iload_n 3, 1) := by decide +kernel
theorem dX8_paidBy_84 : decode cX8_paidBy 84 = .ok (.invokevirtual 169, 3) := by decide +kernel
theorem dX8_paidBy_87 : decode cX8_paidBy 87 = .ok (.invokevirtual 176, 3) := by decide +kernel
theorem dX8_paidBy_90 : decode cX8_paidBy 90 = .ok (.iand, 1) := by decide +kernel
theorem dX8_paidBy_91 : decode cX8_paidBy 91 = .ok (.istore 4, 2) := by decide +kernel
theorem dX8_paidBy_93 : decode cX8_paidBy 93 = .ok (.iinc 6 1, 3) := by decide +kernel
theorem dX8_paidBy_96 : decode cX8_paidBy 96 = .ok (.goto (-75), 3) := by decide +kernel
theorem dX8_paidBy_99 : decode cX8_paidBy 99 = .ok (.iload_n 2, 1) := by decide +kernel
theorem dX8_paidBy_100 : decode cX8_paidBy 100 = .ok (.iload 5, 2) := by decide +kernel
theorem dX8_paidBy_102 : decode cX8_paidBy 102 = .ok (.aload_n 0, 1) := by decide +kernel
theorem dX8_paidBy_103 : decode cX8_paidBy 103 = .ok (.getfield 17, 3) := by decide +kernel
theorem dX8_paidBy_106 : decode cX8_paidBy 106 = .ok (.iload_n 3, 1) := by decide +kernel
theorem dX8_paidBy_107 : decode cX8_paidBy 107 = .ok (.iaload, 1) := by decide +kernel
theorem dX8_paidBy_108 : decode cX8_paidBy 108 = .ok (.imul, 1) := by decide +kernel
theorem dX8_paidBy_109 : decode cX8_paidBy 109 = .ok (.iadd, 1) := by decide +kernel
theorem dX8_paidBy_110 : decode cX8_paidBy 110 = .ok (.istore_n 2, 1) := by decide +kernel
theorem dX8_paidBy_111 : decode cX8_paidBy 111 = .ok (.iinc 3 1, 3) := by decide +kernel
theorem dX8_paidBy_114 : decode cX8_paidBy 114 = .ok (.goto (-110), 3) := by decide +kernel
theorem dX8_paidBy_117 : decode cX8_paidBy 117 = .ok (.iload_n 2, 1) := by decide +kernel
theorem dX8_paidBy_118 : decode cX8_paidBy 118 = .ok (.ireturn, 1) := by decide +kernel
theorem dX8_row_0 : decode cX8_row 0 = .ok (.aload_n 0, 1) := by decide +kernel
theorem dX8_row_1 : decode cX8_row 1 = .ok (.iload_n 1, 1) := by decide +kernel
theorem dX8_row_2 : decode cX8_row 2 = .ok (.invokevirtual 240, 3) := by decide +kernel
theorem dX8_row_5 : decode cX8_row 5 = .ok (.ifCond .ne 8, 3) := by decide +kernel
theorem dX8_row_8 : decode cX8_row 8 = .ok (.aload_n 0, 1) := by decide +kernel
theorem dX8_row_9 : decode cX8_row 9 = .ok (.invokevirtual 88, 3) := by decide +kernel
theorem dX8_row_12 : decode cX8_row 12 = .ok (.ireturn, 1) := by decide +kernel
theorem dX8_row_13 : decode cX8_row 13 = .ok (.aload_n 0, 1) := by decide +kernel
theorem dX8_row_14 : decode cX8_row 14 = .ok (.invokevirtual 182, 3) := by decide +kernel
theorem dX8_row_17 : decode cX8_row 17 = .ok (.istore_n 2, 1) := by decide +kernel
theorem dX8_row_18 : decode cX8_row 18 = .ok (.iload_n 2, 1) := by decide +kernel
theorem dX8_row_19 : decode cX8_row 19 = .ok (.ifCond .ne 8, 3) := by decide +kernel
theorem dX8_row_22 : decode cX8_row 22 = .ok (.aload_n 0, 1) := by decide +kernel
theorem dX8_row_23 : decode cX8_row 23 = .ok (.invokevirtual 185, 3) := by decide +kernel
theorem dX8_row_26 : decode cX8_row 26 = .ok (.ireturn, 1) := by decide +kernel
theorem dX8_row_27 : decode cX8_row 27 = .ok (.aload_n 0, 1) := by decide +kernel
theorem dX8_row_28 : decode cX8_row 28 = .ok (.aload_n 0, 1) := by decide +kernel
theorem dX8_row_29 : decode cX8_row 29 = .ok (.iload_n 2, 1) := by decide +kernel
theorem dX8_row_30 : decode cX8_row 30 = .ok (.invokevirtual 243, 3) := by decide +kernel
theorem dX8_row_33 : decode cX8_row 33 = .ok (.i2l, 1) := by decide +kernel
theorem dX8_row_34 : decode cX8_row 34 = .ok (.aload_n 0, 1) := by decide +kernel
theorem dX8_row_35 : decode cX8_row 35 = .ok (.iload_n 2, 1) := by decide +kernel
theorem dX8_row_36 : decode cX8_row 36 = .ok (.invokevirtual 195, 3) := by decide +kernel
theorem dX8_row_39 : decode cX8_row 39 = .ok (.i2l, 1) := by decide +kernel
theorem dX8_row_40 : decode cX8_row 40 = .ok (.invokevirtual 246, 3) := by decide +kernel
theorem dX8_row_43 : decode cX8_row 43 = .ok (.iconst 1, 1) := by decide +kernel
theorem dX8_row_44 : decode cX8_row 44 = .ok (.ireturn, 1) := by decide +kernel
theorem dX8_nextLine_0 : decode cX8_nextLine 0 = .ok (.aload_n 0, 1) := by decide +kernel
theorem dX8_nextLine_1 : decode cX8_nextLine 1 = .ok (.getfield 237, 3) := by decide +kernel
theorem dX8_nextLine_4 : decode cX8_nextLine 4 = .ok (.iconst 2, 1) := by decide +kernel
theorem dX8_nextLine_5 : decode cX8_nextLine 5 = .ok (.isub, 1) := by decide +kernel
theorem dX8_nextLine_6 : decode cX8_nextLine 6 = .ok (.istore_n 1, 1) := by decide +kernel
theorem dX8_nextLine_7 : decode cX8_nextLine 7 = .ok (.iload_n 1, 1) := by decide +kernel
theorem dX8_nextLine_8 : decode cX8_nextLine 8 = .ok (.ifCond .lt 26, 3) := by decide +kernel
theorem dX8_nextLine_11 : decode cX8_nextLine 11 = .ok (.aload_n 0, 1) := by decide +kernel
theorem dX8_nextLine_12 : decode cX8_nextLine 12 = .ok (.getfield 65, 3) := by decide +kernel
theorem dX8_nextLine_15 : decode cX8_nextLine 15 = .ok (.iload_n 1, 1) := by decide +kernel
theorem dX8_nextLine_16 : decode cX8_nextLine 16 = .ok (.iaload, 1) := by decide +kernel
theorem dX8_nextLine_17 : decode cX8_nextLine 17 = .ok (.aload_n 0, 1) := by decide +kernel
theorem dX8_nextLine_18 : decode cX8_nextLine 18 = .ok (.getfield 65, 3) := by decide +kernel
theorem dX8_nextLine_21 : decode cX8_nextLine 21 = .ok (.iload_n 1, 1) := by decide +kernel
theorem dX8_nextLine_22 : decode cX8_nextLine 22 = .ok (.iconst 1, 1) := by decide +kernel
theorem dX8_nextLine_23 : decode cX8_nextLine 23 = .ok (.iadd, 1) := by decide +kernel
theorem dX8_nextLine_24 : decode cX8_nextLine 24 = .ok (.iaload, 1) := by decide +kernel
theorem dX8_nextLine_25 : decode cX8_nextLine 25 = .ok (.if_icmp .le 9, 3) := by decide +kernel
theorem dX8_nextLine_28 : decode cX8_nextLine 28 = .ok (.iinc 1 (-1), 3) := by decide +kernel
theorem dX8_nextLine_31 : decode cX8_nextLine 31 = .ok (.goto (-24), 3) := by decide +kernel
theorem dX8_nextLine_34 : decode cX8_nextLine 34 = .ok (.iload_n 1, 1) := by decide +kernel
theorem dX8_nextLine_35 : decode cX8_nextLine 35 = .ok (.ifCond .ge 5, 3) := by decide +kernel
theorem dX8_nextLine_38 : decode cX8_nextLine 38 = .ok (.iconst 0, 1) := by decide +kernel
theorem dX8_nextLine_39 : decode cX8_nextLine 39 = .ok (.ireturn, 1) := by decide +kernel
theorem dX8_nextLine_40 : decode cX8_nextLine 40 = .ok (.aload_n 0, 1) := by decide +kernel
theorem dX8_nextLine_41 : decode cX8_nextLine 41 = .ok (.getfield 237, 3) := by decide +kernel
theorem dX8_nextLine_44 : decode cX8_nextLine 44 = .ok (.iconst 1, 1) := by decide +kernel
theorem dX8_nextLine_45 : decode cX8_nextLine 45 = .ok (.isub, 1) := by decide +kernel
theorem dX8_nextLine_46 : decode cX8_nextLine 46 = .ok (.istore_n 2, 1) := by decide +kernel
theorem dX8_nextLine_47 : decode cX8_nextLine 47 = .ok (.aload_n 0, 1) := by decide +kernel
theorem dX8_nextLine_48 : decode cX8_nextLine 48 = .ok (.getfield 65, 3) := by decide +kernel
theorem dX8_nextLine_51 : decode cX8_nextLine 51 = .ok (.iload_n 2, 1) := by decide +kernel
theorem dX8_nextLine_52 : decode cX8_nextLine 52 = .ok (.iaload, 1) := by decide +kernel
theorem dX8_nextLine_53 : decode cX8_nextLine 53 = .ok (.aload_n 0, 1) := by decide +kernel
theorem dX8_nextLine_54 : decode cX8_nextLine 54 = .ok (.getfield 65, 3) := by decide +kernel
theorem dX8_nextLine_57 : decode cX8_nextLine 57 = .ok (.iload_n 1, 1) := by decide +kernel
theorem dX8_nextLine_58 : decode cX8_nextLine 58 = .ok (.iaload, 1) := by decide +kernel
theorem dX8_nextLine_59 : decode cX8_nextLine 59 = .ok (.if_icmp .ge 9, 3) := by decide +kernel
theorem dX8_nextLine_62 : decode cX8_nextLine 62 = .ok (.iinc 2 (-1), 3) := by decide +kernel
theorem dX8_nextLine_65 : decode cX8_nextLine 65 = .ok (.goto (-18), 3) := by decide +kernel
theorem dX8_nextLine_68 : decode cX8_nextLine 68 = .ok (.aload_n 0, 1) := by decide +kernel
theorem dX8_nextLine_69 : decode cX8_nextLine 69 = .ok (.getfield 65, 3) := by decide +kernel
theorem dX8_nextLine_72 : decode cX8_nextLine 72 = .ok (.iload_n 1, 1) := by decide +kernel
theorem dX8_nextLine_73 : decode cX8_nextLine 73 = .ok (.iaload, 1) := by decide +kernel
theorem dX8_nextLine_74 : decode cX8_nextLine 74 = .ok (.istore_n 3, 1) := by decide +kernel
theorem dX8_nextLine_75 : decode cX8_nextLine 75 = .ok (.aload_n 0, 1) := by decide +kernel
theorem dX8_nextLine_76 : decode cX8_nextLine 76 = .ok (.getfield 65, 3) := by decide +kernel
theorem dX8_nextLine_79 : decode cX8_nextLine 79 = .ok (.iload_n 1, 1) := by decide +kernel
theorem dX8_nextLine_80 : decode cX8_nextLine 80 = .ok (.aload_n 0, 1) := by decide +kernel
theorem dX8_nextLine_81 : decode cX8_nextLine 81 = .ok (.getfield 65, 3) := by decide +kernel
theorem dX8_nextLine_84 : decode cX8_nextLine 84 = .ok (.iload_n 2, 1) := by decide +kernel
theorem dX8_nextLine_85 : decode cX8_nextLine 85 = .ok (.iaload, 1) := by decide +kernel
theorem dX8_nextLine_86 : decode cX8_nextLine 86 = .ok (.iastore, 1) := by decide +kernel
theorem dX8_nextLine_87 : decode cX8_nextLine 87 = .ok (.aload_n 0, 1) := by decide +kernel
theorem dX8_nextLine_88 : decode cX8_nextLine 88 = .ok (.getfield 65, 3) := by decide +kernel
theorem dX8_nextLine_91 : decode cX8_nextLine 91 = .ok (.iload_n 2, 1) := by decide +kernel
theorem dX8_nextLine_92 : decode cX8_nextLine 92 = .ok (.iload_n 3, 1) := by decide +kernel
theorem dX8_nextLine_93 : decode cX8_nextLine 93 = .ok (.iastore, 1) := by decide +kernel
theorem dX8_nextLine_94 : decode cX8_nextLine 94 = .ok (.iload_n 1, 1) := by decide +kernel
theorem dX8_nextLine_95 : decode cX8_nextLine 95 = .ok (.iconst 1, 1) := by decide +kernel
theorem dX8_nextLine_96 : decode cX8_nextLine 96 = .ok (.iadd, 1) := by decide +kernel
theorem dX8_nextLine_97 : decode cX8_nextLine 97 = .ok (.istore 4, 2) := by decide +kernel
theorem dX8_nextLine_99 : decode cX8_nextLine 99 = .ok (.aload_n 0, 1) := by decide +kernel
theorem dX8_nextLine_100 : decode cX8_nextLine 100 = .ok (.getfield 237, 3) := by decide +kernel
theorem dX8_nextLine_103 : decode cX8_nextLine 103 = .ok (.iconst 1, 1) := by decide +kernel
theorem dX8_nextLine_104 : decode cX8_nextLine 104 = .ok (.isub, 1) := by decide +kernel
theorem dX8_nextLine_105 : decode cX8_nextLine 105 = .ok (.istore 5, 2) := by decide +kernel
theorem dX8_nextLine_107 : decode cX8_nextLine 107 = .ok (.iload 4, 2) := by decide +kernel
theorem dX8_nextLine_109 : decode cX8_nextLine 109 = .ok (.iload 5, 2) := by decide +kernel
theorem dX8_nextLine_111 : decode cX8_nextLine 111 = .ok (.if_icmp .ge 42, 3) := by decide +kernel
theorem dX8_nextLine_114 : decode cX8_nextLine 114 = .ok (.aload_n 0, 1) := by decide +kernel
theorem dX8_nextLine_115 : decode cX8_nextLine 115 = .ok (.getfield 65, 3) := by decide +kernel
theorem dX8_nextLine_118 : decode cX8_nextLine 118 = .ok (.iload 4, 2) := by decide +kernel
theorem dX8_nextLine_120 : decode cX8_nextLine 120 = .ok (.iaload, 1) := by decide +kernel
theorem dX8_nextLine_121 : decode cX8_nextLine 121 = .ok (.istore_n 3, 1) := by decide +kernel
theorem dX8_nextLine_122 : decode cX8_nextLine 122 = .ok (.aload_n 0, 1) := by decide +kernel
theorem dX8_nextLine_123 : decode cX8_nextLine 123 = .ok (.getfield 65, 3) := by decide +kernel
theorem dX8_nextLine_126 : decode cX8_nextLine 126 = .ok (.iload 4, 2) := by decide +kernel
theorem dX8_nextLine_128 : decode cX8_nextLine 128 = .ok (.aload_n 0, 1) := by decide +kernel
theorem dX8_nextLine_129 : decode cX8_nextLine 129 = .ok (.getfield 65, 3) := by decide +kernel
theorem dX8_nextLine_132 : decode cX8_nextLine 132 = .ok (.iload 5, 2) := by decide +kernel
theorem dX8_nextLine_134 : decode cX8_nextLine 134 = .ok (.iaload, 1) := by decide +kernel
theorem dX8_nextLine_135 : decode cX8_nextLine 135 = .ok (.iastore, 1) := by decide +kernel
theorem dX8_nextLine_136 : decode cX8_nextLine 136 = .ok (.aload_n 0, 1) := by decide +kernel
theorem dX8_nextLine_137 : decode cX8_nextLine 137 = .ok (.getfield 65, 3) := by decide +kernel
theorem dX8_nextLine_140 : decode cX8_nextLine 140 = .ok (.iload 5, 2) := by decide +kernel
theorem dX8_nextLine_142 : decode cX8_nextLine 142 = .ok (.iload_n 3, 1) := by decide +kernel
theorem dX8_nextLine_143 : decode cX8_nextLine 143 = .ok (.iastore, 1) := by decide +kernel
theorem dX8_nextLine_144 : decode cX8_nextLine 144 = .ok (.iinc 4 1, 3) := by decide +kernel
theorem dX8_nextLine_147 : decode cX8_nextLine 147 = .ok (.iinc 5 (-1), 3) := by decide +kernel
theorem dX8_nextLine_150 : decode cX8_nextLine 150 = .ok (.goto (-43), 3) := by decide +kernel
theorem dX8_nextLine_153 : decode cX8_nextLine 153 = .ok (.iconst 1, 1) := by decide +kernel
theorem dX8_nextLine_154 : decode cX8_nextLine 154 = .ok (.ireturn, 1) := by decide +kernel
theorem dX8_lineNumber_0 : decode cX8_lineNumber 0 = .ok (.iconst 0, 1) := by decide +kernel
theorem dX8_lineNumber_1 : decode cX8_lineNumber 1 = .ok (.istore_n 1, 1) := by decide +kernel
theorem dX8_lineNumber_2 : decode cX8_lineNumber 2 = .ok (.iconst 0, 1) := by decide +kernel
theorem dX8_lineNumber_3 : decode cX8_lineNumber 3 = .ok (.istore_n 2, 1) := by decide +kernel
theorem dX8_lineNumber_4 : decode cX8_lineNumber 4 = .ok (.iload_n 2, 1) := by decide +kernel
theorem dX8_lineNumber_5 : decode cX8_lineNumber 5 = .ok (.aload_n 0, 1) := by decide +kernel
theorem dX8_lineNumber_6 : decode cX8_lineNumber 6 = .ok (.getfield 237, 3) := by decide +kernel
theorem dX8_lineNumber_9 : decode cX8_lineNumber 9 = .ok (.if_icmp .ge 23, 3) := by decide +kernel
theorem dX8_lineNumber_12 : decode cX8_lineNumber 12 = .ok (.bipush 10, 2) := by decide +kernel
theorem dX8_lineNumber_14 : decode cX8_lineNumber 14 = .ok (.iload_n 1, 1) := by decide +kernel
theorem dX8_lineNumber_15 : decode cX8_lineNumber 15 = .ok (.imul, 1) := by decide +kernel
theorem dX8_lineNumber_16 : decode cX8_lineNumber 16 = .ok (.aload_n 0, 1) := by decide +kernel
theorem dX8_lineNumber_17 : decode cX8_lineNumber 17 = .ok (.getfield 65, 3) := by decide +kernel
theorem dX8_lineNumber_20 : decode cX8_lineNumber 20 = .ok (.iload_n 2, 1) := by decide +kernel
theorem dX8_lineNumber_21 : decode cX8_lineNumber 21 = .ok (.iaload, 1) := by decide +kernel
theorem dX8_lineNumber_22 : decode cX8_lineNumber 22 = .ok (.iadd, 1) := by decide +kernel
theorem dX8_lineNumber_23 : decode cX8_lineNumber 23 = .ok (.iconst 1, 1) := by decide +kernel
theorem dX8_lineNumber_24 : decode cX8_lineNumber 24 = .ok (.iadd, 1) := by decide +kernel
theorem dX8_lineNumber_25 : decode cX8_lineNumber 25 = .ok (.istore_n 1, 1) := by decide +kernel
theorem dX8_lineNumber_26 : decode cX8_lineNumber 26 = .ok (.iinc 2 1, 3) := by decide +kernel
theorem dX8_lineNumber_29 : decode cX8_lineNumber 29 = .ok (.goto (-25), 3) := by decide +kernel
theorem dX8_lineNumber_32 : decode cX8_lineNumber 32 = .ok (.iload_n 1, 1) := by decide +kernel
theorem dX8_lineNumber_33 : decode cX8_lineNumber 33 = .ok (.ireturn, 1) := by decide +kernel
theorem dX8_bestRow_0 : decode cX8_bestRow 0 = .ok (.aload_n 0, 1) := by decide +kernel
theorem dX8_bestRow_1 : decode cX8_bestRow 1 = .ok (.invokevirtual 182, 3) := by decide +kernel
theorem dX8_bestRow_4 : decode cX8_bestRow 4 = .ok (.istore_n 1, 1) := by decide +kernel
theorem dX8_bestRow_5 : decode cX8_bestRow 5 = .ok (.iload_n 1, 1) := by decide +kernel
theorem dX8_bestRow_6 : decode cX8_bestRow 6 = .ok (.ifCond .ne 8, 3) := by decide +kernel
theorem dX8_bestRow_9 : decode cX8_bestRow 9 = .ok (.aload_n 0, 1) := by decide +kernel
theorem dX8_bestRow_10 : decode cX8_bestRow 10 = .ok (.invokevirtual 185, 3) := by decide +kernel
theorem dX8_bestRow_13 : decode cX8_bestRow 13 = .ok (.ireturn, 1) := by decide +kernel
theorem dX8_bestRow_14 : decode cX8_bestRow 14 = .ok (.aload_n 0, 1) := by decide +kernel
theorem dX8_bestRow_15 : decode cX8_bestRow 15 = .ok (.aload_n 0, 1) := by decide +kernel
theorem dX8_bestRow_16 : decode cX8_bestRow 16 = .ok (.getfield 75, 3) := by decide +kernel
theorem dX8_bestRow_19 : decode cX8_bestRow 19 = .ok (.putfield 237, 3) := by decide +kernel
theorem dX8_bestRow_22 : decode cX8_bestRow 22 = .ok (.iconst 0, 1) := by decide +kernel
theorem dX8_bestRow_23 : decode cX8_bestRow 23 = .ok (.istore_n 2, 1) := by decide +kernel
theorem dX8_bestRow_24 : decode cX8_bestRow 24 = .ok (.iload_n 2, 1) := by decide +kernel
theorem dX8_bestRow_25 : decode cX8_bestRow 25 = .ok (.aload_n 0, 1) := by decide +kernel
theorem dX8_bestRow_26 : decode cX8_bestRow 26 = .ok (.getfield 237, 3) := by decide +kernel
theorem dX8_bestRow_29 : decode cX8_bestRow 29 = .ok (.if_icmp .ge 16, 3) := by decide +kernel
theorem dX8_bestRow_32 : decode cX8_bestRow 32 = .ok (.aload_n 0, 1) := by decide +kernel
theorem dX8_bestRow_33 : decode cX8_bestRow 33 = .ok (.getfield 65, 3) := by decide +kernel
theorem dX8_bestRow_36 : decode cX8_bestRow 36 = .ok (.iload_n 2, 1) := by decide +kernel
theorem dX8_bestRow_37 : decode cX8_bestRow 37 = .ok (.iload_n 2, 1) := by decide +kernel
theorem dX8_bestRow_38 : decode cX8_bestRow 38 = .ok (.iastore, 1) := by decide +kernel
theorem dX8_bestRow_39 : decode cX8_bestRow 39 = .ok (.iinc 2 1, 3) := by decide +kernel
theorem dX8_bestRow_42 : decode cX8_bestRow 42 = .ok (.goto (-18), 3) := by decide +kernel
theorem dX8_bestRow_45 : decode cX8_bestRow 45 = .ok (.aload_n 0, 1) := by decide +kernel
theorem dX8_bestRow_46 : decode cX8_bestRow 46 = .ok (.invokevirtual 250, 3) := by decide +kernel
theorem dX8_bestRow_49 : decode cX8_bestRow 49 = .ok (.istore_n 2, 1) := by decide +kernel
theorem dX8_bestRow_50 : decode cX8_bestRow 50 = .ok (.aload_n 0, 1) := by decide +kernel
theorem dX8_bestRow_51 : decode cX8_bestRow 51 = .ok (.iload_n 1, 1) := by decide +kernel
theorem dX8_bestRow_52 : decode cX8_bestRow 52 = .ok (.invokevirtual 243, 3) := by decide +kernel
theorem dX8_bestRow_55 : decode cX8_bestRow 55 = .ok (.istore_n 3, 1) := by decide +kernel
theorem dX8_bestRow_56 : decode cX8_bestRow 56 = .ok (.aload_n 0, 1) := by decide +kernel
theorem dX8_bestRow_57 : decode cX8_bestRow 57 = .ok (.invokevirtual 253, 3) := by decide +kernel
theorem dX8_bestRow_60 : decode cX8_bestRow 60 = .ok (.ifCond .eq 41, 3) := by decide +kernel
theorem dX8_bestRow_63 : decode cX8_bestRow 63 = .ok (.aload_n 0, 1) := by decide +kernel
theorem dX8_bestRow_64 : decode cX8_bestRow 64 = .ok (.iload_n 1, 1) := by decide +kernel
theorem dX8_bestRow_65 : decode cX8_bestRow 65 = .ok (.invokevirtual 243, 3) := by decide +kernel
theorem dX8_bestRow_68 : decode cX8_bestRow 68 = .ok (.istore 4, 2) := by decide +kernel
theorem dX8_bestRow_70 : decode cX8_bestRow 70 = .ok (.iload 4, 2) := by decide +kernel
theorem dX8_bestRow_72 : decode cX8_bestRow 72 = .ok (.iload_n 3, 1) := by decide +kernel
theorem dX8_bestRow_73 : decode cX8_bestRow 73 = .ok (.if_icmp .ge 10, 3) := by decide +kernel
theorem dX8_bestRow_76 : decode cX8_bestRow 76 = .ok (.aload_n 0, 1) := by decide +kernel
theorem dX8_bestRow_77 : decode cX8_bestRow 77 = .ok (.invokevirtual 250, 3) := by decide +kernel
theorem dX8_bestRow_80 : decode cX8_bestRow 80 = .ok (.goto 4, 3) := by decide +kernel
theorem dX8_bestRow_83 : decode cX8_bestRow 83 = .ok (.iload_n 2, 1) := by decide +kernel
theorem dX8_bestRow_84 : decode cX8_bestRow 84 = .ok (.istore_n 2, 1) := by decide +kernel
theorem dX8_bestRow_85 : decode cX8_bestRow 85 = .ok (.iload 4, 2) := by decide +kernel
theorem dX8_bestRow_87 : decode cX8_bestRow 87 = .ok (.iload_n 3, 1) := by decide +kernel
theorem dX8_bestRow_88 : decode cX8_bestRow 88 = .ok (.if_icmp .ge 8, 3) := by decide +kernel
theorem dX8_bestRow_91 : decode cX8_bestRow 91 = .ok (.iload 4, 2) := by decide +kernel
theorem dX8_bestRow_93 : decode cX8_bestRow 93 = .ok (.goto 4, 3) := by decide +kernel
theorem dX8_bestRow_96 : decode cX8_bestRow 96 = .ok (.iload_n 3, 1) := by decide +kernel
theorem dX8_bestRow_97 : decode cX8_bestRow 97 = .ok (.istore_n 3, 1) := by decide +kernel
theorem dX8_bestRow_98 : decode cX8_bestRow 98 = .ok (.goto (-42), 3) := by decide +kernel
theorem dX8_bestRow_101 : decode cX8_bestRow 101 = .ok (.aload_n 0, 1) := by decide +kernel
theorem dX8_bestRow_102 : decode cX8_bestRow 102 = .ok (.iload_n 3, 1) := by decide +kernel
theorem dX8_bestRow_103 : decode cX8_bestRow 103 = .ok (.i2l, 1) := by decide +kernel
theorem dX8_bestRow_104 : decode cX8_bestRow 104 = .ok (.aload_n 0, 1) := by decide +kernel
theorem dX8_bestRow_105 : decode cX8_bestRow 105 = .ok (.iload_n 1, 1) := by decide +kernel
theorem dX8_bestRow_106 : decode cX8_bestRow 106 = .ok (.invokevirtual 195, 3) := by decide +kernel
theorem dX8_bestRow_109 : decode cX8_bestRow 109 = .ok (.i2l, 1) := by decide +kernel
theorem dX8_bestRow_110 : decode cX8_bestRow 110 = .ok (.invokevirtual 246, 3) := by decide +kernel
theorem dX8_bestRow_113 : decode cX8_bestRow 113 = .ok (.iload_n 2, 1) := by decide +kernel
theorem dX8_bestRow_114 : decode cX8_bestRow 114 = .ok (.ireturn, 1) := by decide +kernel
theorem dX8_drawn_0 : decode cX8_drawn 0 = .ok (.aload_n 0, 1) := by decide +kernel
theorem dX8_drawn_1 : decode cX8_drawn 1 = .ok (.aload_n 0, 1) := by decide +kernel
theorem dX8_drawn_2 : decode cX8_drawn 2 = .ok (.getfield 256, 3) := by decide +kernel
theorem dX8_drawn_5 : decode cX8_drawn 5 = .ok (.ldc2_w 259, 3) := by decide +kernel
theorem dX8_drawn_8 : decode cX8_drawn 8 = .ok (.lmul, 1) := by decide +kernel
theorem dX8_drawn_9 : decode cX8_drawn 9 = .ok (.ldc2_w 261, 3) := by decide +kernel
theorem dX8_drawn_12 : decode cX8_drawn 12 = .ok (.ladd, 1) := by decide +kernel
theorem dX8_drawn_13 : decode cX8_drawn 13 = .ok (.ldc2_w 263, 3) := by decide +kernel
theorem dX8_drawn_16 : decode cX8_drawn 16 = .ok (.lrem, 1) := by decide +kernel
theorem dX8_drawn_17 : decode cX8_drawn 17 = .ok (.putfield 256, 3) := by decide +kernel
theorem dX8_drawn_20 : decode cX8_drawn 20 = .ok (.aload_n 0, 1) := by decide +kernel
theorem dX8_drawn_21 : decode cX8_drawn 21 = .ok (.getfield 256, 3) := by decide +kernel
theorem dX8_drawn_24 : decode cX8_drawn 24 = .ok (.ldc2_w 265, 3) := by decide +kernel
theorem dX8_drawn_27 : decode cX8_drawn 27 = .ok (.ldiv, 1) := by decide +kernel
theorem dX8_drawn_28 : decode cX8_drawn 28 = .ok (.iload_n 1, 1) := by decide +kernel
theorem dX8_drawn_29 : decode cX8_drawn 29 = .ok (.i2l, 1) := by decide +kernel
theorem dX8_drawn_30 : decode cX8_drawn 30 = .ok (.lrem, 1) := by decide +kernel
theorem dX8_drawn_31 : decode cX8_drawn 31 = .ok (.l2i, 1) := by decide +kernel
theorem dX8_drawn_32 : decode cX8_drawn 32 = .ok (.ireturn, 1) := by decide +kernel
theorem dX8_placed_0 : decode cX8_placed 0 = .ok (.iload_n 1, 1) := by decide +kernel
theorem dX8_placed_1 : decode cX8_placed 1 = .ok (.istore_n 2, 1) := by decide +kernel
theorem dX8_placed_2 : decode cX8_placed 2 = .ok (.iconst 0, 1) := by decide +kernel
theorem dX8_placed_3 : decode cX8_placed 3 = .ok (.istore_n 3, 1) := by decide +kernel
theorem dX8_placed_4 : decode cX8_placed 4 = .ok (.iload_n 0, 1) := by decide +kernel
theorem dX8_placed_5 : decode cX8_placed 5 = .ok (.iload_n 3, 1) := by decide +kernel
theorem dX8_placed_6 : decode cX8_placed 6 = .ok (.invokestatic 188, 3) := by decide +kernel
theorem dX8_placed_9 : decode cX8_placed 9 = .ok (.ifCond .eq 7, 3) := by decide +kernel
theorem dX8_placed_12 : decode cX8_placed 12 = .ok (.iload_n 2, 1) := by decide +kernel
theorem dX8_placed_13 : decode cX8_placed 13 = .ok (.ifCond .le 25, 3) := by decide +kernel
theorem dX8_placed_16 : decode cX8_placed 16 = .ok (.iload_n 2, 1) := by decide +kernel
theorem dX8_placed_17 : decode cX8_placed 17 = .ok (.iload_n 0, 1) := by decide +kernel
theorem dX8_placed_18 : decode cX8_placed 18 = .ok (.iload_n 3, 1) := by decide +kernel
theorem dX8_placed_19 : decode cX8_placed 19 = .ok (.invokestatic 188, 3) := by decide +kernel
theorem dX8_placed_22 : decode cX8_placed 22 = .ok (.ifCond .eq 7, 3) := by decide +kernel
theorem dX8_placed_25 : decode cX8_placed 25 = .ok (.iconst 1, 1) := by decide +kernel
theorem dX8_placed_26 : decode cX8_placed 26 = .ok (.goto 4, 3) := by decide +kernel
theorem dX8_placed_29 : decode cX8_placed 29 = .ok (.iconst 0, 1) := by decide +kernel
theorem dX8_placed_30 : decode cX8_placed 30 = .ok (.isub, 1) := by decide +kernel
theorem dX8_placed_31 : decode cX8_placed 31 = .ok (.istore_n 2, 1) := by decide +kernel
theorem dX8_placed_32 : decode cX8_placed 32 = .ok (.iinc 3 1, 3) := by decide +kernel
theorem dX8_placed_35 : decode cX8_placed 35 = .ok (.goto (-31), 3) := by decide +kernel
theorem dX8_placed_38 : decode cX8_placed 38 = .ok (.iload_n 3, 1) := by decide +kernel
theorem dX8_placed_39 : decode cX8_placed 39 = .ok (.ireturn, 1) := by decide +kernel
theorem dX8_stalls_0 : decode cX8_stalls 0 = .ok (.iload_n 1, 1) := by decide +kernel
theorem dX8_stalls_1 : decode cX8_stalls 1 = .ok (.iconst 0, 1) := by decide +kernel
theorem dX8_stalls_2 : decode cX8_stalls 2 = .ok (.ldc_w 267, 3) := by decide +kernel
theorem dX8_stalls_5 : decode cX8_stalls 5 = .ok (.invokestatic 84, 3) := by decide +kernel
theorem dX8_stalls_8 : decode cX8_stalls 8 = .ok (.ifCond .eq 13, 3) := by decide +kernel
theorem dX8_stalls_11 : decode cX8_stalls 11 = .ok (.iload_n 2, 1) := by decide +kernel
theorem dX8_stalls_12 : decode cX8_stalls 12 = .ok (.iconst 0, 1) := by decide +kernel
theorem dX8_stalls_13 : decode cX8_stalls 13 = .ok (.bipush 60, 2) := by decide +kernel
theorem dX8_stalls_15 : decode cX8_stalls 15 = .ok (.invokestatic 84, 3) := by decide +kernel
theorem dX8_stalls_18 : decode cX8_stalls 18 = .ok (.ifCond .ne 8, 3) := by decide +kernel
theorem dX8_stalls_21 : decode cX8_stalls 21 = .ok (.aload_n 0, 1) := by decide +kernel
theorem dX8_stalls_22 : decode cX8_stalls 22 = .ok (.invokevirtual 88, 3) := by decide +kernel
theorem dX8_stalls_25 : decode cX8_stalls 25 = .ok (.ireturn, 1) := by decide +kernel
theorem dX8_stalls_26 : decode cX8_stalls 26 = .ok (.aload_n 0, 1) := by decide +kernel
theorem dX8_stalls_27 : decode cX8_stalls 27 = .ok (.invokevirtual 182, 3) := by decide +kernel
theorem dX8_stalls_30 : decode cX8_stalls 30 = .ok (.istore_n 3, 1) := by decide +kernel
theorem dX8_stalls_31 : decode cX8_stalls 31 = .ok (.iload_n 3, 1) := by decide +kernel
theorem dX8_stalls_32 : decode cX8_stalls 32 = .ok (.ifCond .eq 10, 3) := by decide +kernel
theorem dX8_stalls_35 : decode cX8_stalls 35 = .ok (.aload_n 0, 1) := by decide +kernel
theorem dX8_stalls_36 : decode cX8_stalls 36 = .ok (.getfield 75, 3) := by decide +kernel
theorem dX8_stalls_39 : decode cX8_stalls 39 = .ok (.ifCond .ne 8, 3) := by decide +kernel
theorem dX8_stalls_42 : decode cX8_stalls 42 = .ok (.aload_n 0, 1) := by decide +kernel
theorem dX8_stalls_43 : decode cX8_stalls 43 = .ok (.invokevirtual 185, 3) := by decide +kernel
theorem dX8_stalls_46 : decode cX8_stalls 46 = .ok (.ireturn, 1) := by decide +kernel
theorem dX8_stalls_47 : decode cX8_stalls 47 = .ok (.aload_n 0, 1) := by decide +kernel
theorem dX8_stalls_48 : decode cX8_stalls 48 = .ok (.iload_n 1, 1) := by decide +kernel
theorem dX8_stalls_49 : decode cX8_stalls 49 = .ok (.i2l, 1) := by decide +kernel
theorem dX8_stalls_50 : decode cX8_stalls 50 = .ok (.putfield 256, 3) := by decide +kernel
theorem dX8_stalls_53 : decode cX8_stalls 53 = .ok (.iconst 0, 1) := by decide +kernel
theorem dX8_stalls_54 : decode cX8_stalls 54 = .ok (.istore 4, 2) := by decide +kernel
theorem dX8_stalls_56 : decode cX8_stalls 56 = .ok (.iconst 0, 1) := by decide +kernel
theorem dX8_stalls_57 : decode cX8_stalls 57 = .ok (.istore 5, 2) := by decide +kernel
theorem dX8_stalls_59 : decode cX8_stalls 59 = .ok (.iload 5, 2) := by decide +kernel
theorem dX8_stalls_61 : decode cX8_stalls 61 = .ok (.iload_n 2, 1) := by decide +kernel
theorem dX8_stalls_62 : decode cX8_stalls 62 = .ok (.if_icmp .ge 93, 3) := by decide +kernel
theorem dX8_stalls_65 : decode cX8_stalls 65 = .ok (.iload_n 3, 1) := by decide +kernel
theorem dX8_stalls_66 : decode cX8_stalls 66 = .ok (.aload_n 0, 1) := by decide +kernel
theorem dX8_stalls_67 : decode cX8_stalls 67 = .ok (.iload_n 3, 1) := by decide +kernel
theorem dX8_stalls_68 : decode cX8_stalls 68 = .ok (.invokestatic 192, 3) := by decide +kernel
theorem dX8_stalls_71 : decode cX8_stalls 71 = .ok (.invokevirtual 268, 3) := by decide +kernel
theorem dX8_stalls_74 : decode cX8_stalls 74 = .ok (.invokestatic 271, 3) := by decide +kernel
theorem dX8_stalls_77 : decode cX8_stalls 77 = .ok (.istore 6, 2) := by decide +kernel
theorem dX8_stalls_79 : decode cX8_stalls 79 = .ok (.iload_n 3, 1) := by decide +kernel
theorem dX8_stalls_80 : decode cX8_stalls 80 = .ok (.istore 7, 2) := by decide +kernel
theorem dX8_stalls_82 : decode cX8_stalls 82 = .ok (.iconst 0, 1) := by decide +kernel
theorem dX8_stalls_83 : decode cX8_stalls 83 = .ok (.istore 8, 2) := by decide +kernel
theorem dX8_stalls_85 : decode cX8_stalls 85 = .ok (.iload 8, 2) := by decide +kernel
theorem dX8_stalls_87 : decode cX8_stalls 87 = .ok (.bipush 12, 2) := by decide +kernel
theorem dX8_stalls_89 : decode cX8_stalls 89 = .ok (.if_icmp .ge 60, 3) := by decide +kernel
theorem dX8_stalls_92 : decode cX8_stalls 92 = .ok (.iload 7, 2) := by decide +kernel
theorem dX8_stalls_94 : decode cX8_stalls 94 = .ok (.iload 7, 2) := by decide +kernel
theorem dX8_stalls_96 : decode cX8_stalls 96 = .ok (.iconst 1, 1) := by decide +kernel
theorem dX8_stalls_97 : decode cX8_stalls 97 = .ok (.isub, 1) := by decide +kernel
theorem dX8_stalls_98 : decode cX8_stalls 98 = .ok (.iand, 1) := by decide +kernel
theorem dX8_stalls_99 : decode cX8_stalls 99 = .ok (.ifCond .eq 50, 3) := by decide +kernel
theorem dX8_stalls_102 : decode cX8_stalls 102 = .ok (.aload_n 0, 1) := by decide +kernel
theorem dX8_stalls_103 : decode cX8_stalls 103 = .ok (.aload_n 0, 1) := by decide +kernel
theorem dX8_stalls_104 : decode cX8_stalls 104 = .ok (.getfield 75, 3) := by decide +kernel
theorem dX8_stalls_107 : decode cX8_stalls 107 = .ok (.invokevirtual 268, 3) := by decide +kernel
theorem dX8_stalls_110 : decode cX8_stalls 110 = .ok (.istore 9, 2) := by decide +kernel
theorem dX8_stalls_112 : decode cX8_stalls 112 = .ok (.iload 4, 2) := by decide +kernel
theorem dX8_stalls_114 : decode cX8_stalls 114 = .ok (.aload_n 0, 1) := by decide +kernel
theorem dX8_stalls_115 : decode cX8_stalls 115 = .ok (.getfield 26, 3) := by decide +kernel
theorem dX8_stalls_118 : decode cX8_stalls 118 = .ok (.iload 9, 2) := by decide +kernel
theorem dX8_stalls_120 : decode cX8_stalls 120 = .ok (.iaload, 1) := by decide +kernel
theorem dX8_stalls_121 : decode cX8_stalls 121 = .ok (.iadd, 1) := by decide +kernel
theorem dX8_stalls_122 : decode cX8_stalls 122 = .ok (.istore 4, 2) := by decide +kernel
theorem dX8_stalls_124 : decode cX8_stalls 124 = .ok (.iload 7, 2) := by decide +kernel
theorem dX8_stalls_126 : decode cX8_stalls 126 = .ok (.aload_n 0, 1) := by decide +kernel
theorem dX8_stalls_127 : decode cX8_stalls 127 = .ok (.iload 9, 2) := by decide +kernel
theorem dX8_stalls_129 : decode cX8_stalls 129 = .ok (.aload_n 0, 1) := by decide +kernel
theorem dX8_stalls_130 : decode cX8_stalls 130 = .ok (.iload 9, 2) := by decide +kernel
theorem dX8_stalls_132 : decode cX8_stalls 132 = .ok (.iload 6, 2) := by decide +kernel
theorem dX8_stalls_134 : decode cX8_stalls 134 = .ok (.invokevirtual 169, 3) := by decide +kernel
theorem dX8_stalls_137 : decode cX8_stalls 137 = .ok (.invokevirtual 176, 3) := by decide +kernel
theorem dX8_stalls_140 : decode cX8_stalls 140 = .ok (.iand, 1) := by decide +kernel
theorem dX8_stalls_141 : decode cX8_stalls 141 = .ok (.istore 7, 2) := by decide +kernel
theorem dX8_stalls_143 : decode cX8_stalls 143 = .ok (.iinc 8 1, 3) := by decide +kernel
theorem dX8_stalls_146 : decode cX8_stalls 146 = .ok (.goto (-61), 3) := by decide +kernel
theorem dX8_stalls_149 : decode cX8_stalls 149 = .ok (.iinc 5 1, 3) := by decide +kernel
theorem dX8_stalls_152 : decode cX8_stalls 152 = .ok (.goto (-93), 3) := by decide +kernel
theorem dX8_stalls_155 : decode cX8_stalls 155 = .ok (.iload 4, 2) := by decide +kernel
theorem dX8_stalls_157 : decode cX8_stalls 157 = .ok (.ireturn, 1) := by decide +kernel
theorem dX8_part_0 : decode cX8_part 0 = .ok (.iload_n 1, 1) := by decide +kernel
theorem dX8_part_1 : decode cX8_part 1 = .ok (.ifCond .ne 10, 3) := by decide +kernel
theorem dX8_part_4 : decode cX8_part 4 = .ok (.aload_n 0, 1) := by decide +kernel
theorem dX8_part_5 : decode cX8_part 5 = .ok (.getfield 234, 3) := by decide +kernel
theorem dX8_part_8 : decode cX8_part 8 = .ok (.goto 20, 3) := by decide +kernel
theorem dX8_part_11 : decode cX8_part 11 = .ok (.iload_n 1, 1) := by decide +kernel
theorem dX8_part_12 : decode cX8_part 12 = .ok (.iconst 1, 1) := by decide +kernel
theorem dX8_part_13 : decode cX8_part 13 = .ok (.if_icmp .ne 10, 3) := by decide +kernel
theorem dX8_part_16 : decode cX8_part 16 = .ok (.aload_n 0, 1) := by decide +kernel
theorem dX8_part_17 : decode cX8_part 17 = .ok (.getfield 61, 3) := by decide +kernel
theorem dX8_part_20 : decode cX8_part 20 = .ok (.goto 8, 3) := by decide +kernel
theorem dX8_part_23 : decode cX8_part 23 = .ok (.aload_n 0, 1) := by decide +kernel
theorem dX8_part_24 : decode cX8_part 24 = .ok (.invokevirtual 88, 3) := by decide +kernel
theorem dX8_part_27 : decode cX8_part 27 = .ok (.i2l, 1) := by decide +kernel
theorem dX8_part_28 : decode cX8_part 28 = .ok (.lreturn, 1) := by decide +kernel
theorem dX8_image_0 : decode cX8_image 0 = .ok (.iload_n 1, 1) := by decide +kernel
theorem dX8_image_1 : decode cX8_image 1 = .ok (.iconst 0, 1) := by decide +kernel
theorem dX8_image_2 : decode cX8_image 2 = .ok (.iconst 1, 1) := by decide +kernel
theorem dX8_image_3 : decode cX8_image 3 = .ok (.invokestatic 84, 3) := by decide +kernel
theorem dX8_image_6 : decode cX8_image 6 = .ok (.ifCond .ne 8, 3) := by decide +kernel
theorem dX8_image_9 : decode cX8_image 9 = .ok (.aload_n 0, 1) := by decide +kernel
theorem dX8_image_10 : decode cX8_image 10 = .ok (.invokevirtual 88, 3) := by decide +kernel
theorem dX8_image_13 : decode cX8_image 13 = .ok (.ireturn, 1) := by decide +kernel
theorem dX8_image_14 : decode cX8_image 14 = .ok (.sipush 193, 3) := by decide +kernel
theorem dX8_image_17 : decode cX8_image 17 = .ok (.iload_n 1, 1) := by decide +kernel
theorem dX8_image_18 : decode cX8_image 18 = .ok (.imul, 1) := by decide +kernel
theorem dX8_image_19 : decode cX8_image 19 = .ok (.istore_n 2, 1) := by decide +kernel
theorem dX8_image_20 : decode cX8_image 20 = .ok (.aload_n 0, 1) := by decide +kernel
theorem dX8_image_21 : decode cX8_image 21 = .ok (.getfield 68, 3) := by decide +kernel
theorem dX8_image_24 : decode cX8_image 24 = .ok (.iload_n 2, 1) := by decide +kernel
theorem dX8_image_25 : decode cX8_image 25 = .ok (.aload_n 0, 1) := by decide +kernel
theorem dX8_image_26 : decode cX8_image 26 = .ok (.getfield 13, 3) := by decide +kernel
theorem dX8_image_29 : decode cX8_image 29 = .ok (.iastore, 1) := by decide +kernel
theorem dX8_image_30 : decode cX8_image 30 = .ok (.aload_n 0, 1) := by decide +kernel
theorem dX8_image_31 : decode cX8_image 31 = .ok (.getfield 68, 3) := by decide +kernel
theorem dX8_image_34 : decode cX8_image 34 = .ok (.iload_n 2, 1) := by decide +kernel
theorem dX8_image_35 : decode cX8_image 35 = .ok (.iconst 1, 1) := by decide +kernel
theorem dX8_image_36 : decode cX8_image 36 = .ok (.iadd, 1) := by decide +kernel
theorem dX8_image_37 : decode cX8_image 37 = .ok (.aload_n 0, 1) := by decide +kernel
theorem dX8_image_38 : decode cX8_image 38 = .ok (.getfield 75, 3) := by decide +kernel
theorem dX8_image_41 : decode cX8_image 41 = .ok (.iastore, 1) := by decide +kernel
theorem dX8_image_42 : decode cX8_image 42 = .ok (.aload_n 0, 1) := by decide +kernel
theorem dX8_image_43 : decode cX8_image 43 = .ok (.getfield 68, 3) := by decide +kernel
theorem dX8_image_46 : decode cX8_image 46 = .ok (.iload_n 2, 1) := by decide +kernel
theorem dX8_image_47 : decode cX8_image 47 = .ok (.iconst 2, 1) := by decide +kernel
theorem dX8_image_48 : decode cX8_image 48 = .ok (.iadd, 1) := by decide +kernel
theorem dX8_image_49 : decode cX8_image 49 = .ok (.aload_n 0, 1) := by decide +kernel
theorem dX8_image_50 : decode cX8_image 50 = .ok (.getfield 78, 3) := by decide +kernel
theorem dX8_image_53 : decode cX8_image 53 = .ok (.iastore, 1) := by decide +kernel
theorem dX8_image_54 : decode cX8_image 54 = .ok (.aload_n 0, 1) := by decide +kernel
theorem dX8_image_55 : decode cX8_image 55 = .ok (.getfield 68, 3) := by decide +kernel
theorem dX8_image_58 : decode cX8_image 58 = .ok (.iload_n 2, 1) := by decide +kernel
theorem dX8_image_59 : decode cX8_image 59 = .ok (.iconst 3, 1) := by decide +kernel
theorem dX8_image_60 : decode cX8_image 60 = .ok (.iadd, 1) := by decide +kernel
theorem dX8_image_61 : decode cX8_image 61 = .ok (.aload_n 0, 1) := by decide +kernel
theorem dX8_image_62 : decode cX8_image 62 = .ok (.getfield 81, 3) := by decide +kernel
theorem dX8_image_65 : decode cX8_image 65 = .ok (.iastore, 1) := by decide +kernel
theorem dX8_image_66 : decode cX8_image 66 = .ok (.iconst 0, 1) := by decide +kernel
theorem dX8_image_67 : decode cX8_image 67 = .ok (.istore_n 3, 1) := by decide +kernel
theorem dX8_image_68 : decode cX8_image 68 = .ok (.iload_n 3, 1) := by decide +kernel
theorem dX8_image_69 : decode cX8_image 69 = .ok (.bipush 16, 2) := by decide +kernel
theorem dX8_image_71 : decode cX8_image 71 = .ok (.if_icmp .ge 42, 3) := by decide +kernel
theorem dX8_image_74 : decode cX8_image 74 = .ok (.aload_n 0, 1) := by decide +kernel
theorem dX8_image_75 : decode cX8_image 75 = .ok (.getfield 68, 3) := by decide +kernel
theorem dX8_image_78 : decode cX8_image 78 = .ok (.iload_n 2, 1) := by decide +kernel
theorem dX8_image_79 : decode cX8_image 79 = .ok (.iconst 4, 1) := by decide +kernel
theorem dX8_image_80 : decode cX8_image 80 = .ok (.iadd, 1) := by decide +kernel
theorem dX8_image_81 : decode cX8_image 81 = .ok (.iload_n 3, 1) := by decide +kernel
theorem dX8_image_82 : decode cX8_image 82 = .ok (.iadd, 1) := by decide +kernel
theorem dX8_image_83 : decode cX8_image 83 = .ok (.aload_n 0, 1) := by decide +kernel
theorem dX8_image_84 : decode cX8_image 84 = .ok (.getfield 17, 3) := by decide +kernel
theorem dX8_image_87 : decode cX8_image 87 = .ok (.iload_n 3, 1) := by decide +kernel
theorem dX8_image_88 : decode cX8_image 88 = .ok (.iaload, 1) := by decide +kernel
theorem dX8_image_89 : decode cX8_image 89 = .ok (.iastore, 1) := by decide +kernel
theorem dX8_image_90 : decode cX8_image 90 = .ok (.aload_n 0, 1) := by decide +kernel
theorem dX8_image_91 : decode cX8_image 91 = .ok (.getfield 68, 3) := by decide +kernel
theorem dX8_image_94 : decode cX8_image 94 = .ok (.iload_n 2, 1) := by decide +kernel
theorem dX8_image_95 : decode cX8_image 95 = .ok (.bipush 20, 2) := by decide +kernel
theorem dX8_image_97 : decode cX8_image 97 = .ok (.iadd, 1) := by decide +kernel
theorem dX8_image_98 : decode cX8_image 98 = .ok (.iload_n 3, 1) := by decide +kernel
theorem dX8_image_99 : decode cX8_image 99 = .ok (.iadd, 1) := by decide +kernel
theorem dX8_image_100 : decode cX8_image 100 = .ok (.aload_n 0, 1) := by decide +kernel
theorem dX8_image_101 : decode cX8_image 101 = .ok (.getfield 29, 3) := by decide +kernel
theorem dX8_image_104 : decode cX8_image 104 = .ok (.iload_n 3, 1) := by decide +kernel
theorem dX8_image_105 : decode cX8_image 105 = .ok (.iaload, 1) := by decide +kernel
theorem dX8_image_106 : decode cX8_image 106 = .ok (.iastore, 1) := by decide +kernel
theorem dX8_image_107 : decode cX8_image 107 = .ok (.iinc 3 1, 3) := by decide +kernel
theorem dX8_image_110 : decode cX8_image 110 = .ok (.goto (-42), 3) := by decide +kernel
theorem dX8_image_113 : decode cX8_image 113 = .ok (.iconst 0, 1) := by decide +kernel
theorem dX8_image_114 : decode cX8_image 114 = .ok (.istore_n 3, 1) := by decide +kernel
theorem dX8_image_115 : decode cX8_image 115 = .ok (.iload_n 3, 1) := by decide +kernel
theorem dX8_image_116 : decode cX8_image 116 = .ok (.bipush 7, 2) := by decide +kernel
theorem dX8_image_118 : decode cX8_image 118 = .ok (.if_icmp .ge 60, 3) := by decide +kernel
theorem dX8_image_121 : decode cX8_image 121 = .ok (.aload_n 0, 1) := by decide +kernel
theorem dX8_image_122 : decode cX8_image 122 = .ok (.getfield 68, 3) := by decide +kernel
theorem dX8_image_125 : decode cX8_image 125 = .ok (.iload_n 2, 1) := by decide +kernel
theorem dX8_image_126 : decode cX8_image 126 = .ok (.bipush 36, 2) := by decide +kernel
theorem dX8_image_128 : decode cX8_image 128 = .ok (.iadd, 1) := by decide +kernel
theorem dX8_image_129 : decode cX8_image 129 = .ok (.iload_n 3, 1) := by decide +kernel
theorem dX8_image_130 : decode cX8_image 130 = .ok (.iadd, 1) := by decide +kernel
theorem dX8_image_131 : decode cX8_image 131 = .ok (.aload_n 0, 1) := by decide +kernel
theorem dX8_image_132 : decode cX8_image 132 = .ok (.getfield 20, 3) := by decide +kernel
theorem dX8_image_135 : decode cX8_image 135 = .ok (.iload_n 3, 1) := by decide +kernel
theorem dX8_image_136 : decode cX8_image 136 = .ok (.iaload, 1) := by decide +kernel
theorem dX8_image_137 : decode cX8_image 137 = .ok (.iastore, 1) := by decide +kernel
theorem dX8_image_138 : decode cX8_image 138 = .ok (.aload_n 0, 1) := by decide +kernel
theorem dX8_image_139 : decode cX8_image 139 = .ok (.getfield 68, 3) := by decide +kernel
theorem dX8_image_142 : decode cX8_image 142 = .ok (.iload_n 2, 1) := by decide +kernel
theorem dX8_image_143 : decode cX8_image 143 = .ok (.bipush 43, 2) := by decide +kernel
theorem dX8_image_145 : decode cX8_image 145 = .ok (.iadd, 1) := by decide +kernel
theorem dX8_image_146 : decode cX8_image 146 = .ok (.iload_n 3, 1) := by decide +kernel
theorem dX8_image_147 : decode cX8_image 147 = .ok (.iadd, 1) := by decide +kernel
theorem dX8_image_148 : decode cX8_image 148 = .ok (.aload_n 0, 1) := by decide +kernel
theorem dX8_image_149 : decode cX8_image 149 = .ok (.getfield 23, 3) := by decide +kernel
theorem dX8_image_152 : decode cX8_image 152 = .ok (.iload_n 3, 1) := by decide +kernel
theorem dX8_image_153 : decode cX8_image 153 = .ok (.iaload, 1) := by decide +kernel
theorem dX8_image_154 : decode cX8_image 154 = .ok (.iastore, 1) := by decide +kernel
theorem dX8_image_155 : decode cX8_image 155 = .ok (.aload_n 0, 1) := by decide +kernel
theorem dX8_image_156 : decode cX8_image 156 = .ok (.getfield 68, 3) := by decide +kernel
theorem dX8_image_159 : decode cX8_image 159 = .ok (.iload_n 2, 1) := by decide +kernel
theorem dX8_image_160 : decode cX8_image 160 = .ok (.bipush 50, 2) := by decide +kernel
theorem dX8_image_162 : decode cX8_image 162 = .ok (.iadd, 1) := by decide +kernel
theorem dX8_image_163 : decode cX8_image 163 = .ok (.iload_n 3, 1) := by decide +kernel
theorem dX8_image_164 : decode cX8_image 164 = .ok (.iadd, 1) := by decide +kernel
theorem dX8_image_165 : decode cX8_image 165 = .ok (.aload_n 0, 1) := by decide +kernel
theorem dX8_image_166 : decode cX8_image 166 = .ok (.getfield 26, 3) := by decide +kernel
theorem dX8_image_169 : decode cX8_image 169 = .ok (.iload_n 3, 1) := by decide +kernel
theorem dX8_image_170 : decode cX8_image 170 = .ok (.iaload, 1) := by decide +kernel
theorem dX8_image_171 : decode cX8_image 171 = .ok (.iastore, 1) := by decide +kernel
theorem dX8_image_172 : decode cX8_image 172 = .ok (.iinc 3 1, 3) := by decide +kernel
theorem dX8_image_175 : decode cX8_image 175 = .ok (.goto (-60), 3) := by decide +kernel
theorem dX8_image_178 : decode cX8_image 178 = .ok (.iconst 0, 1) := by decide +kernel
theorem dX8_image_179 : decode cX8_image 179 = .ok (.istore_n 3, 1) := by decide +kernel
theorem dX8_image_180 : decode cX8_image 180 = .ok (.iload_n 3, 1) := by decide +kernel
theorem dX8_image_181 : decode cX8_image 181 = .ok (.sipush 136, 3) := by decide +kernel
theorem dX8_image_184 : decode cX8_image 184 = .ok (.if_icmp .ge 26, 3) := by decide +kernel
theorem dX8_image_187 : decode cX8_image 187 = .ok (.aload_n 0, 1) := by decide +kernel
theorem dX8_image_188 : decode cX8_image 188 = .ok (.getfield 68, 3) := by decide +kernel
theorem dX8_image_191 : decode cX8_image 191 = .ok (.iload_n 2, 1) := by decide +kernel
theorem dX8_image_192 : decode cX8_image 192 = .ok (.bipush 57, 2) := by decide +kernel
theorem dX8_image_194 : decode cX8_image 194 = .ok (.iadd, 1) := by decide +kernel
theorem dX8_image_195 : decode cX8_image 195 = .ok (.iload_n 3, 1) := by decide +kernel
theorem dX8_image_196 : decode cX8_image 196 = .ok (.iadd, 1) := by decide +kernel
theorem dX8_image_197 : decode cX8_image 197 = .ok (.aload_n 0, 1) := by decide +kernel
theorem dX8_image_198 : decode cX8_image 198 = .ok (.getfield 41, 3) := by decide +kernel
theorem dX8_image_201 : decode cX8_image 201 = .ok (.iload_n 3, 1) := by decide +kernel
theorem dX8_image_202 : decode cX8_image 202 = .ok (.iaload, 1) := by decide +kernel
theorem dX8_image_203 : decode cX8_image 203 = .ok (.iastore, 1) := by decide +kernel
theorem dX8_image_204 : decode cX8_image 204 = .ok (.iinc 3 1, 3) := by decide +kernel
theorem dX8_image_207 : decode cX8_image 207 = .ok (.goto (-27), 3) := by decide +kernel
theorem dX8_image_210 : decode cX8_image 210 = .ok (.iconst 1, 1) := by decide +kernel
theorem dX8_image_211 : decode cX8_image 211 = .ok (.ireturn, 1) := by decide +kernel
theorem dX8_from_0 : decode cX8_from 0 = .ok (.iload_n 1, 1) := by decide +kernel
theorem dX8_from_1 : decode cX8_from 1 = .ok (.iconst 0, 1) := by decide +kernel
theorem dX8_from_2 : decode cX8_from 2 = .ok (.iconst 1, 1) := by decide +kernel
theorem dX8_from_3 : decode cX8_from 3 = .ok (.invokestatic 84, 3) := by decide +kernel
theorem dX8_from_6 : decode cX8_from 6 = .ok (.ifCond .ne 8, 3) := by decide +kernel
theorem dX8_from_9 : decode cX8_from 9 = .ok (.aload_n 0, 1) := by decide +kernel
theorem dX8_from_10 : decode cX8_from 10 = .ok (.invokevirtual 88, 3) := by decide +kernel
theorem dX8_from_13 : decode cX8_from 13 = .ok (.ireturn, 1) := by decide +kernel
theorem dX8_from_14 : decode cX8_from 14 = .ok (.sipush 193, 3) := by decide +kernel
theorem dX8_from_17 : decode cX8_from 17 = .ok (.iload_n 1, 1) := by decide +kernel
theorem dX8_from_18 : decode cX8_from 18 = .ok (.imul, 1) := by decide +kernel
theorem dX8_from_19 : decode cX8_from 19 = .ok (.istore_n 2, 1) := by decide +kernel
theorem dX8_from_20 : decode cX8_from 20 = .ok (.aload_n 0, 1) := by decide +kernel
theorem dX8_from_21 : decode cX8_from 21 = .ok (.getfield 68, 3) := by decide +kernel
theorem dX8_from_24 : decode cX8_from 24 = .ok (.iload_n 2, 1) := by decide +kernel
theorem dX8_from_25 : decode cX8_from 25 = .ok (.iaload, 1) := by decide +kernel
theorem dX8_from_26 : decode cX8_from 26 = .ok (.ifCond .ne 8, 3) := by decide +kernel
theorem dX8_from_29 : decode cX8_from 29 = .ok (.aload_n 0, 1) := by decide +kernel
theorem dX8_from_30 : decode cX8_from 30 = .ok (.invokevirtual 185, 3) := by decide +kernel
theorem dX8_from_33 : decode cX8_from 33 = .ok (.ireturn, 1) := by decide +kernel
theorem dX8_from_34 : decode cX8_from 34 = .ok (.aload_n 0, 1) := by decide +kernel
theorem dX8_from_35 : decode cX8_from 35 = .ok (.aload_n 0, 1) := by decide +kernel
theorem dX8_from_36 : decode cX8_from 36 = .ok (.getfield 68, 3) := by decide +kernel
theorem dX8_from_39 : decode cX8_from 39 = .ok (.iload_n 2, 1) := by decide +kernel
theorem dX8_from_40 : decode cX8_from 40 = .ok (.iaload, 1) := by decide +kernel
theorem dX8_from_41 : decode cX8_from 41 = .ok (.putfield 13, 3) := by decide +kernel
theorem dX8_from_44 : decode cX8_from 44 = .ok (.aload_n 0, 1) := by decide +kernel
theorem dX8_from_45 : decode cX8_from 45 = .ok (.aload_n 0, 1) := by decide +kernel
theorem dX8_from_46 : decode cX8_from 46 = .ok (.getfield 68, 3) := by decide +kernel
theorem dX8_from_49 : decode cX8_from 49 = .ok (.iload_n 2, 1) := by decide +kernel
theorem dX8_from_50 : decode cX8_from 50 = .ok (.iconst 1, 1) := by decide +kernel
theorem dX8_from_51 : decode cX8_from 51 = .ok (.iadd, 1) := by decide +kernel
theorem dX8_from_52 : decode cX8_from 52 = .ok (.iaload, 1) := by decide +kernel
theorem dX8_from_53 : decode cX8_from 53 = .ok (.putfield 75, 3) := by decide +kernel
theorem dX8_from_56 : decode cX8_from 56 = .ok (.aload_n 0, 1) := by decide +kernel
theorem dX8_from_57 : decode cX8_from 57 = .ok (.aload_n 0, 1) := by decide +kernel
theorem dX8_from_58 : decode cX8_from 58 = .ok (.getfield 68, 3) := by decide +kernel
theorem dX8_from_61 : decode cX8_from 61 = .ok (.iload_n 2, 1) := by decide +kernel
theorem dX8_from_62 : decode cX8_from 62 = .ok (.iconst 2, 1) := by decide +kernel
theorem dX8_from_63 : decode cX8_from 63 = .ok (.iadd, 1) := by decide +kernel
theorem dX8_from_64 : decode cX8_from 64 = .ok (.iaload, 1) := by decide +kernel
theorem dX8_from_65 : decode cX8_from 65 = .ok (.putfield 78, 3) := by decide +kernel
theorem dX8_from_68 : decode cX8_from 68 = .ok (.aload_n 0, 1) := by decide +kernel
theorem dX8_from_69 : decode cX8_from 69 = .ok (.aload_n 0, 1) := by decide +kernel
theorem dX8_from_70 : decode cX8_from 70 = .ok (.getfield 68, 3) := by decide +kernel
theorem dX8_from_73 : decode cX8_from 73 = .ok (.iload_n 2, 1) := by decide +kernel
theorem dX8_from_74 : decode cX8_from 74 = .ok (.iconst 3, 1) := by decide +kernel
theorem dX8_from_75 : decode cX8_from 75 = .ok (.iadd, 1) := by decide +kernel
theorem dX8_from_76 : decode cX8_from 76 = .ok (.iaload, 1) := by decide +kernel
theorem dX8_from_77 : decode cX8_from 77 = .ok (.putfield 81, 3) := by decide +kernel
theorem dX8_from_80 : decode cX8_from 80 = .ok (.iconst 0, 1) := by decide +kernel
theorem dX8_from_81 : decode cX8_from 81 = .ok (.istore_n 3, 1) := by decide +kernel
theorem dX8_from_82 : decode cX8_from 82 = .ok (.iload_n 3, 1) := by decide +kernel
theorem dX8_from_83 : decode cX8_from 83 = .ok (.bipush 16, 2) := by decide +kernel
theorem dX8_from_85 : decode cX8_from 85 = .ok (.if_icmp .ge 42, 3) := by decide +kernel
theorem dX8_from_88 : decode cX8_from 88 = .ok (.aload_n 0, 1) := by decide +kernel
theorem dX8_from_89 : decode cX8_from 89 = .ok (.getfield 17, 3) := by decide +kernel
theorem dX8_from_92 : decode cX8_from 92 = .ok (.iload_n 3, 1) := by decide +kernel
theorem dX8_from_93 : decode cX8_from 93 = .ok (.aload_n 0, 1) := by decide +kernel
theorem dX8_from_94 : decode cX8_from 94 = .ok (.getfield 68, 3) := by decide +kernel
theorem dX8_from_97 : decode cX8_from 97 = .ok (.iload_n 2, 1) := by decide +kernel
theorem dX8_from_98 : decode cX8_from 98 = .ok (.iconst 4, 1) := by decide +kernel
theorem dX8_from_99 : decode cX8_from 99 = .ok (.iadd, 1) := by decide +kernel
theorem dX8_from_100 : decode cX8_from 100 = .ok (.iload_n 3, 1) := by decide +kernel
theorem dX8_from_101 : decode cX8_from 101 = .ok (.iadd, 1) := by decide +kernel
theorem dX8_from_102 : decode cX8_from 102 = .ok (.iaload, 1) := by decide +kernel
theorem dX8_from_103 : decode cX8_from 103 = .ok (.iastore, 1) := by decide +kernel
theorem dX8_from_104 : decode cX8_from 104 = .ok (.aload_n 0, 1) := by decide +kernel
theorem dX8_from_105 : decode cX8_from 105 = .ok (.getfield 29, 3) := by decide +kernel
theorem dX8_from_108 : decode cX8_from 108 = .ok (.iload_n 3, 1) := by decide +kernel
theorem dX8_from_109 : decode cX8_from 109 = .ok (.aload_n 0, 1) := by decide +kernel
theorem dX8_from_110 : decode cX8_from 110 = .ok (.getfield 68, 3) := by decide +kernel
theorem dX8_from_113 : decode cX8_from 113 = .ok (.iload_n 2, 1) := by decide +kernel
theorem dX8_from_114 : decode cX8_from 114 = .ok (.bipush 20, 2) := by decide +kernel
theorem dX8_from_116 : decode cX8_from 116 = .ok (.iadd, 1) := by decide +kernel
theorem dX8_from_117 : decode cX8_from 117 = .ok (.iload_n 3, 1) := by decide +kernel
theorem dX8_from_118 : decode cX8_from 118 = .ok (.iadd, 1) := by decide +kernel
theorem dX8_from_119 : decode cX8_from 119 = .ok (.iaload, 1) := by decide +kernel
theorem dX8_from_120 : decode cX8_from 120 = .ok (.iastore, 1) := by decide +kernel
theorem dX8_from_121 : decode cX8_from 121 = .ok (.iinc 3 1, 3) := by decide +kernel
theorem dX8_from_124 : decode cX8_from 124 = .ok (.goto (-42), 3) := by decide +kernel
theorem dX8_from_127 : decode cX8_from 127 = .ok (.iconst 0, 1) := by decide +kernel
theorem dX8_from_128 : decode cX8_from 128 = .ok (.istore_n 3, 1) := by decide +kernel
theorem dX8_from_129 : decode cX8_from 129 = .ok (.iload_n 3, 1) := by decide +kernel
theorem dX8_from_130 : decode cX8_from 130 = .ok (.bipush 7, 2) := by decide +kernel
theorem dX8_from_132 : decode cX8_from 132 = .ok (.if_icmp .ge 60, 3) := by decide +kernel
theorem dX8_from_135 : decode cX8_from 135 = .ok (.aload_n 0, 1) := by decide +kernel
theorem dX8_from_136 : decode cX8_from 136 = .ok (.getfield 20, 3) := by decide +kernel
theorem dX8_from_139 : decode cX8_from 139 = .ok (.iload_n 3, 1) := by decide +kernel
theorem dX8_from_140 : decode cX8_from 140 = .ok (.aload_n 0, 1) := by decide +kernel
theorem dX8_from_141 : decode cX8_from 141 = .ok (.getfield 68, 3) := by decide +kernel
theorem dX8_from_144 : decode cX8_from 144 = .ok (.iload_n 2, 1) := by decide +kernel
theorem dX8_from_145 : decode cX8_from 145 = .ok (.bipush 36, 2) := by decide +kernel
theorem dX8_from_147 : decode cX8_from 147 = .ok (.iadd, 1) := by decide +kernel
theorem dX8_from_148 : decode cX8_from 148 = .ok (.iload_n 3, 1) := by decide +kernel
theorem dX8_from_149 : decode cX8_from 149 = .ok (.iadd, 1) := by decide +kernel
theorem dX8_from_150 : decode cX8_from 150 = .ok (.iaload, 1) := by decide +kernel
theorem dX8_from_151 : decode cX8_from 151 = .ok (.iastore, 1) := by decide +kernel
theorem dX8_from_152 : decode cX8_from 152 = .ok (.aload_n 0, 1) := by decide +kernel
theorem dX8_from_153 : decode cX8_from 153 = .ok (.getfield 23, 3) := by decide +kernel
theorem dX8_from_156 : decode cX8_from 156 = .ok (.iload_n 3, 1) := by decide +kernel
theorem dX8_from_157 : decode cX8_from 157 = .ok (.aload_n 0, 1) := by decide +kernel
theorem dX8_from_158 : decode cX8_from 158 = .ok (.getfield 68, 3) := by decide +kernel
theorem dX8_from_161 : decode cX8_from 161 = .ok (.iload_n 2, 1) := by decide +kernel
theorem dX8_from_162 : decode cX8_from 162 = .ok (.bipush 43, 2) := by decide +kernel
theorem dX8_from_164 : decode cX8_from 164 = .ok (.iadd, 1) := by decide +kernel
theorem dX8_from_165 : decode cX8_from 165 = .ok (.iload_n 3, 1) := by decide +kernel
theorem dX8_from_166 : decode cX8_from 166 = .ok (.iadd, 1) := by decide +kernel
theorem dX8_from_167 : decode cX8_from 167 = .ok (.iaload, 1) := by decide +kernel
theorem dX8_from_168 : decode cX8_from 168 = .ok (.iastore, 1) := by decide +kernel
theorem dX8_from_169 : decode cX8_from 169 = .ok (.aload_n 0, 1) := by decide +kernel
theorem dX8_from_170 : decode cX8_from 170 = .ok (.getfield 26, 3) := by decide +kernel
theorem dX8_from_173 : decode cX8_from 173 = .ok (.iload_n 3, 1) := by decide +kernel
theorem dX8_from_174 : decode cX8_from 174 = .ok (.aload_n 0, 1) := by decide +kernel
theorem dX8_from_175 : decode cX8_from 175 = .ok (.getfield 68, 3) := by decide +kernel
theorem dX8_from_178 : decode cX8_from 178 = .ok (.iload_n 2, 1) := by decide +kernel
theorem dX8_from_179 : decode cX8_from 179 = .ok (.bipush 50, 2) := by decide +kernel
theorem dX8_from_181 : decode cX8_from 181 = .ok (.iadd, 1) := by decide +kernel
theorem dX8_from_182 : decode cX8_from 182 = .ok (.iload_n 3, 1) := by decide +kernel
theorem dX8_from_183 : decode cX8_from 183 = .ok (.iadd, 1) := by decide +kernel
theorem dX8_from_184 : decode cX8_from 184 = .ok (.iaload, 1) := by decide +kernel
theorem dX8_from_185 : decode cX8_from 185 = .ok (.iastore, 1) := by decide +kernel
theorem dX8_from_186 : decode cX8_from 186 = .ok (.iinc 3 1, 3) := by decide +kernel
theorem dX8_from_189 : decode cX8_from 189 = .ok (.goto (-60), 3) := by decide +kernel
theorem dX8_from_192 : decode cX8_from 192 = .ok (.iconst 0, 1) := by decide +kernel
theorem dX8_from_193 : decode cX8_from 193 = .ok (.istore_n 3, 1) := by decide +kernel
theorem dX8_from_194 : decode cX8_from 194 = .ok (.iload_n 3, 1) := by decide +kernel
theorem dX8_from_195 : decode cX8_from 195 = .ok (.sipush 136, 3) := by decide +kernel
theorem dX8_from_198 : decode cX8_from 198 = .ok (.if_icmp .ge 26, 3) := by decide +kernel
theorem dX8_from_201 : decode cX8_from 201 = .ok (.aload_n 0, 1) := by decide +kernel
theorem dX8_from_202 : decode cX8_from 202 = .ok (.getfield 41, 3) := by decide +kernel
theorem dX8_from_205 : decode cX8_from 205 = .ok (.iload_n 3, 1) := by decide +kernel
theorem dX8_from_206 : decode cX8_from 206 = .ok (.aload_n 0, 1) := by decide +kernel
theorem dX8_from_207 : decode cX8_from 207 = .ok (.getfield 68, 3) := by decide +kernel
theorem dX8_from_210 : decode cX8_from 210 = .ok (.iload_n 2, 1) := by decide +kernel
theorem dX8_from_211 : decode cX8_from 211 = .ok (.bipush 57, 2) := by decide +kernel
theorem dX8_from_213 : decode cX8_from 213 = .ok (.iadd, 1) := by decide +kernel
theorem dX8_from_214 : decode cX8_from 214 = .ok (.iload_n 3, 1) := by decide +kernel
theorem dX8_from_215 : decode cX8_from 215 = .ok (.iadd, 1) := by decide +kernel
theorem dX8_from_216 : decode cX8_from 216 = .ok (.iaload, 1) := by decide +kernel
theorem dX8_from_217 : decode cX8_from 217 = .ok (.iastore, 1) := by decide +kernel
theorem dX8_from_218 : decode cX8_from 218 = .ok (.iinc 3 1, 3) := by decide +kernel
theorem dX8_from_221 : decode cX8_from 221 = .ok (.goto (-27), 3) := by decide +kernel
theorem dX8_from_224 : decode cX8_from 224 = .ok (.iconst 1, 1) := by decide +kernel
theorem dX8_from_225 : decode cX8_from 225 = .ok (.ireturn, 1) := by decide +kernel
theorem dX8_status_0 : decode cX8_status 0 = .ok (.iload_n 1, 1) := by decide +kernel
theorem dX8_status_1 : decode cX8_status 1 = .ok (.iconst 0, 1) := by decide +kernel
theorem dX8_status_2 : decode cX8_status 2 = .ok (.iconst 2, 1) := by decide +kernel
theorem dX8_status_3 : decode cX8_status 3 = .ok (.invokestatic 84, 3) := by decide +kernel
theorem dX8_status_6 : decode cX8_status 6 = .ok (.ifCond .ne 15, 3) := by decide +kernel
theorem dX8_status_9 : decode cX8_status 9 = .ok (.aload_n 0, 1) := by decide +kernel
theorem dX8_status_10 : decode cX8_status 10 = .ok (.getfield 1, 3) := by decide +kernel
theorem dX8_status_13 : decode cX8_status 13 = .ok (.iconst 0, 1) := by decide +kernel
theorem dX8_status_14 : decode cX8_status 14 = .ok (.dup2, 1) := by decide +kernel
theorem dX8_status_15 : decode cX8_status 15 = .ok (.iaload, 1) := by decide +kernel
theorem dX8_status_16 : decode cX8_status 16 = .ok (.iconst 1, 1) := by decide +kernel
theorem dX8_status_17 : decode cX8_status 17 = .ok (.iadd, 1) := by decide +kernel
theorem dX8_status_18 : decode cX8_status 18 = .ok (.iastore, 1) := by decide +kernel
theorem dX8_status_19 : decode cX8_status 19 = .ok (.iconst (-1), 1) := by decide +kernel
theorem dX8_status_20 : decode cX8_status 20 = .ok (.ireturn, 1) := by decide +kernel
theorem dX8_status_21 : decode cX8_status 21 = .ok (.aload_n 0, 1) := by decide +kernel
theorem dX8_status_22 : decode cX8_status 22 = .ok (.getfield 1, 3) := by decide +kernel
theorem dX8_status_25 : decode cX8_status 25 = .ok (.iload_n 1, 1) := by decide +kernel
theorem dX8_status_26 : decode cX8_status 26 = .ok (.iaload, 1) := by decide +kernel
theorem dX8_status_27 : decode cX8_status 27 = .ok (.ireturn, 1) := by decide +kernel
theorem dX8_countOf_0 : decode cX8_countOf 0 = .ok (.iload_n 1, 1) := by decide +kernel
theorem dX8_countOf_1 : decode cX8_countOf 1 = .ok (.tableswitch 63 0 4 #[35, 40, 45, 50, 58], 35) := by decide +kernel
theorem dX8_countOf_36 : decode cX8_countOf 36 = .ok (.aload_n 0, 1) := by decide +kernel
theorem dX8_countOf_37 : decode cX8_countOf 37 = .ok (.getfield 13, 3) := by decide +kernel
theorem dX8_countOf_40 : decode cX8_countOf 40 = .ok (.ireturn, 1) := by decide +kernel
theorem dX8_countOf_41 : decode cX8_countOf 41 = .ok (.aload_n 0, 1) := by decide +kernel
theorem dX8_countOf_42 : decode cX8_countOf 42 = .ok (.getfield 75, 3) := by decide +kernel
theorem dX8_countOf_45 : decode cX8_countOf 45 = .ok (.ireturn, 1) := by decide +kernel
theorem dX8_countOf_46 : decode cX8_countOf 46 = .ok (.aload_n 0, 1) := by decide +kernel
theorem dX8_countOf_47 : decode cX8_countOf 47 = .ok (.getfield 78, 3) := by decide +kernel
theorem dX8_countOf_50 : decode cX8_countOf 50 = .ok (.ireturn, 1) := by decide +kernel
theorem dX8_countOf_51 : decode cX8_countOf 51 = .ok (.aload_n 0, 1) := by decide +kernel
theorem dX8_countOf_52 : decode cX8_countOf 52 = .ok (.invokevirtual 182, 3) := by decide +kernel
theorem dX8_countOf_55 : decode cX8_countOf 55 = .ok (.invokestatic 192, 3) := by decide +kernel
theorem dX8_countOf_58 : decode cX8_countOf 58 = .ok (.ireturn, 1) := by decide +kernel
theorem dX8_countOf_59 : decode cX8_countOf 59 = .ok (.aload_n 0, 1) := by decide +kernel
theorem dX8_countOf_60 : decode cX8_countOf 60 = .ok (.getfield 81, 3) := by decide +kernel
theorem dX8_countOf_63 : decode cX8_countOf 63 = .ok (.ireturn, 1) := by decide +kernel
theorem dX8_countOf_64 : decode cX8_countOf 64 = .ok (.aload_n 0, 1) := by decide +kernel
theorem dX8_countOf_65 : decode cX8_countOf 65 = .ok (.getfield 106, 3) := by decide +kernel
theorem dX8_countOf_68 : decode cX8_countOf 68 = .ok (.ireturn, 1) := by decide +kernel
theorem dX8_count_0 : decode cX8_count 0 = .ok (.iload_n 1, 1) := by decide +kernel
theorem dX8_count_1 : decode cX8_count 1 = .ok (.iconst 0, 1) := by decide +kernel
theorem dX8_count_2 : decode cX8_count 2 = .ok (.iconst 5, 1) := by decide +kernel
theorem dX8_count_3 : decode cX8_count 3 = .ok (.invokestatic 84, 3) := by decide +kernel
theorem dX8_count_6 : decode cX8_count 6 = .ok (.ifCond .eq 11, 3) := by decide +kernel
theorem dX8_count_9 : decode cX8_count 9 = .ok (.aload_n 0, 1) := by decide +kernel
theorem dX8_count_10 : decode cX8_count 10 = .ok (.iload_n 1, 1) := by decide +kernel
theorem dX8_count_11 : decode cX8_count 11 = .ok (.invokevirtual 274, 3) := by decide +kernel
theorem dX8_count_14 : decode cX8_count 14 = .ok (.goto 7, 3) := by decide +kernel
theorem dX8_count_17 : decode cX8_count 17 = .ok (.aload_n 0, 1) := by decide +kernel
theorem dX8_count_18 : decode cX8_count 18 = .ok (.invokevirtual 88, 3) := by decide +kernel
theorem dX8_count_21 : decode cX8_count 21 = .ok (.ireturn, 1) := by decide +kernel
theorem dX8_mix_0 : decode cX8_mix 0 = .ok (.aload_n 0, 1) := by decide +kernel
theorem dX8_mix_1 : decode cX8_mix 1 = .ok (.ldc2_w 277, 3) := by decide +kernel
theorem dX8_mix_4 : decode cX8_mix 4 = .ok (.aload_n 0, 1) := by decide +kernel
theorem dX8_mix_5 : decode cX8_mix 5 = .ok (.getfield 279, 3) := by decide +kernel
theorem dX8_mix_8 : decode cX8_mix 8 = .ok (.lmul, 1) := by decide +kernel
theorem dX8_mix_9 : decode cX8_mix 9 = .ok (.lload_n 1, 1) := by decide +kernel
theorem dX8_mix_10 : decode cX8_mix 10 = .ok (.ladd, 1) := by decide +kernel
theorem dX8_mix_11 : decode cX8_mix 11 = .ok (.putfield 279, 3) := by decide +kernel
theorem dX8_mix_14 : decode cX8_mix 14 = .ok (.return_, 1) := by decide +kernel
theorem dX8_digest_0 : decode cX8_digest 0 = .ok (.aload_n 0, 1) := by decide +kernel
theorem dX8_digest_1 : decode cX8_digest 1 = .ok (.ldc2_w 282, 3) := by decide +kernel
theorem dX8_digest_4 : decode cX8_digest 4 = .ok (.putfield 279, 3) := by decide +kernel
theorem dX8_digest_7 : decode cX8_digest 7 = .ok (.iconst 0, 1) := by decide +kernel
theorem dX8_digest_8 : decode cX8_digest 8 = .ok (.istore_n 1, 1) := by decide +kernel
theorem dX8_digest_9 : decode cX8_digest 9 = .ok (.iload_n 1, 1) := by decide +kernel
theorem dX8_digest_10 : decode cX8_digest 10 = .ok (.iconst 5, 1) := by decide +kernel
theorem dX8_digest_11 : decode cX8_digest 11 = .ok (.if_icmp .gt 19, 3) := by decide +kernel
theorem dX8_digest_14 : decode cX8_digest 14 = .ok (.aload_n 0, 1) := by decide +kernel
theorem dX8_digest_15 : decode cX8_digest 15 = .ok (.aload_n 0, 1) := by decide +kernel
theorem dX8_digest_16 : decode cX8_digest 16 = .ok (.iload_n 1, 1) := by decide +kernel
theorem dX8_digest_17 : decode cX8_digest 17 = .ok (.invokevirtual 274, 3) := by decide +kernel
theorem dX8_digest_20 : decode cX8_digest 20 = .ok (.i2l, 1) := by decide +kernel
theorem dX8_digest_21 : decode cX8_digest 21 = .ok (.invokevirtual 284, 3) := by decide +kernel
theorem dX8_digest_24 : decode cX8_digest 24 = .ok (.iinc 1 1, 3) := by decide +kernel
theorem dX8_digest_27 : decode cX8_digest 27 = .ok (.goto (-18), 3) := by decide +kernel
theorem dX8_digest_30 : decode cX8_digest 30 = .ok (.iconst 0, 1) := by decide +kernel
theorem dX8_digest_31 : decode cX8_digest 31 = .ok (.istore_n 1, 1) := by decide +kernel
theorem dX8_digest_32 : decode cX8_digest 32 = .ok (.iload_n 1, 1) := by decide +kernel
theorem dX8_digest_33 : decode cX8_digest 33 = .ok (.aload_n 0, 1) := by decide +kernel
theorem dX8_digest_34 : decode cX8_digest 34 = .ok (.getfield 13, 3) := by decide +kernel
theorem dX8_digest_37 : decode cX8_digest 37 = .ok (.if_icmp .ge 20, 3) := by decide +kernel
theorem dX8_digest_40 : decode cX8_digest 40 = .ok (.aload_n 0, 1) := by decide +kernel
theorem dX8_digest_41 : decode cX8_digest 41 = .ok (.aload_n 0, 1) := by decide +kernel
theorem dX8_digest_42 : decode cX8_digest 42 = .ok (.getfield 17, 3) := by decide +kernel
theorem dX8_digest_45 : decode cX8_digest 45 = .ok (.iload_n 1, 1) := by decide +kernel
theorem dX8_digest_46 : decode cX8_digest 46 = .ok (.iaload, 1) := by decide +kernel
theorem dX8_digest_47 : decode cX8_digest 47 = .ok (.i2l, 1) := by decide +kernel
theorem dX8_digest_48 : decode cX8_digest 48 = .ok (.invokevirtual 284, 3) := by decide +kernel
theorem dX8_digest_51 : decode cX8_digest 51 = .ok (.iinc 1 1, 3) := by decide +kernel
theorem dX8_digest_54 : decode cX8_digest 54 = .ok (.goto (-22), 3) := by decide +kernel
theorem dX8_digest_57 : decode cX8_digest 57 = .ok (.iconst 0, 1) := by decide +kernel
theorem dX8_digest_58 : decode cX8_digest 58 = .ok (.istore_n 1, 1) := by decide +kernel
theorem dX8_digest_59 : decode cX8_digest 59 = .ok (.iload_n 1, 1) := by decide +kernel
theorem dX8_digest_60 : decode cX8_digest 60 = .ok (.aload_n 0, 1) := by decide +kernel
theorem dX8_digest_61 : decode cX8_digest 61 = .ok (.getfield 75, 3) := by decide +kernel
theorem dX8_digest_64 : decode cX8_digest 64 = .ok (.if_icmp .ge 42, 3) := by decide +kernel
theorem dX8_digest_67 : decode cX8_digest 67 = .ok (.aload_n 0, 1) := by decide +kernel
theorem dX8_digest_68 : decode cX8_digest 68 = .ok (.aload_n 0, 1) := by decide +kernel
theorem dX8_digest_69 : decode cX8_digest 69 = .ok (.getfield 20, 3) := by decide +kernel
theorem dX8_digest_72 : decode cX8_digest 72 = .ok (.iload_n 1, 1) := by decide +kernel
theorem dX8_digest_73 : decode cX8_digest 73 = .ok (.iaload, 1) := by decide +kernel
theorem dX8_digest_74 : decode cX8_digest 74 = .ok (.i2l, 1) := by decide +kernel
theorem dX8_digest_75 : decode cX8_digest 75 = .ok (.invokevirtual 284, 3) := by decide +kernel
theorem dX8_digest_78 : decode cX8_digest 78 = .ok (.aload_n 0, 1) := by decide +kernel
theorem dX8_digest_79 : decode cX8_digest 79 = .ok (.aload_n 0, 1) := by decide +kernel
theorem dX8_digest_80 : decode cX8_digest 80 = .ok (.getfield 23, 3) := by decide +kernel
theorem dX8_digest_83 : decode cX8_digest 83 = .ok (.iload_n 1, 1) := by decide +kernel
theorem dX8_digest_84 : decode cX8_digest 84 = .ok (.iaload, 1) := by decide +kernel
theorem dX8_digest_85 : decode cX8_digest 85 = .ok (.i2l, 1) := by decide +kernel
theorem dX8_digest_86 : decode cX8_digest 86 = .ok (.invokevirtual 284, 3) := by decide +kernel
theorem dX8_digest_89 : decode cX8_digest 89 = .ok (.aload_n 0, 1) := by decide +kernel
theorem dX8_digest_90 : decode cX8_digest 90 = .ok (.aload_n 0, 1) := by decide +kernel
theorem dX8_digest_91 : decode cX8_digest 91 = .ok (.getfield 26, 3) := by decide +kernel
theorem dX8_digest_94 : decode cX8_digest 94 = .ok (.iload_n 1, 1) := by decide +kernel
theorem dX8_digest_95 : decode cX8_digest 95 = .ok (.iaload, 1) := by decide +kernel
theorem dX8_digest_96 : decode cX8_digest 96 = .ok (.i2l, 1) := by decide +kernel
theorem dX8_digest_97 : decode cX8_digest 97 = .ok (.invokevirtual 284, 3) := by decide +kernel
theorem dX8_digest_100 : decode cX8_digest 100 = .ok (.iinc 1 1, 3) := by decide +kernel
theorem dX8_digest_103 : decode cX8_digest 103 = .ok (.goto (-44), 3) := by decide +kernel
theorem dX8_digest_106 : decode cX8_digest 106 = .ok (.iconst 0, 1) := by decide +kernel
theorem dX8_digest_107 : decode cX8_digest 107 = .ok (.istore_n 1, 1) := by decide +kernel
theorem dX8_digest_108 : decode cX8_digest 108 = .ok (.iload_n 1, 1) := by decide +kernel
theorem dX8_digest_109 : decode cX8_digest 109 = .ok (.iconst 2, 1) := by decide +kernel
theorem dX8_digest_110 : decode cX8_digest 110 = .ok (.aload_n 0, 1) := by decide +kernel
theorem dX8_digest_111 : decode cX8_digest 111 = .ok (.getfield 78, 3) := by decide +kernel
theorem dX8_digest_114 : decode cX8_digest 114 = .ok (.imul, 1) := by decide +kernel
theorem dX8_digest_115 : decode cX8_digest 115 = .ok (.if_icmp .ge 20, 3) := by decide +kernel
theorem dX8_digest_118 : decode cX8_digest 118 = .ok (.aload_n 0, 1) := by decide +kernel
theorem dX8_digest_119 : decode cX8_digest 119 = .ok (.aload_n 0, 1) := by decide +kernel
theorem dX8_digest_120 : decode cX8_digest 120 = .ok (.getfield 29, 3) := by decide +kernel
theorem dX8_digest_123 : decode cX8_digest 123 = .ok (.iload_n 1, 1) := by decide +kernel
theorem dX8_digest_124 : decode cX8_digest 124 = .ok (.iaload, 1) := by decide +kernel
theorem dX8_digest_125 : decode cX8_digest 125 = .ok (.i2l, 1) := by decide +kernel
theorem dX8_digest_126 : decode cX8_digest 126 = .ok (.invokevirtual 284, 3) := by decide +kernel
theorem dX8_digest_129 : decode cX8_digest 129 = .ok (.iinc 1 1, 3) := by decide +kernel
theorem dX8_digest_132 : decode cX8_digest 132 = .ok (.goto (-24), 3) := by decide +kernel
theorem dX8_digest_135 : decode cX8_digest 135 = .ok (.aload_n 0, 1) := by decide +kernel
theorem dX8_digest_136 : decode cX8_digest 136 = .ok (.aload_n 0, 1) := by decide +kernel
theorem dX8_digest_137 : decode cX8_digest 137 = .ok (.getfield 234, 3) := by decide +kernel
theorem dX8_digest_140 : decode cX8_digest 140 = .ok (.invokevirtual 284, 3) := by decide +kernel
theorem dX8_digest_143 : decode cX8_digest 143 = .ok (.aload_n 0, 1) := by decide +kernel
theorem dX8_digest_144 : decode cX8_digest 144 = .ok (.aload_n 0, 1) := by decide +kernel
theorem dX8_digest_145 : decode cX8_digest 145 = .ok (.getfield 61, 3) := by decide +kernel
theorem dX8_digest_148 : decode cX8_digest 148 = .ok (.invokevirtual 284, 3) := by decide +kernel
theorem dX8_digest_151 : decode cX8_digest 151 = .ok (.aload_n 0, 1) := by decide +kernel
theorem dX8_digest_152 : decode cX8_digest 152 = .ok (.getfield 279, 3) := by decide +kernel
theorem dX8_digest_155 : decode cX8_digest 155 = .ok (.lreturn, 1) := by decide +kernel
theorem dJ6_bitCount_0f7a4_0 : decode cJ6_bitCount_0f7a4 0 = .ok (.iload_n 0, 1) := by decide +kernel
theorem dJ6_bitCount_0f7a4_1 : decode cJ6_bitCount_0f7a4 1 = .ok (.iload_n 0, 1) := by decide +kernel
theorem dJ6_bitCount_0f7a4_2 : decode cJ6_bitCount_0f7a4 2 = .ok (.iconst 1, 1) := by decide +kernel
theorem dJ6_bitCount_0f7a4_3 : decode cJ6_bitCount_0f7a4 3 = .ok (.iushr, 1) := by decide +kernel
theorem dJ6_bitCount_0f7a4_4 : decode cJ6_bitCount_0f7a4 4 = .ok (.ldc_w 265, 3) := by decide +kernel
theorem dJ6_bitCount_0f7a4_7 : decode cJ6_bitCount_0f7a4 7 = .ok (.iand, 1) := by decide +kernel
theorem dJ6_bitCount_0f7a4_8 : decode cJ6_bitCount_0f7a4 8 = .ok (.isub, 1) := by decide +kernel
theorem dJ6_bitCount_0f7a4_9 : decode cJ6_bitCount_0f7a4 9 = .ok (.istore_n 0, 1) := by decide +kernel
theorem dJ6_bitCount_0f7a4_10 : decode cJ6_bitCount_0f7a4 10 = .ok (.iload_n 0, 1) := by decide +kernel
theorem dJ6_bitCount_0f7a4_11 : decode cJ6_bitCount_0f7a4 11 = .ok (.ldc_w 266, 3) := by decide +kernel
theorem dJ6_bitCount_0f7a4_14 : decode cJ6_bitCount_0f7a4 14 = .ok (.iand, 1) := by decide +kernel
theorem dJ6_bitCount_0f7a4_15 : decode cJ6_bitCount_0f7a4 15 = .ok (.iload_n 0, 1) := by decide +kernel
theorem dJ6_bitCount_0f7a4_16 : decode cJ6_bitCount_0f7a4 16 = .ok (.iconst 2, 1) := by decide +kernel
theorem dJ6_bitCount_0f7a4_17 : decode cJ6_bitCount_0f7a4 17 = .ok (.iushr, 1) := by decide +kernel
theorem dJ6_bitCount_0f7a4_18 : decode cJ6_bitCount_0f7a4 18 = .ok (.ldc_w 266, 3) := by decide +kernel
theorem dJ6_bitCount_0f7a4_21 : decode cJ6_bitCount_0f7a4 21 = .ok (.iand, 1) := by decide +kernel
theorem dJ6_bitCount_0f7a4_22 : decode cJ6_bitCount_0f7a4 22 = .ok (.iadd, 1) := by decide +kernel
theorem dJ6_bitCount_0f7a4_23 : decode cJ6_bitCount_0f7a4 23 = .ok (.istore_n 0, 1) := by decide +kernel
theorem dJ6_bitCount_0f7a4_24 : decode cJ6_bitCount_0f7a4 24 = .ok (.iload_n 0, 1) := by decide +kernel
theorem dJ6_bitCount_0f7a4_25 : decode cJ6_bitCount_0f7a4 25 = .ok (.iload_n 0, 1) := by decide +kernel
theorem dJ6_bitCount_0f7a4_26 : decode cJ6_bitCount_0f7a4 26 = .ok (.iconst 4, 1) := by decide +kernel
theorem dJ6_bitCount_0f7a4_27 : decode cJ6_bitCount_0f7a4 27 = .ok (.iushr, 1) := by decide +kernel
theorem dJ6_bitCount_0f7a4_28 : decode cJ6_bitCount_0f7a4 28 = .ok (.iadd, 1) := by decide +kernel
theorem dJ6_bitCount_0f7a4_29 : decode cJ6_bitCount_0f7a4 29 = .ok (.ldc_w 267, 3) := by decide +kernel
theorem dJ6_bitCount_0f7a4_32 : decode cJ6_bitCount_0f7a4 32 = .ok (.iand, 1) := by decide +kernel
theorem dJ6_bitCount_0f7a4_33 : decode cJ6_bitCount_0f7a4 33 = .ok (.istore_n 0, 1) := by decide +kernel
theorem dJ6_bitCount_0f7a4_34 : decode cJ6_bitCount_0f7a4 34 = .ok (.iload_n 0, 1) := by decide +kernel
theorem dJ6_bitCount_0f7a4_35 : decode cJ6_bitCount_0f7a4 35 = .ok (.iload_n 0, 1) := by decide +kernel
theorem dJ6_bitCount_0f7a4_36 : decode cJ6_bitCount_0f7a4 36 = .ok (.bipush 8, 2) := by decide +kernel
theorem dJ6_bitCount_0f7a4_38 : decode cJ6_bitCount_0f7a4 38 = .ok (.iushr, 1) := by decide +kernel
theorem dJ6_bitCount_0f7a4_39 : decode cJ6_bitCount_0f7a4 39 = .ok (.iadd, 1) := by decide +kernel
theorem dJ6_bitCount_0f7a4_40 : decode cJ6_bitCount_0f7a4 40 = .ok (.istore_n 0, 1) := by decide +kernel
theorem dJ6_bitCount_0f7a4_41 : decode cJ6_bitCount_0f7a4 41 = .ok (.iload_n 0, 1) := by decide +kernel
theorem dJ6_bitCount_0f7a4_42 : decode cJ6_bitCount_0f7a4 42 = .ok (.iload_n 0, 1) := by decide +kernel
theorem dJ6_bitCount_0f7a4_43 : decode cJ6_bitCount_0f7a4 43 = .ok (.bipush 16, 2) := by decide +kernel
theorem dJ6_bitCount_0f7a4_45 : decode cJ6_bitCount_0f7a4 45 = .ok (.iushr, 1) := by decide +kernel
theorem dJ6_bitCount_0f7a4_46 : decode cJ6_bitCount_0f7a4 46 = .ok (.iadd, 1) := by decide +kernel
theorem dJ6_bitCount_0f7a4_47 : decode cJ6_bitCount_0f7a4 47 = .ok (.istore_n 0, 1) := by decide +kernel
theorem dJ6_bitCount_0f7a4_48 : decode cJ6_bitCount_0f7a4 48 = .ok (.iload_n 0, 1) := by decide +kernel
theorem dJ6_bitCount_0f7a4_49 : decode cJ6_bitCount_0f7a4 49 = .ok (.bipush 63, 2) := by decide +kernel
theorem dJ6_bitCount_0f7a4_51 : decode cJ6_bitCount_0f7a4 51 = .ok (.iand, 1) := by decide +kernel
theorem dJ6_bitCount_0f7a4_52 : decode cJ6_bitCount_0f7a4 52 = .ok (.ireturn, 1) := by decide +kernel
theorem dJ9_floorMod_7cf53_0 : decode cJ9_floorMod_7cf53 0 = .ok (.iload_n 0, 1) := by decide +kernel
theorem dJ9_floorMod_7cf53_1 : decode cJ9_floorMod_7cf53 1 = .ok (.iload_n 1, 1) := by decide +kernel
theorem dJ9_floorMod_7cf53_2 : decode cJ9_floorMod_7cf53 2 = .ok (.irem, 1) := by decide +kernel
theorem dJ9_floorMod_7cf53_3 : decode cJ9_floorMod_7cf53 3 = .ok (.istore_n 2, 1) := by decide +kernel
theorem dJ9_floorMod_7cf53_4 : decode cJ9_floorMod_7cf53 4 = .ok (.iload_n 0, 1) := by decide +kernel
theorem dJ9_floorMod_7cf53_5 : decode cJ9_floorMod_7cf53 5 = .ok (.iload_n 1, 1) := by decide +kernel
theorem dJ9_floorMod_7cf53_6 : decode cJ9_floorMod_7cf53 6 = .ok (.ixor, 1) := by decide +kernel
theorem dJ9_floorMod_7cf53_7 : decode cJ9_floorMod_7cf53 7 = .ok (.ifCond .ge 11, 3) := by decide +kernel
theorem dJ9_floorMod_7cf53_10 : decode cJ9_floorMod_7cf53 10 = .ok (.iload_n 2, 1) := by decide +kernel
theorem dJ9_floorMod_7cf53_11 : decode cJ9_floorMod_7cf53 11 = .ok (.ifCond .eq 7, 3) := by decide +kernel
theorem dJ9_floorMod_7cf53_14 : decode cJ9_floorMod_7cf53 14 = .ok (.iload_n 2, 1) := by decide +kernel
theorem dJ9_floorMod_7cf53_15 : decode cJ9_floorMod_7cf53 15 = .ok (.iload_n 1, 1) := by decide +kernel
theorem dJ9_floorMod_7cf53_16 : decode cJ9_floorMod_7cf53 16 = .ok (.iadd, 1) := by decide +kernel
theorem dJ9_floorMod_7cf53_17 : decode cJ9_floorMod_7cf53 17 = .ok (.ireturn, 1) := by decide +kernel
theorem dJ9_floorMod_7cf53_18 : decode cJ9_floorMod_7cf53 18 = .ok (.iload_n 2, 1) := by decide +kernel
theorem dJ9_floorMod_7cf53_19 : decode cJ9_floorMod_7cf53 19 = .ok (.ireturn, 1) := by decide +kernel
theorem dJ9_max_7cf53_0 : decode cJ9_max_7cf53 0 = .ok (.iload_n 0, 1) := by decide +kernel
theorem dJ9_max_7cf53_1 : decode cJ9_max_7cf53 1 = .ok (.iload_n 1, 1) := by decide +kernel
theorem dJ9_max_7cf53_2 : decode cJ9_max_7cf53 2 = .ok (.if_icmp .lt 7, 3) := by decide +kernel
theorem dJ9_max_7cf53_5 : decode cJ9_max_7cf53 5 = .ok (.iload_n 0, 1) := by decide +kernel
theorem dJ9_max_7cf53_6 : decode cJ9_max_7cf53 6 = .ok (.goto 4, 3) := by decide +kernel
theorem dJ9_max_7cf53_9 : decode cJ9_max_7cf53 9 = .ok (.iload_n 1, 1) := by decide +kernel
theorem dJ9_max_7cf53_10 : decode cJ9_max_7cf53 10 = .ok (.ireturn, 1) := by decide +kernel
theorem dJ9_min_7cf53_0 : decode cJ9_min_7cf53 0 = .ok (.iload_n 0, 1) := by decide +kernel
theorem dJ9_min_7cf53_1 : decode cJ9_min_7cf53 1 = .ok (.iload_n 1, 1) := by decide +kernel
theorem dJ9_min_7cf53_2 : decode cJ9_min_7cf53 2 = .ok (.if_icmp .gt 7, 3) := by decide +kernel
theorem dJ9_min_7cf53_5 : decode cJ9_min_7cf53 5 = .ok (.iload_n 0, 1) := by decide +kernel
theorem dJ9_min_7cf53_6 : decode cJ9_min_7cf53 6 = .ok (.goto 4, 3) := by decide +kernel
theorem dJ9_min_7cf53_9 : decode cJ9_min_7cf53 9 = .ok (.iload_n 1, 1) := by decide +kernel
theorem dJ9_min_7cf53_10 : decode cJ9_min_7cf53 10 = .ok (.ireturn, 1) := by decide +kernel
theorem dJ0_length_8abf5_0 : decode cJ0_length_8abf5 0 = .ok (.aload_n 0, 1) := by decide +kernel
theorem dJ0_length_8abf5_1 : decode cJ0_length_8abf5 1 = .ok (.getfield 9, 3) := by decide +kernel
theorem dJ0_length_8abf5_4 : decode cJ0_length_8abf5 4 = .ok (.arraylength, 1) := by decide +kernel
theorem dJ0_length_8abf5_5 : decode cJ0_length_8abf5 5 = .ok (.aload_n 0, 1) := by decide +kernel
theorem dJ0_length_8abf5_6 : decode cJ0_length_8abf5 6 = .ok (.invokevirtual 335, 3) := by decide +kernel
theorem dJ0_length_8abf5_9 : decode cJ0_length_8abf5 9 = .ok (.ishr, 1) := by decide +kernel
theorem dJ0_length_8abf5_10 : decode cJ0_length_8abf5 10 = .ok (.ireturn, 1) := by decide +kernel
theorem dJ0_charAt_5068e_0 : decode cJ0_charAt_5068e 0 = .ok (.aload_n 0, 1) := by decide +kernel
theorem dJ0_charAt_5068e_1 : decode cJ0_charAt_5068e 1 = .ok (.invokevirtual 492, 3) := by decide +kernel
theorem dJ0_charAt_5068e_4 : decode cJ0_charAt_5068e 4 = .ok (.ifCond .eq 12, 3) := by decide +kernel
theorem dJ0_charAt_5068e_7 : decode cJ0_charAt_5068e 7 = .ok (.aload_n 0, 1) := by decide +kernel
theorem dJ0_charAt_5068e_8 : decode cJ0_charAt_5068e 8 = .ok (.getfield 9, 3) := by decide +kernel
theorem dJ0_charAt_5068e_11 : decode cJ0_charAt_5068e 11 = .ok (.iload_n 1, 1) := by decide +kernel
theorem dJ0_charAt_5068e_12 : decode cJ0_charAt_5068e 12 = .ok (.invokestatic 495, 3) := by decide +kernel
theorem dJ0_charAt_5068e_15 : decode cJ0_charAt_5068e 15 = .ok (.ireturn, 1) := by decide +kernel
theorem dJ0_charAt_5068e_16 : decode cJ0_charAt_5068e 16 = .ok (.aload_n 0, 1) := by decide +kernel
theorem dJ0_charAt_5068e_17 : decode cJ0_charAt_5068e 17 = .ok (.getfield 9, 3) := by decide +kernel
theorem dJ0_charAt_5068e_20 : decode cJ0_charAt_5068e 20 = .ok (.iload_n 1, 1) := by decide +kernel
theorem dJ0_charAt_5068e_21 : decode cJ0_charAt_5068e 21 = .ok (.invokestatic 498, 3) := by decide +kernel
theorem dJ0_charAt_5068e_24 : decode cJ0_charAt_5068e 24 = .ok (.ireturn, 1) := by decide +kernel
theorem dJ0_coder_7d493_0 : decode cJ0_coder_7d493 0 = .ok (.getstatic 38, 3) := by decide +kernel
theorem dJ0_coder_7d493_3 : decode cJ0_coder_7d493 3 = .ok (.ifCond .eq 10, 3) := by decide +kernel
theorem dJ0_coder_7d493_6 : decode cJ0_coder_7d493 6 = .ok (.aload_n 0, 1) := by decide +kernel
theorem dJ0_coder_7d493_7 : decode cJ0_coder_7d493 7 = .ok (.getfield 15, 3) := by decide +kernel
theorem dJ0_coder_7d493_10 : decode cJ0_coder_7d493 10 = .ok (.goto 4, 3) := by decide +kernel
theorem dJ0_coder_7d493_13 : decode cJ0_coder_7d493 13 = .ok (.iconst 1, 1) := by decide +kernel
theorem dJ0_coder_7d493_14 : decode cJ0_coder_7d493 14 = .ok (.ireturn, 1) := by decide +kernel
theorem dJ0_isLatin1_aae02_0 : decode cJ0_isLatin1_aae02 0 = .ok (.getstatic 38, 3) := by decide +kernel
theorem dJ0_isLatin1_aae02_3 : decode cJ0_isLatin1_aae02 3 = .ok (.ifCond .eq 14, 3) := by decide +kernel
theorem dJ0_isLatin1_aae02_6 : decode cJ0_isLatin1_aae02 6 = .ok (.aload_n 0, 1) := by decide +kernel
theorem dJ0_isLatin1_aae02_7 : decode cJ0_isLatin1_aae02 7 = .ok (.getfield 15, 3) := by decide +kernel
theorem dJ0_isLatin1_aae02_10 : decode cJ0_isLatin1_aae02 10 = .ok (.ifCond .ne 7, 3) := by decide +kernel
theorem dJ0_isLatin1_aae02_13 : decode cJ0_isLatin1_aae02 13 = .ok (.iconst 1, 1) := by decide +kernel
theorem dJ0_isLatin1_aae02_14 : decode cJ0_isLatin1_aae02 14 = .ok (.goto 4, 3) := by decide +kernel
theorem dJ0_isLatin1_aae02_17 : decode cJ0_isLatin1_aae02 17 = .ok (.iconst 0, 1) := by decide +kernel
theorem dJ0_isLatin1_aae02_18 : decode cJ0_isLatin1_aae02 18 = .ok (.ireturn, 1) := by decide +kernel
theorem dJ0_checkIndex_df160_0 : decode cJ0_checkIndex_df160 0 = .ok (.iload_n 0, 1) := by decide +kernel
theorem dJ0_checkIndex_df160_1 : decode cJ0_checkIndex_df160 1 = .ok (.iload_n 1, 1) := by decide +kernel
theorem dJ0_checkIndex_df160_2 : decode cJ0_checkIndex_df160 2 = .ok (.getstatic 1053, 3) := by decide +kernel
theorem dJ0_checkIndex_df160_5 : decode cJ0_checkIndex_df160 5 = .ok (.invokestatic 1059, 3) := by decide +kernel
theorem dJ0_checkIndex_df160_8 : decode cJ0_checkIndex_df160 8 = .ok (.pop, 1) := by decide +kernel
theorem dJ0_checkIndex_df160_9 : decode cJ0_checkIndex_df160 9 = .ok (.return_, 1) := by decide +kernel
theorem dJ1_charAt_3b067_0 : decode cJ1_charAt_3b067 0 = .ok (.iload_n 1, 1) := by decide +kernel
theorem dJ1_charAt_3b067_1 : decode cJ1_charAt_3b067 1 = .ok (.aload_n 0, 1) := by decide +kernel
theorem dJ1_charAt_3b067_2 : decode cJ1_charAt_3b067 2 = .ok (.arraylength, 1) := by decide +kernel
theorem dJ1_charAt_3b067_3 : decode cJ1_charAt_3b067 3 = .ok (.invokestatic 9, 3) := by decide +kernel
theorem dJ1_charAt_3b067_6 : decode cJ1_charAt_3b067 6 = .ok (.aload_n 0, 1) := by decide +kernel
theorem dJ1_charAt_3b067_7 : decode cJ1_charAt_3b067 7 = .ok (.iload_n 1, 1) := by decide +kernel
theorem dJ1_charAt_3b067_8 : decode cJ1_charAt_3b067 8 = .ok (.baload, 1) := by decide +kernel
theorem dJ1_charAt_3b067_9 : decode cJ1_charAt_3b067 9 = .ok (.sipush 255, 3) := by decide +kernel
