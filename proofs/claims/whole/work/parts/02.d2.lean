theorem dX7_knows_48 : decode cX7_knows 48 = .ok (.ireturn, 1) := by decide +kernel
theorem dX7_knows_49 : decode cX7_knows 49 = .ok (.iconst 0, 1) := by decide +kernel
theorem dX7_knows_50 : decode cX7_knows 50 = .ok (.istore 4, 2) := by decide +kernel
theorem dX7_knows_52 : decode cX7_knows 52 = .ok (.aload_n 0, 1) := by decide +kernel
theorem dX7_knows_53 : decode cX7_knows 53 = .ok (.getfield 10, 3) := by decide +kernel
theorem dX7_knows_56 : decode cX7_knows 56 = .ok (.invokevirtual 192, 3) := by decide +kernel
theorem dX7_knows_59 : decode cX7_knows 59 = .ok (.iconst 1, 1) := by decide +kernel
theorem dX7_knows_60 : decode cX7_knows 60 = .ok (.isub, 1) := by decide +kernel
theorem dX7_knows_61 : decode cX7_knows 61 = .ok (.istore 5, 2) := by decide +kernel
theorem dX7_knows_63 : decode cX7_knows 63 = .ok (.iconst 0, 1) := by decide +kernel
theorem dX7_knows_64 : decode cX7_knows 64 = .ok (.istore 6, 2) := by decide +kernel
theorem dX7_knows_66 : decode cX7_knows 66 = .ok (.iload 6, 2) := by decide +kernel
theorem dX7_knows_68 : decode cX7_knows 68 = .ok (.aload_n 0, 1) := by decide +kernel
theorem dX7_knows_69 : decode cX7_knows 69 = .ok (.getfield 10, 3) := by decide +kernel
theorem dX7_knows_72 : decode cX7_knows 72 = .ok (.invokevirtual 192, 3) := by decide +kernel
theorem dX7_knows_75 : decode cX7_knows 75 = .ok (.if_icmp .ge 40, 3) := by decide +kernel
theorem dX7_knows_78 : decode cX7_knows 78 = .ok (.aload_n 0, 1) := by decide +kernel
theorem dX7_knows_79 : decode cX7_knows 79 = .ok (.getfield 10, 3) := by decide +kernel
theorem dX7_knows_82 : decode cX7_knows 82 = .ok (.iload 6, 2) := by decide +kernel
theorem dX7_knows_84 : decode cX7_knows 84 = .ok (.iload_n 1, 1) := by decide +kernel
theorem dX7_knows_85 : decode cX7_knows 85 = .ok (.aload_n 0, 1) := by decide +kernel
theorem dX7_knows_86 : decode cX7_knows 86 = .ok (.getfield 10, 3) := by decide +kernel
theorem dX7_knows_89 : decode cX7_knows 89 = .ok (.invokevirtual 189, 3) := by decide +kernel
theorem dX7_knows_92 : decode cX7_knows 92 = .ok (.invokevirtual 195, 3) := by decide +kernel
theorem dX7_knows_95 : decode cX7_knows 95 = .ok (.iload_n 2, 1) := by decide +kernel
theorem dX7_knows_96 : decode cX7_knows 96 = .ok (.if_icmp .ne 13, 3) := by decide +kernel
theorem dX7_knows_99 : decode cX7_knows 99 = .ok (.iinc 4 1, 3) := by decide +kernel
theorem dX7_knows_102 : decode cX7_knows 102 = .ok (.iload 5, 2) := by decide +kernel
theorem dX7_knows_104 : decode cX7_knows 104 = .ok (.iload 6, 2) := by decide +kernel
theorem dX7_knows_106 : decode cX7_knows 106 = .ok (.iand, 1) := by decide +kernel
theorem dX7_knows_107 : decode cX7_knows 107 = .ok (.istore 5, 2) := by decide +kernel
theorem dX7_knows_109 : decode cX7_knows 109 = .ok (.iinc 6 1, 3) := by decide +kernel
theorem dX7_knows_112 : decode cX7_knows 112 = .ok (.goto (-46), 3) := by decide +kernel
theorem dX7_knows_115 : decode cX7_knows 115 = .ok (.iload_n 3, 1) := by decide +kernel
theorem dX7_knows_116 : decode cX7_knows 116 = .ok (.ifCond .ne 6, 3) := by decide +kernel
theorem dX7_knows_119 : decode cX7_knows 119 = .ok (.iload 4, 2) := by decide +kernel
theorem dX7_knows_121 : decode cX7_knows 121 = .ok (.ireturn, 1) := by decide +kernel
theorem dX7_knows_122 : decode cX7_knows 122 = .ok (.iload 4, 2) := by decide +kernel
theorem dX7_knows_124 : decode cX7_knows 124 = .ok (.ifCond .ne 7, 3) := by decide +kernel
theorem dX7_knows_127 : decode cX7_knows 127 = .ok (.iconst (-1), 1) := by decide +kernel
theorem dX7_knows_128 : decode cX7_knows 128 = .ok (.goto 5, 3) := by decide +kernel
theorem dX7_knows_131 : decode cX7_knows 131 = .ok (.iload 5, 2) := by decide +kernel
theorem dX7_knows_133 : decode cX7_knows 133 = .ok (.ireturn, 1) := by decide +kernel
theorem dX7_parted_0 : decode cX7_parted 0 = .ok (.iload_n 1, 1) := by decide +kernel
theorem dX7_parted_1 : decode cX7_parted 1 = .ok (.iconst (-1), 1) := by decide +kernel
theorem dX7_parted_2 : decode cX7_parted 2 = .ok (.if_icmp .eq 20, 3) := by decide +kernel
theorem dX7_parted_5 : decode cX7_parted 5 = .ok (.aload_n 0, 1) := by decide +kernel
theorem dX7_parted_6 : decode cX7_parted 6 = .ok (.iload_n 1, 1) := by decide +kernel
theorem dX7_parted_7 : decode cX7_parted 7 = .ok (.invokevirtual 102, 3) := by decide +kernel
theorem dX7_parted_10 : decode cX7_parted 10 = .ok (.ifCond .ne 12, 3) := by decide +kernel
theorem dX7_parted_13 : decode cX7_parted 13 = .ok (.aload_n 0, 1) := by decide +kernel
theorem dX7_parted_14 : decode cX7_parted 14 = .ok (.bipush (-2), 2) := by decide +kernel
theorem dX7_parted_16 : decode cX7_parted 16 = .ok (.bipush (-10), 2) := by decide +kernel
theorem dX7_parted_18 : decode cX7_parted 18 = .ok (.invokevirtual 79, 3) := by decide +kernel
theorem dX7_parted_21 : decode cX7_parted 21 = .ok (.ireturn, 1) := by decide +kernel
theorem dX7_parted_22 : decode cX7_parted 22 = .ok (.iload_n 1, 1) := by decide +kernel
theorem dX7_parted_23 : decode cX7_parted 23 = .ok (.iconst (-1), 1) := by decide +kernel
theorem dX7_parted_24 : decode cX7_parted 24 = .ok (.if_icmp .ne 15, 3) := by decide +kernel
theorem dX7_parted_27 : decode cX7_parted 27 = .ok (.aload_n 0, 1) := by decide +kernel
theorem dX7_parted_28 : decode cX7_parted 28 = .ok (.getfield 10, 3) := by decide +kernel
theorem dX7_parted_31 : decode cX7_parted 31 = .ok (.invokevirtual 192, 3) := by decide +kernel
theorem dX7_parted_34 : decode cX7_parted 34 = .ok (.iconst 1, 1) := by decide +kernel
theorem dX7_parted_35 : decode cX7_parted 35 = .ok (.isub, 1) := by decide +kernel
theorem dX7_parted_36 : decode cX7_parted 36 = .ok (.goto 6, 3) := by decide +kernel
theorem dX7_parted_39 : decode cX7_parted 39 = .ok (.iconst 1, 1) := by decide +kernel
theorem dX7_parted_40 : decode cX7_parted 40 = .ok (.iload_n 1, 1) := by decide +kernel
theorem dX7_parted_41 : decode cX7_parted 41 = .ok (.ishl, 1) := by decide +kernel
theorem dX7_parted_42 : decode cX7_parted 42 = .ok (.istore_n 2, 1) := by decide +kernel
theorem dX7_parted_43 : decode cX7_parted 43 = .ok (.aload_n 0, 1) := by decide +kernel
theorem dX7_parted_44 : decode cX7_parted 44 = .ok (.getfield 10, 3) := by decide +kernel
theorem dX7_parted_47 : decode cX7_parted 47 = .ok (.iload_n 2, 1) := by decide +kernel
theorem dX7_parted_48 : decode cX7_parted 48 = .ok (.aload_n 0, 1) := by decide +kernel
theorem dX7_parted_49 : decode cX7_parted 49 = .ok (.getfield 10, 3) := by decide +kernel
theorem dX7_parted_52 : decode cX7_parted 52 = .ok (.iconst 0, 1) := by decide +kernel
theorem dX7_parted_53 : decode cX7_parted 53 = .ok (.invokevirtual 135, 3) := by decide +kernel
theorem dX7_parted_56 : decode cX7_parted 56 = .ok (.invokevirtual 199, 3) := by decide +kernel
theorem dX7_parted_59 : decode cX7_parted 59 = .ok (.ireturn, 1) := by decide +kernel
theorem dX7_row_0 : decode cX7_row 0 = .ok (.aload_n 0, 1) := by decide +kernel
theorem dX7_row_1 : decode cX7_row 1 = .ok (.iload_n 1, 1) := by decide +kernel
theorem dX7_row_2 : decode cX7_row 2 = .ok (.invokevirtual 202, 3) := by decide +kernel
theorem dX7_row_5 : decode cX7_row 5 = .ok (.ifCond .ne 12, 3) := by decide +kernel
theorem dX7_row_8 : decode cX7_row 8 = .ok (.aload_n 0, 1) := by decide +kernel
theorem dX7_row_9 : decode cX7_row 9 = .ok (.bipush (-2), 2) := by decide +kernel
theorem dX7_row_11 : decode cX7_row 11 = .ok (.bipush (-2), 2) := by decide +kernel
theorem dX7_row_13 : decode cX7_row 13 = .ok (.invokevirtual 79, 3) := by decide +kernel
theorem dX7_row_16 : decode cX7_row 16 = .ok (.ireturn, 1) := by decide +kernel
theorem dX7_row_17 : decode cX7_row 17 = .ok (.aload_n 0, 1) := by decide +kernel
theorem dX7_row_18 : decode cX7_row 18 = .ok (.getfield 10, 3) := by decide +kernel
theorem dX7_row_21 : decode cX7_row 21 = .ok (.iconst 0, 1) := by decide +kernel
theorem dX7_row_22 : decode cX7_row 22 = .ok (.invokevirtual 135, 3) := by decide +kernel
theorem dX7_row_25 : decode cX7_row 25 = .ok (.istore_n 2, 1) := by decide +kernel
theorem dX7_row_26 : decode cX7_row 26 = .ok (.iload_n 2, 1) := by decide +kernel
theorem dX7_row_27 : decode cX7_row 27 = .ok (.ifCond .ne 12, 3) := by decide +kernel
theorem dX7_row_30 : decode cX7_row 30 = .ok (.aload_n 0, 1) := by decide +kernel
theorem dX7_row_31 : decode cX7_row 31 = .ok (.bipush (-3), 2) := by decide +kernel
theorem dX7_row_33 : decode cX7_row 33 = .ok (.bipush (-3), 2) := by decide +kernel
theorem dX7_row_35 : decode cX7_row 35 = .ok (.invokevirtual 79, 3) := by decide +kernel
theorem dX7_row_38 : decode cX7_row 38 = .ok (.ireturn, 1) := by decide +kernel
theorem dX7_row_39 : decode cX7_row 39 = .ok (.aload_n 0, 1) := by decide +kernel
theorem dX7_row_40 : decode cX7_row 40 = .ok (.getfield 36, 3) := by decide +kernel
theorem dX7_row_43 : decode cX7_row 43 = .ok (.aload_n 0, 1) := by decide +kernel
theorem dX7_row_44 : decode cX7_row 44 = .ok (.getfield 64, 3) := by decide +kernel
theorem dX7_row_47 : decode cX7_row 47 = .ok (.aload_n 0, 1) := by decide +kernel
theorem dX7_row_48 : decode cX7_row 48 = .ok (.getfield 10, 3) := by decide +kernel
theorem dX7_row_51 : decode cX7_row 51 = .ok (.iload_n 2, 1) := by decide +kernel
theorem dX7_row_52 : decode cX7_row 52 = .ok (.iload_n 1, 1) := by decide +kernel
theorem dX7_row_53 : decode cX7_row 53 = .ok (.invokevirtual 205, 3) := by decide +kernel
theorem dX7_row_56 : decode cX7_row 56 = .ok (.i2l, 1) := by decide +kernel
theorem dX7_row_57 : decode cX7_row 57 = .ok (.aload_n 0, 1) := by decide +kernel
theorem dX7_row_58 : decode cX7_row 58 = .ok (.getfield 10, 3) := by decide +kernel
theorem dX7_row_61 : decode cX7_row 61 = .ok (.iload_n 2, 1) := by decide +kernel
theorem dX7_row_62 : decode cX7_row 62 = .ok (.invokevirtual 209, 3) := by decide +kernel
theorem dX7_row_65 : decode cX7_row 65 = .ok (.i2l, 1) := by decide +kernel
theorem dX7_row_66 : decode cX7_row 66 = .ok (.invokevirtual 212, 3) := by decide +kernel
theorem dX7_row_69 : decode cX7_row 69 = .ok (.iconst 1, 1) := by decide +kernel
theorem dX7_row_70 : decode cX7_row 70 = .ok (.ireturn, 1) := by decide +kernel
theorem dX7_bestRow_0 : decode cX7_bestRow 0 = .ok (.aload_n 0, 1) := by decide +kernel
theorem dX7_bestRow_1 : decode cX7_bestRow 1 = .ok (.getfield 10, 3) := by decide +kernel
theorem dX7_bestRow_4 : decode cX7_bestRow 4 = .ok (.iconst 0, 1) := by decide +kernel
theorem dX7_bestRow_5 : decode cX7_bestRow 5 = .ok (.invokevirtual 135, 3) := by decide +kernel
theorem dX7_bestRow_8 : decode cX7_bestRow 8 = .ok (.istore_n 1, 1) := by decide +kernel
theorem dX7_bestRow_9 : decode cX7_bestRow 9 = .ok (.iload_n 1, 1) := by decide +kernel
theorem dX7_bestRow_10 : decode cX7_bestRow 10 = .ok (.ifCond .ne 12, 3) := by decide +kernel
theorem dX7_bestRow_13 : decode cX7_bestRow 13 = .ok (.aload_n 0, 1) := by decide +kernel
theorem dX7_bestRow_14 : decode cX7_bestRow 14 = .ok (.bipush (-3), 2) := by decide +kernel
theorem dX7_bestRow_16 : decode cX7_bestRow 16 = .ok (.bipush (-3), 2) := by decide +kernel
theorem dX7_bestRow_18 : decode cX7_bestRow 18 = .ok (.invokevirtual 79, 3) := by decide +kernel
theorem dX7_bestRow_21 : decode cX7_bestRow 21 = .ok (.ireturn, 1) := by decide +kernel
theorem dX7_bestRow_22 : decode cX7_bestRow 22 = .ok (.aload_n 0, 1) := by decide +kernel
theorem dX7_bestRow_23 : decode cX7_bestRow 23 = .ok (.getfield 64, 3) := by decide +kernel
theorem dX7_bestRow_26 : decode cX7_bestRow 26 = .ok (.aload_n 0, 1) := by decide +kernel
theorem dX7_bestRow_27 : decode cX7_bestRow 27 = .ok (.getfield 10, 3) := by decide +kernel
theorem dX7_bestRow_30 : decode cX7_bestRow 30 = .ok (.iload_n 1, 1) := by decide +kernel
theorem dX7_bestRow_31 : decode cX7_bestRow 31 = .ok (.invokevirtual 216, 3) := by decide +kernel
theorem dX7_bestRow_34 : decode cX7_bestRow 34 = .ok (.istore_n 2, 1) := by decide +kernel
theorem dX7_bestRow_35 : decode cX7_bestRow 35 = .ok (.aload_n 0, 1) := by decide +kernel
theorem dX7_bestRow_36 : decode cX7_bestRow 36 = .ok (.getfield 36, 3) := by decide +kernel
theorem dX7_bestRow_39 : decode cX7_bestRow 39 = .ok (.aload_n 0, 1) := by decide +kernel
theorem dX7_bestRow_40 : decode cX7_bestRow 40 = .ok (.getfield 64, 3) := by decide +kernel
theorem dX7_bestRow_43 : decode cX7_bestRow 43 = .ok (.getfield 220, 3) := by decide +kernel
theorem dX7_bestRow_46 : decode cX7_bestRow 46 = .ok (.iconst 0, 1) := by decide +kernel
theorem dX7_bestRow_47 : decode cX7_bestRow 47 = .ok (.iaload, 1) := by decide +kernel
theorem dX7_bestRow_48 : decode cX7_bestRow 48 = .ok (.i2l, 1) := by decide +kernel
theorem dX7_bestRow_49 : decode cX7_bestRow 49 = .ok (.aload_n 0, 1) := by decide +kernel
theorem dX7_bestRow_50 : decode cX7_bestRow 50 = .ok (.getfield 10, 3) := by decide +kernel
theorem dX7_bestRow_53 : decode cX7_bestRow 53 = .ok (.iload_n 1, 1) := by decide +kernel
theorem dX7_bestRow_54 : decode cX7_bestRow 54 = .ok (.invokevirtual 209, 3) := by decide +kernel
theorem dX7_bestRow_57 : decode cX7_bestRow 57 = .ok (.i2l, 1) := by decide +kernel
theorem dX7_bestRow_58 : decode cX7_bestRow 58 = .ok (.invokevirtual 212, 3) := by decide +kernel
theorem dX7_bestRow_61 : decode cX7_bestRow 61 = .ok (.iload_n 2, 1) := by decide +kernel
theorem dX7_bestRow_62 : decode cX7_bestRow 62 = .ok (.ireturn, 1) := by decide +kernel
theorem dX7_haggle_0 : decode cX7_haggle 0 = .ok (.aload_n 0, 1) := by decide +kernel
theorem dX7_haggle_1 : decode cX7_haggle 1 = .ok (.iload_n 1, 1) := by decide +kernel
theorem dX7_haggle_2 : decode cX7_haggle 2 = .ok (.invokevirtual 102, 3) := by decide +kernel
theorem dX7_haggle_5 : decode cX7_haggle 5 = .ok (.ifCond .ne 12, 3) := by decide +kernel
theorem dX7_haggle_8 : decode cX7_haggle 8 = .ok (.aload_n 0, 1) := by decide +kernel
theorem dX7_haggle_9 : decode cX7_haggle 9 = .ok (.bipush (-2), 2) := by decide +kernel
theorem dX7_haggle_11 : decode cX7_haggle 11 = .ok (.bipush (-2), 2) := by decide +kernel
theorem dX7_haggle_13 : decode cX7_haggle 13 = .ok (.invokevirtual 79, 3) := by decide +kernel
theorem dX7_haggle_16 : decode cX7_haggle 16 = .ok (.ireturn, 1) := by decide +kernel
theorem dX7_haggle_17 : decode cX7_haggle 17 = .ok (.aload_n 0, 1) := by decide +kernel
theorem dX7_haggle_18 : decode cX7_haggle 18 = .ok (.getfield 10, 3) := by decide +kernel
theorem dX7_haggle_21 : decode cX7_haggle 21 = .ok (.iconst 0, 1) := by decide +kernel
theorem dX7_haggle_22 : decode cX7_haggle 22 = .ok (.invokevirtual 135, 3) := by decide +kernel
theorem dX7_haggle_25 : decode cX7_haggle 25 = .ok (.istore_n 2, 1) := by decide +kernel
theorem dX7_haggle_26 : decode cX7_haggle 26 = .ok (.aload_n 0, 1) := by decide +kernel
theorem dX7_haggle_27 : decode cX7_haggle 27 = .ok (.getfield 47, 3) := by decide +kernel
theorem dX7_haggle_30 : decode cX7_haggle 30 = .ok (.aload_n 0, 1) := by decide +kernel
theorem dX7_haggle_31 : decode cX7_haggle 31 = .ok (.getfield 10, 3) := by decide +kernel
theorem dX7_haggle_34 : decode cX7_haggle 34 = .ok (.iload_n 2, 1) := by decide +kernel
theorem dX7_haggle_35 : decode cX7_haggle 35 = .ok (.iconst 1, 1) := by decide +kernel
theorem dX7_haggle_36 : decode cX7_haggle 36 = .ok (.iload_n 1, 1) := by decide +kernel
theorem dX7_haggle_37 : decode cX7_haggle 37 = .ok (.ishl, 1) := by decide +kernel
theorem dX7_haggle_38 : decode cX7_haggle 38 = .ok (.iconst 0, 1) := by decide +kernel
theorem dX7_haggle_39 : decode cX7_haggle 39 = .ok (.invokevirtual 169, 3) := by decide +kernel
theorem dX7_haggle_42 : decode cX7_haggle 42 = .ok (.aload_n 0, 1) := by decide +kernel
theorem dX7_haggle_43 : decode cX7_haggle 43 = .ok (.getfield 51, 3) := by decide +kernel
theorem dX7_haggle_46 : decode cX7_haggle 46 = .ok (.aload_n 0, 1) := by decide +kernel
theorem dX7_haggle_47 : decode cX7_haggle 47 = .ok (.getfield 10, 3) := by decide +kernel
theorem dX7_haggle_50 : decode cX7_haggle 50 = .ok (.iload_n 2, 1) := by decide +kernel
theorem dX7_haggle_51 : decode cX7_haggle 51 = .ok (.iconst 0, 1) := by decide +kernel
theorem dX7_haggle_52 : decode cX7_haggle 52 = .ok (.iconst 1, 1) := by decide +kernel
theorem dX7_haggle_53 : decode cX7_haggle 53 = .ok (.iload_n 1, 1) := by decide +kernel
theorem dX7_haggle_54 : decode cX7_haggle 54 = .ok (.ishl, 1) := by decide +kernel
theorem dX7_haggle_55 : decode cX7_haggle 55 = .ok (.invokevirtual 169, 3) := by decide +kernel
theorem dX7_haggle_58 : decode cX7_haggle 58 = .ok (.aload_n 0, 1) := by decide +kernel
theorem dX7_haggle_59 : decode cX7_haggle 59 = .ok (.getfield 47, 3) := by decide +kernel
theorem dX7_haggle_62 : decode cX7_haggle 62 = .ok (.getfield 173, 3) := by decide +kernel
theorem dX7_haggle_65 : decode cX7_haggle 65 = .ok (.iconst (-1), 1) := by decide +kernel
theorem dX7_haggle_66 : decode cX7_haggle 66 = .ok (.if_icmp .ne 5, 3) := by decide +kernel
theorem dX7_haggle_69 : decode cX7_haggle 69 = .ok (.iconst (-1), 1) := by decide +kernel
theorem dX7_haggle_70 : decode cX7_haggle 70 = .ok (.ireturn, 1) := by decide +kernel
theorem dX7_haggle_71 : decode cX7_haggle 71 = .ok (.aload_n 0, 1) := by decide +kernel
theorem dX7_haggle_72 : decode cX7_haggle 72 = .ok (.getfield 51, 3) := by decide +kernel
theorem dX7_haggle_75 : decode cX7_haggle 75 = .ok (.getfield 173, 3) := by decide +kernel
theorem dX7_haggle_78 : decode cX7_haggle 78 = .ok (.iconst (-1), 1) := by decide +kernel
theorem dX7_haggle_79 : decode cX7_haggle 79 = .ok (.if_icmp .ne 6, 3) := by decide +kernel
theorem dX7_haggle_82 : decode cX7_haggle 82 = .ok (.bipush 99, 2) := by decide +kernel
theorem dX7_haggle_84 : decode cX7_haggle 84 = .ok (.ireturn, 1) := by decide +kernel
theorem dX7_haggle_85 : decode cX7_haggle 85 = .ok (.aload_n 0, 1) := by decide +kernel
theorem dX7_haggle_86 : decode cX7_haggle 86 = .ok (.getfield 47, 3) := by decide +kernel
theorem dX7_haggle_89 : decode cX7_haggle 89 = .ok (.getfield 176, 3) := by decide +kernel
theorem dX7_haggle_92 : decode cX7_haggle 92 = .ok (.aload_n 0, 1) := by decide +kernel
theorem dX7_haggle_93 : decode cX7_haggle 93 = .ok (.getfield 10, 3) := by decide +kernel
theorem dX7_haggle_96 : decode cX7_haggle 96 = .ok (.getfield 105, 3) := by decide +kernel
theorem dX7_haggle_99 : decode cX7_haggle 99 = .ok (.iload_n 1, 1) := by decide +kernel
theorem dX7_haggle_100 : decode cX7_haggle 100 = .ok (.iaload, 1) := by decide +kernel
theorem dX7_haggle_101 : decode cX7_haggle 101 = .ok (.isub, 1) := by decide +kernel
theorem dX7_haggle_102 : decode cX7_haggle 102 = .ok (.istore_n 3, 1) := by decide +kernel
theorem dX7_haggle_103 : decode cX7_haggle 103 = .ok (.aload_n 0, 1) := by decide +kernel
theorem dX7_haggle_104 : decode cX7_haggle 104 = .ok (.getfield 51, 3) := by decide +kernel
theorem dX7_haggle_107 : decode cX7_haggle 107 = .ok (.getfield 176, 3) := by decide +kernel
theorem dX7_haggle_110 : decode cX7_haggle 110 = .ok (.iload_n 3, 1) := by decide +kernel
theorem dX7_haggle_111 : decode cX7_haggle 111 = .ok (.isub, 1) := by decide +kernel
theorem dX7_haggle_112 : decode cX7_haggle 112 = .ok (.istore 4, 2) := by decide +kernel
theorem dX7_haggle_114 : decode cX7_haggle 114 = .ok (.aload_n 0, 1) := by decide +kernel
theorem dX7_haggle_115 : decode cX7_haggle 115 = .ok (.getfield 47, 3) := by decide +kernel
theorem dX7_haggle_118 : decode cX7_haggle 118 = .ok (.aload_n 0, 1) := by decide +kernel
theorem dX7_haggle_119 : decode cX7_haggle 119 = .ok (.getfield 51, 3) := by decide +kernel
theorem dX7_haggle_122 : decode cX7_haggle 122 = .ok (.invokevirtual 223, 3) := by decide +kernel
theorem dX7_haggle_125 : decode cX7_haggle 125 = .ok (.ifCond .ne 6, 3) := by decide +kernel
theorem dX7_haggle_128 : decode cX7_haggle 128 = .ok (.iinc 4 (-1), 3) := by decide +kernel
theorem dX7_haggle_131 : decode cX7_haggle 131 = .ok (.iload 4, 2) := by decide +kernel
theorem dX7_haggle_133 : decode cX7_haggle 133 = .ok (.ifCond .ge 7, 3) := by decide +kernel
theorem dX7_haggle_136 : decode cX7_haggle 136 = .ok (.iconst (-1), 1) := by decide +kernel
theorem dX7_haggle_137 : decode cX7_haggle 137 = .ok (.goto 10, 3) := by decide +kernel
theorem dX7_haggle_140 : decode cX7_haggle 140 = .ok (.iload 4, 2) := by decide +kernel
theorem dX7_haggle_142 : decode cX7_haggle 142 = .ok (.bipush 99, 2) := by decide +kernel
theorem dX7_haggle_144 : decode cX7_haggle 144 = .ok (.invokestatic 227, 3) := by decide +kernel
theorem dX7_haggle_147 : decode cX7_haggle 147 = .ok (.ireturn, 1) := by decide +kernel
theorem dX7_stalls_0 : decode cX7_stalls 0 = .ok (.iload_n 1, 1) := by decide +kernel
theorem dX7_stalls_1 : decode cX7_stalls 1 = .ok (.iconst 0, 1) := by decide +kernel
theorem dX7_stalls_2 : decode cX7_stalls 2 = .ok (.ldc 232, 2) := by decide +kernel
theorem dX7_stalls_4 : decode cX7_stalls 4 = .ok (.invokestatic 75, 3) := by decide +kernel
theorem dX7_stalls_7 : decode cX7_stalls 7 = .ok (.ifCond .eq 13, 3) := by decide +kernel
theorem dX7_stalls_10 : decode cX7_stalls 10 = .ok (.iload_n 2, 1) := by decide +kernel
theorem dX7_stalls_11 : decode cX7_stalls 11 = .ok (.iconst 0, 1) := by decide +kernel
theorem dX7_stalls_12 : decode cX7_stalls 12 = .ok (.bipush 60, 2) := by decide +kernel
theorem dX7_stalls_14 : decode cX7_stalls 14 = .ok (.invokestatic 75, 3) := by decide +kernel
theorem dX7_stalls_17 : decode cX7_stalls 17 = .ok (.ifCond .ne 12, 3) := by decide +kernel
theorem dX7_stalls_20 : decode cX7_stalls 20 = .ok (.aload_n 0, 1) := by decide +kernel
theorem dX7_stalls_21 : decode cX7_stalls 21 = .ok (.bipush (-2), 2) := by decide +kernel
theorem dX7_stalls_23 : decode cX7_stalls 23 = .ok (.bipush (-2), 2) := by decide +kernel
theorem dX7_stalls_25 : decode cX7_stalls 25 = .ok (.invokevirtual 79, 3) := by decide +kernel
theorem dX7_stalls_28 : decode cX7_stalls 28 = .ok (.ireturn, 1) := by decide +kernel
theorem dX7_stalls_29 : decode cX7_stalls 29 = .ok (.aload_n 0, 1) := by decide +kernel
theorem dX7_stalls_30 : decode cX7_stalls 30 = .ok (.getfield 10, 3) := by decide +kernel
theorem dX7_stalls_33 : decode cX7_stalls 33 = .ok (.iconst 0, 1) := by decide +kernel
theorem dX7_stalls_34 : decode cX7_stalls 34 = .ok (.invokevirtual 135, 3) := by decide +kernel
theorem dX7_stalls_37 : decode cX7_stalls 37 = .ok (.istore_n 3, 1) := by decide +kernel
theorem dX7_stalls_38 : decode cX7_stalls 38 = .ok (.iload_n 3, 1) := by decide +kernel
theorem dX7_stalls_39 : decode cX7_stalls 39 = .ok (.ifCond .eq 14, 3) := by decide +kernel
theorem dX7_stalls_42 : decode cX7_stalls 42 = .ok (.aload_n 0, 1) := by decide +kernel
theorem dX7_stalls_43 : decode cX7_stalls 43 = .ok (.getfield 10, 3) := by decide +kernel
theorem dX7_stalls_46 : decode cX7_stalls 46 = .ok (.getfield 83, 3) := by decide +kernel
theorem dX7_stalls_49 : decode cX7_stalls 49 = .ok (.iconst 1, 1) := by decide +kernel
theorem dX7_stalls_50 : decode cX7_stalls 50 = .ok (.if_icmp .ge 12, 3) := by decide +kernel
theorem dX7_stalls_53 : decode cX7_stalls 53 = .ok (.aload_n 0, 1) := by decide +kernel
theorem dX7_stalls_54 : decode cX7_stalls 54 = .ok (.bipush (-3), 2) := by decide +kernel
theorem dX7_stalls_56 : decode cX7_stalls 56 = .ok (.bipush (-3), 2) := by decide +kernel
theorem dX7_stalls_58 : decode cX7_stalls 58 = .ok (.invokevirtual 79, 3) := by decide +kernel
theorem dX7_stalls_61 : decode cX7_stalls 61 = .ok (.ireturn, 1) := by decide +kernel
theorem dX7_stalls_62 : decode cX7_stalls 62 = .ok (.aload_n 0, 1) := by decide +kernel
theorem dX7_stalls_63 : decode cX7_stalls 63 = .ok (.getfield 71, 3) := by decide +kernel
theorem dX7_stalls_66 : decode cX7_stalls 66 = .ok (.iload_n 1, 1) := by decide +kernel
theorem dX7_stalls_67 : decode cX7_stalls 67 = .ok (.i2l, 1) := by decide +kernel
theorem dX7_stalls_68 : decode cX7_stalls 68 = .ok (.putfield 233, 3) := by decide +kernel
theorem dX7_stalls_71 : decode cX7_stalls 71 = .ok (.iconst 0, 1) := by decide +kernel
theorem dX7_stalls_72 : decode cX7_stalls 72 = .ok (.istore 4, 2) := by decide +kernel
theorem dX7_stalls_74 : decode cX7_stalls 74 = .ok (.iconst 0, 1) := by decide +kernel
theorem dX7_stalls_75 : decode cX7_stalls 75 = .ok (.istore 5, 2) := by decide +kernel
theorem dX7_stalls_77 : decode cX7_stalls 77 = .ok (.iload 5, 2) := by decide +kernel
theorem dX7_stalls_79 : decode cX7_stalls 79 = .ok (.iload_n 2, 1) := by decide +kernel
theorem dX7_stalls_80 : decode cX7_stalls 80 = .ok (.if_icmp .ge 26, 3) := by decide +kernel
theorem dX7_stalls_83 : decode cX7_stalls 83 = .ok (.iload 4, 2) := by decide +kernel
theorem dX7_stalls_85 : decode cX7_stalls 85 = .ok (.aload_n 0, 1) := by decide +kernel
theorem dX7_stalls_86 : decode cX7_stalls 86 = .ok (.getfield 71, 3) := by decide +kernel
theorem dX7_stalls_89 : decode cX7_stalls 89 = .ok (.aload_n 0, 1) := by decide +kernel
theorem dX7_stalls_90 : decode cX7_stalls 90 = .ok (.getfield 10, 3) := by decide +kernel
theorem dX7_stalls_93 : decode cX7_stalls 93 = .ok (.iload_n 3, 1) := by decide +kernel
theorem dX7_stalls_94 : decode cX7_stalls 94 = .ok (.invokevirtual 237, 3) := by decide +kernel
theorem dX7_stalls_97 : decode cX7_stalls 97 = .ok (.iadd, 1) := by decide +kernel
theorem dX7_stalls_98 : decode cX7_stalls 98 = .ok (.istore 4, 2) := by decide +kernel
theorem dX7_stalls_100 : decode cX7_stalls 100 = .ok (.iinc 5 1, 3) := by decide +kernel
theorem dX7_stalls_103 : decode cX7_stalls 103 = .ok (.goto (-26), 3) := by decide +kernel
theorem dX7_stalls_106 : decode cX7_stalls 106 = .ok (.iload 4, 2) := by decide +kernel
theorem dX7_stalls_108 : decode cX7_stalls 108 = .ok (.ireturn, 1) := by decide +kernel
theorem dX7_part_0 : decode cX7_part 0 = .ok (.iload_n 1, 1) := by decide +kernel
theorem dX7_part_1 : decode cX7_part 1 = .ok (.iconst 0, 1) := by decide +kernel
theorem dX7_part_2 : decode cX7_part 2 = .ok (.iconst 1, 1) := by decide +kernel
theorem dX7_part_3 : decode cX7_part 3 = .ok (.invokestatic 75, 3) := by decide +kernel
theorem dX7_part_6 : decode cX7_part 6 = .ok (.ifCond .ne 13, 3) := by decide +kernel
theorem dX7_part_9 : decode cX7_part 9 = .ok (.aload_n 0, 1) := by decide +kernel
theorem dX7_part_10 : decode cX7_part 10 = .ok (.bipush (-2), 2) := by decide +kernel
theorem dX7_part_12 : decode cX7_part 12 = .ok (.bipush (-2), 2) := by decide +kernel
theorem dX7_part_14 : decode cX7_part 14 = .ok (.invokevirtual 79, 3) := by decide +kernel
theorem dX7_part_17 : decode cX7_part 17 = .ok (.i2l, 1) := by decide +kernel
theorem dX7_part_18 : decode cX7_part 18 = .ok (.lreturn, 1) := by decide +kernel
theorem dX7_part_19 : decode cX7_part 19 = .ok (.iload_n 1, 1) := by decide +kernel
theorem dX7_part_20 : decode cX7_part 20 = .ok (.ifCond .ne 13, 3) := by decide +kernel
theorem dX7_part_23 : decode cX7_part 23 = .ok (.aload_n 0, 1) := by decide +kernel
theorem dX7_part_24 : decode cX7_part 24 = .ok (.getfield 36, 3) := by decide +kernel
theorem dX7_part_27 : decode cX7_part 27 = .ok (.getfield 240, 3) := by decide +kernel
theorem dX7_part_30 : decode cX7_part 30 = .ok (.goto 10, 3) := by decide +kernel
theorem dX7_part_33 : decode cX7_part 33 = .ok (.aload_n 0, 1) := by decide +kernel
theorem dX7_part_34 : decode cX7_part 34 = .ok (.getfield 36, 3) := by decide +kernel
theorem dX7_part_37 : decode cX7_part 37 = .ok (.getfield 243, 3) := by decide +kernel
theorem dX7_part_40 : decode cX7_part 40 = .ok (.lreturn, 1) := by decide +kernel
theorem dX7_image_0 : decode cX7_image 0 = .ok (.iload_n 1, 1) := by decide +kernel
theorem dX7_image_1 : decode cX7_image 1 = .ok (.iconst 0, 1) := by decide +kernel
theorem dX7_image_2 : decode cX7_image 2 = .ok (.iconst 1, 1) := by decide +kernel
theorem dX7_image_3 : decode cX7_image 3 = .ok (.invokestatic 75, 3) := by decide +kernel
theorem dX7_image_6 : decode cX7_image 6 = .ok (.ifCond .ne 12, 3) := by decide +kernel
theorem dX7_image_9 : decode cX7_image 9 = .ok (.aload_n 0, 1) := by decide +kernel
theorem dX7_image_10 : decode cX7_image 10 = .ok (.bipush (-2), 2) := by decide +kernel
theorem dX7_image_12 : decode cX7_image 12 = .ok (.bipush (-2), 2) := by decide +kernel
theorem dX7_image_14 : decode cX7_image 14 = .ok (.invokevirtual 79, 3) := by decide +kernel
theorem dX7_image_17 : decode cX7_image 17 = .ok (.ireturn, 1) := by decide +kernel
theorem dX7_image_18 : decode cX7_image 18 = .ok (.aload_n 0, 1) := by decide +kernel
theorem dX7_image_19 : decode cX7_image 19 = .ok (.iload_n 1, 1) := by decide +kernel
theorem dX7_image_20 : decode cX7_image 20 = .ok (.invokevirtual 246, 3) := by decide +kernel
theorem dX7_image_23 : decode cX7_image 23 = .ok (.aload_n 0, 1) := by decide +kernel
theorem dX7_image_24 : decode cX7_image 24 = .ok (.getfield 10, 3) := by decide +kernel
theorem dX7_image_27 : decode cX7_image 27 = .ok (.invokevirtual 124, 3) := by decide +kernel
theorem dX7_image_30 : decode cX7_image 30 = .ok (.aload_n 0, 1) := by decide +kernel
theorem dX7_image_31 : decode cX7_image 31 = .ok (.getfield 22, 3) := by decide +kernel
theorem dX7_image_34 : decode cX7_image 34 = .ok (.iload_n 1, 1) := by decide +kernel
theorem dX7_image_35 : decode cX7_image 35 = .ok (.iconst 1, 1) := by decide +kernel
theorem dX7_image_36 : decode cX7_image 36 = .ok (.bastore, 1) := by decide +kernel
theorem dX7_image_37 : decode cX7_image 37 = .ok (.iconst 1, 1) := by decide +kernel
theorem dX7_image_38 : decode cX7_image 38 = .ok (.ireturn, 1) := by decide +kernel
theorem dX7_from_0 : decode cX7_from 0 = .ok (.iload_n 1, 1) := by decide +kernel
theorem dX7_from_1 : decode cX7_from 1 = .ok (.iconst 0, 1) := by decide +kernel
theorem dX7_from_2 : decode cX7_from 2 = .ok (.iconst 1, 1) := by decide +kernel
theorem dX7_from_3 : decode cX7_from 3 = .ok (.invokestatic 75, 3) := by decide +kernel
theorem dX7_from_6 : decode cX7_from 6 = .ok (.ifCond .ne 12, 3) := by decide +kernel
theorem dX7_from_9 : decode cX7_from 9 = .ok (.aload_n 0, 1) := by decide +kernel
theorem dX7_from_10 : decode cX7_from 10 = .ok (.bipush (-2), 2) := by decide +kernel
theorem dX7_from_12 : decode cX7_from 12 = .ok (.bipush (-2), 2) := by decide +kernel
theorem dX7_from_14 : decode cX7_from 14 = .ok (.invokevirtual 79, 3) := by decide +kernel
theorem dX7_from_17 : decode cX7_from 17 = .ok (.ireturn, 1) := by decide +kernel
theorem dX7_from_18 : decode cX7_from 18 = .ok (.aload_n 0, 1) := by decide +kernel
theorem dX7_from_19 : decode cX7_from 19 = .ok (.getfield 22, 3) := by decide +kernel
theorem dX7_from_22 : decode cX7_from 22 = .ok (.iload_n 1, 1) := by decide +kernel
theorem dX7_from_23 : decode cX7_from 23 = .ok (.baload, 1) := by decide +kernel
theorem dX7_from_24 : decode cX7_from 24 = .ok (.ifCond .ne 12, 3) := by decide +kernel
theorem dX7_from_27 : decode cX7_from 27 = .ok (.aload_n 0, 1) := by decide +kernel
theorem dX7_from_28 : decode cX7_from 28 = .ok (.bipush (-3), 2) := by decide +kernel
theorem dX7_from_30 : decode cX7_from 30 = .ok (.bipush (-3), 2) := by decide +kernel
theorem dX7_from_32 : decode cX7_from 32 = .ok (.invokevirtual 79, 3) := by decide +kernel
theorem dX7_from_35 : decode cX7_from 35 = .ok (.ireturn, 1) := by decide +kernel
theorem dX7_from_36 : decode cX7_from 36 = .ok (.aload_n 0, 1) := by decide +kernel
theorem dX7_from_37 : decode cX7_from 37 = .ok (.getfield 10, 3) := by decide +kernel
theorem dX7_from_40 : decode cX7_from 40 = .ok (.aload_n 0, 1) := by decide +kernel
theorem dX7_from_41 : decode cX7_from 41 = .ok (.iload_n 1, 1) := by decide +kernel
theorem dX7_from_42 : decode cX7_from 42 = .ok (.invokevirtual 246, 3) := by decide +kernel
theorem dX7_from_45 : decode cX7_from 45 = .ok (.invokevirtual 124, 3) := by decide +kernel
theorem dX7_from_48 : decode cX7_from 48 = .ok (.iconst 1, 1) := by decide +kernel
theorem dX7_from_49 : decode cX7_from 49 = .ok (.ireturn, 1) := by decide +kernel
theorem dX7_status_0 : decode cX7_status 0 = .ok (.iload_n 1, 1) := by decide +kernel
theorem dX7_status_1 : decode cX7_status 1 = .ok (.iconst 0, 1) := by decide +kernel
theorem dX7_status_2 : decode cX7_status 2 = .ok (.iconst 2, 1) := by decide +kernel
theorem dX7_status_3 : decode cX7_status 3 = .ok (.invokestatic 75, 3) := by decide +kernel
theorem dX7_status_6 : decode cX7_status 6 = .ok (.ifCond .ne 11, 3) := by decide +kernel
theorem dX7_status_9 : decode cX7_status 9 = .ok (.aload_n 0, 1) := by decide +kernel
theorem dX7_status_10 : decode cX7_status 10 = .ok (.bipush (-2), 2) := by decide +kernel
theorem dX7_status_12 : decode cX7_status 12 = .ok (.iconst (-1), 1) := by decide +kernel
theorem dX7_status_13 : decode cX7_status 13 = .ok (.invokevirtual 79, 3) := by decide +kernel
theorem dX7_status_16 : decode cX7_status 16 = .ok (.ireturn, 1) := by decide +kernel
theorem dX7_status_17 : decode cX7_status 17 = .ok (.aload_n 0, 1) := by decide +kernel
theorem dX7_status_18 : decode cX7_status 18 = .ok (.getfield 40, 3) := by decide +kernel
theorem dX7_status_21 : decode cX7_status 21 = .ok (.iload_n 1, 1) := by decide +kernel
theorem dX7_status_22 : decode cX7_status 22 = .ok (.iaload, 1) := by decide +kernel
theorem dX7_status_23 : decode cX7_status 23 = .ok (.ireturn, 1) := by decide +kernel
theorem dX7_count_0 : decode cX7_count 0 = .ok (.iload_n 1, 1) := by decide +kernel
theorem dX7_count_1 : decode cX7_count 1 = .ok (.iconst 0, 1) := by decide +kernel
theorem dX7_count_2 : decode cX7_count 2 = .ok (.iconst 5, 1) := by decide +kernel
theorem dX7_count_3 : decode cX7_count 3 = .ok (.invokestatic 75, 3) := by decide +kernel
theorem dX7_count_6 : decode cX7_count 6 = .ok (.ifCond .ne 12, 3) := by decide +kernel
theorem dX7_count_9 : decode cX7_count 9 = .ok (.aload_n 0, 1) := by decide +kernel
theorem dX7_count_10 : decode cX7_count 10 = .ok (.bipush (-2), 2) := by decide +kernel
theorem dX7_count_12 : decode cX7_count 12 = .ok (.bipush (-2), 2) := by decide +kernel
theorem dX7_count_14 : decode cX7_count 14 = .ok (.invokevirtual 79, 3) := by decide +kernel
theorem dX7_count_17 : decode cX7_count 17 = .ok (.ireturn, 1) := by decide +kernel
theorem dX7_count_18 : decode cX7_count 18 = .ok (.aload_n 0, 1) := by decide +kernel
theorem dX7_count_19 : decode cX7_count 19 = .ok (.iload_n 1, 1) := by decide +kernel
theorem dX7_count_20 : decode cX7_count 20 = .ok (.invokevirtual 250, 3) := by decide +kernel
theorem dX7_count_23 : decode cX7_count 23 = .ok (.ireturn, 1) := by decide +kernel
theorem dX7_digest_0 : decode cX7_digest 0 = .ok (.ldc2_w 252, 3) := by decide +kernel
theorem dX7_digest_3 : decode cX7_digest 3 = .ok (.lstore_n 1, 1) := by decide +kernel
theorem dX7_digest_4 : decode cX7_digest 4 = .ok (.iconst 0, 1) := by decide +kernel
theorem dX7_digest_5 : decode cX7_digest 5 = .ok (.istore_n 3, 1) := by decide +kernel
theorem dX7_digest_6 : decode cX7_digest 6 = .ok (.iload_n 3, 1) := by decide +kernel
theorem dX7_digest_7 : decode cX7_digest 7 = .ok (.bipush 6, 2) := by decide +kernel
theorem dX7_digest_9 : decode cX7_digest 9 = .ok (.if_icmp .ge 22, 3) := by decide +kernel
theorem dX7_digest_12 : decode cX7_digest 12 = .ok (.ldc2_w 254, 3) := by decide +kernel
theorem dX7_digest_15 : decode cX7_digest 15 = .ok (.lload_n 1, 1) := by decide +kernel
theorem dX7_digest_16 : decode cX7_digest 16 = .ok (.lmul, 1) := by decide +kernel
theorem dX7_digest_17 : decode cX7_digest 17 = .ok (.aload_n 0, 1) := by decide +kernel
theorem dX7_digest_18 : decode cX7_digest 18 = .ok (.iload_n 3, 1) := by decide +kernel
theorem dX7_digest_19 : decode cX7_digest 19 = .ok (.invokevirtual 250, 3) := by decide +kernel
theorem dX7_digest_22 : decode cX7_digest 22 = .ok (.i2l, 1) := by decide +kernel
theorem dX7_digest_23 : decode cX7_digest 23 = .ok (.ladd, 1) := by decide +kernel
theorem dX7_digest_24 : decode cX7_digest 24 = .ok (.lstore_n 1, 1) := by decide +kernel
theorem dX7_digest_25 : decode cX7_digest 25 = .ok (.iinc 3 1, 3) := by decide +kernel
theorem dX7_digest_28 : decode cX7_digest 28 = .ok (.goto (-22), 3) := by decide +kernel
theorem dX7_digest_31 : decode cX7_digest 31 = .ok (.aload_n 0, 1) := by decide +kernel
theorem dX7_digest_32 : decode cX7_digest 32 = .ok (.getfield 10, 3) := by decide +kernel
theorem dX7_digest_35 : decode cX7_digest 35 = .ok (.lload_n 1, 1) := by decide +kernel
theorem dX7_digest_36 : decode cX7_digest 36 = .ok (.invokevirtual 256, 3) := by decide +kernel
theorem dX7_digest_39 : decode cX7_digest 39 = .ok (.lstore_n 1, 1) := by decide +kernel
theorem dX7_digest_40 : decode cX7_digest 40 = .ok (.ldc2_w 254, 3) := by decide +kernel
theorem dX7_digest_43 : decode cX7_digest 43 = .ok (.lload_n 1, 1) := by decide +kernel
theorem dX7_digest_44 : decode cX7_digest 44 = .ok (.lmul, 1) := by decide +kernel
theorem dX7_digest_45 : decode cX7_digest 45 = .ok (.aload_n 0, 1) := by decide +kernel
theorem dX7_digest_46 : decode cX7_digest 46 = .ok (.getfield 36, 3) := by decide +kernel
theorem dX7_digest_49 : decode cX7_digest 49 = .ok (.getfield 240, 3) := by decide +kernel
theorem dX7_digest_52 : decode cX7_digest 52 = .ok (.ladd, 1) := by decide +kernel
theorem dX7_digest_53 : decode cX7_digest 53 = .ok (.lstore_n 1, 1) := by decide +kernel
theorem dX7_digest_54 : decode cX7_digest 54 = .ok (.ldc2_w 254, 3) := by decide +kernel
theorem dX7_digest_57 : decode cX7_digest 57 = .ok (.lload_n 1, 1) := by decide +kernel
theorem dX7_digest_58 : decode cX7_digest 58 = .ok (.lmul, 1) := by decide +kernel
theorem dX7_digest_59 : decode cX7_digest 59 = .ok (.aload_n 0, 1) := by decide +kernel
theorem dX7_digest_60 : decode cX7_digest 60 = .ok (.getfield 36, 3) := by decide +kernel
theorem dX7_digest_63 : decode cX7_digest 63 = .ok (.getfield 243, 3) := by decide +kernel
theorem dX7_digest_66 : decode cX7_digest 66 = .ok (.ladd, 1) := by decide +kernel
theorem dX7_digest_67 : decode cX7_digest 67 = .ok (.lreturn, 1) := by decide +kernel
theorem dX7_howMany_0 : decode cX7_howMany 0 = .ok (.iload_n 1, 1) := by decide +kernel
theorem dX7_howMany_1 : decode cX7_howMany 1 = .ok (.tableswitch 79 0 4 #[35, 43, 51, 59, 71], 35) := by decide +kernel
theorem dX7_howMany_36 : decode cX7_howMany 36 = .ok (.aload_n 0, 1) := by decide +kernel
theorem dX7_howMany_37 : decode cX7_howMany 37 = .ok (.getfield 10, 3) := by decide +kernel
theorem dX7_howMany_40 : decode cX7_howMany 40 = .ok (.getfield 260, 3) := by decide +kernel
theorem dX7_howMany_43 : decode cX7_howMany 43 = .ok (.ireturn, 1) := by decide +kernel
theorem dX7_howMany_44 : decode cX7_howMany 44 = .ok (.aload_n 0, 1) := by decide +kernel
theorem dX7_howMany_45 : decode cX7_howMany 45 = .ok (.getfield 10, 3) := by decide +kernel
theorem dX7_howMany_48 : decode cX7_howMany 48 = .ok (.getfield 83, 3) := by decide +kernel
theorem dX7_howMany_51 : decode cX7_howMany 51 = .ok (.ireturn, 1) := by decide +kernel
theorem dX7_howMany_52 : decode cX7_howMany 52 = .ok (.aload_n 0, 1) := by decide +kernel
theorem dX7_howMany_53 : decode cX7_howMany 53 = .ok (.getfield 10, 3) := by decide +kernel
theorem dX7_howMany_56 : decode cX7_howMany 56 = .ok (.getfield 128, 3) := by decide +kernel
theorem dX7_howMany_59 : decode cX7_howMany 59 = .ok (.ireturn, 1) := by decide +kernel
theorem dX7_howMany_60 : decode cX7_howMany 60 = .ok (.aload_n 0, 1) := by decide +kernel
theorem dX7_howMany_61 : decode cX7_howMany 61 = .ok (.getfield 10, 3) := by decide +kernel
theorem dX7_howMany_64 : decode cX7_howMany 64 = .ok (.iconst 0, 1) := by decide +kernel
theorem dX7_howMany_65 : decode cX7_howMany 65 = .ok (.invokevirtual 135, 3) := by decide +kernel
theorem dX7_howMany_68 : decode cX7_howMany 68 = .ok (.invokestatic 263, 3) := by decide +kernel
theorem dX7_howMany_71 : decode cX7_howMany 71 = .ok (.ireturn, 1) := by decide +kernel
theorem dX7_howMany_72 : decode cX7_howMany 72 = .ok (.aload_n 0, 1) := by decide +kernel
theorem dX7_howMany_73 : decode cX7_howMany 73 = .ok (.getfield 10, 3) := by decide +kernel
theorem dX7_howMany_76 : decode cX7_howMany 76 = .ok (.getfield 142, 3) := by decide +kernel
theorem dX7_howMany_79 : decode cX7_howMany 79 = .ok (.ireturn, 1) := by decide +kernel
theorem dX7_howMany_80 : decode cX7_howMany 80 = .ok (.aload_n 0, 1) := by decide +kernel
theorem dX7_howMany_81 : decode cX7_howMany 81 = .ok (.getfield 29, 3) := by decide +kernel
theorem dX7_howMany_84 : decode cX7_howMany 84 = .ok (.getfield 108, 3) := by decide +kernel
theorem dX7_howMany_87 : decode cX7_howMany 87 = .ok (.ireturn, 1) := by decide +kernel
theorem dX7_refuse_0 : decode cX7_refuse 0 = .ok (.bipush (-2), 2) := by decide +kernel
theorem dX7_refuse_2 : decode cX7_refuse 2 = .ok (.iload_n 1, 1) := by decide +kernel
theorem dX7_refuse_3 : decode cX7_refuse 3 = .ok (.isub, 1) := by decide +kernel
theorem dX7_refuse_4 : decode cX7_refuse 4 = .ok (.istore_n 3, 1) := by decide +kernel
theorem dX7_refuse_5 : decode cX7_refuse 5 = .ok (.iload_n 3, 1) := by decide +kernel
theorem dX7_refuse_6 : decode cX7_refuse 6 = .ok (.iconst 0, 1) := by decide +kernel
theorem dX7_refuse_7 : decode cX7_refuse 7 = .ok (.iconst 2, 1) := by decide +kernel
theorem dX7_refuse_8 : decode cX7_refuse 8 = .ok (.invokestatic 75, 3) := by decide +kernel
theorem dX7_refuse_11 : decode cX7_refuse 11 = .ok (.ifCond .eq 13, 3) := by decide +kernel
theorem dX7_refuse_14 : decode cX7_refuse 14 = .ok (.aload_n 0, 1) := by decide +kernel
theorem dX7_refuse_15 : decode cX7_refuse 15 = .ok (.getfield 40, 3) := by decide +kernel
theorem dX7_refuse_18 : decode cX7_refuse 18 = .ok (.iload_n 3, 1) := by decide +kernel
theorem dX7_refuse_19 : decode cX7_refuse 19 = .ok (.dup2, 1) := by decide +kernel
theorem dX7_refuse_20 : decode cX7_refuse 20 = .ok (.iaload, 1) := by decide +kernel
theorem dX7_refuse_21 : decode cX7_refuse 21 = .ok (.iconst 1, 1) := by decide +kernel
theorem dX7_refuse_22 : decode cX7_refuse 22 = .ok (.iadd, 1) := by decide +kernel
theorem dX7_refuse_23 : decode cX7_refuse 23 = .ok (.iastore, 1) := by decide +kernel
theorem dX7_refuse_24 : decode cX7_refuse 24 = .ok (.iload_n 2, 1) := by decide +kernel
theorem dX7_refuse_25 : decode cX7_refuse 25 = .ok (.ireturn, 1) := by decide +kernel
theorem dX7_imageAt_0 : decode cX7_imageAt 0 = .ok (.iload_n 1, 1) := by decide +kernel
theorem dX7_imageAt_1 : decode cX7_imageAt 1 = .ok (.ifCond .ne 10, 3) := by decide +kernel
theorem dX7_imageAt_4 : decode cX7_imageAt 4 = .ok (.aload_n 0, 1) := by decide +kernel
theorem dX7_imageAt_5 : decode cX7_imageAt 5 = .ok (.getfield 16, 3) := by decide +kernel
theorem dX7_imageAt_8 : decode cX7_imageAt 8 = .ok (.goto 7, 3) := by decide +kernel
theorem dX7_imageAt_11 : decode cX7_imageAt 11 = .ok (.aload_n 0, 1) := by decide +kernel
theorem dX7_imageAt_12 : decode cX7_imageAt 12 = .ok (.getfield 19, 3) := by decide +kernel
theorem dX7_imageAt_15 : decode cX7_imageAt 15 = .ok (.areturn, 1) := by decide +kernel
theorem dX7_isCase_0 : decode cX7_isCase 0 = .ok (.iload_n 1, 1) := by decide +kernel
theorem dX7_isCase_1 : decode cX7_isCase 1 = .ok (.iconst 0, 1) := by decide +kernel
theorem dX7_isCase_2 : decode cX7_isCase 2 = .ok (.aload_n 0, 1) := by decide +kernel
theorem dX7_isCase_3 : decode cX7_isCase 3 = .ok (.getfield 10, 3) := by decide +kernel
theorem dX7_isCase_6 : decode cX7_isCase 6 = .ok (.getfield 260, 3) := by decide +kernel
theorem dX7_isCase_9 : decode cX7_isCase 9 = .ok (.iconst 1, 1) := by decide +kernel
theorem dX7_isCase_10 : decode cX7_isCase 10 = .ok (.isub, 1) := by decide +kernel
theorem dX7_isCase_11 : decode cX7_isCase 11 = .ok (.invokestatic 75, 3) := by decide +kernel
theorem dX7_isCase_14 : decode cX7_isCase 14 = .ok (.ireturn, 1) := by decide +kernel
theorem dX7_isQuestion_0 : decode cX7_isQuestion 0 = .ok (.iload_n 1, 1) := by decide +kernel
theorem dX7_isQuestion_1 : decode cX7_isQuestion 1 = .ok (.iconst 0, 1) := by decide +kernel
theorem dX7_isQuestion_2 : decode cX7_isQuestion 2 = .ok (.aload_n 0, 1) := by decide +kernel
theorem dX7_isQuestion_3 : decode cX7_isQuestion 3 = .ok (.getfield 10, 3) := by decide +kernel
theorem dX7_isQuestion_6 : decode cX7_isQuestion 6 = .ok (.getfield 83, 3) := by decide +kernel
theorem dX7_isQuestion_9 : decode cX7_isQuestion 9 = .ok (.iconst 1, 1) := by decide +kernel
theorem dX7_isQuestion_10 : decode cX7_isQuestion 10 = .ok (.isub, 1) := by decide +kernel
theorem dX7_isQuestion_11 : decode cX7_isQuestion 11 = .ok (.invokestatic 75, 3) := by decide +kernel
theorem dX7_isQuestion_14 : decode cX7_isQuestion 14 = .ok (.ireturn, 1) := by decide +kernel
theorem dX7_isRow_0 : decode cX7_isRow 0 = .ok (.iload_n 1, 1) := by decide +kernel
theorem dX7_isRow_1 : decode cX7_isRow 1 = .ok (.iconst 0, 1) := by decide +kernel
theorem dX7_isRow_2 : decode cX7_isRow 2 = .ok (.ldc_w 268, 3) := by decide +kernel
theorem dX7_isRow_5 : decode cX7_isRow 5 = .ok (.invokestatic 75, 3) := by decide +kernel
theorem dX7_isRow_8 : decode cX7_isRow 8 = .ok (.ifCond .ne 5, 3) := by decide +kernel
theorem dX7_isRow_11 : decode cX7_isRow 11 = .ok (.iconst 0, 1) := by decide +kernel
theorem dX7_isRow_12 : decode cX7_isRow 12 = .ok (.ireturn, 1) := by decide +kernel
theorem dX7_isRow_13 : decode cX7_isRow 13 = .ok (.iload_n 1, 1) := by decide +kernel
theorem dX7_isRow_14 : decode cX7_isRow 14 = .ok (.istore_n 2, 1) := by decide +kernel
theorem dX7_isRow_15 : decode cX7_isRow 15 = .ok (.iconst 0, 1) := by decide +kernel
theorem dX7_isRow_16 : decode cX7_isRow 16 = .ok (.istore_n 3, 1) := by decide +kernel
theorem dX7_isRow_17 : decode cX7_isRow 17 = .ok (.iload_n 3, 1) := by decide +kernel
theorem dX7_isRow_18 : decode cX7_isRow 18 = .ok (.bipush 7, 2) := by decide +kernel
theorem dX7_isRow_20 : decode cX7_isRow 20 = .ok (.if_icmp .ge 33, 3) := by decide +kernel
theorem dX7_isRow_23 : decode cX7_isRow 23 = .ok (.iload_n 2, 1) := by decide +kernel
theorem dX7_isRow_24 : decode cX7_isRow 24 = .ok (.ifCond .le 29, 3) := by decide +kernel
theorem dX7_isRow_27 : decode cX7_isRow 27 = .ok (.aload_n 0, 1) := by decide +kernel
theorem dX7_isRow_28 : decode cX7_isRow 28 = .ok (.iload_n 2, 1) := by decide +kernel
theorem dX7_isRow_29 : decode cX7_isRow 29 = .ok (.bipush 10, 2) := by decide +kernel
theorem dX7_isRow_31 : decode cX7_isRow 31 = .ok (.irem, 1) := by decide +kernel
theorem dX7_isRow_32 : decode cX7_isRow 32 = .ok (.iconst 1, 1) := by decide +kernel
theorem dX7_isRow_33 : decode cX7_isRow 33 = .ok (.isub, 1) := by decide +kernel
theorem dX7_isRow_34 : decode cX7_isRow 34 = .ok (.invokevirtual 102, 3) := by decide +kernel
theorem dX7_isRow_37 : decode cX7_isRow 37 = .ok (.ifCond .ne 5, 3) := by decide +kernel
theorem dX7_isRow_40 : decode cX7_isRow 40 = .ok (.iconst 0, 1) := by decide +kernel
theorem dX7_isRow_41 : decode cX7_isRow 41 = .ok (.ireturn, 1) := by decide +kernel
theorem dX7_isRow_42 : decode cX7_isRow 42 = .ok (.iload_n 2, 1) := by decide +kernel
theorem dX7_isRow_43 : decode cX7_isRow 43 = .ok (.bipush 10, 2) := by decide +kernel
theorem dX7_isRow_45 : decode cX7_isRow 45 = .ok (.idiv, 1) := by decide +kernel
theorem dX7_isRow_46 : decode cX7_isRow 46 = .ok (.istore_n 2, 1) := by decide +kernel
theorem dX7_isRow_47 : decode cX7_isRow 47 = .ok (.iinc 3 1, 3) := by decide +kernel
theorem dX7_isRow_50 : decode cX7_isRow 50 = .ok (.goto (-33), 3) := by decide +kernel
theorem dX7_isRow_53 : decode cX7_isRow 53 = .ok (.iconst 1, 1) := by decide +kernel
theorem dX7_isRow_54 : decode cX7_isRow 54 = .ok (.ireturn, 1) := by decide +kernel
theorem dX7_within_0 : decode cX7_within 0 = .ok (.iload_n 1, 1) := by decide +kernel
theorem dX7_within_1 : decode cX7_within 1 = .ok (.iload_n 0, 1) := by decide +kernel
theorem dX7_within_2 : decode cX7_within 2 = .ok (.if_icmp .gt 12, 3) := by decide +kernel
theorem dX7_within_5 : decode cX7_within 5 = .ok (.iload_n 0, 1) := by decide +kernel
theorem dX7_within_6 : decode cX7_within 6 = .ok (.iload_n 2, 1) := by decide +kernel
theorem dX7_within_7 : decode cX7_within 7 = .ok (.if_icmp .gt 7, 3) := by decide +kernel
theorem dX7_within_10 : decode cX7_within 10 = .ok (.iconst 1, 1) := by decide +kernel
theorem dX7_within_11 : decode cX7_within 11 = .ok (.goto 4, 3) := by decide +kernel
theorem dX7_within_14 : decode cX7_within 14 = .ok (.iconst 0, 1) := by decide +kernel
theorem dX7_within_15 : decode cX7_within 15 = .ok (.ireturn, 1) := by decide +kernel
theorem dX7_answerOf_0 : decode cX7_answerOf 0 = .ok (.iload_n 2, 1) := by decide +kernel
theorem dX7_answerOf_1 : decode cX7_answerOf 1 = .ok (.iload_n 1, 1) := by decide +kernel
theorem dX7_answerOf_2 : decode cX7_answerOf 2 = .ok (.if_icmp .lt 7, 3) := by decide +kernel
theorem dX7_answerOf_5 : decode cX7_answerOf 5 = .ok (.iconst 1, 1) := by decide +kernel
theorem dX7_answerOf_6 : decode cX7_answerOf 6 = .ok (.goto 4, 3) := by decide +kernel
theorem dX7_answerOf_9 : decode cX7_answerOf 9 = .ok (.iconst 0, 1) := by decide +kernel
theorem dX7_answerOf_10 : decode cX7_answerOf 10 = .ok (.istore_n 3, 1) := by decide +kernel
theorem dX7_answerOf_11 : decode cX7_answerOf 11 = .ok (.iconst 1, 1) := by decide +kernel
theorem dX7_answerOf_12 : decode cX7_answerOf 12 = .ok (.iload_n 3, 1) := by decide +kernel
theorem dX7_answerOf_13 : decode cX7_answerOf 13 = .ok (.isub, 1) := by decide +kernel
theorem dX7_answerOf_14 : decode cX7_answerOf 14 = .ok (.istore 4, 2) := by decide +kernel
theorem dX7_answerOf_16 : decode cX7_answerOf 16 = .ok (.iload_n 2, 1) := by decide +kernel
theorem dX7_answerOf_17 : decode cX7_answerOf 17 = .ok (.iload_n 1, 1) := by decide +kernel
theorem dX7_answerOf_18 : decode cX7_answerOf 18 = .ok (.iconst 4, 1) := by decide +kernel
theorem dX7_answerOf_19 : decode cX7_answerOf 19 = .ok (.invokestatic 269, 3) := by decide +kernel
theorem dX7_answerOf_22 : decode cX7_answerOf 22 = .ok (.iconst 2, 1) := by decide +kernel
theorem dX7_answerOf_23 : decode cX7_answerOf 23 = .ok (.iadd, 1) := by decide +kernel
theorem dX7_answerOf_24 : decode cX7_answerOf 24 = .ok (.irem, 1) := by decide +kernel
theorem dX7_answerOf_25 : decode cX7_answerOf 25 = .ok (.istore 5, 2) := by decide +kernel
theorem dX7_answerOf_27 : decode cX7_answerOf 27 = .ok (.iload_n 0, 1) := by decide +kernel
theorem dX7_answerOf_28 : decode cX7_answerOf 28 = .ok (.tableswitch 56 0 4 #[36, 38, 41, 44, 49], 36) := by decide +kernel
theorem dX7_answerOf_64 : decode cX7_answerOf 64 = .ok (.iload_n 3, 1) := by decide +kernel
theorem dX7_answerOf_65 : decode cX7_answerOf 65 = .ok (.ireturn, 1) := by decide +kernel
theorem dX7_answerOf_66 : decode cX7_answerOf 66 = .ok (.iload 4, 2) := by decide +kernel
theorem dX7_answerOf_68 : decode cX7_answerOf 68 = .ok (.ireturn, 1) := by decide +kernel
theorem dX7_answerOf_69 : decode cX7_answerOf 69 = .ok (.iload 5, 2) := by decide +kernel
theorem dX7_answerOf_71 : decode cX7_answerOf 71 = .ok (.ireturn, 1) := by decide +kernel
theorem dX7_answerOf_72 : decode cX7_answerOf 72 = .ok (.iload 5, 2) := by decide +kernel
theorem dX7_answerOf_74 : decode cX7_answerOf 74 = .ok (.iconst 2, 1) := by decide +kernel
theorem dX7_answerOf_75 : decode cX7_answerOf 75 = .ok (.idiv, 1) := by decide +kernel
theorem dX7_answerOf_76 : decode cX7_answerOf 76 = .ok (.ireturn, 1) := by decide +kernel
theorem dX7_answerOf_77 : decode cX7_answerOf 77 = .ok (.iload 5, 2) := by decide +kernel
theorem dX7_answerOf_79 : decode cX7_answerOf 79 = .ok (.iconst 5, 1) := by decide +kernel
theorem dX7_answerOf_80 : decode cX7_answerOf 80 = .ok (.iload_n 3, 1) := by decide +kernel
theorem dX7_answerOf_81 : decode cX7_answerOf 81 = .ok (.imul, 1) := by decide +kernel
theorem dX7_answerOf_82 : decode cX7_answerOf 82 = .ok (.iadd, 1) := by decide +kernel
theorem dX7_answerOf_83 : decode cX7_answerOf 83 = .ok (.ireturn, 1) := by decide +kernel
theorem dX7_answerOf_84 : decode cX7_answerOf 84 = .ok (.iload_n 2, 1) := by decide +kernel
theorem dX7_answerOf_85 : decode cX7_answerOf 85 = .ok (.iload_n 1, 1) := by decide +kernel
theorem dX7_answerOf_86 : decode cX7_answerOf 86 = .ok (.if_icmp .ne 7, 3) := by decide +kernel
theorem dX7_answerOf_89 : decode cX7_answerOf 89 = .ok (.iconst 2, 1) := by decide +kernel
theorem dX7_answerOf_90 : decode cX7_answerOf 90 = .ok (.goto 5, 3) := by decide +kernel
theorem dX7_answerOf_93 : decode cX7_answerOf 93 = .ok (.iload 4, 2) := by decide +kernel
theorem dX7_answerOf_95 : decode cX7_answerOf 95 = .ok (.ireturn, 1) := by decide +kernel
theorem dX8_bad_0 : decode cX8_bad 0 = .ok (.aload_n 0, 1) := by decide +kernel
theorem dX8_bad_1 : decode cX8_bad 1 = .ok (.getfield 1, 3) := by decide +kernel
theorem dX8_bad_4 : decode cX8_bad 4 = .ok (.iconst 0, 1) := by decide +kernel
theorem dX8_bad_5 : decode cX8_bad 5 = .ok (.dup2, 1) := by decide +kernel
theorem dX8_bad_6 : decode cX8_bad 6 = .ok (.iaload, 1) := by decide +kernel
theorem dX8_bad_7 : decode cX8_bad 7 = .ok (.iconst 1, 1) := by decide +kernel
theorem dX8_bad_8 : decode cX8_bad 8 = .ok (.iadd, 1) := by decide +kernel
theorem dX8_bad_9 : decode cX8_bad 9 = .ok (.iastore, 1) := by decide +kernel
theorem dX8_bad_10 : decode cX8_bad 10 = .ok (.bipush (-2), 2) := by decide +kernel
theorem dX8_bad_12 : decode cX8_bad 12 = .ok (.ireturn, 1) := by decide +kernel
theorem dX8_ten_0 : decode cX8_ten 0 = .ok (.aload_n 0, 1) := by decide +kernel
theorem dX8_ten_1 : decode cX8_ten 1 = .ok (.getfield 1, 3) := by decide +kernel
theorem dX8_ten_4 : decode cX8_ten 4 = .ok (.iconst 0, 1) := by decide +kernel
theorem dX8_ten_5 : decode cX8_ten 5 = .ok (.dup2, 1) := by decide +kernel
theorem dX8_ten_6 : decode cX8_ten 6 = .ok (.iaload, 1) := by decide +kernel
theorem dX8_ten_7 : decode cX8_ten 7 = .ok (.iconst 1, 1) := by decide +kernel
theorem dX8_ten_8 : decode cX8_ten 8 = .ok (.iadd, 1) := by decide +kernel
theorem dX8_ten_9 : decode cX8_ten 9 = .ok (.iastore, 1) := by decide +kernel
theorem dX8_ten_10 : decode cX8_ten 10 = .ok (.bipush (-10), 2) := by decide +kernel
theorem dX8_ten_12 : decode cX8_ten 12 = .ok (.ireturn, 1) := by decide +kernel
theorem dX8_no_0 : decode cX8_no 0 = .ok (.aload_n 0, 1) := by decide +kernel
theorem dX8_no_1 : decode cX8_no 1 = .ok (.getfield 1, 3) := by decide +kernel
theorem dX8_no_4 : decode cX8_no 4 = .ok (.iconst 1, 1) := by decide +kernel
theorem dX8_no_5 : decode cX8_no 5 = .ok (.dup2, 1) := by decide +kernel
theorem dX8_no_6 : decode cX8_no 6 = .ok (.iaload, 1) := by decide +kernel
theorem dX8_no_7 : decode cX8_no 7 = .ok (.iconst 1, 1) := by decide +kernel
theorem dX8_no_8 : decode cX8_no 8 = .ok (.iadd, 1) := by decide +kernel
theorem dX8_no_9 : decode cX8_no 9 = .ok (.iastore, 1) := by decide +kernel
theorem dX8_no_10 : decode cX8_no 10 = .ok (.bipush (-3), 2) := by decide +kernel
theorem dX8_no_12 : decode cX8_no 12 = .ok (.ireturn, 1) := by decide +kernel
theorem dX8_full_0 : decode cX8_full 0 = .ok (.aload_n 0, 1) := by decide +kernel
theorem dX8_full_1 : decode cX8_full 1 = .ok (.getfield 1, 3) := by decide +kernel
theorem dX8_full_4 : decode cX8_full 4 = .ok (.iconst 2, 1) := by decide +kernel
theorem dX8_full_5 : decode cX8_full 5 = .ok (.dup2, 1) := by decide +kernel
theorem dX8_full_6 : decode cX8_full 6 = .ok (.iaload, 1) := by decide +kernel
theorem dX8_full_7 : decode cX8_full 7 = .ok (.iconst 1, 1) := by decide +kernel
theorem dX8_full_8 : decode cX8_full 8 = .ok (.iadd, 1) := by decide +kernel
theorem dX8_full_9 : decode cX8_full 9 = .ok (.iastore, 1) := by decide +kernel
theorem dX8_full_10 : decode cX8_full 10 = .ok (.bipush (-4), 2) := by decide +kernel
theorem dX8_full_12 : decode cX8_full 12 = .ok (.ireturn, 1) := by decide +kernel
theorem dX8_in_0 : decode cX8_in 0 = .ok (.iload_n 0, 1) := by decide +kernel
theorem dX8_in_1 : decode cX8_in 1 = .ok (.iload_n 1, 1) := by decide +kernel
theorem dX8_in_2 : decode cX8_in 2 = .ok (.if_icmp .lt 12, 3) := by decide +kernel
theorem dX8_in_5 : decode cX8_in 5 = .ok (.iload_n 0, 1) := by decide +kernel
theorem dX8_in_6 : decode cX8_in 6 = .ok (.iload_n 2, 1) := by decide +kernel
theorem dX8_in_7 : decode cX8_in 7 = .ok (.if_icmp .gt 7, 3) := by decide +kernel
theorem dX8_in_10 : decode cX8_in 10 = .ok (.iconst 1, 1) := by decide +kernel
theorem dX8_in_11 : decode cX8_in 11 = .ok (.goto 4, 3) := by decide +kernel
theorem dX8_in_14 : decode cX8_in 14 = .ok (.iconst 0, 1) := by decide +kernel
theorem dX8_in_15 : decode cX8_in 15 = .ok (.ireturn, 1) := by decide +kernel
theorem dX8_has_0 : decode cX8_has 0 = .ok (.iload_n 0, 1) := by decide +kernel
theorem dX8_has_1 : decode cX8_has 1 = .ok (.iload_n 1, 1) := by decide +kernel
theorem dX8_has_2 : decode cX8_has 2 = .ok (.ishr, 1) := by decide +kernel
theorem dX8_has_3 : decode cX8_has 3 = .ok (.iconst 1, 1) := by decide +kernel
theorem dX8_has_4 : decode cX8_has 4 = .ok (.iand, 1) := by decide +kernel
theorem dX8_has_5 : decode cX8_has 5 = .ok (.iconst 1, 1) := by decide +kernel
theorem dX8_has_6 : decode cX8_has 6 = .ok (.if_icmp .ne 7, 3) := by decide +kernel
theorem dX8_has_9 : decode cX8_has 9 = .ok (.iconst 1, 1) := by decide +kernel
theorem dX8_has_10 : decode cX8_has 10 = .ok (.goto 4, 3) := by decide +kernel
theorem dX8_has_13 : decode cX8_has 13 = .ok (.iconst 0, 1) := by decide +kernel
theorem dX8_has_14 : decode cX8_has 14 = .ok (.ireturn, 1) := by decide +kernel
theorem dX8_bits_0 : decode cX8_bits 0 = .ok (.iconst 0, 1) := by decide +kernel
theorem dX8_bits_1 : decode cX8_bits 1 = .ok (.istore_n 1, 1) := by decide +kernel
theorem dX8_bits_2 : decode cX8_bits 2 = .ok (.iconst 0, 1) := by decide +kernel
theorem dX8_bits_3 : decode cX8_bits 3 = .ok (.istore_n 2, 1) := by decide +kernel
theorem dX8_bits_4 : decode cX8_bits 4 = .ok (.iload_n 2, 1) := by decide +kernel
theorem dX8_bits_5 : decode cX8_bits 5 = .ok (.bipush 16, 2) := by decide +kernel
theorem dX8_bits_7 : decode cX8_bits 7 = .ok (.if_icmp .ge 17, 3) := by decide +kernel
theorem dX8_bits_10 : decode cX8_bits 10 = .ok (.iload_n 1, 1) := by decide +kernel
theorem dX8_bits_11 : decode cX8_bits 11 = .ok (.iload_n 0, 1) := by decide +kernel
theorem dX8_bits_12 : decode cX8_bits 12 = .ok (.iload_n 2, 1) := by decide +kernel
theorem dX8_bits_13 : decode cX8_bits 13 = .ok (.ishr, 1) := by decide +kernel
theorem dX8_bits_14 : decode cX8_bits 14 = .ok (.iconst 1, 1) := by decide +kernel
theorem dX8_bits_15 : decode cX8_bits 15 = .ok (.iand, 1) := by decide +kernel
theorem dX8_bits_16 : decode cX8_bits 16 = .ok (.iadd, 1) := by decide +kernel
theorem dX8_bits_17 : decode cX8_bits 17 = .ok (.istore_n 1, 1) := by decide +kernel
theorem dX8_bits_18 : decode cX8_bits 18 = .ok (.iinc 2 1, 3) := by decide +kernel
theorem dX8_bits_21 : decode cX8_bits 21 = .ok (.goto (-17), 3) := by decide +kernel
theorem dX8_bits_24 : decode cX8_bits 24 = .ok (.iload_n 1, 1) := by decide +kernel
theorem dX8_bits_25 : decode cX8_bits 25 = .ok (.ireturn, 1) := by decide +kernel
theorem dX8_init_0 : decode cX8_init 0 = .ok (.aload_n 0, 1) := by decide +kernel
theorem dX8_init_1 : decode cX8_init 1 = .ok (.invokespecial 7, 3) := by decide +kernel
theorem dX8_init_4 : decode cX8_init 4 = .ok (.aload_n 0, 1) := by decide +kernel
theorem dX8_init_5 : decode cX8_init 5 = .ok (.iconst 3, 1) := by decide +kernel
theorem dX8_init_6 : decode cX8_init 6 = .ok (.newarray .int, 2) := by decide +kernel
theorem dX8_init_8 : decode cX8_init 8 = .ok (.putfield 1, 3) := by decide +kernel
theorem dX8_init_11 : decode cX8_init 11 = .ok (.aload_n 0, 1) := by decide +kernel
theorem dX8_init_12 : decode cX8_init 12 = .ok (.bipush 8, 2) := by decide +kernel
theorem dX8_init_14 : decode cX8_init 14 = .ok (.putfield 13, 3) := by decide +kernel
theorem dX8_init_17 : decode cX8_init 17 = .ok (.aload_n 0, 1) := by decide +kernel
theorem dX8_init_18 : decode cX8_init 18 = .ok (.bipush 16, 2) := by decide +kernel
theorem dX8_init_20 : decode cX8_init 20 = .ok (.newarray .int, 2) := by decide +kernel
theorem dX8_init_22 : decode cX8_init 22 = .ok (.putfield 17, 3) := by decide +kernel
theorem dX8_init_25 : decode cX8_init 25 = .ok (.aload_n 0, 1) := by decide +kernel
theorem dX8_init_26 : decode cX8_init 26 = .ok (.bipush 7, 2) := by decide +kernel
theorem dX8_init_28 : decode cX8_init 28 = .ok (.newarray .int, 2) := by decide +kernel
theorem dX8_init_30 : decode cX8_init 30 = .ok (.putfield 20, 3) := by decide +kernel
theorem dX8_init_33 : decode cX8_init 33 = .ok (.aload_n 0, 1) := by decide +kernel
theorem dX8_init_34 : decode cX8_init 34 = .ok (.bipush 7, 2) := by decide +kernel
theorem dX8_init_36 : decode cX8_init 36 = .ok (.newarray .int, 2) := by decide +kernel
theorem dX8_init_38 : decode cX8_init 38 = .ok (.putfield 23, 3) := by decide +kernel
theorem dX8_init_41 : decode cX8_init 41 = .ok (.aload_n 0, 1) := by decide +kernel
theorem dX8_init_42 : decode cX8_init 42 = .ok (.bipush 7, 2) := by decide +kernel
theorem dX8_init_44 : decode cX8_init 44 = .ok (.newarray .int, 2) := by decide +kernel
theorem dX8_init_46 : decode cX8_init 46 = .ok (.putfield 26, 3) := by decide +kernel
theorem dX8_init_49 : decode cX8_init 49 = .ok (.aload_n 0, 1) := by decide +kernel
theorem dX8_init_50 : decode cX8_init 50 = .ok (.bipush 16, 2) := by decide +kernel
theorem dX8_init_52 : decode cX8_init 52 = .ok (.newarray .int, 2) := by decide +kernel
theorem dX8_init_54 : decode cX8_init 54 = .ok (.putfield 29, 3) := by decide +kernel
theorem dX8_init_57 : decode cX8_init 57 = .ok (.aload_n 0, 1) := by decide +kernel
theorem dX8_init_58 : decode cX8_init 58 = .ok (.sipush 150, 3) := by decide +kernel
theorem dX8_init_61 : decode cX8_init 61 = .ok (.newarray .int, 2) := by decide +kernel
theorem dX8_init_63 : decode cX8_init 63 = .ok (.putfield 32, 3) := by decide +kernel
theorem dX8_init_66 : decode cX8_init 66 = .ok (.aload_n 0, 1) := by decide +kernel
theorem dX8_init_67 : decode cX8_init 67 = .ok (.bipush 16, 2) := by decide +kernel
theorem dX8_init_69 : decode cX8_init 69 = .ok (.newarray .int, 2) := by decide +kernel
theorem dX8_init_71 : decode cX8_init 71 = .ok (.putfield 35, 3) := by decide +kernel
theorem dX8_init_74 : decode cX8_init 74 = .ok (.aload_n 0, 1) := by decide +kernel
theorem dX8_init_75 : decode cX8_init 75 = .ok (.bipush 21, 2) := by decide +kernel
theorem dX8_init_77 : decode cX8_init 77 = .ok (.newarray .int, 2) := by decide +kernel
theorem dX8_init_79 : decode cX8_init 79 = .ok (.putfield 38, 3) := by decide +kernel
theorem dX8_init_82 : decode cX8_init 82 = .ok (.aload_n 0, 1) := by decide +kernel
theorem dX8_init_83 : decode cX8_init 83 = .ok (.sipush 136, 3) := by decide +kernel
theorem dX8_init_86 : decode cX8_init 86 = .ok (.newarray .int, 2) := by decide +kernel
theorem dX8_init_88 : decode cX8_init 88 = .ok (.putfield 41, 3) := by decide +kernel
theorem dX8_init_91 : decode cX8_init 91 = .ok (.aload_n 0, 1) := by decide +kernel
theorem dX8_init_92 : decode cX8_init 92 = .ok (.sipush 128, 3) := by decide +kernel
theorem dX8_init_95 : decode cX8_init 95 = .ok (.newarray .boolean, 2) := by decide +kernel
theorem dX8_init_97 : decode cX8_init 97 = .ok (.putfield 44, 3) := by decide +kernel
theorem dX8_init_100 : decode cX8_init 100 = .ok (.aload_n 0, 1) := by decide +kernel
theorem dX8_init_101 : decode cX8_init 101 = .ok (.ldc 48, 2) := by decide +kernel
theorem dX8_init_103 : decode cX8_init 103 = .ok (.newarray .int, 2) := by decide +kernel
theorem dX8_init_105 : decode cX8_init 105 = .ok (.putfield 49, 3) := by decide +kernel
theorem dX8_init_108 : decode cX8_init 108 = .ok (.aload_n 0, 1) := by decide +kernel
theorem dX8_init_109 : decode cX8_init 109 = .ok (.ldc 48, 2) := by decide +kernel
theorem dX8_init_111 : decode cX8_init 111 = .ok (.newarray .int, 2) := by decide +kernel
theorem dX8_init_113 : decode cX8_init 113 = .ok (.putfield 52, 3) := by decide +kernel
theorem dX8_init_116 : decode cX8_init 116 = .ok (.aload_n 0, 1) := by decide +kernel
theorem dX8_init_117 : decode cX8_init 117 = .ok (.ldc 48, 2) := by decide +kernel
theorem dX8_init_119 : decode cX8_init 119 = .ok (.newarray .int, 2) := by decide +kernel
theorem dX8_init_121 : decode cX8_init 121 = .ok (.putfield 55, 3) := by decide +kernel
theorem dX8_init_124 : decode cX8_init 124 = .ok (.aload_n 0, 1) := by decide +kernel
theorem dX8_init_125 : decode cX8_init 125 = .ok (.bipush 112, 2) := by decide +kernel
theorem dX8_init_127 : decode cX8_init 127 = .ok (.newarray .int, 2) := by decide +kernel
theorem dX8_init_129 : decode cX8_init 129 = .ok (.putfield 58, 3) := by decide +kernel
theorem dX8_init_132 : decode cX8_init 132 = .ok (.aload_n 0, 1) := by decide +kernel
theorem dX8_init_133 : decode cX8_init 133 = .ok (.lconst 1, 1) := by decide +kernel
theorem dX8_init_134 : decode cX8_init 134 = .ok (.putfield 61, 3) := by decide +kernel
theorem dX8_init_137 : decode cX8_init 137 = .ok (.aload_n 0, 1) := by decide +kernel
theorem dX8_init_138 : decode cX8_init 138 = .ok (.bipush 7, 2) := by decide +kernel
theorem dX8_init_140 : decode cX8_init 140 = .ok (.newarray .int, 2) := by decide +kernel
theorem dX8_init_142 : decode cX8_init 142 = .ok (.putfield 65, 3) := by decide +kernel
theorem dX8_init_145 : decode cX8_init 145 = .ok (.aload_n 0, 1) := by decide +kernel
theorem dX8_init_146 : decode cX8_init 146 = .ok (.sipush 386, 3) := by decide +kernel
theorem dX8_init_149 : decode cX8_init 149 = .ok (.newarray .int, 2) := by decide +kernel
theorem dX8_init_151 : decode cX8_init 151 = .ok (.putfield 68, 3) := by decide +kernel
theorem dX8_init_154 : decode cX8_init 154 = .ok (.aload_n 0, 1) := by decide +kernel
theorem dX8_init_155 : decode cX8_init 155 = .ok (.bipush 8, 2) := by decide +kernel
theorem dX8_init_157 : decode cX8_init 157 = .ok (.invokevirtual 71, 3) := by decide +kernel
theorem dX8_init_160 : decode cX8_init 160 = .ok (.return_, 1) := by decide +kernel
theorem dX8_begin_0 : decode cX8_begin 0 = .ok (.aload_n 0, 1) := by decide +kernel
theorem dX8_begin_1 : decode cX8_begin 1 = .ok (.iload_n 1, 1) := by decide +kernel
theorem dX8_begin_2 : decode cX8_begin 2 = .ok (.putfield 13, 3) := by decide +kernel
theorem dX8_begin_5 : decode cX8_begin 5 = .ok (.aload_n 0, 1) := by decide +kernel
theorem dX8_begin_6 : decode cX8_begin 6 = .ok (.iconst 0, 1) := by decide +kernel
theorem dX8_begin_7 : decode cX8_begin 7 = .ok (.putfield 75, 3) := by decide +kernel
theorem dX8_begin_10 : decode cX8_begin 10 = .ok (.aload_n 0, 1) := by decide +kernel
theorem dX8_begin_11 : decode cX8_begin 11 = .ok (.iconst 0, 1) := by decide +kernel
theorem dX8_begin_12 : decode cX8_begin 12 = .ok (.putfield 78, 3) := by decide +kernel
theorem dX8_begin_15 : decode cX8_begin 15 = .ok (.aload_n 0, 1) := by decide +kernel
theorem dX8_begin_16 : decode cX8_begin 16 = .ok (.iconst 0, 1) := by decide +kernel
theorem dX8_begin_17 : decode cX8_begin 17 = .ok (.putfield 81, 3) := by decide +kernel
theorem dX8_begin_20 : decode cX8_begin 20 = .ok (.iconst 0, 1) := by decide +kernel
theorem dX8_begin_21 : decode cX8_begin 21 = .ok (.istore_n 2, 1) := by decide +kernel
theorem dX8_begin_22 : decode cX8_begin 22 = .ok (.iload_n 2, 1) := by decide +kernel
theorem dX8_begin_23 : decode cX8_begin 23 = .ok (.bipush 16, 2) := by decide +kernel
theorem dX8_begin_25 : decode cX8_begin 25 = .ok (.if_icmp .ge 16, 3) := by decide +kernel
theorem dX8_begin_28 : decode cX8_begin 28 = .ok (.aload_n 0, 1) := by decide +kernel
theorem dX8_begin_29 : decode cX8_begin 29 = .ok (.getfield 17, 3) := by decide +kernel
theorem dX8_begin_32 : decode cX8_begin 32 = .ok (.iload_n 2, 1) := by decide +kernel
theorem dX8_begin_33 : decode cX8_begin 33 = .ok (.iconst 1, 1) := by decide +kernel
theorem dX8_begin_34 : decode cX8_begin 34 = .ok (.iastore, 1) := by decide +kernel
theorem dX8_begin_35 : decode cX8_begin 35 = .ok (.iinc 2 1, 3) := by decide +kernel
theorem dX8_begin_38 : decode cX8_begin 38 = .ok (.goto (-16), 3) := by decide +kernel
theorem dX8_begin_41 : decode cX8_begin 41 = .ok (.return_, 1) := by decide +kernel
theorem dX8_isCase_0 : decode cX8_isCase 0 = .ok (.iload_n 1, 1) := by decide +kernel
theorem dX8_isCase_1 : decode cX8_isCase 1 = .ok (.iconst 0, 1) := by decide +kernel
theorem dX8_isCase_2 : decode cX8_isCase 2 = .ok (.aload_n 0, 1) := by decide +kernel
theorem dX8_isCase_3 : decode cX8_isCase 3 = .ok (.getfield 13, 3) := by decide +kernel
theorem dX8_isCase_6 : decode cX8_isCase 6 = .ok (.iconst 1, 1) := by decide +kernel
theorem dX8_isCase_7 : decode cX8_isCase 7 = .ok (.isub, 1) := by decide +kernel
theorem dX8_isCase_8 : decode cX8_isCase 8 = .ok (.invokestatic 84, 3) := by decide +kernel
theorem dX8_isCase_11 : decode cX8_isCase 11 = .ok (.ireturn, 1) := by decide +kernel
theorem dX8_isQuestion_0 : decode cX8_isQuestion 0 = .ok (.iload_n 1, 1) := by decide +kernel
theorem dX8_isQuestion_1 : decode cX8_isQuestion 1 = .ok (.iconst 0, 1) := by decide +kernel
theorem dX8_isQuestion_2 : decode cX8_isQuestion 2 = .ok (.aload_n 0, 1) := by decide +kernel
theorem dX8_isQuestion_3 : decode cX8_isQuestion 3 = .ok (.getfield 75, 3) := by decide +kernel
theorem dX8_isQuestion_6 : decode cX8_isQuestion 6 = .ok (.iconst 1, 1) := by decide +kernel
theorem dX8_isQuestion_7 : decode cX8_isQuestion 7 = .ok (.isub, 1) := by decide +kernel
theorem dX8_isQuestion_8 : decode cX8_isQuestion 8 = .ok (.invokestatic 84, 3) := by decide +kernel
theorem dX8_isQuestion_11 : decode cX8_isQuestion 11 = .ok (.ireturn, 1) := by decide +kernel
theorem dX8_everyCase_0 : decode cX8_everyCase 0 = .ok (.iconst 1, 1) := by decide +kernel
theorem dX8_everyCase_1 : decode cX8_everyCase 1 = .ok (.aload_n 0, 1) := by decide +kernel
theorem dX8_everyCase_2 : decode cX8_everyCase 2 = .ok (.getfield 13, 3) := by decide +kernel
theorem dX8_everyCase_5 : decode cX8_everyCase 5 = .ok (.ishl, 1) := by decide +kernel
theorem dX8_everyCase_6 : decode cX8_everyCase 6 = .ok (.iconst 1, 1) := by decide +kernel
theorem dX8_everyCase_7 : decode cX8_everyCase 7 = .ok (.isub, 1) := by decide +kernel
theorem dX8_everyCase_8 : decode cX8_everyCase 8 = .ok (.ireturn, 1) := by decide +kernel
theorem dX8_fair_0 : decode cX8_fair 0 = .ok (.iload_n 1, 1) := by decide +kernel
theorem dX8_fair_1 : decode cX8_fair 1 = .ok (.iconst 1, 1) := by decide +kernel
theorem dX8_fair_2 : decode cX8_fair 2 = .ok (.bipush 16, 2) := by decide +kernel
theorem dX8_fair_4 : decode cX8_fair 4 = .ok (.invokestatic 84, 3) := by decide +kernel
theorem dX8_fair_7 : decode cX8_fair 7 = .ok (.ifCond .ne 8, 3) := by decide +kernel
theorem dX8_fair_10 : decode cX8_fair 10 = .ok (.aload_n 0, 1) := by decide +kernel
theorem dX8_fair_11 : decode cX8_fair 11 = .ok (.invokevirtual 88, 3) := by decide +kernel
theorem dX8_fair_14 : decode cX8_fair 14 = .ok (.ireturn, 1) := by decide +kernel
theorem dX8_fair_15 : decode cX8_fair 15 = .ok (.aload_n 0, 1) := by decide +kernel
theorem dX8_fair_16 : decode cX8_fair 16 = .ok (.getfield 75, 3) := by decide +kernel
theorem dX8_fair_19 : decode cX8_fair 19 = .ok (.istore_n 2, 1) := by decide +kernel
theorem dX8_fair_20 : decode cX8_fair 20 = .ok (.aload_n 0, 1) := by decide +kernel
theorem dX8_fair_21 : decode cX8_fair 21 = .ok (.iload_n 1, 1) := by decide +kernel
theorem dX8_fair_22 : decode cX8_fair 22 = .ok (.invokevirtual 71, 3) := by decide +kernel
theorem dX8_fair_25 : decode cX8_fair 25 = .ok (.iload_n 2, 1) := by decide +kernel
theorem dX8_fair_26 : decode cX8_fair 26 = .ok (.ireturn, 1) := by decide +kernel
theorem dX8_weigh_0 : decode cX8_weigh 0 = .ok (.aload_n 0, 1) := by decide +kernel
theorem dX8_weigh_1 : decode cX8_weigh 1 = .ok (.iload_n 1, 1) := by decide +kernel
theorem dX8_weigh_2 : decode cX8_weigh 2 = .ok (.invokevirtual 92, 3) := by decide +kernel
theorem dX8_weigh_5 : decode cX8_weigh 5 = .ok (.ifCond .eq 13, 3) := by decide +kernel
theorem dX8_weigh_8 : decode cX8_weigh 8 = .ok (.iload_n 2, 1) := by decide +kernel
theorem dX8_weigh_9 : decode cX8_weigh 9 = .ok (.iconst 1, 1) := by decide +kernel
theorem dX8_weigh_10 : decode cX8_weigh 10 = .ok (.bipush 9, 2) := by decide +kernel
theorem dX8_weigh_12 : decode cX8_weigh 12 = .ok (.invokestatic 84, 3) := by decide +kernel
theorem dX8_weigh_15 : decode cX8_weigh 15 = .ok (.ifCond .ne 8, 3) := by decide +kernel
theorem dX8_weigh_18 : decode cX8_weigh 18 = .ok (.aload_n 0, 1) := by decide +kernel
theorem dX8_weigh_19 : decode cX8_weigh 19 = .ok (.invokevirtual 88, 3) := by decide +kernel
theorem dX8_weigh_22 : decode cX8_weigh 22 = .ok (.ireturn, 1) := by decide +kernel
theorem dX8_weigh_23 : decode cX8_weigh 23 = .ok (.aload_n 0, 1) := by decide +kernel
theorem dX8_weigh_24 : decode cX8_weigh 24 = .ok (.getfield 17, 3) := by decide +kernel
theorem dX8_weigh_27 : decode cX8_weigh 27 = .ok (.iload_n 1, 1) := by decide +kernel
theorem dX8_weigh_28 : decode cX8_weigh 28 = .ok (.iaload, 1) := by decide +kernel
theorem dX8_weigh_29 : decode cX8_weigh 29 = .ok (.istore_n 3, 1) := by decide +kernel
theorem dX8_weigh_30 : decode cX8_weigh 30 = .ok (.aload_n 0, 1) := by decide +kernel
theorem dX8_weigh_31 : decode cX8_weigh 31 = .ok (.getfield 17, 3) := by decide +kernel
theorem dX8_weigh_34 : decode cX8_weigh 34 = .ok (.iload_n 1, 1) := by decide +kernel
theorem dX8_weigh_35 : decode cX8_weigh 35 = .ok (.iload_n 2, 1) := by decide +kernel
theorem dX8_weigh_36 : decode cX8_weigh 36 = .ok (.iastore, 1) := by decide +kernel
theorem dX8_weigh_37 : decode cX8_weigh 37 = .ok (.iload_n 3, 1) := by decide +kernel
theorem dX8_weigh_38 : decode cX8_weigh 38 = .ok (.ireturn, 1) := by decide +kernel
theorem dX8_add_0 : decode cX8_add 0 = .ok (.aload_n 0, 1) := by decide +kernel
theorem dX8_add_1 : decode cX8_add 1 = .ok (.getfield 20, 3) := by decide +kernel
theorem dX8_add_4 : decode cX8_add 4 = .ok (.aload_n 0, 1) := by decide +kernel
theorem dX8_add_5 : decode cX8_add 5 = .ok (.getfield 75, 3) := by decide +kernel
theorem dX8_add_8 : decode cX8_add 8 = .ok (.iload_n 1, 1) := by decide +kernel
theorem dX8_add_9 : decode cX8_add 9 = .ok (.iastore, 1) := by decide +kernel
theorem dX8_add_10 : decode cX8_add 10 = .ok (.aload_n 0, 1) := by decide +kernel
theorem dX8_add_11 : decode cX8_add 11 = .ok (.getfield 23, 3) := by decide +kernel
theorem dX8_add_14 : decode cX8_add 14 = .ok (.aload_n 0, 1) := by decide +kernel
theorem dX8_add_15 : decode cX8_add 15 = .ok (.getfield 75, 3) := by decide +kernel
theorem dX8_add_18 : decode cX8_add 18 = .ok (.iload_n 2, 1) := by decide +kernel
theorem dX8_add_19 : decode cX8_add 19 = .ok (.iastore, 1) := by decide +kernel
theorem dX8_add_20 : decode cX8_add 20 = .ok (.aload_n 0, 1) := by decide +kernel
theorem dX8_add_21 : decode cX8_add 21 = .ok (.getfield 26, 3) := by decide +kernel
theorem dX8_add_24 : decode cX8_add 24 = .ok (.aload_n 0, 1) := by decide +kernel
theorem dX8_add_25 : decode cX8_add 25 = .ok (.getfield 75, 3) := by decide +kernel
theorem dX8_add_28 : decode cX8_add 28 = .ok (.iload_n 3, 1) := by decide +kernel
theorem dX8_add_29 : decode cX8_add 29 = .ok (.iastore, 1) := by decide +kernel
theorem dX8_add_30 : decode cX8_add 30 = .ok (.aload_n 0, 1) := by decide +kernel
theorem dX8_add_31 : decode cX8_add 31 = .ok (.dup, 1) := by decide +kernel
theorem dX8_add_32 : decode cX8_add 32 = .ok (.getfield 75, 3) := by decide +kernel
theorem dX8_add_35 : decode cX8_add 35 = .ok (.iconst 1, 1) := by decide +kernel
theorem dX8_add_36 : decode cX8_add 36 = .ok (.iadd, 1) := by decide +kernel
theorem dX8_add_37 : decode cX8_add 37 = .ok (.putfield 75, 3) := by decide +kernel
theorem dX8_add_40 : decode cX8_add 40 = .ok (.aload_n 0, 1) := by decide +kernel
theorem dX8_add_41 : decode cX8_add 41 = .ok (.iconst 0, 1) := by decide +kernel
theorem dX8_add_42 : decode cX8_add 42 = .ok (.putfield 81, 3) := by decide +kernel
theorem dX8_add_45 : decode cX8_add 45 = .ok (.aload_n 0, 1) := by decide +kernel
theorem dX8_add_46 : decode cX8_add 46 = .ok (.getfield 75, 3) := by decide +kernel
theorem dX8_add_49 : decode cX8_add 49 = .ok (.iconst 1, 1) := by decide +kernel
theorem dX8_add_50 : decode cX8_add 50 = .ok (.isub, 1) := by decide +kernel
theorem dX8_add_51 : decode cX8_add 51 = .ok (.ireturn, 1) := by decide +kernel
theorem dX8_question_0 : decode cX8_question 0 = .ok (.iload_n 1, 1) := by decide +kernel
theorem dX8_question_1 : decode cX8_question 1 = .ok (.iconst 0, 1) := by decide +kernel
theorem dX8_question_2 : decode cX8_question 2 = .ok (.iconst 5, 1) := by decide +kernel
theorem dX8_question_3 : decode cX8_question 3 = .ok (.invokestatic 84, 3) := by decide +kernel
theorem dX8_question_6 : decode cX8_question 6 = .ok (.ifCond .eq 23, 3) := by decide +kernel
theorem dX8_question_9 : decode cX8_question 9 = .ok (.iload_n 2, 1) := by decide +kernel
theorem dX8_question_10 : decode cX8_question 10 = .ok (.iconst 0, 1) := by decide +kernel
theorem dX8_question_11 : decode cX8_question 11 = .ok (.bipush 15, 2) := by decide +kernel
theorem dX8_question_13 : decode cX8_question 13 = .ok (.invokestatic 84, 3) := by decide +kernel
theorem dX8_question_16 : decode cX8_question 16 = .ok (.ifCond .eq 13, 3) := by decide +kernel
theorem dX8_question_19 : decode cX8_question 19 = .ok (.iload_n 3, 1) := by decide +kernel
theorem dX8_question_20 : decode cX8_question 20 = .ok (.iconst 0, 1) := by decide +kernel
theorem dX8_question_21 : decode cX8_question 21 = .ok (.bipush 99, 2) := by decide +kernel
theorem dX8_question_23 : decode cX8_question 23 = .ok (.invokestatic 84, 3) := by decide +kernel
theorem dX8_question_26 : decode cX8_question 26 = .ok (.ifCond .ne 8, 3) := by decide +kernel
theorem dX8_question_29 : decode cX8_question 29 = .ok (.aload_n 0, 1) := by decide +kernel
theorem dX8_question_30 : decode cX8_question 30 = .ok (.invokevirtual 88, 3) := by decide +kernel
theorem dX8_question_33 : decode cX8_question 33 = .ok (.ireturn, 1) := by decide +kernel
theorem dX8_question_34 : decode cX8_question 34 = .ok (.aload_n 0, 1) := by decide +kernel
theorem dX8_question_35 : decode cX8_question 35 = .ok (.getfield 75, 3) := by decide +kernel
theorem dX8_question_38 : decode cX8_question 38 = .ok (.bipush 7, 2) := by decide +kernel
theorem dX8_question_40 : decode cX8_question 40 = .ok (.if_icmp .ne 10, 3) := by decide +kernel
theorem dX8_question_43 : decode cX8_question 43 = .ok (.aload_n 0, 1) := by decide +kernel
theorem dX8_question_44 : decode cX8_question 44 = .ok (.invokevirtual 96, 3) := by decide +kernel
theorem dX8_question_47 : decode cX8_question 47 = .ok (.goto 10, 3) := by decide +kernel
theorem dX8_question_50 : decode cX8_question 50 = .ok (.aload_n 0, 1) := by decide +kernel
theorem dX8_question_51 : decode cX8_question 51 = .ok (.iload_n 1, 1) := by decide +kernel
theorem dX8_question_52 : decode cX8_question 52 = .ok (.iload_n 2, 1) := by decide +kernel
theorem dX8_question_53 : decode cX8_question 53 = .ok (.iload_n 3, 1) := by decide +kernel
theorem dX8_question_54 : decode cX8_question 54 = .ok (.invokevirtual 99, 3) := by decide +kernel
theorem dX8_question_57 : decode cX8_question 57 = .ok (.ireturn, 1) := by decide +kernel
theorem dX8_price_0 : decode cX8_price 0 = .ok (.aload_n 0, 1) := by decide +kernel
theorem dX8_price_1 : decode cX8_price 1 = .ok (.iload_n 1, 1) := by decide +kernel
theorem dX8_price_2 : decode cX8_price 2 = .ok (.invokevirtual 103, 3) := by decide +kernel
theorem dX8_price_5 : decode cX8_price 5 = .ok (.ifCond .eq 13, 3) := by decide +kernel
theorem dX8_price_8 : decode cX8_price 8 = .ok (.iload_n 2, 1) := by decide +kernel
theorem dX8_price_9 : decode cX8_price 9 = .ok (.iconst 0, 1) := by decide +kernel
theorem dX8_price_10 : decode cX8_price 10 = .ok (.bipush 99, 2) := by decide +kernel
theorem dX8_price_12 : decode cX8_price 12 = .ok (.invokestatic 84, 3) := by decide +kernel
theorem dX8_price_15 : decode cX8_price 15 = .ok (.ifCond .ne 8, 3) := by decide +kernel
theorem dX8_price_18 : decode cX8_price 18 = .ok (.aload_n 0, 1) := by decide +kernel
theorem dX8_price_19 : decode cX8_price 19 = .ok (.invokevirtual 88, 3) := by decide +kernel
theorem dX8_price_22 : decode cX8_price 22 = .ok (.ireturn, 1) := by decide +kernel
theorem dX8_price_23 : decode cX8_price 23 = .ok (.aload_n 0, 1) := by decide +kernel
theorem dX8_price_24 : decode cX8_price 24 = .ok (.getfield 26, 3) := by decide +kernel
theorem dX8_price_27 : decode cX8_price 27 = .ok (.iload_n 1, 1) := by decide +kernel
theorem dX8_price_28 : decode cX8_price 28 = .ok (.iaload, 1) := by decide +kernel
theorem dX8_price_29 : decode cX8_price 29 = .ok (.istore_n 3, 1) := by decide +kernel
theorem dX8_price_30 : decode cX8_price 30 = .ok (.aload_n 0, 1) := by decide +kernel
theorem dX8_price_31 : decode cX8_price 31 = .ok (.getfield 26, 3) := by decide +kernel
theorem dX8_price_34 : decode cX8_price 34 = .ok (.iload_n 1, 1) := by decide +kernel
theorem dX8_price_35 : decode cX8_price 35 = .ok (.iload_n 2, 1) := by decide +kernel
theorem dX8_price_36 : decode cX8_price 36 = .ok (.iastore, 1) := by decide +kernel
theorem dX8_price_37 : decode cX8_price 37 = .ok (.iload_n 3, 1) := by decide +kernel
theorem dX8_price_38 : decode cX8_price 38 = .ok (.ireturn, 1) := by decide +kernel
theorem dX8_type_0 : decode cX8_type 0 = .ok (.iload_n 1, 1) := by decide +kernel
theorem dX8_type_1 : decode cX8_type 1 = .ok (.iconst 0, 1) := by decide +kernel
theorem dX8_type_2 : decode cX8_type 2 = .ok (.bipush 127, 2) := by decide +kernel
theorem dX8_type_4 : decode cX8_type 4 = .ok (.invokestatic 84, 3) := by decide +kernel
theorem dX8_type_7 : decode cX8_type 7 = .ok (.ifCond .ne 8, 3) := by decide +kernel
theorem dX8_type_10 : decode cX8_type 10 = .ok (.aload_n 0, 1) := by decide +kernel
theorem dX8_type_11 : decode cX8_type 11 = .ok (.invokevirtual 88, 3) := by decide +kernel
theorem dX8_type_14 : decode cX8_type 14 = .ok (.ireturn, 1) := by decide +kernel
theorem dX8_type_15 : decode cX8_type 15 = .ok (.aload_n 0, 1) := by decide +kernel
theorem dX8_type_16 : decode cX8_type 16 = .ok (.getfield 106, 3) := by decide +kernel
theorem dX8_type_19 : decode cX8_type 19 = .ok (.sipush 150, 3) := by decide +kernel
theorem dX8_type_22 : decode cX8_type 22 = .ok (.if_icmp .ne 8, 3) := by decide +kernel
theorem dX8_type_25 : decode cX8_type 25 = .ok (.aload_n 0, 1) := by decide +kernel
theorem dX8_type_26 : decode cX8_type 26 = .ok (.invokevirtual 96, 3) := by decide +kernel
theorem dX8_type_29 : decode cX8_type 29 = .ok (.ireturn, 1) := by decide +kernel
theorem dX8_type_30 : decode cX8_type 30 = .ok (.aload_n 0, 1) := by decide +kernel
theorem dX8_type_31 : decode cX8_type 31 = .ok (.getfield 32, 3) := by decide +kernel
theorem dX8_type_34 : decode cX8_type 34 = .ok (.aload_n 0, 1) := by decide +kernel
theorem dX8_type_35 : decode cX8_type 35 = .ok (.getfield 106, 3) := by decide +kernel
theorem dX8_type_38 : decode cX8_type 38 = .ok (.iload_n 1, 1) := by decide +kernel
theorem dX8_type_39 : decode cX8_type 39 = .ok (.iastore, 1) := by decide +kernel
theorem dX8_type_40 : decode cX8_type 40 = .ok (.aload_n 0, 1) := by decide +kernel
theorem dX8_type_41 : decode cX8_type 41 = .ok (.dup, 1) := by decide +kernel
theorem dX8_type_42 : decode cX8_type 42 = .ok (.getfield 106, 3) := by decide +kernel
theorem dX8_type_45 : decode cX8_type 45 = .ok (.iconst 1, 1) := by decide +kernel
theorem dX8_type_46 : decode cX8_type 46 = .ok (.iadd, 1) := by decide +kernel
theorem dX8_type_47 : decode cX8_type 47 = .ok (.putfield 106, 3) := by decide +kernel
theorem dX8_type_50 : decode cX8_type 50 = .ok (.aload_n 0, 1) := by decide +kernel
theorem dX8_type_51 : decode cX8_type 51 = .ok (.getfield 106, 3) := by decide +kernel
theorem dX8_type_54 : decode cX8_type 54 = .ok (.ireturn, 1) := by decide +kernel
theorem dX8_clear_0 : decode cX8_clear 0 = .ok (.aload_n 0, 1) := by decide +kernel
theorem dX8_clear_1 : decode cX8_clear 1 = .ok (.getfield 106, 3) := by decide +kernel
theorem dX8_clear_4 : decode cX8_clear 4 = .ok (.istore_n 1, 1) := by decide +kernel
theorem dX8_clear_5 : decode cX8_clear 5 = .ok (.aload_n 0, 1) := by decide +kernel
theorem dX8_clear_6 : decode cX8_clear 6 = .ok (.iconst 0, 1) := by decide +kernel
theorem dX8_clear_7 : decode cX8_clear 7 = .ok (.putfield 106, 3) := by decide +kernel
theorem dX8_clear_10 : decode cX8_clear 10 = .ok (.iload_n 1, 1) := by decide +kernel
theorem dX8_clear_11 : decode cX8_clear 11 = .ok (.ireturn, 1) := by decide +kernel
theorem dX8_here_0 : decode cX8_here 0 = .ok (.aload_n 0, 1) := by decide +kernel
theorem dX8_here_1 : decode cX8_here 1 = .ok (.getfield 109, 3) := by decide +kernel
theorem dX8_here_4 : decode cX8_here 4 = .ok (.aload_n 0, 1) := by decide +kernel
theorem dX8_here_5 : decode cX8_here 5 = .ok (.getfield 106, 3) := by decide +kernel
theorem dX8_here_8 : decode cX8_here 8 = .ok (.if_icmp .ge 15, 3) := by decide +kernel
theorem dX8_here_11 : decode cX8_here 11 = .ok (.aload_n 0, 1) := by decide +kernel
theorem dX8_here_12 : decode cX8_here 12 = .ok (.getfield 32, 3) := by decide +kernel
theorem dX8_here_15 : decode cX8_here 15 = .ok (.aload_n 0, 1) := by decide +kernel
theorem dX8_here_16 : decode cX8_here 16 = .ok (.getfield 109, 3) := by decide +kernel
theorem dX8_here_19 : decode cX8_here 19 = .ok (.iaload, 1) := by decide +kernel
theorem dX8_here_20 : decode cX8_here 20 = .ok (.goto 4, 3) := by decide +kernel
theorem dX8_here_23 : decode cX8_here 23 = .ok (.iconst (-1), 1) := by decide +kernel
theorem dX8_here_24 : decode cX8_here 24 = .ok (.ireturn, 1) := by decide +kernel
theorem dX8_skip_0 : decode cX8_skip 0 = .ok (.aload_n 0, 1) := by decide +kernel
theorem dX8_skip_1 : decode cX8_skip 1 = .ok (.invokevirtual 112, 3) := by decide +kernel
theorem dX8_skip_4 : decode cX8_skip 4 = .ok (.bipush 32, 2) := by decide +kernel
theorem dX8_skip_6 : decode cX8_skip 6 = .ok (.if_icmp .ne 16, 3) := by decide +kernel
theorem dX8_skip_9 : decode cX8_skip 9 = .ok (.aload_n 0, 1) := by decide +kernel
theorem dX8_skip_10 : decode cX8_skip 10 = .ok (.dup, 1) := by decide +kernel
theorem dX8_skip_11 : decode cX8_skip 11 = .ok (.getfield 109, 3) := by decide +kernel
theorem dX8_skip_14 : decode cX8_skip 14 = .ok (.iconst 1, 1) := by decide +kernel
theorem dX8_skip_15 : decode cX8_skip 15 = .ok (.iadd, 1) := by decide +kernel
theorem dX8_skip_16 : decode cX8_skip 16 = .ok (.putfield 109, 3) := by decide +kernel
theorem dX8_skip_19 : decode cX8_skip 19 = .ok (.goto (-19), 3) := by decide +kernel
theorem dX8_skip_22 : decode cX8_skip 22 = .ok (.return_, 1) := by decide +kernel
theorem dX8_isLetter_0 : decode cX8_isLetter 0 = .ok (.iload_n 0, 1) := by decide +kernel
theorem dX8_isLetter_1 : decode cX8_isLetter 1 = .ok (.bipush 97, 2) := by decide +kernel
theorem dX8_isLetter_3 : decode cX8_isLetter 3 = .ok (.bipush 122, 2) := by decide +kernel
theorem dX8_isLetter_5 : decode cX8_isLetter 5 = .ok (.invokestatic 84, 3) := by decide +kernel
theorem dX8_isLetter_8 : decode cX8_isLetter 8 = .ok (.ireturn, 1) := by decide +kernel
theorem dX8_isFigure_0 : decode cX8_isFigure 0 = .ok (.iload_n 0, 1) := by decide +kernel
theorem dX8_isFigure_1 : decode cX8_isFigure 1 = .ok (.bipush 48, 2) := by decide +kernel
theorem dX8_isFigure_3 : decode cX8_isFigure 3 = .ok (.bipush 57, 2) := by decide +kernel
theorem dX8_isFigure_5 : decode cX8_isFigure 5 = .ok (.invokestatic 84, 3) := by decide +kernel
theorem dX8_isFigure_8 : decode cX8_isFigure 8 = .ok (.ireturn, 1) := by decide +kernel
theorem dX8_wordSize_0 : decode cX8_wordSize 0 = .ok (.iconst 0, 1) := by decide +kernel
theorem dX8_wordSize_1 : decode cX8_wordSize 1 = .ok (.istore_n 1, 1) := by decide +kernel
theorem dX8_wordSize_2 : decode cX8_wordSize 2 = .ok (.aload_n 0, 1) := by decide +kernel
theorem dX8_wordSize_3 : decode cX8_wordSize 3 = .ok (.getfield 109, 3) := by decide +kernel
theorem dX8_wordSize_6 : decode cX8_wordSize 6 = .ok (.iload_n 1, 1) := by decide +kernel
theorem dX8_wordSize_7 : decode cX8_wordSize 7 = .ok (.iadd, 1) := by decide +kernel
theorem dX8_wordSize_8 : decode cX8_wordSize 8 = .ok (.aload_n 0, 1) := by decide +kernel
theorem dX8_wordSize_9 : decode cX8_wordSize 9 = .ok (.getfield 106, 3) := by decide +kernel
theorem dX8_wordSize_12 : decode cX8_wordSize 12 = .ok (.if_icmp .ge 26, 3) := by decide +kernel
theorem dX8_wordSize_15 : decode cX8_wordSize 15 = .ok (.aload_n 0, 1) := by decide +kernel
theorem dX8_wordSize_16 : decode cX8_wordSize 16 = .ok (.getfield 32, 3) := by decide +kernel
theorem dX8_wordSize_19 : decode cX8_wordSize 19 = .ok (.aload_n 0, 1) := by decide +kernel
theorem dX8_wordSize_20 : decode cX8_wordSize 20 = .ok (.getfield 109, 3) := by decide +kernel
theorem dX8_wordSize_23 : decode cX8_wordSize 23 = .ok (.iload_n 1, 1) := by decide +kernel
theorem dX8_wordSize_24 : decode cX8_wordSize 24 = .ok (.iadd, 1) := by decide +kernel
theorem dX8_wordSize_25 : decode cX8_wordSize 25 = .ok (.iaload, 1) := by decide +kernel
theorem dX8_wordSize_26 : decode cX8_wordSize 26 = .ok (.invokestatic 115, 3) := by decide +kernel
theorem dX8_wordSize_29 : decode cX8_wordSize 29 = .ok (.ifCond .eq 9, 3) := by decide +kernel
theorem dX8_wordSize_32 : decode cX8_wordSize 32 = .ok (.iinc 1 1, 3) := by decide +kernel
theorem dX8_wordSize_35 : decode cX8_wordSize 35 = .ok (.goto (-33), 3) := by decide +kernel
theorem dX8_wordSize_38 : decode cX8_wordSize 38 = .ok (.iload_n 1, 1) := by decide +kernel
theorem dX8_wordSize_39 : decode cX8_wordSize 39 = .ok (.ireturn, 1) := by decide +kernel
theorem dX8_letter_0 : decode cX8_letter 0 = .ok (.aload_n 0, 1) := by decide +kernel
theorem dX8_letter_1 : decode cX8_letter 1 = .ok (.getfield 32, 3) := by decide +kernel
theorem dX8_letter_4 : decode cX8_letter 4 = .ok (.aload_n 0, 1) := by decide +kernel
theorem dX8_letter_5 : decode cX8_letter 5 = .ok (.getfield 109, 3) := by decide +kernel
theorem dX8_letter_8 : decode cX8_letter 8 = .ok (.iload_n 1, 1) := by decide +kernel
theorem dX8_letter_9 : decode cX8_letter 9 = .ok (.iadd, 1) := by decide +kernel
theorem dX8_letter_10 : decode cX8_letter 10 = .ok (.iaload, 1) := by decide +kernel
theorem dX8_letter_11 : decode cX8_letter 11 = .ok (.ireturn, 1) := by decide +kernel
theorem dX8_wordHere_0 : decode cX8_wordHere 0 = .ok (.aload_n 0, 1) := by decide +kernel
theorem dX8_wordHere_1 : decode cX8_wordHere 1 = .ok (.invokevirtual 118, 3) := by decide +kernel
theorem dX8_wordHere_4 : decode cX8_wordHere 4 = .ok (.istore_n 1, 1) := by decide +kernel
theorem dX8_wordHere_5 : decode cX8_wordHere 5 = .ok (.iload_n 1, 1) := by decide +kernel
theorem dX8_wordHere_6 : decode cX8_wordHere 6 = .ok (.iconst 4, 1) := by decide +kernel
theorem dX8_wordHere_7 : decode cX8_wordHere 7 = .ok (.if_icmp .ne 45, 3) := by decide +kernel
theorem dX8_wordHere_10 : decode cX8_wordHere 10 = .ok (.aload_n 0, 1) := by decide +kernel
theorem dX8_wordHere_11 : decode cX8_wordHere 11 = .ok (.iconst 0, 1) := by decide +kernel
theorem dX8_wordHere_12 : decode cX8_wordHere 12 = .ok (.invokevirtual 121, 3) := by decide +kernel
theorem dX8_wordHere_15 : decode cX8_wordHere 15 = .ok (.bipush 102, 2) := by decide +kernel
theorem dX8_wordHere_17 : decode cX8_wordHere 17 = .ok (.if_icmp .ne 35, 3) := by decide +kernel
theorem dX8_wordHere_20 : decode cX8_wordHere 20 = .ok (.aload_n 0, 1) := by decide +kernel
theorem dX8_wordHere_21 : decode cX8_wordHere 21 = .ok (.iconst 1, 1) := by decide +kernel
theorem dX8_wordHere_22 : decode cX8_wordHere 22 = .ok (.invokevirtual 121, 3) := by decide +kernel
theorem dX8_wordHere_25 : decode cX8_wordHere 25 = .ok (.bipush 97, 2) := by decide +kernel
theorem dX8_wordHere_27 : decode cX8_wordHere 27 = .ok (.if_icmp .ne 25, 3) := by decide +kernel
theorem dX8_wordHere_30 : decode cX8_wordHere 30 = .ok (.aload_n 0, 1) := by decide +kernel
theorem dX8_wordHere_31 : decode cX8_wordHere 31 = .ok (.iconst 2, 1) := by decide +kernel
theorem dX8_wordHere_32 : decode cX8_wordHere 32 = .ok (.invokevirtual 121, 3) := by decide +kernel
theorem dX8_wordHere_35 : decode cX8_wordHere 35 = .ok (.bipush 105, 2) := by decide +kernel
theorem dX8_wordHere_37 : decode cX8_wordHere 37 = .ok (.if_icmp .ne 15, 3) := by decide +kernel
theorem dX8_wordHere_40 : decode cX8_wordHere 40 = .ok (.aload_n 0, 1) := by decide +kernel
theorem dX8_wordHere_41 : decode cX8_wordHere 41 = .ok (.iconst 3, 1) := by decide +kernel
theorem dX8_wordHere_42 : decode cX8_wordHere 42 = .ok (.invokevirtual 121, 3) := by decide +kernel
theorem dX8_wordHere_45 : decode cX8_wordHere 45 = .ok (.bipush 114, 2) := by decide +kernel
theorem dX8_wordHere_47 : decode cX8_wordHere 47 = .ok (.if_icmp .ne 5, 3) := by decide +kernel
theorem dX8_wordHere_50 : decode cX8_wordHere 50 = .ok (.iconst 0, 1) := by decide +kernel
theorem dX8_wordHere_51 : decode cX8_wordHere 51 = .ok (.ireturn, 1) := by decide +kernel
theorem dX8_wordHere_52 : decode cX8_wordHere 52 = .ok (.iload_n 1, 1) := by decide +kernel
theorem dX8_wordHere_53 : decode cX8_wordHere 53 = .ok (.iconst 4, 1) := by decide +kernel
theorem dX8_wordHere_54 : decode cX8_wordHere 54 = .ok (.if_icmp .ne 45, 3) := by decide +kernel
theorem dX8_wordHere_57 : decode cX8_wordHere 57 = .ok (.aload_n 0, 1) := by decide +kernel
theorem dX8_wordHere_58 : decode cX8_wordHere 58 = .ok (.iconst 0, 1) := by decide +kernel
theorem dX8_wordHere_59 : decode cX8_wordHere 59 = .ok (.invokevirtual 121, 3) := by decide +kernel
theorem dX8_wordHere_62 : decode cX8_wordHere 62 = .ok (.bipush 99, 2) := by decide +kernel
theorem dX8_wordHere_64 : decode cX8_wordHere 64 = .ok (.if_icmp .ne 35, 3) := by decide +kernel
theorem dX8_wordHere_67 : decode cX8_wordHere 67 = .ok (.aload_n 0, 1) := by decide +kernel
theorem dX8_wordHere_68 : decode cX8_wordHere 68 = .ok (.iconst 1, 1) := by decide +kernel
theorem dX8_wordHere_69 : decode cX8_wordHere 69 = .ok (.invokevirtual 121, 3) := by decide +kernel
theorem dX8_wordHere_72 : decode cX8_wordHere 72 = .ok (.bipush 97, 2) := by decide +kernel
theorem dX8_wordHere_74 : decode cX8_wordHere 74 = .ok (.if_icmp .ne 25, 3) := by decide +kernel
theorem dX8_wordHere_77 : decode cX8_wordHere 77 = .ok (.aload_n 0, 1) := by decide +kernel
theorem dX8_wordHere_78 : decode cX8_wordHere 78 = .ok (.iconst 2, 1) := by decide +kernel
theorem dX8_wordHere_79 : decode cX8_wordHere 79 = .ok (.invokevirtual 121, 3) := by decide +kernel
theorem dX8_wordHere_82 : decode cX8_wordHere 82 = .ok (.bipush 115, 2) := by decide +kernel
theorem dX8_wordHere_84 : decode cX8_wordHere 84 = .ok (.if_icmp .ne 15, 3) := by decide +kernel
theorem dX8_wordHere_87 : decode cX8_wordHere 87 = .ok (.aload_n 0, 1) := by decide +kernel
theorem dX8_wordHere_88 : decode cX8_wordHere 88 = .ok (.iconst 3, 1) := by decide +kernel
theorem dX8_wordHere_89 : decode cX8_wordHere 89 = .ok (.invokevirtual 121, 3) := by decide +kernel
theorem dX8_wordHere_92 : decode cX8_wordHere 92 = .ok (.bipush 101, 2) := by decide +kernel
theorem dX8_wordHere_94 : decode cX8_wordHere 94 = .ok (.if_icmp .ne 5, 3) := by decide +kernel
theorem dX8_wordHere_97 : decode cX8_wordHere 97 = .ok (.iconst 1, 1) := by decide +kernel
theorem dX8_wordHere_98 : decode cX8_wordHere 98 = .ok (.ireturn, 1) := by decide +kernel
theorem dX8_wordHere_99 : decode cX8_wordHere 99 = .ok (.iload_n 1, 1) := by decide +kernel
theorem dX8_wordHere_100 : decode cX8_wordHere 100 = .ok (.bipush 8, 2) := by decide +kernel
theorem dX8_wordHere_102 : decode cX8_wordHere 102 = .ok (.if_icmp .ne 47, 3) := by decide +kernel
theorem dX8_wordHere_105 : decode cX8_wordHere 105 = .ok (.aload_n 0, 1) := by decide +kernel
theorem dX8_wordHere_106 : decode cX8_wordHere 106 = .ok (.iconst 0, 1) := by decide +kernel
theorem dX8_wordHere_107 : decode cX8_wordHere 107 = .ok (.invokevirtual 121, 3) := by decide +kernel
theorem dX8_wordHere_110 : decode cX8_wordHere 110 = .ok (.bipush 113, 2) := by decide +kernel
theorem dX8_wordHere_112 : decode cX8_wordHere 112 = .ok (.if_icmp .ne 37, 3) := by decide +kernel
theorem dX8_wordHere_115 : decode cX8_wordHere 115 = .ok (.aload_n 0, 1) := by decide +kernel
theorem dX8_wordHere_116 : decode cX8_wordHere 116 = .ok (.iconst 1, 1) := by decide +kernel
theorem dX8_wordHere_117 : decode cX8_wordHere 117 = .ok (.invokevirtual 121, 3) := by decide +kernel
theorem dX8_wordHere_120 : decode cX8_wordHere 120 = .ok (.bipush 117, 2) := by decide +kernel
theorem dX8_wordHere_122 : decode cX8_wordHere 122 = .ok (.if_icmp .ne 27, 3) := by decide +kernel
theorem dX8_wordHere_125 : decode cX8_wordHere 125 = .ok (.aload_n 0, 1) := by decide +kernel
theorem dX8_wordHere_126 : decode cX8_wordHere 126 = .ok (.iconst 2, 1) := by decide +kernel
theorem dX8_wordHere_127 : decode cX8_wordHere 127 = .ok (.invokevirtual 121, 3) := by decide +kernel
theorem dX8_wordHere_130 : decode cX8_wordHere 130 = .ok (.bipush 101, 2) := by decide +kernel
theorem dX8_wordHere_132 : decode cX8_wordHere 132 = .ok (.if_icmp .ne 17, 3) := by decide +kernel
theorem dX8_wordHere_135 : decode cX8_wordHere 135 = .ok (.aload_n 0, 1) := by decide +kernel
theorem dX8_wordHere_136 : decode cX8_wordHere 136 = .ok (.iconst 3, 1) := by decide +kernel
theorem dX8_wordHere_137 : decode cX8_wordHere 137 = .ok (.invokevirtual 121, 3) := by decide +kernel
theorem dX8_wordHere_140 : decode cX8_wordHere 140 = .ok (.bipush 115, 2) := by decide +kernel
theorem dX8_wordHere_142 : decode cX8_wordHere 142 = .ok (.if_icmp .ne 7, 3) := by decide +kernel
theorem dX8_wordHere_145 : decode cX8_wordHere 145 = .ok (.iconst 1, 1) := by decide +kernel
theorem dX8_wordHere_146 : decode cX8_wordHere 146 = .ok (.goto 4, 3) := by decide +kernel
theorem dX8_wordHere_149 : decode cX8_wordHere 149 = .ok (.iconst 0, 1) := by decide +kernel
theorem dX8_wordHere_150 : decode cX8_wordHere 150 = .ok (.istore_n 2, 1) := by decide +kernel
theorem dX8_wordHere_151 : decode cX8_wordHere 151 = .ok (.iload_n 2, 1) := by decide +kernel
theorem dX8_wordHere_152 : decode cX8_wordHere 152 = .ok (.ifCond .eq 49, 3) := by decide +kernel
theorem dX8_wordHere_155 : decode cX8_wordHere 155 = .ok (.aload_n 0, 1) := by decide +kernel
theorem dX8_wordHere_156 : decode cX8_wordHere 156 = .ok (.iconst 4, 1) := by decide +kernel
theorem dX8_wordHere_157 : decode cX8_wordHere 157 = .ok (.invokevirtual 121, 3) := by decide +kernel
theorem dX8_wordHere_160 : decode cX8_wordHere 160 = .ok (.bipush 116, 2) := by decide +kernel
theorem dX8_wordHere_162 : decode cX8_wordHere 162 = .ok (.if_icmp .ne 39, 3) := by decide +kernel
theorem dX8_wordHere_165 : decode cX8_wordHere 165 = .ok (.aload_n 0, 1) := by decide +kernel
theorem dX8_wordHere_166 : decode cX8_wordHere 166 = .ok (.iconst 5, 1) := by decide +kernel
theorem dX8_wordHere_167 : decode cX8_wordHere 167 = .ok (.invokevirtual 121, 3) := by decide +kernel
theorem dX8_wordHere_170 : decode cX8_wordHere 170 = .ok (.bipush 105, 2) := by decide +kernel
theorem dX8_wordHere_172 : decode cX8_wordHere 172 = .ok (.if_icmp .ne 29, 3) := by decide +kernel
theorem dX8_wordHere_175 : decode cX8_wordHere 175 = .ok (.aload_n 0, 1) := by decide +kernel
theorem dX8_wordHere_176 : decode cX8_wordHere 176 = .ok (.bipush 6, 2) := by decide +kernel
theorem dX8_wordHere_178 : decode cX8_wordHere 178 = .ok (.invokevirtual 121, 3) := by decide +kernel
theorem dX8_wordHere_181 : decode cX8_wordHere 181 = .ok (.bipush 111, 2) := by decide +kernel
theorem dX8_wordHere_183 : decode cX8_wordHere 183 = .ok (.if_icmp .ne 18, 3) := by decide +kernel
theorem dX8_wordHere_186 : decode cX8_wordHere 186 = .ok (.aload_n 0, 1) := by decide +kernel
theorem dX8_wordHere_187 : decode cX8_wordHere 187 = .ok (.bipush 7, 2) := by decide +kernel
theorem dX8_wordHere_189 : decode cX8_wordHere 189 = .ok (.invokevirtual 121, 3) := by decide +kernel
theorem dX8_wordHere_192 : decode cX8_wordHere 192 = .ok (.bipush 110, 2) := by decide +kernel
theorem dX8_wordHere_194 : decode cX8_wordHere 194 = .ok (.if_icmp .ne 7, 3) := by decide +kernel
theorem dX8_wordHere_197 : decode cX8_wordHere 197 = .ok (.iconst 2, 1) := by decide +kernel
theorem dX8_wordHere_198 : decode cX8_wordHere 198 = .ok (.goto 4, 3) := by decide +kernel
theorem dX8_wordHere_201 : decode cX8_wordHere 201 = .ok (.iconst (-1), 1) := by decide +kernel
theorem dX8_wordHere_202 : decode cX8_wordHere 202 = .ok (.ireturn, 1) := by decide +kernel
theorem dX8_number_0 : decode cX8_number 0 = .ok (.aload_n 0, 1) := by decide +kernel
theorem dX8_number_1 : decode cX8_number 1 = .ok (.invokevirtual 125, 3) := by decide +kernel
theorem dX8_number_4 : decode cX8_number 4 = .ok (.iconst 0, 1) := by decide +kernel
theorem dX8_number_5 : decode cX8_number 5 = .ok (.istore_n 3, 1) := by decide +kernel
theorem dX8_number_6 : decode cX8_number 6 = .ok (.iconst 0, 1) := by decide +kernel
theorem dX8_number_7 : decode cX8_number 7 = .ok (.istore 4, 2) := by decide +kernel
theorem dX8_number_9 : decode cX8_number 9 = .ok (.aload_n 0, 1) := by decide +kernel
theorem dX8_number_10 : decode cX8_number 10 = .ok (.getfield 109, 3) := by decide +kernel
theorem dX8_number_13 : decode cX8_number 13 = .ok (.iload_n 3, 1) := by decide +kernel
theorem dX8_number_14 : decode cX8_number 14 = .ok (.iadd, 1) := by decide +kernel
theorem dX8_number_15 : decode cX8_number 15 = .ok (.aload_n 0, 1) := by decide +kernel
theorem dX8_number_16 : decode cX8_number 16 = .ok (.getfield 106, 3) := by decide +kernel
theorem dX8_number_19 : decode cX8_number 19 = .ok (.if_icmp .ge 58, 3) := by decide +kernel
theorem dX8_number_22 : decode cX8_number 22 = .ok (.aload_n 0, 1) := by decide +kernel
theorem dX8_number_23 : decode cX8_number 23 = .ok (.getfield 32, 3) := by decide +kernel
theorem dX8_number_26 : decode cX8_number 26 = .ok (.aload_n 0, 1) := by decide +kernel
theorem dX8_number_27 : decode cX8_number 27 = .ok (.getfield 109, 3) := by decide +kernel
theorem dX8_number_30 : decode cX8_number 30 = .ok (.iload_n 3, 1) := by decide +kernel
theorem dX8_number_31 : decode cX8_number 31 = .ok (.iadd, 1) := by decide +kernel
theorem dX8_number_32 : decode cX8_number 32 = .ok (.iaload, 1) := by decide +kernel
theorem dX8_number_33 : decode cX8_number 33 = .ok (.invokestatic 128, 3) := by decide +kernel
theorem dX8_number_36 : decode cX8_number 36 = .ok (.ifCond .eq 41, 3) := by decide +kernel
theorem dX8_number_39 : decode cX8_number 39 = .ok (.iload_n 3, 1) := by decide +kernel
theorem dX8_number_40 : decode cX8_number 40 = .ok (.iconst 2, 1) := by decide +kernel
theorem dX8_number_41 : decode cX8_number 41 = .ok (.if_icmp .ge 26, 3) := by decide +kernel
theorem dX8_number_44 : decode cX8_number 44 = .ok (.bipush 10, 2) := by decide +kernel
theorem dX8_number_46 : decode cX8_number 46 = .ok (.iload 4, 2) := by decide +kernel
theorem dX8_number_48 : decode cX8_number 48 = .ok (.imul, 1) := by decide +kernel
theorem dX8_number_49 : decode cX8_number 49 = .ok (.aload_n 0, 1) := by decide +kernel
theorem dX8_number_50 : decode cX8_number 50 = .ok (.getfield 32, 3) := by decide +kernel
theorem dX8_number_53 : decode cX8_number 53 = .ok (.aload_n 0, 1) := by decide +kernel
theorem dX8_number_54 : decode cX8_number 54 = .ok (.getfield 109, 3) := by decide +kernel
theorem dX8_number_57 : decode cX8_number 57 = .ok (.iload_n 3, 1) := by decide +kernel
theorem dX8_number_58 : decode cX8_number 58 = .ok (.iadd, 1) := by decide +kernel
theorem dX8_number_59 : decode cX8_number 59 = .ok (.iaload, 1) := by decide +kernel
theorem dX8_number_60 : decode cX8_number 60 = .ok (.iadd, 1) := by decide +kernel
theorem dX8_number_61 : decode cX8_number 61 = .ok (.bipush 48, 2) := by decide +kernel
theorem dX8_number_63 : decode cX8_number 63 = .ok (.isub, 1) := by decide +kernel
theorem dX8_number_64 : decode cX8_number 64 = .ok (.goto 5, 3) := by decide +kernel
theorem dX8_number_67 : decode cX8_number 67 = .ok (.iload 4, 2) := by decide +kernel
theorem dX8_number_69 : decode cX8_number 69 = .ok (.istore 4, 2) := by decide +kernel
theorem dX8_number_71 : decode cX8_number 71 = .ok (.iinc 3 1, 3) := by decide +kernel
theorem dX8_number_74 : decode cX8_number 74 = .ok (.goto (-65), 3) := by decide +kernel
theorem dX8_number_77 : decode cX8_number 77 = .ok (.iload_n 3, 1) := by decide +kernel
theorem dX8_number_78 : decode cX8_number 78 = .ok (.iconst 1, 1) := by decide +kernel
theorem dX8_number_79 : decode cX8_number 79 = .ok (.iconst 2, 1) := by decide +kernel
theorem dX8_number_80 : decode cX8_number 80 = .ok (.invokestatic 84, 3) := by decide +kernel
theorem dX8_number_83 : decode cX8_number 83 = .ok (.ifCond .eq 13, 3) := by decide +kernel
theorem dX8_number_86 : decode cX8_number 86 = .ok (.iload 4, 2) := by decide +kernel
theorem dX8_number_88 : decode cX8_number 88 = .ok (.iload_n 1, 1) := by decide +kernel
theorem dX8_number_89 : decode cX8_number 89 = .ok (.iload_n 2, 1) := by decide +kernel
theorem dX8_number_90 : decode cX8_number 90 = .ok (.invokestatic 84, 3) := by decide +kernel
theorem dX8_number_93 : decode cX8_number 93 = .ok (.ifCond .ne 5, 3) := by decide +kernel
theorem dX8_number_96 : decode cX8_number 96 = .ok (.iconst 0, 1) := by decide +kernel
theorem dX8_number_97 : decode cX8_number 97 = .ok (.ireturn, 1) := by decide +kernel
theorem dX8_number_98 : decode cX8_number 98 = .ok (.aload_n 0, 1) := by decide +kernel
theorem dX8_number_99 : decode cX8_number 99 = .ok (.iload 4, 2) := by decide +kernel
theorem dX8_number_101 : decode cX8_number 101 = .ok (.putfield 131, 3) := by decide +kernel
theorem dX8_number_104 : decode cX8_number 104 = .ok (.aload_n 0, 1) := by decide +kernel
theorem dX8_number_105 : decode cX8_number 105 = .ok (.dup, 1) := by decide +kernel
theorem dX8_number_106 : decode cX8_number 106 = .ok (.getfield 109, 3) := by decide +kernel
theorem dX8_number_109 : decode cX8_number 109 = .ok (.iload_n 3, 1) := by decide +kernel
theorem dX8_number_110 : decode cX8_number 110 = .ok (.iadd, 1) := by decide +kernel
theorem dX8_number_111 : decode cX8_number 111 = .ok (.putfield 109, 3) := by decide +kernel
theorem dX8_number_114 : decode cX8_number 114 = .ok (.iconst 1, 1) := by decide +kernel
theorem dX8_number_115 : decode cX8_number 115 = .ok (.ireturn, 1) := by decide +kernel
theorem dX8_ends_0 : decode cX8_ends 0 = .ok (.aload_n 0, 1) := by decide +kernel
theorem dX8_ends_1 : decode cX8_ends 1 = .ok (.invokevirtual 125, 3) := by decide +kernel
theorem dX8_ends_4 : decode cX8_ends 4 = .ok (.aload_n 0, 1) := by decide +kernel
theorem dX8_ends_5 : decode cX8_ends 5 = .ok (.invokevirtual 112, 3) := by decide +kernel
theorem dX8_ends_8 : decode cX8_ends 8 = .ok (.bipush 59, 2) := by decide +kernel
theorem dX8_ends_10 : decode cX8_ends 10 = .ok (.if_icmp .eq 5, 3) := by decide +kernel
theorem dX8_ends_13 : decode cX8_ends 13 = .ok (.iconst 0, 1) := by decide +kernel
theorem dX8_ends_14 : decode cX8_ends 14 = .ok (.ireturn, 1) := by decide +kernel
theorem dX8_ends_15 : decode cX8_ends 15 = .ok (.aload_n 0, 1) := by decide +kernel
theorem dX8_ends_16 : decode cX8_ends 16 = .ok (.dup, 1) := by decide +kernel
theorem dX8_ends_17 : decode cX8_ends 17 = .ok (.getfield 109, 3) := by decide +kernel
theorem dX8_ends_20 : decode cX8_ends 20 = .ok (.iconst 1, 1) := by decide +kernel
theorem dX8_ends_21 : decode cX8_ends 21 = .ok (.iadd, 1) := by decide +kernel
theorem dX8_ends_22 : decode cX8_ends 22 = .ok (.putfield 109, 3) := by decide +kernel
theorem dX8_ends_25 : decode cX8_ends 25 = .ok (.iconst 1, 1) := by decide +kernel
theorem dX8_ends_26 : decode cX8_ends 26 = .ok (.ireturn, 1) := by decide +kernel
theorem dX8_readsCase_0 : decode cX8_readsCase 0 = .ok (.aload_n 0, 1) := by decide +kernel
theorem dX8_readsCase_1 : decode cX8_readsCase 1 = .ok (.iconst 0, 1) := by decide +kernel
theorem dX8_readsCase_2 : decode cX8_readsCase 2 = .ok (.aload_n 0, 1) := by decide +kernel
theorem dX8_readsCase_3 : decode cX8_readsCase 3 = .ok (.getfield 134, 3) := by decide +kernel
theorem dX8_readsCase_6 : decode cX8_readsCase 6 = .ok (.iconst 1, 1) := by decide +kernel
theorem dX8_readsCase_7 : decode cX8_readsCase 7 = .ok (.isub, 1) := by decide +kernel
theorem dX8_readsCase_8 : decode cX8_readsCase 8 = .ok (.invokevirtual 137, 3) := by decide +kernel
theorem dX8_readsCase_11 : decode cX8_readsCase 11 = .ok (.ifCond .ne 5, 3) := by decide +kernel
theorem dX8_readsCase_14 : decode cX8_readsCase 14 = .ok (.iconst 0, 1) := by decide +kernel
theorem dX8_readsCase_15 : decode cX8_readsCase 15 = .ok (.ireturn, 1) := by decide +kernel
theorem dX8_readsCase_16 : decode cX8_readsCase 16 = .ok (.aload_n 0, 1) := by decide +kernel
theorem dX8_readsCase_17 : decode cX8_readsCase 17 = .ok (.getfield 131, 3) := by decide +kernel
theorem dX8_readsCase_20 : decode cX8_readsCase 20 = .ok (.istore_n 1, 1) := by decide +kernel
theorem dX8_readsCase_21 : decode cX8_readsCase 21 = .ok (.aload_n 0, 1) := by decide +kernel
theorem dX8_readsCase_22 : decode cX8_readsCase 22 = .ok (.iconst 1, 1) := by decide +kernel
theorem dX8_readsCase_23 : decode cX8_readsCase 23 = .ok (.bipush 9, 2) := by decide +kernel
theorem dX8_readsCase_25 : decode cX8_readsCase 25 = .ok (.invokevirtual 137, 3) := by decide +kernel
theorem dX8_readsCase_28 : decode cX8_readsCase 28 = .ok (.ifCond .ne 5, 3) := by decide +kernel
theorem dX8_readsCase_31 : decode cX8_readsCase 31 = .ok (.iconst 0, 1) := by decide +kernel
theorem dX8_readsCase_32 : decode cX8_readsCase 32 = .ok (.ireturn, 1) := by decide +kernel
theorem dX8_readsCase_33 : decode cX8_readsCase 33 = .ok (.aload_n 0, 1) := by decide +kernel
theorem dX8_readsCase_34 : decode cX8_readsCase 34 = .ok (.getfield 35, 3) := by decide +kernel
theorem dX8_readsCase_37 : decode cX8_readsCase 37 = .ok (.iload_n 1, 1) := by decide +kernel
theorem dX8_readsCase_38 : decode cX8_readsCase 38 = .ok (.aload_n 0, 1) := by decide +kernel
theorem dX8_readsCase_39 : decode cX8_readsCase 39 = .ok (.getfield 131, 3) := by decide +kernel
theorem dX8_readsCase_42 : decode cX8_readsCase 42 = .ok (.iastore, 1) := by decide +kernel
theorem dX8_readsCase_43 : decode cX8_readsCase 43 = .ok (.aload_n 0, 1) := by decide +kernel
theorem dX8_readsCase_44 : decode cX8_readsCase 44 = .ok (.invokevirtual 141, 3) := by decide +kernel
theorem dX8_readsCase_47 : decode cX8_readsCase 47 = .ok (.ireturn, 1) := by decide +kernel
theorem dX8_readsQuestion_0 : decode cX8_readsQuestion 0 = .ok (.iconst 0, 1) := by decide +kernel
theorem dX8_readsQuestion_1 : decode cX8_readsQuestion 1 = .ok (.istore_n 1, 1) := by decide +kernel
theorem dX8_readsQuestion_2 : decode cX8_readsQuestion 2 = .ok (.iload_n 1, 1) := by decide +kernel
theorem dX8_readsQuestion_3 : decode cX8_readsQuestion 3 = .ok (.iconst 3, 1) := by decide +kernel
theorem dX8_readsQuestion_4 : decode cX8_readsQuestion 4 = .ok (.if_icmp .ge 56, 3) := by decide +kernel
theorem dX8_readsQuestion_7 : decode cX8_readsQuestion 7 = .ok (.aload_n 0, 1) := by decide +kernel
theorem dX8_readsQuestion_8 : decode cX8_readsQuestion 8 = .ok (.iconst 0, 1) := by decide +kernel
theorem dX8_readsQuestion_9 : decode cX8_readsQuestion 9 = .ok (.iload_n 1, 1) := by decide +kernel
theorem dX8_readsQuestion_10 : decode cX8_readsQuestion 10 = .ok (.ifCond .ne 7, 3) := by decide +kernel
theorem dX8_readsQuestion_13 : decode cX8_readsQuestion 13 = .ok (.iconst 5, 1) := by decide +kernel
theorem dX8_readsQuestion_14 : decode cX8_readsQuestion 14 = .ok (.goto 15, 3) := by decide +kernel
theorem dX8_readsQuestion_17 : decode cX8_readsQuestion 17 = .ok (.iload_n 1, 1) := by decide +kernel
theorem dX8_readsQuestion_18 : decode cX8_readsQuestion 18 = .ok (.iconst 1, 1) := by decide +kernel
theorem dX8_readsQuestion_19 : decode cX8_readsQuestion 19 = .ok (.if_icmp .ne 8, 3) := by decide +kernel
theorem dX8_readsQuestion_22 : decode cX8_readsQuestion 22 = .ok (.bipush 15, 2) := by decide +kernel
theorem dX8_readsQuestion_24 : decode cX8_readsQuestion 24 = .ok (.goto 5, 3) := by decide +kernel
theorem dX8_readsQuestion_27 : decode cX8_readsQuestion 27 = .ok (.bipush 99, 2) := by decide +kernel
theorem dX8_readsQuestion_29 : decode cX8_readsQuestion 29 = .ok (.invokevirtual 137, 3) := by decide +kernel
theorem dX8_readsQuestion_32 : decode cX8_readsQuestion 32 = .ok (.ifCond .ne 5, 3) := by decide +kernel
theorem dX8_readsQuestion_35 : decode cX8_readsQuestion 35 = .ok (.iconst 0, 1) := by decide +kernel
theorem dX8_readsQuestion_36 : decode cX8_readsQuestion 36 = .ok (.ireturn, 1) := by decide +kernel
theorem dX8_readsQuestion_37 : decode cX8_readsQuestion 37 = .ok (.aload_n 0, 1) := by decide +kernel
theorem dX8_readsQuestion_38 : decode cX8_readsQuestion 38 = .ok (.getfield 38, 3) := by decide +kernel
theorem dX8_readsQuestion_41 : decode cX8_readsQuestion 41 = .ok (.iconst 3, 1) := by decide +kernel
theorem dX8_readsQuestion_42 : decode cX8_readsQuestion 42 = .ok (.aload_n 0, 1) := by decide +kernel
theorem dX8_readsQuestion_43 : decode cX8_readsQuestion 43 = .ok (.getfield 145, 3) := by decide +kernel
theorem dX8_readsQuestion_46 : decode cX8_readsQuestion 46 = .ok (.imul, 1) := by decide +kernel
theorem dX8_readsQuestion_47 : decode cX8_readsQuestion 47 = .ok (.iload_n 1, 1) := by decide +kernel
theorem dX8_readsQuestion_48 : decode cX8_readsQuestion 48 = .ok (.iadd, 1) := by decide +kernel
theorem dX8_readsQuestion_49 : decode cX8_readsQuestion 49 = .ok (.aload_n 0, 1) := by decide +kernel
theorem dX8_readsQuestion_50 : decode cX8_readsQuestion 50 = .ok (.getfield 131, 3) := by decide +kernel
theorem dX8_readsQuestion_53 : decode cX8_readsQuestion 53 = .ok (.iastore, 1) := by decide +kernel
theorem dX8_readsQuestion_54 : decode cX8_readsQuestion 54 = .ok (.iinc 1 1, 3) := by decide +kernel
theorem dX8_readsQuestion_57 : decode cX8_readsQuestion 57 = .ok (.goto (-55), 3) := by decide +kernel
theorem dX8_readsQuestion_60 : decode cX8_readsQuestion 60 = .ok (.aload_n 0, 1) := by decide +kernel
theorem dX8_readsQuestion_61 : decode cX8_readsQuestion 61 = .ok (.dup, 1) := by decide +kernel
theorem dX8_readsQuestion_62 : decode cX8_readsQuestion 62 = .ok (.getfield 145, 3) := by decide +kernel
theorem dX8_readsQuestion_65 : decode cX8_readsQuestion 65 = .ok (.iconst 1, 1) := by decide +kernel
theorem dX8_readsQuestion_66 : decode cX8_readsQuestion 66 = .ok (.iadd, 1) := by decide +kernel
theorem dX8_readsQuestion_67 : decode cX8_readsQuestion 67 = .ok (.putfield 145, 3) := by decide +kernel
theorem dX8_readsQuestion_70 : decode cX8_readsQuestion 70 = .ok (.aload_n 0, 1) := by decide +kernel
theorem dX8_readsQuestion_71 : decode cX8_readsQuestion 71 = .ok (.invokevirtual 141, 3) := by decide +kernel
theorem dX8_readsQuestion_74 : decode cX8_readsQuestion 74 = .ok (.ireturn, 1) := by decide +kernel
theorem dX8_readsFirst_0 : decode cX8_readsFirst 0 = .ok (.aload_n 0, 1) := by decide +kernel
theorem dX8_readsFirst_1 : decode cX8_readsFirst 1 = .ok (.invokevirtual 125, 3) := by decide +kernel
theorem dX8_readsFirst_4 : decode cX8_readsFirst 4 = .ok (.aload_n 0, 1) := by decide +kernel
theorem dX8_readsFirst_5 : decode cX8_readsFirst 5 = .ok (.invokevirtual 148, 3) := by decide +kernel
theorem dX8_readsFirst_8 : decode cX8_readsFirst 8 = .ok (.ifCond .eq 5, 3) := by decide +kernel
theorem dX8_readsFirst_11 : decode cX8_readsFirst 11 = .ok (.iconst 0, 1) := by decide +kernel
theorem dX8_readsFirst_12 : decode cX8_readsFirst 12 = .ok (.ireturn, 1) := by decide +kernel
theorem dX8_readsFirst_13 : decode cX8_readsFirst 13 = .ok (.aload_n 0, 1) := by decide +kernel
theorem dX8_readsFirst_14 : decode cX8_readsFirst 14 = .ok (.dup, 1) := by decide +kernel
theorem dX8_readsFirst_15 : decode cX8_readsFirst 15 = .ok (.getfield 109, 3) := by decide +kernel
theorem dX8_readsFirst_18 : decode cX8_readsFirst 18 = .ok (.iconst 4, 1) := by decide +kernel
theorem dX8_readsFirst_19 : decode cX8_readsFirst 19 = .ok (.iadd, 1) := by decide +kernel
theorem dX8_readsFirst_20 : decode cX8_readsFirst 20 = .ok (.putfield 109, 3) := by decide +kernel
theorem dX8_readsFirst_23 : decode cX8_readsFirst 23 = .ok (.aload_n 0, 1) := by decide +kernel
