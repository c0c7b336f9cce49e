theorem dX6_addQuestion_68 : decode cX6_addQuestion 68 = .ok (.getfield 41, 3) := by decide +kernel
theorem dX6_addQuestion_71 : decode cX6_addQuestion 71 = .ok (.iconst 1, 1) := by decide +kernel
theorem dX6_addQuestion_72 : decode cX6_addQuestion 72 = .ok (.iadd, 1) := by decide +kernel
theorem dX6_addQuestion_73 : decode cX6_addQuestion 73 = .ok (.putfield 41, 3) := by decide +kernel
theorem dX6_addQuestion_76 : decode cX6_addQuestion 76 = .ok (.aload_n 0, 1) := by decide +kernel
theorem dX6_addQuestion_77 : decode cX6_addQuestion 77 = .ok (.iconst 0, 1) := by decide +kernel
theorem dX6_addQuestion_78 : decode cX6_addQuestion 78 = .ok (.putfield 47, 3) := by decide +kernel
theorem dX6_addQuestion_81 : decode cX6_addQuestion 81 = .ok (.return_, 1) := by decide +kernel
theorem dX6_setAlike_0 : decode cX6_setAlike 0 = .ok (.aload_n 0, 1) := by decide +kernel
theorem dX6_setAlike_1 : decode cX6_setAlike 1 = .ok (.iload_n 1, 1) := by decide +kernel
theorem dX6_setAlike_2 : decode cX6_setAlike 2 = .ok (.iload_n 2, 1) := by decide +kernel
theorem dX6_setAlike_3 : decode cX6_setAlike 3 = .ok (.invokevirtual 60, 3) := by decide +kernel
theorem dX6_setAlike_6 : decode cX6_setAlike 6 = .ok (.istore_n 3, 1) := by decide +kernel
theorem dX6_setAlike_7 : decode cX6_setAlike 7 = .ok (.iconst 0, 1) := by decide +kernel
theorem dX6_setAlike_8 : decode cX6_setAlike 8 = .ok (.istore 4, 2) := by decide +kernel
theorem dX6_setAlike_10 : decode cX6_setAlike 10 = .ok (.iconst 0, 1) := by decide +kernel
theorem dX6_setAlike_11 : decode cX6_setAlike 11 = .ok (.istore 5, 2) := by decide +kernel
theorem dX6_setAlike_13 : decode cX6_setAlike 13 = .ok (.iload 5, 2) := by decide +kernel
theorem dX6_setAlike_15 : decode cX6_setAlike 15 = .ok (.bipush 16, 2) := by decide +kernel
theorem dX6_setAlike_17 : decode cX6_setAlike 17 = .ok (.if_icmp .ge 29, 3) := by decide +kernel
theorem dX6_setAlike_20 : decode cX6_setAlike 20 = .ok (.aload_n 0, 1) := by decide +kernel
theorem dX6_setAlike_21 : decode cX6_setAlike 21 = .ok (.iload_n 1, 1) := by decide +kernel
theorem dX6_setAlike_22 : decode cX6_setAlike 22 = .ok (.iload 5, 2) := by decide +kernel
theorem dX6_setAlike_24 : decode cX6_setAlike 24 = .ok (.invokevirtual 60, 3) := by decide +kernel
theorem dX6_setAlike_27 : decode cX6_setAlike 27 = .ok (.iload_n 3, 1) := by decide +kernel
theorem dX6_setAlike_28 : decode cX6_setAlike 28 = .ok (.if_icmp .ne 12, 3) := by decide +kernel
theorem dX6_setAlike_31 : decode cX6_setAlike 31 = .ok (.iload 4, 2) := by decide +kernel
theorem dX6_setAlike_33 : decode cX6_setAlike 33 = .ok (.iconst 1, 1) := by decide +kernel
theorem dX6_setAlike_34 : decode cX6_setAlike 34 = .ok (.iload 5, 2) := by decide +kernel
theorem dX6_setAlike_36 : decode cX6_setAlike 36 = .ok (.ishl, 1) := by decide +kernel
theorem dX6_setAlike_37 : decode cX6_setAlike 37 = .ok (.ior, 1) := by decide +kernel
theorem dX6_setAlike_38 : decode cX6_setAlike 38 = .ok (.istore 4, 2) := by decide +kernel
theorem dX6_setAlike_40 : decode cX6_setAlike 40 = .ok (.iinc 5 1, 3) := by decide +kernel
theorem dX6_setAlike_43 : decode cX6_setAlike 43 = .ok (.goto (-30), 3) := by decide +kernel
theorem dX6_setAlike_46 : decode cX6_setAlike 46 = .ok (.aload_n 0, 1) := by decide +kernel
theorem dX6_setAlike_47 : decode cX6_setAlike 47 = .ok (.getfield 24, 3) := by decide +kernel
theorem dX6_setAlike_50 : decode cX6_setAlike 50 = .ok (.iload_n 1, 1) := by decide +kernel
theorem dX6_setAlike_51 : decode cX6_setAlike 51 = .ok (.bipush 16, 2) := by decide +kernel
theorem dX6_setAlike_53 : decode cX6_setAlike 53 = .ok (.imul, 1) := by decide +kernel
theorem dX6_setAlike_54 : decode cX6_setAlike 54 = .ok (.iload_n 2, 1) := by decide +kernel
theorem dX6_setAlike_55 : decode cX6_setAlike 55 = .ok (.iadd, 1) := by decide +kernel
theorem dX6_setAlike_56 : decode cX6_setAlike 56 = .ok (.iload 4, 2) := by decide +kernel
theorem dX6_setAlike_58 : decode cX6_setAlike 58 = .ok (.iastore, 1) := by decide +kernel
theorem dX6_setAlike_59 : decode cX6_setAlike 59 = .ok (.return_, 1) := by decide +kernel
theorem dX6_answerIn_0 : decode cX6_answerIn 0 = .ok (.aload_n 0, 1) := by decide +kernel
theorem dX6_answerIn_1 : decode cX6_answerIn 1 = .ok (.getfield 15, 3) := by decide +kernel
theorem dX6_answerIn_4 : decode cX6_answerIn 4 = .ok (.iload_n 1, 1) := by decide +kernel
theorem dX6_answerIn_5 : decode cX6_answerIn 5 = .ok (.iaload, 1) := by decide +kernel
theorem dX6_answerIn_6 : decode cX6_answerIn 6 = .ok (.aload_n 0, 1) := by decide +kernel
theorem dX6_answerIn_7 : decode cX6_answerIn 7 = .ok (.getfield 18, 3) := by decide +kernel
theorem dX6_answerIn_10 : decode cX6_answerIn 10 = .ok (.iload_n 1, 1) := by decide +kernel
theorem dX6_answerIn_11 : decode cX6_answerIn 11 = .ok (.iaload, 1) := by decide +kernel
theorem dX6_answerIn_12 : decode cX6_answerIn 12 = .ok (.iload_n 2, 1) := by decide +kernel
theorem dX6_answerIn_13 : decode cX6_answerIn 13 = .ok (.invokestatic 64, 3) := by decide +kernel
theorem dX6_answerIn_16 : decode cX6_answerIn 16 = .ok (.ireturn, 1) := by decide +kernel
theorem dX6_addAsked_0 : decode cX6_addAsked 0 = .ok (.aload_n 0, 1) := by decide +kernel
theorem dX6_addAsked_1 : decode cX6_addAsked 1 = .ok (.getfield 44, 3) := by decide +kernel
theorem dX6_addAsked_4 : decode cX6_addAsked 4 = .ok (.bipush 8, 2) := by decide +kernel
theorem dX6_addAsked_6 : decode cX6_addAsked 6 = .ok (.if_icmp .lt 4, 3) := by decide +kernel
theorem dX6_addAsked_9 : decode cX6_addAsked 9 = .ok (.return_, 1) := by decide +kernel
theorem dX6_addAsked_10 : decode cX6_addAsked 10 = .ok (.aload_n 0, 1) := by decide +kernel
theorem dX6_addAsked_11 : decode cX6_addAsked 11 = .ok (.getfield 27, 3) := by decide +kernel
theorem dX6_addAsked_14 : decode cX6_addAsked 14 = .ok (.aload_n 0, 1) := by decide +kernel
theorem dX6_addAsked_15 : decode cX6_addAsked 15 = .ok (.getfield 44, 3) := by decide +kernel
theorem dX6_addAsked_18 : decode cX6_addAsked 18 = .ok (.iload_n 1, 1) := by decide +kernel
theorem dX6_addAsked_19 : decode cX6_addAsked 19 = .ok (.bipush 16, 2) := by decide +kernel
theorem dX6_addAsked_21 : decode cX6_addAsked 21 = .ok (.imul, 1) := by decide +kernel
theorem dX6_addAsked_22 : decode cX6_addAsked 22 = .ok (.iload_n 2, 1) := by decide +kernel
theorem dX6_addAsked_23 : decode cX6_addAsked 23 = .ok (.iadd, 1) := by decide +kernel
theorem dX6_addAsked_24 : decode cX6_addAsked 24 = .ok (.iastore, 1) := by decide +kernel
theorem dX6_addAsked_25 : decode cX6_addAsked 25 = .ok (.aload_n 0, 1) := by decide +kernel
theorem dX6_addAsked_26 : decode cX6_addAsked 26 = .ok (.dup, 1) := by decide +kernel
theorem dX6_addAsked_27 : decode cX6_addAsked 27 = .ok (.getfield 44, 3) := by decide +kernel
theorem dX6_addAsked_30 : decode cX6_addAsked 30 = .ok (.iconst 1, 1) := by decide +kernel
theorem dX6_addAsked_31 : decode cX6_addAsked 31 = .ok (.iadd, 1) := by decide +kernel
theorem dX6_addAsked_32 : decode cX6_addAsked 32 = .ok (.putfield 44, 3) := by decide +kernel
theorem dX6_addAsked_35 : decode cX6_addAsked 35 = .ok (.aload_n 0, 1) := by decide +kernel
theorem dX6_addAsked_36 : decode cX6_addAsked 36 = .ok (.iconst (-1), 1) := by decide +kernel
theorem dX6_addAsked_37 : decode cX6_addAsked 37 = .ok (.invokevirtual 68, 3) := by decide +kernel
theorem dX6_addAsked_40 : decode cX6_addAsked 40 = .ok (.return_, 1) := by decide +kernel
theorem dX6_dropFirstAsked_0 : decode cX6_dropFirstAsked 0 = .ok (.aload_n 0, 1) := by decide +kernel
theorem dX6_dropFirstAsked_1 : decode cX6_dropFirstAsked 1 = .ok (.getfield 44, 3) := by decide +kernel
theorem dX6_dropFirstAsked_4 : decode cX6_dropFirstAsked 4 = .ok (.iconst 1, 1) := by decide +kernel
theorem dX6_dropFirstAsked_5 : decode cX6_dropFirstAsked 5 = .ok (.if_icmp .ge 4, 3) := by decide +kernel
theorem dX6_dropFirstAsked_8 : decode cX6_dropFirstAsked 8 = .ok (.return_, 1) := by decide +kernel
theorem dX6_dropFirstAsked_9 : decode cX6_dropFirstAsked 9 = .ok (.aload_n 0, 1) := by decide +kernel
theorem dX6_dropFirstAsked_10 : decode cX6_dropFirstAsked 10 = .ok (.aload_n 0, 1) := by decide +kernel
theorem dX6_dropFirstAsked_11 : decode cX6_dropFirstAsked 11 = .ok (.getfield 27, 3) := by decide +kernel
theorem dX6_dropFirstAsked_14 : decode cX6_dropFirstAsked 14 = .ok (.iconst 0, 1) := by decide +kernel
theorem dX6_dropFirstAsked_15 : decode cX6_dropFirstAsked 15 = .ok (.iaload, 1) := by decide +kernel
theorem dX6_dropFirstAsked_16 : decode cX6_dropFirstAsked 16 = .ok (.invokevirtual 68, 3) := by decide +kernel
theorem dX6_dropFirstAsked_19 : decode cX6_dropFirstAsked 19 = .ok (.aload_n 0, 1) := by decide +kernel
theorem dX6_dropFirstAsked_20 : decode cX6_dropFirstAsked 20 = .ok (.dup, 1) := by decide +kernel
theorem dX6_dropFirstAsked_21 : decode cX6_dropFirstAsked 21 = .ok (.getfield 44, 3) := by decide +kernel
theorem dX6_dropFirstAsked_24 : decode cX6_dropFirstAsked 24 = .ok (.iconst 1, 1) := by decide +kernel
theorem dX6_dropFirstAsked_25 : decode cX6_dropFirstAsked 25 = .ok (.isub, 1) := by decide +kernel
theorem dX6_dropFirstAsked_26 : decode cX6_dropFirstAsked 26 = .ok (.putfield 44, 3) := by decide +kernel
theorem dX6_dropFirstAsked_29 : decode cX6_dropFirstAsked 29 = .ok (.aload_n 0, 1) := by decide +kernel
theorem dX6_dropFirstAsked_30 : decode cX6_dropFirstAsked 30 = .ok (.getfield 27, 3) := by decide +kernel
theorem dX6_dropFirstAsked_33 : decode cX6_dropFirstAsked 33 = .ok (.iconst 1, 1) := by decide +kernel
theorem dX6_dropFirstAsked_34 : decode cX6_dropFirstAsked 34 = .ok (.aload_n 0, 1) := by decide +kernel
theorem dX6_dropFirstAsked_35 : decode cX6_dropFirstAsked 35 = .ok (.getfield 27, 3) := by decide +kernel
theorem dX6_dropFirstAsked_38 : decode cX6_dropFirstAsked 38 = .ok (.iconst 0, 1) := by decide +kernel
theorem dX6_dropFirstAsked_39 : decode cX6_dropFirstAsked 39 = .ok (.aload_n 0, 1) := by decide +kernel
theorem dX6_dropFirstAsked_40 : decode cX6_dropFirstAsked 40 = .ok (.getfield 44, 3) := by decide +kernel
theorem dX6_dropFirstAsked_43 : decode cX6_dropFirstAsked 43 = .ok (.invokestatic 50, 3) := by decide +kernel
theorem dX6_dropFirstAsked_46 : decode cX6_dropFirstAsked 46 = .ok (.return_, 1) := by decide +kernel
theorem dX6_remember_0 : decode cX6_remember 0 = .ok (.aload_n 0, 1) := by decide +kernel
theorem dX6_remember_1 : decode cX6_remember 1 = .ok (.getfield 47, 3) := by decide +kernel
theorem dX6_remember_4 : decode cX6_remember 4 = .ok (.bipush 8, 2) := by decide +kernel
theorem dX6_remember_6 : decode cX6_remember 6 = .ok (.if_icmp .lt 24, 3) := by decide +kernel
theorem dX6_remember_9 : decode cX6_remember 9 = .ok (.aload_n 0, 1) := by decide +kernel
theorem dX6_remember_10 : decode cX6_remember 10 = .ok (.getfield 30, 3) := by decide +kernel
theorem dX6_remember_13 : decode cX6_remember 13 = .ok (.iconst 1, 1) := by decide +kernel
theorem dX6_remember_14 : decode cX6_remember 14 = .ok (.aload_n 0, 1) := by decide +kernel
theorem dX6_remember_15 : decode cX6_remember 15 = .ok (.getfield 30, 3) := by decide +kernel
theorem dX6_remember_18 : decode cX6_remember 18 = .ok (.iconst 0, 1) := by decide +kernel
theorem dX6_remember_19 : decode cX6_remember 19 = .ok (.bipush 7, 2) := by decide +kernel
theorem dX6_remember_21 : decode cX6_remember 21 = .ok (.invokestatic 50, 3) := by decide +kernel
theorem dX6_remember_24 : decode cX6_remember 24 = .ok (.aload_n 0, 1) := by decide +kernel
theorem dX6_remember_25 : decode cX6_remember 25 = .ok (.bipush 7, 2) := by decide +kernel
theorem dX6_remember_27 : decode cX6_remember 27 = .ok (.putfield 47, 3) := by decide +kernel
theorem dX6_remember_30 : decode cX6_remember 30 = .ok (.aload_n 0, 1) := by decide +kernel
theorem dX6_remember_31 : decode cX6_remember 31 = .ok (.getfield 30, 3) := by decide +kernel
theorem dX6_remember_34 : decode cX6_remember 34 = .ok (.aload_n 0, 1) := by decide +kernel
theorem dX6_remember_35 : decode cX6_remember 35 = .ok (.getfield 47, 3) := by decide +kernel
theorem dX6_remember_38 : decode cX6_remember 38 = .ok (.iload_n 1, 1) := by decide +kernel
theorem dX6_remember_39 : decode cX6_remember 39 = .ok (.iastore, 1) := by decide +kernel
theorem dX6_remember_40 : decode cX6_remember 40 = .ok (.aload_n 0, 1) := by decide +kernel
theorem dX6_remember_41 : decode cX6_remember 41 = .ok (.dup, 1) := by decide +kernel
theorem dX6_remember_42 : decode cX6_remember 42 = .ok (.getfield 47, 3) := by decide +kernel
theorem dX6_remember_45 : decode cX6_remember 45 = .ok (.iconst 1, 1) := by decide +kernel
theorem dX6_remember_46 : decode cX6_remember 46 = .ok (.iadd, 1) := by decide +kernel
theorem dX6_remember_47 : decode cX6_remember 47 = .ok (.putfield 47, 3) := by decide +kernel
theorem dX6_remember_50 : decode cX6_remember 50 = .ok (.return_, 1) := by decide +kernel
theorem dX6_stepBack_0 : decode cX6_stepBack 0 = .ok (.aload_n 0, 1) := by decide +kernel
theorem dX6_stepBack_1 : decode cX6_stepBack 1 = .ok (.getfield 47, 3) := by decide +kernel
theorem dX6_stepBack_4 : decode cX6_stepBack 4 = .ok (.iconst 1, 1) := by decide +kernel
theorem dX6_stepBack_5 : decode cX6_stepBack 5 = .ok (.if_icmp .ge 4, 3) := by decide +kernel
theorem dX6_stepBack_8 : decode cX6_stepBack 8 = .ok (.return_, 1) := by decide +kernel
theorem dX6_stepBack_9 : decode cX6_stepBack 9 = .ok (.aload_n 0, 1) := by decide +kernel
theorem dX6_stepBack_10 : decode cX6_stepBack 10 = .ok (.dup, 1) := by decide +kernel
theorem dX6_stepBack_11 : decode cX6_stepBack 11 = .ok (.getfield 47, 3) := by decide +kernel
theorem dX6_stepBack_14 : decode cX6_stepBack 14 = .ok (.iconst 1, 1) := by decide +kernel
theorem dX6_stepBack_15 : decode cX6_stepBack 15 = .ok (.isub, 1) := by decide +kernel
theorem dX6_stepBack_16 : decode cX6_stepBack 16 = .ok (.putfield 47, 3) := by decide +kernel
theorem dX6_stepBack_19 : decode cX6_stepBack 19 = .ok (.aload_n 0, 1) := by decide +kernel
theorem dX6_stepBack_20 : decode cX6_stepBack 20 = .ok (.getfield 30, 3) := by decide +kernel
theorem dX6_stepBack_23 : decode cX6_stepBack 23 = .ok (.aload_n 0, 1) := by decide +kernel
theorem dX6_stepBack_24 : decode cX6_stepBack 24 = .ok (.getfield 47, 3) := by decide +kernel
theorem dX6_stepBack_27 : decode cX6_stepBack 27 = .ok (.iaload, 1) := by decide +kernel
theorem dX6_stepBack_28 : decode cX6_stepBack 28 = .ok (.istore_n 1, 1) := by decide +kernel
theorem dX6_stepBack_29 : decode cX6_stepBack 29 = .ok (.iload_n 1, 1) := by decide +kernel
theorem dX6_stepBack_30 : decode cX6_stepBack 30 = .ok (.iconst (-1), 1) := by decide +kernel
theorem dX6_stepBack_31 : decode cX6_stepBack 31 = .ok (.if_icmp .ne 20, 3) := by decide +kernel
theorem dX6_stepBack_34 : decode cX6_stepBack 34 = .ok (.aload_n 0, 1) := by decide +kernel
theorem dX6_stepBack_35 : decode cX6_stepBack 35 = .ok (.aload_n 0, 1) := by decide +kernel
theorem dX6_stepBack_36 : decode cX6_stepBack 36 = .ok (.getfield 44, 3) := by decide +kernel
theorem dX6_stepBack_39 : decode cX6_stepBack 39 = .ok (.iconst 1, 1) := by decide +kernel
theorem dX6_stepBack_40 : decode cX6_stepBack 40 = .ok (.isub, 1) := by decide +kernel
theorem dX6_stepBack_41 : decode cX6_stepBack 41 = .ok (.iconst 0, 1) := by decide +kernel
theorem dX6_stepBack_42 : decode cX6_stepBack 42 = .ok (.invokestatic 71, 3) := by decide +kernel
theorem dX6_stepBack_45 : decode cX6_stepBack 45 = .ok (.putfield 44, 3) := by decide +kernel
theorem dX6_stepBack_48 : decode cX6_stepBack 48 = .ok (.goto 46, 3) := by decide +kernel
theorem dX6_stepBack_51 : decode cX6_stepBack 51 = .ok (.aload_n 0, 1) := by decide +kernel
theorem dX6_stepBack_52 : decode cX6_stepBack 52 = .ok (.getfield 44, 3) := by decide +kernel
theorem dX6_stepBack_55 : decode cX6_stepBack 55 = .ok (.bipush 8, 2) := by decide +kernel
theorem dX6_stepBack_57 : decode cX6_stepBack 57 = .ok (.if_icmp .ge 37, 3) := by decide +kernel
theorem dX6_stepBack_60 : decode cX6_stepBack 60 = .ok (.aload_n 0, 1) := by decide +kernel
theorem dX6_stepBack_61 : decode cX6_stepBack 61 = .ok (.getfield 27, 3) := by decide +kernel
theorem dX6_stepBack_64 : decode cX6_stepBack 64 = .ok (.iconst 0, 1) := by decide +kernel
theorem dX6_stepBack_65 : decode cX6_stepBack 65 = .ok (.aload_n 0, 1) := by decide +kernel
theorem dX6_stepBack_66 : decode cX6_stepBack 66 = .ok (.getfield 27, 3) := by decide +kernel
theorem dX6_stepBack_69 : decode cX6_stepBack 69 = .ok (.iconst 1, 1) := by decide +kernel
theorem dX6_stepBack_70 : decode cX6_stepBack 70 = .ok (.aload_n 0, 1) := by decide +kernel
theorem dX6_stepBack_71 : decode cX6_stepBack 71 = .ok (.getfield 44, 3) := by decide +kernel
theorem dX6_stepBack_74 : decode cX6_stepBack 74 = .ok (.invokestatic 50, 3) := by decide +kernel
theorem dX6_stepBack_77 : decode cX6_stepBack 77 = .ok (.aload_n 0, 1) := by decide +kernel
theorem dX6_stepBack_78 : decode cX6_stepBack 78 = .ok (.getfield 27, 3) := by decide +kernel
theorem dX6_stepBack_81 : decode cX6_stepBack 81 = .ok (.iconst 0, 1) := by decide +kernel
theorem dX6_stepBack_82 : decode cX6_stepBack 82 = .ok (.iload_n 1, 1) := by decide +kernel
theorem dX6_stepBack_83 : decode cX6_stepBack 83 = .ok (.iastore, 1) := by decide +kernel
theorem dX6_stepBack_84 : decode cX6_stepBack 84 = .ok (.aload_n 0, 1) := by decide +kernel
theorem dX6_stepBack_85 : decode cX6_stepBack 85 = .ok (.dup, 1) := by decide +kernel
theorem dX6_stepBack_86 : decode cX6_stepBack 86 = .ok (.getfield 44, 3) := by decide +kernel
theorem dX6_stepBack_89 : decode cX6_stepBack 89 = .ok (.iconst 1, 1) := by decide +kernel
theorem dX6_stepBack_90 : decode cX6_stepBack 90 = .ok (.iadd, 1) := by decide +kernel
theorem dX6_stepBack_91 : decode cX6_stepBack 91 = .ok (.putfield 44, 3) := by decide +kernel
theorem dX6_stepBack_94 : decode cX6_stepBack 94 = .ok (.return_, 1) := by decide +kernel
theorem dX6_allCases_0 : decode cX6_allCases 0 = .ok (.iconst 1, 1) := by decide +kernel
theorem dX6_allCases_1 : decode cX6_allCases 1 = .ok (.aload_n 0, 1) := by decide +kernel
theorem dX6_allCases_2 : decode cX6_allCases 2 = .ok (.getfield 37, 3) := by decide +kernel
theorem dX6_allCases_5 : decode cX6_allCases 5 = .ok (.ishl, 1) := by decide +kernel
theorem dX6_allCases_6 : decode cX6_allCases 6 = .ok (.iconst 1, 1) := by decide +kernel
theorem dX6_allCases_7 : decode cX6_allCases 7 = .ok (.isub, 1) := by decide +kernel
theorem dX6_allCases_8 : decode cX6_allCases 8 = .ok (.ireturn, 1) := by decide +kernel
theorem dX6_allSets_0 : decode cX6_allSets 0 = .ok (.iconst 1, 1) := by decide +kernel
theorem dX6_allSets_1 : decode cX6_allSets 1 = .ok (.aload_n 0, 1) := by decide +kernel
theorem dX6_allSets_2 : decode cX6_allSets 2 = .ok (.getfield 41, 3) := by decide +kernel
theorem dX6_allSets_5 : decode cX6_allSets 5 = .ok (.ishl, 1) := by decide +kernel
theorem dX6_allSets_6 : decode cX6_allSets 6 = .ok (.ireturn, 1) := by decide +kernel
theorem dX6_fitting_0 : decode cX6_fitting 0 = .ok (.iconst 0, 1) := by decide +kernel
theorem dX6_fitting_1 : decode cX6_fitting 1 = .ok (.istore_n 2, 1) := by decide +kernel
theorem dX6_fitting_2 : decode cX6_fitting 2 = .ok (.iconst 0, 1) := by decide +kernel
theorem dX6_fitting_3 : decode cX6_fitting 3 = .ok (.istore_n 3, 1) := by decide +kernel
theorem dX6_fitting_4 : decode cX6_fitting 4 = .ok (.iload_n 3, 1) := by decide +kernel
theorem dX6_fitting_5 : decode cX6_fitting 5 = .ok (.aload_n 0, 1) := by decide +kernel
theorem dX6_fitting_6 : decode cX6_fitting 6 = .ok (.getfield 37, 3) := by decide +kernel
theorem dX6_fitting_9 : decode cX6_fitting 9 = .ok (.if_icmp .ge 24, 3) := by decide +kernel
theorem dX6_fitting_12 : decode cX6_fitting 12 = .ok (.aload_n 0, 1) := by decide +kernel
theorem dX6_fitting_13 : decode cX6_fitting 13 = .ok (.iload_n 3, 1) := by decide +kernel
theorem dX6_fitting_14 : decode cX6_fitting 14 = .ok (.invokevirtual 76, 3) := by decide +kernel
theorem dX6_fitting_17 : decode cX6_fitting 17 = .ok (.iload_n 1, 1) := by decide +kernel
theorem dX6_fitting_18 : decode cX6_fitting 18 = .ok (.if_icmp .gt 9, 3) := by decide +kernel
theorem dX6_fitting_21 : decode cX6_fitting 21 = .ok (.iload_n 2, 1) := by decide +kernel
theorem dX6_fitting_22 : decode cX6_fitting 22 = .ok (.iconst 1, 1) := by decide +kernel
theorem dX6_fitting_23 : decode cX6_fitting 23 = .ok (.iload_n 3, 1) := by decide +kernel
theorem dX6_fitting_24 : decode cX6_fitting 24 = .ok (.ishl, 1) := by decide +kernel
theorem dX6_fitting_25 : decode cX6_fitting 25 = .ok (.ior, 1) := by decide +kernel
theorem dX6_fitting_26 : decode cX6_fitting 26 = .ok (.istore_n 2, 1) := by decide +kernel
theorem dX6_fitting_27 : decode cX6_fitting 27 = .ok (.iinc 3 1, 3) := by decide +kernel
theorem dX6_fitting_30 : decode cX6_fitting 30 = .ok (.goto (-26), 3) := by decide +kernel
theorem dX6_fitting_33 : decode cX6_fitting 33 = .ok (.iload_n 2, 1) := by decide +kernel
theorem dX6_fitting_34 : decode cX6_fitting 34 = .ok (.ireturn, 1) := by decide +kernel
theorem dX6_misfits_0 : decode cX6_misfits 0 = .ok (.iconst 0, 1) := by decide +kernel
theorem dX6_misfits_1 : decode cX6_misfits 1 = .ok (.istore_n 2, 1) := by decide +kernel
theorem dX6_misfits_2 : decode cX6_misfits 2 = .ok (.iconst 0, 1) := by decide +kernel
theorem dX6_misfits_3 : decode cX6_misfits 3 = .ok (.istore_n 3, 1) := by decide +kernel
theorem dX6_misfits_4 : decode cX6_misfits 4 = .ok (.iload_n 3, 1) := by decide +kernel
theorem dX6_misfits_5 : decode cX6_misfits 5 = .ok (.aload_n 0, 1) := by decide +kernel
theorem dX6_misfits_6 : decode cX6_misfits 6 = .ok (.getfield 44, 3) := by decide +kernel
theorem dX6_misfits_9 : decode cX6_misfits 9 = .ok (.if_icmp .ge 38, 3) := by decide +kernel
theorem dX6_misfits_12 : decode cX6_misfits 12 = .ok (.aload_n 0, 1) := by decide +kernel
theorem dX6_misfits_13 : decode cX6_misfits 13 = .ok (.aload_n 0, 1) := by decide +kernel
theorem dX6_misfits_14 : decode cX6_misfits 14 = .ok (.getfield 27, 3) := by decide +kernel
theorem dX6_misfits_17 : decode cX6_misfits 17 = .ok (.iload_n 3, 1) := by decide +kernel
theorem dX6_misfits_18 : decode cX6_misfits 18 = .ok (.iaload, 1) := by decide +kernel
theorem dX6_misfits_19 : decode cX6_misfits 19 = .ok (.bipush 16, 2) := by decide +kernel
theorem dX6_misfits_21 : decode cX6_misfits 21 = .ok (.idiv, 1) := by decide +kernel
theorem dX6_misfits_22 : decode cX6_misfits 22 = .ok (.iload_n 1, 1) := by decide +kernel
theorem dX6_misfits_23 : decode cX6_misfits 23 = .ok (.invokevirtual 60, 3) := by decide +kernel
theorem dX6_misfits_26 : decode cX6_misfits 26 = .ok (.aload_n 0, 1) := by decide +kernel
theorem dX6_misfits_27 : decode cX6_misfits 27 = .ok (.getfield 27, 3) := by decide +kernel
theorem dX6_misfits_30 : decode cX6_misfits 30 = .ok (.iload_n 3, 1) := by decide +kernel
theorem dX6_misfits_31 : decode cX6_misfits 31 = .ok (.iaload, 1) := by decide +kernel
theorem dX6_misfits_32 : decode cX6_misfits 32 = .ok (.bipush 16, 2) := by decide +kernel
theorem dX6_misfits_34 : decode cX6_misfits 34 = .ok (.irem, 1) := by decide +kernel
theorem dX6_misfits_35 : decode cX6_misfits 35 = .ok (.if_icmp .eq 6, 3) := by decide +kernel
theorem dX6_misfits_38 : decode cX6_misfits 38 = .ok (.iinc 2 1, 3) := by decide +kernel
theorem dX6_misfits_41 : decode cX6_misfits 41 = .ok (.iinc 3 1, 3) := by decide +kernel
theorem dX6_misfits_44 : decode cX6_misfits 44 = .ok (.goto (-40), 3) := by decide +kernel
theorem dX6_misfits_47 : decode cX6_misfits 47 = .ok (.iload_n 2, 1) := by decide +kernel
theorem dX6_misfits_48 : decode cX6_misfits 48 = .ok (.ireturn, 1) := by decide +kernel
theorem dX6_behind_0 : decode cX6_behind 0 = .ok (.iload_n 3, 1) := by decide +kernel
theorem dX6_behind_1 : decode cX6_behind 1 = .ok (.istore 4, 2) := by decide +kernel
theorem dX6_behind_3 : decode cX6_behind 3 = .ok (.iconst 0, 1) := by decide +kernel
theorem dX6_behind_4 : decode cX6_behind 4 = .ok (.istore 5, 2) := by decide +kernel
theorem dX6_behind_6 : decode cX6_behind 6 = .ok (.iload 5, 2) := by decide +kernel
theorem dX6_behind_8 : decode cX6_behind 8 = .ok (.aload_n 0, 1) := by decide +kernel
theorem dX6_behind_9 : decode cX6_behind 9 = .ok (.getfield 41, 3) := by decide +kernel
theorem dX6_behind_12 : decode cX6_behind 12 = .ok (.if_icmp .ge 36, 3) := by decide +kernel
theorem dX6_behind_15 : decode cX6_behind 15 = .ok (.iload_n 1, 1) := by decide +kernel
theorem dX6_behind_16 : decode cX6_behind 16 = .ok (.iload 5, 2) := by decide +kernel
theorem dX6_behind_18 : decode cX6_behind 18 = .ok (.ishr, 1) := by decide +kernel
theorem dX6_behind_19 : decode cX6_behind 19 = .ok (.iconst 1, 1) := by decide +kernel
theorem dX6_behind_20 : decode cX6_behind 20 = .ok (.iand, 1) := by decide +kernel
theorem dX6_behind_21 : decode cX6_behind 21 = .ok (.iconst 1, 1) := by decide +kernel
theorem dX6_behind_22 : decode cX6_behind 22 = .ok (.if_icmp .ne 20, 3) := by decide +kernel
theorem dX6_behind_25 : decode cX6_behind 25 = .ok (.iload 4, 2) := by decide +kernel
theorem dX6_behind_27 : decode cX6_behind 27 = .ok (.aload_n 0, 1) := by decide +kernel
theorem dX6_behind_28 : decode cX6_behind 28 = .ok (.getfield 24, 3) := by decide +kernel
theorem dX6_behind_31 : decode cX6_behind 31 = .ok (.iload 5, 2) := by decide +kernel
theorem dX6_behind_33 : decode cX6_behind 33 = .ok (.bipush 16, 2) := by decide +kernel
theorem dX6_behind_35 : decode cX6_behind 35 = .ok (.imul, 1) := by decide +kernel
theorem dX6_behind_36 : decode cX6_behind 36 = .ok (.iload_n 2, 1) := by decide +kernel
theorem dX6_behind_37 : decode cX6_behind 37 = .ok (.iadd, 1) := by decide +kernel
theorem dX6_behind_38 : decode cX6_behind 38 = .ok (.iaload, 1) := by decide +kernel
theorem dX6_behind_39 : decode cX6_behind 39 = .ok (.iand, 1) := by decide +kernel
theorem dX6_behind_40 : decode cX6_behind 40 = .ok (.istore 4, 2) := by decide +kernel
theorem dX6_behind_42 : decode cX6_behind 42 = .ok (.iinc 5 1, 3) := by decide +kernel
theorem dX6_behind_45 : decode cX6_behind 45 = .ok (.goto (-39), 3) := by decide +kernel
theorem dX6_behind_48 : decode cX6_behind 48 = .ok (.iload 4, 2) := by decide +kernel
theorem dX6_behind_50 : decode cX6_behind 50 = .ok (.ireturn, 1) := by decide +kernel
theorem dX6_greatestPart_0 : decode cX6_greatestPart 0 = .ok (.iconst 0, 1) := by decide +kernel
theorem dX6_greatestPart_1 : decode cX6_greatestPart 1 = .ok (.istore_n 3, 1) := by decide +kernel
theorem dX6_greatestPart_2 : decode cX6_greatestPart 2 = .ok (.iconst 0, 1) := by decide +kernel
theorem dX6_greatestPart_3 : decode cX6_greatestPart 3 = .ok (.istore 4, 2) := by decide +kernel
theorem dX6_greatestPart_5 : decode cX6_greatestPart 5 = .ok (.iload 4, 2) := by decide +kernel
theorem dX6_greatestPart_7 : decode cX6_greatestPart 7 = .ok (.aload_n 0, 1) := by decide +kernel
theorem dX6_greatestPart_8 : decode cX6_greatestPart 8 = .ok (.getfield 37, 3) := by decide +kernel
theorem dX6_greatestPart_11 : decode cX6_greatestPart 11 = .ok (.if_icmp .ge 41, 3) := by decide +kernel
theorem dX6_greatestPart_14 : decode cX6_greatestPart 14 = .ok (.iload_n 2, 1) := by decide +kernel
theorem dX6_greatestPart_15 : decode cX6_greatestPart 15 = .ok (.iload 4, 2) := by decide +kernel
theorem dX6_greatestPart_17 : decode cX6_greatestPart 17 = .ok (.ishr, 1) := by decide +kernel
theorem dX6_greatestPart_18 : decode cX6_greatestPart 18 = .ok (.iconst 1, 1) := by decide +kernel
theorem dX6_greatestPart_19 : decode cX6_greatestPart 19 = .ok (.iand, 1) := by decide +kernel
theorem dX6_greatestPart_20 : decode cX6_greatestPart 20 = .ok (.iconst 1, 1) := by decide +kernel
theorem dX6_greatestPart_21 : decode cX6_greatestPart 21 = .ok (.if_icmp .ne 25, 3) := by decide +kernel
theorem dX6_greatestPart_24 : decode cX6_greatestPart 24 = .ok (.iload_n 3, 1) := by decide +kernel
theorem dX6_greatestPart_25 : decode cX6_greatestPart 25 = .ok (.iload_n 2, 1) := by decide +kernel
theorem dX6_greatestPart_26 : decode cX6_greatestPart 26 = .ok (.aload_n 0, 1) := by decide +kernel
theorem dX6_greatestPart_27 : decode cX6_greatestPart 27 = .ok (.getfield 24, 3) := by decide +kernel
theorem dX6_greatestPart_30 : decode cX6_greatestPart 30 = .ok (.iload_n 1, 1) := by decide +kernel
theorem dX6_greatestPart_31 : decode cX6_greatestPart 31 = .ok (.bipush 16, 2) := by decide +kernel
theorem dX6_greatestPart_33 : decode cX6_greatestPart 33 = .ok (.imul, 1) := by decide +kernel
theorem dX6_greatestPart_34 : decode cX6_greatestPart 34 = .ok (.iload 4, 2) := by decide +kernel
theorem dX6_greatestPart_36 : decode cX6_greatestPart 36 = .ok (.iadd, 1) := by decide +kernel
theorem dX6_greatestPart_37 : decode cX6_greatestPart 37 = .ok (.iaload, 1) := by decide +kernel
theorem dX6_greatestPart_38 : decode cX6_greatestPart 38 = .ok (.iand, 1) := by decide +kernel
theorem dX6_greatestPart_39 : decode cX6_greatestPart 39 = .ok (.invokestatic 80, 3) := by decide +kernel
theorem dX6_greatestPart_42 : decode cX6_greatestPart 42 = .ok (.invokestatic 71, 3) := by decide +kernel
theorem dX6_greatestPart_45 : decode cX6_greatestPart 45 = .ok (.istore_n 3, 1) := by decide +kernel
theorem dX6_greatestPart_46 : decode cX6_greatestPart 46 = .ok (.iinc 4 1, 3) := by decide +kernel
theorem dX6_greatestPart_49 : decode cX6_greatestPart 49 = .ok (.goto (-44), 3) := by decide +kernel
theorem dX6_greatestPart_52 : decode cX6_greatestPart 52 = .ok (.iload_n 3, 1) := by decide +kernel
theorem dX6_greatestPart_53 : decode cX6_greatestPart 53 = .ok (.ireturn, 1) := by decide +kernel
theorem dX6_howManyParts_0 : decode cX6_howManyParts 0 = .ok (.iconst 0, 1) := by decide +kernel
theorem dX6_howManyParts_1 : decode cX6_howManyParts 1 = .ok (.istore_n 3, 1) := by decide +kernel
theorem dX6_howManyParts_2 : decode cX6_howManyParts 2 = .ok (.iload_n 2, 1) := by decide +kernel
theorem dX6_howManyParts_3 : decode cX6_howManyParts 3 = .ok (.istore 4, 2) := by decide +kernel
theorem dX6_howManyParts_5 : decode cX6_howManyParts 5 = .ok (.iconst 0, 1) := by decide +kernel
theorem dX6_howManyParts_6 : decode cX6_howManyParts 6 = .ok (.istore 5, 2) := by decide +kernel
theorem dX6_howManyParts_8 : decode cX6_howManyParts 8 = .ok (.iload 5, 2) := by decide +kernel
theorem dX6_howManyParts_10 : decode cX6_howManyParts 10 = .ok (.aload_n 0, 1) := by decide +kernel
theorem dX6_howManyParts_11 : decode cX6_howManyParts 11 = .ok (.getfield 37, 3) := by decide +kernel
theorem dX6_howManyParts_14 : decode cX6_howManyParts 14 = .ok (.if_icmp .ge 42, 3) := by decide +kernel
theorem dX6_howManyParts_17 : decode cX6_howManyParts 17 = .ok (.iload 4, 2) := by decide +kernel
theorem dX6_howManyParts_19 : decode cX6_howManyParts 19 = .ok (.iload 5, 2) := by decide +kernel
theorem dX6_howManyParts_21 : decode cX6_howManyParts 21 = .ok (.ishr, 1) := by decide +kernel
theorem dX6_howManyParts_22 : decode cX6_howManyParts 22 = .ok (.iconst 1, 1) := by decide +kernel
theorem dX6_howManyParts_23 : decode cX6_howManyParts 23 = .ok (.iand, 1) := by decide +kernel
theorem dX6_howManyParts_24 : decode cX6_howManyParts 24 = .ok (.iconst 1, 1) := by decide +kernel
theorem dX6_howManyParts_25 : decode cX6_howManyParts 25 = .ok (.if_icmp .ne 25, 3) := by decide +kernel
theorem dX6_howManyParts_28 : decode cX6_howManyParts 28 = .ok (.iinc 3 1, 3) := by decide +kernel
theorem dX6_howManyParts_31 : decode cX6_howManyParts 31 = .ok (.iload 4, 2) := by decide +kernel
theorem dX6_howManyParts_33 : decode cX6_howManyParts 33 = .ok (.aload_n 0, 1) := by decide +kernel
theorem dX6_howManyParts_34 : decode cX6_howManyParts 34 = .ok (.getfield 24, 3) := by decide +kernel
theorem dX6_howManyParts_37 : decode cX6_howManyParts 37 = .ok (.iload_n 1, 1) := by decide +kernel
theorem dX6_howManyParts_38 : decode cX6_howManyParts 38 = .ok (.bipush 16, 2) := by decide +kernel
theorem dX6_howManyParts_40 : decode cX6_howManyParts 40 = .ok (.imul, 1) := by decide +kernel
theorem dX6_howManyParts_41 : decode cX6_howManyParts 41 = .ok (.iload 5, 2) := by decide +kernel
theorem dX6_howManyParts_43 : decode cX6_howManyParts 43 = .ok (.iadd, 1) := by decide +kernel
theorem dX6_howManyParts_44 : decode cX6_howManyParts 44 = .ok (.iaload, 1) := by decide +kernel
theorem dX6_howManyParts_45 : decode cX6_howManyParts 45 = .ok (.iconst (-1), 1) := by decide +kernel
theorem dX6_howManyParts_46 : decode cX6_howManyParts 46 = .ok (.ixor, 1) := by decide +kernel
theorem dX6_howManyParts_47 : decode cX6_howManyParts 47 = .ok (.iand, 1) := by decide +kernel
theorem dX6_howManyParts_48 : decode cX6_howManyParts 48 = .ok (.istore 4, 2) := by decide +kernel
theorem dX6_howManyParts_50 : decode cX6_howManyParts 50 = .ok (.iinc 5 1, 3) := by decide +kernel
theorem dX6_howManyParts_53 : decode cX6_howManyParts 53 = .ok (.goto (-45), 3) := by decide +kernel
theorem dX6_howManyParts_56 : decode cX6_howManyParts 56 = .ok (.iload_n 3, 1) := by decide +kernel
theorem dX6_howManyParts_57 : decode cX6_howManyParts 57 = .ok (.ireturn, 1) := by decide +kernel
theorem dX6_lightestPart_0 : decode cX6_lightestPart 0 = .ok (.iconst 0, 1) := by decide +kernel
theorem dX6_lightestPart_1 : decode cX6_lightestPart 1 = .ok (.istore_n 3, 1) := by decide +kernel
theorem dX6_lightestPart_2 : decode cX6_lightestPart 2 = .ok (.iload_n 2, 1) := by decide +kernel
theorem dX6_lightestPart_3 : decode cX6_lightestPart 3 = .ok (.istore 4, 2) := by decide +kernel
theorem dX6_lightestPart_5 : decode cX6_lightestPart 5 = .ok (.iconst 0, 1) := by decide +kernel
theorem dX6_lightestPart_6 : decode cX6_lightestPart 6 = .ok (.istore 5, 2) := by decide +kernel
theorem dX6_lightestPart_8 : decode cX6_lightestPart 8 = .ok (.iload 5, 2) := by decide +kernel
theorem dX6_lightestPart_10 : decode cX6_lightestPart 10 = .ok (.aload_n 0, 1) := by decide +kernel
theorem dX6_lightestPart_11 : decode cX6_lightestPart 11 = .ok (.getfield 37, 3) := by decide +kernel
theorem dX6_lightestPart_14 : decode cX6_lightestPart 14 = .ok (.if_icmp .ge 73, 3) := by decide +kernel
theorem dX6_lightestPart_17 : decode cX6_lightestPart 17 = .ok (.iload 4, 2) := by decide +kernel
theorem dX6_lightestPart_19 : decode cX6_lightestPart 19 = .ok (.iload 5, 2) := by decide +kernel
theorem dX6_lightestPart_21 : decode cX6_lightestPart 21 = .ok (.ishr, 1) := by decide +kernel
theorem dX6_lightestPart_22 : decode cX6_lightestPart 22 = .ok (.iconst 1, 1) := by decide +kernel
theorem dX6_lightestPart_23 : decode cX6_lightestPart 23 = .ok (.iand, 1) := by decide +kernel
theorem dX6_lightestPart_24 : decode cX6_lightestPart 24 = .ok (.iconst 1, 1) := by decide +kernel
theorem dX6_lightestPart_25 : decode cX6_lightestPart 25 = .ok (.if_icmp .ne 56, 3) := by decide +kernel
theorem dX6_lightestPart_28 : decode cX6_lightestPart 28 = .ok (.aload_n 0, 1) := by decide +kernel
theorem dX6_lightestPart_29 : decode cX6_lightestPart 29 = .ok (.iload 4, 2) := by decide +kernel
theorem dX6_lightestPart_31 : decode cX6_lightestPart 31 = .ok (.aload_n 0, 1) := by decide +kernel
theorem dX6_lightestPart_32 : decode cX6_lightestPart 32 = .ok (.getfield 24, 3) := by decide +kernel
theorem dX6_lightestPart_35 : decode cX6_lightestPart 35 = .ok (.iload_n 1, 1) := by decide +kernel
theorem dX6_lightestPart_36 : decode cX6_lightestPart 36 = .ok (.bipush 16, 2) := by decide +kernel
theorem dX6_lightestPart_38 : decode cX6_lightestPart 38 = .ok (.imul, 1) := by decide +kernel
theorem dX6_lightestPart_39 : decode cX6_lightestPart 39 = .ok (.iload 5, 2) := by decide +kernel
theorem dX6_lightestPart_41 : decode cX6_lightestPart 41 = .ok (.iadd, 1) := by decide +kernel
theorem dX6_lightestPart_42 : decode cX6_lightestPart 42 = .ok (.iaload, 1) := by decide +kernel
theorem dX6_lightestPart_43 : decode cX6_lightestPart 43 = .ok (.iand, 1) := by decide +kernel
theorem dX6_lightestPart_44 : decode cX6_lightestPart 44 = .ok (.invokevirtual 85, 3) := by decide +kernel
theorem dX6_lightestPart_47 : decode cX6_lightestPart 47 = .ok (.istore 6, 2) := by decide +kernel
theorem dX6_lightestPart_49 : decode cX6_lightestPart 49 = .ok (.iload_n 3, 1) := by decide +kernel
theorem dX6_lightestPart_50 : decode cX6_lightestPart 50 = .ok (.ifCond .eq 9, 3) := by decide +kernel
theorem dX6_lightestPart_53 : decode cX6_lightestPart 53 = .ok (.iload 6, 2) := by decide +kernel
theorem dX6_lightestPart_55 : decode cX6_lightestPart 55 = .ok (.iload_n 3, 1) := by decide +kernel
theorem dX6_lightestPart_56 : decode cX6_lightestPart 56 = .ok (.if_icmp .ge 6, 3) := by decide +kernel
theorem dX6_lightestPart_59 : decode cX6_lightestPart 59 = .ok (.iload 6, 2) := by decide +kernel
theorem dX6_lightestPart_61 : decode cX6_lightestPart 61 = .ok (.istore_n 3, 1) := by decide +kernel
theorem dX6_lightestPart_62 : decode cX6_lightestPart 62 = .ok (.iload 4, 2) := by decide +kernel
theorem dX6_lightestPart_64 : decode cX6_lightestPart 64 = .ok (.aload_n 0, 1) := by decide +kernel
theorem dX6_lightestPart_65 : decode cX6_lightestPart 65 = .ok (.getfield 24, 3) := by decide +kernel
theorem dX6_lightestPart_68 : decode cX6_lightestPart 68 = .ok (.iload_n 1, 1) := by decide +kernel
theorem dX6_lightestPart_69 : decode cX6_lightestPart 69 = .ok (.bipush 16, 2) := by decide +kernel
theorem dX6_lightestPart_71 : decode cX6_lightestPart 71 = .ok (.imul, 1) := by decide +kernel
theorem dX6_lightestPart_72 : decode cX6_lightestPart 72 = .ok (.iload 5, 2) := by decide +kernel
theorem dX6_lightestPart_74 : decode cX6_lightestPart 74 = .ok (.iadd, 1) := by decide +kernel
theorem dX6_lightestPart_75 : decode cX6_lightestPart 75 = .ok (.iaload, 1) := by decide +kernel
theorem dX6_lightestPart_76 : decode cX6_lightestPart 76 = .ok (.iconst (-1), 1) := by decide +kernel
theorem dX6_lightestPart_77 : decode cX6_lightestPart 77 = .ok (.ixor, 1) := by decide +kernel
theorem dX6_lightestPart_78 : decode cX6_lightestPart 78 = .ok (.iand, 1) := by decide +kernel
theorem dX6_lightestPart_79 : decode cX6_lightestPart 79 = .ok (.istore 4, 2) := by decide +kernel
theorem dX6_lightestPart_81 : decode cX6_lightestPart 81 = .ok (.iinc 5 1, 3) := by decide +kernel
theorem dX6_lightestPart_84 : decode cX6_lightestPart 84 = .ok (.goto (-76), 3) := by decide +kernel
theorem dX6_lightestPart_87 : decode cX6_lightestPart 87 = .ok (.iload_n 3, 1) := by decide +kernel
theorem dX6_lightestPart_88 : decode cX6_lightestPart 88 = .ok (.ireturn, 1) := by decide +kernel
theorem dX6_weightOf_0 : decode cX6_weightOf 0 = .ok (.iconst 0, 1) := by decide +kernel
theorem dX6_weightOf_1 : decode cX6_weightOf 1 = .ok (.istore_n 2, 1) := by decide +kernel
theorem dX6_weightOf_2 : decode cX6_weightOf 2 = .ok (.iconst 0, 1) := by decide +kernel
theorem dX6_weightOf_3 : decode cX6_weightOf 3 = .ok (.istore_n 3, 1) := by decide +kernel
theorem dX6_weightOf_4 : decode cX6_weightOf 4 = .ok (.iload_n 3, 1) := by decide +kernel
theorem dX6_weightOf_5 : decode cX6_weightOf 5 = .ok (.aload_n 0, 1) := by decide +kernel
theorem dX6_weightOf_6 : decode cX6_weightOf 6 = .ok (.getfield 37, 3) := by decide +kernel
theorem dX6_weightOf_9 : decode cX6_weightOf 9 = .ok (.if_icmp .ge 27, 3) := by decide +kernel
theorem dX6_weightOf_12 : decode cX6_weightOf 12 = .ok (.iload_n 1, 1) := by decide +kernel
theorem dX6_weightOf_13 : decode cX6_weightOf 13 = .ok (.iload_n 3, 1) := by decide +kernel
theorem dX6_weightOf_14 : decode cX6_weightOf 14 = .ok (.ishr, 1) := by decide +kernel
theorem dX6_weightOf_15 : decode cX6_weightOf 15 = .ok (.iconst 1, 1) := by decide +kernel
theorem dX6_weightOf_16 : decode cX6_weightOf 16 = .ok (.iand, 1) := by decide +kernel
theorem dX6_weightOf_17 : decode cX6_weightOf 17 = .ok (.iconst 1, 1) := by decide +kernel
theorem dX6_weightOf_18 : decode cX6_weightOf 18 = .ok (.if_icmp .ne 12, 3) := by decide +kernel
theorem dX6_weightOf_21 : decode cX6_weightOf 21 = .ok (.iload_n 2, 1) := by decide +kernel
theorem dX6_weightOf_22 : decode cX6_weightOf 22 = .ok (.aload_n 0, 1) := by decide +kernel
theorem dX6_weightOf_23 : decode cX6_weightOf 23 = .ok (.getfield 9, 3) := by decide +kernel
theorem dX6_weightOf_26 : decode cX6_weightOf 26 = .ok (.iload_n 3, 1) := by decide +kernel
theorem dX6_weightOf_27 : decode cX6_weightOf 27 = .ok (.iaload, 1) := by decide +kernel
theorem dX6_weightOf_28 : decode cX6_weightOf 28 = .ok (.iadd, 1) := by decide +kernel
theorem dX6_weightOf_29 : decode cX6_weightOf 29 = .ok (.istore_n 2, 1) := by decide +kernel
theorem dX6_weightOf_30 : decode cX6_weightOf 30 = .ok (.iinc 3 1, 3) := by decide +kernel
theorem dX6_weightOf_33 : decode cX6_weightOf 33 = .ok (.goto (-29), 3) := by decide +kernel
theorem dX6_weightOf_36 : decode cX6_weightOf 36 = .ok (.iload_n 2, 1) := by decide +kernel
theorem dX6_weightOf_37 : decode cX6_weightOf 37 = .ok (.ireturn, 1) := by decide +kernel
theorem dX6_partAlike_0 : decode cX6_partAlike 0 = .ok (.iconst 0, 1) := by decide +kernel
theorem dX6_partAlike_1 : decode cX6_partAlike 1 = .ok (.istore 4, 2) := by decide +kernel
theorem dX6_partAlike_3 : decode cX6_partAlike 3 = .ok (.iload 4, 2) := by decide +kernel
theorem dX6_partAlike_5 : decode cX6_partAlike 5 = .ok (.aload_n 0, 1) := by decide +kernel
theorem dX6_partAlike_6 : decode cX6_partAlike 6 = .ok (.getfield 37, 3) := by decide +kernel
theorem dX6_partAlike_9 : decode cX6_partAlike 9 = .ok (.if_icmp .ge 55, 3) := by decide +kernel
theorem dX6_partAlike_12 : decode cX6_partAlike 12 = .ok (.aload_n 0, 1) := by decide +kernel
theorem dX6_partAlike_13 : decode cX6_partAlike 13 = .ok (.getfield 24, 3) := by decide +kernel
theorem dX6_partAlike_16 : decode cX6_partAlike 16 = .ok (.iload_n 1, 1) := by decide +kernel
theorem dX6_partAlike_17 : decode cX6_partAlike 17 = .ok (.bipush 16, 2) := by decide +kernel
theorem dX6_partAlike_19 : decode cX6_partAlike 19 = .ok (.imul, 1) := by decide +kernel
theorem dX6_partAlike_20 : decode cX6_partAlike 20 = .ok (.iload 4, 2) := by decide +kernel
theorem dX6_partAlike_22 : decode cX6_partAlike 22 = .ok (.iadd, 1) := by decide +kernel
theorem dX6_partAlike_23 : decode cX6_partAlike 23 = .ok (.iaload, 1) := by decide +kernel
theorem dX6_partAlike_24 : decode cX6_partAlike 24 = .ok (.aload_n 0, 1) := by decide +kernel
theorem dX6_partAlike_25 : decode cX6_partAlike 25 = .ok (.getfield 24, 3) := by decide +kernel
theorem dX6_partAlike_28 : decode cX6_partAlike 28 = .ok (.iload_n 2, 1) := by decide +kernel
theorem dX6_partAlike_29 : decode cX6_partAlike 29 = .ok (.bipush 16, 2) := by decide +kernel
theorem dX6_partAlike_31 : decode cX6_partAlike 31 = .ok (.imul, 1) := by decide +kernel
theorem dX6_partAlike_32 : decode cX6_partAlike 32 = .ok (.iload 4, 2) := by decide +kernel
theorem dX6_partAlike_34 : decode cX6_partAlike 34 = .ok (.iadd, 1) := by decide +kernel
theorem dX6_partAlike_35 : decode cX6_partAlike 35 = .ok (.iaload, 1) := by decide +kernel
theorem dX6_partAlike_36 : decode cX6_partAlike 36 = .ok (.ixor, 1) := by decide +kernel
theorem dX6_partAlike_37 : decode cX6_partAlike 37 = .ok (.istore 5, 2) := by decide +kernel
theorem dX6_partAlike_39 : decode cX6_partAlike 39 = .ok (.iload_n 3, 1) := by decide +kernel
theorem dX6_partAlike_40 : decode cX6_partAlike 40 = .ok (.iload 4, 2) := by decide +kernel
theorem dX6_partAlike_42 : decode cX6_partAlike 42 = .ok (.ishr, 1) := by decide +kernel
theorem dX6_partAlike_43 : decode cX6_partAlike 43 = .ok (.iconst 1, 1) := by decide +kernel
theorem dX6_partAlike_44 : decode cX6_partAlike 44 = .ok (.iand, 1) := by decide +kernel
theorem dX6_partAlike_45 : decode cX6_partAlike 45 = .ok (.iconst 1, 1) := by decide +kernel
theorem dX6_partAlike_46 : decode cX6_partAlike 46 = .ok (.if_icmp .ne 12, 3) := by decide +kernel
theorem dX6_partAlike_49 : decode cX6_partAlike 49 = .ok (.iload 5, 2) := by decide +kernel
theorem dX6_partAlike_51 : decode cX6_partAlike 51 = .ok (.iload_n 3, 1) := by decide +kernel
theorem dX6_partAlike_52 : decode cX6_partAlike 52 = .ok (.iand, 1) := by decide +kernel
theorem dX6_partAlike_53 : decode cX6_partAlike 53 = .ok (.ifCond .eq 5, 3) := by decide +kernel
theorem dX6_partAlike_56 : decode cX6_partAlike 56 = .ok (.iconst 0, 1) := by decide +kernel
theorem dX6_partAlike_57 : decode cX6_partAlike 57 = .ok (.ireturn, 1) := by decide +kernel
theorem dX6_partAlike_58 : decode cX6_partAlike 58 = .ok (.iinc 4 1, 3) := by decide +kernel
theorem dX6_partAlike_61 : decode cX6_partAlike 61 = .ok (.goto (-58), 3) := by decide +kernel
theorem dX6_partAlike_64 : decode cX6_partAlike 64 = .ok (.iconst 1, 1) := by decide +kernel
theorem dX6_partAlike_65 : decode cX6_partAlike 65 = .ok (.ireturn, 1) := by decide +kernel
theorem dX6_pairsParted_0 : decode cX6_pairsParted 0 = .ok (.iconst 0, 1) := by decide +kernel
theorem dX6_pairsParted_1 : decode cX6_pairsParted 1 = .ok (.istore_n 3, 1) := by decide +kernel
theorem dX6_pairsParted_2 : decode cX6_pairsParted 2 = .ok (.iconst 0, 1) := by decide +kernel
theorem dX6_pairsParted_3 : decode cX6_pairsParted 3 = .ok (.istore 4, 2) := by decide +kernel
theorem dX6_pairsParted_5 : decode cX6_pairsParted 5 = .ok (.iload 4, 2) := by decide +kernel
theorem dX6_pairsParted_7 : decode cX6_pairsParted 7 = .ok (.aload_n 0, 1) := by decide +kernel
theorem dX6_pairsParted_8 : decode cX6_pairsParted 8 = .ok (.getfield 37, 3) := by decide +kernel
theorem dX6_pairsParted_11 : decode cX6_pairsParted 11 = .ok (.if_icmp .ge 37, 3) := by decide +kernel
theorem dX6_pairsParted_14 : decode cX6_pairsParted 14 = .ok (.iload_n 2, 1) := by decide +kernel
theorem dX6_pairsParted_15 : decode cX6_pairsParted 15 = .ok (.iload 4, 2) := by decide +kernel
theorem dX6_pairsParted_17 : decode cX6_pairsParted 17 = .ok (.ishr, 1) := by decide +kernel
theorem dX6_pairsParted_18 : decode cX6_pairsParted 18 = .ok (.iconst 1, 1) := by decide +kernel
theorem dX6_pairsParted_19 : decode cX6_pairsParted 19 = .ok (.iand, 1) := by decide +kernel
theorem dX6_pairsParted_20 : decode cX6_pairsParted 20 = .ok (.iconst 1, 1) := by decide +kernel
theorem dX6_pairsParted_21 : decode cX6_pairsParted 21 = .ok (.if_icmp .ne 21, 3) := by decide +kernel
theorem dX6_pairsParted_24 : decode cX6_pairsParted 24 = .ok (.iload_n 3, 1) := by decide +kernel
theorem dX6_pairsParted_25 : decode cX6_pairsParted 25 = .ok (.iload_n 2, 1) := by decide +kernel
theorem dX6_pairsParted_26 : decode cX6_pairsParted 26 = .ok (.aload_n 0, 1) := by decide +kernel
theorem dX6_pairsParted_27 : decode cX6_pairsParted 27 = .ok (.iload_n 1, 1) := by decide +kernel
theorem dX6_pairsParted_28 : decode cX6_pairsParted 28 = .ok (.iload 4, 2) := by decide +kernel
theorem dX6_pairsParted_30 : decode cX6_pairsParted 30 = .ok (.iload_n 2, 1) := by decide +kernel
theorem dX6_pairsParted_31 : decode cX6_pairsParted 31 = .ok (.invokevirtual 88, 3) := by decide +kernel
theorem dX6_pairsParted_34 : decode cX6_pairsParted 34 = .ok (.iconst (-1), 1) := by decide +kernel
theorem dX6_pairsParted_35 : decode cX6_pairsParted 35 = .ok (.ixor, 1) := by decide +kernel
theorem dX6_pairsParted_36 : decode cX6_pairsParted 36 = .ok (.iand, 1) := by decide +kernel
theorem dX6_pairsParted_37 : decode cX6_pairsParted 37 = .ok (.invokestatic 80, 3) := by decide +kernel
theorem dX6_pairsParted_40 : decode cX6_pairsParted 40 = .ok (.iadd, 1) := by decide +kernel
theorem dX6_pairsParted_41 : decode cX6_pairsParted 41 = .ok (.istore_n 3, 1) := by decide +kernel
theorem dX6_pairsParted_42 : decode cX6_pairsParted 42 = .ok (.iinc 4 1, 3) := by decide +kernel
theorem dX6_pairsParted_45 : decode cX6_pairsParted 45 = .ok (.goto (-40), 3) := by decide +kernel
theorem dX6_pairsParted_48 : decode cX6_pairsParted 48 = .ok (.iload_n 3, 1) := by decide +kernel
theorem dX6_pairsParted_49 : decode cX6_pairsParted 49 = .ok (.iconst 2, 1) := by decide +kernel
theorem dX6_pairsParted_50 : decode cX6_pairsParted 50 = .ok (.idiv, 1) := by decide +kernel
theorem dX6_pairsParted_51 : decode cX6_pairsParted 51 = .ok (.ireturn, 1) := by decide +kernel
theorem dX6_notYetKnown_0 : decode cX6_notYetKnown 0 = .ok (.iconst 0, 1) := by decide +kernel
theorem dX6_notYetKnown_1 : decode cX6_notYetKnown 1 = .ok (.istore_n 3, 1) := by decide +kernel
theorem dX6_notYetKnown_2 : decode cX6_notYetKnown 2 = .ok (.iconst 0, 1) := by decide +kernel
theorem dX6_notYetKnown_3 : decode cX6_notYetKnown 3 = .ok (.istore 4, 2) := by decide +kernel
theorem dX6_notYetKnown_5 : decode cX6_notYetKnown 5 = .ok (.iload 4, 2) := by decide +kernel
theorem dX6_notYetKnown_7 : decode cX6_notYetKnown 7 = .ok (.aload_n 0, 1) := by decide +kernel
theorem dX6_notYetKnown_8 : decode cX6_notYetKnown 8 = .ok (.getfield 37, 3) := by decide +kernel
theorem dX6_notYetKnown_11 : decode cX6_notYetKnown 11 = .ok (.if_icmp .ge 41, 3) := by decide +kernel
theorem dX6_notYetKnown_14 : decode cX6_notYetKnown 14 = .ok (.iload_n 2, 1) := by decide +kernel
theorem dX6_notYetKnown_15 : decode cX6_notYetKnown 15 = .ok (.iload 4, 2) := by decide +kernel
theorem dX6_notYetKnown_17 : decode cX6_notYetKnown 17 = .ok (.ishr, 1) := by decide +kernel
theorem dX6_notYetKnown_18 : decode cX6_notYetKnown 18 = .ok (.iconst 1, 1) := by decide +kernel
theorem dX6_notYetKnown_19 : decode cX6_notYetKnown 19 = .ok (.iand, 1) := by decide +kernel
theorem dX6_notYetKnown_20 : decode cX6_notYetKnown 20 = .ok (.iconst 1, 1) := by decide +kernel
theorem dX6_notYetKnown_21 : decode cX6_notYetKnown 21 = .ok (.if_icmp .ne 25, 3) := by decide +kernel
theorem dX6_notYetKnown_24 : decode cX6_notYetKnown 24 = .ok (.aload_n 0, 1) := by decide +kernel
theorem dX6_notYetKnown_25 : decode cX6_notYetKnown 25 = .ok (.iload_n 1, 1) := by decide +kernel
theorem dX6_notYetKnown_26 : decode cX6_notYetKnown 26 = .ok (.iload 4, 2) := by decide +kernel
theorem dX6_notYetKnown_28 : decode cX6_notYetKnown 28 = .ok (.iload_n 2, 1) := by decide +kernel
theorem dX6_notYetKnown_29 : decode cX6_notYetKnown 29 = .ok (.invokevirtual 88, 3) := by decide +kernel
theorem dX6_notYetKnown_32 : decode cX6_notYetKnown 32 = .ok (.iconst 1, 1) := by decide +kernel
theorem dX6_notYetKnown_33 : decode cX6_notYetKnown 33 = .ok (.iload 4, 2) := by decide +kernel
theorem dX6_notYetKnown_35 : decode cX6_notYetKnown 35 = .ok (.ishl, 1) := by decide +kernel
theorem dX6_notYetKnown_36 : decode cX6_notYetKnown 36 = .ok (.if_icmp .eq 10, 3) := by decide +kernel
theorem dX6_notYetKnown_39 : decode cX6_notYetKnown 39 = .ok (.iload_n 3, 1) := by decide +kernel
theorem dX6_notYetKnown_40 : decode cX6_notYetKnown 40 = .ok (.iconst 1, 1) := by decide +kernel
theorem dX6_notYetKnown_41 : decode cX6_notYetKnown 41 = .ok (.iload 4, 2) := by decide +kernel
theorem dX6_notYetKnown_43 : decode cX6_notYetKnown 43 = .ok (.ishl, 1) := by decide +kernel
theorem dX6_notYetKnown_44 : decode cX6_notYetKnown 44 = .ok (.ior, 1) := by decide +kernel
theorem dX6_notYetKnown_45 : decode cX6_notYetKnown 45 = .ok (.istore_n 3, 1) := by decide +kernel
theorem dX6_notYetKnown_46 : decode cX6_notYetKnown 46 = .ok (.iinc 4 1, 3) := by decide +kernel
theorem dX6_notYetKnown_49 : decode cX6_notYetKnown 49 = .ok (.goto (-44), 3) := by decide +kernel
theorem dX6_notYetKnown_52 : decode cX6_notYetKnown 52 = .ok (.iload_n 3, 1) := by decide +kernel
theorem dX6_notYetKnown_53 : decode cX6_notYetKnown 53 = .ok (.ireturn, 1) := by decide +kernel
theorem dX6_penceOf_0 : decode cX6_penceOf 0 = .ok (.iconst 0, 1) := by decide +kernel
theorem dX6_penceOf_1 : decode cX6_penceOf 1 = .ok (.istore_n 2, 1) := by decide +kernel
theorem dX6_penceOf_2 : decode cX6_penceOf 2 = .ok (.iconst 0, 1) := by decide +kernel
theorem dX6_penceOf_3 : decode cX6_penceOf 3 = .ok (.istore_n 3, 1) := by decide +kernel
theorem dX6_penceOf_4 : decode cX6_penceOf 4 = .ok (.iload_n 3, 1) := by decide +kernel
theorem dX6_penceOf_5 : decode cX6_penceOf 5 = .ok (.aload_n 0, 1) := by decide +kernel
theorem dX6_penceOf_6 : decode cX6_penceOf 6 = .ok (.getfield 41, 3) := by decide +kernel
theorem dX6_penceOf_9 : decode cX6_penceOf 9 = .ok (.if_icmp .ge 27, 3) := by decide +kernel
theorem dX6_penceOf_12 : decode cX6_penceOf 12 = .ok (.iload_n 1, 1) := by decide +kernel
theorem dX6_penceOf_13 : decode cX6_penceOf 13 = .ok (.iload_n 3, 1) := by decide +kernel
theorem dX6_penceOf_14 : decode cX6_penceOf 14 = .ok (.ishr, 1) := by decide +kernel
theorem dX6_penceOf_15 : decode cX6_penceOf 15 = .ok (.iconst 1, 1) := by decide +kernel
theorem dX6_penceOf_16 : decode cX6_penceOf 16 = .ok (.iand, 1) := by decide +kernel
theorem dX6_penceOf_17 : decode cX6_penceOf 17 = .ok (.iconst 1, 1) := by decide +kernel
theorem dX6_penceOf_18 : decode cX6_penceOf 18 = .ok (.if_icmp .ne 12, 3) := by decide +kernel
theorem dX6_penceOf_21 : decode cX6_penceOf 21 = .ok (.iload_n 2, 1) := by decide +kernel
theorem dX6_penceOf_22 : decode cX6_penceOf 22 = .ok (.aload_n 0, 1) := by decide +kernel
theorem dX6_penceOf_23 : decode cX6_penceOf 23 = .ok (.getfield 21, 3) := by decide +kernel
theorem dX6_penceOf_26 : decode cX6_penceOf 26 = .ok (.iload_n 3, 1) := by decide +kernel
theorem dX6_penceOf_27 : decode cX6_penceOf 27 = .ok (.iaload, 1) := by decide +kernel
theorem dX6_penceOf_28 : decode cX6_penceOf 28 = .ok (.iadd, 1) := by decide +kernel
theorem dX6_penceOf_29 : decode cX6_penceOf 29 = .ok (.istore_n 2, 1) := by decide +kernel
theorem dX6_penceOf_30 : decode cX6_penceOf 30 = .ok (.iinc 3 1, 3) := by decide +kernel
theorem dX6_penceOf_33 : decode cX6_penceOf 33 = .ok (.goto (-29), 3) := by decide +kernel
theorem dX6_penceOf_36 : decode cX6_penceOf 36 = .ok (.iload_n 2, 1) := by decide +kernel
theorem dX6_penceOf_37 : decode cX6_penceOf 37 = .ok (.ireturn, 1) := by decide +kernel
theorem dX6_mixInto_0 : decode cX6_mixInto 0 = .ok (.lload_n 1, 1) := by decide +kernel
theorem dX6_mixInto_1 : decode cX6_mixInto 1 = .ok (.lstore_n 3, 1) := by decide +kernel
theorem dX6_mixInto_2 : decode cX6_mixInto 2 = .ok (.iconst 0, 1) := by decide +kernel
theorem dX6_mixInto_3 : decode cX6_mixInto 3 = .ok (.istore 5, 2) := by decide +kernel
theorem dX6_mixInto_5 : decode cX6_mixInto 5 = .ok (.iload 5, 2) := by decide +kernel
theorem dX6_mixInto_7 : decode cX6_mixInto 7 = .ok (.aload_n 0, 1) := by decide +kernel
theorem dX6_mixInto_8 : decode cX6_mixInto 8 = .ok (.getfield 37, 3) := by decide +kernel
theorem dX6_mixInto_11 : decode cX6_mixInto 11 = .ok (.if_icmp .ge 24, 3) := by decide +kernel
theorem dX6_mixInto_14 : decode cX6_mixInto 14 = .ok (.ldc2_w 91, 3) := by decide +kernel
theorem dX6_mixInto_17 : decode cX6_mixInto 17 = .ok (.lload_n 3, 1) := by decide +kernel
theorem dX6_mixInto_18 : decode cX6_mixInto 18 = .ok (.lmul, 1) := by decide +kernel
theorem dX6_mixInto_19 : decode cX6_mixInto 19 = .ok (.aload_n 0, 1) := by decide +kernel
theorem dX6_mixInto_20 : decode cX6_mixInto 20 = .ok (.getfield 9, 3) := by decide +kernel
theorem dX6_mixInto_23 : decode cX6_mixInto 23 = .ok (.iload 5, 2) := by decide +kernel
theorem dX6_mixInto_25 : decode cX6_mixInto 25 = .ok (.iaload, 1) := by decide +kernel
theorem dX6_mixInto_26 : decode cX6_mixInto 26 = .ok (.i2l, 1) := by decide +kernel
theorem dX6_mixInto_27 : decode cX6_mixInto 27 = .ok (.ladd, 1) := by decide +kernel
theorem dX6_mixInto_28 : decode cX6_mixInto 28 = .ok (.lstore_n 3, 1) := by decide +kernel
theorem dX6_mixInto_29 : decode cX6_mixInto 29 = .ok (.iinc 5 1, 3) := by decide +kernel
theorem dX6_mixInto_32 : decode cX6_mixInto 32 = .ok (.goto (-27), 3) := by decide +kernel
theorem dX6_mixInto_35 : decode cX6_mixInto 35 = .ok (.iconst 0, 1) := by decide +kernel
theorem dX6_mixInto_36 : decode cX6_mixInto 36 = .ok (.istore 5, 2) := by decide +kernel
theorem dX6_mixInto_38 : decode cX6_mixInto 38 = .ok (.iload 5, 2) := by decide +kernel
theorem dX6_mixInto_40 : decode cX6_mixInto 40 = .ok (.aload_n 0, 1) := by decide +kernel
theorem dX6_mixInto_41 : decode cX6_mixInto 41 = .ok (.getfield 41, 3) := by decide +kernel
theorem dX6_mixInto_44 : decode cX6_mixInto 44 = .ok (.if_icmp .ge 54, 3) := by decide +kernel
theorem dX6_mixInto_47 : decode cX6_mixInto 47 = .ok (.ldc2_w 91, 3) := by decide +kernel
theorem dX6_mixInto_50 : decode cX6_mixInto 50 = .ok (.lload_n 3, 1) := by decide +kernel
theorem dX6_mixInto_51 : decode cX6_mixInto 51 = .ok (.lmul, 1) := by decide +kernel
theorem dX6_mixInto_52 : decode cX6_mixInto 52 = .ok (.aload_n 0, 1) := by decide +kernel
theorem dX6_mixInto_53 : decode cX6_mixInto 53 = .ok (.getfield 15, 3) := by decide +kernel
theorem dX6_mixInto_56 : decode cX6_mixInto 56 = .ok (.iload 5, 2) := by decide +kernel
theorem dX6_mixInto_58 : decode cX6_mixInto 58 = .ok (.iaload, 1) := by decide +kernel
theorem dX6_mixInto_59 : decode cX6_mixInto 59 = .ok (.i2l, 1) := by decide +kernel
theorem dX6_mixInto_60 : decode cX6_mixInto 60 = .ok (.ladd, 1) := by decide +kernel
theorem dX6_mixInto_61 : decode cX6_mixInto 61 = .ok (.lstore_n 3, 1) := by decide +kernel
theorem dX6_mixInto_62 : decode cX6_mixInto 62 = .ok (.ldc2_w 91, 3) := by decide +kernel
theorem dX6_mixInto_65 : decode cX6_mixInto 65 = .ok (.lload_n 3, 1) := by decide +kernel
theorem dX6_mixInto_66 : decode cX6_mixInto 66 = .ok (.lmul, 1) := by decide +kernel
theorem dX6_mixInto_67 : decode cX6_mixInto 67 = .ok (.aload_n 0, 1) := by decide +kernel
theorem dX6_mixInto_68 : decode cX6_mixInto 68 = .ok (.getfield 18, 3) := by decide +kernel
theorem dX6_mixInto_71 : decode cX6_mixInto 71 = .ok (.iload 5, 2) := by decide +kernel
theorem dX6_mixInto_73 : decode cX6_mixInto 73 = .ok (.iaload, 1) := by decide +kernel
theorem dX6_mixInto_74 : decode cX6_mixInto 74 = .ok (.i2l, 1) := by decide +kernel
theorem dX6_mixInto_75 : decode cX6_mixInto 75 = .ok (.ladd, 1) := by decide +kernel
theorem dX6_mixInto_76 : decode cX6_mixInto 76 = .ok (.lstore_n 3, 1) := by decide +kernel
theorem dX6_mixInto_77 : decode cX6_mixInto 77 = .ok (.ldc2_w 91, 3) := by decide +kernel
theorem dX6_mixInto_80 : decode cX6_mixInto 80 = .ok (.lload_n 3, 1) := by decide +kernel
theorem dX6_mixInto_81 : decode cX6_mixInto 81 = .ok (.lmul, 1) := by decide +kernel
theorem dX6_mixInto_82 : decode cX6_mixInto 82 = .ok (.aload_n 0, 1) := by decide +kernel
theorem dX6_mixInto_83 : decode cX6_mixInto 83 = .ok (.getfield 21, 3) := by decide +kernel
theorem dX6_mixInto_86 : decode cX6_mixInto 86 = .ok (.iload 5, 2) := by decide +kernel
theorem dX6_mixInto_88 : decode cX6_mixInto 88 = .ok (.iaload, 1) := by decide +kernel
theorem dX6_mixInto_89 : decode cX6_mixInto 89 = .ok (.i2l, 1) := by decide +kernel
theorem dX6_mixInto_90 : decode cX6_mixInto 90 = .ok (.ladd, 1) := by decide +kernel
theorem dX6_mixInto_91 : decode cX6_mixInto 91 = .ok (.lstore_n 3, 1) := by decide +kernel
theorem dX6_mixInto_92 : decode cX6_mixInto 92 = .ok (.iinc 5 1, 3) := by decide +kernel
theorem dX6_mixInto_95 : decode cX6_mixInto 95 = .ok (.goto (-57), 3) := by decide +kernel
theorem dX6_mixInto_98 : decode cX6_mixInto 98 = .ok (.iconst 0, 1) := by decide +kernel
theorem dX6_mixInto_99 : decode cX6_mixInto 99 = .ok (.istore 5, 2) := by decide +kernel
theorem dX6_mixInto_101 : decode cX6_mixInto 101 = .ok (.iload 5, 2) := by decide +kernel
theorem dX6_mixInto_103 : decode cX6_mixInto 103 = .ok (.aload_n 0, 1) := by decide +kernel
theorem dX6_mixInto_104 : decode cX6_mixInto 104 = .ok (.getfield 44, 3) := by decide +kernel
theorem dX6_mixInto_107 : decode cX6_mixInto 107 = .ok (.if_icmp .ge 45, 3) := by decide +kernel
theorem dX6_mixInto_110 : decode cX6_mixInto 110 = .ok (.ldc2_w 91, 3) := by decide +kernel
theorem dX6_mixInto_113 : decode cX6_mixInto 113 = .ok (.lload_n 3, 1) := by decide +kernel
theorem dX6_mixInto_114 : decode cX6_mixInto 114 = .ok (.lmul, 1) := by decide +kernel
theorem dX6_mixInto_115 : decode cX6_mixInto 115 = .ok (.aload_n 0, 1) := by decide +kernel
theorem dX6_mixInto_116 : decode cX6_mixInto 116 = .ok (.getfield 27, 3) := by decide +kernel
theorem dX6_mixInto_119 : decode cX6_mixInto 119 = .ok (.iload 5, 2) := by decide +kernel
theorem dX6_mixInto_121 : decode cX6_mixInto 121 = .ok (.iaload, 1) := by decide +kernel
theorem dX6_mixInto_122 : decode cX6_mixInto 122 = .ok (.bipush 16, 2) := by decide +kernel
theorem dX6_mixInto_124 : decode cX6_mixInto 124 = .ok (.idiv, 1) := by decide +kernel
theorem dX6_mixInto_125 : decode cX6_mixInto 125 = .ok (.i2l, 1) := by decide +kernel
theorem dX6_mixInto_126 : decode cX6_mixInto 126 = .ok (.ladd, 1) := by decide +kernel
theorem dX6_mixInto_127 : decode cX6_mixInto 127 = .ok (.lstore_n 3, 1) := by decide +kernel
theorem dX6_mixInto_128 : decode cX6_mixInto 128 = .ok (.ldc2_w 91, 3) := by decide +kernel
theorem dX6_mixInto_131 : decode cX6_mixInto 131 = .ok (.lload_n 3, 1) := by decide +kernel
theorem dX6_mixInto_132 : decode cX6_mixInto 132 = .ok (.lmul, 1) := by decide +kernel
theorem dX6_mixInto_133 : decode cX6_mixInto 133 = .ok (.aload_n 0, 1) := by decide +kernel
theorem dX6_mixInto_134 : decode cX6_mixInto 134 = .ok (.getfield 27, 3) := by decide +kernel
theorem dX6_mixInto_137 : decode cX6_mixInto 137 = .ok (.iload 5, 2) := by decide +kernel
theorem dX6_mixInto_139 : decode cX6_mixInto 139 = .ok (.iaload, 1) := by decide +kernel
theorem dX6_mixInto_140 : decode cX6_mixInto 140 = .ok (.bipush 16, 2) := by decide +kernel
theorem dX6_mixInto_142 : decode cX6_mixInto 142 = .ok (.irem, 1) := by decide +kernel
theorem dX6_mixInto_143 : decode cX6_mixInto 143 = .ok (.i2l, 1) := by decide +kernel
theorem dX6_mixInto_144 : decode cX6_mixInto 144 = .ok (.ladd, 1) := by decide +kernel
theorem dX6_mixInto_145 : decode cX6_mixInto 145 = .ok (.lstore_n 3, 1) := by decide +kernel
theorem dX6_mixInto_146 : decode cX6_mixInto 146 = .ok (.iinc 5 1, 3) := by decide +kernel
theorem dX6_mixInto_149 : decode cX6_mixInto 149 = .ok (.goto (-48), 3) := by decide +kernel
theorem dX6_mixInto_152 : decode cX6_mixInto 152 = .ok (.lload_n 3, 1) := by decide +kernel
theorem dX6_mixInto_153 : decode cX6_mixInto 153 = .ok (.lreturn, 1) := by decide +kernel
theorem dX7_init_0 : decode cX7_init 0 = .ok (.aload_n 0, 1) := by decide +kernel
theorem dX7_init_1 : decode cX7_init 1 = .ok (.invokespecial 1, 3) := by decide +kernel
theorem dX7_init_4 : decode cX7_init 4 = .ok (.aload_n 0, 1) := by decide +kernel
theorem dX7_init_5 : decode cX7_init 5 = .ok (.new 7, 3) := by decide +kernel
theorem dX7_init_8 : decode cX7_init 8 = .ok (.dup, 1) := by decide +kernel
theorem dX7_init_9 : decode cX7_init 9 = .ok (.invokespecial 9, 3) := by decide +kernel
theorem dX7_init_12 : decode cX7_init 12 = .ok (.putfield 10, 3) := by decide +kernel
theorem dX7_init_15 : decode cX7_init 15 = .ok (.aload_n 0, 1) := by decide +kernel
theorem dX7_init_16 : decode cX7_init 16 = .ok (.new 7, 3) := by decide +kernel
theorem dX7_init_19 : decode cX7_init 19 = .ok (.dup, 1) := by decide +kernel
theorem dX7_init_20 : decode cX7_init 20 = .ok (.invokespecial 9, 3) := by decide +kernel
theorem dX7_init_23 : decode cX7_init 23 = .ok (.putfield 16, 3) := by decide +kernel
theorem dX7_init_26 : decode cX7_init 26 = .ok (.aload_n 0, 1) := by decide +kernel
theorem dX7_init_27 : decode cX7_init 27 = .ok (.new 7, 3) := by decide +kernel
theorem dX7_init_30 : decode cX7_init 30 = .ok (.dup, 1) := by decide +kernel
theorem dX7_init_31 : decode cX7_init 31 = .ok (.invokespecial 9, 3) := by decide +kernel
theorem dX7_init_34 : decode cX7_init 34 = .ok (.putfield 19, 3) := by decide +kernel
theorem dX7_init_37 : decode cX7_init 37 = .ok (.aload_n 0, 1) := by decide +kernel
theorem dX7_init_38 : decode cX7_init 38 = .ok (.iconst 2, 1) := by decide +kernel
theorem dX7_init_39 : decode cX7_init 39 = .ok (.newarray .boolean, 2) := by decide +kernel
theorem dX7_init_41 : decode cX7_init 41 = .ok (.putfield 22, 3) := by decide +kernel
theorem dX7_init_44 : decode cX7_init 44 = .ok (.aload_n 0, 1) := by decide +kernel
theorem dX7_init_45 : decode cX7_init 45 = .ok (.new 26, 3) := by decide +kernel
theorem dX7_init_48 : decode cX7_init 48 = .ok (.dup, 1) := by decide +kernel
theorem dX7_init_49 : decode cX7_init 49 = .ok (.invokespecial 28, 3) := by decide +kernel
theorem dX7_init_52 : decode cX7_init 52 = .ok (.putfield 29, 3) := by decide +kernel
theorem dX7_init_55 : decode cX7_init 55 = .ok (.aload_n 0, 1) := by decide +kernel
theorem dX7_init_56 : decode cX7_init 56 = .ok (.new 33, 3) := by decide +kernel
theorem dX7_init_59 : decode cX7_init 59 = .ok (.dup, 1) := by decide +kernel
theorem dX7_init_60 : decode cX7_init 60 = .ok (.invokespecial 35, 3) := by decide +kernel
theorem dX7_init_63 : decode cX7_init 63 = .ok (.putfield 36, 3) := by decide +kernel
theorem dX7_init_66 : decode cX7_init 66 = .ok (.aload_n 0, 1) := by decide +kernel
theorem dX7_init_67 : decode cX7_init 67 = .ok (.iconst 3, 1) := by decide +kernel
theorem dX7_init_68 : decode cX7_init 68 = .ok (.newarray .int, 2) := by decide +kernel
theorem dX7_init_70 : decode cX7_init 70 = .ok (.putfield 40, 3) := by decide +kernel
theorem dX7_init_73 : decode cX7_init 73 = .ok (.aload_n 0, 1) := by decide +kernel
theorem dX7_init_74 : decode cX7_init 74 = .ok (.new 44, 3) := by decide +kernel
theorem dX7_init_77 : decode cX7_init 77 = .ok (.dup, 1) := by decide +kernel
theorem dX7_init_78 : decode cX7_init 78 = .ok (.invokespecial 46, 3) := by decide +kernel
theorem dX7_init_81 : decode cX7_init 81 = .ok (.putfield 47, 3) := by decide +kernel
theorem dX7_init_84 : decode cX7_init 84 = .ok (.aload_n 0, 1) := by decide +kernel
theorem dX7_init_85 : decode cX7_init 85 = .ok (.new 44, 3) := by decide +kernel
theorem dX7_init_88 : decode cX7_init 88 = .ok (.dup, 1) := by decide +kernel
theorem dX7_init_89 : decode cX7_init 89 = .ok (.invokespecial 46, 3) := by decide +kernel
theorem dX7_init_92 : decode cX7_init 92 = .ok (.putfield 51, 3) := by decide +kernel
theorem dX7_init_95 : decode cX7_init 95 = .ok (.aload_n 0, 1) := by decide +kernel
theorem dX7_init_96 : decode cX7_init 96 = .ok (.new 54, 3) := by decide +kernel
theorem dX7_init_99 : decode cX7_init 99 = .ok (.dup, 1) := by decide +kernel
theorem dX7_init_100 : decode cX7_init 100 = .ok (.invokespecial 56, 3) := by decide +kernel
theorem dX7_init_103 : decode cX7_init 103 = .ok (.putfield 57, 3) := by decide +kernel
theorem dX7_init_106 : decode cX7_init 106 = .ok (.aload_n 0, 1) := by decide +kernel
theorem dX7_init_107 : decode cX7_init 107 = .ok (.new 61, 3) := by decide +kernel
theorem dX7_init_110 : decode cX7_init 110 = .ok (.dup, 1) := by decide +kernel
theorem dX7_init_111 : decode cX7_init 111 = .ok (.invokespecial 63, 3) := by decide +kernel
theorem dX7_init_114 : decode cX7_init 114 = .ok (.putfield 64, 3) := by decide +kernel
theorem dX7_init_117 : decode cX7_init 117 = .ok (.aload_n 0, 1) := by decide +kernel
theorem dX7_init_118 : decode cX7_init 118 = .ok (.new 68, 3) := by decide +kernel
theorem dX7_init_121 : decode cX7_init 121 = .ok (.dup, 1) := by decide +kernel
theorem dX7_init_122 : decode cX7_init 122 = .ok (.invokespecial 70, 3) := by decide +kernel
theorem dX7_init_125 : decode cX7_init 125 = .ok (.putfield 71, 3) := by decide +kernel
theorem dX7_init_128 : decode cX7_init 128 = .ok (.return_, 1) := by decide +kernel
theorem dX7_fair_0 : decode cX7_fair 0 = .ok (.iload_n 1, 1) := by decide +kernel
theorem dX7_fair_1 : decode cX7_fair 1 = .ok (.iconst 1, 1) := by decide +kernel
theorem dX7_fair_2 : decode cX7_fair 2 = .ok (.bipush 16, 2) := by decide +kernel
theorem dX7_fair_4 : decode cX7_fair 4 = .ok (.invokestatic 75, 3) := by decide +kernel
theorem dX7_fair_7 : decode cX7_fair 7 = .ok (.ifCond .ne 12, 3) := by decide +kernel
theorem dX7_fair_10 : decode cX7_fair 10 = .ok (.aload_n 0, 1) := by decide +kernel
theorem dX7_fair_11 : decode cX7_fair 11 = .ok (.bipush (-2), 2) := by decide +kernel
theorem dX7_fair_13 : decode cX7_fair 13 = .ok (.bipush (-2), 2) := by decide +kernel
theorem dX7_fair_15 : decode cX7_fair 15 = .ok (.invokevirtual 79, 3) := by decide +kernel
theorem dX7_fair_18 : decode cX7_fair 18 = .ok (.ireturn, 1) := by decide +kernel
theorem dX7_fair_19 : decode cX7_fair 19 = .ok (.aload_n 0, 1) := by decide +kernel
theorem dX7_fair_20 : decode cX7_fair 20 = .ok (.getfield 10, 3) := by decide +kernel
theorem dX7_fair_23 : decode cX7_fair 23 = .ok (.getfield 83, 3) := by decide +kernel
theorem dX7_fair_26 : decode cX7_fair 26 = .ok (.istore_n 2, 1) := by decide +kernel
theorem dX7_fair_27 : decode cX7_fair 27 = .ok (.aload_n 0, 1) := by decide +kernel
theorem dX7_fair_28 : decode cX7_fair 28 = .ok (.getfield 10, 3) := by decide +kernel
theorem dX7_fair_31 : decode cX7_fair 31 = .ok (.iload_n 1, 1) := by decide +kernel
theorem dX7_fair_32 : decode cX7_fair 32 = .ok (.invokevirtual 87, 3) := by decide +kernel
theorem dX7_fair_35 : decode cX7_fair 35 = .ok (.iload_n 2, 1) := by decide +kernel
theorem dX7_fair_36 : decode cX7_fair 36 = .ok (.ireturn, 1) := by decide +kernel
theorem dX7_weigh_0 : decode cX7_weigh 0 = .ok (.aload_n 0, 1) := by decide +kernel
theorem dX7_weigh_1 : decode cX7_weigh 1 = .ok (.iload_n 1, 1) := by decide +kernel
theorem dX7_weigh_2 : decode cX7_weigh 2 = .ok (.invokevirtual 91, 3) := by decide +kernel
theorem dX7_weigh_5 : decode cX7_weigh 5 = .ok (.ifCond .eq 13, 3) := by decide +kernel
theorem dX7_weigh_8 : decode cX7_weigh 8 = .ok (.iload_n 2, 1) := by decide +kernel
theorem dX7_weigh_9 : decode cX7_weigh 9 = .ok (.iconst 1, 1) := by decide +kernel
theorem dX7_weigh_10 : decode cX7_weigh 10 = .ok (.bipush 9, 2) := by decide +kernel
theorem dX7_weigh_12 : decode cX7_weigh 12 = .ok (.invokestatic 75, 3) := by decide +kernel
theorem dX7_weigh_15 : decode cX7_weigh 15 = .ok (.ifCond .ne 12, 3) := by decide +kernel
theorem dX7_weigh_18 : decode cX7_weigh 18 = .ok (.aload_n 0, 1) := by decide +kernel
theorem dX7_weigh_19 : decode cX7_weigh 19 = .ok (.bipush (-2), 2) := by decide +kernel
theorem dX7_weigh_21 : decode cX7_weigh 21 = .ok (.bipush (-2), 2) := by decide +kernel
theorem dX7_weigh_23 : decode cX7_weigh 23 = .ok (.invokevirtual 79, 3) := by decide +kernel
theorem dX7_weigh_26 : decode cX7_weigh 26 = .ok (.ireturn, 1) := by decide +kernel
theorem dX7_weigh_27 : decode cX7_weigh 27 = .ok (.aload_n 0, 1) := by decide +kernel
theorem dX7_weigh_28 : decode cX7_weigh 28 = .ok (.getfield 10, 3) := by decide +kernel
theorem dX7_weigh_31 : decode cX7_weigh 31 = .ok (.getfield 95, 3) := by decide +kernel
theorem dX7_weigh_34 : decode cX7_weigh 34 = .ok (.iload_n 1, 1) := by decide +kernel
theorem dX7_weigh_35 : decode cX7_weigh 35 = .ok (.iaload, 1) := by decide +kernel
theorem dX7_weigh_36 : decode cX7_weigh 36 = .ok (.istore_n 3, 1) := by decide +kernel
theorem dX7_weigh_37 : decode cX7_weigh 37 = .ok (.aload_n 0, 1) := by decide +kernel
theorem dX7_weigh_38 : decode cX7_weigh 38 = .ok (.getfield 10, 3) := by decide +kernel
theorem dX7_weigh_41 : decode cX7_weigh 41 = .ok (.getfield 95, 3) := by decide +kernel
theorem dX7_weigh_44 : decode cX7_weigh 44 = .ok (.iload_n 1, 1) := by decide +kernel
theorem dX7_weigh_45 : decode cX7_weigh 45 = .ok (.iload_n 2, 1) := by decide +kernel
theorem dX7_weigh_46 : decode cX7_weigh 46 = .ok (.iastore, 1) := by decide +kernel
theorem dX7_weigh_47 : decode cX7_weigh 47 = .ok (.iload_n 3, 1) := by decide +kernel
theorem dX7_weigh_48 : decode cX7_weigh 48 = .ok (.ireturn, 1) := by decide +kernel
theorem dX7_question_0 : decode cX7_question 0 = .ok (.iload_n 1, 1) := by decide +kernel
theorem dX7_question_1 : decode cX7_question 1 = .ok (.iconst 0, 1) := by decide +kernel
theorem dX7_question_2 : decode cX7_question 2 = .ok (.iconst 5, 1) := by decide +kernel
theorem dX7_question_3 : decode cX7_question 3 = .ok (.invokestatic 75, 3) := by decide +kernel
theorem dX7_question_6 : decode cX7_question 6 = .ok (.ifCond .eq 23, 3) := by decide +kernel
theorem dX7_question_9 : decode cX7_question 9 = .ok (.iload_n 2, 1) := by decide +kernel
theorem dX7_question_10 : decode cX7_question 10 = .ok (.iconst 0, 1) := by decide +kernel
theorem dX7_question_11 : decode cX7_question 11 = .ok (.bipush 15, 2) := by decide +kernel
theorem dX7_question_13 : decode cX7_question 13 = .ok (.invokestatic 75, 3) := by decide +kernel
theorem dX7_question_16 : decode cX7_question 16 = .ok (.ifCond .eq 13, 3) := by decide +kernel
theorem dX7_question_19 : decode cX7_question 19 = .ok (.iload_n 3, 1) := by decide +kernel
theorem dX7_question_20 : decode cX7_question 20 = .ok (.iconst 0, 1) := by decide +kernel
theorem dX7_question_21 : decode cX7_question 21 = .ok (.bipush 99, 2) := by decide +kernel
theorem dX7_question_23 : decode cX7_question 23 = .ok (.invokestatic 75, 3) := by decide +kernel
theorem dX7_question_26 : decode cX7_question 26 = .ok (.ifCond .ne 12, 3) := by decide +kernel
theorem dX7_question_29 : decode cX7_question 29 = .ok (.aload_n 0, 1) := by decide +kernel
theorem dX7_question_30 : decode cX7_question 30 = .ok (.bipush (-2), 2) := by decide +kernel
theorem dX7_question_32 : decode cX7_question 32 = .ok (.bipush (-2), 2) := by decide +kernel
theorem dX7_question_34 : decode cX7_question 34 = .ok (.invokevirtual 79, 3) := by decide +kernel
theorem dX7_question_37 : decode cX7_question 37 = .ok (.ireturn, 1) := by decide +kernel
theorem dX7_question_38 : decode cX7_question 38 = .ok (.aload_n 0, 1) := by decide +kernel
theorem dX7_question_39 : decode cX7_question 39 = .ok (.getfield 10, 3) := by decide +kernel
theorem dX7_question_42 : decode cX7_question 42 = .ok (.getfield 83, 3) := by decide +kernel
theorem dX7_question_45 : decode cX7_question 45 = .ok (.bipush 7, 2) := by decide +kernel
theorem dX7_question_47 : decode cX7_question 47 = .ok (.if_icmp .lt 12, 3) := by decide +kernel
theorem dX7_question_50 : decode cX7_question 50 = .ok (.aload_n 0, 1) := by decide +kernel
theorem dX7_question_51 : decode cX7_question 51 = .ok (.bipush (-4), 2) := by decide +kernel
theorem dX7_question_53 : decode cX7_question 53 = .ok (.bipush (-4), 2) := by decide +kernel
theorem dX7_question_55 : decode cX7_question 55 = .ok (.invokevirtual 79, 3) := by decide +kernel
theorem dX7_question_58 : decode cX7_question 58 = .ok (.ireturn, 1) := by decide +kernel
theorem dX7_question_59 : decode cX7_question 59 = .ok (.aload_n 0, 1) := by decide +kernel
theorem dX7_question_60 : decode cX7_question 60 = .ok (.getfield 10, 3) := by decide +kernel
theorem dX7_question_63 : decode cX7_question 63 = .ok (.iload_n 1, 1) := by decide +kernel
theorem dX7_question_64 : decode cX7_question 64 = .ok (.iload_n 2, 1) := by decide +kernel
theorem dX7_question_65 : decode cX7_question 65 = .ok (.iload_n 3, 1) := by decide +kernel
theorem dX7_question_66 : decode cX7_question 66 = .ok (.invokevirtual 98, 3) := by decide +kernel
theorem dX7_question_69 : decode cX7_question 69 = .ok (.aload_n 0, 1) := by decide +kernel
theorem dX7_question_70 : decode cX7_question 70 = .ok (.getfield 10, 3) := by decide +kernel
theorem dX7_question_73 : decode cX7_question 73 = .ok (.getfield 83, 3) := by decide +kernel
theorem dX7_question_76 : decode cX7_question 76 = .ok (.iconst 1, 1) := by decide +kernel
theorem dX7_question_77 : decode cX7_question 77 = .ok (.isub, 1) := by decide +kernel
theorem dX7_question_78 : decode cX7_question 78 = .ok (.ireturn, 1) := by decide +kernel
theorem dX7_price_0 : decode cX7_price 0 = .ok (.aload_n 0, 1) := by decide +kernel
theorem dX7_price_1 : decode cX7_price 1 = .ok (.iload_n 1, 1) := by decide +kernel
theorem dX7_price_2 : decode cX7_price 2 = .ok (.invokevirtual 102, 3) := by decide +kernel
theorem dX7_price_5 : decode cX7_price 5 = .ok (.ifCond .eq 13, 3) := by decide +kernel
theorem dX7_price_8 : decode cX7_price 8 = .ok (.iload_n 2, 1) := by decide +kernel
theorem dX7_price_9 : decode cX7_price 9 = .ok (.iconst 0, 1) := by decide +kernel
theorem dX7_price_10 : decode cX7_price 10 = .ok (.bipush 99, 2) := by decide +kernel
theorem dX7_price_12 : decode cX7_price 12 = .ok (.invokestatic 75, 3) := by decide +kernel
theorem dX7_price_15 : decode cX7_price 15 = .ok (.ifCond .ne 12, 3) := by decide +kernel
theorem dX7_price_18 : decode cX7_price 18 = .ok (.aload_n 0, 1) := by decide +kernel
theorem dX7_price_19 : decode cX7_price 19 = .ok (.bipush (-2), 2) := by decide +kernel
theorem dX7_price_21 : decode cX7_price 21 = .ok (.bipush (-2), 2) := by decide +kernel
theorem dX7_price_23 : decode cX7_price 23 = .ok (.invokevirtual 79, 3) := by decide +kernel
theorem dX7_price_26 : decode cX7_price 26 = .ok (.ireturn, 1) := by decide +kernel
theorem dX7_price_27 : decode cX7_price 27 = .ok (.aload_n 0, 1) := by decide +kernel
theorem dX7_price_28 : decode cX7_price 28 = .ok (.getfield 10, 3) := by decide +kernel
theorem dX7_price_31 : decode cX7_price 31 = .ok (.getfield 105, 3) := by decide +kernel
theorem dX7_price_34 : decode cX7_price 34 = .ok (.iload_n 1, 1) := by decide +kernel
theorem dX7_price_35 : decode cX7_price 35 = .ok (.iaload, 1) := by decide +kernel
theorem dX7_price_36 : decode cX7_price 36 = .ok (.istore_n 3, 1) := by decide +kernel
theorem dX7_price_37 : decode cX7_price 37 = .ok (.aload_n 0, 1) := by decide +kernel
theorem dX7_price_38 : decode cX7_price 38 = .ok (.getfield 10, 3) := by decide +kernel
theorem dX7_price_41 : decode cX7_price 41 = .ok (.getfield 105, 3) := by decide +kernel
theorem dX7_price_44 : decode cX7_price 44 = .ok (.iload_n 1, 1) := by decide +kernel
theorem dX7_price_45 : decode cX7_price 45 = .ok (.iload_n 2, 1) := by decide +kernel
theorem dX7_price_46 : decode cX7_price 46 = .ok (.iastore, 1) := by decide +kernel
theorem dX7_price_47 : decode cX7_price 47 = .ok (.iload_n 3, 1) := by decide +kernel
theorem dX7_price_48 : decode cX7_price 48 = .ok (.ireturn, 1) := by decide +kernel
theorem dX7_type_0 : decode cX7_type 0 = .ok (.iload_n 1, 1) := by decide +kernel
theorem dX7_type_1 : decode cX7_type 1 = .ok (.iconst 0, 1) := by decide +kernel
theorem dX7_type_2 : decode cX7_type 2 = .ok (.bipush 127, 2) := by decide +kernel
theorem dX7_type_4 : decode cX7_type 4 = .ok (.invokestatic 75, 3) := by decide +kernel
theorem dX7_type_7 : decode cX7_type 7 = .ok (.ifCond .ne 12, 3) := by decide +kernel
theorem dX7_type_10 : decode cX7_type 10 = .ok (.aload_n 0, 1) := by decide +kernel
theorem dX7_type_11 : decode cX7_type 11 = .ok (.bipush (-2), 2) := by decide +kernel
theorem dX7_type_13 : decode cX7_type 13 = .ok (.bipush (-2), 2) := by decide +kernel
theorem dX7_type_15 : decode cX7_type 15 = .ok (.invokevirtual 79, 3) := by decide +kernel
theorem dX7_type_18 : decode cX7_type 18 = .ok (.ireturn, 1) := by decide +kernel
theorem dX7_type_19 : decode cX7_type 19 = .ok (.aload_n 0, 1) := by decide +kernel
theorem dX7_type_20 : decode cX7_type 20 = .ok (.getfield 29, 3) := by decide +kernel
theorem dX7_type_23 : decode cX7_type 23 = .ok (.getfield 108, 3) := by decide +kernel
theorem dX7_type_26 : decode cX7_type 26 = .ok (.sipush 150, 3) := by decide +kernel
theorem dX7_type_29 : decode cX7_type 29 = .ok (.if_icmp .lt 12, 3) := by decide +kernel
theorem dX7_type_32 : decode cX7_type 32 = .ok (.aload_n 0, 1) := by decide +kernel
theorem dX7_type_33 : decode cX7_type 33 = .ok (.bipush (-4), 2) := by decide +kernel
theorem dX7_type_35 : decode cX7_type 35 = .ok (.bipush (-4), 2) := by decide +kernel
theorem dX7_type_37 : decode cX7_type 37 = .ok (.invokevirtual 79, 3) := by decide +kernel
theorem dX7_type_40 : decode cX7_type 40 = .ok (.ireturn, 1) := by decide +kernel
theorem dX7_type_41 : decode cX7_type 41 = .ok (.aload_n 0, 1) := by decide +kernel
theorem dX7_type_42 : decode cX7_type 42 = .ok (.getfield 29, 3) := by decide +kernel
theorem dX7_type_45 : decode cX7_type 45 = .ok (.iload_n 1, 1) := by decide +kernel
theorem dX7_type_46 : decode cX7_type 46 = .ok (.invokevirtual 111, 3) := by decide +kernel
theorem dX7_type_49 : decode cX7_type 49 = .ok (.aload_n 0, 1) := by decide +kernel
theorem dX7_type_50 : decode cX7_type 50 = .ok (.getfield 29, 3) := by decide +kernel
theorem dX7_type_53 : decode cX7_type 53 = .ok (.getfield 108, 3) := by decide +kernel
theorem dX7_type_56 : decode cX7_type 56 = .ok (.ireturn, 1) := by decide +kernel
theorem dX7_clear_0 : decode cX7_clear 0 = .ok (.aload_n 0, 1) := by decide +kernel
theorem dX7_clear_1 : decode cX7_clear 1 = .ok (.getfield 29, 3) := by decide +kernel
theorem dX7_clear_4 : decode cX7_clear 4 = .ok (.getfield 108, 3) := by decide +kernel
theorem dX7_clear_7 : decode cX7_clear 7 = .ok (.istore_n 1, 1) := by decide +kernel
theorem dX7_clear_8 : decode cX7_clear 8 = .ok (.aload_n 0, 1) := by decide +kernel
theorem dX7_clear_9 : decode cX7_clear 9 = .ok (.getfield 29, 3) := by decide +kernel
theorem dX7_clear_12 : decode cX7_clear 12 = .ok (.iconst 0, 1) := by decide +kernel
theorem dX7_clear_13 : decode cX7_clear 13 = .ok (.putfield 108, 3) := by decide +kernel
theorem dX7_clear_16 : decode cX7_clear 16 = .ok (.iload_n 1, 1) := by decide +kernel
theorem dX7_clear_17 : decode cX7_clear 17 = .ok (.ireturn, 1) := by decide +kernel
theorem dX7_read_0 : decode cX7_read 0 = .ok (.aload_n 0, 1) := by decide +kernel
theorem dX7_read_1 : decode cX7_read 1 = .ok (.getfield 29, 3) := by decide +kernel
theorem dX7_read_4 : decode cX7_read 4 = .ok (.invokevirtual 114, 3) := by decide +kernel
theorem dX7_read_7 : decode cX7_read 7 = .ok (.istore_n 1, 1) := by decide +kernel
theorem dX7_read_8 : decode cX7_read 8 = .ok (.iload_n 1, 1) := by decide +kernel
theorem dX7_read_9 : decode cX7_read 9 = .ok (.iconst (-1), 1) := by decide +kernel
theorem dX7_read_10 : decode cX7_read 10 = .ok (.if_icmp .ne 14, 3) := by decide +kernel
theorem dX7_read_13 : decode cX7_read 13 = .ok (.bipush (-10), 2) := by decide +kernel
theorem dX7_read_15 : decode cX7_read 15 = .ok (.aload_n 0, 1) := by decide +kernel
theorem dX7_read_16 : decode cX7_read 16 = .ok (.getfield 29, 3) := by decide +kernel
theorem dX7_read_19 : decode cX7_read 19 = .ok (.getfield 118, 3) := by decide +kernel
theorem dX7_read_22 : decode cX7_read 22 = .ok (.isub, 1) := by decide +kernel
theorem dX7_read_23 : decode cX7_read 23 = .ok (.ireturn, 1) := by decide +kernel
theorem dX7_read_24 : decode cX7_read 24 = .ok (.aload_n 0, 1) := by decide +kernel
theorem dX7_read_25 : decode cX7_read 25 = .ok (.getfield 10, 3) := by decide +kernel
theorem dX7_read_28 : decode cX7_read 28 = .ok (.aload_n 0, 1) := by decide +kernel
theorem dX7_read_29 : decode cX7_read 29 = .ok (.getfield 29, 3) := by decide +kernel
theorem dX7_read_32 : decode cX7_read 32 = .ok (.getfield 121, 3) := by decide +kernel
theorem dX7_read_35 : decode cX7_read 35 = .ok (.invokevirtual 124, 3) := by decide +kernel
theorem dX7_read_38 : decode cX7_read 38 = .ok (.iload_n 1, 1) := by decide +kernel
theorem dX7_read_39 : decode cX7_read 39 = .ok (.ireturn, 1) := by decide +kernel
theorem dX7_ask_0 : decode cX7_ask 0 = .ok (.aload_n 0, 1) := by decide +kernel
theorem dX7_ask_1 : decode cX7_ask 1 = .ok (.iload_n 1, 1) := by decide +kernel
theorem dX7_ask_2 : decode cX7_ask 2 = .ok (.invokevirtual 102, 3) := by decide +kernel
theorem dX7_ask_5 : decode cX7_ask 5 = .ok (.ifCond .eq 13, 3) := by decide +kernel
theorem dX7_ask_8 : decode cX7_ask 8 = .ok (.iload_n 2, 1) := by decide +kernel
theorem dX7_ask_9 : decode cX7_ask 9 = .ok (.iconst 0, 1) := by decide +kernel
theorem dX7_ask_10 : decode cX7_ask 10 = .ok (.bipush 15, 2) := by decide +kernel
theorem dX7_ask_12 : decode cX7_ask 12 = .ok (.invokestatic 75, 3) := by decide +kernel
theorem dX7_ask_15 : decode cX7_ask 15 = .ok (.ifCond .ne 12, 3) := by decide +kernel
theorem dX7_ask_18 : decode cX7_ask 18 = .ok (.aload_n 0, 1) := by decide +kernel
theorem dX7_ask_19 : decode cX7_ask 19 = .ok (.bipush (-2), 2) := by decide +kernel
theorem dX7_ask_21 : decode cX7_ask 21 = .ok (.bipush (-2), 2) := by decide +kernel
theorem dX7_ask_23 : decode cX7_ask 23 = .ok (.invokevirtual 79, 3) := by decide +kernel
theorem dX7_ask_26 : decode cX7_ask 26 = .ok (.ireturn, 1) := by decide +kernel
theorem dX7_ask_27 : decode cX7_ask 27 = .ok (.aload_n 0, 1) := by decide +kernel
theorem dX7_ask_28 : decode cX7_ask 28 = .ok (.getfield 10, 3) := by decide +kernel
theorem dX7_ask_31 : decode cX7_ask 31 = .ok (.getfield 128, 3) := by decide +kernel
theorem dX7_ask_34 : decode cX7_ask 34 = .ok (.bipush 8, 2) := by decide +kernel
theorem dX7_ask_36 : decode cX7_ask 36 = .ok (.if_icmp .lt 12, 3) := by decide +kernel
theorem dX7_ask_39 : decode cX7_ask 39 = .ok (.aload_n 0, 1) := by decide +kernel
theorem dX7_ask_40 : decode cX7_ask 40 = .ok (.bipush (-4), 2) := by decide +kernel
theorem dX7_ask_42 : decode cX7_ask 42 = .ok (.bipush (-4), 2) := by decide +kernel
theorem dX7_ask_44 : decode cX7_ask 44 = .ok (.invokevirtual 79, 3) := by decide +kernel
theorem dX7_ask_47 : decode cX7_ask 47 = .ok (.ireturn, 1) := by decide +kernel
theorem dX7_ask_48 : decode cX7_ask 48 = .ok (.aload_n 0, 1) := by decide +kernel
theorem dX7_ask_49 : decode cX7_ask 49 = .ok (.getfield 10, 3) := by decide +kernel
theorem dX7_ask_52 : decode cX7_ask 52 = .ok (.iload_n 1, 1) := by decide +kernel
theorem dX7_ask_53 : decode cX7_ask 53 = .ok (.iload_n 2, 1) := by decide +kernel
theorem dX7_ask_54 : decode cX7_ask 54 = .ok (.invokevirtual 131, 3) := by decide +kernel
theorem dX7_ask_57 : decode cX7_ask 57 = .ok (.aload_n 0, 1) := by decide +kernel
theorem dX7_ask_58 : decode cX7_ask 58 = .ok (.getfield 10, 3) := by decide +kernel
theorem dX7_ask_61 : decode cX7_ask 61 = .ok (.iconst 0, 1) := by decide +kernel
theorem dX7_ask_62 : decode cX7_ask 62 = .ok (.invokevirtual 135, 3) := by decide +kernel
theorem dX7_ask_65 : decode cX7_ask 65 = .ok (.ireturn, 1) := by decide +kernel
theorem dX7_forget_0 : decode cX7_forget 0 = .ok (.aload_n 0, 1) := by decide +kernel
theorem dX7_forget_1 : decode cX7_forget 1 = .ok (.getfield 10, 3) := by decide +kernel
theorem dX7_forget_4 : decode cX7_forget 4 = .ok (.getfield 128, 3) := by decide +kernel
theorem dX7_forget_7 : decode cX7_forget 7 = .ok (.iconst 1, 1) := by decide +kernel
theorem dX7_forget_8 : decode cX7_forget 8 = .ok (.if_icmp .ge 12, 3) := by decide +kernel
theorem dX7_forget_11 : decode cX7_forget 11 = .ok (.aload_n 0, 1) := by decide +kernel
theorem dX7_forget_12 : decode cX7_forget 12 = .ok (.bipush (-3), 2) := by decide +kernel
theorem dX7_forget_14 : decode cX7_forget 14 = .ok (.bipush (-3), 2) := by decide +kernel
theorem dX7_forget_16 : decode cX7_forget 16 = .ok (.invokevirtual 79, 3) := by decide +kernel
theorem dX7_forget_19 : decode cX7_forget 19 = .ok (.ireturn, 1) := by decide +kernel
theorem dX7_forget_20 : decode cX7_forget 20 = .ok (.aload_n 0, 1) := by decide +kernel
theorem dX7_forget_21 : decode cX7_forget 21 = .ok (.getfield 10, 3) := by decide +kernel
theorem dX7_forget_24 : decode cX7_forget 24 = .ok (.invokevirtual 139, 3) := by decide +kernel
theorem dX7_forget_27 : decode cX7_forget 27 = .ok (.aload_n 0, 1) := by decide +kernel
theorem dX7_forget_28 : decode cX7_forget 28 = .ok (.getfield 10, 3) := by decide +kernel
theorem dX7_forget_31 : decode cX7_forget 31 = .ok (.getfield 128, 3) := by decide +kernel
theorem dX7_forget_34 : decode cX7_forget 34 = .ok (.ireturn, 1) := by decide +kernel
theorem dX7_undo_0 : decode cX7_undo 0 = .ok (.aload_n 0, 1) := by decide +kernel
theorem dX7_undo_1 : decode cX7_undo 1 = .ok (.getfield 10, 3) := by decide +kernel
theorem dX7_undo_4 : decode cX7_undo 4 = .ok (.getfield 142, 3) := by decide +kernel
theorem dX7_undo_7 : decode cX7_undo 7 = .ok (.iconst 1, 1) := by decide +kernel
theorem dX7_undo_8 : decode cX7_undo 8 = .ok (.if_icmp .ge 12, 3) := by decide +kernel
theorem dX7_undo_11 : decode cX7_undo 11 = .ok (.aload_n 0, 1) := by decide +kernel
theorem dX7_undo_12 : decode cX7_undo 12 = .ok (.bipush (-3), 2) := by decide +kernel
theorem dX7_undo_14 : decode cX7_undo 14 = .ok (.bipush (-3), 2) := by decide +kernel
theorem dX7_undo_16 : decode cX7_undo 16 = .ok (.invokevirtual 79, 3) := by decide +kernel
theorem dX7_undo_19 : decode cX7_undo 19 = .ok (.ireturn, 1) := by decide +kernel
theorem dX7_undo_20 : decode cX7_undo 20 = .ok (.aload_n 0, 1) := by decide +kernel
theorem dX7_undo_21 : decode cX7_undo 21 = .ok (.getfield 10, 3) := by decide +kernel
theorem dX7_undo_24 : decode cX7_undo 24 = .ok (.invokevirtual 145, 3) := by decide +kernel
theorem dX7_undo_27 : decode cX7_undo 27 = .ok (.aload_n 0, 1) := by decide +kernel
theorem dX7_undo_28 : decode cX7_undo 28 = .ok (.getfield 10, 3) := by decide +kernel
theorem dX7_undo_31 : decode cX7_undo 31 = .ok (.getfield 128, 3) := by decide +kernel
theorem dX7_undo_34 : decode cX7_undo 34 = .ok (.ireturn, 1) := by decide +kernel
theorem dX7_of_0 : decode cX7_of 0 = .ok (.aload_n 0, 1) := by decide +kernel
theorem dX7_of_1 : decode cX7_of 1 = .ok (.iload_n 1, 1) := by decide +kernel
theorem dX7_of_2 : decode cX7_of 2 = .ok (.invokevirtual 102, 3) := by decide +kernel
theorem dX7_of_5 : decode cX7_of 5 = .ok (.ifCond .eq 12, 3) := by decide +kernel
theorem dX7_of_8 : decode cX7_of 8 = .ok (.iload_n 2, 1) := by decide +kernel
theorem dX7_of_9 : decode cX7_of 9 = .ok (.iconst 0, 1) := by decide +kernel
theorem dX7_of_10 : decode cX7_of 10 = .ok (.iconst 2, 1) := by decide +kernel
theorem dX7_of_11 : decode cX7_of 11 = .ok (.invokestatic 75, 3) := by decide +kernel
theorem dX7_of_14 : decode cX7_of 14 = .ok (.ifCond .ne 12, 3) := by decide +kernel
theorem dX7_of_17 : decode cX7_of 17 = .ok (.aload_n 0, 1) := by decide +kernel
theorem dX7_of_18 : decode cX7_of 18 = .ok (.bipush (-2), 2) := by decide +kernel
theorem dX7_of_20 : decode cX7_of 20 = .ok (.bipush (-2), 2) := by decide +kernel
theorem dX7_of_22 : decode cX7_of 22 = .ok (.invokevirtual 79, 3) := by decide +kernel
theorem dX7_of_25 : decode cX7_of 25 = .ok (.ireturn, 1) := by decide +kernel
theorem dX7_of_26 : decode cX7_of 26 = .ok (.iload_n 2, 1) := by decide +kernel
theorem dX7_of_27 : decode cX7_of 27 = .ok (.lookupswitch 45 #[(0, 25), (1, 35)], 25) := by decide +kernel
theorem dX7_of_52 : decode cX7_of 52 = .ok (.aload_n 0, 1) := by decide +kernel
theorem dX7_of_53 : decode cX7_of 53 = .ok (.getfield 10, 3) := by decide +kernel
theorem dX7_of_56 : decode cX7_of 56 = .ok (.getfield 148, 3) := by decide +kernel
theorem dX7_of_59 : decode cX7_of 59 = .ok (.iload_n 1, 1) := by decide +kernel
theorem dX7_of_60 : decode cX7_of 60 = .ok (.iaload, 1) := by decide +kernel
theorem dX7_of_61 : decode cX7_of 61 = .ok (.ireturn, 1) := by decide +kernel
theorem dX7_of_62 : decode cX7_of 62 = .ok (.aload_n 0, 1) := by decide +kernel
theorem dX7_of_63 : decode cX7_of 63 = .ok (.getfield 10, 3) := by decide +kernel
theorem dX7_of_66 : decode cX7_of 66 = .ok (.getfield 151, 3) := by decide +kernel
theorem dX7_of_69 : decode cX7_of 69 = .ok (.iload_n 1, 1) := by decide +kernel
theorem dX7_of_70 : decode cX7_of 70 = .ok (.iaload, 1) := by decide +kernel
theorem dX7_of_71 : decode cX7_of 71 = .ok (.ireturn, 1) := by decide +kernel
theorem dX7_of_72 : decode cX7_of 72 = .ok (.aload_n 0, 1) := by decide +kernel
theorem dX7_of_73 : decode cX7_of 73 = .ok (.getfield 10, 3) := by decide +kernel
theorem dX7_of_76 : decode cX7_of 76 = .ok (.getfield 105, 3) := by decide +kernel
theorem dX7_of_79 : decode cX7_of 79 = .ok (.iload_n 1, 1) := by decide +kernel
theorem dX7_of_80 : decode cX7_of 80 = .ok (.iaload, 1) := by decide +kernel
theorem dX7_of_81 : decode cX7_of 81 = .ok (.ireturn, 1) := by decide +kernel
theorem dX7_answer_0 : decode cX7_answer 0 = .ok (.aload_n 0, 1) := by decide +kernel
theorem dX7_answer_1 : decode cX7_answer 1 = .ok (.iload_n 1, 1) := by decide +kernel
theorem dX7_answer_2 : decode cX7_answer 2 = .ok (.invokevirtual 102, 3) := by decide +kernel
theorem dX7_answer_5 : decode cX7_answer 5 = .ok (.ifCond .eq 11, 3) := by decide +kernel
theorem dX7_answer_8 : decode cX7_answer 8 = .ok (.aload_n 0, 1) := by decide +kernel
theorem dX7_answer_9 : decode cX7_answer 9 = .ok (.iload_n 2, 1) := by decide +kernel
theorem dX7_answer_10 : decode cX7_answer 10 = .ok (.invokevirtual 91, 3) := by decide +kernel
theorem dX7_answer_13 : decode cX7_answer 13 = .ok (.ifCond .ne 12, 3) := by decide +kernel
theorem dX7_answer_16 : decode cX7_answer 16 = .ok (.aload_n 0, 1) := by decide +kernel
theorem dX7_answer_17 : decode cX7_answer 17 = .ok (.bipush (-2), 2) := by decide +kernel
theorem dX7_answer_19 : decode cX7_answer 19 = .ok (.bipush (-2), 2) := by decide +kernel
theorem dX7_answer_21 : decode cX7_answer 21 = .ok (.invokevirtual 79, 3) := by decide +kernel
theorem dX7_answer_24 : decode cX7_answer 24 = .ok (.ireturn, 1) := by decide +kernel
theorem dX7_answer_25 : decode cX7_answer 25 = .ok (.aload_n 0, 1) := by decide +kernel
theorem dX7_answer_26 : decode cX7_answer 26 = .ok (.getfield 10, 3) := by decide +kernel
theorem dX7_answer_29 : decode cX7_answer 29 = .ok (.iload_n 1, 1) := by decide +kernel
theorem dX7_answer_30 : decode cX7_answer 30 = .ok (.iload_n 2, 1) := by decide +kernel
theorem dX7_answer_31 : decode cX7_answer 31 = .ok (.invokevirtual 154, 3) := by decide +kernel
theorem dX7_answer_34 : decode cX7_answer 34 = .ok (.ireturn, 1) := by decide +kernel
theorem dX7_left_0 : decode cX7_left 0 = .ok (.aload_n 0, 1) := by decide +kernel
theorem dX7_left_1 : decode cX7_left 1 = .ok (.getfield 10, 3) := by decide +kernel
theorem dX7_left_4 : decode cX7_left 4 = .ok (.iconst 0, 1) := by decide +kernel
theorem dX7_left_5 : decode cX7_left 5 = .ok (.invokevirtual 135, 3) := by decide +kernel
theorem dX7_left_8 : decode cX7_left 8 = .ok (.ireturn, 1) := by decide +kernel
theorem dX7_cuts_0 : decode cX7_cuts 0 = .ok (.aload_n 0, 1) := by decide +kernel
theorem dX7_cuts_1 : decode cX7_cuts 1 = .ok (.iload_n 1, 1) := by decide +kernel
theorem dX7_cuts_2 : decode cX7_cuts 2 = .ok (.invokevirtual 102, 3) := by decide +kernel
theorem dX7_cuts_5 : decode cX7_cuts 5 = .ok (.ifCond .eq 12, 3) := by decide +kernel
theorem dX7_cuts_8 : decode cX7_cuts 8 = .ok (.iload_n 2, 1) := by decide +kernel
theorem dX7_cuts_9 : decode cX7_cuts 9 = .ok (.iconst 0, 1) := by decide +kernel
theorem dX7_cuts_10 : decode cX7_cuts 10 = .ok (.iconst 2, 1) := by decide +kernel
theorem dX7_cuts_11 : decode cX7_cuts 11 = .ok (.invokestatic 75, 3) := by decide +kernel
theorem dX7_cuts_14 : decode cX7_cuts 14 = .ok (.ifCond .ne 12, 3) := by decide +kernel
theorem dX7_cuts_17 : decode cX7_cuts 17 = .ok (.aload_n 0, 1) := by decide +kernel
theorem dX7_cuts_18 : decode cX7_cuts 18 = .ok (.bipush (-2), 2) := by decide +kernel
theorem dX7_cuts_20 : decode cX7_cuts 20 = .ok (.bipush (-2), 2) := by decide +kernel
theorem dX7_cuts_22 : decode cX7_cuts 22 = .ok (.invokevirtual 79, 3) := by decide +kernel
theorem dX7_cuts_25 : decode cX7_cuts 25 = .ok (.ireturn, 1) := by decide +kernel
theorem dX7_cuts_26 : decode cX7_cuts 26 = .ok (.aload_n 0, 1) := by decide +kernel
theorem dX7_cuts_27 : decode cX7_cuts 27 = .ok (.getfield 10, 3) := by decide +kernel
theorem dX7_cuts_30 : decode cX7_cuts 30 = .ok (.iconst 0, 1) := by decide +kernel
theorem dX7_cuts_31 : decode cX7_cuts 31 = .ok (.invokevirtual 135, 3) := by decide +kernel
theorem dX7_cuts_34 : decode cX7_cuts 34 = .ok (.istore_n 3, 1) := by decide +kernel
theorem dX7_cuts_35 : decode cX7_cuts 35 = .ok (.iload_n 2, 1) := by decide +kernel
theorem dX7_cuts_36 : decode cX7_cuts 36 = .ok (.lookupswitch 48 #[(0, 28), (1, 38)], 28) := by decide +kernel
theorem dX7_cuts_64 : decode cX7_cuts 64 = .ok (.aload_n 0, 1) := by decide +kernel
theorem dX7_cuts_65 : decode cX7_cuts 65 = .ok (.getfield 10, 3) := by decide +kernel
theorem dX7_cuts_68 : decode cX7_cuts 68 = .ok (.iload_n 1, 1) := by decide +kernel
theorem dX7_cuts_69 : decode cX7_cuts 69 = .ok (.iload_n 3, 1) := by decide +kernel
theorem dX7_cuts_70 : decode cX7_cuts 70 = .ok (.invokevirtual 157, 3) := by decide +kernel
theorem dX7_cuts_73 : decode cX7_cuts 73 = .ok (.ireturn, 1) := by decide +kernel
theorem dX7_cuts_74 : decode cX7_cuts 74 = .ok (.aload_n 0, 1) := by decide +kernel
theorem dX7_cuts_75 : decode cX7_cuts 75 = .ok (.getfield 10, 3) := by decide +kernel
theorem dX7_cuts_78 : decode cX7_cuts 78 = .ok (.iload_n 1, 1) := by decide +kernel
theorem dX7_cuts_79 : decode cX7_cuts 79 = .ok (.iload_n 3, 1) := by decide +kernel
theorem dX7_cuts_80 : decode cX7_cuts 80 = .ok (.invokevirtual 160, 3) := by decide +kernel
theorem dX7_cuts_83 : decode cX7_cuts 83 = .ok (.ireturn, 1) := by decide +kernel
theorem dX7_cuts_84 : decode cX7_cuts 84 = .ok (.aload_n 0, 1) := by decide +kernel
theorem dX7_cuts_85 : decode cX7_cuts 85 = .ok (.getfield 10, 3) := by decide +kernel
theorem dX7_cuts_88 : decode cX7_cuts 88 = .ok (.iload_n 1, 1) := by decide +kernel
theorem dX7_cuts_89 : decode cX7_cuts 89 = .ok (.iload_n 3, 1) := by decide +kernel
theorem dX7_cuts_90 : decode cX7_cuts 90 = .ok (.invokevirtual 163, 3) := by decide +kernel
theorem dX7_cuts_93 : decode cX7_cuts 93 = .ok (.ireturn, 1) := by decide +kernel
theorem dX7_empty_0 : decode cX7_empty 0 = .ok (.aload_n 0, 1) := by decide +kernel
theorem dX7_empty_1 : decode cX7_empty 1 = .ok (.getfield 10, 3) := by decide +kernel
theorem dX7_empty_4 : decode cX7_empty 4 = .ok (.iconst 0, 1) := by decide +kernel
theorem dX7_empty_5 : decode cX7_empty 5 = .ok (.invokevirtual 135, 3) := by decide +kernel
theorem dX7_empty_8 : decode cX7_empty 8 = .ok (.istore_n 1, 1) := by decide +kernel
theorem dX7_empty_9 : decode cX7_empty 9 = .ok (.iconst 0, 1) := by decide +kernel
theorem dX7_empty_10 : decode cX7_empty 10 = .ok (.istore_n 2, 1) := by decide +kernel
theorem dX7_empty_11 : decode cX7_empty 11 = .ok (.iconst 0, 1) := by decide +kernel
theorem dX7_empty_12 : decode cX7_empty 12 = .ok (.istore_n 3, 1) := by decide +kernel
theorem dX7_empty_13 : decode cX7_empty 13 = .ok (.iload_n 3, 1) := by decide +kernel
theorem dX7_empty_14 : decode cX7_empty 14 = .ok (.aload_n 0, 1) := by decide +kernel
theorem dX7_empty_15 : decode cX7_empty 15 = .ok (.getfield 10, 3) := by decide +kernel
theorem dX7_empty_18 : decode cX7_empty 18 = .ok (.getfield 83, 3) := by decide +kernel
theorem dX7_empty_21 : decode cX7_empty 21 = .ok (.if_icmp .ge 28, 3) := by decide +kernel
theorem dX7_empty_24 : decode cX7_empty 24 = .ok (.aload_n 0, 1) := by decide +kernel
theorem dX7_empty_25 : decode cX7_empty 25 = .ok (.getfield 10, 3) := by decide +kernel
theorem dX7_empty_28 : decode cX7_empty 28 = .ok (.iload_n 3, 1) := by decide +kernel
theorem dX7_empty_29 : decode cX7_empty 29 = .ok (.iload_n 1, 1) := by decide +kernel
theorem dX7_empty_30 : decode cX7_empty 30 = .ok (.invokevirtual 160, 3) := by decide +kernel
theorem dX7_empty_33 : decode cX7_empty 33 = .ok (.iconst 2, 1) := by decide +kernel
theorem dX7_empty_34 : decode cX7_empty 34 = .ok (.if_icmp .ge 9, 3) := by decide +kernel
theorem dX7_empty_37 : decode cX7_empty 37 = .ok (.iload_n 2, 1) := by decide +kernel
theorem dX7_empty_38 : decode cX7_empty 38 = .ok (.iconst 1, 1) := by decide +kernel
theorem dX7_empty_39 : decode cX7_empty 39 = .ok (.iload_n 3, 1) := by decide +kernel
theorem dX7_empty_40 : decode cX7_empty 40 = .ok (.ishl, 1) := by decide +kernel
theorem dX7_empty_41 : decode cX7_empty 41 = .ok (.ior, 1) := by decide +kernel
theorem dX7_empty_42 : decode cX7_empty 42 = .ok (.istore_n 2, 1) := by decide +kernel
theorem dX7_empty_43 : decode cX7_empty 43 = .ok (.iinc 3 1, 3) := by decide +kernel
theorem dX7_empty_46 : decode cX7_empty 46 = .ok (.goto (-33), 3) := by decide +kernel
theorem dX7_empty_49 : decode cX7_empty 49 = .ok (.iload_n 2, 1) := by decide +kernel
theorem dX7_empty_50 : decode cX7_empty 50 = .ok (.ireturn, 1) := by decide +kernel
theorem dX7_same_0 : decode cX7_same 0 = .ok (.iload_n 1, 1) := by decide +kernel
theorem dX7_same_1 : decode cX7_same 1 = .ok (.iconst (-1), 1) := by decide +kernel
theorem dX7_same_2 : decode cX7_same 2 = .ok (.if_icmp .ge 12, 3) := by decide +kernel
theorem dX7_same_5 : decode cX7_same 5 = .ok (.aload_n 0, 1) := by decide +kernel
theorem dX7_same_6 : decode cX7_same 6 = .ok (.bipush (-2), 2) := by decide +kernel
theorem dX7_same_8 : decode cX7_same 8 = .ok (.bipush (-10), 2) := by decide +kernel
theorem dX7_same_10 : decode cX7_same 10 = .ok (.invokevirtual 79, 3) := by decide +kernel
theorem dX7_same_13 : decode cX7_same 13 = .ok (.ireturn, 1) := by decide +kernel
theorem dX7_same_14 : decode cX7_same 14 = .ok (.aload_n 0, 1) := by decide +kernel
theorem dX7_same_15 : decode cX7_same 15 = .ok (.getfield 10, 3) := by decide +kernel
theorem dX7_same_18 : decode cX7_same 18 = .ok (.iconst 0, 1) := by decide +kernel
theorem dX7_same_19 : decode cX7_same 19 = .ok (.invokevirtual 135, 3) := by decide +kernel
theorem dX7_same_22 : decode cX7_same 22 = .ok (.istore_n 2, 1) := by decide +kernel
theorem dX7_same_23 : decode cX7_same 23 = .ok (.iconst 0, 1) := by decide +kernel
theorem dX7_same_24 : decode cX7_same 24 = .ok (.istore_n 3, 1) := by decide +kernel
theorem dX7_same_25 : decode cX7_same 25 = .ok (.iconst 0, 1) := by decide +kernel
theorem dX7_same_26 : decode cX7_same 26 = .ok (.istore 4, 2) := by decide +kernel
theorem dX7_same_28 : decode cX7_same 28 = .ok (.iload 4, 2) := by decide +kernel
theorem dX7_same_30 : decode cX7_same 30 = .ok (.aload_n 0, 1) := by decide +kernel
theorem dX7_same_31 : decode cX7_same 31 = .ok (.getfield 10, 3) := by decide +kernel
theorem dX7_same_34 : decode cX7_same 34 = .ok (.getfield 83, 3) := by decide +kernel
theorem dX7_same_37 : decode cX7_same 37 = .ok (.if_icmp .ge 65, 3) := by decide +kernel
theorem dX7_same_40 : decode cX7_same 40 = .ok (.iload 4, 2) := by decide +kernel
theorem dX7_same_42 : decode cX7_same 42 = .ok (.iconst 1, 1) := by decide +kernel
theorem dX7_same_43 : decode cX7_same 43 = .ok (.iadd, 1) := by decide +kernel
theorem dX7_same_44 : decode cX7_same 44 = .ok (.istore 5, 2) := by decide +kernel
theorem dX7_same_46 : decode cX7_same 46 = .ok (.iload 5, 2) := by decide +kernel
theorem dX7_same_48 : decode cX7_same 48 = .ok (.aload_n 0, 1) := by decide +kernel
theorem dX7_same_49 : decode cX7_same 49 = .ok (.getfield 10, 3) := by decide +kernel
theorem dX7_same_52 : decode cX7_same 52 = .ok (.getfield 83, 3) := by decide +kernel
theorem dX7_same_55 : decode cX7_same 55 = .ok (.if_icmp .ge 41, 3) := by decide +kernel
theorem dX7_same_58 : decode cX7_same 58 = .ok (.aload_n 0, 1) := by decide +kernel
theorem dX7_same_59 : decode cX7_same 59 = .ok (.getfield 10, 3) := by decide +kernel
theorem dX7_same_62 : decode cX7_same 62 = .ok (.iload 4, 2) := by decide +kernel
theorem dX7_same_64 : decode cX7_same 64 = .ok (.iload 5, 2) := by decide +kernel
theorem dX7_same_66 : decode cX7_same 66 = .ok (.iload_n 2, 1) := by decide +kernel
theorem dX7_same_67 : decode cX7_same 67 = .ok (.invokevirtual 166, 3) := by decide +kernel
theorem dX7_same_70 : decode cX7_same 70 = .ok (.ifCond .eq 20, 3) := by decide +kernel
theorem dX7_same_73 : decode cX7_same 73 = .ok (.iload_n 3, 1) := by decide +kernel
theorem dX7_same_74 : decode cX7_same 74 = .ok (.iload_n 1, 1) := by decide +kernel
theorem dX7_same_75 : decode cX7_same 75 = .ok (.if_icmp .ne 12, 3) := by decide +kernel
theorem dX7_same_78 : decode cX7_same 78 = .ok (.bipush 10, 2) := by decide +kernel
theorem dX7_same_80 : decode cX7_same 80 = .ok (.iload 4, 2) := by decide +kernel
theorem dX7_same_82 : decode cX7_same 82 = .ok (.imul, 1) := by decide +kernel
theorem dX7_same_83 : decode cX7_same 83 = .ok (.iload 5, 2) := by decide +kernel
theorem dX7_same_85 : decode cX7_same 85 = .ok (.iadd, 1) := by decide +kernel
theorem dX7_same_86 : decode cX7_same 86 = .ok (.ireturn, 1) := by decide +kernel
theorem dX7_same_87 : decode cX7_same 87 = .ok (.iinc 3 1, 3) := by decide +kernel
theorem dX7_same_90 : decode cX7_same 90 = .ok (.iinc 5 1, 3) := by decide +kernel
theorem dX7_same_93 : decode cX7_same 93 = .ok (.goto (-47), 3) := by decide +kernel
theorem dX7_same_96 : decode cX7_same 96 = .ok (.iinc 4 1, 3) := by decide +kernel
theorem dX7_same_99 : decode cX7_same 99 = .ok (.goto (-71), 3) := by decide +kernel
theorem dX7_same_102 : decode cX7_same 102 = .ok (.iload_n 1, 1) := by decide +kernel
theorem dX7_same_103 : decode cX7_same 103 = .ok (.iconst (-1), 1) := by decide +kernel
theorem dX7_same_104 : decode cX7_same 104 = .ok (.if_icmp .ne 7, 3) := by decide +kernel
theorem dX7_same_107 : decode cX7_same 107 = .ok (.iload_n 3, 1) := by decide +kernel
theorem dX7_same_108 : decode cX7_same 108 = .ok (.goto 5, 3) := by decide +kernel
theorem dX7_same_111 : decode cX7_same 111 = .ok (.bipush (-5), 2) := by decide +kernel
theorem dX7_same_113 : decode cX7_same 113 = .ok (.ireturn, 1) := by decide +kernel
theorem dX7_best_0 : decode cX7_best 0 = .ok (.aload_n 0, 1) := by decide +kernel
theorem dX7_best_1 : decode cX7_best 1 = .ok (.getfield 10, 3) := by decide +kernel
theorem dX7_best_4 : decode cX7_best 4 = .ok (.iconst 0, 1) := by decide +kernel
theorem dX7_best_5 : decode cX7_best 5 = .ok (.invokevirtual 135, 3) := by decide +kernel
theorem dX7_best_8 : decode cX7_best 8 = .ok (.istore_n 1, 1) := by decide +kernel
theorem dX7_best_9 : decode cX7_best 9 = .ok (.iload_n 1, 1) := by decide +kernel
theorem dX7_best_10 : decode cX7_best 10 = .ok (.ifCond .ne 5, 3) := by decide +kernel
theorem dX7_best_13 : decode cX7_best 13 = .ok (.iconst (-1), 1) := by decide +kernel
theorem dX7_best_14 : decode cX7_best 14 = .ok (.ireturn, 1) := by decide +kernel
theorem dX7_best_15 : decode cX7_best 15 = .ok (.iconst (-1), 1) := by decide +kernel
theorem dX7_best_16 : decode cX7_best 16 = .ok (.istore_n 2, 1) := by decide +kernel
theorem dX7_best_17 : decode cX7_best 17 = .ok (.iconst 0, 1) := by decide +kernel
theorem dX7_best_18 : decode cX7_best 18 = .ok (.istore_n 3, 1) := by decide +kernel
theorem dX7_best_19 : decode cX7_best 19 = .ok (.iconst 0, 1) := by decide +kernel
theorem dX7_best_20 : decode cX7_best 20 = .ok (.istore 4, 2) := by decide +kernel
theorem dX7_best_22 : decode cX7_best 22 = .ok (.iload 4, 2) := by decide +kernel
theorem dX7_best_24 : decode cX7_best 24 = .ok (.aload_n 0, 1) := by decide +kernel
theorem dX7_best_25 : decode cX7_best 25 = .ok (.getfield 10, 3) := by decide +kernel
theorem dX7_best_28 : decode cX7_best 28 = .ok (.getfield 83, 3) := by decide +kernel
theorem dX7_best_31 : decode cX7_best 31 = .ok (.if_icmp .ge 66, 3) := by decide +kernel
theorem dX7_best_34 : decode cX7_best 34 = .ok (.aload_n 0, 1) := by decide +kernel
theorem dX7_best_35 : decode cX7_best 35 = .ok (.getfield 10, 3) := by decide +kernel
theorem dX7_best_38 : decode cX7_best 38 = .ok (.iload 4, 2) := by decide +kernel
theorem dX7_best_40 : decode cX7_best 40 = .ok (.iload_n 1, 1) := by decide +kernel
theorem dX7_best_41 : decode cX7_best 41 = .ok (.invokevirtual 157, 3) := by decide +kernel
theorem dX7_best_44 : decode cX7_best 44 = .ok (.istore 5, 2) := by decide +kernel
theorem dX7_best_46 : decode cX7_best 46 = .ok (.iload_n 2, 1) := by decide +kernel
theorem dX7_best_47 : decode cX7_best 47 = .ok (.iconst (-1), 1) := by decide +kernel
theorem dX7_best_48 : decode cX7_best 48 = .ok (.if_icmp .eq 37, 3) := by decide +kernel
theorem dX7_best_51 : decode cX7_best 51 = .ok (.iload 5, 2) := by decide +kernel
theorem dX7_best_53 : decode cX7_best 53 = .ok (.iload_n 3, 1) := by decide +kernel
theorem dX7_best_54 : decode cX7_best 54 = .ok (.if_icmp .lt 31, 3) := by decide +kernel
theorem dX7_best_57 : decode cX7_best 57 = .ok (.iload 5, 2) := by decide +kernel
theorem dX7_best_59 : decode cX7_best 59 = .ok (.iload_n 3, 1) := by decide +kernel
theorem dX7_best_60 : decode cX7_best 60 = .ok (.if_icmp .ne 31, 3) := by decide +kernel
theorem dX7_best_63 : decode cX7_best 63 = .ok (.aload_n 0, 1) := by decide +kernel
theorem dX7_best_64 : decode cX7_best 64 = .ok (.getfield 10, 3) := by decide +kernel
theorem dX7_best_67 : decode cX7_best 67 = .ok (.getfield 105, 3) := by decide +kernel
theorem dX7_best_70 : decode cX7_best 70 = .ok (.iload 4, 2) := by decide +kernel
theorem dX7_best_72 : decode cX7_best 72 = .ok (.iaload, 1) := by decide +kernel
theorem dX7_best_73 : decode cX7_best 73 = .ok (.aload_n 0, 1) := by decide +kernel
theorem dX7_best_74 : decode cX7_best 74 = .ok (.getfield 10, 3) := by decide +kernel
theorem dX7_best_77 : decode cX7_best 77 = .ok (.getfield 105, 3) := by decide +kernel
theorem dX7_best_80 : decode cX7_best 80 = .ok (.iload_n 2, 1) := by decide +kernel
theorem dX7_best_81 : decode cX7_best 81 = .ok (.iaload, 1) := by decide +kernel
theorem dX7_best_82 : decode cX7_best 82 = .ok (.if_icmp .ge 9, 3) := by decide +kernel
theorem dX7_best_85 : decode cX7_best 85 = .ok (.iload 4, 2) := by decide +kernel
theorem dX7_best_87 : decode cX7_best 87 = .ok (.istore_n 2, 1) := by decide +kernel
theorem dX7_best_88 : decode cX7_best 88 = .ok (.iload 5, 2) := by decide +kernel
theorem dX7_best_90 : decode cX7_best 90 = .ok (.istore_n 3, 1) := by decide +kernel
theorem dX7_best_91 : decode cX7_best 91 = .ok (.iinc 4 1, 3) := by decide +kernel
theorem dX7_best_94 : decode cX7_best 94 = .ok (.goto (-72), 3) := by decide +kernel
theorem dX7_best_97 : decode cX7_best 97 = .ok (.iload_n 2, 1) := by decide +kernel
theorem dX7_best_98 : decode cX7_best 98 = .ok (.ireturn, 1) := by decide +kernel
theorem dX7_atOnce_0 : decode cX7_atOnce 0 = .ok (.iload_n 1, 1) := by decide +kernel
theorem dX7_atOnce_1 : decode cX7_atOnce 1 = .ok (.iconst 0, 1) := by decide +kernel
theorem dX7_atOnce_2 : decode cX7_atOnce 2 = .ok (.iconst 1, 1) := by decide +kernel
theorem dX7_atOnce_3 : decode cX7_atOnce 3 = .ok (.invokestatic 75, 3) := by decide +kernel
theorem dX7_atOnce_6 : decode cX7_atOnce 6 = .ok (.ifCond .ne 12, 3) := by decide +kernel
theorem dX7_atOnce_9 : decode cX7_atOnce 9 = .ok (.aload_n 0, 1) := by decide +kernel
theorem dX7_atOnce_10 : decode cX7_atOnce 10 = .ok (.bipush (-2), 2) := by decide +kernel
theorem dX7_atOnce_12 : decode cX7_atOnce 12 = .ok (.bipush (-2), 2) := by decide +kernel
theorem dX7_atOnce_14 : decode cX7_atOnce 14 = .ok (.invokevirtual 79, 3) := by decide +kernel
theorem dX7_atOnce_17 : decode cX7_atOnce 17 = .ok (.ireturn, 1) := by decide +kernel
theorem dX7_atOnce_18 : decode cX7_atOnce 18 = .ok (.aload_n 0, 1) := by decide +kernel
theorem dX7_atOnce_19 : decode cX7_atOnce 19 = .ok (.getfield 47, 3) := by decide +kernel
theorem dX7_atOnce_22 : decode cX7_atOnce 22 = .ok (.aload_n 0, 1) := by decide +kernel
theorem dX7_atOnce_23 : decode cX7_atOnce 23 = .ok (.getfield 10, 3) := by decide +kernel
theorem dX7_atOnce_26 : decode cX7_atOnce 26 = .ok (.aload_n 0, 1) := by decide +kernel
theorem dX7_atOnce_27 : decode cX7_atOnce 27 = .ok (.getfield 10, 3) := by decide +kernel
theorem dX7_atOnce_30 : decode cX7_atOnce 30 = .ok (.iconst 0, 1) := by decide +kernel
theorem dX7_atOnce_31 : decode cX7_atOnce 31 = .ok (.invokevirtual 135, 3) := by decide +kernel
theorem dX7_atOnce_34 : decode cX7_atOnce 34 = .ok (.iconst 0, 1) := by decide +kernel
theorem dX7_atOnce_35 : decode cX7_atOnce 35 = .ok (.iconst 0, 1) := by decide +kernel
theorem dX7_atOnce_36 : decode cX7_atOnce 36 = .ok (.invokevirtual 169, 3) := by decide +kernel
theorem dX7_atOnce_39 : decode cX7_atOnce 39 = .ok (.iload_n 1, 1) := by decide +kernel
theorem dX7_atOnce_40 : decode cX7_atOnce 40 = .ok (.ifCond .ne 13, 3) := by decide +kernel
theorem dX7_atOnce_43 : decode cX7_atOnce 43 = .ok (.aload_n 0, 1) := by decide +kernel
theorem dX7_atOnce_44 : decode cX7_atOnce 44 = .ok (.getfield 47, 3) := by decide +kernel
theorem dX7_atOnce_47 : decode cX7_atOnce 47 = .ok (.getfield 173, 3) := by decide +kernel
theorem dX7_atOnce_50 : decode cX7_atOnce 50 = .ok (.goto 10, 3) := by decide +kernel
theorem dX7_atOnce_53 : decode cX7_atOnce 53 = .ok (.aload_n 0, 1) := by decide +kernel
theorem dX7_atOnce_54 : decode cX7_atOnce 54 = .ok (.getfield 47, 3) := by decide +kernel
theorem dX7_atOnce_57 : decode cX7_atOnce 57 = .ok (.getfield 176, 3) := by decide +kernel
theorem dX7_atOnce_60 : decode cX7_atOnce 60 = .ok (.ireturn, 1) := by decide +kernel
theorem dX7_oneByOne_0 : decode cX7_oneByOne 0 = .ok (.iload_n 1, 1) := by decide +kernel
theorem dX7_oneByOne_1 : decode cX7_oneByOne 1 = .ok (.iconst 0, 1) := by decide +kernel
theorem dX7_oneByOne_2 : decode cX7_oneByOne 2 = .ok (.iconst 2, 1) := by decide +kernel
theorem dX7_oneByOne_3 : decode cX7_oneByOne 3 = .ok (.invokestatic 75, 3) := by decide +kernel
theorem dX7_oneByOne_6 : decode cX7_oneByOne 6 = .ok (.ifCond .ne 12, 3) := by decide +kernel
theorem dX7_oneByOne_9 : decode cX7_oneByOne 9 = .ok (.aload_n 0, 1) := by decide +kernel
theorem dX7_oneByOne_10 : decode cX7_oneByOne 10 = .ok (.bipush (-2), 2) := by decide +kernel
theorem dX7_oneByOne_12 : decode cX7_oneByOne 12 = .ok (.bipush (-2), 2) := by decide +kernel
theorem dX7_oneByOne_14 : decode cX7_oneByOne 14 = .ok (.invokevirtual 79, 3) := by decide +kernel
theorem dX7_oneByOne_17 : decode cX7_oneByOne 17 = .ok (.ireturn, 1) := by decide +kernel
theorem dX7_oneByOne_18 : decode cX7_oneByOne 18 = .ok (.aload_n 0, 1) := by decide +kernel
theorem dX7_oneByOne_19 : decode cX7_oneByOne 19 = .ok (.getfield 57, 3) := by decide +kernel
theorem dX7_oneByOne_22 : decode cX7_oneByOne 22 = .ok (.aload_n 0, 1) := by decide +kernel
theorem dX7_oneByOne_23 : decode cX7_oneByOne 23 = .ok (.getfield 10, 3) := by decide +kernel
theorem dX7_oneByOne_26 : decode cX7_oneByOne 26 = .ok (.aload_n 0, 1) := by decide +kernel
theorem dX7_oneByOne_27 : decode cX7_oneByOne 27 = .ok (.getfield 10, 3) := by decide +kernel
theorem dX7_oneByOne_30 : decode cX7_oneByOne 30 = .ok (.iconst 0, 1) := by decide +kernel
theorem dX7_oneByOne_31 : decode cX7_oneByOne 31 = .ok (.invokevirtual 135, 3) := by decide +kernel
theorem dX7_oneByOne_34 : decode cX7_oneByOne 34 = .ok (.invokevirtual 178, 3) := by decide +kernel
theorem dX7_oneByOne_37 : decode cX7_oneByOne 37 = .ok (.iload_n 1, 1) := by decide +kernel
theorem dX7_oneByOne_38 : decode cX7_oneByOne 38 = .ok (.lookupswitch 42 #[(0, 26), (1, 34)], 26) := by decide +kernel
theorem dX7_oneByOne_64 : decode cX7_oneByOne 64 = .ok (.aload_n 0, 1) := by decide +kernel
theorem dX7_oneByOne_65 : decode cX7_oneByOne 65 = .ok (.getfield 57, 3) := by decide +kernel
theorem dX7_oneByOne_68 : decode cX7_oneByOne 68 = .ok (.getfield 182, 3) := by decide +kernel
theorem dX7_oneByOne_71 : decode cX7_oneByOne 71 = .ok (.ireturn, 1) := by decide +kernel
theorem dX7_oneByOne_72 : decode cX7_oneByOne 72 = .ok (.aload_n 0, 1) := by decide +kernel
theorem dX7_oneByOne_73 : decode cX7_oneByOne 73 = .ok (.getfield 57, 3) := by decide +kernel
theorem dX7_oneByOne_76 : decode cX7_oneByOne 76 = .ok (.getfield 183, 3) := by decide +kernel
theorem dX7_oneByOne_79 : decode cX7_oneByOne 79 = .ok (.ireturn, 1) := by decide +kernel
theorem dX7_oneByOne_80 : decode cX7_oneByOne 80 = .ok (.aload_n 0, 1) := by decide +kernel
theorem dX7_oneByOne_81 : decode cX7_oneByOne 81 = .ok (.getfield 57, 3) := by decide +kernel
theorem dX7_oneByOne_84 : decode cX7_oneByOne 84 = .ok (.getfield 186, 3) := by decide +kernel
theorem dX7_oneByOne_87 : decode cX7_oneByOne 87 = .ok (.ireturn, 1) := by decide +kernel
theorem dX7_oneWrong_0 : decode cX7_oneWrong 0 = .ok (.aload_n 0, 1) := by decide +kernel
theorem dX7_oneWrong_1 : decode cX7_oneWrong 1 = .ok (.getfield 10, 3) := by decide +kernel
theorem dX7_oneWrong_4 : decode cX7_oneWrong 4 = .ok (.iconst 1, 1) := by decide +kernel
theorem dX7_oneWrong_5 : decode cX7_oneWrong 5 = .ok (.invokevirtual 135, 3) := by decide +kernel
theorem dX7_oneWrong_8 : decode cX7_oneWrong 8 = .ok (.ireturn, 1) := by decide +kernel
theorem dX7_knows_0 : decode cX7_knows 0 = .ok (.aload_n 0, 1) := by decide +kernel
theorem dX7_knows_1 : decode cX7_knows 1 = .ok (.iload_n 1, 1) := by decide +kernel
theorem dX7_knows_2 : decode cX7_knows 2 = .ok (.invokevirtual 91, 3) := by decide +kernel
theorem dX7_knows_5 : decode cX7_knows 5 = .ok (.ifCond .eq 35, 3) := by decide +kernel
theorem dX7_knows_8 : decode cX7_knows 8 = .ok (.iload_n 2, 1) := by decide +kernel
theorem dX7_knows_9 : decode cX7_knows 9 = .ok (.iconst 0, 1) := by decide +kernel
theorem dX7_knows_10 : decode cX7_knows 10 = .ok (.aload_n 0, 1) := by decide +kernel
theorem dX7_knows_11 : decode cX7_knows 11 = .ok (.getfield 10, 3) := by decide +kernel
theorem dX7_knows_14 : decode cX7_knows 14 = .ok (.invokevirtual 189, 3) := by decide +kernel
theorem dX7_knows_17 : decode cX7_knows 17 = .ok (.invokestatic 75, 3) := by decide +kernel
theorem dX7_knows_20 : decode cX7_knows 20 = .ok (.ifCond .eq 20, 3) := by decide +kernel
theorem dX7_knows_23 : decode cX7_knows 23 = .ok (.iload_n 3, 1) := by decide +kernel
theorem dX7_knows_24 : decode cX7_knows 24 = .ok (.iconst 0, 1) := by decide +kernel
theorem dX7_knows_25 : decode cX7_knows 25 = .ok (.iconst 1, 1) := by decide +kernel
theorem dX7_knows_26 : decode cX7_knows 26 = .ok (.invokestatic 75, 3) := by decide +kernel
theorem dX7_knows_29 : decode cX7_knows 29 = .ok (.ifCond .eq 11, 3) := by decide +kernel
theorem dX7_knows_32 : decode cX7_knows 32 = .ok (.iload_n 2, 1) := by decide +kernel
theorem dX7_knows_33 : decode cX7_knows 33 = .ok (.iload_n 1, 1) := by decide +kernel
theorem dX7_knows_34 : decode cX7_knows 34 = .ok (.ishr, 1) := by decide +kernel
theorem dX7_knows_35 : decode cX7_knows 35 = .ok (.iconst 1, 1) := by decide +kernel
theorem dX7_knows_36 : decode cX7_knows 36 = .ok (.iand, 1) := by decide +kernel
theorem dX7_knows_37 : decode cX7_knows 37 = .ok (.ifCond .ne 12, 3) := by decide +kernel
theorem dX7_knows_40 : decode cX7_knows 40 = .ok (.aload_n 0, 1) := by decide +kernel
theorem dX7_knows_41 : decode cX7_knows 41 = .ok (.bipush (-2), 2) := by decide +kernel
theorem dX7_knows_43 : decode cX7_knows 43 = .ok (.bipush (-10), 2) := by decide +kernel
theorem dX7_knows_45 : decode cX7_knows 45 = .ok (.invokevirtual 79, 3) := by decide +kernel
