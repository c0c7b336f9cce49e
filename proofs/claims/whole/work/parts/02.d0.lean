theorem dX0_init_0 : decode cX0_init 0 = .ok (.aload_n 0, 1) := by decide +kernel
theorem dX0_init_1 : decode cX0_init 1 = .ok (.invokespecial 3, 3) := by decide +kernel
theorem dX0_init_4 : decode cX0_init 4 = .ok (.return_, 1) := by decide +kernel
theorem dX0_oneStall_0 : decode cX0_oneStall 0 = .ok (.iload_n 2, 1) := by decide +kernel
theorem dX0_oneStall_1 : decode cX0_oneStall 1 = .ok (.aload_n 0, 1) := by decide +kernel
theorem dX0_oneStall_2 : decode cX0_oneStall 2 = .ok (.iload_n 2, 1) := by decide +kernel
theorem dX0_oneStall_3 : decode cX0_oneStall 3 = .ok (.invokestatic 9, 3) := by decide +kernel
theorem dX0_oneStall_6 : decode cX0_oneStall 6 = .ok (.invokevirtual 15, 3) := by decide +kernel
theorem dX0_oneStall_9 : decode cX0_oneStall 9 = .ok (.invokestatic 20, 3) := by decide +kernel
theorem dX0_oneStall_12 : decode cX0_oneStall 12 = .ok (.istore_n 3, 1) := by decide +kernel
theorem dX0_oneStall_13 : decode cX0_oneStall 13 = .ok (.iload_n 2, 1) := by decide +kernel
theorem dX0_oneStall_14 : decode cX0_oneStall 14 = .ok (.istore 4, 2) := by decide +kernel
theorem dX0_oneStall_16 : decode cX0_oneStall 16 = .ok (.iconst 0, 1) := by decide +kernel
theorem dX0_oneStall_17 : decode cX0_oneStall 17 = .ok (.istore 5, 2) := by decide +kernel
theorem dX0_oneStall_19 : decode cX0_oneStall 19 = .ok (.iconst 0, 1) := by decide +kernel
theorem dX0_oneStall_20 : decode cX0_oneStall 20 = .ok (.istore 6, 2) := by decide +kernel
theorem dX0_oneStall_22 : decode cX0_oneStall 22 = .ok (.iload 6, 2) := by decide +kernel
theorem dX0_oneStall_24 : decode cX0_oneStall 24 = .ok (.bipush 12, 2) := by decide +kernel
theorem dX0_oneStall_26 : decode cX0_oneStall 26 = .ok (.if_icmp .ge 57, 3) := by decide +kernel
theorem dX0_oneStall_29 : decode cX0_oneStall 29 = .ok (.iload 4, 2) := by decide +kernel
theorem dX0_oneStall_31 : decode cX0_oneStall 31 = .ok (.invokestatic 9, 3) := by decide +kernel
theorem dX0_oneStall_34 : decode cX0_oneStall 34 = .ok (.iconst 1, 1) := by decide +kernel
theorem dX0_oneStall_35 : decode cX0_oneStall 35 = .ok (.if_icmp .le 48, 3) := by decide +kernel
theorem dX0_oneStall_38 : decode cX0_oneStall 38 = .ok (.aload_n 0, 1) := by decide +kernel
theorem dX0_oneStall_39 : decode cX0_oneStall 39 = .ok (.aload_n 1, 1) := by decide +kernel
theorem dX0_oneStall_40 : decode cX0_oneStall 40 = .ok (.getfield 24, 3) := by decide +kernel
theorem dX0_oneStall_43 : decode cX0_oneStall 43 = .ok (.invokevirtual 15, 3) := by decide +kernel
theorem dX0_oneStall_46 : decode cX0_oneStall 46 = .ok (.istore 7, 2) := by decide +kernel
theorem dX0_oneStall_48 : decode cX0_oneStall 48 = .ok (.iload 5, 2) := by decide +kernel
theorem dX0_oneStall_50 : decode cX0_oneStall 50 = .ok (.aload_n 1, 1) := by decide +kernel
theorem dX0_oneStall_51 : decode cX0_oneStall 51 = .ok (.getfield 30, 3) := by decide +kernel
theorem dX0_oneStall_54 : decode cX0_oneStall 54 = .ok (.iload 7, 2) := by decide +kernel
theorem dX0_oneStall_56 : decode cX0_oneStall 56 = .ok (.iaload, 1) := by decide +kernel
theorem dX0_oneStall_57 : decode cX0_oneStall 57 = .ok (.iadd, 1) := by decide +kernel
theorem dX0_oneStall_58 : decode cX0_oneStall 58 = .ok (.istore 5, 2) := by decide +kernel
theorem dX0_oneStall_60 : decode cX0_oneStall 60 = .ok (.iload 4, 2) := by decide +kernel
theorem dX0_oneStall_62 : decode cX0_oneStall 62 = .ok (.aload_n 1, 1) := by decide +kernel
theorem dX0_oneStall_63 : decode cX0_oneStall 63 = .ok (.getfield 34, 3) := by decide +kernel
theorem dX0_oneStall_66 : decode cX0_oneStall 66 = .ok (.iload 7, 2) := by decide +kernel
theorem dX0_oneStall_68 : decode cX0_oneStall 68 = .ok (.bipush 16, 2) := by decide +kernel
theorem dX0_oneStall_70 : decode cX0_oneStall 70 = .ok (.imul, 1) := by decide +kernel
theorem dX0_oneStall_71 : decode cX0_oneStall 71 = .ok (.iload_n 3, 1) := by decide +kernel
theorem dX0_oneStall_72 : decode cX0_oneStall 72 = .ok (.iadd, 1) := by decide +kernel
theorem dX0_oneStall_73 : decode cX0_oneStall 73 = .ok (.iaload, 1) := by decide +kernel
theorem dX0_oneStall_74 : decode cX0_oneStall 74 = .ok (.iand, 1) := by decide +kernel
theorem dX0_oneStall_75 : decode cX0_oneStall 75 = .ok (.istore 4, 2) := by decide +kernel
theorem dX0_oneStall_77 : decode cX0_oneStall 77 = .ok (.iinc 6 1, 3) := by decide +kernel
theorem dX0_oneStall_80 : decode cX0_oneStall 80 = .ok (.goto (-58), 3) := by decide +kernel
theorem dX0_oneStall_83 : decode cX0_oneStall 83 = .ok (.iload 5, 2) := by decide +kernel
theorem dX0_oneStall_85 : decode cX0_oneStall 85 = .ok (.ireturn, 1) := by decide +kernel
theorem dX0_pick_0 : decode cX0_pick 0 = .ok (.aload_n 0, 1) := by decide +kernel
theorem dX0_pick_1 : decode cX0_pick 1 = .ok (.aload_n 0, 1) := by decide +kernel
theorem dX0_pick_2 : decode cX0_pick 2 = .ok (.getfield 37, 3) := by decide +kernel
theorem dX0_pick_5 : decode cX0_pick 5 = .ok (.ldc2_w 41, 3) := by decide +kernel
theorem dX0_pick_8 : decode cX0_pick 8 = .ok (.lmul, 1) := by decide +kernel
theorem dX0_pick_9 : decode cX0_pick 9 = .ok (.ldc2_w 43, 3) := by decide +kernel
theorem dX0_pick_12 : decode cX0_pick 12 = .ok (.ladd, 1) := by decide +kernel
theorem dX0_pick_13 : decode cX0_pick 13 = .ok (.ldc2_w 45, 3) := by decide +kernel
theorem dX0_pick_16 : decode cX0_pick 16 = .ok (.lrem, 1) := by decide +kernel
theorem dX0_pick_17 : decode cX0_pick 17 = .ok (.putfield 37, 3) := by decide +kernel
theorem dX0_pick_20 : decode cX0_pick 20 = .ok (.iload_n 1, 1) := by decide +kernel
theorem dX0_pick_21 : decode cX0_pick 21 = .ok (.iconst 1, 1) := by decide +kernel
theorem dX0_pick_22 : decode cX0_pick 22 = .ok (.if_icmp .ge 7, 3) := by decide +kernel
theorem dX0_pick_25 : decode cX0_pick 25 = .ok (.iconst 0, 1) := by decide +kernel
theorem dX0_pick_26 : decode cX0_pick 26 = .ok (.goto 15, 3) := by decide +kernel
theorem dX0_pick_29 : decode cX0_pick 29 = .ok (.aload_n 0, 1) := by decide +kernel
theorem dX0_pick_30 : decode cX0_pick 30 = .ok (.getfield 37, 3) := by decide +kernel
theorem dX0_pick_33 : decode cX0_pick 33 = .ok (.ldc2_w 47, 3) := by decide +kernel
theorem dX0_pick_36 : decode cX0_pick 36 = .ok (.ldiv, 1) := by decide +kernel
theorem dX0_pick_37 : decode cX0_pick 37 = .ok (.iload_n 1, 1) := by decide +kernel
theorem dX0_pick_38 : decode cX0_pick 38 = .ok (.i2l, 1) := by decide +kernel
theorem dX0_pick_39 : decode cX0_pick 39 = .ok (.lrem, 1) := by decide +kernel
theorem dX0_pick_40 : decode cX0_pick 40 = .ok (.l2i, 1) := by decide +kernel
theorem dX0_pick_41 : decode cX0_pick 41 = .ok (.ireturn, 1) := by decide +kernel
theorem dX0_bitAt_0 : decode cX0_bitAt 0 = .ok (.iconst 0, 1) := by decide +kernel
theorem dX0_bitAt_1 : decode cX0_bitAt 1 = .ok (.istore_n 2, 1) := by decide +kernel
theorem dX0_bitAt_2 : decode cX0_bitAt 2 = .ok (.iconst 0, 1) := by decide +kernel
theorem dX0_bitAt_3 : decode cX0_bitAt 3 = .ok (.istore_n 3, 1) := by decide +kernel
theorem dX0_bitAt_4 : decode cX0_bitAt 4 = .ok (.iload_n 3, 1) := by decide +kernel
theorem dX0_bitAt_5 : decode cX0_bitAt 5 = .ok (.bipush 16, 2) := by decide +kernel
theorem dX0_bitAt_7 : decode cX0_bitAt 7 = .ok (.if_icmp .ge 28, 3) := by decide +kernel
theorem dX0_bitAt_10 : decode cX0_bitAt 10 = .ok (.iload_n 0, 1) := by decide +kernel
theorem dX0_bitAt_11 : decode cX0_bitAt 11 = .ok (.iload_n 3, 1) := by decide +kernel
theorem dX0_bitAt_12 : decode cX0_bitAt 12 = .ok (.ishr, 1) := by decide +kernel
theorem dX0_bitAt_13 : decode cX0_bitAt 13 = .ok (.iconst 1, 1) := by decide +kernel
theorem dX0_bitAt_14 : decode cX0_bitAt 14 = .ok (.iand, 1) := by decide +kernel
theorem dX0_bitAt_15 : decode cX0_bitAt 15 = .ok (.iconst 1, 1) := by decide +kernel
theorem dX0_bitAt_16 : decode cX0_bitAt 16 = .ok (.if_icmp .ne 13, 3) := by decide +kernel
theorem dX0_bitAt_19 : decode cX0_bitAt 19 = .ok (.iload_n 2, 1) := by decide +kernel
theorem dX0_bitAt_20 : decode cX0_bitAt 20 = .ok (.iload_n 1, 1) := by decide +kernel
theorem dX0_bitAt_21 : decode cX0_bitAt 21 = .ok (.if_icmp .ne 5, 3) := by decide +kernel
theorem dX0_bitAt_24 : decode cX0_bitAt 24 = .ok (.iload_n 3, 1) := by decide +kernel
theorem dX0_bitAt_25 : decode cX0_bitAt 25 = .ok (.ireturn, 1) := by decide +kernel
theorem dX0_bitAt_26 : decode cX0_bitAt 26 = .ok (.iinc 2 1, 3) := by decide +kernel
theorem dX0_bitAt_29 : decode cX0_bitAt 29 = .ok (.iinc 3 1, 3) := by decide +kernel
theorem dX0_bitAt_32 : decode cX0_bitAt 32 = .ok (.goto (-28), 3) := by decide +kernel
theorem dX0_bitAt_35 : decode cX0_bitAt 35 = .ok (.iconst 0, 1) := by decide +kernel
theorem dX0_bitAt_36 : decode cX0_bitAt 36 = .ok (.ireturn, 1) := by decide +kernel
theorem dX1_init_0 : decode cX1_init 0 = .ok (.aload_n 0, 1) := by decide +kernel
theorem dX1_init_1 : decode cX1_init 1 = .ok (.invokespecial 1, 3) := by decide +kernel
theorem dX1_init_4 : decode cX1_init 4 = .ok (.aload_n 0, 1) := by decide +kernel
theorem dX1_init_5 : decode cX1_init 5 = .ok (.lconst 0, 1) := by decide +kernel
theorem dX1_init_6 : decode cX1_init 6 = .ok (.putfield 7, 3) := by decide +kernel
theorem dX1_init_9 : decode cX1_init 9 = .ok (.aload_n 0, 1) := by decide +kernel
theorem dX1_init_10 : decode cX1_init 10 = .ok (.lconst 1, 1) := by decide +kernel
theorem dX1_init_11 : decode cX1_init 11 = .ok (.putfield 13, 3) := by decide +kernel
theorem dX1_init_14 : decode cX1_init 14 = .ok (.return_, 1) := by decide +kernel
theorem dX1_become_0 : decode cX1_become 0 = .ok (.lload_n 1, 1) := by decide +kernel
theorem dX1_become_1 : decode cX1_become 1 = .ok (.lload_n 3, 1) := by decide +kernel
theorem dX1_become_2 : decode cX1_become 2 = .ok (.invokestatic 16, 3) := by decide +kernel
theorem dX1_become_5 : decode cX1_become 5 = .ok (.lstore 5, 2) := by decide +kernel
theorem dX1_become_7 : decode cX1_become 7 = .ok (.lload_n 3, 1) := by decide +kernel
theorem dX1_become_8 : decode cX1_become 8 = .ok (.lconst 0, 1) := by decide +kernel
theorem dX1_become_9 : decode cX1_become 9 = .ok (.lcmp, 1) := by decide +kernel
theorem dX1_become_10 : decode cX1_become 10 = .ok (.ifCond .le 26, 3) := by decide +kernel
theorem dX1_become_13 : decode cX1_become 13 = .ok (.lload 5, 2) := by decide +kernel
theorem dX1_become_15 : decode cX1_become 15 = .ok (.lconst 0, 1) := by decide +kernel
theorem dX1_become_16 : decode cX1_become 16 = .ok (.lcmp, 1) := by decide +kernel
theorem dX1_become_17 : decode cX1_become 17 = .ok (.ifCond .le 19, 3) := by decide +kernel
theorem dX1_become_20 : decode cX1_become 20 = .ok (.aload_n 0, 1) := by decide +kernel
theorem dX1_become_21 : decode cX1_become 21 = .ok (.lload_n 1, 1) := by decide +kernel
theorem dX1_become_22 : decode cX1_become 22 = .ok (.lload 5, 2) := by decide +kernel
theorem dX1_become_24 : decode cX1_become 24 = .ok (.ldiv, 1) := by decide +kernel
theorem dX1_become_25 : decode cX1_become 25 = .ok (.putfield 7, 3) := by decide +kernel
theorem dX1_become_28 : decode cX1_become 28 = .ok (.aload_n 0, 1) := by decide +kernel
theorem dX1_become_29 : decode cX1_become 29 = .ok (.lload_n 3, 1) := by decide +kernel
theorem dX1_become_30 : decode cX1_become 30 = .ok (.lload 5, 2) := by decide +kernel
theorem dX1_become_32 : decode cX1_become 32 = .ok (.ldiv, 1) := by decide +kernel
theorem dX1_become_33 : decode cX1_become 33 = .ok (.putfield 13, 3) := by decide +kernel
theorem dX1_become_36 : decode cX1_become 36 = .ok (.return_, 1) := by decide +kernel
theorem dX1_commonDivisor_0 : decode cX1_commonDivisor 0 = .ok (.lload_n 0, 1) := by decide +kernel
theorem dX1_commonDivisor_1 : decode cX1_commonDivisor 1 = .ok (.lstore 4, 2) := by decide +kernel
theorem dX1_commonDivisor_3 : decode cX1_commonDivisor 3 = .ok (.lload_n 2, 1) := by decide +kernel
theorem dX1_commonDivisor_4 : decode cX1_commonDivisor 4 = .ok (.lstore 6, 2) := by decide +kernel
theorem dX1_commonDivisor_6 : decode cX1_commonDivisor 6 = .ok (.iconst 0, 1) := by decide +kernel
theorem dX1_commonDivisor_7 : decode cX1_commonDivisor 7 = .ok (.istore 8, 2) := by decide +kernel
theorem dX1_commonDivisor_9 : decode cX1_commonDivisor 9 = .ok (.iload 8, 2) := by decide +kernel
theorem dX1_commonDivisor_11 : decode cX1_commonDivisor 11 = .ok (.sipush 200, 3) := by decide +kernel
theorem dX1_commonDivisor_14 : decode cX1_commonDivisor 14 = .ok (.if_icmp .ge 31, 3) := by decide +kernel
theorem dX1_commonDivisor_17 : decode cX1_commonDivisor 17 = .ok (.lload 6, 2) := by decide +kernel
theorem dX1_commonDivisor_19 : decode cX1_commonDivisor 19 = .ok (.lconst 0, 1) := by decide +kernel
theorem dX1_commonDivisor_20 : decode cX1_commonDivisor 20 = .ok (.lcmp, 1) := by decide +kernel
theorem dX1_commonDivisor_21 : decode cX1_commonDivisor 21 = .ok (.ifCond .eq 24, 3) := by decide +kernel
theorem dX1_commonDivisor_24 : decode cX1_commonDivisor 24 = .ok (.lload 4, 2) := by decide +kernel
theorem dX1_commonDivisor_26 : decode cX1_commonDivisor 26 = .ok (.lload 6, 2) := by decide +kernel
theorem dX1_commonDivisor_28 : decode cX1_commonDivisor 28 = .ok (.lrem, 1) := by decide +kernel
theorem dX1_commonDivisor_29 : decode cX1_commonDivisor 29 = .ok (.lstore 9, 2) := by decide +kernel
theorem dX1_commonDivisor_31 : decode cX1_commonDivisor 31 = .ok (.lload 6, 2) := by decide +kernel
theorem dX1_commonDivisor_33 : decode cX1_commonDivisor 33 = .ok (.lstore 4, 2) := by decide +kernel
theorem dX1_commonDivisor_35 : decode cX1_commonDivisor 35 = .ok (.lload 9, 2) := by decide +kernel
theorem dX1_commonDivisor_37 : decode cX1_commonDivisor 37 = .ok (.lstore 6, 2) := by decide +kernel
theorem dX1_commonDivisor_39 : decode cX1_commonDivisor 39 = .ok (.iinc 8 1, 3) := by decide +kernel
theorem dX1_commonDivisor_42 : decode cX1_commonDivisor 42 = .ok (.goto (-33), 3) := by decide +kernel
theorem dX1_commonDivisor_45 : decode cX1_commonDivisor 45 = .ok (.lload 4, 2) := by decide +kernel
theorem dX1_commonDivisor_47 : decode cX1_commonDivisor 47 = .ok (.lreturn, 1) := by decide +kernel
theorem dX2_init_0 : decode cX2_init 0 = .ok (.aload_n 0, 1) := by decide +kernel
theorem dX2_init_1 : decode cX2_init 1 = .ok (.invokespecial 3, 3) := by decide +kernel
theorem dX2_init_4 : decode cX2_init 4 = .ok (.aload_n 0, 1) := by decide +kernel
theorem dX2_init_5 : decode cX2_init 5 = .ok (.sipush 2048, 3) := by decide +kernel
theorem dX2_init_8 : decode cX2_init 8 = .ok (.newarray .int, 2) := by decide +kernel
theorem dX2_init_10 : decode cX2_init 10 = .ok (.putfield 9, 3) := by decide +kernel
theorem dX2_init_13 : decode cX2_init 13 = .ok (.aload_n 0, 1) := by decide +kernel
theorem dX2_init_14 : decode cX2_init 14 = .ok (.sipush 2048, 3) := by decide +kernel
theorem dX2_init_17 : decode cX2_init 17 = .ok (.newarray .int, 2) := by decide +kernel
theorem dX2_init_19 : decode cX2_init 19 = .ok (.putfield 15, 3) := by decide +kernel
theorem dX2_init_22 : decode cX2_init 22 = .ok (.return_, 1) := by decide +kernel
theorem dX2_lay_0 : decode cX2_lay 0 = .ok (.aload_n 0, 1) := by decide +kernel
theorem dX2_lay_1 : decode cX2_lay 1 = .ok (.iconst 0, 1) := by decide +kernel
theorem dX2_lay_2 : decode cX2_lay 2 = .ok (.putfield 18, 3) := by decide +kernel
theorem dX2_lay_5 : decode cX2_lay 5 = .ok (.aload_n 0, 1) := by decide +kernel
theorem dX2_lay_6 : decode cX2_lay 6 = .ok (.iconst (-1), 1) := by decide +kernel
theorem dX2_lay_7 : decode cX2_lay 7 = .ok (.putfield 22, 3) := by decide +kernel
theorem dX2_lay_10 : decode cX2_lay 10 = .ok (.aload_n 0, 1) := by decide +kernel
theorem dX2_lay_11 : decode cX2_lay 11 = .ok (.iconst 0, 1) := by decide +kernel
theorem dX2_lay_12 : decode cX2_lay 12 = .ok (.putfield 25, 3) := by decide +kernel
theorem dX2_lay_15 : decode cX2_lay 15 = .ok (.aload_n 1, 1) := by decide +kernel
theorem dX2_lay_16 : decode cX2_lay 16 = .ok (.invokevirtual 28, 3) := by decide +kernel
theorem dX2_lay_19 : decode cX2_lay 19 = .ok (.iconst 1, 1) := by decide +kernel
theorem dX2_lay_20 : decode cX2_lay 20 = .ok (.isub, 1) := by decide +kernel
theorem dX2_lay_21 : decode cX2_lay 21 = .ok (.istore_n 3, 1) := by decide +kernel
theorem dX2_lay_22 : decode cX2_lay 22 = .ok (.iload_n 3, 1) := by decide +kernel
theorem dX2_lay_23 : decode cX2_lay 23 = .ok (.ifCond .lt 70, 3) := by decide +kernel
theorem dX2_lay_26 : decode cX2_lay 26 = .ok (.iload_n 2, 1) := by decide +kernel
theorem dX2_lay_27 : decode cX2_lay 27 = .ok (.istore 4, 2) := by decide +kernel
theorem dX2_lay_29 : decode cX2_lay 29 = .ok (.iconst 0, 1) := by decide +kernel
theorem dX2_lay_30 : decode cX2_lay 30 = .ok (.istore 5, 2) := by decide +kernel
theorem dX2_lay_32 : decode cX2_lay 32 = .ok (.iload 5, 2) := by decide +kernel
theorem dX2_lay_34 : decode cX2_lay 34 = .ok (.aload_n 1, 1) := by decide +kernel
theorem dX2_lay_35 : decode cX2_lay 35 = .ok (.getfield 34, 3) := by decide +kernel
theorem dX2_lay_38 : decode cX2_lay 38 = .ok (.if_icmp .ge 49, 3) := by decide +kernel
theorem dX2_lay_41 : decode cX2_lay 41 = .ok (.iload 4, 2) := by decide +kernel
theorem dX2_lay_43 : decode cX2_lay 43 = .ok (.iload 5, 2) := by decide +kernel
theorem dX2_lay_45 : decode cX2_lay 45 = .ok (.ishr, 1) := by decide +kernel
theorem dX2_lay_46 : decode cX2_lay 46 = .ok (.iconst 1, 1) := by decide +kernel
theorem dX2_lay_47 : decode cX2_lay 47 = .ok (.iand, 1) := by decide +kernel
theorem dX2_lay_48 : decode cX2_lay 48 = .ok (.iconst 1, 1) := by decide +kernel
theorem dX2_lay_49 : decode cX2_lay 49 = .ok (.if_icmp .ne 32, 3) := by decide +kernel
theorem dX2_lay_52 : decode cX2_lay 52 = .ok (.aload_n 1, 1) := by decide +kernel
theorem dX2_lay_53 : decode cX2_lay 53 = .ok (.iload_n 3, 1) := by decide +kernel
theorem dX2_lay_54 : decode cX2_lay 54 = .ok (.iload 5, 2) := by decide +kernel
theorem dX2_lay_56 : decode cX2_lay 56 = .ok (.iload_n 2, 1) := by decide +kernel
theorem dX2_lay_57 : decode cX2_lay 57 = .ok (.invokevirtual 37, 3) := by decide +kernel
theorem dX2_lay_60 : decode cX2_lay 60 = .ok (.istore 6, 2) := by decide +kernel
theorem dX2_lay_62 : decode cX2_lay 62 = .ok (.iload 4, 2) := by decide +kernel
theorem dX2_lay_64 : decode cX2_lay 64 = .ok (.iload 6, 2) := by decide +kernel
theorem dX2_lay_66 : decode cX2_lay 66 = .ok (.iconst (-1), 1) := by decide +kernel
theorem dX2_lay_67 : decode cX2_lay 67 = .ok (.ixor, 1) := by decide +kernel
theorem dX2_lay_68 : decode cX2_lay 68 = .ok (.iand, 1) := by decide +kernel
theorem dX2_lay_69 : decode cX2_lay 69 = .ok (.istore 4, 2) := by decide +kernel
theorem dX2_lay_71 : decode cX2_lay 71 = .ok (.aload_n 0, 1) := by decide +kernel
theorem dX2_lay_72 : decode cX2_lay 72 = .ok (.aload_n 1, 1) := by decide +kernel
theorem dX2_lay_73 : decode cX2_lay 73 = .ok (.iload_n 3, 1) := by decide +kernel
theorem dX2_lay_74 : decode cX2_lay 74 = .ok (.iload 5, 2) := by decide +kernel
theorem dX2_lay_76 : decode cX2_lay 76 = .ok (.iload 6, 2) := by decide +kernel
theorem dX2_lay_78 : decode cX2_lay 78 = .ok (.invokevirtual 41, 3) := by decide +kernel
theorem dX2_lay_81 : decode cX2_lay 81 = .ok (.iinc 5 1, 3) := by decide +kernel
theorem dX2_lay_84 : decode cX2_lay 84 = .ok (.goto (-52), 3) := by decide +kernel
theorem dX2_lay_87 : decode cX2_lay 87 = .ok (.iinc 3 (-1), 3) := by decide +kernel
theorem dX2_lay_90 : decode cX2_lay 90 = .ok (.goto (-68), 3) := by decide +kernel
theorem dX2_lay_93 : decode cX2_lay 93 = .ok (.return_, 1) := by decide +kernel
theorem dX2_settle_0 : decode cX2_settle 0 = .ok (.aload_n 0, 1) := by decide +kernel
theorem dX2_settle_1 : decode cX2_settle 1 = .ok (.iconst (-1), 1) := by decide +kernel
theorem dX2_settle_2 : decode cX2_settle 2 = .ok (.putfield 18, 3) := by decide +kernel
theorem dX2_settle_5 : decode cX2_settle 5 = .ok (.aload_n 0, 1) := by decide +kernel
theorem dX2_settle_6 : decode cX2_settle 6 = .ok (.iconst (-1), 1) := by decide +kernel
theorem dX2_settle_7 : decode cX2_settle 7 = .ok (.putfield 22, 3) := by decide +kernel
theorem dX2_settle_10 : decode cX2_settle 10 = .ok (.aload_n 0, 1) := by decide +kernel
theorem dX2_settle_11 : decode cX2_settle 11 = .ok (.iconst (-1), 1) := by decide +kernel
theorem dX2_settle_12 : decode cX2_settle 12 = .ok (.putfield 25, 3) := by decide +kernel
theorem dX2_settle_15 : decode cX2_settle 15 = .ok (.iload 4, 2) := by decide +kernel
theorem dX2_settle_17 : decode cX2_settle 17 = .ok (.iconst 1, 1) := by decide +kernel
theorem dX2_settle_18 : decode cX2_settle 18 = .ok (.iload_n 3, 1) := by decide +kernel
theorem dX2_settle_19 : decode cX2_settle 19 = .ok (.ishl, 1) := by decide +kernel
theorem dX2_settle_20 : decode cX2_settle 20 = .ok (.if_icmp .ne 16, 3) := by decide +kernel
theorem dX2_settle_23 : decode cX2_settle 23 = .ok (.aload_n 0, 1) := by decide +kernel
theorem dX2_settle_24 : decode cX2_settle 24 = .ok (.iconst 0, 1) := by decide +kernel
theorem dX2_settle_25 : decode cX2_settle 25 = .ok (.putfield 18, 3) := by decide +kernel
theorem dX2_settle_28 : decode cX2_settle 28 = .ok (.aload_n 0, 1) := by decide +kernel
theorem dX2_settle_29 : decode cX2_settle 29 = .ok (.iconst 0, 1) := by decide +kernel
theorem dX2_settle_30 : decode cX2_settle 30 = .ok (.putfield 25, 3) := by decide +kernel
theorem dX2_settle_33 : decode cX2_settle 33 = .ok (.goto 11, 3) := by decide +kernel
theorem dX2_settle_36 : decode cX2_settle 36 = .ok (.aload_n 0, 1) := by decide +kernel
theorem dX2_settle_37 : decode cX2_settle 37 = .ok (.aload_n 1, 1) := by decide +kernel
theorem dX2_settle_38 : decode cX2_settle 38 = .ok (.iload_n 2, 1) := by decide +kernel
theorem dX2_settle_39 : decode cX2_settle 39 = .ok (.iload 4, 2) := by decide +kernel
theorem dX2_settle_41 : decode cX2_settle 41 = .ok (.invokevirtual 45, 3) := by decide +kernel
theorem dX2_settle_44 : decode cX2_settle 44 = .ok (.aload_n 0, 1) := by decide +kernel
theorem dX2_settle_45 : decode cX2_settle 45 = .ok (.getfield 9, 3) := by decide +kernel
theorem dX2_settle_48 : decode cX2_settle 48 = .ok (.iload_n 2, 1) := by decide +kernel
theorem dX2_settle_49 : decode cX2_settle 49 = .ok (.bipush 16, 2) := by decide +kernel
theorem dX2_settle_51 : decode cX2_settle 51 = .ok (.imul, 1) := by decide +kernel
theorem dX2_settle_52 : decode cX2_settle 52 = .ok (.iload_n 3, 1) := by decide +kernel
theorem dX2_settle_53 : decode cX2_settle 53 = .ok (.iadd, 1) := by decide +kernel
theorem dX2_settle_54 : decode cX2_settle 54 = .ok (.aload_n 0, 1) := by decide +kernel
theorem dX2_settle_55 : decode cX2_settle 55 = .ok (.getfield 18, 3) := by decide +kernel
theorem dX2_settle_58 : decode cX2_settle 58 = .ok (.iastore, 1) := by decide +kernel
theorem dX2_settle_59 : decode cX2_settle 59 = .ok (.aload_n 0, 1) := by decide +kernel
theorem dX2_settle_60 : decode cX2_settle 60 = .ok (.getfield 15, 3) := by decide +kernel
theorem dX2_settle_63 : decode cX2_settle 63 = .ok (.iload_n 2, 1) := by decide +kernel
theorem dX2_settle_64 : decode cX2_settle 64 = .ok (.bipush 16, 2) := by decide +kernel
theorem dX2_settle_66 : decode cX2_settle 66 = .ok (.imul, 1) := by decide +kernel
theorem dX2_settle_67 : decode cX2_settle 67 = .ok (.iload_n 3, 1) := by decide +kernel
theorem dX2_settle_68 : decode cX2_settle 68 = .ok (.iadd, 1) := by decide +kernel
theorem dX2_settle_69 : decode cX2_settle 69 = .ok (.aload_n 0, 1) := by decide +kernel
theorem dX2_settle_70 : decode cX2_settle 70 = .ok (.getfield 25, 3) := by decide +kernel
theorem dX2_settle_73 : decode cX2_settle 73 = .ok (.iastore, 1) := by decide +kernel
theorem dX2_settle_74 : decode cX2_settle 74 = .ok (.return_, 1) := by decide +kernel
theorem dX2_chooseNext_0 : decode cX2_chooseNext 0 = .ok (.iconst 0, 1) := by decide +kernel
theorem dX2_chooseNext_1 : decode cX2_chooseNext 1 = .ok (.istore 4, 2) := by decide +kernel
theorem dX2_chooseNext_3 : decode cX2_chooseNext 3 = .ok (.iload 4, 2) := by decide +kernel
theorem dX2_chooseNext_5 : decode cX2_chooseNext 5 = .ok (.aload_n 1, 1) := by decide +kernel
theorem dX2_chooseNext_6 : decode cX2_chooseNext 6 = .ok (.getfield 49, 3) := by decide +kernel
theorem dX2_chooseNext_9 : decode cX2_chooseNext 9 = .ok (.if_icmp .ge 95, 3) := by decide +kernel
theorem dX2_chooseNext_12 : decode cX2_chooseNext 12 = .ok (.iload_n 2, 1) := by decide +kernel
theorem dX2_chooseNext_13 : decode cX2_chooseNext 13 = .ok (.iload 4, 2) := by decide +kernel
theorem dX2_chooseNext_15 : decode cX2_chooseNext 15 = .ok (.ishr, 1) := by decide +kernel
theorem dX2_chooseNext_16 : decode cX2_chooseNext 16 = .ok (.iconst 1, 1) := by decide +kernel
theorem dX2_chooseNext_17 : decode cX2_chooseNext 17 = .ok (.iand, 1) := by decide +kernel
theorem dX2_chooseNext_18 : decode cX2_chooseNext 18 = .ok (.ifCond .ne 80, 3) := by decide +kernel
theorem dX2_chooseNext_21 : decode cX2_chooseNext 21 = .ok (.aload_n 1, 1) := by decide +kernel
theorem dX2_chooseNext_22 : decode cX2_chooseNext 22 = .ok (.iload 4, 2) := by decide +kernel
theorem dX2_chooseNext_24 : decode cX2_chooseNext 24 = .ok (.iload_n 3, 1) := by decide +kernel
theorem dX2_chooseNext_25 : decode cX2_chooseNext 25 = .ok (.invokevirtual 52, 3) := by decide +kernel
theorem dX2_chooseNext_28 : decode cX2_chooseNext 28 = .ok (.iconst 1, 1) := by decide +kernel
theorem dX2_chooseNext_29 : decode cX2_chooseNext 29 = .ok (.if_icmp .le 69, 3) := by decide +kernel
theorem dX2_chooseNext_32 : decode cX2_chooseNext 32 = .ok (.aload_n 0, 1) := by decide +kernel
theorem dX2_chooseNext_33 : decode cX2_chooseNext 33 = .ok (.aload_n 0, 1) := by decide +kernel
theorem dX2_chooseNext_34 : decode cX2_chooseNext 34 = .ok (.getfield 9, 3) := by decide +kernel
theorem dX2_chooseNext_37 : decode cX2_chooseNext 37 = .ok (.aload_n 1, 1) := by decide +kernel
theorem dX2_chooseNext_38 : decode cX2_chooseNext 38 = .ok (.iload_n 2, 1) := by decide +kernel
theorem dX2_chooseNext_39 : decode cX2_chooseNext 39 = .ok (.iload 4, 2) := by decide +kernel
theorem dX2_chooseNext_41 : decode cX2_chooseNext 41 = .ok (.iload_n 3, 1) := by decide +kernel
theorem dX2_chooseNext_42 : decode cX2_chooseNext 42 = .ok (.invokevirtual 56, 3) := by decide +kernel
theorem dX2_chooseNext_45 : decode cX2_chooseNext 45 = .ok (.istore 5, 2) := by decide +kernel
theorem dX2_chooseNext_47 : decode cX2_chooseNext 47 = .ok (.iload 5, 2) := by decide +kernel
theorem dX2_chooseNext_49 : decode cX2_chooseNext 49 = .ok (.iconst (-1), 1) := by decide +kernel
theorem dX2_chooseNext_50 : decode cX2_chooseNext 50 = .ok (.if_icmp .eq 48, 3) := by decide +kernel
theorem dX2_chooseNext_53 : decode cX2_chooseNext 53 = .ok (.aload_n 0, 1) := by decide +kernel
theorem dX2_chooseNext_54 : decode cX2_chooseNext 54 = .ok (.getfield 22, 3) := by decide +kernel
theorem dX2_chooseNext_57 : decode cX2_chooseNext 57 = .ok (.iconst (-1), 1) := by decide +kernel
theorem dX2_chooseNext_58 : decode cX2_chooseNext 58 = .ok (.if_icmp .eq 20, 3) := by decide +kernel
theorem dX2_chooseNext_61 : decode cX2_chooseNext 61 = .ok (.aload_n 1, 1) := by decide +kernel
theorem dX2_chooseNext_62 : decode cX2_chooseNext 62 = .ok (.getfield 60, 3) := by decide +kernel
theorem dX2_chooseNext_65 : decode cX2_chooseNext 65 = .ok (.iload 4, 2) := by decide +kernel
theorem dX2_chooseNext_67 : decode cX2_chooseNext 67 = .ok (.iaload, 1) := by decide +kernel
theorem dX2_chooseNext_68 : decode cX2_chooseNext 68 = .ok (.iload 5, 2) := by decide +kernel
theorem dX2_chooseNext_70 : decode cX2_chooseNext 70 = .ok (.iadd, 1) := by decide +kernel
theorem dX2_chooseNext_71 : decode cX2_chooseNext 71 = .ok (.aload_n 0, 1) := by decide +kernel
theorem dX2_chooseNext_72 : decode cX2_chooseNext 72 = .ok (.getfield 18, 3) := by decide +kernel
theorem dX2_chooseNext_75 : decode cX2_chooseNext 75 = .ok (.if_icmp .ge 23, 3) := by decide +kernel
theorem dX2_chooseNext_78 : decode cX2_chooseNext 78 = .ok (.aload_n 0, 1) := by decide +kernel
theorem dX2_chooseNext_79 : decode cX2_chooseNext 79 = .ok (.iload 4, 2) := by decide +kernel
theorem dX2_chooseNext_81 : decode cX2_chooseNext 81 = .ok (.putfield 22, 3) := by decide +kernel
theorem dX2_chooseNext_84 : decode cX2_chooseNext 84 = .ok (.aload_n 0, 1) := by decide +kernel
theorem dX2_chooseNext_85 : decode cX2_chooseNext 85 = .ok (.aload_n 1, 1) := by decide +kernel
theorem dX2_chooseNext_86 : decode cX2_chooseNext 86 = .ok (.getfield 60, 3) := by decide +kernel
theorem dX2_chooseNext_89 : decode cX2_chooseNext 89 = .ok (.iload 4, 2) := by decide +kernel
theorem dX2_chooseNext_91 : decode cX2_chooseNext 91 = .ok (.iaload, 1) := by decide +kernel
theorem dX2_chooseNext_92 : decode cX2_chooseNext 92 = .ok (.iload 5, 2) := by decide +kernel
theorem dX2_chooseNext_94 : decode cX2_chooseNext 94 = .ok (.iadd, 1) := by decide +kernel
theorem dX2_chooseNext_95 : decode cX2_chooseNext 95 = .ok (.putfield 18, 3) := by decide +kernel
theorem dX2_chooseNext_98 : decode cX2_chooseNext 98 = .ok (.iinc 4 1, 3) := by decide +kernel
theorem dX2_chooseNext_101 : decode cX2_chooseNext 101 = .ok (.goto (-98), 3) := by decide +kernel
theorem dX2_chooseNext_104 : decode cX2_chooseNext 104 = .ok (.aload_n 0, 1) := by decide +kernel
theorem dX2_chooseNext_105 : decode cX2_chooseNext 105 = .ok (.getfield 22, 3) := by decide +kernel
theorem dX2_chooseNext_108 : decode cX2_chooseNext 108 = .ok (.iconst (-1), 1) := by decide +kernel
theorem dX2_chooseNext_109 : decode cX2_chooseNext 109 = .ok (.if_icmp .eq 24, 3) := by decide +kernel
theorem dX2_chooseNext_112 : decode cX2_chooseNext 112 = .ok (.aload_n 0, 1) := by decide +kernel
theorem dX2_chooseNext_113 : decode cX2_chooseNext 113 = .ok (.iconst 1, 1) := by decide +kernel
theorem dX2_chooseNext_114 : decode cX2_chooseNext 114 = .ok (.aload_n 0, 1) := by decide +kernel
theorem dX2_chooseNext_115 : decode cX2_chooseNext 115 = .ok (.aload_n 0, 1) := by decide +kernel
theorem dX2_chooseNext_116 : decode cX2_chooseNext 116 = .ok (.getfield 15, 3) := by decide +kernel
theorem dX2_chooseNext_119 : decode cX2_chooseNext 119 = .ok (.aload_n 1, 1) := by decide +kernel
theorem dX2_chooseNext_120 : decode cX2_chooseNext 120 = .ok (.iload_n 2, 1) := by decide +kernel
theorem dX2_chooseNext_121 : decode cX2_chooseNext 121 = .ok (.aload_n 0, 1) := by decide +kernel
theorem dX2_chooseNext_122 : decode cX2_chooseNext 122 = .ok (.getfield 22, 3) := by decide +kernel
theorem dX2_chooseNext_125 : decode cX2_chooseNext 125 = .ok (.iload_n 3, 1) := by decide +kernel
theorem dX2_chooseNext_126 : decode cX2_chooseNext 126 = .ok (.invokevirtual 56, 3) := by decide +kernel
theorem dX2_chooseNext_129 : decode cX2_chooseNext 129 = .ok (.iadd, 1) := by decide +kernel
theorem dX2_chooseNext_130 : decode cX2_chooseNext 130 = .ok (.putfield 25, 3) := by decide +kernel
theorem dX2_chooseNext_133 : decode cX2_chooseNext 133 = .ok (.return_, 1) := by decide +kernel
theorem dX2_worstOf_0 : decode cX2_worstOf 0 = .ok (.iconst 0, 1) := by decide +kernel
theorem dX2_worstOf_1 : decode cX2_worstOf 1 = .ok (.istore 6, 2) := by decide +kernel
theorem dX2_worstOf_3 : decode cX2_worstOf 3 = .ok (.iload 5, 2) := by decide +kernel
theorem dX2_worstOf_5 : decode cX2_worstOf 5 = .ok (.istore 7, 2) := by decide +kernel
theorem dX2_worstOf_7 : decode cX2_worstOf 7 = .ok (.iconst 0, 1) := by decide +kernel
theorem dX2_worstOf_8 : decode cX2_worstOf 8 = .ok (.istore 8, 2) := by decide +kernel
theorem dX2_worstOf_10 : decode cX2_worstOf 10 = .ok (.iload 8, 2) := by decide +kernel
theorem dX2_worstOf_12 : decode cX2_worstOf 12 = .ok (.aload_n 2, 1) := by decide +kernel
theorem dX2_worstOf_13 : decode cX2_worstOf 13 = .ok (.getfield 34, 3) := by decide +kernel
theorem dX2_worstOf_16 : decode cX2_worstOf 16 = .ok (.if_icmp .ge 73, 3) := by decide +kernel
theorem dX2_worstOf_19 : decode cX2_worstOf 19 = .ok (.iload 7, 2) := by decide +kernel
theorem dX2_worstOf_21 : decode cX2_worstOf 21 = .ok (.iload 8, 2) := by decide +kernel
theorem dX2_worstOf_23 : decode cX2_worstOf 23 = .ok (.ishr, 1) := by decide +kernel
theorem dX2_worstOf_24 : decode cX2_worstOf 24 = .ok (.iconst 1, 1) := by decide +kernel
theorem dX2_worstOf_25 : decode cX2_worstOf 25 = .ok (.iand, 1) := by decide +kernel
theorem dX2_worstOf_26 : decode cX2_worstOf 26 = .ok (.iconst 1, 1) := by decide +kernel
theorem dX2_worstOf_27 : decode cX2_worstOf 27 = .ok (.if_icmp .ne 56, 3) := by decide +kernel
theorem dX2_worstOf_30 : decode cX2_worstOf 30 = .ok (.aload_n 1, 1) := by decide +kernel
theorem dX2_worstOf_31 : decode cX2_worstOf 31 = .ok (.iload_n 3, 1) := by decide +kernel
theorem dX2_worstOf_32 : decode cX2_worstOf 32 = .ok (.iconst 1, 1) := by decide +kernel
theorem dX2_worstOf_33 : decode cX2_worstOf 33 = .ok (.iload 4, 2) := by decide +kernel
theorem dX2_worstOf_35 : decode cX2_worstOf 35 = .ok (.ishl, 1) := by decide +kernel
theorem dX2_worstOf_36 : decode cX2_worstOf 36 = .ok (.ior, 1) := by decide +kernel
theorem dX2_worstOf_37 : decode cX2_worstOf 37 = .ok (.bipush 16, 2) := by decide +kernel
theorem dX2_worstOf_39 : decode cX2_worstOf 39 = .ok (.imul, 1) := by decide +kernel
theorem dX2_worstOf_40 : decode cX2_worstOf 40 = .ok (.iload 8, 2) := by decide +kernel
theorem dX2_worstOf_42 : decode cX2_worstOf 42 = .ok (.iadd, 1) := by decide +kernel
theorem dX2_worstOf_43 : decode cX2_worstOf 43 = .ok (.iaload, 1) := by decide +kernel
theorem dX2_worstOf_44 : decode cX2_worstOf 44 = .ok (.istore 9, 2) := by decide +kernel
theorem dX2_worstOf_46 : decode cX2_worstOf 46 = .ok (.iload 9, 2) := by decide +kernel
theorem dX2_worstOf_48 : decode cX2_worstOf 48 = .ok (.iconst (-1), 1) := by decide +kernel
theorem dX2_worstOf_49 : decode cX2_worstOf 49 = .ok (.if_icmp .ne 5, 3) := by decide +kernel
theorem dX2_worstOf_52 : decode cX2_worstOf 52 = .ok (.iconst (-1), 1) := by decide +kernel
theorem dX2_worstOf_53 : decode cX2_worstOf 53 = .ok (.ireturn, 1) := by decide +kernel
theorem dX2_worstOf_54 : decode cX2_worstOf 54 = .ok (.iload 6, 2) := by decide +kernel
theorem dX2_worstOf_56 : decode cX2_worstOf 56 = .ok (.iload 9, 2) := by decide +kernel
theorem dX2_worstOf_58 : decode cX2_worstOf 58 = .ok (.invokestatic 62, 3) := by decide +kernel
theorem dX2_worstOf_61 : decode cX2_worstOf 61 = .ok (.istore 6, 2) := by decide +kernel
theorem dX2_worstOf_63 : decode cX2_worstOf 63 = .ok (.iload 7, 2) := by decide +kernel
theorem dX2_worstOf_65 : decode cX2_worstOf 65 = .ok (.aload_n 2, 1) := by decide +kernel
theorem dX2_worstOf_66 : decode cX2_worstOf 66 = .ok (.getfield 67, 3) := by decide +kernel
theorem dX2_worstOf_69 : decode cX2_worstOf 69 = .ok (.iload 4, 2) := by decide +kernel
theorem dX2_worstOf_71 : decode cX2_worstOf 71 = .ok (.bipush 16, 2) := by decide +kernel
theorem dX2_worstOf_73 : decode cX2_worstOf 73 = .ok (.imul, 1) := by decide +kernel
theorem dX2_worstOf_74 : decode cX2_worstOf 74 = .ok (.iload 8, 2) := by decide +kernel
theorem dX2_worstOf_76 : decode cX2_worstOf 76 = .ok (.iadd, 1) := by decide +kernel
theorem dX2_worstOf_77 : decode cX2_worstOf 77 = .ok (.iaload, 1) := by decide +kernel
theorem dX2_worstOf_78 : decode cX2_worstOf 78 = .ok (.iconst (-1), 1) := by decide +kernel
theorem dX2_worstOf_79 : decode cX2_worstOf 79 = .ok (.ixor, 1) := by decide +kernel
theorem dX2_worstOf_80 : decode cX2_worstOf 80 = .ok (.iand, 1) := by decide +kernel
theorem dX2_worstOf_81 : decode cX2_worstOf 81 = .ok (.istore 7, 2) := by decide +kernel
theorem dX2_worstOf_83 : decode cX2_worstOf 83 = .ok (.iinc 8 1, 3) := by decide +kernel
theorem dX2_worstOf_86 : decode cX2_worstOf 86 = .ok (.goto (-76), 3) := by decide +kernel
theorem dX2_worstOf_89 : decode cX2_worstOf 89 = .ok (.iload 6, 2) := by decide +kernel
theorem dX2_worstOf_91 : decode cX2_worstOf 91 = .ok (.ireturn, 1) := by decide +kernel
theorem dX3_init_0 : decode cX3_init 0 = .ok (.aload_n 0, 1) := by decide +kernel
theorem dX3_init_1 : decode cX3_init 1 = .ok (.invokespecial 3, 3) := by decide +kernel
theorem dX3_init_4 : decode cX3_init 4 = .ok (.return_, 1) := by decide +kernel
theorem dX3_seek_0 : decode cX3_seek 0 = .ok (.aload_n 0, 1) := by decide +kernel
theorem dX3_seek_1 : decode cX3_seek 1 = .ok (.iconst (-1), 1) := by decide +kernel
theorem dX3_seek_2 : decode cX3_seek 2 = .ok (.putfield 9, 3) := by decide +kernel
theorem dX3_seek_5 : decode cX3_seek 5 = .ok (.aload_n 0, 1) := by decide +kernel
theorem dX3_seek_6 : decode cX3_seek 6 = .ok (.iconst (-1), 1) := by decide +kernel
theorem dX3_seek_7 : decode cX3_seek 7 = .ok (.putfield 15, 3) := by decide +kernel
theorem dX3_seek_10 : decode cX3_seek 10 = .ok (.iconst 0, 1) := by decide +kernel
theorem dX3_seek_11 : decode cX3_seek 11 = .ok (.istore 5, 2) := by decide +kernel
theorem dX3_seek_13 : decode cX3_seek 13 = .ok (.iload 5, 2) := by decide +kernel
theorem dX3_seek_15 : decode cX3_seek 15 = .ok (.aload_n 1, 1) := by decide +kernel
theorem dX3_seek_16 : decode cX3_seek 16 = .ok (.invokevirtual 18, 3) := by decide +kernel
theorem dX3_seek_19 : decode cX3_seek 19 = .ok (.if_icmp .ge 33, 3) := by decide +kernel
theorem dX3_seek_22 : decode cX3_seek 22 = .ok (.iload 5, 2) := by decide +kernel
theorem dX3_seek_24 : decode cX3_seek 24 = .ok (.iload_n 3, 1) := by decide +kernel
theorem dX3_seek_25 : decode cX3_seek 25 = .ok (.iand, 1) := by decide +kernel
theorem dX3_seek_26 : decode cX3_seek 26 = .ok (.iload_n 3, 1) := by decide +kernel
theorem dX3_seek_27 : decode cX3_seek 27 = .ok (.if_icmp .ne 19, 3) := by decide +kernel
theorem dX3_seek_30 : decode cX3_seek 30 = .ok (.iload 5, 2) := by decide +kernel
theorem dX3_seek_32 : decode cX3_seek 32 = .ok (.iload 4, 2) := by decide +kernel
theorem dX3_seek_34 : decode cX3_seek 34 = .ok (.iand, 1) := by decide +kernel
theorem dX3_seek_35 : decode cX3_seek 35 = .ok (.ifCond .ne 11, 3) := by decide +kernel
theorem dX3_seek_38 : decode cX3_seek 38 = .ok (.aload_n 0, 1) := by decide +kernel
theorem dX3_seek_39 : decode cX3_seek 39 = .ok (.aload_n 1, 1) := by decide +kernel
theorem dX3_seek_40 : decode cX3_seek 40 = .ok (.iload_n 2, 1) := by decide +kernel
theorem dX3_seek_41 : decode cX3_seek 41 = .ok (.iload 5, 2) := by decide +kernel
theorem dX3_seek_43 : decode cX3_seek 43 = .ok (.invokevirtual 24, 3) := by decide +kernel
theorem dX3_seek_46 : decode cX3_seek 46 = .ok (.iinc 5 1, 3) := by decide +kernel
theorem dX3_seek_49 : decode cX3_seek 49 = .ok (.goto (-36), 3) := by decide +kernel
theorem dX3_seek_52 : decode cX3_seek 52 = .ok (.return_, 1) := by decide +kernel
theorem dX3_weighUp_0 : decode cX3_weighUp 0 = .ok (.aload_n 1, 1) := by decide +kernel
theorem dX3_weighUp_1 : decode cX3_weighUp 1 = .ok (.iload_n 3, 1) := by decide +kernel
theorem dX3_weighUp_2 : decode cX3_weighUp 2 = .ok (.invokevirtual 28, 3) := by decide +kernel
theorem dX3_weighUp_5 : decode cX3_weighUp 5 = .ok (.istore 4, 2) := by decide +kernel
theorem dX3_weighUp_7 : decode cX3_weighUp 7 = .ok (.aload_n 0, 1) := by decide +kernel
theorem dX3_weighUp_8 : decode cX3_weighUp 8 = .ok (.getfield 9, 3) := by decide +kernel
theorem dX3_weighUp_11 : decode cX3_weighUp 11 = .ok (.iconst (-1), 1) := by decide +kernel
theorem dX3_weighUp_12 : decode cX3_weighUp 12 = .ok (.if_icmp .eq 35, 3) := by decide +kernel
theorem dX3_weighUp_15 : decode cX3_weighUp 15 = .ok (.iload 4, 2) := by decide +kernel
theorem dX3_weighUp_17 : decode cX3_weighUp 17 = .ok (.aload_n 0, 1) := by decide +kernel
theorem dX3_weighUp_18 : decode cX3_weighUp 18 = .ok (.getfield 15, 3) := by decide +kernel
theorem dX3_weighUp_21 : decode cX3_weighUp 21 = .ok (.if_icmp .lt 26, 3) := by decide +kernel
theorem dX3_weighUp_24 : decode cX3_weighUp 24 = .ok (.iload 4, 2) := by decide +kernel
theorem dX3_weighUp_26 : decode cX3_weighUp 26 = .ok (.aload_n 0, 1) := by decide +kernel
theorem dX3_weighUp_27 : decode cX3_weighUp 27 = .ok (.getfield 15, 3) := by decide +kernel
theorem dX3_weighUp_30 : decode cX3_weighUp 30 = .ok (.if_icmp .ne 21, 3) := by decide +kernel
theorem dX3_weighUp_33 : decode cX3_weighUp 33 = .ok (.iload_n 3, 1) := by decide +kernel
theorem dX3_weighUp_34 : decode cX3_weighUp 34 = .ok (.invokestatic 32, 3) := by decide +kernel
theorem dX3_weighUp_37 : decode cX3_weighUp 37 = .ok (.aload_n 0, 1) := by decide +kernel
theorem dX3_weighUp_38 : decode cX3_weighUp 38 = .ok (.getfield 9, 3) := by decide +kernel
theorem dX3_weighUp_41 : decode cX3_weighUp 41 = .ok (.invokestatic 32, 3) := by decide +kernel
theorem dX3_weighUp_44 : decode cX3_weighUp 44 = .ok (.if_icmp .ge 7, 3) := by decide +kernel
theorem dX3_weighUp_47 : decode cX3_weighUp 47 = .ok (.iconst 1, 1) := by decide +kernel
theorem dX3_weighUp_48 : decode cX3_weighUp 48 = .ok (.goto 4, 3) := by decide +kernel
theorem dX3_weighUp_51 : decode cX3_weighUp 51 = .ok (.iconst 0, 1) := by decide +kernel
theorem dX3_weighUp_52 : decode cX3_weighUp 52 = .ok (.istore 5, 2) := by decide +kernel
theorem dX3_weighUp_54 : decode cX3_weighUp 54 = .ok (.iload 5, 2) := by decide +kernel
theorem dX3_weighUp_56 : decode cX3_weighUp 56 = .ok (.ifCond .eq 23, 3) := by decide +kernel
theorem dX3_weighUp_59 : decode cX3_weighUp 59 = .ok (.aload_n 1, 1) := by decide +kernel
theorem dX3_weighUp_60 : decode cX3_weighUp 60 = .ok (.iload_n 3, 1) := by decide +kernel
theorem dX3_weighUp_61 : decode cX3_weighUp 61 = .ok (.iload_n 2, 1) := by decide +kernel
theorem dX3_weighUp_62 : decode cX3_weighUp 62 = .ok (.invokevirtual 37, 3) := by decide +kernel
theorem dX3_weighUp_65 : decode cX3_weighUp 65 = .ok (.ifCond .ne 14, 3) := by decide +kernel
theorem dX3_weighUp_68 : decode cX3_weighUp 68 = .ok (.aload_n 0, 1) := by decide +kernel
theorem dX3_weighUp_69 : decode cX3_weighUp 69 = .ok (.iload_n 3, 1) := by decide +kernel
theorem dX3_weighUp_70 : decode cX3_weighUp 70 = .ok (.putfield 9, 3) := by decide +kernel
theorem dX3_weighUp_73 : decode cX3_weighUp 73 = .ok (.aload_n 0, 1) := by decide +kernel
theorem dX3_weighUp_74 : decode cX3_weighUp 74 = .ok (.iload 4, 2) := by decide +kernel
theorem dX3_weighUp_76 : decode cX3_weighUp 76 = .ok (.putfield 15, 3) := by decide +kernel
theorem dX3_weighUp_79 : decode cX3_weighUp 79 = .ok (.return_, 1) := by decide +kernel
theorem dX3_winsWhenPenceAreLike_0 : decode cX3_winsWhenPenceAreLike 0 = .ok (.aload_n 0, 1) := by decide +kernel
theorem dX3_winsWhenPenceAreLike_1 : decode cX3_winsWhenPenceAreLike 1 = .ok (.getfield 9, 3) := by decide +kernel
theorem dX3_winsWhenPenceAreLike_4 : decode cX3_winsWhenPenceAreLike 4 = .ok (.invokestatic 32, 3) := by decide +kernel
theorem dX3_winsWhenPenceAreLike_7 : decode cX3_winsWhenPenceAreLike 7 = .ok (.istore_n 2, 1) := by decide +kernel
theorem dX3_winsWhenPenceAreLike_8 : decode cX3_winsWhenPenceAreLike 8 = .ok (.aload_n 1, 1) := by decide +kernel
theorem dX3_winsWhenPenceAreLike_9 : decode cX3_winsWhenPenceAreLike 9 = .ok (.getfield 9, 3) := by decide +kernel
theorem dX3_winsWhenPenceAreLike_12 : decode cX3_winsWhenPenceAreLike 12 = .ok (.invokestatic 32, 3) := by decide +kernel
theorem dX3_winsWhenPenceAreLike_15 : decode cX3_winsWhenPenceAreLike 15 = .ok (.istore_n 3, 1) := by decide +kernel
theorem dX3_winsWhenPenceAreLike_16 : decode cX3_winsWhenPenceAreLike 16 = .ok (.iload_n 2, 1) := by decide +kernel
theorem dX3_winsWhenPenceAreLike_17 : decode cX3_winsWhenPenceAreLike 17 = .ok (.iload_n 3, 1) := by decide +kernel
theorem dX3_winsWhenPenceAreLike_18 : decode cX3_winsWhenPenceAreLike 18 = .ok (.if_icmp .lt 19, 3) := by decide +kernel
theorem dX3_winsWhenPenceAreLike_21 : decode cX3_winsWhenPenceAreLike 21 = .ok (.iload_n 2, 1) := by decide +kernel
theorem dX3_winsWhenPenceAreLike_22 : decode cX3_winsWhenPenceAreLike 22 = .ok (.iload_n 3, 1) := by decide +kernel
theorem dX3_winsWhenPenceAreLike_23 : decode cX3_winsWhenPenceAreLike 23 = .ok (.if_icmp .ne 18, 3) := by decide +kernel
theorem dX3_winsWhenPenceAreLike_26 : decode cX3_winsWhenPenceAreLike 26 = .ok (.aload_n 0, 1) := by decide +kernel
theorem dX3_winsWhenPenceAreLike_27 : decode cX3_winsWhenPenceAreLike 27 = .ok (.getfield 9, 3) := by decide +kernel
theorem dX3_winsWhenPenceAreLike_30 : decode cX3_winsWhenPenceAreLike 30 = .ok (.aload_n 1, 1) := by decide +kernel
theorem dX3_winsWhenPenceAreLike_31 : decode cX3_winsWhenPenceAreLike 31 = .ok (.getfield 9, 3) := by decide +kernel
theorem dX3_winsWhenPenceAreLike_34 : decode cX3_winsWhenPenceAreLike 34 = .ok (.if_icmp .ge 7, 3) := by decide +kernel
theorem dX3_winsWhenPenceAreLike_37 : decode cX3_winsWhenPenceAreLike 37 = .ok (.iconst 1, 1) := by decide +kernel
theorem dX3_winsWhenPenceAreLike_38 : decode cX3_winsWhenPenceAreLike 38 = .ok (.goto 4, 3) := by decide +kernel
theorem dX3_winsWhenPenceAreLike_41 : decode cX3_winsWhenPenceAreLike 41 = .ok (.iconst 0, 1) := by decide +kernel
theorem dX3_winsWhenPenceAreLike_42 : decode cX3_winsWhenPenceAreLike 42 = .ok (.ireturn, 1) := by decide +kernel
theorem dX4_init_0 : decode cX4_init 0 = .ok (.aload_n 0, 1) := by decide +kernel
theorem dX4_init_1 : decode cX4_init 1 = .ok (.invokespecial 3, 3) := by decide +kernel
theorem dX4_init_4 : decode cX4_init 4 = .ok (.aload_n 0, 1) := by decide +kernel
theorem dX4_init_5 : decode cX4_init 5 = .ok (.sipush 150, 3) := by decide +kernel
theorem dX4_init_8 : decode cX4_init 8 = .ok (.newarray .byte, 2) := by decide +kernel
theorem dX4_init_10 : decode cX4_init 10 = .ok (.putfield 9, 3) := by decide +kernel
theorem dX4_init_13 : decode cX4_init 13 = .ok (.aload_n 0, 1) := by decide +kernel
theorem dX4_init_14 : decode cX4_init 14 = .ok (.new 15, 3) := by decide +kernel
theorem dX4_init_17 : decode cX4_init 17 = .ok (.dup, 1) := by decide +kernel
theorem dX4_init_18 : decode cX4_init 18 = .ok (.invokespecial 17, 3) := by decide +kernel
theorem dX4_init_21 : decode cX4_init 21 = .ok (.putfield 18, 3) := by decide +kernel
theorem dX4_init_24 : decode cX4_init 24 = .ok (.return_, 1) := by decide +kernel
theorem dX4_addByte_0 : decode cX4_addByte 0 = .ok (.aload_n 0, 1) := by decide +kernel
theorem dX4_addByte_1 : decode cX4_addByte 1 = .ok (.getfield 22, 3) := by decide +kernel
theorem dX4_addByte_4 : decode cX4_addByte 4 = .ok (.sipush 150, 3) := by decide +kernel
theorem dX4_addByte_7 : decode cX4_addByte 7 = .ok (.if_icmp .ge 24, 3) := by decide +kernel
theorem dX4_addByte_10 : decode cX4_addByte 10 = .ok (.aload_n 0, 1) := by decide +kernel
theorem dX4_addByte_11 : decode cX4_addByte 11 = .ok (.getfield 9, 3) := by decide +kernel
theorem dX4_addByte_14 : decode cX4_addByte 14 = .ok (.aload_n 0, 1) := by decide +kernel
theorem dX4_addByte_15 : decode cX4_addByte 15 = .ok (.getfield 22, 3) := by decide +kernel
theorem dX4_addByte_18 : decode cX4_addByte 18 = .ok (.iload_n 1, 1) := by decide +kernel
theorem dX4_addByte_19 : decode cX4_addByte 19 = .ok (.i2b, 1) := by decide +kernel
theorem dX4_addByte_20 : decode cX4_addByte 20 = .ok (.bastore, 1) := by decide +kernel
theorem dX4_addByte_21 : decode cX4_addByte 21 = .ok (.aload_n 0, 1) := by decide +kernel
theorem dX4_addByte_22 : decode cX4_addByte 22 = .ok (.dup, 1) := by decide +kernel
theorem dX4_addByte_23 : decode cX4_addByte 23 = .ok (.getfield 22, 3) := by decide +kernel
theorem dX4_addByte_26 : decode cX4_addByte 26 = .ok (.iconst 1, 1) := by decide +kernel
theorem dX4_addByte_27 : decode cX4_addByte 27 = .ok (.iadd, 1) := by decide +kernel
theorem dX4_addByte_28 : decode cX4_addByte 28 = .ok (.putfield 22, 3) := by decide +kernel
theorem dX4_addByte_31 : decode cX4_addByte 31 = .ok (.return_, 1) := by decide +kernel
theorem dX4_readItems_0 : decode cX4_readItems 0 = .ok (.aload_n 0, 1) := by decide +kernel
theorem dX4_readItems_1 : decode cX4_readItems 1 = .ok (.iconst 0, 1) := by decide +kernel
theorem dX4_readItems_2 : decode cX4_readItems 2 = .ok (.putfield 26, 3) := by decide +kernel
theorem dX4_readItems_5 : decode cX4_readItems 5 = .ok (.aload_n 0, 1) := by decide +kernel
theorem dX4_readItems_6 : decode cX4_readItems 6 = .ok (.invokevirtual 29, 3) := by decide +kernel
theorem dX4_readItems_9 : decode cX4_readItems 9 = .ok (.ifCond .ne 5, 3) := by decide +kernel
theorem dX4_readItems_12 : decode cX4_readItems 12 = .ok (.iconst (-1), 1) := by decide +kernel
theorem dX4_readItems_13 : decode cX4_readItems 13 = .ok (.ireturn, 1) := by decide +kernel
theorem dX4_readItems_14 : decode cX4_readItems 14 = .ok (.iconst 1, 1) := by decide +kernel
theorem dX4_readItems_15 : decode cX4_readItems 15 = .ok (.istore_n 1, 1) := by decide +kernel
theorem dX4_readItems_16 : decode cX4_readItems 16 = .ok (.iconst 0, 1) := by decide +kernel
theorem dX4_readItems_17 : decode cX4_readItems 17 = .ok (.istore_n 2, 1) := by decide +kernel
theorem dX4_readItems_18 : decode cX4_readItems 18 = .ok (.iload_n 2, 1) := by decide +kernel
theorem dX4_readItems_19 : decode cX4_readItems 19 = .ok (.sipush 150, 3) := by decide +kernel
theorem dX4_readItems_22 : decode cX4_readItems 22 = .ok (.if_icmp .ge 66, 3) := by decide +kernel
theorem dX4_readItems_25 : decode cX4_readItems 25 = .ok (.aload_n 0, 1) := by decide +kernel
theorem dX4_readItems_26 : decode cX4_readItems 26 = .ok (.invokevirtual 33, 3) := by decide +kernel
theorem dX4_readItems_29 : decode cX4_readItems 29 = .ok (.aload_n 0, 1) := by decide +kernel
theorem dX4_readItems_30 : decode cX4_readItems 30 = .ok (.getfield 36, 3) := by decide +kernel
theorem dX4_readItems_33 : decode cX4_readItems 33 = .ok (.ifCond .ne 5, 3) := by decide +kernel
theorem dX4_readItems_36 : decode cX4_readItems 36 = .ok (.iload_n 1, 1) := by decide +kernel
theorem dX4_readItems_37 : decode cX4_readItems 37 = .ok (.ireturn, 1) := by decide +kernel
theorem dX4_readItems_38 : decode cX4_readItems 38 = .ok (.aload_n 0, 1) := by decide +kernel
theorem dX4_readItems_39 : decode cX4_readItems 39 = .ok (.getfield 36, 3) := by decide +kernel
theorem dX4_readItems_42 : decode cX4_readItems 42 = .ok (.iconst 4, 1) := by decide +kernel
theorem dX4_readItems_43 : decode cX4_readItems 43 = .ok (.if_icmp .ne 10, 3) := by decide +kernel
theorem dX4_readItems_46 : decode cX4_readItems 46 = .ok (.aload_n 0, 1) := by decide +kernel
theorem dX4_readItems_47 : decode cX4_readItems 47 = .ok (.invokevirtual 39, 3) := by decide +kernel
theorem dX4_readItems_50 : decode cX4_readItems 50 = .ok (.goto 22, 3) := by decide +kernel
theorem dX4_readItems_53 : decode cX4_readItems 53 = .ok (.aload_n 0, 1) := by decide +kernel
theorem dX4_readItems_54 : decode cX4_readItems 54 = .ok (.invokevirtual 42, 3) := by decide +kernel
theorem dX4_readItems_57 : decode cX4_readItems 57 = .ok (.ifCond .eq 14, 3) := by decide +kernel
theorem dX4_readItems_60 : decode cX4_readItems 60 = .ok (.aload_n 0, 1) := by decide +kernel
theorem dX4_readItems_61 : decode cX4_readItems 61 = .ok (.invokevirtual 45, 3) := by decide +kernel
theorem dX4_readItems_64 : decode cX4_readItems 64 = .ok (.ifCond .eq 7, 3) := by decide +kernel
theorem dX4_readItems_67 : decode cX4_readItems 67 = .ok (.iconst 1, 1) := by decide +kernel
theorem dX4_readItems_68 : decode cX4_readItems 68 = .ok (.goto 4, 3) := by decide +kernel
theorem dX4_readItems_71 : decode cX4_readItems 71 = .ok (.iconst 0, 1) := by decide +kernel
theorem dX4_readItems_72 : decode cX4_readItems 72 = .ok (.istore_n 3, 1) := by decide +kernel
theorem dX4_readItems_73 : decode cX4_readItems 73 = .ok (.iload_n 3, 1) := by decide +kernel
theorem dX4_readItems_74 : decode cX4_readItems 74 = .ok (.ifCond .ne 5, 3) := by decide +kernel
theorem dX4_readItems_77 : decode cX4_readItems 77 = .ok (.iconst (-1), 1) := by decide +kernel
theorem dX4_readItems_78 : decode cX4_readItems 78 = .ok (.ireturn, 1) := by decide +kernel
theorem dX4_readItems_79 : decode cX4_readItems 79 = .ok (.iinc 1 1, 3) := by decide +kernel
theorem dX4_readItems_82 : decode cX4_readItems 82 = .ok (.iinc 2 1, 3) := by decide +kernel
theorem dX4_readItems_85 : decode cX4_readItems 85 = .ok (.goto (-67), 3) := by decide +kernel
theorem dX4_readItems_88 : decode cX4_readItems 88 = .ok (.iload_n 1, 1) := by decide +kernel
theorem dX4_readItems_89 : decode cX4_readItems 89 = .ok (.ireturn, 1) := by decide +kernel
theorem dX4_readFair_0 : decode cX4_readFair 0 = .ok (.aload_n 0, 1) := by decide +kernel
theorem dX4_readFair_1 : decode cX4_readFair 1 = .ok (.invokevirtual 33, 3) := by decide +kernel
theorem dX4_readFair_4 : decode cX4_readFair 4 = .ok (.aload_n 0, 1) := by decide +kernel
theorem dX4_readFair_5 : decode cX4_readFair 5 = .ok (.getfield 36, 3) := by decide +kernel
theorem dX4_readFair_8 : decode cX4_readFair 8 = .ok (.iconst 3, 1) := by decide +kernel
theorem dX4_readFair_9 : decode cX4_readFair 9 = .ok (.if_icmp .ne 13, 3) := by decide +kernel
theorem dX4_readFair_12 : decode cX4_readFair 12 = .ok (.aload_n 0, 1) := by decide +kernel
theorem dX4_readFair_13 : decode cX4_readFair 13 = .ok (.iconst 1, 1) := by decide +kernel
theorem dX4_readFair_14 : decode cX4_readFair 14 = .ok (.bipush 16, 2) := by decide +kernel
theorem dX4_readFair_16 : decode cX4_readFair 16 = .ok (.invokevirtual 48, 3) := by decide +kernel
theorem dX4_readFair_19 : decode cX4_readFair 19 = .ok (.ifCond .ne 5, 3) := by decide +kernel
theorem dX4_readFair_22 : decode cX4_readFair 22 = .ok (.iconst 0, 1) := by decide +kernel
theorem dX4_readFair_23 : decode cX4_readFair 23 = .ok (.ireturn, 1) := by decide +kernel
theorem dX4_readFair_24 : decode cX4_readFair 24 = .ok (.aload_n 0, 1) := by decide +kernel
theorem dX4_readFair_25 : decode cX4_readFair 25 = .ok (.getfield 18, 3) := by decide +kernel
theorem dX4_readFair_28 : decode cX4_readFair 28 = .ok (.aload_n 0, 1) := by decide +kernel
theorem dX4_readFair_29 : decode cX4_readFair 29 = .ok (.getfield 52, 3) := by decide +kernel
theorem dX4_readFair_32 : decode cX4_readFair 32 = .ok (.invokevirtual 55, 3) := by decide +kernel
theorem dX4_readFair_35 : decode cX4_readFair 35 = .ok (.aload_n 0, 1) := by decide +kernel
theorem dX4_readFair_36 : decode cX4_readFair 36 = .ok (.invokevirtual 59, 3) := by decide +kernel
theorem dX4_readFair_39 : decode cX4_readFair 39 = .ok (.ireturn, 1) := by decide +kernel
theorem dX4_mayAskMore_0 : decode cX4_mayAskMore 0 = .ok (.aload_n 0, 1) := by decide +kernel
theorem dX4_mayAskMore_1 : decode cX4_mayAskMore 1 = .ok (.getfield 36, 3) := by decide +kernel
theorem dX4_mayAskMore_4 : decode cX4_mayAskMore 4 = .ok (.iconst 5, 1) := by decide +kernel
theorem dX4_mayAskMore_5 : decode cX4_mayAskMore 5 = .ok (.if_icmp .ne 19, 3) := by decide +kernel
theorem dX4_mayAskMore_8 : decode cX4_mayAskMore 8 = .ok (.aload_n 0, 1) := by decide +kernel
theorem dX4_mayAskMore_9 : decode cX4_mayAskMore 9 = .ok (.getfield 18, 3) := by decide +kernel
theorem dX4_mayAskMore_12 : decode cX4_mayAskMore 12 = .ok (.getfield 62, 3) := by decide +kernel
theorem dX4_mayAskMore_15 : decode cX4_mayAskMore 15 = .ok (.bipush 7, 2) := by decide +kernel
theorem dX4_mayAskMore_17 : decode cX4_mayAskMore 17 = .ok (.if_icmp .ge 7, 3) := by decide +kernel
theorem dX4_mayAskMore_20 : decode cX4_mayAskMore 20 = .ok (.iconst 1, 1) := by decide +kernel
theorem dX4_mayAskMore_21 : decode cX4_mayAskMore 21 = .ok (.goto 4, 3) := by decide +kernel
theorem dX4_mayAskMore_24 : decode cX4_mayAskMore 24 = .ok (.iconst 0, 1) := by decide +kernel
theorem dX4_mayAskMore_25 : decode cX4_mayAskMore 25 = .ok (.ireturn, 1) := by decide +kernel
theorem dX4_readCase_0 : decode cX4_readCase 0 = .ok (.aload_n 0, 1) := by decide +kernel
theorem dX4_readCase_1 : decode cX4_readCase 1 = .ok (.iconst 0, 1) := by decide +kernel
theorem dX4_readCase_2 : decode cX4_readCase 2 = .ok (.aload_n 0, 1) := by decide +kernel
theorem dX4_readCase_3 : decode cX4_readCase 3 = .ok (.getfield 18, 3) := by decide +kernel
theorem dX4_readCase_6 : decode cX4_readCase 6 = .ok (.getfield 65, 3) := by decide +kernel
theorem dX4_readCase_9 : decode cX4_readCase 9 = .ok (.iconst 1, 1) := by decide +kernel
theorem dX4_readCase_10 : decode cX4_readCase 10 = .ok (.isub, 1) := by decide +kernel
theorem dX4_readCase_11 : decode cX4_readCase 11 = .ok (.invokevirtual 48, 3) := by decide +kernel
theorem dX4_readCase_14 : decode cX4_readCase 14 = .ok (.ifCond .ne 5, 3) := by decide +kernel
theorem dX4_readCase_17 : decode cX4_readCase 17 = .ok (.iconst 0, 1) := by decide +kernel
theorem dX4_readCase_18 : decode cX4_readCase 18 = .ok (.ireturn, 1) := by decide +kernel
theorem dX4_readCase_19 : decode cX4_readCase 19 = .ok (.aload_n 0, 1) := by decide +kernel
theorem dX4_readCase_20 : decode cX4_readCase 20 = .ok (.getfield 52, 3) := by decide +kernel
theorem dX4_readCase_23 : decode cX4_readCase 23 = .ok (.istore_n 1, 1) := by decide +kernel
theorem dX4_readCase_24 : decode cX4_readCase 24 = .ok (.aload_n 0, 1) := by decide +kernel
theorem dX4_readCase_25 : decode cX4_readCase 25 = .ok (.iconst 1, 1) := by decide +kernel
theorem dX4_readCase_26 : decode cX4_readCase 26 = .ok (.bipush 9, 2) := by decide +kernel
theorem dX4_readCase_28 : decode cX4_readCase 28 = .ok (.invokevirtual 48, 3) := by decide +kernel
theorem dX4_readCase_31 : decode cX4_readCase 31 = .ok (.ifCond .ne 5, 3) := by decide +kernel
theorem dX4_readCase_34 : decode cX4_readCase 34 = .ok (.iconst 0, 1) := by decide +kernel
theorem dX4_readCase_35 : decode cX4_readCase 35 = .ok (.ireturn, 1) := by decide +kernel
theorem dX4_readCase_36 : decode cX4_readCase 36 = .ok (.aload_n 0, 1) := by decide +kernel
theorem dX4_readCase_37 : decode cX4_readCase 37 = .ok (.getfield 18, 3) := by decide +kernel
theorem dX4_readCase_40 : decode cX4_readCase 40 = .ok (.getfield 68, 3) := by decide +kernel
theorem dX4_readCase_43 : decode cX4_readCase 43 = .ok (.iload_n 1, 1) := by decide +kernel
theorem dX4_readCase_44 : decode cX4_readCase 44 = .ok (.aload_n 0, 1) := by decide +kernel
theorem dX4_readCase_45 : decode cX4_readCase 45 = .ok (.getfield 52, 3) := by decide +kernel
theorem dX4_readCase_48 : decode cX4_readCase 48 = .ok (.iastore, 1) := by decide +kernel
theorem dX4_readCase_49 : decode cX4_readCase 49 = .ok (.aload_n 0, 1) := by decide +kernel
theorem dX4_readCase_50 : decode cX4_readCase 50 = .ok (.invokevirtual 59, 3) := by decide +kernel
theorem dX4_readCase_53 : decode cX4_readCase 53 = .ok (.ireturn, 1) := by decide +kernel
theorem dX4_readQuestion_0 : decode cX4_readQuestion 0 = .ok (.aload_n 0, 1) := by decide +kernel
theorem dX4_readQuestion_1 : decode cX4_readQuestion 1 = .ok (.iconst 0, 1) := by decide +kernel
theorem dX4_readQuestion_2 : decode cX4_readQuestion 2 = .ok (.iconst 5, 1) := by decide +kernel
theorem dX4_readQuestion_3 : decode cX4_readQuestion 3 = .ok (.invokevirtual 48, 3) := by decide +kernel
theorem dX4_readQuestion_6 : decode cX4_readQuestion 6 = .ok (.ifCond .ne 5, 3) := by decide +kernel
theorem dX4_readQuestion_9 : decode cX4_readQuestion 9 = .ok (.iconst 0, 1) := by decide +kernel
theorem dX4_readQuestion_10 : decode cX4_readQuestion 10 = .ok (.ireturn, 1) := by decide +kernel
theorem dX4_readQuestion_11 : decode cX4_readQuestion 11 = .ok (.aload_n 0, 1) := by decide +kernel
theorem dX4_readQuestion_12 : decode cX4_readQuestion 12 = .ok (.getfield 52, 3) := by decide +kernel
theorem dX4_readQuestion_15 : decode cX4_readQuestion 15 = .ok (.istore_n 1, 1) := by decide +kernel
theorem dX4_readQuestion_16 : decode cX4_readQuestion 16 = .ok (.aload_n 0, 1) := by decide +kernel
theorem dX4_readQuestion_17 : decode cX4_readQuestion 17 = .ok (.iconst 0, 1) := by decide +kernel
theorem dX4_readQuestion_18 : decode cX4_readQuestion 18 = .ok (.bipush 15, 2) := by decide +kernel
theorem dX4_readQuestion_20 : decode cX4_readQuestion 20 = .ok (.invokevirtual 48, 3) := by decide +kernel
theorem dX4_readQuestion_23 : decode cX4_readQuestion 23 = .ok (.ifCond .ne 5, 3) := by decide +kernel
theorem dX4_readQuestion_26 : decode cX4_readQuestion 26 = .ok (.iconst 0, 1) := by decide +kernel
theorem dX4_readQuestion_27 : decode cX4_readQuestion 27 = .ok (.ireturn, 1) := by decide +kernel
theorem dX4_readQuestion_28 : decode cX4_readQuestion 28 = .ok (.aload_n 0, 1) := by decide +kernel
theorem dX4_readQuestion_29 : decode cX4_readQuestion 29 = .ok (.getfield 52, 3) := by decide +kernel
theorem dX4_readQuestion_32 : decode cX4_readQuestion 32 = .ok (.istore_n 2, 1) := by decide +kernel
theorem dX4_readQuestion_33 : decode cX4_readQuestion 33 = .ok (.aload_n 0, 1) := by decide +kernel
theorem dX4_readQuestion_34 : decode cX4_readQuestion 34 = .ok (.iconst 0, 1) := by decide +kernel
theorem dX4_readQuestion_35 : decode cX4_readQuestion 35 = .ok (.bipush 99, 2) := by decide +kernel
theorem dX4_readQuestion_37 : decode cX4_readQuestion 37 = .ok (.invokevirtual 48, 3) := by decide +kernel
theorem dX4_readQuestion_40 : decode cX4_readQuestion 40 = .ok (.ifCond .ne 5, 3) := by decide +kernel
theorem dX4_readQuestion_43 : decode cX4_readQuestion 43 = .ok (.iconst 0, 1) := by decide +kernel
theorem dX4_readQuestion_44 : decode cX4_readQuestion 44 = .ok (.ireturn, 1) := by decide +kernel
theorem dX4_readQuestion_45 : decode cX4_readQuestion 45 = .ok (.aload_n 0, 1) := by decide +kernel
theorem dX4_readQuestion_46 : decode cX4_readQuestion 46 = .ok (.getfield 18, 3) := by decide +kernel
theorem dX4_readQuestion_49 : decode cX4_readQuestion 49 = .ok (.iload_n 1, 1) := by decide +kernel
theorem dX4_readQuestion_50 : decode cX4_readQuestion 50 = .ok (.iload_n 2, 1) := by decide +kernel
theorem dX4_readQuestion_51 : decode cX4_readQuestion 51 = .ok (.aload_n 0, 1) := by decide +kernel
theorem dX4_readQuestion_52 : decode cX4_readQuestion 52 = .ok (.getfield 52, 3) := by decide +kernel
theorem dX4_readQuestion_55 : decode cX4_readQuestion 55 = .ok (.invokevirtual 72, 3) := by decide +kernel
theorem dX4_readQuestion_58 : decode cX4_readQuestion 58 = .ok (.aload_n 0, 1) := by decide +kernel
theorem dX4_readQuestion_59 : decode cX4_readQuestion 59 = .ok (.invokevirtual 59, 3) := by decide +kernel
theorem dX4_readQuestion_62 : decode cX4_readQuestion 62 = .ok (.ireturn, 1) := by decide +kernel
theorem dX4_stepToNumber_0 : decode cX4_stepToNumber 0 = .ok (.aload_n 0, 1) := by decide +kernel
theorem dX4_stepToNumber_1 : decode cX4_stepToNumber 1 = .ok (.invokevirtual 33, 3) := by decide +kernel
theorem dX4_stepToNumber_4 : decode cX4_stepToNumber 4 = .ok (.aload_n 0, 1) := by decide +kernel
theorem dX4_stepToNumber_5 : decode cX4_stepToNumber 5 = .ok (.getfield 36, 3) := by decide +kernel
theorem dX4_stepToNumber_8 : decode cX4_stepToNumber 8 = .ok (.iconst 1, 1) := by decide +kernel
theorem dX4_stepToNumber_9 : decode cX4_stepToNumber 9 = .ok (.if_icmp .ne 19, 3) := by decide +kernel
theorem dX4_stepToNumber_12 : decode cX4_stepToNumber 12 = .ok (.aload_n 0, 1) := by decide +kernel
theorem dX4_stepToNumber_13 : decode cX4_stepToNumber 13 = .ok (.getfield 52, 3) := by decide +kernel
theorem dX4_stepToNumber_16 : decode cX4_stepToNumber 16 = .ok (.iload_n 1, 1) := by decide +kernel
theorem dX4_stepToNumber_17 : decode cX4_stepToNumber 17 = .ok (.iload_n 2, 1) := by decide +kernel
theorem dX4_stepToNumber_18 : decode cX4_stepToNumber 18 = .ok (.invokestatic 76, 3) := by decide +kernel
theorem dX4_stepToNumber_21 : decode cX4_stepToNumber 21 = .ok (.ifCond .eq 7, 3) := by decide +kernel
theorem dX4_stepToNumber_24 : decode cX4_stepToNumber 24 = .ok (.iconst 1, 1) := by decide +kernel
theorem dX4_stepToNumber_25 : decode cX4_stepToNumber 25 = .ok (.goto 4, 3) := by decide +kernel
theorem dX4_stepToNumber_28 : decode cX4_stepToNumber 28 = .ok (.iconst 0, 1) := by decide +kernel
theorem dX4_stepToNumber_29 : decode cX4_stepToNumber 29 = .ok (.ireturn, 1) := by decide +kernel
theorem dX4_stepToStop_0 : decode cX4_stepToStop 0 = .ok (.aload_n 0, 1) := by decide +kernel
theorem dX4_stepToStop_1 : decode cX4_stepToStop 1 = .ok (.invokevirtual 33, 3) := by decide +kernel
theorem dX4_stepToStop_4 : decode cX4_stepToStop 4 = .ok (.aload_n 0, 1) := by decide +kernel
theorem dX4_stepToStop_5 : decode cX4_stepToStop 5 = .ok (.getfield 36, 3) := by decide +kernel
theorem dX4_stepToStop_8 : decode cX4_stepToStop 8 = .ok (.iconst 2, 1) := by decide +kernel
theorem dX4_stepToStop_9 : decode cX4_stepToStop 9 = .ok (.if_icmp .ne 7, 3) := by decide +kernel
theorem dX4_stepToStop_12 : decode cX4_stepToStop 12 = .ok (.iconst 1, 1) := by decide +kernel
theorem dX4_stepToStop_13 : decode cX4_stepToStop 13 = .ok (.goto 4, 3) := by decide +kernel
theorem dX4_stepToStop_16 : decode cX4_stepToStop 16 = .ok (.iconst 0, 1) := by decide +kernel
theorem dX4_stepToStop_17 : decode cX4_stepToStop 17 = .ok (.ireturn, 1) := by decide +kernel
theorem dX4_step_0 : decode cX4_step 0 = .ok (.aload_n 0, 1) := by decide +kernel
theorem dX4_step_1 : decode cX4_step 1 = .ok (.getfield 26, 3) := by decide +kernel
theorem dX4_step_4 : decode cX4_step 4 = .ok (.aload_n 0, 1) := by decide +kernel
theorem dX4_step_5 : decode cX4_step 5 = .ok (.getfield 22, 3) := by decide +kernel
theorem dX4_step_8 : decode cX4_step 8 = .ok (.if_icmp .ge 30, 3) := by decide +kernel
theorem dX4_step_11 : decode cX4_step 11 = .ok (.aload_n 0, 1) := by decide +kernel
theorem dX4_step_12 : decode cX4_step 12 = .ok (.getfield 9, 3) := by decide +kernel
theorem dX4_step_15 : decode cX4_step 15 = .ok (.aload_n 0, 1) := by decide +kernel
theorem dX4_step_16 : decode cX4_step 16 = .ok (.getfield 26, 3) := by decide +kernel
theorem dX4_step_19 : decode cX4_step 19 = .ok (.baload, 1) := by decide +kernel
theorem dX4_step_20 : decode cX4_step 20 = .ok (.bipush 32, 2) := by decide +kernel
theorem dX4_step_22 : decode cX4_step 22 = .ok (.if_icmp .ne 16, 3) := by decide +kernel
theorem dX4_step_25 : decode cX4_step 25 = .ok (.aload_n 0, 1) := by decide +kernel
theorem dX4_step_26 : decode cX4_step 26 = .ok (.dup, 1) := by decide +kernel
theorem dX4_step_27 : decode cX4_step 27 = .ok (.getfield 26, 3) := by decide +kernel
theorem dX4_step_30 : decode cX4_step 30 = .ok (.iconst 1, 1) := by decide +kernel
theorem dX4_step_31 : decode cX4_step 31 = .ok (.iadd, 1) := by decide +kernel
theorem dX4_step_32 : decode cX4_step 32 = .ok (.putfield 26, 3) := by decide +kernel
theorem dX4_step_35 : decode cX4_step 35 = .ok (.goto (-35), 3) := by decide +kernel
theorem dX4_step_38 : decode cX4_step 38 = .ok (.aload_n 0, 1) := by decide +kernel
theorem dX4_step_39 : decode cX4_step 39 = .ok (.aload_n 0, 1) := by decide +kernel
theorem dX4_step_40 : decode cX4_step 40 = .ok (.getfield 26, 3) := by decide +kernel
theorem dX4_step_43 : decode cX4_step 43 = .ok (.putfield 80, 3) := by decide +kernel
theorem dX4_step_46 : decode cX4_step 46 = .ok (.aload_n 0, 1) := by decide +kernel
theorem dX4_step_47 : decode cX4_step 47 = .ok (.getfield 26, 3) := by decide +kernel
theorem dX4_step_50 : decode cX4_step 50 = .ok (.aload_n 0, 1) := by decide +kernel
theorem dX4_step_51 : decode cX4_step 51 = .ok (.getfield 22, 3) := by decide +kernel
theorem dX4_step_54 : decode cX4_step 54 = .ok (.if_icmp .lt 11, 3) := by decide +kernel
theorem dX4_step_57 : decode cX4_step 57 = .ok (.aload_n 0, 1) := by decide +kernel
theorem dX4_step_58 : decode cX4_step 58 = .ok (.iconst 0, 1) := by decide +kernel
theorem dX4_step_59 : decode cX4_step 59 = .ok (.putfield 36, 3) := by decide +kernel
theorem dX4_step_62 : decode cX4_step 62 = .ok (.goto 81, 3) := by decide +kernel
theorem dX4_step_65 : decode cX4_step 65 = .ok (.aload_n 0, 1) := by decide +kernel
theorem dX4_step_66 : decode cX4_step 66 = .ok (.getfield 9, 3) := by decide +kernel
theorem dX4_step_69 : decode cX4_step 69 = .ok (.aload_n 0, 1) := by decide +kernel
theorem dX4_step_70 : decode cX4_step 70 = .ok (.getfield 26, 3) := by decide +kernel
theorem dX4_step_73 : decode cX4_step 73 = .ok (.baload, 1) := by decide +kernel
theorem dX4_step_74 : decode cX4_step 74 = .ok (.invokestatic 83, 3) := by decide +kernel
theorem dX4_step_77 : decode cX4_step 77 = .ok (.ifCond .eq 10, 3) := by decide +kernel
theorem dX4_step_80 : decode cX4_step 80 = .ok (.aload_n 0, 1) := by decide +kernel
theorem dX4_step_81 : decode cX4_step 81 = .ok (.invokevirtual 87, 3) := by decide +kernel
theorem dX4_step_84 : decode cX4_step 84 = .ok (.goto 59, 3) := by decide +kernel
theorem dX4_step_87 : decode cX4_step 87 = .ok (.aload_n 0, 1) := by decide +kernel
theorem dX4_step_88 : decode cX4_step 88 = .ok (.getfield 9, 3) := by decide +kernel
theorem dX4_step_91 : decode cX4_step 91 = .ok (.aload_n 0, 1) := by decide +kernel
theorem dX4_step_92 : decode cX4_step 92 = .ok (.getfield 26, 3) := by decide +kernel
theorem dX4_step_95 : decode cX4_step 95 = .ok (.baload, 1) := by decide +kernel
theorem dX4_step_96 : decode cX4_step 96 = .ok (.invokestatic 90, 3) := by decide +kernel
theorem dX4_step_99 : decode cX4_step 99 = .ok (.ifCond .eq 10, 3) := by decide +kernel
theorem dX4_step_102 : decode cX4_step 102 = .ok (.aload_n 0, 1) := by decide +kernel
theorem dX4_step_103 : decode cX4_step 103 = .ok (.invokevirtual 93, 3) := by decide +kernel
theorem dX4_step_106 : decode cX4_step 106 = .ok (.goto 37, 3) := by decide +kernel
theorem dX4_step_109 : decode cX4_step 109 = .ok (.aload_n 0, 1) := by decide +kernel
theorem dX4_step_110 : decode cX4_step 110 = .ok (.aload_n 0, 1) := by decide +kernel
theorem dX4_step_111 : decode cX4_step 111 = .ok (.getfield 9, 3) := by decide +kernel
theorem dX4_step_114 : decode cX4_step 114 = .ok (.aload_n 0, 1) := by decide +kernel
theorem dX4_step_115 : decode cX4_step 115 = .ok (.getfield 26, 3) := by decide +kernel
theorem dX4_step_118 : decode cX4_step 118 = .ok (.baload, 1) := by decide +kernel
theorem dX4_step_119 : decode cX4_step 119 = .ok (.bipush 59, 2) := by decide +kernel
theorem dX4_step_121 : decode cX4_step 121 = .ok (.if_icmp .ne 7, 3) := by decide +kernel
theorem dX4_step_124 : decode cX4_step 124 = .ok (.iconst 2, 1) := by decide +kernel
theorem dX4_step_125 : decode cX4_step 125 = .ok (.goto 5, 3) := by decide +kernel
theorem dX4_step_128 : decode cX4_step 128 = .ok (.bipush 6, 2) := by decide +kernel
theorem dX4_step_130 : decode cX4_step 130 = .ok (.putfield 36, 3) := by decide +kernel
theorem dX4_step_133 : decode cX4_step 133 = .ok (.aload_n 0, 1) := by decide +kernel
theorem dX4_step_134 : decode cX4_step 134 = .ok (.dup, 1) := by decide +kernel
theorem dX4_step_135 : decode cX4_step 135 = .ok (.getfield 26, 3) := by decide +kernel
theorem dX4_step_138 : decode cX4_step 138 = .ok (.iconst 1, 1) := by decide +kernel
theorem dX4_step_139 : decode cX4_step 139 = .ok (.iadd, 1) := by decide +kernel
theorem dX4_step_140 : decode cX4_step 140 = .ok (.putfield 26, 3) := by decide +kernel
theorem dX4_step_143 : decode cX4_step 143 = .ok (.return_, 1) := by decide +kernel
theorem dX4_stepOverNumber_0 : decode cX4_stepOverNumber 0 = .ok (.aload_n 0, 1) := by decide +kernel
theorem dX4_stepOverNumber_1 : decode cX4_stepOverNumber 1 = .ok (.iconst 0, 1) := by decide +kernel
theorem dX4_stepOverNumber_2 : decode cX4_stepOverNumber 2 = .ok (.putfield 52, 3) := by decide +kernel
theorem dX4_stepOverNumber_5 : decode cX4_stepOverNumber 5 = .ok (.aload_n 0, 1) := by decide +kernel
theorem dX4_stepOverNumber_6 : decode cX4_stepOverNumber 6 = .ok (.getfield 26, 3) := by decide +kernel
theorem dX4_stepOverNumber_9 : decode cX4_stepOverNumber 9 = .ok (.aload_n 0, 1) := by decide +kernel
theorem dX4_stepOverNumber_10 : decode cX4_stepOverNumber 10 = .ok (.getfield 22, 3) := by decide +kernel
theorem dX4_stepOverNumber_13 : decode cX4_stepOverNumber 13 = .ok (.if_icmp .ge 55, 3) := by decide +kernel
theorem dX4_stepOverNumber_16 : decode cX4_stepOverNumber 16 = .ok (.aload_n 0, 1) := by decide +kernel
theorem dX4_stepOverNumber_17 : decode cX4_stepOverNumber 17 = .ok (.getfield 9, 3) := by decide +kernel
theorem dX4_stepOverNumber_20 : decode cX4_stepOverNumber 20 = .ok (.aload_n 0, 1) := by decide +kernel
theorem dX4_stepOverNumber_21 : decode cX4_stepOverNumber 21 = .ok (.getfield 26, 3) := by decide +kernel
theorem dX4_stepOverNumber_24 : decode cX4_stepOverNumber 24 = .ok (.baload, 1) := by decide +kernel
theorem dX4_stepOverNumber_25 : decode cX4_stepOverNumber 25 = .ok (.invokestatic 83, 3) := by decide +kernel
theorem dX4_stepOverNumber_28 : decode cX4_stepOverNumber 28 = .ok (.ifCond .eq 40, 3) := by decide +kernel
theorem dX4_stepOverNumber_31 : decode cX4_stepOverNumber 31 = .ok (.aload_n 0, 1) := by decide +kernel
theorem dX4_stepOverNumber_32 : decode cX4_stepOverNumber 32 = .ok (.aload_n 0, 1) := by decide +kernel
theorem dX4_stepOverNumber_33 : decode cX4_stepOverNumber 33 = .ok (.getfield 52, 3) := by decide +kernel
theorem dX4_stepOverNumber_36 : decode cX4_stepOverNumber 36 = .ok (.bipush 10, 2) := by decide +kernel
theorem dX4_stepOverNumber_38 : decode cX4_stepOverNumber 38 = .ok (.imul, 1) := by decide +kernel
theorem dX4_stepOverNumber_39 : decode cX4_stepOverNumber 39 = .ok (.aload_n 0, 1) := by decide +kernel
theorem dX4_stepOverNumber_40 : decode cX4_stepOverNumber 40 = .ok (.getfield 9, 3) := by decide +kernel
theorem dX4_stepOverNumber_43 : decode cX4_stepOverNumber 43 = .ok (.aload_n 0, 1) := by decide +kernel
theorem dX4_stepOverNumber_44 : decode cX4_stepOverNumber 44 = .ok (.getfield 26, 3) := by decide +kernel
theorem dX4_stepOverNumber_47 : decode cX4_stepOverNumber 47 = .ok (.baload, 1) := by decide +kernel
theorem dX4_stepOverNumber_48 : decode cX4_stepOverNumber 48 = .ok (.iadd, 1) := by decide +kernel
theorem dX4_stepOverNumber_49 : decode cX4_stepOverNumber 49 = .ok (.bipush 48, 2) := by decide +kernel
theorem dX4_stepOverNumber_51 : decode cX4_stepOverNumber 51 = .ok (.isub, 1) := by decide +kernel
theorem dX4_stepOverNumber_52 : decode cX4_stepOverNumber 52 = .ok (.putfield 52, 3) := by decide +kernel
theorem dX4_stepOverNumber_55 : decode cX4_stepOverNumber 55 = .ok (.aload_n 0, 1) := by decide +kernel
theorem dX4_stepOverNumber_56 : decode cX4_stepOverNumber 56 = .ok (.dup, 1) := by decide +kernel
theorem dX4_stepOverNumber_57 : decode cX4_stepOverNumber 57 = .ok (.getfield 26, 3) := by decide +kernel
theorem dX4_stepOverNumber_60 : decode cX4_stepOverNumber 60 = .ok (.iconst 1, 1) := by decide +kernel
theorem dX4_stepOverNumber_61 : decode cX4_stepOverNumber 61 = .ok (.iadd, 1) := by decide +kernel
theorem dX4_stepOverNumber_62 : decode cX4_stepOverNumber 62 = .ok (.putfield 26, 3) := by decide +kernel
theorem dX4_stepOverNumber_65 : decode cX4_stepOverNumber 65 = .ok (.goto (-60), 3) := by decide +kernel
theorem dX4_stepOverNumber_68 : decode cX4_stepOverNumber 68 = .ok (.aload_n 0, 1) := by decide +kernel
theorem dX4_stepOverNumber_69 : decode cX4_stepOverNumber 69 = .ok (.aload_n 0, 1) := by decide +kernel
theorem dX4_stepOverNumber_70 : decode cX4_stepOverNumber 70 = .ok (.getfield 26, 3) := by decide +kernel
theorem dX4_stepOverNumber_73 : decode cX4_stepOverNumber 73 = .ok (.aload_n 0, 1) := by decide +kernel
theorem dX4_stepOverNumber_74 : decode cX4_stepOverNumber 74 = .ok (.getfield 80, 3) := by decide +kernel
theorem dX4_stepOverNumber_77 : decode cX4_stepOverNumber 77 = .ok (.isub, 1) := by decide +kernel
theorem dX4_stepOverNumber_78 : decode cX4_stepOverNumber 78 = .ok (.iconst 2, 1) := by decide +kernel
theorem dX4_stepOverNumber_79 : decode cX4_stepOverNumber 79 = .ok (.if_icmp .gt 7, 3) := by decide +kernel
theorem dX4_stepOverNumber_82 : decode cX4_stepOverNumber 82 = .ok (.iconst 1, 1) := by decide +kernel
theorem dX4_stepOverNumber_83 : decode cX4_stepOverNumber 83 = .ok (.goto 5, 3) := by decide +kernel
theorem dX4_stepOverNumber_86 : decode cX4_stepOverNumber 86 = .ok (.bipush 6, 2) := by decide +kernel
theorem dX4_stepOverNumber_88 : decode cX4_stepOverNumber 88 = .ok (.putfield 36, 3) := by decide +kernel
theorem dX4_stepOverNumber_91 : decode cX4_stepOverNumber 91 = .ok (.return_, 1) := by decide +kernel
theorem dX4_stepOverWord_0 : decode cX4_stepOverWord 0 = .ok (.aload_n 0, 1) := by decide +kernel
theorem dX4_stepOverWord_1 : decode cX4_stepOverWord 1 = .ok (.getfield 26, 3) := by decide +kernel
theorem dX4_stepOverWord_4 : decode cX4_stepOverWord 4 = .ok (.aload_n 0, 1) := by decide +kernel
theorem dX4_stepOverWord_5 : decode cX4_stepOverWord 5 = .ok (.getfield 22, 3) := by decide +kernel
theorem dX4_stepOverWord_8 : decode cX4_stepOverWord 8 = .ok (.if_icmp .ge 31, 3) := by decide +kernel
theorem dX4_stepOverWord_11 : decode cX4_stepOverWord 11 = .ok (.aload_n 0, 1) := by decide +kernel
theorem dX4_stepOverWord_12 : decode cX4_stepOverWord 12 = .ok (.getfield 9, 3) := by decide +kernel
theorem dX4_stepOverWord_15 : decode cX4_stepOverWord 15 = .ok (.aload_n 0, 1) := by decide +kernel
theorem dX4_stepOverWord_16 : decode cX4_stepOverWord 16 = .ok (.getfield 26, 3) := by decide +kernel
theorem dX4_stepOverWord_19 : decode cX4_stepOverWord 19 = .ok (.baload, 1) := by decide +kernel
theorem dX4_stepOverWord_20 : decode cX4_stepOverWord 20 = .ok (.invokestatic 90, 3) := by decide +kernel
theorem dX4_stepOverWord_23 : decode cX4_stepOverWord 23 = .ok (.ifCond .eq 16, 3) := by decide +kernel
theorem dX4_stepOverWord_26 : decode cX4_stepOverWord 26 = .ok (.aload_n 0, 1) := by decide +kernel
theorem dX4_stepOverWord_27 : decode cX4_stepOverWord 27 = .ok (.dup, 1) := by decide +kernel
theorem dX4_stepOverWord_28 : decode cX4_stepOverWord 28 = .ok (.getfield 26, 3) := by decide +kernel
theorem dX4_stepOverWord_31 : decode cX4_stepOverWord 31 = .ok (.iconst 1, 1) := by decide +kernel
theorem dX4_stepOverWord_32 : decode cX4_stepOverWord 32 = .ok (.iadd, 1) := by decide +kernel
theorem dX4_stepOverWord_33 : decode cX4_stepOverWord 33 = .ok (.putfield 26, 3) := by decide +kernel
theorem dX4_stepOverWord_36 : decode cX4_stepOverWord 36 = .ok (.goto (-36), 3) := by decide +kernel
theorem dX4_stepOverWord_39 : decode cX4_stepOverWord 39 = .ok (.aload_n 0, 1) := by decide +kernel
theorem dX4_stepOverWord_40 : decode cX4_stepOverWord 40 = .ok (.ldc 96, 2) := by decide +kernel
theorem dX4_stepOverWord_42 : decode cX4_stepOverWord 42 = .ok (.invokevirtual 98, 3) := by decide +kernel
theorem dX4_stepOverWord_45 : decode cX4_stepOverWord 45 = .ok (.ifCond .eq 11, 3) := by decide +kernel
theorem dX4_stepOverWord_48 : decode cX4_stepOverWord 48 = .ok (.aload_n 0, 1) := by decide +kernel
theorem dX4_stepOverWord_49 : decode cX4_stepOverWord 49 = .ok (.iconst 3, 1) := by decide +kernel
theorem dX4_stepOverWord_50 : decode cX4_stepOverWord 50 = .ok (.putfield 36, 3) := by decide +kernel
theorem dX4_stepOverWord_53 : decode cX4_stepOverWord 53 = .ok (.goto 43, 3) := by decide +kernel
theorem dX4_stepOverWord_56 : decode cX4_stepOverWord 56 = .ok (.aload_n 0, 1) := by decide +kernel
theorem dX4_stepOverWord_57 : decode cX4_stepOverWord 57 = .ok (.ldc 102, 2) := by decide +kernel
theorem dX4_stepOverWord_59 : decode cX4_stepOverWord 59 = .ok (.invokevirtual 98, 3) := by decide +kernel
theorem dX4_stepOverWord_62 : decode cX4_stepOverWord 62 = .ok (.ifCond .eq 11, 3) := by decide +kernel
theorem dX4_stepOverWord_65 : decode cX4_stepOverWord 65 = .ok (.aload_n 0, 1) := by decide +kernel
theorem dX4_stepOverWord_66 : decode cX4_stepOverWord 66 = .ok (.iconst 4, 1) := by decide +kernel
theorem dX4_stepOverWord_67 : decode cX4_stepOverWord 67 = .ok (.putfield 36, 3) := by decide +kernel
theorem dX4_stepOverWord_70 : decode cX4_stepOverWord 70 = .ok (.goto 26, 3) := by decide +kernel
theorem dX4_stepOverWord_73 : decode cX4_stepOverWord 73 = .ok (.aload_n 0, 1) := by decide +kernel
theorem dX4_stepOverWord_74 : decode cX4_stepOverWord 74 = .ok (.ldc 104, 2) := by decide +kernel
theorem dX4_stepOverWord_76 : decode cX4_stepOverWord 76 = .ok (.invokevirtual 98, 3) := by decide +kernel
theorem dX4_stepOverWord_79 : decode cX4_stepOverWord 79 = .ok (.ifCond .eq 11, 3) := by decide +kernel
theorem dX4_stepOverWord_82 : decode cX4_stepOverWord 82 = .ok (.aload_n 0, 1) := by decide +kernel
theorem dX4_stepOverWord_83 : decode cX4_stepOverWord 83 = .ok (.iconst 5, 1) := by decide +kernel
theorem dX4_stepOverWord_84 : decode cX4_stepOverWord 84 = .ok (.putfield 36, 3) := by decide +kernel
theorem dX4_stepOverWord_87 : decode cX4_stepOverWord 87 = .ok (.goto 9, 3) := by decide +kernel
theorem dX4_stepOverWord_90 : decode cX4_stepOverWord 90 = .ok (.aload_n 0, 1) := by decide +kernel
theorem dX4_stepOverWord_91 : decode cX4_stepOverWord 91 = .ok (.bipush 6, 2) := by decide +kernel
theorem dX4_stepOverWord_93 : decode cX4_stepOverWord 93 = .ok (.putfield 36, 3) := by decide +kernel
theorem dX4_stepOverWord_96 : decode cX4_stepOverWord 96 = .ok (.return_, 1) := by decide +kernel
theorem dX4_spells_0 : decode cX4_spells 0 = .ok (.aload_n 0, 1) := by decide +kernel
theorem dX4_spells_1 : decode cX4_spells 1 = .ok (.getfield 26, 3) := by decide +kernel
theorem dX4_spells_4 : decode cX4_spells 4 = .ok (.aload_n 0, 1) := by decide +kernel
theorem dX4_spells_5 : decode cX4_spells 5 = .ok (.getfield 80, 3) := by decide +kernel
theorem dX4_spells_8 : decode cX4_spells 8 = .ok (.isub, 1) := by decide +kernel
theorem dX4_spells_9 : decode cX4_spells 9 = .ok (.aload_n 1, 1) := by decide +kernel
theorem dX4_spells_10 : decode cX4_spells 10 = .ok (.invokevirtual 106, 3) := by decide +kernel
theorem dX4_spells_13 : decode cX4_spells 13 = .ok (.if_icmp .eq 5, 3) := by decide +kernel
theorem dX4_spells_16 : decode cX4_spells 16 = .ok (.iconst 0, 1) := by decide +kernel
theorem dX4_spells_17 : decode cX4_spells 17 = .ok (.ireturn, 1) := by decide +kernel
theorem dX4_spells_18 : decode cX4_spells 18 = .ok (.iconst 0, 1) := by decide +kernel
theorem dX4_spells_19 : decode cX4_spells 19 = .ok (.istore_n 2, 1) := by decide +kernel
theorem dX4_spells_20 : decode cX4_spells 20 = .ok (.iload_n 2, 1) := by decide +kernel
theorem dX4_spells_21 : decode cX4_spells 21 = .ok (.aload_n 1, 1) := by decide +kernel
theorem dX4_spells_22 : decode cX4_spells 22 = .ok (.invokevirtual 106, 3) := by decide +kernel
theorem dX4_spells_25 : decode cX4_spells 25 = .ok (.if_icmp .ge 30, 3) := by decide +kernel
theorem dX4_spells_28 : decode cX4_spells 28 = .ok (.aload_n 0, 1) := by decide +kernel
theorem dX4_spells_29 : decode cX4_spells 29 = .ok (.getfield 9, 3) := by decide +kernel
theorem dX4_spells_32 : decode cX4_spells 32 = .ok (.aload_n 0, 1) := by decide +kernel
theorem dX4_spells_33 : decode cX4_spells 33 = .ok (.getfield 80, 3) := by decide +kernel
theorem dX4_spells_36 : decode cX4_spells 36 = .ok (.iload_n 2, 1) := by decide +kernel
theorem dX4_spells_37 : decode cX4_spells 37 = .ok (.iadd, 1) := by decide +kernel
theorem dX4_spells_38 : decode cX4_spells 38 = .ok (.baload, 1) := by decide +kernel
theorem dX4_spells_39 : decode cX4_spells 39 = .ok (.aload_n 1, 1) := by decide +kernel
theorem dX4_spells_40 : decode cX4_spells 40 = .ok (.iload_n 2, 1) := by decide +kernel
theorem dX4_spells_41 : decode cX4_spells 41 = .ok (.invokevirtual 111, 3) := by decide +kernel
theorem dX4_spells_44 : decode cX4_spells 44 = .ok (.if_icmp .eq 5, 3) := by decide +kernel
theorem dX4_spells_47 : decode cX4_spells 47 = .ok (.iconst 0, 1) := by decide +kernel
theorem dX4_spells_48 : decode cX4_spells 48 = .ok (.ireturn, 1) := by decide +kernel
theorem dX4_spells_49 : decode cX4_spells 49 = .ok (.iinc 2 1, 3) := by decide +kernel
theorem dX4_spells_52 : decode cX4_spells 52 = .ok (.goto (-32), 3) := by decide +kernel
theorem dX4_spells_55 : decode cX4_spells 55 = .ok (.iconst 1, 1) := by decide +kernel
theorem dX4_spells_56 : decode cX4_spells 56 = .ok (.ireturn, 1) := by decide +kernel
theorem dX4_isFigure_0 : decode cX4_isFigure 0 = .ok (.iload_n 0, 1) := by decide +kernel
theorem dX4_isFigure_1 : decode cX4_isFigure 1 = .ok (.bipush 48, 2) := by decide +kernel
theorem dX4_isFigure_3 : decode cX4_isFigure 3 = .ok (.if_icmp .lt 13, 3) := by decide +kernel
theorem dX4_isFigure_6 : decode cX4_isFigure 6 = .ok (.iload_n 0, 1) := by decide +kernel
theorem dX4_isFigure_7 : decode cX4_isFigure 7 = .ok (.bipush 57, 2) := by decide +kernel
theorem dX4_isFigure_9 : decode cX4_isFigure 9 = .ok (.if_icmp .gt 7, 3) := by decide +kernel
theorem dX4_isFigure_12 : decode cX4_isFigure 12 = .ok (.iconst 1, 1) := by decide +kernel
theorem dX4_isFigure_13 : decode cX4_isFigure 13 = .ok (.goto 4, 3) := by decide +kernel
theorem dX4_isFigure_16 : decode cX4_isFigure 16 = .ok (.iconst 0, 1) := by decide +kernel
theorem dX4_isFigure_17 : decode cX4_isFigure 17 = .ok (.ireturn, 1) := by decide +kernel
theorem dX4_isLetter_0 : decode cX4_isLetter 0 = .ok (.iload_n 0, 1) := by decide +kernel
theorem dX4_isLetter_1 : decode cX4_isLetter 1 = .ok (.bipush 97, 2) := by decide +kernel
theorem dX4_isLetter_3 : decode cX4_isLetter 3 = .ok (.if_icmp .lt 13, 3) := by decide +kernel
theorem dX4_isLetter_6 : decode cX4_isLetter 6 = .ok (.iload_n 0, 1) := by decide +kernel
theorem dX4_isLetter_7 : decode cX4_isLetter 7 = .ok (.bipush 122, 2) := by decide +kernel
theorem dX4_isLetter_9 : decode cX4_isLetter 9 = .ok (.if_icmp .gt 7, 3) := by decide +kernel
theorem dX4_isLetter_12 : decode cX4_isLetter 12 = .ok (.iconst 1, 1) := by decide +kernel
theorem dX4_isLetter_13 : decode cX4_isLetter 13 = .ok (.goto 4, 3) := by decide +kernel
theorem dX4_isLetter_16 : decode cX4_isLetter 16 = .ok (.iconst 0, 1) := by decide +kernel
theorem dX4_isLetter_17 : decode cX4_isLetter 17 = .ok (.ireturn, 1) := by decide +kernel
theorem dX5_init_0 : decode cX5_init 0 = .ok (.aload_n 0, 1) := by decide +kernel
theorem dX5_init_1 : decode cX5_init 1 = .ok (.invokespecial 3, 3) := by decide +kernel
theorem dX5_init_4 : decode cX5_init 4 = .ok (.aload_n 0, 1) := by decide +kernel
theorem dX5_init_5 : decode cX5_init 5 = .ok (.sipush 128, 3) := by decide +kernel
theorem dX5_init_8 : decode cX5_init 8 = .ok (.newarray .int, 2) := by decide +kernel
theorem dX5_init_10 : decode cX5_init 10 = .ok (.putfield 9, 3) := by decide +kernel
theorem dX5_init_13 : decode cX5_init 13 = .ok (.return_, 1) := by decide +kernel
theorem dX5_weighedPence_0 : decode cX5_weighedPence 0 = .ok (.iconst 0, 1) := by decide +kernel
theorem dX5_weighedPence_1 : decode cX5_weighedPence 1 = .ok (.istore 4, 2) := by decide +kernel
theorem dX5_weighedPence_3 : decode cX5_weighedPence 3 = .ok (.iconst 0, 1) := by decide +kernel
theorem dX5_weighedPence_4 : decode cX5_weighedPence 4 = .ok (.istore 5, 2) := by decide +kernel
theorem dX5_weighedPence_6 : decode cX5_weighedPence 6 = .ok (.ldc 15, 2) := by decide +kernel
theorem dX5_weighedPence_8 : decode cX5_weighedPence 8 = .ok (.istore 6, 2) := by decide +kernel
theorem dX5_weighedPence_10 : decode cX5_weighedPence 10 = .ok (.iconst 0, 1) := by decide +kernel
theorem dX5_weighedPence_11 : decode cX5_weighedPence 11 = .ok (.istore 7, 2) := by decide +kernel
theorem dX5_weighedPence_13 : decode cX5_weighedPence 13 = .ok (.iload 7, 2) := by decide +kernel
theorem dX5_weighedPence_15 : decode cX5_weighedPence 15 = .ok (.bipush 7, 2) := by decide +kernel
theorem dX5_weighedPence_17 : decode cX5_weighedPence 17 = .ok (.if_icmp .ge 76, 3) := by decide +kernel
theorem dX5_weighedPence_20 : decode cX5_weighedPence 20 = .ok (.iload 6, 2) := by decide +kernel
theorem dX5_weighedPence_22 : decode cX5_weighedPence 22 = .ok (.ifCond .le 71, 3) := by decide +kernel
theorem dX5_weighedPence_25 : decode cX5_weighedPence 25 = .ok (.iload_n 3, 1) := by decide +kernel
theorem dX5_weighedPence_26 : decode cX5_weighedPence 26 = .ok (.iload 6, 2) := by decide +kernel
theorem dX5_weighedPence_28 : decode cX5_weighedPence 28 = .ok (.idiv, 1) := by decide +kernel
theorem dX5_weighedPence_29 : decode cX5_weighedPence 29 = .ok (.bipush 10, 2) := by decide +kernel
theorem dX5_weighedPence_31 : decode cX5_weighedPence 31 = .ok (.irem, 1) := by decide +kernel
theorem dX5_weighedPence_32 : decode cX5_weighedPence 32 = .ok (.iconst 1, 1) := by decide +kernel
theorem dX5_weighedPence_33 : decode cX5_weighedPence 33 = .ok (.isub, 1) := by decide +kernel
theorem dX5_weighedPence_34 : decode cX5_weighedPence 34 = .ok (.istore 8, 2) := by decide +kernel
theorem dX5_weighedPence_36 : decode cX5_weighedPence 36 = .ok (.iload 8, 2) := by decide +kernel
theorem dX5_weighedPence_38 : decode cX5_weighedPence 38 = .ok (.iconst 0, 1) := by decide +kernel
theorem dX5_weighedPence_39 : decode cX5_weighedPence 39 = .ok (.aload_n 1, 1) := by decide +kernel
theorem dX5_weighedPence_40 : decode cX5_weighedPence 40 = .ok (.getfield 16, 3) := by decide +kernel
theorem dX5_weighedPence_43 : decode cX5_weighedPence 43 = .ok (.iconst 1, 1) := by decide +kernel
theorem dX5_weighedPence_44 : decode cX5_weighedPence 44 = .ok (.isub, 1) := by decide +kernel
theorem dX5_weighedPence_45 : decode cX5_weighedPence 45 = .ok (.invokestatic 22, 3) := by decide +kernel
theorem dX5_weighedPence_48 : decode cX5_weighedPence 48 = .ok (.ifCond .eq 32, 3) := by decide +kernel
theorem dX5_weighedPence_51 : decode cX5_weighedPence 51 = .ok (.iload 4, 2) := by decide +kernel
theorem dX5_weighedPence_53 : decode cX5_weighedPence 53 = .ok (.aload_n 1, 1) := by decide +kernel
theorem dX5_weighedPence_54 : decode cX5_weighedPence 54 = .ok (.getfield 26, 3) := by decide +kernel
theorem dX5_weighedPence_57 : decode cX5_weighedPence 57 = .ok (.iload 8, 2) := by decide +kernel
theorem dX5_weighedPence_59 : decode cX5_weighedPence 59 = .ok (.iaload, 1) := by decide +kernel
theorem dX5_weighedPence_60 : decode cX5_weighedPence 60 = .ok (.aload_n 1, 1) := by decide +kernel
theorem dX5_weighedPence_61 : decode cX5_weighedPence 61 = .ok (.iload_n 2, 1) := by decide +kernel
theorem dX5_weighedPence_62 : decode cX5_weighedPence 62 = .ok (.iload 5, 2) := by decide +kernel
theorem dX5_weighedPence_64 : decode cX5_weighedPence 64 = .ok (.invokestatic 29, 3) := by decide +kernel
theorem dX5_weighedPence_67 : decode cX5_weighedPence 67 = .ok (.imul, 1) := by decide +kernel
theorem dX5_weighedPence_68 : decode cX5_weighedPence 68 = .ok (.iadd, 1) := by decide +kernel
theorem dX5_weighedPence_69 : decode cX5_weighedPence 69 = .ok (.istore 4, 2) := by decide +kernel
theorem dX5_weighedPence_71 : decode cX5_weighedPence 71 = .ok (.iload 5, 2) := by decide +kernel
theorem dX5_weighedPence_73 : decode cX5_weighedPence 73 = .ok (.iconst 1, 1) := by decide +kernel
theorem dX5_weighedPence_74 : decode cX5_weighedPence 74 = .ok (.iload 8, 2) := by decide +kernel
theorem dX5_weighedPence_76 : decode cX5_weighedPence 76 = .ok (.ishl, 1) := by decide +kernel
theorem dX5_weighedPence_77 : decode cX5_weighedPence 77 = .ok (.ior, 1) := by decide +kernel
theorem dX5_weighedPence_78 : decode cX5_weighedPence 78 = .ok (.istore 5, 2) := by decide +kernel
theorem dX5_weighedPence_80 : decode cX5_weighedPence 80 = .ok (.iload 6, 2) := by decide +kernel
theorem dX5_weighedPence_82 : decode cX5_weighedPence 82 = .ok (.bipush 10, 2) := by decide +kernel
theorem dX5_weighedPence_84 : decode cX5_weighedPence 84 = .ok (.idiv, 1) := by decide +kernel
theorem dX5_weighedPence_85 : decode cX5_weighedPence 85 = .ok (.istore 6, 2) := by decide +kernel
theorem dX5_weighedPence_87 : decode cX5_weighedPence 87 = .ok (.iinc 7 1, 3) := by decide +kernel
theorem dX5_weighedPence_90 : decode cX5_weighedPence 90 = .ok (.goto (-77), 3) := by decide +kernel
theorem dX5_weighedPence_93 : decode cX5_weighedPence 93 = .ok (.iload 4, 2) := by decide +kernel
theorem dX5_weighedPence_95 : decode cX5_weighedPence 95 = .ok (.ireturn, 1) := by decide +kernel
theorem dX5_leastRow_0 : decode cX5_leastRow 0 = .ok (.aload_n 1, 1) := by decide +kernel
theorem dX5_leastRow_1 : decode cX5_leastRow 1 = .ok (.invokevirtual 33, 3) := by decide +kernel
theorem dX5_leastRow_4 : decode cX5_leastRow 4 = .ok (.iconst 1, 1) := by decide +kernel
theorem dX5_leastRow_5 : decode cX5_leastRow 5 = .ok (.isub, 1) := by decide +kernel
theorem dX5_leastRow_6 : decode cX5_leastRow 6 = .ok (.istore_n 3, 1) := by decide +kernel
theorem dX5_leastRow_7 : decode cX5_leastRow 7 = .ok (.iload_n 3, 1) := by decide +kernel
theorem dX5_leastRow_8 : decode cX5_leastRow 8 = .ok (.ifCond .lt 16, 3) := by decide +kernel
theorem dX5_leastRow_11 : decode cX5_leastRow 11 = .ok (.aload_n 0, 1) := by decide +kernel
theorem dX5_leastRow_12 : decode cX5_leastRow 12 = .ok (.aload_n 1, 1) := by decide +kernel
theorem dX5_leastRow_13 : decode cX5_leastRow 13 = .ok (.iload_n 2, 1) := by decide +kernel
theorem dX5_leastRow_14 : decode cX5_leastRow 14 = .ok (.iload_n 3, 1) := by decide +kernel
theorem dX5_leastRow_15 : decode cX5_leastRow 15 = .ok (.invokevirtual 37, 3) := by decide +kernel
theorem dX5_leastRow_18 : decode cX5_leastRow 18 = .ok (.iinc 3 (-1), 3) := by decide +kernel
theorem dX5_leastRow_21 : decode cX5_leastRow 21 = .ok (.goto (-14), 3) := by decide +kernel
theorem dX5_leastRow_24 : decode cX5_leastRow 24 = .ok (.iconst 0, 1) := by decide +kernel
theorem dX5_leastRow_25 : decode cX5_leastRow 25 = .ok (.istore_n 3, 1) := by decide +kernel
theorem dX5_leastRow_26 : decode cX5_leastRow 26 = .ok (.iconst 0, 1) := by decide +kernel
theorem dX5_leastRow_27 : decode cX5_leastRow 27 = .ok (.istore 4, 2) := by decide +kernel
theorem dX5_leastRow_29 : decode cX5_leastRow 29 = .ok (.iconst 0, 1) := by decide +kernel
theorem dX5_leastRow_30 : decode cX5_leastRow 30 = .ok (.istore 5, 2) := by decide +kernel
theorem dX5_leastRow_32 : decode cX5_leastRow 32 = .ok (.iload 5, 2) := by decide +kernel
theorem dX5_leastRow_34 : decode cX5_leastRow 34 = .ok (.aload_n 1, 1) := by decide +kernel
theorem dX5_leastRow_35 : decode cX5_leastRow 35 = .ok (.getfield 16, 3) := by decide +kernel
theorem dX5_leastRow_38 : decode cX5_leastRow 38 = .ok (.if_icmp .ge 38, 3) := by decide +kernel
theorem dX5_leastRow_41 : decode cX5_leastRow 41 = .ok (.aload_n 0, 1) := by decide +kernel
theorem dX5_leastRow_42 : decode cX5_leastRow 42 = .ok (.aload_n 1, 1) := by decide +kernel
theorem dX5_leastRow_43 : decode cX5_leastRow 43 = .ok (.iload_n 2, 1) := by decide +kernel
theorem dX5_leastRow_44 : decode cX5_leastRow 44 = .ok (.iload 4, 2) := by decide +kernel
theorem dX5_leastRow_46 : decode cX5_leastRow 46 = .ok (.invokevirtual 41, 3) := by decide +kernel
theorem dX5_leastRow_49 : decode cX5_leastRow 49 = .ok (.istore 6, 2) := by decide +kernel
theorem dX5_leastRow_51 : decode cX5_leastRow 51 = .ok (.iload_n 3, 1) := by decide +kernel
theorem dX5_leastRow_52 : decode cX5_leastRow 52 = .ok (.bipush 10, 2) := by decide +kernel
theorem dX5_leastRow_54 : decode cX5_leastRow 54 = .ok (.imul, 1) := by decide +kernel
theorem dX5_leastRow_55 : decode cX5_leastRow 55 = .ok (.iload 6, 2) := by decide +kernel
theorem dX5_leastRow_57 : decode cX5_leastRow 57 = .ok (.iadd, 1) := by decide +kernel
theorem dX5_leastRow_58 : decode cX5_leastRow 58 = .ok (.iconst 1, 1) := by decide +kernel
theorem dX5_leastRow_59 : decode cX5_leastRow 59 = .ok (.iadd, 1) := by decide +kernel
theorem dX5_leastRow_60 : decode cX5_leastRow 60 = .ok (.istore_n 3, 1) := by decide +kernel
theorem dX5_leastRow_61 : decode cX5_leastRow 61 = .ok (.iload 4, 2) := by decide +kernel
theorem dX5_leastRow_63 : decode cX5_leastRow 63 = .ok (.iconst 1, 1) := by decide +kernel
theorem dX5_leastRow_64 : decode cX5_leastRow 64 = .ok (.iload 6, 2) := by decide +kernel
theorem dX5_leastRow_66 : decode cX5_leastRow 66 = .ok (.ishl, 1) := by decide +kernel
theorem dX5_leastRow_67 : decode cX5_leastRow 67 = .ok (.ior, 1) := by decide +kernel
theorem dX5_leastRow_68 : decode cX5_leastRow 68 = .ok (.istore 4, 2) := by decide +kernel
theorem dX5_leastRow_70 : decode cX5_leastRow 70 = .ok (.iinc 5 1, 3) := by decide +kernel
theorem dX5_leastRow_73 : decode cX5_leastRow 73 = .ok (.goto (-41), 3) := by decide +kernel
theorem dX5_leastRow_76 : decode cX5_leastRow 76 = .ok (.iload_n 3, 1) := by decide +kernel
theorem dX5_leastRow_77 : decode cX5_leastRow 77 = .ok (.ireturn, 1) := by decide +kernel
theorem dX5_settle_0 : decode cX5_settle 0 = .ok (.aload_n 1, 1) := by decide +kernel
theorem dX5_settle_1 : decode cX5_settle 1 = .ok (.iload_n 2, 1) := by decide +kernel
theorem dX5_settle_2 : decode cX5_settle 2 = .ok (.iload_n 3, 1) := by decide +kernel
theorem dX5_settle_3 : decode cX5_settle 3 = .ok (.invokestatic 29, 3) := by decide +kernel
theorem dX5_settle_6 : decode cX5_settle 6 = .ok (.istore 4, 2) := by decide +kernel
theorem dX5_settle_8 : decode cX5_settle 8 = .ok (.iconst (-1), 1) := by decide +kernel
theorem dX5_settle_9 : decode cX5_settle 9 = .ok (.istore 5, 2) := by decide +kernel
theorem dX5_settle_11 : decode cX5_settle 11 = .ok (.iconst 0, 1) := by decide +kernel
theorem dX5_settle_12 : decode cX5_settle 12 = .ok (.istore 6, 2) := by decide +kernel
theorem dX5_settle_14 : decode cX5_settle 14 = .ok (.iload 6, 2) := by decide +kernel
theorem dX5_settle_16 : decode cX5_settle 16 = .ok (.aload_n 1, 1) := by decide +kernel
theorem dX5_settle_17 : decode cX5_settle 17 = .ok (.getfield 16, 3) := by decide +kernel
theorem dX5_settle_20 : decode cX5_settle 20 = .ok (.if_icmp .ge 62, 3) := by decide +kernel
theorem dX5_settle_23 : decode cX5_settle 23 = .ok (.iload_n 3, 1) := by decide +kernel
theorem dX5_settle_24 : decode cX5_settle 24 = .ok (.iload 6, 2) := by decide +kernel
theorem dX5_settle_26 : decode cX5_settle 26 = .ok (.ishr, 1) := by decide +kernel
theorem dX5_settle_27 : decode cX5_settle 27 = .ok (.iconst 1, 1) := by decide +kernel
theorem dX5_settle_28 : decode cX5_settle 28 = .ok (.iand, 1) := by decide +kernel
theorem dX5_settle_29 : decode cX5_settle 29 = .ok (.ifCond .ne 47, 3) := by decide +kernel
theorem dX5_settle_32 : decode cX5_settle 32 = .ok (.aload_n 1, 1) := by decide +kernel
theorem dX5_settle_33 : decode cX5_settle 33 = .ok (.getfield 26, 3) := by decide +kernel
theorem dX5_settle_36 : decode cX5_settle 36 = .ok (.iload 6, 2) := by decide +kernel
theorem dX5_settle_38 : decode cX5_settle 38 = .ok (.iaload, 1) := by decide +kernel
theorem dX5_settle_39 : decode cX5_settle 39 = .ok (.iload 4, 2) := by decide +kernel
theorem dX5_settle_41 : decode cX5_settle 41 = .ok (.imul, 1) := by decide +kernel
theorem dX5_settle_42 : decode cX5_settle 42 = .ok (.aload_n 0, 1) := by decide +kernel
theorem dX5_settle_43 : decode cX5_settle 43 = .ok (.getfield 9, 3) := by decide +kernel
theorem dX5_settle_46 : decode cX5_settle 46 = .ok (.iload_n 3, 1) := by decide +kernel
theorem dX5_settle_47 : decode cX5_settle 47 = .ok (.iconst 1, 1) := by decide +kernel
theorem dX5_settle_48 : decode cX5_settle 48 = .ok (.iload 6, 2) := by decide +kernel
theorem dX5_settle_50 : decode cX5_settle 50 = .ok (.ishl, 1) := by decide +kernel
theorem dX5_settle_51 : decode cX5_settle 51 = .ok (.ior, 1) := by decide +kernel
theorem dX5_settle_52 : decode cX5_settle 52 = .ok (.iaload, 1) := by decide +kernel
theorem dX5_settle_53 : decode cX5_settle 53 = .ok (.iadd, 1) := by decide +kernel
theorem dX5_settle_54 : decode cX5_settle 54 = .ok (.istore 7, 2) := by decide +kernel
theorem dX5_settle_56 : decode cX5_settle 56 = .ok (.iload 5, 2) := by decide +kernel
theorem dX5_settle_58 : decode cX5_settle 58 = .ok (.iconst (-1), 1) := by decide +kernel
theorem dX5_settle_59 : decode cX5_settle 59 = .ok (.if_icmp .ne 8, 3) := by decide +kernel
theorem dX5_settle_62 : decode cX5_settle 62 = .ok (.iload 7, 2) := by decide +kernel
theorem dX5_settle_64 : decode cX5_settle 64 = .ok (.goto 10, 3) := by decide +kernel
theorem dX5_settle_67 : decode cX5_settle 67 = .ok (.iload 5, 2) := by decide +kernel
theorem dX5_settle_69 : decode cX5_settle 69 = .ok (.iload 7, 2) := by decide +kernel
theorem dX5_settle_71 : decode cX5_settle 71 = .ok (.invokestatic 44, 3) := by decide +kernel
theorem dX5_settle_74 : decode cX5_settle 74 = .ok (.istore 5, 2) := by decide +kernel
theorem dX5_settle_76 : decode cX5_settle 76 = .ok (.iinc 6 1, 3) := by decide +kernel
theorem dX5_settle_79 : decode cX5_settle 79 = .ok (.goto (-65), 3) := by decide +kernel
theorem dX5_settle_82 : decode cX5_settle 82 = .ok (.aload_n 0, 1) := by decide +kernel
theorem dX5_settle_83 : decode cX5_settle 83 = .ok (.getfield 9, 3) := by decide +kernel
theorem dX5_settle_86 : decode cX5_settle 86 = .ok (.iload_n 3, 1) := by decide +kernel
theorem dX5_settle_87 : decode cX5_settle 87 = .ok (.iload 5, 2) := by decide +kernel
theorem dX5_settle_89 : decode cX5_settle 89 = .ok (.iconst 0, 1) := by decide +kernel
theorem dX5_settle_90 : decode cX5_settle 90 = .ok (.invokestatic 50, 3) := by decide +kernel
theorem dX5_settle_93 : decode cX5_settle 93 = .ok (.iastore, 1) := by decide +kernel
theorem dX5_settle_94 : decode cX5_settle 94 = .ok (.return_, 1) := by decide +kernel
theorem dX5_firstOfLeast_0 : decode cX5_firstOfLeast 0 = .ok (.aload_n 1, 1) := by decide +kernel
theorem dX5_firstOfLeast_1 : decode cX5_firstOfLeast 1 = .ok (.iload_n 2, 1) := by decide +kernel
theorem dX5_firstOfLeast_2 : decode cX5_firstOfLeast 2 = .ok (.iload_n 3, 1) := by decide +kernel
theorem dX5_firstOfLeast_3 : decode cX5_firstOfLeast 3 = .ok (.invokestatic 29, 3) := by decide +kernel
theorem dX5_firstOfLeast_6 : decode cX5_firstOfLeast 6 = .ok (.istore 4, 2) := by decide +kernel
theorem dX5_firstOfLeast_8 : decode cX5_firstOfLeast 8 = .ok (.iconst 0, 1) := by decide +kernel
theorem dX5_firstOfLeast_9 : decode cX5_firstOfLeast 9 = .ok (.istore 5, 2) := by decide +kernel
theorem dX5_firstOfLeast_11 : decode cX5_firstOfLeast 11 = .ok (.iload 5, 2) := by decide +kernel
theorem dX5_firstOfLeast_13 : decode cX5_firstOfLeast 13 = .ok (.aload_n 1, 1) := by decide +kernel
theorem dX5_firstOfLeast_14 : decode cX5_firstOfLeast 14 = .ok (.getfield 16, 3) := by decide +kernel
theorem dX5_firstOfLeast_17 : decode cX5_firstOfLeast 17 = .ok (.if_icmp .ge 52, 3) := by decide +kernel
theorem dX5_firstOfLeast_20 : decode cX5_firstOfLeast 20 = .ok (.iload_n 3, 1) := by decide +kernel
theorem dX5_firstOfLeast_21 : decode cX5_firstOfLeast 21 = .ok (.iload 5, 2) := by decide +kernel
theorem dX5_firstOfLeast_23 : decode cX5_firstOfLeast 23 = .ok (.ishr, 1) := by decide +kernel
theorem dX5_firstOfLeast_24 : decode cX5_firstOfLeast 24 = .ok (.iconst 1, 1) := by decide +kernel
theorem dX5_firstOfLeast_25 : decode cX5_firstOfLeast 25 = .ok (.iand, 1) := by decide +kernel
theorem dX5_firstOfLeast_26 : decode cX5_firstOfLeast 26 = .ok (.ifCond .ne 37, 3) := by decide +kernel
theorem dX5_firstOfLeast_29 : decode cX5_firstOfLeast 29 = .ok (.aload_n 1, 1) := by decide +kernel
theorem dX5_firstOfLeast_30 : decode cX5_firstOfLeast 30 = .ok (.getfield 26, 3) := by decide +kernel
theorem dX5_firstOfLeast_33 : decode cX5_firstOfLeast 33 = .ok (.iload 5, 2) := by decide +kernel
theorem dX5_firstOfLeast_35 : decode cX5_firstOfLeast 35 = .ok (.iaload, 1) := by decide +kernel
theorem dX5_firstOfLeast_36 : decode cX5_firstOfLeast 36 = .ok (.iload 4, 2) := by decide +kernel
theorem dX5_firstOfLeast_38 : decode cX5_firstOfLeast 38 = .ok (.imul, 1) := by decide +kernel
theorem dX5_firstOfLeast_39 : decode cX5_firstOfLeast 39 = .ok (.aload_n 0, 1) := by decide +kernel
theorem dX5_firstOfLeast_40 : decode cX5_firstOfLeast 40 = .ok (.getfield 9, 3) := by decide +kernel
theorem dX5_firstOfLeast_43 : decode cX5_firstOfLeast 43 = .ok (.iload_n 3, 1) := by decide +kernel
theorem dX5_firstOfLeast_44 : decode cX5_firstOfLeast 44 = .ok (.iconst 1, 1) := by decide +kernel
theorem dX5_firstOfLeast_45 : decode cX5_firstOfLeast 45 = .ok (.iload 5, 2) := by decide +kernel
theorem dX5_firstOfLeast_47 : decode cX5_firstOfLeast 47 = .ok (.ishl, 1) := by decide +kernel
theorem dX5_firstOfLeast_48 : decode cX5_firstOfLeast 48 = .ok (.ior, 1) := by decide +kernel
theorem dX5_firstOfLeast_49 : decode cX5_firstOfLeast 49 = .ok (.iaload, 1) := by decide +kernel
theorem dX5_firstOfLeast_50 : decode cX5_firstOfLeast 50 = .ok (.iadd, 1) := by decide +kernel
theorem dX5_firstOfLeast_51 : decode cX5_firstOfLeast 51 = .ok (.aload_n 0, 1) := by decide +kernel
theorem dX5_firstOfLeast_52 : decode cX5_firstOfLeast 52 = .ok (.getfield 9, 3) := by decide +kernel
theorem dX5_firstOfLeast_55 : decode cX5_firstOfLeast 55 = .ok (.iload_n 3, 1) := by decide +kernel
theorem dX5_firstOfLeast_56 : decode cX5_firstOfLeast 56 = .ok (.iaload, 1) := by decide +kernel
theorem dX5_firstOfLeast_57 : decode cX5_firstOfLeast 57 = .ok (.if_icmp .ne 6, 3) := by decide +kernel
theorem dX5_firstOfLeast_60 : decode cX5_firstOfLeast 60 = .ok (.iload 5, 2) := by decide +kernel
theorem dX5_firstOfLeast_62 : decode cX5_firstOfLeast 62 = .ok (.ireturn, 1) := by decide +kernel
theorem dX5_firstOfLeast_63 : decode cX5_firstOfLeast 63 = .ok (.iinc 5 1, 3) := by decide +kernel
theorem dX5_firstOfLeast_66 : decode cX5_firstOfLeast 66 = .ok (.goto (-55), 3) := by decide +kernel
theorem dX5_firstOfLeast_69 : decode cX5_firstOfLeast 69 = .ok (.iconst 0, 1) := by decide +kernel
theorem dX5_firstOfLeast_70 : decode cX5_firstOfLeast 70 = .ok (.ireturn, 1) := by decide +kernel
theorem dX5_unknownWeight_0 : decode cX5_unknownWeight 0 = .ok (.aload_n 0, 1) := by decide +kernel
theorem dX5_unknownWeight_1 : decode cX5_unknownWeight 1 = .ok (.aload_n 0, 1) := by decide +kernel
theorem dX5_unknownWeight_2 : decode cX5_unknownWeight 2 = .ok (.iload_n 2, 1) := by decide +kernel
theorem dX5_unknownWeight_3 : decode cX5_unknownWeight 3 = .ok (.iload_n 1, 1) := by decide +kernel
theorem dX5_unknownWeight_4 : decode cX5_unknownWeight 4 = .ok (.invokevirtual 53, 3) := by decide +kernel
theorem dX5_unknownWeight_7 : decode cX5_unknownWeight 7 = .ok (.invokevirtual 56, 3) := by decide +kernel
theorem dX5_unknownWeight_10 : decode cX5_unknownWeight 10 = .ok (.ireturn, 1) := by decide +kernel
theorem dX6_init_0 : decode cX6_init 0 = .ok (.aload_n 0, 1) := by decide +kernel
theorem dX6_init_1 : decode cX6_init 1 = .ok (.invokespecial 3, 3) := by decide +kernel
theorem dX6_init_4 : decode cX6_init 4 = .ok (.aload_n 0, 1) := by decide +kernel
theorem dX6_init_5 : decode cX6_init 5 = .ok (.bipush 16, 2) := by decide +kernel
theorem dX6_init_7 : decode cX6_init 7 = .ok (.newarray .int, 2) := by decide +kernel
theorem dX6_init_9 : decode cX6_init 9 = .ok (.putfield 9, 3) := by decide +kernel
theorem dX6_init_12 : decode cX6_init 12 = .ok (.aload_n 0, 1) := by decide +kernel
theorem dX6_init_13 : decode cX6_init 13 = .ok (.bipush 7, 2) := by decide +kernel
theorem dX6_init_15 : decode cX6_init 15 = .ok (.newarray .int, 2) := by decide +kernel
theorem dX6_init_17 : decode cX6_init 17 = .ok (.putfield 15, 3) := by decide +kernel
theorem dX6_init_20 : decode cX6_init 20 = .ok (.aload_n 0, 1) := by decide +kernel
theorem dX6_init_21 : decode cX6_init 21 = .ok (.bipush 7, 2) := by decide +kernel
theorem dX6_init_23 : decode cX6_init 23 = .ok (.newarray .int, 2) := by decide +kernel
theorem dX6_init_25 : decode cX6_init 25 = .ok (.putfield 18, 3) := by decide +kernel
theorem dX6_init_28 : decode cX6_init 28 = .ok (.aload_n 0, 1) := by decide +kernel
theorem dX6_init_29 : decode cX6_init 29 = .ok (.bipush 7, 2) := by decide +kernel
theorem dX6_init_31 : decode cX6_init 31 = .ok (.newarray .int, 2) := by decide +kernel
theorem dX6_init_33 : decode cX6_init 33 = .ok (.putfield 21, 3) := by decide +kernel
theorem dX6_init_36 : decode cX6_init 36 = .ok (.aload_n 0, 1) := by decide +kernel
theorem dX6_init_37 : decode cX6_init 37 = .ok (.bipush 112, 2) := by decide +kernel
theorem dX6_init_39 : decode cX6_init 39 = .ok (.newarray .int, 2) := by decide +kernel
theorem dX6_init_41 : decode cX6_init 41 = .ok (.putfield 24, 3) := by decide +kernel
theorem dX6_init_44 : decode cX6_init 44 = .ok (.aload_n 0, 1) := by decide +kernel
theorem dX6_init_45 : decode cX6_init 45 = .ok (.bipush 8, 2) := by decide +kernel
theorem dX6_init_47 : decode cX6_init 47 = .ok (.newarray .int, 2) := by decide +kernel
theorem dX6_init_49 : decode cX6_init 49 = .ok (.putfield 27, 3) := by decide +kernel
theorem dX6_init_52 : decode cX6_init 52 = .ok (.aload_n 0, 1) := by decide +kernel
theorem dX6_init_53 : decode cX6_init 53 = .ok (.bipush 8, 2) := by decide +kernel
theorem dX6_init_55 : decode cX6_init 55 = .ok (.newarray .int, 2) := by decide +kernel
theorem dX6_init_57 : decode cX6_init 57 = .ok (.putfield 30, 3) := by decide +kernel
theorem dX6_init_60 : decode cX6_init 60 = .ok (.aload_n 0, 1) := by decide +kernel
theorem dX6_init_61 : decode cX6_init 61 = .ok (.bipush 8, 2) := by decide +kernel
theorem dX6_init_63 : decode cX6_init 63 = .ok (.invokevirtual 33, 3) := by decide +kernel
theorem dX6_init_66 : decode cX6_init 66 = .ok (.return_, 1) := by decide +kernel
theorem dX6_begin_0 : decode cX6_begin 0 = .ok (.aload_n 0, 1) := by decide +kernel
theorem dX6_begin_1 : decode cX6_begin 1 = .ok (.iload_n 1, 1) := by decide +kernel
theorem dX6_begin_2 : decode cX6_begin 2 = .ok (.putfield 37, 3) := by decide +kernel
theorem dX6_begin_5 : decode cX6_begin 5 = .ok (.aload_n 0, 1) := by decide +kernel
theorem dX6_begin_6 : decode cX6_begin 6 = .ok (.iconst 0, 1) := by decide +kernel
theorem dX6_begin_7 : decode cX6_begin 7 = .ok (.putfield 41, 3) := by decide +kernel
theorem dX6_begin_10 : decode cX6_begin 10 = .ok (.aload_n 0, 1) := by decide +kernel
theorem dX6_begin_11 : decode cX6_begin 11 = .ok (.iconst 0, 1) := by decide +kernel
theorem dX6_begin_12 : decode cX6_begin 12 = .ok (.putfield 44, 3) := by decide +kernel
theorem dX6_begin_15 : decode cX6_begin 15 = .ok (.aload_n 0, 1) := by decide +kernel
theorem dX6_begin_16 : decode cX6_begin 16 = .ok (.iconst 0, 1) := by decide +kernel
theorem dX6_begin_17 : decode cX6_begin 17 = .ok (.putfield 47, 3) := by decide +kernel
theorem dX6_begin_20 : decode cX6_begin 20 = .ok (.iconst 0, 1) := by decide +kernel
theorem dX6_begin_21 : decode cX6_begin 21 = .ok (.istore_n 2, 1) := by decide +kernel
theorem dX6_begin_22 : decode cX6_begin 22 = .ok (.iload_n 2, 1) := by decide +kernel
theorem dX6_begin_23 : decode cX6_begin 23 = .ok (.bipush 16, 2) := by decide +kernel
theorem dX6_begin_25 : decode cX6_begin 25 = .ok (.if_icmp .ge 16, 3) := by decide +kernel
theorem dX6_begin_28 : decode cX6_begin 28 = .ok (.aload_n 0, 1) := by decide +kernel
theorem dX6_begin_29 : decode cX6_begin 29 = .ok (.getfield 9, 3) := by decide +kernel
theorem dX6_begin_32 : decode cX6_begin 32 = .ok (.iload_n 2, 1) := by decide +kernel
theorem dX6_begin_33 : decode cX6_begin 33 = .ok (.iconst 1, 1) := by decide +kernel
theorem dX6_begin_34 : decode cX6_begin 34 = .ok (.iastore, 1) := by decide +kernel
theorem dX6_begin_35 : decode cX6_begin 35 = .ok (.iinc 2 1, 3) := by decide +kernel
theorem dX6_begin_38 : decode cX6_begin 38 = .ok (.goto (-16), 3) := by decide +kernel
theorem dX6_begin_41 : decode cX6_begin 41 = .ok (.return_, 1) := by decide +kernel
theorem dX6_takeFrom_0 : decode cX6_takeFrom 0 = .ok (.aload_n 0, 1) := by decide +kernel
theorem dX6_takeFrom_1 : decode cX6_takeFrom 1 = .ok (.aload_n 1, 1) := by decide +kernel
theorem dX6_takeFrom_2 : decode cX6_takeFrom 2 = .ok (.getfield 37, 3) := by decide +kernel
theorem dX6_takeFrom_5 : decode cX6_takeFrom 5 = .ok (.putfield 37, 3) := by decide +kernel
theorem dX6_takeFrom_8 : decode cX6_takeFrom 8 = .ok (.aload_n 0, 1) := by decide +kernel
theorem dX6_takeFrom_9 : decode cX6_takeFrom 9 = .ok (.aload_n 1, 1) := by decide +kernel
theorem dX6_takeFrom_10 : decode cX6_takeFrom 10 = .ok (.getfield 41, 3) := by decide +kernel
theorem dX6_takeFrom_13 : decode cX6_takeFrom 13 = .ok (.putfield 41, 3) := by decide +kernel
theorem dX6_takeFrom_16 : decode cX6_takeFrom 16 = .ok (.aload_n 0, 1) := by decide +kernel
theorem dX6_takeFrom_17 : decode cX6_takeFrom 17 = .ok (.aload_n 1, 1) := by decide +kernel
theorem dX6_takeFrom_18 : decode cX6_takeFrom 18 = .ok (.getfield 44, 3) := by decide +kernel
theorem dX6_takeFrom_21 : decode cX6_takeFrom 21 = .ok (.putfield 44, 3) := by decide +kernel
theorem dX6_takeFrom_24 : decode cX6_takeFrom 24 = .ok (.aload_n 0, 1) := by decide +kernel
theorem dX6_takeFrom_25 : decode cX6_takeFrom 25 = .ok (.aload_n 1, 1) := by decide +kernel
theorem dX6_takeFrom_26 : decode cX6_takeFrom 26 = .ok (.getfield 47, 3) := by decide +kernel
theorem dX6_takeFrom_29 : decode cX6_takeFrom 29 = .ok (.putfield 47, 3) := by decide +kernel
theorem dX6_takeFrom_32 : decode cX6_takeFrom 32 = .ok (.aload_n 1, 1) := by decide +kernel
theorem dX6_takeFrom_33 : decode cX6_takeFrom 33 = .ok (.getfield 9, 3) := by decide +kernel
theorem dX6_takeFrom_36 : decode cX6_takeFrom 36 = .ok (.iconst 0, 1) := by decide +kernel
theorem dX6_takeFrom_37 : decode cX6_takeFrom 37 = .ok (.aload_n 0, 1) := by decide +kernel
theorem dX6_takeFrom_38 : decode cX6_takeFrom 38 = .ok (.getfield 9, 3) := by decide +kernel
theorem dX6_takeFrom_41 : decode cX6_takeFrom 41 = .ok (.iconst 0, 1) := by decide +kernel
theorem dX6_takeFrom_42 : decode cX6_takeFrom 42 = .ok (.bipush 16, 2) := by decide +kernel
theorem dX6_takeFrom_44 : decode cX6_takeFrom 44 = .ok (.invokestatic 50, 3) := by decide +kernel
theorem dX6_takeFrom_47 : decode cX6_takeFrom 47 = .ok (.aload_n 1, 1) := by decide +kernel
theorem dX6_takeFrom_48 : decode cX6_takeFrom 48 = .ok (.getfield 15, 3) := by decide +kernel
theorem dX6_takeFrom_51 : decode cX6_takeFrom 51 = .ok (.iconst 0, 1) := by decide +kernel
theorem dX6_takeFrom_52 : decode cX6_takeFrom 52 = .ok (.aload_n 0, 1) := by decide +kernel
theorem dX6_takeFrom_53 : decode cX6_takeFrom 53 = .ok (.getfield 15, 3) := by decide +kernel
theorem dX6_takeFrom_56 : decode cX6_takeFrom 56 = .ok (.iconst 0, 1) := by decide +kernel
theorem dX6_takeFrom_57 : decode cX6_takeFrom 57 = .ok (.bipush 7, 2) := by decide +kernel
theorem dX6_takeFrom_59 : decode cX6_takeFrom 59 = .ok (.invokestatic 50, 3) := by decide +kernel
theorem dX6_takeFrom_62 : decode cX6_takeFrom 62 = .ok (.aload_n 1, 1) := by decide +kernel
theorem dX6_takeFrom_63 : decode cX6_takeFrom 63 = .ok (.getfield 18, 3) := by decide +kernel
theorem dX6_takeFrom_66 : decode cX6_takeFrom 66 = .ok (.iconst 0, 1) := by decide +kernel
theorem dX6_takeFrom_67 : decode cX6_takeFrom 67 = .ok (.aload_n 0, 1) := by decide +kernel
theorem dX6_takeFrom_68 : decode cX6_takeFrom 68 = .ok (.getfield 18, 3) := by decide +kernel
theorem dX6_takeFrom_71 : decode cX6_takeFrom 71 = .ok (.iconst 0, 1) := by decide +kernel
theorem dX6_takeFrom_72 : decode cX6_takeFrom 72 = .ok (.bipush 7, 2) := by decide +kernel
theorem dX6_takeFrom_74 : decode cX6_takeFrom 74 = .ok (.invokestatic 50, 3) := by decide +kernel
theorem dX6_takeFrom_77 : decode cX6_takeFrom 77 = .ok (.aload_n 1, 1) := by decide +kernel
theorem dX6_takeFrom_78 : decode cX6_takeFrom 78 = .ok (.getfield 21, 3) := by decide +kernel
theorem dX6_takeFrom_81 : decode cX6_takeFrom 81 = .ok (.iconst 0, 1) := by decide +kernel
theorem dX6_takeFrom_82 : decode cX6_takeFrom 82 = .ok (.aload_n 0, 1) := by decide +kernel
theorem dX6_takeFrom_83 : decode cX6_takeFrom 83 = .ok (.getfield 21, 3) := by decide +kernel
theorem dX6_takeFrom_86 : decode cX6_takeFrom 86 = .ok (.iconst 0, 1) := by decide +kernel
theorem dX6_takeFrom_87 : decode cX6_takeFrom 87 = .ok (.bipush 7, 2) := by decide +kernel
theorem dX6_takeFrom_89 : decode cX6_takeFrom 89 = .ok (.invokestatic 50, 3) := by decide +kernel
theorem dX6_takeFrom_92 : decode cX6_takeFrom 92 = .ok (.aload_n 1, 1) := by decide +kernel
theorem dX6_takeFrom_93 : decode cX6_takeFrom 93 = .ok (.getfield 24, 3) := by decide +kernel
theorem dX6_takeFrom_96 : decode cX6_takeFrom 96 = .ok (.iconst 0, 1) := by decide +kernel
theorem dX6_takeFrom_97 : decode cX6_takeFrom 97 = .ok (.aload_n 0, 1) := by decide +kernel
theorem dX6_takeFrom_98 : decode cX6_takeFrom 98 = .ok (.getfield 24, 3) := by decide +kernel
theorem dX6_takeFrom_101 : decode cX6_takeFrom 101 = .ok (.iconst 0, 1) := by decide +kernel
theorem dX6_takeFrom_102 : decode cX6_takeFrom 102 = .ok (.bipush 112, 2) := by decide +kernel
theorem dX6_takeFrom_104 : decode cX6_takeFrom 104 = .ok (.invokestatic 50, 3) := by decide +kernel
theorem dX6_takeFrom_107 : decode cX6_takeFrom 107 = .ok (.aload_n 1, 1) := by decide +kernel
theorem dX6_takeFrom_108 : decode cX6_takeFrom 108 = .ok (.getfield 27, 3) := by decide +kernel
theorem dX6_takeFrom_111 : decode cX6_takeFrom 111 = .ok (.iconst 0, 1) := by decide +kernel
theorem dX6_takeFrom_112 : decode cX6_takeFrom 112 = .ok (.aload_n 0, 1) := by decide +kernel
theorem dX6_takeFrom_113 : decode cX6_takeFrom 113 = .ok (.getfield 27, 3) := by decide +kernel
theorem dX6_takeFrom_116 : decode cX6_takeFrom 116 = .ok (.iconst 0, 1) := by decide +kernel
theorem dX6_takeFrom_117 : decode cX6_takeFrom 117 = .ok (.bipush 8, 2) := by decide +kernel
theorem dX6_takeFrom_119 : decode cX6_takeFrom 119 = .ok (.invokestatic 50, 3) := by decide +kernel
theorem dX6_takeFrom_122 : decode cX6_takeFrom 122 = .ok (.aload_n 1, 1) := by decide +kernel
theorem dX6_takeFrom_123 : decode cX6_takeFrom 123 = .ok (.getfield 30, 3) := by decide +kernel
theorem dX6_takeFrom_126 : decode cX6_takeFrom 126 = .ok (.iconst 0, 1) := by decide +kernel
theorem dX6_takeFrom_127 : decode cX6_takeFrom 127 = .ok (.aload_n 0, 1) := by decide +kernel
theorem dX6_takeFrom_128 : decode cX6_takeFrom 128 = .ok (.getfield 30, 3) := by decide +kernel
theorem dX6_takeFrom_131 : decode cX6_takeFrom 131 = .ok (.iconst 0, 1) := by decide +kernel
theorem dX6_takeFrom_132 : decode cX6_takeFrom 132 = .ok (.bipush 8, 2) := by decide +kernel
theorem dX6_takeFrom_134 : decode cX6_takeFrom 134 = .ok (.invokestatic 50, 3) := by decide +kernel
theorem dX6_takeFrom_137 : decode cX6_takeFrom 137 = .ok (.return_, 1) := by decide +kernel
theorem dX6_addQuestion_0 : decode cX6_addQuestion 0 = .ok (.aload_n 0, 1) := by decide +kernel
theorem dX6_addQuestion_1 : decode cX6_addQuestion 1 = .ok (.getfield 41, 3) := by decide +kernel
theorem dX6_addQuestion_4 : decode cX6_addQuestion 4 = .ok (.bipush 7, 2) := by decide +kernel
theorem dX6_addQuestion_6 : decode cX6_addQuestion 6 = .ok (.if_icmp .lt 4, 3) := by decide +kernel
theorem dX6_addQuestion_9 : decode cX6_addQuestion 9 = .ok (.return_, 1) := by decide +kernel
theorem dX6_addQuestion_10 : decode cX6_addQuestion 10 = .ok (.aload_n 0, 1) := by decide +kernel
theorem dX6_addQuestion_11 : decode cX6_addQuestion 11 = .ok (.getfield 15, 3) := by decide +kernel
theorem dX6_addQuestion_14 : decode cX6_addQuestion 14 = .ok (.aload_n 0, 1) := by decide +kernel
theorem dX6_addQuestion_15 : decode cX6_addQuestion 15 = .ok (.getfield 41, 3) := by decide +kernel
theorem dX6_addQuestion_18 : decode cX6_addQuestion 18 = .ok (.iload_n 1, 1) := by decide +kernel
theorem dX6_addQuestion_19 : decode cX6_addQuestion 19 = .ok (.iastore, 1) := by decide +kernel
theorem dX6_addQuestion_20 : decode cX6_addQuestion 20 = .ok (.aload_n 0, 1) := by decide +kernel
theorem dX6_addQuestion_21 : decode cX6_addQuestion 21 = .ok (.getfield 18, 3) := by decide +kernel
theorem dX6_addQuestion_24 : decode cX6_addQuestion 24 = .ok (.aload_n 0, 1) := by decide +kernel
theorem dX6_addQuestion_25 : decode cX6_addQuestion 25 = .ok (.getfield 41, 3) := by decide +kernel
theorem dX6_addQuestion_28 : decode cX6_addQuestion 28 = .ok (.iload_n 2, 1) := by decide +kernel
theorem dX6_addQuestion_29 : decode cX6_addQuestion 29 = .ok (.iastore, 1) := by decide +kernel
theorem dX6_addQuestion_30 : decode cX6_addQuestion 30 = .ok (.aload_n 0, 1) := by decide +kernel
theorem dX6_addQuestion_31 : decode cX6_addQuestion 31 = .ok (.getfield 21, 3) := by decide +kernel
theorem dX6_addQuestion_34 : decode cX6_addQuestion 34 = .ok (.aload_n 0, 1) := by decide +kernel
theorem dX6_addQuestion_35 : decode cX6_addQuestion 35 = .ok (.getfield 41, 3) := by decide +kernel
theorem dX6_addQuestion_38 : decode cX6_addQuestion 38 = .ok (.iload_n 3, 1) := by decide +kernel
theorem dX6_addQuestion_39 : decode cX6_addQuestion 39 = .ok (.iastore, 1) := by decide +kernel
theorem dX6_addQuestion_40 : decode cX6_addQuestion 40 = .ok (.iconst 0, 1) := by decide +kernel
theorem dX6_addQuestion_41 : decode cX6_addQuestion 41 = .ok (.istore 4, 2) := by decide +kernel
theorem dX6_addQuestion_43 : decode cX6_addQuestion 43 = .ok (.iload 4, 2) := by decide +kernel
theorem dX6_addQuestion_45 : decode cX6_addQuestion 45 = .ok (.bipush 16, 2) := by decide +kernel
theorem dX6_addQuestion_47 : decode cX6_addQuestion 47 = .ok (.if_icmp .ge 19, 3) := by decide +kernel
theorem dX6_addQuestion_50 : decode cX6_addQuestion 50 = .ok (.aload_n 0, 1) := by decide +kernel
theorem dX6_addQuestion_51 : decode cX6_addQuestion 51 = .ok (.aload_n 0, 1) := by decide +kernel
theorem dX6_addQuestion_52 : decode cX6_addQuestion 52 = .ok (.getfield 41, 3) := by decide +kernel
theorem dX6_addQuestion_55 : decode cX6_addQuestion 55 = .ok (.iload 4, 2) := by decide +kernel
theorem dX6_addQuestion_57 : decode cX6_addQuestion 57 = .ok (.invokevirtual 56, 3) := by decide +kernel
theorem dX6_addQuestion_60 : decode cX6_addQuestion 60 = .ok (.iinc 4 1, 3) := by decide +kernel
theorem dX6_addQuestion_63 : decode cX6_addQuestion 63 = .ok (.goto (-20), 3) := by decide +kernel
theorem dX6_addQuestion_66 : decode cX6_addQuestion 66 = .ok (.aload_n 0, 1) := by decide +kernel
theorem dX6_addQuestion_67 : decode cX6_addQuestion 67 = .ok (.dup, 1) := by decide +kernel
