theorem dX0_init_0 : decode cX0_init 0 = .ok (.aload_n 0, 1) := by decide +kernel
theorem dX0_init_1 : decode cX0_init 1 = .ok (.invokespecial 3, 3) := by decide +kernel
theorem dX0_init_4 : decode cX0_init 4 = .ok (.aload_n 0, 1) := by decide +kernel
theorem dX0_init_5 : decode cX0_init 5 = .ok (.bipush 16, 2) := by decide +kernel
theorem dX0_init_7 : decode cX0_init 7 = .ok (.newarray .int, 2) := by decide +kernel
theorem dX0_init_9 : decode cX0_init 9 = .ok (.putfield 9, 3) := by decide +kernel
theorem dX0_init_12 : decode cX0_init 12 = .ok (.aload_n 0, 1) := by decide +kernel
theorem dX0_init_13 : decode cX0_init 13 = .ok (.bipush 16, 2) := by decide +kernel
theorem dX0_init_15 : decode cX0_init 15 = .ok (.newarray .int, 2) := by decide +kernel
theorem dX0_init_17 : decode cX0_init 17 = .ok (.putfield 15, 3) := by decide +kernel
theorem dX0_init_20 : decode cX0_init 20 = .ok (.aload_n 0, 1) := by decide +kernel
theorem dX0_init_21 : decode cX0_init 21 = .ok (.aload_n 1, 1) := by decide +kernel
theorem dX0_init_22 : decode cX0_init 22 = .ok (.putfield 18, 3) := by decide +kernel
theorem dX0_init_25 : decode cX0_init 25 = .ok (.aload_n 0, 1) := by decide +kernel
theorem dX0_init_26 : decode cX0_init 26 = .ok (.aload_n 2, 1) := by decide +kernel
theorem dX0_init_27 : decode cX0_init 27 = .ok (.putfield 22, 3) := by decide +kernel
theorem dX0_init_30 : decode cX0_init 30 = .ok (.return_, 1) := by decide +kernel
theorem dX0_hit_0 : decode cX0_hit 0 = .ok (.aload_n 0, 1) := by decide +kernel
theorem dX0_hit_1 : decode cX0_hit 1 = .ok (.getfield 18, 3) := by decide +kernel
theorem dX0_hit_4 : decode cX0_hit 4 = .ok (.iload_n 1, 1) := by decide +kernel
theorem dX0_hit_5 : decode cX0_hit 5 = .ok (.iload 5, 2) := by decide +kernel
theorem dX0_hit_7 : decode cX0_hit 7 = .ok (.invokevirtual 26, 3) := by decide +kernel
theorem dX0_hit_10 : decode cX0_hit 10 = .ok (.istore 6, 2) := by decide +kernel
theorem dX0_hit_12 : decode cX0_hit 12 = .ok (.iconst 0, 1) := by decide +kernel
theorem dX0_hit_13 : decode cX0_hit 13 = .ok (.istore 7, 2) := by decide +kernel
theorem dX0_hit_15 : decode cX0_hit 15 = .ok (.lload_n 3, 1) := by decide +kernel
theorem dX0_hit_16 : decode cX0_hit 16 = .ok (.iload 6, 2) := by decide +kernel
theorem dX0_hit_18 : decode cX0_hit 18 = .ok (.iload_n 2, 1) := by decide +kernel
theorem dX0_hit_19 : decode cX0_hit 19 = .ok (.invokestatic 32, 3) := by decide +kernel
theorem dX0_hit_22 : decode cX0_hit 22 = .ok (.iload_n 1, 1) := by decide +kernel
theorem dX0_hit_23 : decode cX0_hit 23 = .ok (.if_icmp .ne 27, 3) := by decide +kernel
theorem dX0_hit_26 : decode cX0_hit 26 = .ok (.iload 7, 2) := by decide +kernel
theorem dX0_hit_28 : decode cX0_hit 28 = .ok (.iload_n 2, 1) := by decide +kernel
theorem dX0_hit_29 : decode cX0_hit 29 = .ok (.ifCond .ne 8, 3) := by decide +kernel
theorem dX0_hit_32 : decode cX0_hit 32 = .ok (.bipush 100, 2) := by decide +kernel
theorem dX0_hit_34 : decode cX0_hit 34 = .ok (.goto 13, 3) := by decide +kernel
theorem dX0_hit_37 : decode cX0_hit 37 = .ok (.bipush 100, 2) := by decide +kernel
theorem dX0_hit_39 : decode cX0_hit 39 = .ok (.aload_n 0, 1) := by decide +kernel
theorem dX0_hit_40 : decode cX0_hit 40 = .ok (.getfield 22, 3) := by decide +kernel
theorem dX0_hit_43 : decode cX0_hit 43 = .ok (.getfield 36, 3) := by decide +kernel
theorem dX0_hit_46 : decode cX0_hit 46 = .ok (.isub, 1) := by decide +kernel
theorem dX0_hit_47 : decode cX0_hit 47 = .ok (.iadd, 1) := by decide +kernel
theorem dX0_hit_48 : decode cX0_hit 48 = .ok (.istore 7, 2) := by decide +kernel
theorem dX0_hit_50 : decode cX0_hit 50 = .ok (.iload_n 2, 1) := by decide +kernel
theorem dX0_hit_51 : decode cX0_hit 51 = .ok (.ifCond .eq 26, 3) := by decide +kernel
theorem dX0_hit_54 : decode cX0_hit 54 = .ok (.lload_n 3, 1) := by decide +kernel
theorem dX0_hit_55 : decode cX0_hit 55 = .ok (.iload 6, 2) := by decide +kernel
theorem dX0_hit_57 : decode cX0_hit 57 = .ok (.iconst 0, 1) := by decide +kernel
theorem dX0_hit_58 : decode cX0_hit 58 = .ok (.invokestatic 32, 3) := by decide +kernel
theorem dX0_hit_61 : decode cX0_hit 61 = .ok (.iload_n 1, 1) := by decide +kernel
theorem dX0_hit_62 : decode cX0_hit 62 = .ok (.if_icmp .ne 15, 3) := by decide +kernel
theorem dX0_hit_65 : decode cX0_hit 65 = .ok (.iload 7, 2) := by decide +kernel
theorem dX0_hit_67 : decode cX0_hit 67 = .ok (.aload_n 0, 1) := by decide +kernel
theorem dX0_hit_68 : decode cX0_hit 68 = .ok (.getfield 22, 3) := by decide +kernel
theorem dX0_hit_71 : decode cX0_hit 71 = .ok (.getfield 36, 3) := by decide +kernel
theorem dX0_hit_74 : decode cX0_hit 74 = .ok (.iadd, 1) := by decide +kernel
theorem dX0_hit_75 : decode cX0_hit 75 = .ok (.istore 7, 2) := by decide +kernel
theorem dX0_hit_77 : decode cX0_hit 77 = .ok (.iload 7, 2) := by decide +kernel
theorem dX0_hit_79 : decode cX0_hit 79 = .ok (.ireturn, 1) := by decide +kernel
theorem dX0_hitBy_0 : decode cX0_hitBy 0 = .ok (.iload_n 2, 1) := by decide +kernel
theorem dX0_hitBy_1 : decode cX0_hitBy 1 = .ok (.aload_n 0, 1) := by decide +kernel
theorem dX0_hitBy_2 : decode cX0_hitBy 2 = .ok (.getfield 18, 3) := by decide +kernel
theorem dX0_hitBy_5 : decode cX0_hitBy 5 = .ok (.iload_n 1, 1) := by decide +kernel
theorem dX0_hitBy_6 : decode cX0_hitBy 6 = .ok (.aload_n 0, 1) := by decide +kernel
theorem dX0_hitBy_7 : decode cX0_hitBy 7 = .ok (.getfield 22, 3) := by decide +kernel
theorem dX0_hitBy_10 : decode cX0_hitBy 10 = .ok (.getfield 42, 3) := by decide +kernel
theorem dX0_hitBy_13 : decode cX0_hitBy 13 = .ok (.invokevirtual 46, 3) := by decide +kernel
theorem dX0_hitBy_16 : decode cX0_hitBy 16 = .ok (.invokestatic 49, 3) := by decide +kernel
theorem dX0_hitBy_19 : decode cX0_hitBy 19 = .ok (.istore 5, 2) := by decide +kernel
theorem dX0_hitBy_21 : decode cX0_hitBy 21 = .ok (.aload_n 0, 1) := by decide +kernel
theorem dX0_hitBy_22 : decode cX0_hitBy 22 = .ok (.iload_n 1, 1) := by decide +kernel
theorem dX0_hitBy_23 : decode cX0_hitBy 23 = .ok (.iload 5, 2) := by decide +kernel
theorem dX0_hitBy_25 : decode cX0_hitBy 25 = .ok (.lload_n 3, 1) := by decide +kernel
theorem dX0_hitBy_26 : decode cX0_hitBy 26 = .ok (.aload_n 0, 1) := by decide +kernel
theorem dX0_hitBy_27 : decode cX0_hitBy 27 = .ok (.getfield 22, 3) := by decide +kernel
theorem dX0_hitBy_30 : decode cX0_hitBy 30 = .ok (.getfield 53, 3) := by decide +kernel
theorem dX0_hitBy_33 : decode cX0_hitBy 33 = .ok (.invokevirtual 56, 3) := by decide +kernel
theorem dX0_hitBy_36 : decode cX0_hitBy 36 = .ok (.ireturn, 1) := by decide +kernel
theorem dX0_above_0 : decode cX0_above 0 = .ok (.aload_n 0, 1) := by decide +kernel
theorem dX0_above_1 : decode cX0_above 1 = .ok (.iload_n 1, 1) := by decide +kernel
theorem dX0_above_2 : decode cX0_above 2 = .ok (.lload_n 2, 1) := by decide +kernel
theorem dX0_above_3 : decode cX0_above 3 = .ok (.aload_n 0, 1) := by decide +kernel
theorem dX0_above_4 : decode cX0_above 4 = .ok (.getfield 22, 3) := by decide +kernel
theorem dX0_above_7 : decode cX0_above 7 = .ok (.getfield 53, 3) := by decide +kernel
theorem dX0_above_10 : decode cX0_above 10 = .ok (.aload_n 0, 1) := by decide +kernel
theorem dX0_above_11 : decode cX0_above 11 = .ok (.getfield 22, 3) := by decide +kernel
theorem dX0_above_14 : decode cX0_above 14 = .ok (.getfield 42, 3) := by decide +kernel
theorem dX0_above_17 : decode cX0_above 17 = .ok (.invokevirtual 60, 3) := by decide +kernel
theorem dX0_above_20 : decode cX0_above 20 = .ok (.lreturn, 1) := by decide +kernel
theorem dX0_aboveIn_0 : decode cX0_aboveIn 0 = .ok (.lconst 0, 1) := by decide +kernel
theorem dX0_aboveIn_1 : decode cX0_aboveIn 1 = .ok (.lstore 6, 2) := by decide +kernel
theorem dX0_aboveIn_3 : decode cX0_aboveIn 3 = .ok (.iconst 0, 1) := by decide +kernel
theorem dX0_aboveIn_4 : decode cX0_aboveIn 4 = .ok (.istore 8, 2) := by decide +kernel
theorem dX0_aboveIn_6 : decode cX0_aboveIn 6 = .ok (.iload 8, 2) := by decide +kernel
theorem dX0_aboveIn_8 : decode cX0_aboveIn 8 = .ok (.aload_n 0, 1) := by decide +kernel
theorem dX0_aboveIn_9 : decode cX0_aboveIn 9 = .ok (.getfield 18, 3) := by decide +kernel
theorem dX0_aboveIn_12 : decode cX0_aboveIn 12 = .ok (.getfield 64, 3) := by decide +kernel
theorem dX0_aboveIn_15 : decode cX0_aboveIn 15 = .ok (.if_icmp .ge 54, 3) := by decide +kernel
theorem dX0_aboveIn_18 : decode cX0_aboveIn 18 = .ok (.iload_n 1, 1) := by decide +kernel
theorem dX0_aboveIn_19 : decode cX0_aboveIn 19 = .ok (.aload_n 0, 1) := by decide +kernel
theorem dX0_aboveIn_20 : decode cX0_aboveIn 20 = .ok (.getfield 18, 3) := by decide +kernel
theorem dX0_aboveIn_23 : decode cX0_aboveIn 23 = .ok (.iload 8, 2) := by decide +kernel
theorem dX0_aboveIn_25 : decode cX0_aboveIn 25 = .ok (.iload 5, 2) := by decide +kernel
theorem dX0_aboveIn_27 : decode cX0_aboveIn 27 = .ok (.invokevirtual 46, 3) := by decide +kernel
theorem dX0_aboveIn_30 : decode cX0_aboveIn 30 = .ok (.invokestatic 49, 3) := by decide +kernel
theorem dX0_aboveIn_33 : decode cX0_aboveIn 33 = .ok (.istore 9, 2) := by decide +kernel
theorem dX0_aboveIn_35 : decode cX0_aboveIn 35 = .ok (.lload 6, 2) := by decide +kernel
theorem dX0_aboveIn_37 : decode cX0_aboveIn 37 = .ok (.aload_n 0, 1) := by decide +kernel
theorem dX0_aboveIn_38 : decode cX0_aboveIn 38 = .ok (.getfield 18, 3) := by decide +kernel
theorem dX0_aboveIn_41 : decode cX0_aboveIn 41 = .ok (.iload 8, 2) := by decide +kernel
theorem dX0_aboveIn_43 : decode cX0_aboveIn 43 = .ok (.invokevirtual 67, 3) := by decide +kernel
theorem dX0_aboveIn_46 : decode cX0_aboveIn 46 = .ok (.i2l, 1) := by decide +kernel
theorem dX0_aboveIn_47 : decode cX0_aboveIn 47 = .ok (.aload_n 0, 1) := by decide +kernel
theorem dX0_aboveIn_48 : decode cX0_aboveIn 48 = .ok (.iload 8, 2) := by decide +kernel
theorem dX0_aboveIn_50 : decode cX0_aboveIn 50 = .ok (.iload 9, 2) := by decide +kernel
theorem dX0_aboveIn_52 : decode cX0_aboveIn 52 = .ok (.lload_n 2, 1) := by decide +kernel
theorem dX0_aboveIn_53 : decode cX0_aboveIn 53 = .ok (.iload 4, 2) := by decide +kernel
theorem dX0_aboveIn_55 : decode cX0_aboveIn 55 = .ok (.invokevirtual 56, 3) := by decide +kernel
theorem dX0_aboveIn_58 : decode cX0_aboveIn 58 = .ok (.i2l, 1) := by decide +kernel
theorem dX0_aboveIn_59 : decode cX0_aboveIn 59 = .ok (.lmul, 1) := by decide +kernel
theorem dX0_aboveIn_60 : decode cX0_aboveIn 60 = .ok (.ladd, 1) := by decide +kernel
theorem dX0_aboveIn_61 : decode cX0_aboveIn 61 = .ok (.lstore 6, 2) := by decide +kernel
theorem dX0_aboveIn_63 : decode cX0_aboveIn 63 = .ok (.iinc 8 1, 3) := by decide +kernel
theorem dX0_aboveIn_66 : decode cX0_aboveIn 66 = .ok (.goto (-60), 3) := by decide +kernel
theorem dX0_aboveIn_69 : decode cX0_aboveIn 69 = .ok (.lload 6, 2) := by decide +kernel
theorem dX0_aboveIn_71 : decode cX0_aboveIn 71 = .ok (.lreturn, 1) := by decide +kernel
theorem dX0_answerOf_0 : decode cX0_answerOf 0 = .ok (.aload_n 0, 1) := by decide +kernel
theorem dX0_answerOf_1 : decode cX0_answerOf 1 = .ok (.getfield 9, 3) := by decide +kernel
theorem dX0_answerOf_4 : decode cX0_answerOf 4 = .ok (.iconst 0, 1) := by decide +kernel
theorem dX0_answerOf_5 : decode cX0_answerOf 5 = .ok (.invokestatic 71, 3) := by decide +kernel
theorem dX0_answerOf_8 : decode cX0_answerOf 8 = .ok (.lconst 0, 1) := by decide +kernel
theorem dX0_answerOf_9 : decode cX0_answerOf 9 = .ok (.lstore_n 2, 1) := by decide +kernel
theorem dX0_answerOf_10 : decode cX0_answerOf 10 = .ok (.iconst 0, 1) := by decide +kernel
theorem dX0_answerOf_11 : decode cX0_answerOf 11 = .ok (.istore 4, 2) := by decide +kernel
theorem dX0_answerOf_13 : decode cX0_answerOf 13 = .ok (.iload 4, 2) := by decide +kernel
theorem dX0_answerOf_15 : decode cX0_answerOf 15 = .ok (.aload_n 0, 1) := by decide +kernel
theorem dX0_answerOf_16 : decode cX0_answerOf 16 = .ok (.getfield 18, 3) := by decide +kernel
theorem dX0_answerOf_19 : decode cX0_answerOf 19 = .ok (.getfield 64, 3) := by decide +kernel
theorem dX0_answerOf_22 : decode cX0_answerOf 22 = .ok (.if_icmp .ge 82, 3) := by decide +kernel
theorem dX0_answerOf_25 : decode cX0_answerOf 25 = .ok (.iload_n 1, 1) := by decide +kernel
theorem dX0_answerOf_26 : decode cX0_answerOf 26 = .ok (.aload_n 0, 1) := by decide +kernel
theorem dX0_answerOf_27 : decode cX0_answerOf 27 = .ok (.getfield 18, 3) := by decide +kernel
theorem dX0_answerOf_30 : decode cX0_answerOf 30 = .ok (.iload 4, 2) := by decide +kernel
theorem dX0_answerOf_32 : decode cX0_answerOf 32 = .ok (.aload_n 0, 1) := by decide +kernel
theorem dX0_answerOf_33 : decode cX0_answerOf 33 = .ok (.getfield 22, 3) := by decide +kernel
theorem dX0_answerOf_36 : decode cX0_answerOf 36 = .ok (.getfield 42, 3) := by decide +kernel
theorem dX0_answerOf_39 : decode cX0_answerOf 39 = .ok (.invokevirtual 46, 3) := by decide +kernel
theorem dX0_answerOf_42 : decode cX0_answerOf 42 = .ok (.invokestatic 49, 3) := by decide +kernel
theorem dX0_answerOf_45 : decode cX0_answerOf 45 = .ok (.istore 5, 2) := by decide +kernel
theorem dX0_answerOf_47 : decode cX0_answerOf 47 = .ok (.aload_n 0, 1) := by decide +kernel
theorem dX0_answerOf_48 : decode cX0_answerOf 48 = .ok (.lload_n 2, 1) := by decide +kernel
theorem dX0_answerOf_49 : decode cX0_answerOf 49 = .ok (.iload 4, 2) := by decide +kernel
theorem dX0_answerOf_51 : decode cX0_answerOf 51 = .ok (.iconst 0, 1) := by decide +kernel
theorem dX0_answerOf_52 : decode cX0_answerOf 52 = .ok (.iload 5, 2) := by decide +kernel
theorem dX0_answerOf_54 : decode cX0_answerOf 54 = .ok (.ifCond .ne 8, 3) := by decide +kernel
theorem dX0_answerOf_57 : decode cX0_answerOf 57 = .ok (.bipush 100, 2) := by decide +kernel
theorem dX0_answerOf_59 : decode cX0_answerOf 59 = .ok (.goto 10, 3) := by decide +kernel
theorem dX0_answerOf_62 : decode cX0_answerOf 62 = .ok (.aload_n 0, 1) := by decide +kernel
theorem dX0_answerOf_63 : decode cX0_answerOf 63 = .ok (.getfield 22, 3) := by decide +kernel
theorem dX0_answerOf_66 : decode cX0_answerOf 66 = .ok (.getfield 36, 3) := by decide +kernel
theorem dX0_answerOf_69 : decode cX0_answerOf 69 = .ok (.invokevirtual 77, 3) := by decide +kernel
theorem dX0_answerOf_72 : decode cX0_answerOf 72 = .ok (.lstore_n 2, 1) := by decide +kernel
theorem dX0_answerOf_73 : decode cX0_answerOf 73 = .ok (.iload 5, 2) := by decide +kernel
theorem dX0_answerOf_75 : decode cX0_answerOf 75 = .ok (.ifCond .eq 23, 3) := by decide +kernel
theorem dX0_answerOf_78 : decode cX0_answerOf 78 = .ok (.aload_n 0, 1) := by decide +kernel
theorem dX0_answerOf_79 : decode cX0_answerOf 79 = .ok (.lload_n 2, 1) := by decide +kernel
theorem dX0_answerOf_80 : decode cX0_answerOf 80 = .ok (.iload 4, 2) := by decide +kernel
theorem dX0_answerOf_82 : decode cX0_answerOf 82 = .ok (.iload 5, 2) := by decide +kernel
theorem dX0_answerOf_84 : decode cX0_answerOf 84 = .ok (.bipush 100, 2) := by decide +kernel
theorem dX0_answerOf_86 : decode cX0_answerOf 86 = .ok (.aload_n 0, 1) := by decide +kernel
theorem dX0_answerOf_87 : decode cX0_answerOf 87 = .ok (.getfield 22, 3) := by decide +kernel
theorem dX0_answerOf_90 : decode cX0_answerOf 90 = .ok (.getfield 36, 3) := by decide +kernel
theorem dX0_answerOf_93 : decode cX0_answerOf 93 = .ok (.isub, 1) := by decide +kernel
theorem dX0_answerOf_94 : decode cX0_answerOf 94 = .ok (.invokevirtual 77, 3) := by decide +kernel
theorem dX0_answerOf_97 : decode cX0_answerOf 97 = .ok (.lstore_n 2, 1) := by decide +kernel
theorem dX0_answerOf_98 : decode cX0_answerOf 98 = .ok (.iinc 4 1, 3) := by decide +kernel
theorem dX0_answerOf_101 : decode cX0_answerOf 101 = .ok (.goto (-88), 3) := by decide +kernel
theorem dX0_answerOf_104 : decode cX0_answerOf 104 = .ok (.lload_n 2, 1) := by decide +kernel
theorem dX0_answerOf_105 : decode cX0_answerOf 105 = .ok (.lreturn, 1) := by decide +kernel
theorem dX0_offer_0 : decode cX0_offer 0 = .ok (.aload_n 0, 1) := by decide +kernel
theorem dX0_offer_1 : decode cX0_offer 1 = .ok (.getfield 18, 3) := by decide +kernel
theorem dX0_offer_4 : decode cX0_offer 4 = .ok (.iload_n 3, 1) := by decide +kernel
theorem dX0_offer_5 : decode cX0_offer 5 = .ok (.aload_n 0, 1) := by decide +kernel
theorem dX0_offer_6 : decode cX0_offer 6 = .ok (.getfield 22, 3) := by decide +kernel
theorem dX0_offer_9 : decode cX0_offer 9 = .ok (.getfield 53, 3) := by decide +kernel
theorem dX0_offer_12 : decode cX0_offer 12 = .ok (.invokevirtual 26, 3) := by decide +kernel
theorem dX0_offer_15 : decode cX0_offer 15 = .ok (.istore 6, 2) := by decide +kernel
theorem dX0_offer_17 : decode cX0_offer 17 = .ok (.iload 6, 2) := by decide +kernel
theorem dX0_offer_19 : decode cX0_offer 19 = .ok (.iconst 4, 1) := by decide +kernel
theorem dX0_offer_20 : decode cX0_offer 20 = .ok (.imul, 1) := by decide +kernel
theorem dX0_offer_21 : decode cX0_offer 21 = .ok (.iload 4, 2) := by decide +kernel
theorem dX0_offer_23 : decode cX0_offer 23 = .ok (.iadd, 1) := by decide +kernel
theorem dX0_offer_24 : decode cX0_offer 24 = .ok (.istore 7, 2) := by decide +kernel
theorem dX0_offer_26 : decode cX0_offer 26 = .ok (.aload_n 0, 1) := by decide +kernel
theorem dX0_offer_27 : decode cX0_offer 27 = .ok (.getfield 18, 3) := by decide +kernel
theorem dX0_offer_30 : decode cX0_offer 30 = .ok (.iload_n 3, 1) := by decide +kernel
theorem dX0_offer_31 : decode cX0_offer 31 = .ok (.invokevirtual 67, 3) := by decide +kernel
theorem dX0_offer_34 : decode cX0_offer 34 = .ok (.iload 5, 2) := by decide +kernel
theorem dX0_offer_36 : decode cX0_offer 36 = .ok (.imul, 1) := by decide +kernel
theorem dX0_offer_37 : decode cX0_offer 37 = .ok (.istore 8, 2) := by decide +kernel
theorem dX0_offer_39 : decode cX0_offer 39 = .ok (.iload 7, 2) := by decide +kernel
theorem dX0_offer_41 : decode cX0_offer 41 = .ok (.iconst 0, 1) := by decide +kernel
theorem dX0_offer_42 : decode cX0_offer 42 = .ok (.aload_n 0, 1) := by decide +kernel
theorem dX0_offer_43 : decode cX0_offer 43 = .ok (.getfield 9, 3) := by decide +kernel
theorem dX0_offer_46 : decode cX0_offer 46 = .ok (.arraylength, 1) := by decide +kernel
theorem dX0_offer_47 : decode cX0_offer 47 = .ok (.iconst 1, 1) := by decide +kernel
theorem dX0_offer_48 : decode cX0_offer 48 = .ok (.isub, 1) := by decide +kernel
theorem dX0_offer_49 : decode cX0_offer 49 = .ok (.invokestatic 81, 3) := by decide +kernel
theorem dX0_offer_52 : decode cX0_offer 52 = .ok (.ifCond .eq 15, 3) := by decide +kernel
theorem dX0_offer_55 : decode cX0_offer 55 = .ok (.iload 8, 2) := by decide +kernel
theorem dX0_offer_57 : decode cX0_offer 57 = .ok (.aload_n 0, 1) := by decide +kernel
theorem dX0_offer_58 : decode cX0_offer 58 = .ok (.getfield 9, 3) := by decide +kernel
theorem dX0_offer_61 : decode cX0_offer 61 = .ok (.iload 7, 2) := by decide +kernel
theorem dX0_offer_63 : decode cX0_offer 63 = .ok (.iaload, 1) := by decide +kernel
theorem dX0_offer_64 : decode cX0_offer 64 = .ok (.if_icmp .gt 5, 3) := by decide +kernel
theorem dX0_offer_67 : decode cX0_offer 67 = .ok (.lload_n 1, 1) := by decide +kernel
theorem dX0_offer_68 : decode cX0_offer 68 = .ok (.lreturn, 1) := by decide +kernel
theorem dX0_offer_69 : decode cX0_offer 69 = .ok (.aload_n 0, 1) := by decide +kernel
theorem dX0_offer_70 : decode cX0_offer 70 = .ok (.getfield 9, 3) := by decide +kernel
theorem dX0_offer_73 : decode cX0_offer 73 = .ok (.iload 7, 2) := by decide +kernel
theorem dX0_offer_75 : decode cX0_offer 75 = .ok (.iload 8, 2) := by decide +kernel
theorem dX0_offer_77 : decode cX0_offer 77 = .ok (.iastore, 1) := by decide +kernel
theorem dX0_offer_78 : decode cX0_offer 78 = .ok (.lload_n 1, 1) := by decide +kernel
theorem dX0_offer_79 : decode cX0_offer 79 = .ok (.iload 6, 2) := by decide +kernel
theorem dX0_offer_81 : decode cX0_offer 81 = .ok (.iload 4, 2) := by decide +kernel
theorem dX0_offer_83 : decode cX0_offer 83 = .ok (.iload_n 3, 1) := by decide +kernel
theorem dX0_offer_84 : decode cX0_offer 84 = .ok (.invokestatic 85, 3) := by decide +kernel
theorem dX0_offer_87 : decode cX0_offer 87 = .ok (.lreturn, 1) := by decide +kernel
theorem dX0_isSettled_0 : decode cX0_isSettled 0 = .ok (.aload_n 0, 1) := by decide +kernel
theorem dX0_isSettled_1 : decode cX0_isSettled 1 = .ok (.aload_n 0, 1) := by decide +kernel
theorem dX0_isSettled_2 : decode cX0_isSettled 2 = .ok (.iload_n 1, 1) := by decide +kernel
theorem dX0_isSettled_3 : decode cX0_isSettled 3 = .ok (.invokevirtual 88, 3) := by decide +kernel
theorem dX0_isSettled_6 : decode cX0_isSettled 6 = .ok (.invokevirtual 92, 3) := by decide +kernel
theorem dX0_isSettled_9 : decode cX0_isSettled 9 = .ok (.iconst 0, 1) := by decide +kernel
theorem dX0_isSettled_10 : decode cX0_isSettled 10 = .ok (.istore_n 2, 1) := by decide +kernel
theorem dX0_isSettled_11 : decode cX0_isSettled 11 = .ok (.iload_n 2, 1) := by decide +kernel
theorem dX0_isSettled_12 : decode cX0_isSettled 12 = .ok (.iconst 4, 1) := by decide +kernel
theorem dX0_isSettled_13 : decode cX0_isSettled 13 = .ok (.if_icmp .ge 56, 3) := by decide +kernel
theorem dX0_isSettled_16 : decode cX0_isSettled 16 = .ok (.aload_n 0, 1) := by decide +kernel
theorem dX0_isSettled_17 : decode cX0_isSettled 17 = .ok (.getfield 15, 3) := by decide +kernel
theorem dX0_isSettled_20 : decode cX0_isSettled 20 = .ok (.iload_n 2, 1) := by decide +kernel
theorem dX0_isSettled_21 : decode cX0_isSettled 21 = .ok (.iconst 4, 1) := by decide +kernel
theorem dX0_isSettled_22 : decode cX0_isSettled 22 = .ok (.imul, 1) := by decide +kernel
theorem dX0_isSettled_23 : decode cX0_isSettled 23 = .ok (.iload_n 1, 1) := by decide +kernel
theorem dX0_isSettled_24 : decode cX0_isSettled 24 = .ok (.iload_n 2, 1) := by decide +kernel
theorem dX0_isSettled_25 : decode cX0_isSettled 25 = .ok (.invokestatic 49, 3) := by decide +kernel
theorem dX0_isSettled_28 : decode cX0_isSettled 28 = .ok (.iadd, 1) := by decide +kernel
theorem dX0_isSettled_29 : decode cX0_isSettled 29 = .ok (.iaload, 1) := by decide +kernel
theorem dX0_isSettled_30 : decode cX0_isSettled 30 = .ok (.istore_n 3, 1) := by decide +kernel
theorem dX0_isSettled_31 : decode cX0_isSettled 31 = .ok (.iconst 0, 1) := by decide +kernel
theorem dX0_isSettled_32 : decode cX0_isSettled 32 = .ok (.istore 4, 2) := by decide +kernel
theorem dX0_isSettled_34 : decode cX0_isSettled 34 = .ok (.iload 4, 2) := by decide +kernel
theorem dX0_isSettled_36 : decode cX0_isSettled 36 = .ok (.iconst 4, 1) := by decide +kernel
theorem dX0_isSettled_37 : decode cX0_isSettled 37 = .ok (.if_icmp .ge 26, 3) := by decide +kernel
theorem dX0_isSettled_40 : decode cX0_isSettled 40 = .ok (.aload_n 0, 1) := by decide +kernel
theorem dX0_isSettled_41 : decode cX0_isSettled 41 = .ok (.getfield 15, 3) := by decide +kernel
theorem dX0_isSettled_44 : decode cX0_isSettled 44 = .ok (.iload_n 2, 1) := by decide +kernel
theorem dX0_isSettled_45 : decode cX0_isSettled 45 = .ok (.iconst 4, 1) := by decide +kernel
theorem dX0_isSettled_46 : decode cX0_isSettled 46 = .ok (.imul, 1) := by decide +kernel
theorem dX0_isSettled_47 : decode cX0_isSettled 47 = .ok (.iload 4, 2) := by decide +kernel
theorem dX0_isSettled_49 : decode cX0_isSettled 49 = .ok (.iadd, 1) := by decide +kernel
theorem dX0_isSettled_50 : decode cX0_isSettled 50 = .ok (.iaload, 1) := by decide +kernel
theorem dX0_isSettled_51 : decode cX0_isSettled 51 = .ok (.iload_n 3, 1) := by decide +kernel
theorem dX0_isSettled_52 : decode cX0_isSettled 52 = .ok (.if_icmp .le 5, 3) := by decide +kernel
theorem dX0_isSettled_55 : decode cX0_isSettled 55 = .ok (.iconst 0, 1) := by decide +kernel
theorem dX0_isSettled_56 : decode cX0_isSettled 56 = .ok (.ireturn, 1) := by decide +kernel
theorem dX0_isSettled_57 : decode cX0_isSettled 57 = .ok (.iinc 4 1, 3) := by decide +kernel
theorem dX0_isSettled_60 : decode cX0_isSettled 60 = .ok (.goto (-26), 3) := by decide +kernel
theorem dX0_isSettled_63 : decode cX0_isSettled 63 = .ok (.iinc 2 1, 3) := by decide +kernel
theorem dX0_isSettled_66 : decode cX0_isSettled 66 = .ok (.goto (-55), 3) := by decide +kernel
theorem dX0_isSettled_69 : decode cX0_isSettled 69 = .ok (.iconst 1, 1) := by decide +kernel
theorem dX0_isSettled_70 : decode cX0_isSettled 70 = .ok (.ireturn, 1) := by decide +kernel
theorem dX0_reckonGains_0 : decode cX0_reckonGains 0 = .ok (.aload_n 0, 1) := by decide +kernel
theorem dX0_reckonGains_1 : decode cX0_reckonGains 1 = .ok (.getfield 15, 3) := by decide +kernel
theorem dX0_reckonGains_4 : decode cX0_reckonGains 4 = .ok (.iconst 0, 1) := by decide +kernel
theorem dX0_reckonGains_5 : decode cX0_reckonGains 5 = .ok (.invokestatic 71, 3) := by decide +kernel
theorem dX0_reckonGains_8 : decode cX0_reckonGains 8 = .ok (.iconst 4, 1) := by decide +kernel
theorem dX0_reckonGains_9 : decode cX0_reckonGains 9 = .ok (.aload_n 0, 1) := by decide +kernel
theorem dX0_reckonGains_10 : decode cX0_reckonGains 10 = .ok (.getfield 18, 3) := by decide +kernel
theorem dX0_reckonGains_13 : decode cX0_reckonGains 13 = .ok (.getfield 96, 3) := by decide +kernel
theorem dX0_reckonGains_16 : decode cX0_reckonGains 16 = .ok (.invokestatic 99, 3) := by decide +kernel
theorem dX0_reckonGains_19 : decode cX0_reckonGains 19 = .ok (.istore_n 3, 1) := by decide +kernel
theorem dX0_reckonGains_20 : decode cX0_reckonGains 20 = .ok (.iconst 0, 1) := by decide +kernel
theorem dX0_reckonGains_21 : decode cX0_reckonGains 21 = .ok (.istore 4, 2) := by decide +kernel
theorem dX0_reckonGains_23 : decode cX0_reckonGains 23 = .ok (.iload 4, 2) := by decide +kernel
theorem dX0_reckonGains_25 : decode cX0_reckonGains 25 = .ok (.aload_n 0, 1) := by decide +kernel
theorem dX0_reckonGains_26 : decode cX0_reckonGains 26 = .ok (.getfield 18, 3) := by decide +kernel
theorem dX0_reckonGains_29 : decode cX0_reckonGains 29 = .ok (.getfield 64, 3) := by decide +kernel
theorem dX0_reckonGains_32 : decode cX0_reckonGains 32 = .ok (.if_icmp .ge 103, 3) := by decide +kernel
theorem dX0_reckonGains_35 : decode cX0_reckonGains 35 = .ok (.aload_n 0, 1) := by decide +kernel
theorem dX0_reckonGains_36 : decode cX0_reckonGains 36 = .ok (.getfield 18, 3) := by decide +kernel
theorem dX0_reckonGains_39 : decode cX0_reckonGains 39 = .ok (.iload 4, 2) := by decide +kernel
theorem dX0_reckonGains_41 : decode cX0_reckonGains 41 = .ok (.aload_n 0, 1) := by decide +kernel
theorem dX0_reckonGains_42 : decode cX0_reckonGains 42 = .ok (.getfield 22, 3) := by decide +kernel
theorem dX0_reckonGains_45 : decode cX0_reckonGains 45 = .ok (.getfield 42, 3) := by decide +kernel
theorem dX0_reckonGains_48 : decode cX0_reckonGains 48 = .ok (.invokevirtual 46, 3) := by decide +kernel
theorem dX0_reckonGains_51 : decode cX0_reckonGains 51 = .ok (.iconst 4, 1) := by decide +kernel
theorem dX0_reckonGains_52 : decode cX0_reckonGains 52 = .ok (.imul, 1) := by decide +kernel
theorem dX0_reckonGains_53 : decode cX0_reckonGains 53 = .ok (.istore 5, 2) := by decide +kernel
theorem dX0_reckonGains_55 : decode cX0_reckonGains 55 = .ok (.iload 5, 2) := by decide +kernel
theorem dX0_reckonGains_57 : decode cX0_reckonGains 57 = .ok (.iconst 0, 1) := by decide +kernel
theorem dX0_reckonGains_58 : decode cX0_reckonGains 58 = .ok (.aload_n 0, 1) := by decide +kernel
theorem dX0_reckonGains_59 : decode cX0_reckonGains 59 = .ok (.getfield 15, 3) := by decide +kernel
theorem dX0_reckonGains_62 : decode cX0_reckonGains 62 = .ok (.arraylength, 1) := by decide +kernel
theorem dX0_reckonGains_63 : decode cX0_reckonGains 63 = .ok (.iconst 4, 1) := by decide +kernel
theorem dX0_reckonGains_64 : decode cX0_reckonGains 64 = .ok (.isub, 1) := by decide +kernel
theorem dX0_reckonGains_65 : decode cX0_reckonGains 65 = .ok (.invokestatic 81, 3) := by decide +kernel
theorem dX0_reckonGains_68 : decode cX0_reckonGains 68 = .ok (.ifCond .eq 61, 3) := by decide +kernel
theorem dX0_reckonGains_71 : decode cX0_reckonGains 71 = .ok (.aload_n 0, 1) := by decide +kernel
theorem dX0_reckonGains_72 : decode cX0_reckonGains 72 = .ok (.getfield 18, 3) := by decide +kernel
theorem dX0_reckonGains_75 : decode cX0_reckonGains 75 = .ok (.iload 4, 2) := by decide +kernel
theorem dX0_reckonGains_77 : decode cX0_reckonGains 77 = .ok (.invokevirtual 67, 3) := by decide +kernel
theorem dX0_reckonGains_80 : decode cX0_reckonGains 80 = .ok (.istore 6, 2) := by decide +kernel
theorem dX0_reckonGains_82 : decode cX0_reckonGains 82 = .ok (.iconst 0, 1) := by decide +kernel
theorem dX0_reckonGains_83 : decode cX0_reckonGains 83 = .ok (.istore 7, 2) := by decide +kernel
theorem dX0_reckonGains_85 : decode cX0_reckonGains 85 = .ok (.iload 7, 2) := by decide +kernel
theorem dX0_reckonGains_87 : decode cX0_reckonGains 87 = .ok (.iload_n 3, 1) := by decide +kernel
theorem dX0_reckonGains_88 : decode cX0_reckonGains 88 = .ok (.if_icmp .ge 41, 3) := by decide +kernel
theorem dX0_reckonGains_91 : decode cX0_reckonGains 91 = .ok (.aload_n 0, 1) := by decide +kernel
theorem dX0_reckonGains_92 : decode cX0_reckonGains 92 = .ok (.getfield 15, 3) := by decide +kernel
theorem dX0_reckonGains_95 : decode cX0_reckonGains 95 = .ok (.iload 5, 2) := by decide +kernel
theorem dX0_reckonGains_97 : decode cX0_reckonGains 97 = .ok (.iload 7, 2) := by decide +kernel
theorem dX0_reckonGains_99 : decode cX0_reckonGains 99 = .ok (.iadd, 1) := by decide +kernel
theorem dX0_reckonGains_100 : decode cX0_reckonGains 100 = .ok (.dup2, 1) := by decide +kernel
theorem dX0_reckonGains_101 : decode cX0_reckonGains 101 = .ok (.iaload, 1) := by decide +kernel
theorem dX0_reckonGains_102 : decode cX0_reckonGains 102 = .ok (.iload 6, 2) := by decide +kernel
theorem dX0_reckonGains_104 : decode cX0_reckonGains 104 = .ok (.aload_n 0, 1) := by decide +kernel
theorem dX0_reckonGains_105 : decode cX0_reckonGains 105 = .ok (.iload 4, 2) := by decide +kernel
theorem dX0_reckonGains_107 : decode cX0_reckonGains 107 = .ok (.iload 7, 2) := by decide +kernel
theorem dX0_reckonGains_109 : decode cX0_reckonGains 109 = .ok (.lload_n 1, 1) := by decide +kernel
theorem dX0_reckonGains_110 : decode cX0_reckonGains 110 = .ok (.aload_n 0, 1) := by decide +kernel
theorem dX0_reckonGains_111 : decode cX0_reckonGains 111 = .ok (.getfield 22, 3) := by decide +kernel
theorem dX0_reckonGains_114 : decode cX0_reckonGains 114 = .ok (.getfield 53, 3) := by decide +kernel
theorem dX0_reckonGains_117 : decode cX0_reckonGains 117 = .ok (.invokevirtual 56, 3) := by decide +kernel
theorem dX0_reckonGains_120 : decode cX0_reckonGains 120 = .ok (.imul, 1) := by decide +kernel
theorem dX0_reckonGains_121 : decode cX0_reckonGains 121 = .ok (.iadd, 1) := by decide +kernel
theorem dX0_reckonGains_122 : decode cX0_reckonGains 122 = .ok (.iastore, 1) := by decide +kernel
theorem dX0_reckonGains_123 : decode cX0_reckonGains 123 = .ok (.iinc 7 1, 3) := by decide +kernel
theorem dX0_reckonGains_126 : decode cX0_reckonGains 126 = .ok (.goto (-41), 3) := by decide +kernel
theorem dX0_reckonGains_129 : decode cX0_reckonGains 129 = .ok (.iinc 4 1, 3) := by decide +kernel
theorem dX0_reckonGains_132 : decode cX0_reckonGains 132 = .ok (.goto (-109), 3) := by decide +kernel
theorem dX0_reckonGains_135 : decode cX0_reckonGains 135 = .ok (.return_, 1) := by decide +kernel
theorem dX0_perceives_0 : decode cX0_perceives 0 = .ok (.iload_n 1, 1) := by decide +kernel
theorem dX0_perceives_1 : decode cX0_perceives 1 = .ok (.iconst 1, 1) := by decide +kernel
theorem dX0_perceives_2 : decode cX0_perceives 2 = .ok (.if_icmp .eq 22, 3) := by decide +kernel
theorem dX0_perceives_5 : decode cX0_perceives 5 = .ok (.aload_n 0, 1) := by decide +kernel
theorem dX0_perceives_6 : decode cX0_perceives 6 = .ok (.getfield 18, 3) := by decide +kernel
theorem dX0_perceives_9 : decode cX0_perceives 9 = .ok (.iload_n 2, 1) := by decide +kernel
theorem dX0_perceives_10 : decode cX0_perceives 10 = .ok (.aload_n 0, 1) := by decide +kernel
theorem dX0_perceives_11 : decode cX0_perceives 11 = .ok (.getfield 22, 3) := by decide +kernel
theorem dX0_perceives_14 : decode cX0_perceives 14 = .ok (.getfield 42, 3) := by decide +kernel
theorem dX0_perceives_17 : decode cX0_perceives 17 = .ok (.invokevirtual 46, 3) := by decide +kernel
theorem dX0_perceives_20 : decode cX0_perceives 20 = .ok (.iload_n 3, 1) := by decide +kernel
theorem dX0_perceives_21 : decode cX0_perceives 21 = .ok (.if_icmp .ne 7, 3) := by decide +kernel
theorem dX0_perceives_24 : decode cX0_perceives 24 = .ok (.iconst 1, 1) := by decide +kernel
theorem dX0_perceives_25 : decode cX0_perceives 25 = .ok (.goto 4, 3) := by decide +kernel
theorem dX0_perceives_28 : decode cX0_perceives 28 = .ok (.iconst 0, 1) := by decide +kernel
theorem dX0_perceives_29 : decode cX0_perceives 29 = .ok (.istore 5, 2) := by decide +kernel
theorem dX0_perceives_31 : decode cX0_perceives 31 = .ok (.iload 5, 2) := by decide +kernel
theorem dX0_perceives_33 : decode cX0_perceives 33 = .ok (.ifCond .eq 31, 3) := by decide +kernel
theorem dX0_perceives_36 : decode cX0_perceives 36 = .ok (.iload_n 1, 1) := by decide +kernel
theorem dX0_perceives_37 : decode cX0_perceives 37 = .ok (.ifCond .eq 23, 3) := by decide +kernel
theorem dX0_perceives_40 : decode cX0_perceives 40 = .ok (.aload_n 0, 1) := by decide +kernel
theorem dX0_perceives_41 : decode cX0_perceives 41 = .ok (.getfield 18, 3) := by decide +kernel
theorem dX0_perceives_44 : decode cX0_perceives 44 = .ok (.iload_n 2, 1) := by decide +kernel
theorem dX0_perceives_45 : decode cX0_perceives 45 = .ok (.aload_n 0, 1) := by decide +kernel
theorem dX0_perceives_46 : decode cX0_perceives 46 = .ok (.getfield 22, 3) := by decide +kernel
theorem dX0_perceives_49 : decode cX0_perceives 49 = .ok (.getfield 53, 3) := by decide +kernel
theorem dX0_perceives_52 : decode cX0_perceives 52 = .ok (.invokevirtual 26, 3) := by decide +kernel
theorem dX0_perceives_55 : decode cX0_perceives 55 = .ok (.iload 4, 2) := by decide +kernel
theorem dX0_perceives_57 : decode cX0_perceives 57 = .ok (.if_icmp .ne 7, 3) := by decide +kernel
theorem dX0_perceives_60 : decode cX0_perceives 60 = .ok (.iconst 1, 1) := by decide +kernel
theorem dX0_perceives_61 : decode cX0_perceives 61 = .ok (.goto 4, 3) := by decide +kernel
theorem dX0_perceives_64 : decode cX0_perceives 64 = .ok (.iconst 0, 1) := by decide +kernel
theorem dX0_perceives_65 : decode cX0_perceives 65 = .ok (.ireturn, 1) := by decide +kernel
theorem dX0_lonePlace_0 : decode cX0_lonePlace 0 = .ok (.iconst 0, 1) := by decide +kernel
theorem dX0_lonePlace_1 : decode cX0_lonePlace 1 = .ok (.istore 4, 2) := by decide +kernel
theorem dX0_lonePlace_3 : decode cX0_lonePlace 3 = .ok (.iconst 0, 1) := by decide +kernel
theorem dX0_lonePlace_4 : decode cX0_lonePlace 4 = .ok (.istore 5, 2) := by decide +kernel
theorem dX0_lonePlace_6 : decode cX0_lonePlace 6 = .ok (.iconst 0, 1) := by decide +kernel
theorem dX0_lonePlace_7 : decode cX0_lonePlace 7 = .ok (.istore 6, 2) := by decide +kernel
theorem dX0_lonePlace_9 : decode cX0_lonePlace 9 = .ok (.iload 6, 2) := by decide +kernel
theorem dX0_lonePlace_11 : decode cX0_lonePlace 11 = .ok (.aload_n 0, 1) := by decide +kernel
theorem dX0_lonePlace_12 : decode cX0_lonePlace 12 = .ok (.getfield 18, 3) := by decide +kernel
theorem dX0_lonePlace_15 : decode cX0_lonePlace 15 = .ok (.getfield 64, 3) := by decide +kernel
theorem dX0_lonePlace_18 : decode cX0_lonePlace 18 = .ok (.if_icmp .ge 50, 3) := by decide +kernel
theorem dX0_lonePlace_21 : decode cX0_lonePlace 21 = .ok (.aload_n 0, 1) := by decide +kernel
theorem dX0_lonePlace_22 : decode cX0_lonePlace 22 = .ok (.getfield 18, 3) := by decide +kernel
theorem dX0_lonePlace_25 : decode cX0_lonePlace 25 = .ok (.iload 6, 2) := by decide +kernel
theorem dX0_lonePlace_27 : decode cX0_lonePlace 27 = .ok (.invokevirtual 67, 3) := by decide +kernel
theorem dX0_lonePlace_30 : decode cX0_lonePlace 30 = .ok (.iload 4, 2) := by decide +kernel
theorem dX0_lonePlace_32 : decode cX0_lonePlace 32 = .ok (.if_icmp .le 30, 3) := by decide +kernel
theorem dX0_lonePlace_35 : decode cX0_lonePlace 35 = .ok (.aload_n 0, 1) := by decide +kernel
theorem dX0_lonePlace_36 : decode cX0_lonePlace 36 = .ok (.iload_n 1, 1) := by decide +kernel
theorem dX0_lonePlace_37 : decode cX0_lonePlace 37 = .ok (.iload 6, 2) := by decide +kernel
theorem dX0_lonePlace_39 : decode cX0_lonePlace 39 = .ok (.iload_n 2, 1) := by decide +kernel
theorem dX0_lonePlace_40 : decode cX0_lonePlace 40 = .ok (.iload_n 3, 1) := by decide +kernel
theorem dX0_lonePlace_41 : decode cX0_lonePlace 41 = .ok (.invokevirtual 104, 3) := by decide +kernel
theorem dX0_lonePlace_44 : decode cX0_lonePlace 44 = .ok (.ifCond .eq 18, 3) := by decide +kernel
theorem dX0_lonePlace_47 : decode cX0_lonePlace 47 = .ok (.aload_n 0, 1) := by decide +kernel
theorem dX0_lonePlace_48 : decode cX0_lonePlace 48 = .ok (.getfield 18, 3) := by decide +kernel
theorem dX0_lonePlace_51 : decode cX0_lonePlace 51 = .ok (.iload 6, 2) := by decide +kernel
theorem dX0_lonePlace_53 : decode cX0_lonePlace 53 = .ok (.invokevirtual 67, 3) := by decide +kernel
theorem dX0_lonePlace_56 : decode cX0_lonePlace 56 = .ok (.istore 4, 2) := by decide +kernel
theorem dX0_lonePlace_58 : decode cX0_lonePlace 58 = .ok (.iload 6, 2) := by decide +kernel
theorem dX0_lonePlace_60 : decode cX0_lonePlace 60 = .ok (.istore 5, 2) := by decide +kernel
theorem dX0_lonePlace_62 : decode cX0_lonePlace 62 = .ok (.iinc 6 1, 3) := by decide +kernel
theorem dX0_lonePlace_65 : decode cX0_lonePlace 65 = .ok (.goto (-56), 3) := by decide +kernel
theorem dX0_lonePlace_68 : decode cX0_lonePlace 68 = .ok (.iload 5, 2) := by decide +kernel
theorem dX0_lonePlace_70 : decode cX0_lonePlace 70 = .ok (.ireturn, 1) := by decide +kernel
theorem dX0_loneStake_0 : decode cX0_loneStake 0 = .ok (.aload_n 0, 1) := by decide +kernel
theorem dX0_loneStake_1 : decode cX0_loneStake 1 = .ok (.iload_n 1, 1) := by decide +kernel
theorem dX0_loneStake_2 : decode cX0_loneStake 2 = .ok (.iload_n 2, 1) := by decide +kernel
theorem dX0_loneStake_3 : decode cX0_loneStake 3 = .ok (.iload_n 3, 1) := by decide +kernel
theorem dX0_loneStake_4 : decode cX0_loneStake 4 = .ok (.invokevirtual 108, 3) := by decide +kernel
theorem dX0_loneStake_7 : decode cX0_loneStake 7 = .ok (.istore 4, 2) := by decide +kernel
theorem dX0_loneStake_9 : decode cX0_loneStake 9 = .ok (.aload_n 0, 1) := by decide +kernel
theorem dX0_loneStake_10 : decode cX0_loneStake 10 = .ok (.iload_n 1, 1) := by decide +kernel
theorem dX0_loneStake_11 : decode cX0_loneStake 11 = .ok (.iload 4, 2) := by decide +kernel
theorem dX0_loneStake_13 : decode cX0_loneStake 13 = .ok (.iload_n 2, 1) := by decide +kernel
theorem dX0_loneStake_14 : decode cX0_loneStake 14 = .ok (.iload_n 3, 1) := by decide +kernel
theorem dX0_loneStake_15 : decode cX0_loneStake 15 = .ok (.invokevirtual 104, 3) := by decide +kernel
theorem dX0_loneStake_18 : decode cX0_loneStake 18 = .ok (.ifCond .eq 15, 3) := by decide +kernel
theorem dX0_loneStake_21 : decode cX0_loneStake 21 = .ok (.aload_n 0, 1) := by decide +kernel
theorem dX0_loneStake_22 : decode cX0_loneStake 22 = .ok (.getfield 18, 3) := by decide +kernel
theorem dX0_loneStake_25 : decode cX0_loneStake 25 = .ok (.iload 4, 2) := by decide +kernel
theorem dX0_loneStake_27 : decode cX0_loneStake 27 = .ok (.invokevirtual 67, 3) := by decide +kernel
theorem dX0_loneStake_30 : decode cX0_loneStake 30 = .ok (.goto 4, 3) := by decide +kernel
theorem dX0_loneStake_33 : decode cX0_loneStake 33 = .ok (.iconst 0, 1) := by decide +kernel
theorem dX0_loneStake_34 : decode cX0_loneStake 34 = .ok (.ireturn, 1) := by decide +kernel
theorem dX1_init_0 : decode cX1_init 0 = .ok (.aload_n 0, 1) := by decide +kernel
theorem dX1_init_1 : decode cX1_init 1 = .ok (.invokespecial 3, 3) := by decide +kernel
theorem dX1_init_4 : decode cX1_init 4 = .ok (.aload_n 0, 1) := by decide +kernel
theorem dX1_init_5 : decode cX1_init 5 = .ok (.iconst 0, 1) := by decide +kernel
theorem dX1_init_6 : decode cX1_init 6 = .ok (.putfield 9, 3) := by decide +kernel
theorem dX1_init_9 : decode cX1_init 9 = .ok (.aload_n 0, 1) := by decide +kernel
theorem dX1_init_10 : decode cX1_init 10 = .ok (.iconst 0, 1) := by decide +kernel
theorem dX1_init_11 : decode cX1_init 11 = .ok (.putfield 15, 3) := by decide +kernel
theorem dX1_init_14 : decode cX1_init 14 = .ok (.aload_n 0, 1) := by decide +kernel
theorem dX1_init_15 : decode cX1_init 15 = .ok (.iconst 0, 1) := by decide +kernel
theorem dX1_init_16 : decode cX1_init 16 = .ok (.putfield 18, 3) := by decide +kernel
theorem dX1_init_19 : decode cX1_init 19 = .ok (.aload_n 0, 1) := by decide +kernel
theorem dX1_init_20 : decode cX1_init 20 = .ok (.bipush 24, 2) := by decide +kernel
theorem dX1_init_22 : decode cX1_init 22 = .ok (.newarray .int, 2) := by decide +kernel
theorem dX1_init_24 : decode cX1_init 24 = .ok (.putfield 21, 3) := by decide +kernel
theorem dX1_init_27 : decode cX1_init 27 = .ok (.aload_n 0, 1) := by decide +kernel
theorem dX1_init_28 : decode cX1_init 28 = .ok (.bipush 6, 2) := by decide +kernel
theorem dX1_init_30 : decode cX1_init 30 = .ok (.newarray .int, 2) := by decide +kernel
theorem dX1_init_32 : decode cX1_init 32 = .ok (.putfield 25, 3) := by decide +kernel
theorem dX1_init_35 : decode cX1_init 35 = .ok (.aload_n 0, 1) := by decide +kernel
theorem dX1_init_36 : decode cX1_init 36 = .ok (.bipush 6, 2) := by decide +kernel
theorem dX1_init_38 : decode cX1_init 38 = .ok (.newarray .int, 2) := by decide +kernel
theorem dX1_init_40 : decode cX1_init 40 = .ok (.putfield 28, 3) := by decide +kernel
theorem dX1_init_43 : decode cX1_init 43 = .ok (.return_, 1) := by decide +kernel
theorem dX1_takeFrom_0 : decode cX1_takeFrom 0 = .ok (.aload_n 0, 1) := by decide +kernel
theorem dX1_takeFrom_1 : decode cX1_takeFrom 1 = .ok (.bipush 6, 2) := by decide +kernel
theorem dX1_takeFrom_3 : decode cX1_takeFrom 3 = .ok (.aload_n 1, 1) := by decide +kernel
theorem dX1_takeFrom_4 : decode cX1_takeFrom 4 = .ok (.invokevirtual 31, 3) := by decide +kernel
theorem dX1_takeFrom_7 : decode cX1_takeFrom 7 = .ok (.invokestatic 37, 3) := by decide +kernel
theorem dX1_takeFrom_10 : decode cX1_takeFrom 10 = .ok (.putfield 9, 3) := by decide +kernel
theorem dX1_takeFrom_13 : decode cX1_takeFrom 13 = .ok (.aload_n 0, 1) := by decide +kernel
theorem dX1_takeFrom_14 : decode cX1_takeFrom 14 = .ok (.aload_n 1, 1) := by decide +kernel
theorem dX1_takeFrom_15 : decode cX1_takeFrom 15 = .ok (.invokevirtual 43, 3) := by decide +kernel
theorem dX1_takeFrom_18 : decode cX1_takeFrom 18 = .ok (.putfield 15, 3) := by decide +kernel
theorem dX1_takeFrom_21 : decode cX1_takeFrom 21 = .ok (.aload_n 0, 1) := by decide +kernel
theorem dX1_takeFrom_22 : decode cX1_takeFrom 22 = .ok (.iconst 0, 1) := by decide +kernel
theorem dX1_takeFrom_23 : decode cX1_takeFrom 23 = .ok (.putfield 18, 3) := by decide +kernel
theorem dX1_takeFrom_26 : decode cX1_takeFrom 26 = .ok (.iconst 0, 1) := by decide +kernel
theorem dX1_takeFrom_27 : decode cX1_takeFrom 27 = .ok (.istore_n 2, 1) := by decide +kernel
theorem dX1_takeFrom_28 : decode cX1_takeFrom 28 = .ok (.iload_n 2, 1) := by decide +kernel
theorem dX1_takeFrom_29 : decode cX1_takeFrom 29 = .ok (.aload_n 0, 1) := by decide +kernel
theorem dX1_takeFrom_30 : decode cX1_takeFrom 30 = .ok (.getfield 9, 3) := by decide +kernel
theorem dX1_takeFrom_33 : decode cX1_takeFrom 33 = .ok (.if_icmp .ge 53, 3) := by decide +kernel
theorem dX1_takeFrom_36 : decode cX1_takeFrom 36 = .ok (.iconst 0, 1) := by decide +kernel
theorem dX1_takeFrom_37 : decode cX1_takeFrom 37 = .ok (.istore_n 3, 1) := by decide +kernel
theorem dX1_takeFrom_38 : decode cX1_takeFrom 38 = .ok (.iload_n 3, 1) := by decide +kernel
theorem dX1_takeFrom_39 : decode cX1_takeFrom 39 = .ok (.iconst 4, 1) := by decide +kernel
theorem dX1_takeFrom_40 : decode cX1_takeFrom 40 = .ok (.if_icmp .ge 25, 3) := by decide +kernel
theorem dX1_takeFrom_43 : decode cX1_takeFrom 43 = .ok (.aload_n 0, 1) := by decide +kernel
theorem dX1_takeFrom_44 : decode cX1_takeFrom 44 = .ok (.getfield 21, 3) := by decide +kernel
theorem dX1_takeFrom_47 : decode cX1_takeFrom 47 = .ok (.iload_n 2, 1) := by decide +kernel
theorem dX1_takeFrom_48 : decode cX1_takeFrom 48 = .ok (.iconst 4, 1) := by decide +kernel
theorem dX1_takeFrom_49 : decode cX1_takeFrom 49 = .ok (.imul, 1) := by decide +kernel
theorem dX1_takeFrom_50 : decode cX1_takeFrom 50 = .ok (.iload_n 3, 1) := by decide +kernel
theorem dX1_takeFrom_51 : decode cX1_takeFrom 51 = .ok (.iadd, 1) := by decide +kernel
theorem dX1_takeFrom_52 : decode cX1_takeFrom 52 = .ok (.aload_n 1, 1) := by decide +kernel
theorem dX1_takeFrom_53 : decode cX1_takeFrom 53 = .ok (.iload_n 2, 1) := by decide +kernel
theorem dX1_takeFrom_54 : decode cX1_takeFrom 54 = .ok (.iload_n 3, 1) := by decide +kernel
theorem dX1_takeFrom_55 : decode cX1_takeFrom 55 = .ok (.invokevirtual 46, 3) := by decide +kernel
theorem dX1_takeFrom_58 : decode cX1_takeFrom 58 = .ok (.iastore, 1) := by decide +kernel
theorem dX1_takeFrom_59 : decode cX1_takeFrom 59 = .ok (.iinc 3 1, 3) := by decide +kernel
theorem dX1_takeFrom_62 : decode cX1_takeFrom 62 = .ok (.goto (-24), 3) := by decide +kernel
theorem dX1_takeFrom_65 : decode cX1_takeFrom 65 = .ok (.aload_n 0, 1) := by decide +kernel
theorem dX1_takeFrom_66 : decode cX1_takeFrom 66 = .ok (.dup, 1) := by decide +kernel
theorem dX1_takeFrom_67 : decode cX1_takeFrom 67 = .ok (.getfield 18, 3) := by decide +kernel
theorem dX1_takeFrom_70 : decode cX1_takeFrom 70 = .ok (.aload_n 1, 1) := by decide +kernel
theorem dX1_takeFrom_71 : decode cX1_takeFrom 71 = .ok (.iload_n 2, 1) := by decide +kernel
theorem dX1_takeFrom_72 : decode cX1_takeFrom 72 = .ok (.iconst 0, 1) := by decide +kernel
theorem dX1_takeFrom_73 : decode cX1_takeFrom 73 = .ok (.invokevirtual 46, 3) := by decide +kernel
theorem dX1_takeFrom_76 : decode cX1_takeFrom 76 = .ok (.iadd, 1) := by decide +kernel
theorem dX1_takeFrom_77 : decode cX1_takeFrom 77 = .ok (.putfield 18, 3) := by decide +kernel
theorem dX1_takeFrom_80 : decode cX1_takeFrom 80 = .ok (.iinc 2 1, 3) := by decide +kernel
theorem dX1_takeFrom_83 : decode cX1_takeFrom 83 = .ok (.goto (-55), 3) := by decide +kernel
theorem dX1_takeFrom_86 : decode cX1_takeFrom 86 = .ok (.return_, 1) := by decide +kernel
theorem dX1_told_0 : decode cX1_told 0 = .ok (.iload_n 1, 1) := by decide +kernel
theorem dX1_told_1 : decode cX1_told 1 = .ok (.ifCond .lt 22, 3) := by decide +kernel
theorem dX1_told_4 : decode cX1_told 4 = .ok (.iload_n 1, 1) := by decide +kernel
theorem dX1_told_5 : decode cX1_told 5 = .ok (.bipush 6, 2) := by decide +kernel
theorem dX1_told_7 : decode cX1_told 7 = .ok (.if_icmp .ge 16, 3) := by decide +kernel
theorem dX1_told_10 : decode cX1_told 10 = .ok (.iload_n 2, 1) := by decide +kernel
theorem dX1_told_11 : decode cX1_told 11 = .ok (.ifCond .lt 12, 3) := by decide +kernel
theorem dX1_told_14 : decode cX1_told 14 = .ok (.iload_n 2, 1) := by decide +kernel
theorem dX1_told_15 : decode cX1_told 15 = .ok (.iconst 4, 1) := by decide +kernel
theorem dX1_told_16 : decode cX1_told 16 = .ok (.if_icmp .ge 7, 3) := by decide +kernel
theorem dX1_told_19 : decode cX1_told 19 = .ok (.iconst 1, 1) := by decide +kernel
theorem dX1_told_20 : decode cX1_told 20 = .ok (.goto 4, 3) := by decide +kernel
theorem dX1_told_23 : decode cX1_told 23 = .ok (.iconst 0, 1) := by decide +kernel
theorem dX1_told_24 : decode cX1_told 24 = .ok (.istore_n 3, 1) := by decide +kernel
theorem dX1_told_25 : decode cX1_told 25 = .ok (.iload_n 3, 1) := by decide +kernel
theorem dX1_told_26 : decode cX1_told 26 = .ok (.ifCond .eq 16, 3) := by decide +kernel
theorem dX1_told_29 : decode cX1_told 29 = .ok (.aload_n 0, 1) := by decide +kernel
theorem dX1_told_30 : decode cX1_told 30 = .ok (.getfield 21, 3) := by decide +kernel
theorem dX1_told_33 : decode cX1_told 33 = .ok (.iload_n 1, 1) := by decide +kernel
theorem dX1_told_34 : decode cX1_told 34 = .ok (.iconst 4, 1) := by decide +kernel
theorem dX1_told_35 : decode cX1_told 35 = .ok (.imul, 1) := by decide +kernel
theorem dX1_told_36 : decode cX1_told 36 = .ok (.iload_n 2, 1) := by decide +kernel
theorem dX1_told_37 : decode cX1_told 37 = .ok (.iadd, 1) := by decide +kernel
theorem dX1_told_38 : decode cX1_told 38 = .ok (.iaload, 1) := by decide +kernel
theorem dX1_told_39 : decode cX1_told 39 = .ok (.goto 4, 3) := by decide +kernel
theorem dX1_told_42 : decode cX1_told 42 = .ok (.iconst 0, 1) := by decide +kernel
theorem dX1_told_43 : decode cX1_told 43 = .ok (.ireturn, 1) := by decide +kernel
theorem dX1_setWorth_0 : decode cX1_setWorth 0 = .ok (.iload_n 1, 1) := by decide +kernel
theorem dX1_setWorth_1 : decode cX1_setWorth 1 = .ok (.iconst 0, 1) := by decide +kernel
theorem dX1_setWorth_2 : decode cX1_setWorth 2 = .ok (.iconst 5, 1) := by decide +kernel
theorem dX1_setWorth_3 : decode cX1_setWorth 3 = .ok (.invokestatic 49, 3) := by decide +kernel
theorem dX1_setWorth_6 : decode cX1_setWorth 6 = .ok (.ifCond .eq 24, 3) := by decide +kernel
theorem dX1_setWorth_9 : decode cX1_setWorth 9 = .ok (.aload_n 0, 1) := by decide +kernel
theorem dX1_setWorth_10 : decode cX1_setWorth 10 = .ok (.getfield 25, 3) := by decide +kernel
theorem dX1_setWorth_13 : decode cX1_setWorth 13 = .ok (.iload_n 1, 1) := by decide +kernel
theorem dX1_setWorth_14 : decode cX1_setWorth 14 = .ok (.iload_n 2, 1) := by decide +kernel
theorem dX1_setWorth_15 : decode cX1_setWorth 15 = .ok (.iastore, 1) := by decide +kernel
theorem dX1_setWorth_16 : decode cX1_setWorth 16 = .ok (.aload_n 0, 1) := by decide +kernel
theorem dX1_setWorth_17 : decode cX1_setWorth 17 = .ok (.getfield 28, 3) := by decide +kernel
theorem dX1_setWorth_20 : decode cX1_setWorth 20 = .ok (.iload_n 1, 1) := by decide +kernel
theorem dX1_setWorth_21 : decode cX1_setWorth 21 = .ok (.iload_n 2, 1) := by decide +kernel
theorem dX1_setWorth_22 : decode cX1_setWorth 22 = .ok (.aload_n 0, 1) := by decide +kernel
theorem dX1_setWorth_23 : decode cX1_setWorth 23 = .ok (.iload_n 1, 1) := by decide +kernel
theorem dX1_setWorth_24 : decode cX1_setWorth 24 = .ok (.iconst 0, 1) := by decide +kernel
theorem dX1_setWorth_25 : decode cX1_setWorth 25 = .ok (.invokevirtual 53, 3) := by decide +kernel
theorem dX1_setWorth_28 : decode cX1_setWorth 28 = .ok (.imul, 1) := by decide +kernel
theorem dX1_setWorth_29 : decode cX1_setWorth 29 = .ok (.iastore, 1) := by decide +kernel
theorem dX1_setWorth_30 : decode cX1_setWorth 30 = .ok (.return_, 1) := by decide +kernel
theorem dX1_worthOf_0 : decode cX1_worthOf 0 = .ok (.iload_n 1, 1) := by decide +kernel
theorem dX1_worthOf_1 : decode cX1_worthOf 1 = .ok (.ifCond .lt 18, 3) := by decide +kernel
theorem dX1_worthOf_4 : decode cX1_worthOf 4 = .ok (.iload_n 1, 1) := by decide +kernel
theorem dX1_worthOf_5 : decode cX1_worthOf 5 = .ok (.bipush 6, 2) := by decide +kernel
theorem dX1_worthOf_7 : decode cX1_worthOf 7 = .ok (.if_icmp .ge 12, 3) := by decide +kernel
theorem dX1_worthOf_10 : decode cX1_worthOf 10 = .ok (.aload_n 0, 1) := by decide +kernel
theorem dX1_worthOf_11 : decode cX1_worthOf 11 = .ok (.getfield 25, 3) := by decide +kernel
theorem dX1_worthOf_14 : decode cX1_worthOf 14 = .ok (.iload_n 1, 1) := by decide +kernel
theorem dX1_worthOf_15 : decode cX1_worthOf 15 = .ok (.iaload, 1) := by decide +kernel
theorem dX1_worthOf_16 : decode cX1_worthOf 16 = .ok (.goto 4, 3) := by decide +kernel
theorem dX1_worthOf_19 : decode cX1_worthOf 19 = .ok (.iconst 0, 1) := by decide +kernel
theorem dX1_worthOf_20 : decode cX1_worthOf 20 = .ok (.ireturn, 1) := by decide +kernel
theorem dX1_stakeOf_0 : decode cX1_stakeOf 0 = .ok (.iload_n 1, 1) := by decide +kernel
theorem dX1_stakeOf_1 : decode cX1_stakeOf 1 = .ok (.ifCond .lt 18, 3) := by decide +kernel
theorem dX1_stakeOf_4 : decode cX1_stakeOf 4 = .ok (.iload_n 1, 1) := by decide +kernel
theorem dX1_stakeOf_5 : decode cX1_stakeOf 5 = .ok (.bipush 6, 2) := by decide +kernel
theorem dX1_stakeOf_7 : decode cX1_stakeOf 7 = .ok (.if_icmp .ge 12, 3) := by decide +kernel
theorem dX1_stakeOf_10 : decode cX1_stakeOf 10 = .ok (.aload_n 0, 1) := by decide +kernel
theorem dX1_stakeOf_11 : decode cX1_stakeOf 11 = .ok (.getfield 28, 3) := by decide +kernel
theorem dX1_stakeOf_14 : decode cX1_stakeOf 14 = .ok (.iload_n 1, 1) := by decide +kernel
theorem dX1_stakeOf_15 : decode cX1_stakeOf 15 = .ok (.iaload, 1) := by decide +kernel
theorem dX1_stakeOf_16 : decode cX1_stakeOf 16 = .ok (.goto 4, 3) := by decide +kernel
theorem dX1_stakeOf_19 : decode cX1_stakeOf 19 = .ok (.iconst 0, 1) := by decide +kernel
theorem dX1_stakeOf_20 : decode cX1_stakeOf 20 = .ok (.ireturn, 1) := by decide +kernel
theorem dX1_heard_0 : decode cX1_heard 0 = .ok (.iload_n 2, 1) := by decide +kernel
theorem dX1_heard_1 : decode cX1_heard 1 = .ok (.ifCond .eq 7, 3) := by decide +kernel
theorem dX1_heard_4 : decode cX1_heard 4 = .ok (.iconst 0, 1) := by decide +kernel
theorem dX1_heard_5 : decode cX1_heard 5 = .ok (.goto 9, 3) := by decide +kernel
theorem dX1_heard_8 : decode cX1_heard 8 = .ok (.aload_n 0, 1) := by decide +kernel
theorem dX1_heard_9 : decode cX1_heard 9 = .ok (.iload_n 1, 1) := by decide +kernel
theorem dX1_heard_10 : decode cX1_heard 10 = .ok (.iconst 1, 1) := by decide +kernel
theorem dX1_heard_11 : decode cX1_heard 11 = .ok (.invokevirtual 53, 3) := by decide +kernel
theorem dX1_heard_14 : decode cX1_heard 14 = .ok (.ireturn, 1) := by decide +kernel
theorem dX1_seen_0 : decode cX1_seen 0 = .ok (.iload_n 2, 1) := by decide +kernel
theorem dX1_seen_1 : decode cX1_seen 1 = .ok (.ifCond .eq 7, 3) := by decide +kernel
theorem dX1_seen_4 : decode cX1_seen 4 = .ok (.iconst 0, 1) := by decide +kernel
theorem dX1_seen_5 : decode cX1_seen 5 = .ok (.goto 9, 3) := by decide +kernel
theorem dX1_seen_8 : decode cX1_seen 8 = .ok (.aload_n 0, 1) := by decide +kernel
theorem dX1_seen_9 : decode cX1_seen 9 = .ok (.iload_n 1, 1) := by decide +kernel
theorem dX1_seen_10 : decode cX1_seen 10 = .ok (.iconst 2, 1) := by decide +kernel
theorem dX1_seen_11 : decode cX1_seen 11 = .ok (.invokevirtual 53, 3) := by decide +kernel
theorem dX1_seen_14 : decode cX1_seen 14 = .ok (.ireturn, 1) := by decide +kernel
theorem dX1_placeOfDraw_0 : decode cX1_placeOfDraw 0 = .ok (.iload_n 1, 1) := by decide +kernel
theorem dX1_placeOfDraw_1 : decode cX1_placeOfDraw 1 = .ok (.istore_n 2, 1) := by decide +kernel
theorem dX1_placeOfDraw_2 : decode cX1_placeOfDraw 2 = .ok (.iconst 0, 1) := by decide +kernel
theorem dX1_placeOfDraw_3 : decode cX1_placeOfDraw 3 = .ok (.istore_n 3, 1) := by decide +kernel
theorem dX1_placeOfDraw_4 : decode cX1_placeOfDraw 4 = .ok (.iload_n 3, 1) := by decide +kernel
theorem dX1_placeOfDraw_5 : decode cX1_placeOfDraw 5 = .ok (.aload_n 0, 1) := by decide +kernel
theorem dX1_placeOfDraw_6 : decode cX1_placeOfDraw 6 = .ok (.getfield 9, 3) := by decide +kernel
theorem dX1_placeOfDraw_9 : decode cX1_placeOfDraw 9 = .ok (.if_icmp .ge 24, 3) := by decide +kernel
theorem dX1_placeOfDraw_12 : decode cX1_placeOfDraw 12 = .ok (.iload_n 2, 1) := by decide +kernel
theorem dX1_placeOfDraw_13 : decode cX1_placeOfDraw 13 = .ok (.aload_n 0, 1) := by decide +kernel
theorem dX1_placeOfDraw_14 : decode cX1_placeOfDraw 14 = .ok (.iload_n 3, 1) := by decide +kernel
theorem dX1_placeOfDraw_15 : decode cX1_placeOfDraw 15 = .ok (.iconst 0, 1) := by decide +kernel
theorem dX1_placeOfDraw_16 : decode cX1_placeOfDraw 16 = .ok (.invokevirtual 53, 3) := by decide +kernel
theorem dX1_placeOfDraw_19 : decode cX1_placeOfDraw 19 = .ok (.isub, 1) := by decide +kernel
theorem dX1_placeOfDraw_20 : decode cX1_placeOfDraw 20 = .ok (.istore_n 2, 1) := by decide +kernel
theorem dX1_placeOfDraw_21 : decode cX1_placeOfDraw 21 = .ok (.iload_n 2, 1) := by decide +kernel
theorem dX1_placeOfDraw_22 : decode cX1_placeOfDraw 22 = .ok (.ifCond .ge 5, 3) := by decide +kernel
theorem dX1_placeOfDraw_25 : decode cX1_placeOfDraw 25 = .ok (.iload_n 3, 1) := by decide +kernel
theorem dX1_placeOfDraw_26 : decode cX1_placeOfDraw 26 = .ok (.ireturn, 1) := by decide +kernel
theorem dX1_placeOfDraw_27 : decode cX1_placeOfDraw 27 = .ok (.iinc 3 1, 3) := by decide +kernel
theorem dX1_placeOfDraw_30 : decode cX1_placeOfDraw 30 = .ok (.goto (-26), 3) := by decide +kernel
theorem dX1_placeOfDraw_33 : decode cX1_placeOfDraw 33 = .ok (.iconst 0, 1) := by decide +kernel
theorem dX1_placeOfDraw_34 : decode cX1_placeOfDraw 34 = .ok (.ireturn, 1) := by decide +kernel
theorem dX2_init_0 : decode cX2_init 0 = .ok (.aload_n 0, 1) := by decide +kernel
theorem dX2_init_1 : decode cX2_init 1 = .ok (.invokespecial 3, 3) := by decide +kernel
theorem dX2_init_4 : decode cX2_init 4 = .ok (.aload_n 0, 1) := by decide +kernel
theorem dX2_init_5 : decode cX2_init 5 = .ok (.bipush 24, 2) := by decide +kernel
theorem dX2_init_7 : decode cX2_init 7 = .ok (.newarray .int, 2) := by decide +kernel
theorem dX2_init_9 : decode cX2_init 9 = .ok (.putfield 9, 3) := by decide +kernel
theorem dX2_init_12 : decode cX2_init 12 = .ok (.aload_n 0, 1) := by decide +kernel
theorem dX2_init_13 : decode cX2_init 13 = .ok (.iconst 2, 1) := by decide +kernel
theorem dX2_init_14 : decode cX2_init 14 = .ok (.newarray .int, 2) := by decide +kernel
theorem dX2_init_16 : decode cX2_init 16 = .ok (.putfield 15, 3) := by decide +kernel
theorem dX2_init_19 : decode cX2_init 19 = .ok (.aload_n 0, 1) := by decide +kernel
theorem dX2_init_20 : decode cX2_init 20 = .ok (.iconst 0, 1) := by decide +kernel
theorem dX2_init_21 : decode cX2_init 21 = .ok (.putfield 18, 3) := by decide +kernel
theorem dX2_init_24 : decode cX2_init 24 = .ok (.aload_n 0, 1) := by decide +kernel
theorem dX2_init_25 : decode cX2_init 25 = .ok (.iconst 0, 1) := by decide +kernel
theorem dX2_init_26 : decode cX2_init 26 = .ok (.putfield 22, 3) := by decide +kernel
theorem dX2_init_29 : decode cX2_init 29 = .ok (.return_, 1) := by decide +kernel
theorem dX2_faultOf_0 : decode cX2_faultOf 0 = .ok (.aload_n 0, 1) := by decide +kernel
theorem dX2_faultOf_1 : decode cX2_faultOf 1 = .ok (.aload_n 1, 1) := by decide +kernel
theorem dX2_faultOf_2 : decode cX2_faultOf 2 = .ok (.getfield 26, 3) := by decide +kernel
theorem dX2_faultOf_5 : decode cX2_faultOf 5 = .ok (.iconst 0, 1) := by decide +kernel
theorem dX2_faultOf_6 : decode cX2_faultOf 6 = .ok (.aload_n 1, 1) := by decide +kernel
theorem dX2_faultOf_7 : decode cX2_faultOf 7 = .ok (.getfield 31, 3) := by decide +kernel
theorem dX2_faultOf_10 : decode cX2_faultOf 10 = .ok (.invokevirtual 34, 3) := by decide +kernel
theorem dX2_faultOf_13 : decode cX2_faultOf 13 = .ok (.aload_n 0, 1) := by decide +kernel
theorem dX2_faultOf_14 : decode cX2_faultOf 14 = .ok (.iconst 0, 1) := by decide +kernel
theorem dX2_faultOf_15 : decode cX2_faultOf 15 = .ok (.putfield 18, 3) := by decide +kernel
theorem dX2_faultOf_18 : decode cX2_faultOf 18 = .ok (.aload_n 0, 1) := by decide +kernel
theorem dX2_faultOf_19 : decode cX2_faultOf 19 = .ok (.iconst 0, 1) := by decide +kernel
theorem dX2_faultOf_20 : decode cX2_faultOf 20 = .ok (.putfield 22, 3) := by decide +kernel
theorem dX2_faultOf_23 : decode cX2_faultOf 23 = .ok (.aload_n 0, 1) := by decide +kernel
theorem dX2_faultOf_24 : decode cX2_faultOf 24 = .ok (.getfield 15, 3) := by decide +kernel
theorem dX2_faultOf_27 : decode cX2_faultOf 27 = .ok (.iconst 0, 1) := by decide +kernel
theorem dX2_faultOf_28 : decode cX2_faultOf 28 = .ok (.iconst 2, 1) := by decide +kernel
theorem dX2_faultOf_29 : decode cX2_faultOf 29 = .ok (.iastore, 1) := by decide +kernel
theorem dX2_faultOf_30 : decode cX2_faultOf 30 = .ok (.aload_n 0, 1) := by decide +kernel
theorem dX2_faultOf_31 : decode cX2_faultOf 31 = .ok (.getfield 15, 3) := by decide +kernel
theorem dX2_faultOf_34 : decode cX2_faultOf 34 = .ok (.iconst 1, 1) := by decide +kernel
theorem dX2_faultOf_35 : decode cX2_faultOf 35 = .ok (.iconst 0, 1) := by decide +kernel
theorem dX2_faultOf_36 : decode cX2_faultOf 36 = .ok (.iastore, 1) := by decide +kernel
theorem dX2_faultOf_37 : decode cX2_faultOf 37 = .ok (.aload_n 0, 1) := by decide +kernel
theorem dX2_faultOf_38 : decode cX2_faultOf 38 = .ok (.invokevirtual 38, 3) := by decide +kernel
theorem dX2_faultOf_41 : decode cX2_faultOf 41 = .ok (.aload_n 0, 1) := by decide +kernel
theorem dX2_faultOf_42 : decode cX2_faultOf 42 = .ok (.getfield 18, 3) := by decide +kernel
theorem dX2_faultOf_45 : decode cX2_faultOf 45 = .ok (.iconst 2, 1) := by decide +kernel
theorem dX2_faultOf_46 : decode cX2_faultOf 46 = .ok (.if_icmp .lt 10, 3) := by decide +kernel
theorem dX2_faultOf_49 : decode cX2_faultOf 49 = .ok (.aload_n 0, 1) := by decide +kernel
theorem dX2_faultOf_50 : decode cX2_faultOf 50 = .ok (.invokevirtual 41, 3) := by decide +kernel
theorem dX2_faultOf_53 : decode cX2_faultOf 53 = .ok (.ifCond .ne 7, 3) := by decide +kernel
theorem dX2_faultOf_56 : decode cX2_faultOf 56 = .ok (.aload_n 0, 1) := by decide +kernel
theorem dX2_faultOf_57 : decode cX2_faultOf 57 = .ok (.invokevirtual 45, 3) := by decide +kernel
theorem dX2_faultOf_60 : decode cX2_faultOf 60 = .ok (.aload_n 0, 1) := by decide +kernel
theorem dX2_faultOf_61 : decode cX2_faultOf 61 = .ok (.invokevirtual 48, 3) := by decide +kernel
theorem dX2_faultOf_64 : decode cX2_faultOf 64 = .ok (.ireturn, 1) := by decide +kernel
theorem dX2_toldPlaces_0 : decode cX2_toldPlaces 0 = .ok (.aload_n 0, 1) := by decide +kernel
theorem dX2_toldPlaces_1 : decode cX2_toldPlaces 1 = .ok (.getfield 18, 3) := by decide +kernel
theorem dX2_toldPlaces_4 : decode cX2_toldPlaces 4 = .ok (.ireturn, 1) := by decide +kernel
theorem dX2_toldItem_0 : decode cX2_toldItem 0 = .ok (.iload_n 1, 1) := by decide +kernel
theorem dX2_toldItem_1 : decode cX2_toldItem 1 = .ok (.iconst 0, 1) := by decide +kernel
theorem dX2_toldItem_2 : decode cX2_toldItem 2 = .ok (.iconst 5, 1) := by decide +kernel
theorem dX2_toldItem_3 : decode cX2_toldItem 3 = .ok (.invokestatic 51, 3) := by decide +kernel
theorem dX2_toldItem_6 : decode cX2_toldItem 6 = .ok (.ifCond .eq 16, 3) := by decide +kernel
theorem dX2_toldItem_9 : decode cX2_toldItem 9 = .ok (.iload_n 2, 1) := by decide +kernel
theorem dX2_toldItem_10 : decode cX2_toldItem 10 = .ok (.iconst 0, 1) := by decide +kernel
theorem dX2_toldItem_11 : decode cX2_toldItem 11 = .ok (.iconst 3, 1) := by decide +kernel
theorem dX2_toldItem_12 : decode cX2_toldItem 12 = .ok (.invokestatic 51, 3) := by decide +kernel
theorem dX2_toldItem_15 : decode cX2_toldItem 15 = .ok (.ifCond .eq 7, 3) := by decide +kernel
theorem dX2_toldItem_18 : decode cX2_toldItem 18 = .ok (.iconst 1, 1) := by decide +kernel
theorem dX2_toldItem_19 : decode cX2_toldItem 19 = .ok (.goto 4, 3) := by decide +kernel
theorem dX2_toldItem_22 : decode cX2_toldItem 22 = .ok (.iconst 0, 1) := by decide +kernel
theorem dX2_toldItem_23 : decode cX2_toldItem 23 = .ok (.istore_n 3, 1) := by decide +kernel
theorem dX2_toldItem_24 : decode cX2_toldItem 24 = .ok (.iload_n 3, 1) := by decide +kernel
theorem dX2_toldItem_25 : decode cX2_toldItem 25 = .ok (.ifCond .eq 16, 3) := by decide +kernel
theorem dX2_toldItem_28 : decode cX2_toldItem 28 = .ok (.aload_n 0, 1) := by decide +kernel
theorem dX2_toldItem_29 : decode cX2_toldItem 29 = .ok (.getfield 9, 3) := by decide +kernel
theorem dX2_toldItem_32 : decode cX2_toldItem 32 = .ok (.iload_n 1, 1) := by decide +kernel
theorem dX2_toldItem_33 : decode cX2_toldItem 33 = .ok (.iconst 4, 1) := by decide +kernel
theorem dX2_toldItem_34 : decode cX2_toldItem 34 = .ok (.imul, 1) := by decide +kernel
theorem dX2_toldItem_35 : decode cX2_toldItem 35 = .ok (.iload_n 2, 1) := by decide +kernel
theorem dX2_toldItem_36 : decode cX2_toldItem 36 = .ok (.iadd, 1) := by decide +kernel
theorem dX2_toldItem_37 : decode cX2_toldItem 37 = .ok (.iaload, 1) := by decide +kernel
theorem dX2_toldItem_38 : decode cX2_toldItem 38 = .ok (.goto 4, 3) := by decide +kernel
theorem dX2_toldItem_41 : decode cX2_toldItem 41 = .ok (.iconst 0, 1) := by decide +kernel
theorem dX2_toldItem_42 : decode cX2_toldItem 42 = .ok (.ireturn, 1) := by decide +kernel
theorem dX2_toldSigns_0 : decode cX2_toldSigns 0 = .ok (.aload_n 0, 1) := by decide +kernel
theorem dX2_toldSigns_1 : decode cX2_toldSigns 1 = .ok (.getfield 15, 3) := by decide +kernel
theorem dX2_toldSigns_4 : decode cX2_toldSigns 4 = .ok (.iconst 0, 1) := by decide +kernel
theorem dX2_toldSigns_5 : decode cX2_toldSigns 5 = .ok (.iaload, 1) := by decide +kernel
theorem dX2_toldSigns_6 : decode cX2_toldSigns 6 = .ok (.ireturn, 1) := by decide +kernel
theorem dX2_toldLost_0 : decode cX2_toldLost 0 = .ok (.aload_n 0, 1) := by decide +kernel
theorem dX2_toldLost_1 : decode cX2_toldLost 1 = .ok (.getfield 15, 3) := by decide +kernel
theorem dX2_toldLost_4 : decode cX2_toldLost 4 = .ok (.iconst 1, 1) := by decide +kernel
theorem dX2_toldLost_5 : decode cX2_toldLost 5 = .ok (.iaload, 1) := by decide +kernel
theorem dX2_toldLost_6 : decode cX2_toldLost 6 = .ok (.ireturn, 1) := by decide +kernel
theorem dX2_allWeights_0 : decode cX2_allWeights 0 = .ok (.iconst 0, 1) := by decide +kernel
theorem dX2_allWeights_1 : decode cX2_allWeights 1 = .ok (.istore_n 1, 1) := by decide +kernel
theorem dX2_allWeights_2 : decode cX2_allWeights 2 = .ok (.iconst 0, 1) := by decide +kernel
theorem dX2_allWeights_3 : decode cX2_allWeights 3 = .ok (.istore_n 2, 1) := by decide +kernel
theorem dX2_allWeights_4 : decode cX2_allWeights 4 = .ok (.iload_n 2, 1) := by decide +kernel
theorem dX2_allWeights_5 : decode cX2_allWeights 5 = .ok (.aload_n 0, 1) := by decide +kernel
theorem dX2_allWeights_6 : decode cX2_allWeights 6 = .ok (.getfield 18, 3) := by decide +kernel
theorem dX2_allWeights_9 : decode cX2_allWeights 9 = .ok (.if_icmp .ge 18, 3) := by decide +kernel
theorem dX2_allWeights_12 : decode cX2_allWeights 12 = .ok (.iload_n 1, 1) := by decide +kernel
theorem dX2_allWeights_13 : decode cX2_allWeights 13 = .ok (.aload_n 0, 1) := by decide +kernel
theorem dX2_allWeights_14 : decode cX2_allWeights 14 = .ok (.iload_n 2, 1) := by decide +kernel
theorem dX2_allWeights_15 : decode cX2_allWeights 15 = .ok (.iconst 0, 1) := by decide +kernel
theorem dX2_allWeights_16 : decode cX2_allWeights 16 = .ok (.invokevirtual 55, 3) := by decide +kernel
theorem dX2_allWeights_19 : decode cX2_allWeights 19 = .ok (.iadd, 1) := by decide +kernel
theorem dX2_allWeights_20 : decode cX2_allWeights 20 = .ok (.istore_n 1, 1) := by decide +kernel
theorem dX2_allWeights_21 : decode cX2_allWeights 21 = .ok (.iinc 2 1, 3) := by decide +kernel
theorem dX2_allWeights_24 : decode cX2_allWeights 24 = .ok (.goto (-20), 3) := by decide +kernel
theorem dX2_allWeights_27 : decode cX2_allWeights 27 = .ok (.iload_n 1, 1) := by decide +kernel
theorem dX2_allWeights_28 : decode cX2_allWeights 28 = .ok (.ireturn, 1) := by decide +kernel
theorem dX2_readClauses_0 : decode cX2_readClauses 0 = .ok (.iconst 0, 1) := by decide +kernel
theorem dX2_readClauses_1 : decode cX2_readClauses 1 = .ok (.istore_n 1, 1) := by decide +kernel
theorem dX2_readClauses_2 : decode cX2_readClauses 2 = .ok (.iload_n 1, 1) := by decide +kernel
theorem dX2_readClauses_3 : decode cX2_readClauses 3 = .ok (.sipush 160, 3) := by decide +kernel
theorem dX2_readClauses_6 : decode cX2_readClauses 6 = .ok (.if_icmp .gt 102, 3) := by decide +kernel
theorem dX2_readClauses_9 : decode cX2_readClauses 9 = .ok (.aload_n 0, 1) := by decide +kernel
theorem dX2_readClauses_10 : decode cX2_readClauses 10 = .ok (.getfield 18, 3) := by decide +kernel
theorem dX2_readClauses_13 : decode cX2_readClauses 13 = .ok (.bipush 6, 2) := by decide +kernel
theorem dX2_readClauses_15 : decode cX2_readClauses 15 = .ok (.if_icmp .ge 19, 3) := by decide +kernel
theorem dX2_readClauses_18 : decode cX2_readClauses 18 = .ok (.aload_n 0, 1) := by decide +kernel
theorem dX2_readClauses_19 : decode cX2_readClauses 19 = .ok (.bipush 112, 2) := by decide +kernel
theorem dX2_readClauses_21 : decode cX2_readClauses 21 = .ok (.invokevirtual 59, 3) := by decide +kernel
theorem dX2_readClauses_24 : decode cX2_readClauses 24 = .ok (.ifCond .eq 10, 3) := by decide +kernel
theorem dX2_readClauses_27 : decode cX2_readClauses 27 = .ok (.aload_n 0, 1) := by decide +kernel
theorem dX2_readClauses_28 : decode cX2_readClauses 28 = .ok (.invokevirtual 63, 3) := by decide +kernel
theorem dX2_readClauses_31 : decode cX2_readClauses 31 = .ok (.goto 48, 3) := by decide +kernel
theorem dX2_readClauses_34 : decode cX2_readClauses 34 = .ok (.aload_n 0, 1) := by decide +kernel
theorem dX2_readClauses_35 : decode cX2_readClauses 35 = .ok (.getfield 22, 3) := by decide +kernel
theorem dX2_readClauses_38 : decode cX2_readClauses 38 = .ok (.ifCond .ne 37, 3) := by decide +kernel
theorem dX2_readClauses_41 : decode cX2_readClauses 41 = .ok (.aload_n 0, 1) := by decide +kernel
theorem dX2_readClauses_42 : decode cX2_readClauses 42 = .ok (.bipush 98, 2) := by decide +kernel
theorem dX2_readClauses_44 : decode cX2_readClauses 44 = .ok (.invokevirtual 59, 3) := by decide +kernel
theorem dX2_readClauses_47 : decode cX2_readClauses 47 = .ok (.ifCond .eq 28, 3) := by decide +kernel
theorem dX2_readClauses_50 : decode cX2_readClauses 50 = .ok (.aload_n 0, 1) := by decide +kernel
theorem dX2_readClauses_51 : decode cX2_readClauses 51 = .ok (.iconst 1, 1) := by decide +kernel
theorem dX2_readClauses_52 : decode cX2_readClauses 52 = .ok (.putfield 22, 3) := by decide +kernel
theorem dX2_readClauses_55 : decode cX2_readClauses 55 = .ok (.aload_n 0, 1) := by decide +kernel
theorem dX2_readClauses_56 : decode cX2_readClauses 56 = .ok (.ldc 66, 2) := by decide +kernel
theorem dX2_readClauses_58 : decode cX2_readClauses 58 = .ok (.getstatic 68, 3) := by decide +kernel
theorem dX2_readClauses_61 : decode cX2_readClauses 61 = .ok (.getstatic 71, 3) := by decide +kernel
theorem dX2_readClauses_64 : decode cX2_readClauses 64 = .ok (.aload_n 0, 1) := by decide +kernel
theorem dX2_readClauses_65 : decode cX2_readClauses 65 = .ok (.getfield 15, 3) := by decide +kernel
theorem dX2_readClauses_68 : decode cX2_readClauses 68 = .ok (.iconst 0, 1) := by decide +kernel
theorem dX2_readClauses_69 : decode cX2_readClauses 69 = .ok (.invokevirtual 74, 3) := by decide +kernel
theorem dX2_readClauses_72 : decode cX2_readClauses 72 = .ok (.goto 7, 3) := by decide +kernel
theorem dX2_readClauses_75 : decode cX2_readClauses 75 = .ok (.aload_n 0, 1) := by decide +kernel
theorem dX2_readClauses_76 : decode cX2_readClauses 76 = .ok (.invokevirtual 78, 3) := by decide +kernel
theorem dX2_readClauses_79 : decode cX2_readClauses 79 = .ok (.aload_n 0, 1) := by decide +kernel
theorem dX2_readClauses_80 : decode cX2_readClauses 80 = .ok (.invokevirtual 81, 3) := by decide +kernel
theorem dX2_readClauses_83 : decode cX2_readClauses 83 = .ok (.ifCond .ne 12, 3) := by decide +kernel
theorem dX2_readClauses_86 : decode cX2_readClauses 86 = .ok (.aload_n 0, 1) := by decide +kernel
theorem dX2_readClauses_87 : decode cX2_readClauses 87 = .ok (.invokevirtual 85, 3) := by decide +kernel
theorem dX2_readClauses_90 : decode cX2_readClauses 90 = .ok (.bipush (-2), 2) := by decide +kernel
theorem dX2_readClauses_92 : decode cX2_readClauses 92 = .ok (.if_icmp .ne 4, 3) := by decide +kernel
theorem dX2_readClauses_95 : decode cX2_readClauses 95 = .ok (.return_, 1) := by decide +kernel
theorem dX2_readClauses_96 : decode cX2_readClauses 96 = .ok (.aload_n 0, 1) := by decide +kernel
theorem dX2_readClauses_97 : decode cX2_readClauses 97 = .ok (.bipush 59, 2) := by decide +kernel
theorem dX2_readClauses_99 : decode cX2_readClauses 99 = .ok (.invokevirtual 88, 3) := by decide +kernel
theorem dX2_readClauses_102 : decode cX2_readClauses 102 = .ok (.iinc 1 1, 3) := by decide +kernel
theorem dX2_readClauses_105 : decode cX2_readClauses 105 = .ok (.goto (-103), 3) := by decide +kernel
theorem dX2_readClauses_108 : decode cX2_readClauses 108 = .ok (.return_, 1) := by decide +kernel
theorem dX2_readPlace_0 : decode cX2_readPlace 0 = .ok (.aload_n 0, 1) := by decide +kernel
theorem dX2_readPlace_1 : decode cX2_readPlace 1 = .ok (.getfield 18, 3) := by decide +kernel
theorem dX2_readPlace_4 : decode cX2_readPlace 4 = .ok (.iconst 4, 1) := by decide +kernel
theorem dX2_readPlace_5 : decode cX2_readPlace 5 = .ok (.imul, 1) := by decide +kernel
theorem dX2_readPlace_6 : decode cX2_readPlace 6 = .ok (.istore_n 1, 1) := by decide +kernel
theorem dX2_readPlace_7 : decode cX2_readPlace 7 = .ok (.iload_n 1, 1) := by decide +kernel
theorem dX2_readPlace_8 : decode cX2_readPlace 8 = .ok (.aload_n 0, 1) := by decide +kernel
theorem dX2_readPlace_9 : decode cX2_readPlace 9 = .ok (.getfield 9, 3) := by decide +kernel
theorem dX2_readPlace_12 : decode cX2_readPlace 12 = .ok (.arraylength, 1) := by decide +kernel
theorem dX2_readPlace_13 : decode cX2_readPlace 13 = .ok (.iconst 4, 1) := by decide +kernel
theorem dX2_readPlace_14 : decode cX2_readPlace 14 = .ok (.isub, 1) := by decide +kernel
theorem dX2_readPlace_15 : decode cX2_readPlace 15 = .ok (.if_icmp .le 8, 3) := by decide +kernel
theorem dX2_readPlace_18 : decode cX2_readPlace 18 = .ok (.aload_n 0, 1) := by decide +kernel
theorem dX2_readPlace_19 : decode cX2_readPlace 19 = .ok (.invokevirtual 78, 3) := by decide +kernel
theorem dX2_readPlace_22 : decode cX2_readPlace 22 = .ok (.return_, 1) := by decide +kernel
theorem dX2_readPlace_23 : decode cX2_readPlace 23 = .ok (.aload_n 0, 1) := by decide +kernel
theorem dX2_readPlace_24 : decode cX2_readPlace 24 = .ok (.getfield 9, 3) := by decide +kernel
theorem dX2_readPlace_27 : decode cX2_readPlace 27 = .ok (.iload_n 1, 1) := by decide +kernel
theorem dX2_readPlace_28 : decode cX2_readPlace 28 = .ok (.iconst 0, 1) := by decide +kernel
theorem dX2_readPlace_29 : decode cX2_readPlace 29 = .ok (.iadd, 1) := by decide +kernel
theorem dX2_readPlace_30 : decode cX2_readPlace 30 = .ok (.iconst 1, 1) := by decide +kernel
theorem dX2_readPlace_31 : decode cX2_readPlace 31 = .ok (.iastore, 1) := by decide +kernel
theorem dX2_readPlace_32 : decode cX2_readPlace 32 = .ok (.aload_n 0, 1) := by decide +kernel
theorem dX2_readPlace_33 : decode cX2_readPlace 33 = .ok (.getfield 9, 3) := by decide +kernel
theorem dX2_readPlace_36 : decode cX2_readPlace 36 = .ok (.iload_n 1, 1) := by decide +kernel
theorem dX2_readPlace_37 : decode cX2_readPlace 37 = .ok (.iconst 1, 1) := by decide +kernel
theorem dX2_readPlace_38 : decode cX2_readPlace 38 = .ok (.iadd, 1) := by decide +kernel
theorem dX2_readPlace_39 : decode cX2_readPlace 39 = .ok (.iconst 0, 1) := by decide +kernel
theorem dX2_readPlace_40 : decode cX2_readPlace 40 = .ok (.iastore, 1) := by decide +kernel
theorem dX2_readPlace_41 : decode cX2_readPlace 41 = .ok (.aload_n 0, 1) := by decide +kernel
theorem dX2_readPlace_42 : decode cX2_readPlace 42 = .ok (.getfield 9, 3) := by decide +kernel
theorem dX2_readPlace_45 : decode cX2_readPlace 45 = .ok (.iload_n 1, 1) := by decide +kernel
theorem dX2_readPlace_46 : decode cX2_readPlace 46 = .ok (.iconst 2, 1) := by decide +kernel
theorem dX2_readPlace_47 : decode cX2_readPlace 47 = .ok (.iadd, 1) := by decide +kernel
theorem dX2_readPlace_48 : decode cX2_readPlace 48 = .ok (.iconst 0, 1) := by decide +kernel
theorem dX2_readPlace_49 : decode cX2_readPlace 49 = .ok (.iastore, 1) := by decide +kernel
theorem dX2_readPlace_50 : decode cX2_readPlace 50 = .ok (.aload_n 0, 1) := by decide +kernel
theorem dX2_readPlace_51 : decode cX2_readPlace 51 = .ok (.getfield 9, 3) := by decide +kernel
theorem dX2_readPlace_54 : decode cX2_readPlace 54 = .ok (.iload_n 1, 1) := by decide +kernel
theorem dX2_readPlace_55 : decode cX2_readPlace 55 = .ok (.iconst 3, 1) := by decide +kernel
theorem dX2_readPlace_56 : decode cX2_readPlace 56 = .ok (.iadd, 1) := by decide +kernel
theorem dX2_readPlace_57 : decode cX2_readPlace 57 = .ok (.bipush 10, 2) := by decide +kernel
theorem dX2_readPlace_59 : decode cX2_readPlace 59 = .ok (.iastore, 1) := by decide +kernel
theorem dX2_readPlace_60 : decode cX2_readPlace 60 = .ok (.aload_n 0, 1) := by decide +kernel
theorem dX2_readPlace_61 : decode cX2_readPlace 61 = .ok (.dup, 1) := by decide +kernel
theorem dX2_readPlace_62 : decode cX2_readPlace 62 = .ok (.getfield 18, 3) := by decide +kernel
theorem dX2_readPlace_65 : decode cX2_readPlace 65 = .ok (.iconst 1, 1) := by decide +kernel
theorem dX2_readPlace_66 : decode cX2_readPlace 66 = .ok (.iadd, 1) := by decide +kernel
theorem dX2_readPlace_67 : decode cX2_readPlace 67 = .ok (.putfield 18, 3) := by decide +kernel
theorem dX2_readPlace_70 : decode cX2_readPlace 70 = .ok (.aload_n 0, 1) := by decide +kernel
theorem dX2_readPlace_71 : decode cX2_readPlace 71 = .ok (.ldc 92, 2) := by decide +kernel
theorem dX2_readPlace_73 : decode cX2_readPlace 73 = .ok (.getstatic 94, 3) := by decide +kernel
theorem dX2_readPlace_76 : decode cX2_readPlace 76 = .ok (.getstatic 97, 3) := by decide +kernel
theorem dX2_readPlace_79 : decode cX2_readPlace 79 = .ok (.aload_n 0, 1) := by decide +kernel
theorem dX2_readPlace_80 : decode cX2_readPlace 80 = .ok (.getfield 9, 3) := by decide +kernel
theorem dX2_readPlace_83 : decode cX2_readPlace 83 = .ok (.iload_n 1, 1) := by decide +kernel
theorem dX2_readPlace_84 : decode cX2_readPlace 84 = .ok (.invokevirtual 74, 3) := by decide +kernel
theorem dX2_readPlace_87 : decode cX2_readPlace 87 = .ok (.return_, 1) := by decide +kernel
theorem dX2_readItems_0 : decode cX2_readItems 0 = .ok (.iconst 0, 1) := by decide +kernel
theorem dX2_readItems_1 : decode cX2_readItems 1 = .ok (.istore 6, 2) := by decide +kernel
theorem dX2_readItems_3 : decode cX2_readItems 3 = .ok (.iconst 0, 1) := by decide +kernel
theorem dX2_readItems_4 : decode cX2_readItems 4 = .ok (.istore 7, 2) := by decide +kernel
theorem dX2_readItems_6 : decode cX2_readItems 6 = .ok (.iload 7, 2) := by decide +kernel
theorem dX2_readItems_8 : decode cX2_readItems 8 = .ok (.sipush 160, 3) := by decide +kernel
theorem dX2_readItems_11 : decode cX2_readItems 11 = .ok (.if_icmp .gt 145, 3) := by decide +kernel
theorem dX2_readItems_14 : decode cX2_readItems 14 = .ok (.aload_n 0, 1) := by decide +kernel
theorem dX2_readItems_15 : decode cX2_readItems 15 = .ok (.invokevirtual 85, 3) := by decide +kernel
theorem dX2_readItems_18 : decode cX2_readItems 18 = .ok (.istore 8, 2) := by decide +kernel
theorem dX2_readItems_20 : decode cX2_readItems 20 = .ok (.iload 8, 2) := by decide +kernel
theorem dX2_readItems_22 : decode cX2_readItems 22 = .ok (.bipush (-2), 2) := by decide +kernel
theorem dX2_readItems_24 : decode cX2_readItems 24 = .ok (.if_icmp .eq 10, 3) := by decide +kernel
theorem dX2_readItems_27 : decode cX2_readItems 27 = .ok (.iload 8, 2) := by decide +kernel
theorem dX2_readItems_29 : decode cX2_readItems 29 = .ok (.bipush 59, 2) := by decide +kernel
theorem dX2_readItems_31 : decode cX2_readItems 31 = .ok (.if_icmp .ne 4, 3) := by decide +kernel
theorem dX2_readItems_34 : decode cX2_readItems 34 = .ok (.return_, 1) := by decide +kernel
theorem dX2_readItems_35 : decode cX2_readItems 35 = .ok (.aload_n 1, 1) := by decide +kernel
theorem dX2_readItems_36 : decode cX2_readItems 36 = .ok (.iload 8, 2) := by decide +kernel
theorem dX2_readItems_38 : decode cX2_readItems 38 = .ok (.i2c, 1) := by decide +kernel
theorem dX2_readItems_39 : decode cX2_readItems 39 = .ok (.invokevirtual 100, 3) := by decide +kernel
theorem dX2_readItems_42 : decode cX2_readItems 42 = .ok (.istore 9, 2) := by decide +kernel
theorem dX2_readItems_44 : decode cX2_readItems 44 = .ok (.iload 9, 2) := by decide +kernel
theorem dX2_readItems_46 : decode cX2_readItems 46 = .ok (.iconst 0, 1) := by decide +kernel
theorem dX2_readItems_47 : decode cX2_readItems 47 = .ok (.aload_n 2, 1) := by decide +kernel
theorem dX2_readItems_48 : decode cX2_readItems 48 = .ok (.arraylength, 1) := by decide +kernel
theorem dX2_readItems_49 : decode cX2_readItems 49 = .ok (.iconst 1, 1) := by decide +kernel
theorem dX2_readItems_50 : decode cX2_readItems 50 = .ok (.isub, 1) := by decide +kernel
theorem dX2_readItems_51 : decode cX2_readItems 51 = .ok (.invokestatic 51, 3) := by decide +kernel
theorem dX2_readItems_54 : decode cX2_readItems 54 = .ok (.ifCond .eq 31, 3) := by decide +kernel
theorem dX2_readItems_57 : decode cX2_readItems 57 = .ok (.iload 9, 2) := by decide +kernel
theorem dX2_readItems_59 : decode cX2_readItems 59 = .ok (.aload_n 3, 1) := by decide +kernel
theorem dX2_readItems_60 : decode cX2_readItems 60 = .ok (.arraylength, 1) := by decide +kernel
theorem dX2_readItems_61 : decode cX2_readItems 61 = .ok (.if_icmp .ge 24, 3) := by decide +kernel
theorem dX2_readItems_64 : decode cX2_readItems 64 = .ok (.iload 5, 2) := by decide +kernel
theorem dX2_readItems_66 : decode cX2_readItems 66 = .ok (.iload 9, 2) := by decide +kernel
theorem dX2_readItems_68 : decode cX2_readItems 68 = .ok (.iadd, 1) := by decide +kernel
theorem dX2_readItems_69 : decode cX2_readItems 69 = .ok (.iconst 0, 1) := by decide +kernel
theorem dX2_readItems_70 : decode cX2_readItems 70 = .ok (.aload 4, 2) := by decide +kernel
theorem dX2_readItems_72 : decode cX2_readItems 72 = .ok (.arraylength, 1) := by decide +kernel
theorem dX2_readItems_73 : decode cX2_readItems 73 = .ok (.iconst 1, 1) := by decide +kernel
theorem dX2_readItems_74 : decode cX2_readItems 74 = .ok (.isub, 1) := by decide +kernel
theorem dX2_readItems_75 : decode cX2_readItems 75 = .ok (.invokestatic 51, 3) := by decide +kernel
theorem dX2_readItems_78 : decode cX2_readItems 78 = .ok (.ifCond .eq 7, 3) := by decide +kernel
theorem dX2_readItems_81 : decode cX2_readItems 81 = .ok (.iconst 1, 1) := by decide +kernel
theorem dX2_readItems_82 : decode cX2_readItems 82 = .ok (.goto 4, 3) := by decide +kernel
theorem dX2_readItems_85 : decode cX2_readItems 85 = .ok (.iconst 0, 1) := by decide +kernel
theorem dX2_readItems_86 : decode cX2_readItems 86 = .ok (.istore 10, 2) := by decide +kernel
theorem dX2_readItems_88 : decode cX2_readItems 88 = .ok (.iload 10, 2) := by decide +kernel
theorem dX2_readItems_90 : decode cX2_readItems 90 = .ok (.ifCond .eq 13, 3) := by decide +kernel
theorem dX2_readItems_93 : decode cX2_readItems 93 = .ok (.iload 6, 2) := by decide +kernel
theorem dX2_readItems_95 : decode cX2_readItems 95 = .ok (.iconst 1, 1) := by decide +kernel
theorem dX2_readItems_96 : decode cX2_readItems 96 = .ok (.iload 9, 2) := by decide +kernel
theorem dX2_readItems_98 : decode cX2_readItems 98 = .ok (.ishl, 1) := by decide +kernel
theorem dX2_readItems_99 : decode cX2_readItems 99 = .ok (.iand, 1) := by decide +kernel
theorem dX2_readItems_100 : decode cX2_readItems 100 = .ok (.ifCond .eq 8, 3) := by decide +kernel
theorem dX2_readItems_103 : decode cX2_readItems 103 = .ok (.aload_n 0, 1) := by decide +kernel
theorem dX2_readItems_104 : decode cX2_readItems 104 = .ok (.invokevirtual 78, 3) := by decide +kernel
theorem dX2_readItems_107 : decode cX2_readItems 107 = .ok (.return_, 1) := by decide +kernel
theorem dX2_readItems_108 : decode cX2_readItems 108 = .ok (.iload 6, 2) := by decide +kernel
theorem dX2_readItems_110 : decode cX2_readItems 110 = .ok (.iconst 1, 1) := by decide +kernel
theorem dX2_readItems_111 : decode cX2_readItems 111 = .ok (.iload 9, 2) := by decide +kernel
theorem dX2_readItems_113 : decode cX2_readItems 113 = .ok (.ishl, 1) := by decide +kernel
theorem dX2_readItems_114 : decode cX2_readItems 114 = .ok (.ior, 1) := by decide +kernel
theorem dX2_readItems_115 : decode cX2_readItems 115 = .ok (.istore 6, 2) := by decide +kernel
theorem dX2_readItems_117 : decode cX2_readItems 117 = .ok (.aload_n 0, 1) := by decide +kernel
theorem dX2_readItems_118 : decode cX2_readItems 118 = .ok (.invokevirtual 106, 3) := by decide +kernel
theorem dX2_readItems_121 : decode cX2_readItems 121 = .ok (.aload 4, 2) := by decide +kernel
theorem dX2_readItems_123 : decode cX2_readItems 123 = .ok (.iload 5, 2) := by decide +kernel
theorem dX2_readItems_125 : decode cX2_readItems 125 = .ok (.iload 9, 2) := by decide +kernel
theorem dX2_readItems_127 : decode cX2_readItems 127 = .ok (.iadd, 1) := by decide +kernel
theorem dX2_readItems_128 : decode cX2_readItems 128 = .ok (.aload_n 0, 1) := by decide +kernel
theorem dX2_readItems_129 : decode cX2_readItems 129 = .ok (.iconst 2, 1) := by decide +kernel
theorem dX2_readItems_130 : decode cX2_readItems 130 = .ok (.aload_n 2, 1) := by decide +kernel
theorem dX2_readItems_131 : decode cX2_readItems 131 = .ok (.iload 9, 2) := by decide +kernel
theorem dX2_readItems_133 : decode cX2_readItems 133 = .ok (.iaload, 1) := by decide +kernel
theorem dX2_readItems_134 : decode cX2_readItems 134 = .ok (.aload_n 3, 1) := by decide +kernel
theorem dX2_readItems_135 : decode cX2_readItems 135 = .ok (.iload 9, 2) := by decide +kernel
theorem dX2_readItems_137 : decode cX2_readItems 137 = .ok (.iaload, 1) := by decide +kernel
theorem dX2_readItems_138 : decode cX2_readItems 138 = .ok (.invokevirtual 109, 3) := by decide +kernel
theorem dX2_readItems_141 : decode cX2_readItems 141 = .ok (.iastore, 1) := by decide +kernel
theorem dX2_readItems_142 : decode cX2_readItems 142 = .ok (.aload_n 0, 1) := by decide +kernel
theorem dX2_readItems_143 : decode cX2_readItems 143 = .ok (.invokevirtual 81, 3) := by decide +kernel
theorem dX2_readItems_146 : decode cX2_readItems 146 = .ok (.ifCond .eq 4, 3) := by decide +kernel
theorem dX2_readItems_149 : decode cX2_readItems 149 = .ok (.return_, 1) := by decide +kernel
theorem dX2_readItems_150 : decode cX2_readItems 150 = .ok (.iinc 7 1, 3) := by decide +kernel
theorem dX2_readItems_153 : decode cX2_readItems 153 = .ok (.goto (-147), 3) := by decide +kernel
theorem dX2_readItems_156 : decode cX2_readItems 156 = .ok (.return_, 1) := by decide +kernel
theorem dX3_init_0 : decode cX3_init 0 = .ok (.aload_n 0, 1) := by decide +kernel
theorem dX3_init_1 : decode cX3_init 1 = .ok (.invokespecial 3, 3) := by decide +kernel
theorem dX3_init_4 : decode cX3_init 4 = .ok (.aload_n 0, 1) := by decide +kernel
theorem dX3_init_5 : decode cX3_init 5 = .ok (.sipush 160, 3) := by decide +kernel
theorem dX3_init_8 : decode cX3_init 8 = .ok (.newarray .int, 2) := by decide +kernel
theorem dX3_init_10 : decode cX3_init 10 = .ok (.putfield 9, 3) := by decide +kernel
theorem dX3_init_13 : decode cX3_init 13 = .ok (.aload_n 0, 1) := by decide +kernel
theorem dX3_init_14 : decode cX3_init 14 = .ok (.iconst 0, 1) := by decide +kernel
theorem dX3_init_15 : decode cX3_init 15 = .ok (.putfield 15, 3) := by decide +kernel
theorem dX3_init_18 : decode cX3_init 18 = .ok (.aload_n 0, 1) := by decide +kernel
theorem dX3_init_19 : decode cX3_init 19 = .ok (.iconst 0, 1) := by decide +kernel
theorem dX3_init_20 : decode cX3_init 20 = .ok (.putfield 19, 3) := by decide +kernel
theorem dX3_init_23 : decode cX3_init 23 = .ok (.aload_n 0, 1) := by decide +kernel
theorem dX3_init_24 : decode cX3_init 24 = .ok (.iconst (-1), 1) := by decide +kernel
theorem dX3_init_25 : decode cX3_init 25 = .ok (.putfield 22, 3) := by decide +kernel
theorem dX3_init_28 : decode cX3_init 28 = .ok (.return_, 1) := by decide +kernel
theorem dX3_load_0 : decode cX3_load 0 = .ok (.iload_n 2, 1) := by decide +kernel
theorem dX3_load_1 : decode cX3_load 1 = .ok (.ifCond .lt 28, 3) := by decide +kernel
theorem dX3_load_4 : decode cX3_load 4 = .ok (.iload_n 3, 1) := by decide +kernel
theorem dX3_load_5 : decode cX3_load 5 = .ok (.ifCond .lt 24, 3) := by decide +kernel
theorem dX3_load_8 : decode cX3_load 8 = .ok (.iload_n 3, 1) := by decide +kernel
theorem dX3_load_9 : decode cX3_load 9 = .ok (.aload_n 0, 1) := by decide +kernel
theorem dX3_load_10 : decode cX3_load 10 = .ok (.getfield 9, 3) := by decide +kernel
theorem dX3_load_13 : decode cX3_load 13 = .ok (.arraylength, 1) := by decide +kernel
theorem dX3_load_14 : decode cX3_load 14 = .ok (.if_icmp .gt 15, 3) := by decide +kernel
theorem dX3_load_17 : decode cX3_load 17 = .ok (.iload_n 2, 1) := by decide +kernel
theorem dX3_load_18 : decode cX3_load 18 = .ok (.aload_n 1, 1) := by decide +kernel
theorem dX3_load_19 : decode cX3_load 19 = .ok (.arraylength, 1) := by decide +kernel
theorem dX3_load_20 : decode cX3_load 20 = .ok (.iload_n 3, 1) := by decide +kernel
theorem dX3_load_21 : decode cX3_load 21 = .ok (.isub, 1) := by decide +kernel
theorem dX3_load_22 : decode cX3_load 22 = .ok (.if_icmp .gt 7, 3) := by decide +kernel
theorem dX3_load_25 : decode cX3_load 25 = .ok (.iconst 1, 1) := by decide +kernel
theorem dX3_load_26 : decode cX3_load 26 = .ok (.goto 4, 3) := by decide +kernel
theorem dX3_load_29 : decode cX3_load 29 = .ok (.iconst 0, 1) := by decide +kernel
theorem dX3_load_30 : decode cX3_load 30 = .ok (.istore 4, 2) := by decide +kernel
theorem dX3_load_32 : decode cX3_load 32 = .ok (.aload_n 0, 1) := by decide +kernel
theorem dX3_load_33 : decode cX3_load 33 = .ok (.iload 4, 2) := by decide +kernel
theorem dX3_load_35 : decode cX3_load 35 = .ok (.ifCond .eq 7, 3) := by decide +kernel
theorem dX3_load_38 : decode cX3_load 38 = .ok (.iload_n 3, 1) := by decide +kernel
theorem dX3_load_39 : decode cX3_load 39 = .ok (.goto 4, 3) := by decide +kernel
theorem dX3_load_42 : decode cX3_load 42 = .ok (.iconst 0, 1) := by decide +kernel
theorem dX3_load_43 : decode cX3_load 43 = .ok (.putfield 15, 3) := by decide +kernel
theorem dX3_load_46 : decode cX3_load 46 = .ok (.iload 4, 2) := by decide +kernel
theorem dX3_load_48 : decode cX3_load 48 = .ok (.ifCond .eq 14, 3) := by decide +kernel
theorem dX3_load_51 : decode cX3_load 51 = .ok (.aload_n 1, 1) := by decide +kernel
theorem dX3_load_52 : decode cX3_load 52 = .ok (.iload_n 2, 1) := by decide +kernel
theorem dX3_load_53 : decode cX3_load 53 = .ok (.aload_n 0, 1) := by decide +kernel
theorem dX3_load_54 : decode cX3_load 54 = .ok (.getfield 9, 3) := by decide +kernel
theorem dX3_load_57 : decode cX3_load 57 = .ok (.iconst 0, 1) := by decide +kernel
theorem dX3_load_58 : decode cX3_load 58 = .ok (.iload_n 3, 1) := by decide +kernel
theorem dX3_load_59 : decode cX3_load 59 = .ok (.invokestatic 25, 3) := by decide +kernel
theorem dX3_load_62 : decode cX3_load 62 = .ok (.aload_n 0, 1) := by decide +kernel
theorem dX3_load_63 : decode cX3_load 63 = .ok (.invokevirtual 31, 3) := by decide +kernel
theorem dX3_load_66 : decode cX3_load 66 = .ok (.return_, 1) := by decide +kernel
theorem dX3_restart_0 : decode cX3_restart 0 = .ok (.aload_n 0, 1) := by decide +kernel
theorem dX3_restart_1 : decode cX3_restart 1 = .ok (.iconst 0, 1) := by decide +kernel
theorem dX3_restart_2 : decode cX3_restart 2 = .ok (.putfield 19, 3) := by decide +kernel
theorem dX3_restart_5 : decode cX3_restart 5 = .ok (.aload_n 0, 1) := by decide +kernel
theorem dX3_restart_6 : decode cX3_restart 6 = .ok (.iconst (-1), 1) := by decide +kernel
theorem dX3_restart_7 : decode cX3_restart 7 = .ok (.putfield 22, 3) := by decide +kernel
theorem dX3_restart_10 : decode cX3_restart 10 = .ok (.return_, 1) := by decide +kernel
theorem dX3_mark_0 : decode cX3_mark 0 = .ok (.aload_n 0, 1) := by decide +kernel
theorem dX3_mark_1 : decode cX3_mark 1 = .ok (.getfield 19, 3) := by decide +kernel
theorem dX3_mark_4 : decode cX3_mark 4 = .ok (.ireturn, 1) := by decide +kernel
theorem dX3_returnTo_0 : decode cX3_returnTo 0 = .ok (.aload_n 0, 1) := by decide +kernel
theorem dX3_returnTo_1 : decode cX3_returnTo 1 = .ok (.iload_n 1, 1) := by decide +kernel
theorem dX3_returnTo_2 : decode cX3_returnTo 2 = .ok (.putfield 19, 3) := by decide +kernel
theorem dX3_returnTo_5 : decode cX3_returnTo 5 = .ok (.return_, 1) := by decide +kernel
theorem dX3_next_0 : decode cX3_next 0 = .ok (.aload_n 0, 1) := by decide +kernel
theorem dX3_next_1 : decode cX3_next 1 = .ok (.getfield 19, 3) := by decide +kernel
theorem dX3_next_4 : decode cX3_next 4 = .ok (.aload_n 0, 1) := by decide +kernel
theorem dX3_next_5 : decode cX3_next 5 = .ok (.getfield 15, 3) := by decide +kernel
theorem dX3_next_8 : decode cX3_next 8 = .ok (.if_icmp .ge 30, 3) := by decide +kernel
theorem dX3_next_11 : decode cX3_next 11 = .ok (.aload_n 0, 1) := by decide +kernel
theorem dX3_next_12 : decode cX3_next 12 = .ok (.getfield 9, 3) := by decide +kernel
theorem dX3_next_15 : decode cX3_next 15 = .ok (.aload_n 0, 1) := by decide +kernel
theorem dX3_next_16 : decode cX3_next 16 = .ok (.getfield 19, 3) := by decide +kernel
theorem dX3_next_19 : decode cX3_next 19 = .ok (.iaload, 1) := by decide +kernel
theorem dX3_next_20 : decode cX3_next 20 = .ok (.bipush 32, 2) := by decide +kernel
theorem dX3_next_22 : decode cX3_next 22 = .ok (.if_icmp .ne 16, 3) := by decide +kernel
theorem dX3_next_25 : decode cX3_next 25 = .ok (.aload_n 0, 1) := by decide +kernel
theorem dX3_next_26 : decode cX3_next 26 = .ok (.dup, 1) := by decide +kernel
theorem dX3_next_27 : decode cX3_next 27 = .ok (.getfield 19, 3) := by decide +kernel
theorem dX3_next_30 : decode cX3_next 30 = .ok (.iconst 1, 1) := by decide +kernel
theorem dX3_next_31 : decode cX3_next 31 = .ok (.iadd, 1) := by decide +kernel
theorem dX3_next_32 : decode cX3_next 32 = .ok (.putfield 19, 3) := by decide +kernel
theorem dX3_next_35 : decode cX3_next 35 = .ok (.goto (-35), 3) := by decide +kernel
theorem dX3_next_38 : decode cX3_next 38 = .ok (.aload_n 0, 1) := by decide +kernel
theorem dX3_next_39 : decode cX3_next 39 = .ok (.getfield 19, 3) := by decide +kernel
theorem dX3_next_42 : decode cX3_next 42 = .ok (.aload_n 0, 1) := by decide +kernel
theorem dX3_next_43 : decode cX3_next 43 = .ok (.getfield 15, 3) := by decide +kernel
theorem dX3_next_46 : decode cX3_next 46 = .ok (.if_icmp .ge 15, 3) := by decide +kernel
theorem dX3_next_49 : decode cX3_next 49 = .ok (.aload_n 0, 1) := by decide +kernel
theorem dX3_next_50 : decode cX3_next 50 = .ok (.getfield 9, 3) := by decide +kernel
theorem dX3_next_53 : decode cX3_next 53 = .ok (.aload_n 0, 1) := by decide +kernel
theorem dX3_next_54 : decode cX3_next 54 = .ok (.getfield 19, 3) := by decide +kernel
theorem dX3_next_57 : decode cX3_next 57 = .ok (.iaload, 1) := by decide +kernel
theorem dX3_next_58 : decode cX3_next 58 = .ok (.goto 5, 3) := by decide +kernel
theorem dX3_next_61 : decode cX3_next 61 = .ok (.bipush (-2), 2) := by decide +kernel
theorem dX3_next_63 : decode cX3_next 63 = .ok (.ireturn, 1) := by decide +kernel
theorem dX3_pass_0 : decode cX3_pass 0 = .ok (.aload_n 0, 1) := by decide +kernel
theorem dX3_pass_1 : decode cX3_pass 1 = .ok (.getfield 19, 3) := by decide +kernel
theorem dX3_pass_4 : decode cX3_pass 4 = .ok (.aload_n 0, 1) := by decide +kernel
theorem dX3_pass_5 : decode cX3_pass 5 = .ok (.getfield 15, 3) := by decide +kernel
theorem dX3_pass_8 : decode cX3_pass 8 = .ok (.if_icmp .ge 13, 3) := by decide +kernel
theorem dX3_pass_11 : decode cX3_pass 11 = .ok (.aload_n 0, 1) := by decide +kernel
theorem dX3_pass_12 : decode cX3_pass 12 = .ok (.dup, 1) := by decide +kernel
theorem dX3_pass_13 : decode cX3_pass 13 = .ok (.getfield 19, 3) := by decide +kernel
theorem dX3_pass_16 : decode cX3_pass 16 = .ok (.iconst 1, 1) := by decide +kernel
theorem dX3_pass_17 : decode cX3_pass 17 = .ok (.iadd, 1) := by decide +kernel
theorem dX3_pass_18 : decode cX3_pass 18 = .ok (.putfield 19, 3) := by decide +kernel
theorem dX3_pass_21 : decode cX3_pass 21 = .ok (.return_, 1) := by decide +kernel
theorem dX3_take_0 : decode cX3_take 0 = .ok (.aload_n 0, 1) := by decide +kernel
theorem dX3_take_1 : decode cX3_take 1 = .ok (.invokevirtual 34, 3) := by decide +kernel
theorem dX3_take_4 : decode cX3_take 4 = .ok (.iload_n 1, 1) := by decide +kernel
theorem dX3_take_5 : decode cX3_take 5 = .ok (.if_icmp .eq 5, 3) := by decide +kernel
theorem dX3_take_8 : decode cX3_take 8 = .ok (.iconst 0, 1) := by decide +kernel
theorem dX3_take_9 : decode cX3_take 9 = .ok (.ireturn, 1) := by decide +kernel
theorem dX3_take_10 : decode cX3_take 10 = .ok (.aload_n 0, 1) := by decide +kernel
theorem dX3_take_11 : decode cX3_take 11 = .ok (.invokevirtual 38, 3) := by decide +kernel
theorem dX3_take_14 : decode cX3_take 14 = .ok (.iconst 1, 1) := by decide +kernel
theorem dX3_take_15 : decode cX3_take 15 = .ok (.ireturn, 1) := by decide +kernel
theorem dX3_need_0 : decode cX3_need 0 = .ok (.aload_n 0, 1) := by decide +kernel
theorem dX3_need_1 : decode cX3_need 1 = .ok (.invokevirtual 34, 3) := by decide +kernel
theorem dX3_need_4 : decode cX3_need 4 = .ok (.iload_n 1, 1) := by decide +kernel
theorem dX3_need_5 : decode cX3_need 5 = .ok (.if_icmp .ne 16, 3) := by decide +kernel
theorem dX3_need_8 : decode cX3_need 8 = .ok (.aload_n 0, 1) := by decide +kernel
theorem dX3_need_9 : decode cX3_need 9 = .ok (.dup, 1) := by decide +kernel
theorem dX3_need_10 : decode cX3_need 10 = .ok (.getfield 19, 3) := by decide +kernel
theorem dX3_need_13 : decode cX3_need 13 = .ok (.iconst 1, 1) := by decide +kernel
theorem dX3_need_14 : decode cX3_need 14 = .ok (.iadd, 1) := by decide +kernel
theorem dX3_need_15 : decode cX3_need 15 = .ok (.putfield 19, 3) := by decide +kernel
theorem dX3_need_18 : decode cX3_need 18 = .ok (.goto 11, 3) := by decide +kernel
theorem dX3_need_21 : decode cX3_need 21 = .ok (.aload_n 0, 1) := by decide +kernel
theorem dX3_need_22 : decode cX3_need 22 = .ok (.aload_n 0, 1) := by decide +kernel
theorem dX3_need_23 : decode cX3_need 23 = .ok (.getfield 19, 3) := by decide +kernel
theorem dX3_need_26 : decode cX3_need 26 = .ok (.invokevirtual 41, 3) := by decide +kernel
theorem dX3_need_29 : decode cX3_need 29 = .ok (.return_, 1) := by decide +kernel
theorem dX3_fail_0 : decode cX3_fail 0 = .ok (.aload_n 0, 1) := by decide +kernel
theorem dX3_fail_1 : decode cX3_fail 1 = .ok (.invokevirtual 34, 3) := by decide +kernel
theorem dX3_fail_4 : decode cX3_fail 4 = .ok (.pop, 1) := by decide +kernel
theorem dX3_fail_5 : decode cX3_fail 5 = .ok (.aload_n 0, 1) := by decide +kernel
theorem dX3_fail_6 : decode cX3_fail 6 = .ok (.aload_n 0, 1) := by decide +kernel
theorem dX3_fail_7 : decode cX3_fail 7 = .ok (.getfield 19, 3) := by decide +kernel
theorem dX3_fail_10 : decode cX3_fail 10 = .ok (.invokevirtual 41, 3) := by decide +kernel
theorem dX3_fail_13 : decode cX3_fail 13 = .ok (.return_, 1) := by decide +kernel
theorem dX3_failAtLength_0 : decode cX3_failAtLength 0 = .ok (.aload_n 0, 1) := by decide +kernel
theorem dX3_failAtLength_1 : decode cX3_failAtLength 1 = .ok (.aload_n 0, 1) := by decide +kernel
theorem dX3_failAtLength_2 : decode cX3_failAtLength 2 = .ok (.getfield 15, 3) := by decide +kernel
theorem dX3_failAtLength_5 : decode cX3_failAtLength 5 = .ok (.invokevirtual 41, 3) := by decide +kernel
theorem dX3_failAtLength_8 : decode cX3_failAtLength 8 = .ok (.return_, 1) := by decide +kernel
theorem dX3_failAt_0 : decode cX3_failAt 0 = .ok (.aload_n 0, 1) := by decide +kernel
theorem dX3_failAt_1 : decode cX3_failAt 1 = .ok (.getfield 22, 3) := by decide +kernel
theorem dX3_failAt_4 : decode cX3_failAt 4 = .ok (.iconst (-1), 1) := by decide +kernel
theorem dX3_failAt_5 : decode cX3_failAt 5 = .ok (.if_icmp .ne 8, 3) := by decide +kernel
theorem dX3_failAt_8 : decode cX3_failAt 8 = .ok (.aload_n 0, 1) := by decide +kernel
theorem dX3_failAt_9 : decode cX3_failAt 9 = .ok (.iload_n 1, 1) := by decide +kernel
theorem dX3_failAt_10 : decode cX3_failAt 10 = .ok (.putfield 22, 3) := by decide +kernel
theorem dX3_failAt_13 : decode cX3_failAt 13 = .ok (.return_, 1) := by decide +kernel
theorem dX3_failed_0 : decode cX3_failed 0 = .ok (.aload_n 0, 1) := by decide +kernel
theorem dX3_failed_1 : decode cX3_failed 1 = .ok (.getfield 22, 3) := by decide +kernel
theorem dX3_failed_4 : decode cX3_failed 4 = .ok (.iconst (-1), 1) := by decide +kernel
theorem dX3_failed_5 : decode cX3_failed 5 = .ok (.if_icmp .eq 7, 3) := by decide +kernel
theorem dX3_failed_8 : decode cX3_failed 8 = .ok (.iconst 1, 1) := by decide +kernel
theorem dX3_failed_9 : decode cX3_failed 9 = .ok (.goto 4, 3) := by decide +kernel
theorem dX3_failed_12 : decode cX3_failed 12 = .ok (.iconst 0, 1) := by decide +kernel
theorem dX3_failed_13 : decode cX3_failed 13 = .ok (.ireturn, 1) := by decide +kernel
theorem dX3_faultFound_0 : decode cX3_faultFound 0 = .ok (.aload_n 0, 1) := by decide +kernel
theorem dX3_faultFound_1 : decode cX3_faultFound 1 = .ok (.getfield 22, 3) := by decide +kernel
theorem dX3_faultFound_4 : decode cX3_faultFound 4 = .ok (.ireturn, 1) := by decide +kernel
theorem dX3_number_0 : decode cX3_number 0 = .ok (.aload_n 0, 1) := by decide +kernel
theorem dX3_number_1 : decode cX3_number 1 = .ok (.invokevirtual 34, 3) := by decide +kernel
theorem dX3_number_4 : decode cX3_number 4 = .ok (.pop, 1) := by decide +kernel
theorem dX3_number_5 : decode cX3_number 5 = .ok (.iconst 0, 1) := by decide +kernel
theorem dX3_number_6 : decode cX3_number 6 = .ok (.istore 4, 2) := by decide +kernel
theorem dX3_number_8 : decode cX3_number 8 = .ok (.iconst 0, 1) := by decide +kernel
theorem dX3_number_9 : decode cX3_number 9 = .ok (.istore 5, 2) := by decide +kernel
theorem dX3_number_11 : decode cX3_number 11 = .ok (.aload_n 0, 1) := by decide +kernel
theorem dX3_number_12 : decode cX3_number 12 = .ok (.getfield 19, 3) := by decide +kernel
theorem dX3_number_15 : decode cX3_number 15 = .ok (.aload_n 0, 1) := by decide +kernel
theorem dX3_number_16 : decode cX3_number 16 = .ok (.getfield 15, 3) := by decide +kernel
theorem dX3_number_19 : decode cX3_number 19 = .ok (.if_icmp .ge 74, 3) := by decide +kernel
theorem dX3_number_22 : decode cX3_number 22 = .ok (.aload_n 0, 1) := by decide +kernel
theorem dX3_number_23 : decode cX3_number 23 = .ok (.getfield 9, 3) := by decide +kernel
theorem dX3_number_26 : decode cX3_number 26 = .ok (.aload_n 0, 1) := by decide +kernel
theorem dX3_number_27 : decode cX3_number 27 = .ok (.getfield 19, 3) := by decide +kernel
theorem dX3_number_30 : decode cX3_number 30 = .ok (.iaload, 1) := by decide +kernel
theorem dX3_number_31 : decode cX3_number 31 = .ok (.bipush 48, 2) := by decide +kernel
theorem dX3_number_33 : decode cX3_number 33 = .ok (.bipush 57, 2) := by decide +kernel
theorem dX3_number_35 : decode cX3_number 35 = .ok (.invokestatic 45, 3) := by decide +kernel
theorem dX3_number_38 : decode cX3_number 38 = .ok (.ifCond .eq 55, 3) := by decide +kernel
theorem dX3_number_41 : decode cX3_number 41 = .ok (.iload 5, 2) := by decide +kernel
theorem dX3_number_43 : decode cX3_number 43 = .ok (.iload_n 1, 1) := by decide +kernel
theorem dX3_number_44 : decode cX3_number 44 = .ok (.if_icmp .lt 13, 3) := by decide +kernel
theorem dX3_number_47 : decode cX3_number 47 = .ok (.aload_n 0, 1) := by decide +kernel
theorem dX3_number_48 : decode cX3_number 48 = .ok (.aload_n 0, 1) := by decide +kernel
theorem dX3_number_49 : decode cX3_number 49 = .ok (.getfield 19, 3) := by decide +kernel
theorem dX3_number_52 : decode cX3_number 52 = .ok (.invokevirtual 41, 3) := by decide +kernel
theorem dX3_number_55 : decode cX3_number 55 = .ok (.iconst 0, 1) := by decide +kernel
theorem dX3_number_56 : decode cX3_number 56 = .ok (.ireturn, 1) := by decide +kernel
theorem dX3_number_57 : decode cX3_number 57 = .ok (.bipush 10, 2) := by decide +kernel
theorem dX3_number_59 : decode cX3_number 59 = .ok (.iload 4, 2) := by decide +kernel
theorem dX3_number_61 : decode cX3_number 61 = .ok (.imul, 1) := by decide +kernel
theorem dX3_number_62 : decode cX3_number 62 = .ok (.aload_n 0, 1) := by decide +kernel
theorem dX3_number_63 : decode cX3_number 63 = .ok (.getfield 9, 3) := by decide +kernel
theorem dX3_number_66 : decode cX3_number 66 = .ok (.aload_n 0, 1) := by decide +kernel
theorem dX3_number_67 : decode cX3_number 67 = .ok (.getfield 19, 3) := by decide +kernel
theorem dX3_number_70 : decode cX3_number 70 = .ok (.iaload, 1) := by decide +kernel
theorem dX3_number_71 : decode cX3_number 71 = .ok (.iadd, 1) := by decide +kernel
theorem dX3_number_72 : decode cX3_number 72 = .ok (.bipush 48, 2) := by decide +kernel
theorem dX3_number_74 : decode cX3_number 74 = .ok (.isub, 1) := by decide +kernel
theorem dX3_number_75 : decode cX3_number 75 = .ok (.istore 4, 2) := by decide +kernel
theorem dX3_number_77 : decode cX3_number 77 = .ok (.iinc 5 1, 3) := by decide +kernel
theorem dX3_number_80 : decode cX3_number 80 = .ok (.aload_n 0, 1) := by decide +kernel
theorem dX3_number_81 : decode cX3_number 81 = .ok (.dup, 1) := by decide +kernel
theorem dX3_number_82 : decode cX3_number 82 = .ok (.getfield 19, 3) := by decide +kernel
theorem dX3_number_85 : decode cX3_number 85 = .ok (.iconst 1, 1) := by decide +kernel
theorem dX3_number_86 : decode cX3_number 86 = .ok (.iadd, 1) := by decide +kernel
theorem dX3_number_87 : decode cX3_number 87 = .ok (.putfield 19, 3) := by decide +kernel
theorem dX3_number_90 : decode cX3_number 90 = .ok (.goto (-79), 3) := by decide +kernel
theorem dX3_number_93 : decode cX3_number 93 = .ok (.iload 5, 2) := by decide +kernel
theorem dX3_number_95 : decode cX3_number 95 = .ok (.ifCond .ne 14, 3) := by decide +kernel
theorem dX3_number_98 : decode cX3_number 98 = .ok (.aload_n 0, 1) := by decide +kernel
theorem dX3_number_99 : decode cX3_number 99 = .ok (.aload_n 0, 1) := by decide +kernel
theorem dX3_number_100 : decode cX3_number 100 = .ok (.getfield 19, 3) := by decide +kernel
theorem dX3_number_103 : decode cX3_number 103 = .ok (.invokevirtual 41, 3) := by decide +kernel
theorem dX3_number_106 : decode cX3_number 106 = .ok (.goto 23, 3) := by decide +kernel
theorem dX3_number_109 : decode cX3_number 109 = .ok (.iload 4, 2) := by decide +kernel
theorem dX3_number_111 : decode cX3_number 111 = .ok (.iload_n 2, 1) := by decide +kernel
theorem dX3_number_112 : decode cX3_number 112 = .ok (.iload_n 3, 1) := by decide +kernel
theorem dX3_number_113 : decode cX3_number 113 = .ok (.invokestatic 45, 3) := by decide +kernel
theorem dX3_number_116 : decode cX3_number 116 = .ok (.ifCond .ne 13, 3) := by decide +kernel
theorem dX3_number_119 : decode cX3_number 119 = .ok (.aload_n 0, 1) := by decide +kernel
theorem dX3_number_120 : decode cX3_number 120 = .ok (.aload_n 0, 1) := by decide +kernel
theorem dX3_number_121 : decode cX3_number 121 = .ok (.getfield 19, 3) := by decide +kernel
theorem dX3_number_124 : decode cX3_number 124 = .ok (.iconst 1, 1) := by decide +kernel
theorem dX3_number_125 : decode cX3_number 125 = .ok (.isub, 1) := by decide +kernel
theorem dX3_number_126 : decode cX3_number 126 = .ok (.invokevirtual 41, 3) := by decide +kernel
theorem dX3_number_129 : decode cX3_number 129 = .ok (.iload 4, 2) := by decide +kernel
theorem dX3_number_131 : decode cX3_number 131 = .ok (.ireturn, 1) := by decide +kernel
theorem dX4_init_0 : decode cX4_init 0 = .ok (.aload_n 0, 1) := by decide +kernel
theorem dX4_init_1 : decode cX4_init 1 = .ok (.invokespecial 5, 3) := by decide +kernel
theorem dX4_init_4 : decode cX4_init 4 = .ok (.aload_n 0, 1) := by decide +kernel
theorem dX4_init_5 : decode cX4_init 5 = .ok (.lconst 0, 1) := by decide +kernel
theorem dX4_init_6 : decode cX4_init 6 = .ok (.putfield 11, 3) := by decide +kernel
theorem dX4_init_9 : decode cX4_init 9 = .ok (.aload_n 0, 1) := by decide +kernel
theorem dX4_init_10 : decode cX4_init 10 = .ok (.iconst 0, 1) := by decide +kernel
theorem dX4_init_11 : decode cX4_init 11 = .ok (.putfield 15, 3) := by decide +kernel
theorem dX4_init_14 : decode cX4_init 14 = .ok (.aload_n 0, 1) := by decide +kernel
theorem dX4_init_15 : decode cX4_init 15 = .ok (.lconst 1, 1) := by decide +kernel
theorem dX4_init_16 : decode cX4_init 16 = .ok (.putfield 19, 3) := by decide +kernel
theorem dX4_init_19 : decode cX4_init 19 = .ok (.aload_n 0, 1) := by decide +kernel
theorem dX4_init_20 : decode cX4_init 20 = .ok (.bipush 64, 2) := by decide +kernel
theorem dX4_init_22 : decode cX4_init 22 = .ok (.newarray .long, 2) := by decide +kernel
theorem dX4_init_24 : decode cX4_init 24 = .ok (.putfield 22, 3) := by decide +kernel
theorem dX4_init_27 : decode cX4_init 27 = .ok (.aload_n 0, 1) := by decide +kernel
theorem dX4_init_28 : decode cX4_init 28 = .ok (.sipush 160, 3) := by decide +kernel
theorem dX4_init_31 : decode cX4_init 31 = .ok (.newarray .long, 2) := by decide +kernel
theorem dX4_init_33 : decode cX4_init 33 = .ok (.putfield 26, 3) := by decide +kernel
theorem dX4_init_36 : decode cX4_init 36 = .ok (.aload_n 0, 1) := by decide +kernel
theorem dX4_init_37 : decode cX4_init 37 = .ok (.bipush 6, 2) := by decide +kernel
theorem dX4_init_39 : decode cX4_init 39 = .ok (.newarray .int, 2) := by decide +kernel
theorem dX4_init_41 : decode cX4_init 41 = .ok (.putfield 29, 3) := by decide +kernel
theorem dX4_init_44 : decode cX4_init 44 = .ok (.aload_n 0, 1) := by decide +kernel
theorem dX4_init_45 : decode cX4_init 45 = .ok (.bipush 6, 2) := by decide +kernel
theorem dX4_init_47 : decode cX4_init 47 = .ok (.newarray .int, 2) := by decide +kernel
theorem dX4_init_49 : decode cX4_init 49 = .ok (.putfield 33, 3) := by decide +kernel
theorem dX4_init_52 : decode cX4_init 52 = .ok (.aload_n 0, 1) := by decide +kernel
theorem dX4_init_53 : decode cX4_init 53 = .ok (.bipush 6, 2) := by decide +kernel
theorem dX4_init_55 : decode cX4_init 55 = .ok (.newarray .long, 2) := by decide +kernel
theorem dX4_init_57 : decode cX4_init 57 = .ok (.putfield 36, 3) := by decide +kernel
theorem dX4_init_60 : decode cX4_init 60 = .ok (.aload_n 0, 1) := by decide +kernel
theorem dX4_init_61 : decode cX4_init 61 = .ok (.iconst 0, 1) := by decide +kernel
theorem dX4_init_62 : decode cX4_init 62 = .ok (.putfield 39, 3) := by decide +kernel
theorem dX4_init_65 : decode cX4_init 65 = .ok (.aload_n 0, 1) := by decide +kernel
theorem dX4_init_66 : decode cX4_init 66 = .ok (.iconst 0, 1) := by decide +kernel
theorem dX4_init_67 : decode cX4_init 67 = .ok (.putfield 42, 3) := by decide +kernel
theorem dX4_init_70 : decode cX4_init 70 = .ok (.aload_n 0, 1) := by decide +kernel
theorem dX4_init_71 : decode cX4_init 71 = .ok (.aload_n 1, 1) := by decide +kernel
theorem dX4_init_72 : decode cX4_init 72 = .ok (.putfield 45, 3) := by decide +kernel
theorem dX4_init_75 : decode cX4_init 75 = .ok (.aload_n 0, 1) := by decide +kernel
theorem dX4_init_76 : decode cX4_init 76 = .ok (.aload_n 2, 1) := by decide +kernel
theorem dX4_init_77 : decode cX4_init 77 = .ok (.putfield 49, 3) := by decide +kernel
theorem dX4_init_80 : decode cX4_init 80 = .ok (.return_, 1) := by decide +kernel
theorem dX4_bySigns_0 : decode cX4_bySigns 0 = .ok (.aload_n 0, 1) := by decide +kernel
theorem dX4_bySigns_1 : decode cX4_bySigns 1 = .ok (.iconst 4, 1) := by decide +kernel
theorem dX4_bySigns_2 : decode cX4_bySigns 2 = .ok (.iload_n 1, 1) := by decide +kernel
theorem dX4_bySigns_3 : decode cX4_bySigns 3 = .ok (.invokestatic 53, 3) := by decide +kernel
theorem dX4_bySigns_6 : decode cX4_bySigns 6 = .ok (.iload_n 2, 1) := by decide +kernel
theorem dX4_bySigns_7 : decode cX4_bySigns 7 = .ok (.iload_n 3, 1) := by decide +kernel
theorem dX4_bySigns_8 : decode cX4_bySigns 8 = .ok (.invokevirtual 59, 3) := by decide +kernel
theorem dX4_bySigns_11 : decode cX4_bySigns 11 = .ok (.iconst 0, 1) := by decide +kernel
theorem dX4_bySigns_12 : decode cX4_bySigns 12 = .ok (.istore 4, 2) := by decide +kernel
theorem dX4_bySigns_14 : decode cX4_bySigns 14 = .ok (.iload 4, 2) := by decide +kernel
theorem dX4_bySigns_16 : decode cX4_bySigns 16 = .ok (.aload_n 0, 1) := by decide +kernel
theorem dX4_bySigns_17 : decode cX4_bySigns 17 = .ok (.getfield 42, 3) := by decide +kernel
theorem dX4_bySigns_20 : decode cX4_bySigns 20 = .ok (.if_icmp .ge 91, 3) := by decide +kernel
theorem dX4_bySigns_23 : decode cX4_bySigns 23 = .ok (.aload_n 0, 1) := by decide +kernel
theorem dX4_bySigns_24 : decode cX4_bySigns 24 = .ok (.getfield 22, 3) := by decide +kernel
theorem dX4_bySigns_27 : decode cX4_bySigns 27 = .ok (.iload 4, 2) := by decide +kernel
theorem dX4_bySigns_29 : decode cX4_bySigns 29 = .ok (.bipush 8, 2) := by decide +kernel
theorem dX4_bySigns_31 : decode cX4_bySigns 31 = .ok (.imul, 1) := by decide +kernel
theorem dX4_bySigns_32 : decode cX4_bySigns 32 = .ok (.iload 4, 2) := by decide +kernel
theorem dX4_bySigns_34 : decode cX4_bySigns 34 = .ok (.ifCond .ne 9, 3) := by decide +kernel
theorem dX4_bySigns_37 : decode cX4_bySigns 37 = .ok (.ldc2_w 63, 3) := by decide +kernel
theorem dX4_bySigns_40 : decode cX4_bySigns 40 = .ok (.goto 11, 3) := by decide +kernel
theorem dX4_bySigns_43 : decode cX4_bySigns 43 = .ok (.aload_n 0, 1) := by decide +kernel
theorem dX4_bySigns_44 : decode cX4_bySigns 44 = .ok (.getfield 49, 3) := by decide +kernel
theorem dX4_bySigns_47 : decode cX4_bySigns 47 = .ok (.getfield 65, 3) := by decide +kernel
theorem dX4_bySigns_50 : decode cX4_bySigns 50 = .ok (.i2l, 1) := by decide +kernel
theorem dX4_bySigns_51 : decode cX4_bySigns 51 = .ok (.lastore, 1) := by decide +kernel
theorem dX4_bySigns_52 : decode cX4_bySigns 52 = .ok (.iconst 1, 1) := by decide +kernel
theorem dX4_bySigns_53 : decode cX4_bySigns 53 = .ok (.istore 5, 2) := by decide +kernel
theorem dX4_bySigns_55 : decode cX4_bySigns 55 = .ok (.iload 5, 2) := by decide +kernel
theorem dX4_bySigns_57 : decode cX4_bySigns 57 = .ok (.aload_n 0, 1) := by decide +kernel
theorem dX4_bySigns_58 : decode cX4_bySigns 58 = .ok (.getfield 42, 3) := by decide +kernel
theorem dX4_bySigns_61 : decode cX4_bySigns 61 = .ok (.if_icmp .ge 44, 3) := by decide +kernel
theorem dX4_bySigns_64 : decode cX4_bySigns 64 = .ok (.aload_n 0, 1) := by decide +kernel
theorem dX4_bySigns_65 : decode cX4_bySigns 65 = .ok (.getfield 22, 3) := by decide +kernel
theorem dX4_bySigns_68 : decode cX4_bySigns 68 = .ok (.iload 4, 2) := by decide +kernel
theorem dX4_bySigns_70 : decode cX4_bySigns 70 = .ok (.bipush 8, 2) := by decide +kernel
theorem dX4_bySigns_72 : decode cX4_bySigns 72 = .ok (.imul, 1) := by decide +kernel
theorem dX4_bySigns_73 : decode cX4_bySigns 73 = .ok (.iload 5, 2) := by decide +kernel
theorem dX4_bySigns_75 : decode cX4_bySigns 75 = .ok (.iadd, 1) := by decide +kernel
theorem dX4_bySigns_76 : decode cX4_bySigns 76 = .ok (.iload 5, 2) := by decide +kernel
theorem dX4_bySigns_78 : decode cX4_bySigns 78 = .ok (.iload 4, 2) := by decide +kernel
theorem dX4_bySigns_80 : decode cX4_bySigns 80 = .ok (.if_icmp .ne 17, 3) := by decide +kernel
theorem dX4_bySigns_83 : decode cX4_bySigns 83 = .ok (.bipush 100, 2) := by decide +kernel
theorem dX4_bySigns_85 : decode cX4_bySigns 85 = .ok (.aload_n 0, 1) := by decide +kernel
theorem dX4_bySigns_86 : decode cX4_bySigns 86 = .ok (.getfield 49, 3) := by decide +kernel
theorem dX4_bySigns_89 : decode cX4_bySigns 89 = .ok (.getfield 65, 3) := by decide +kernel
theorem dX4_bySigns_92 : decode cX4_bySigns 92 = .ok (.isub, 1) := by decide +kernel
theorem dX4_bySigns_93 : decode cX4_bySigns 93 = .ok (.i2l, 1) := by decide +kernel
theorem dX4_bySigns_94 : decode cX4_bySigns 94 = .ok (.goto 4, 3) := by decide +kernel
theorem dX4_bySigns_97 : decode cX4_bySigns 97 = .ok (.lconst 0, 1) := by decide +kernel
theorem dX4_bySigns_98 : decode cX4_bySigns 98 = .ok (.lastore, 1) := by decide +kernel
theorem dX4_bySigns_99 : decode cX4_bySigns 99 = .ok (.iinc 5 1, 3) := by decide +kernel
theorem dX4_bySigns_102 : decode cX4_bySigns 102 = .ok (.goto (-47), 3) := by decide +kernel
theorem dX4_bySigns_105 : decode cX4_bySigns 105 = .ok (.iinc 4 1, 3) := by decide +kernel
theorem dX4_bySigns_108 : decode cX4_bySigns 108 = .ok (.goto (-94), 3) := by decide +kernel
theorem dX4_bySigns_111 : decode cX4_bySigns 111 = .ok (.aload_n 0, 1) := by decide +kernel
theorem dX4_bySigns_112 : decode cX4_bySigns 112 = .ok (.invokevirtual 70, 3) := by decide +kernel
theorem dX4_bySigns_115 : decode cX4_bySigns 115 = .ok (.return_, 1) := by decide +kernel
theorem dX4_byKnots_0 : decode cX4_byKnots 0 = .ok (.aload_n 0, 1) := by decide +kernel
theorem dX4_byKnots_1 : decode cX4_byKnots 1 = .ok (.iload_n 1, 1) := by decide +kernel
theorem dX4_byKnots_2 : decode cX4_byKnots 2 = .ok (.invokevirtual 73, 3) := by decide +kernel
theorem dX4_byKnots_5 : decode cX4_byKnots 5 = .ok (.aload_n 0, 1) := by decide +kernel
theorem dX4_byKnots_6 : decode cX4_byKnots 6 = .ok (.invokevirtual 70, 3) := by decide +kernel
theorem dX4_byKnots_9 : decode cX4_byKnots 9 = .ok (.return_, 1) := by decide +kernel
theorem dX4_knotsOf_0 : decode cX4_knotsOf 0 = .ok (.aload_n 0, 1) := by decide +kernel
theorem dX4_knotsOf_1 : decode cX4_knotsOf 1 = .ok (.iload_n 1, 1) := by decide +kernel
theorem dX4_knotsOf_2 : decode cX4_knotsOf 2 = .ok (.invokevirtual 73, 3) := by decide +kernel
theorem dX4_knotsOf_5 : decode cX4_knotsOf 5 = .ok (.lconst 0, 1) := by decide +kernel
theorem dX4_knotsOf_6 : decode cX4_knotsOf 6 = .ok (.lstore_n 3, 1) := by decide +kernel
theorem dX4_knotsOf_7 : decode cX4_knotsOf 7 = .ok (.iconst 0, 1) := by decide +kernel
theorem dX4_knotsOf_8 : decode cX4_knotsOf 8 = .ok (.istore 5, 2) := by decide +kernel
theorem dX4_knotsOf_10 : decode cX4_knotsOf 10 = .ok (.iload 5, 2) := by decide +kernel
theorem dX4_knotsOf_12 : decode cX4_knotsOf 12 = .ok (.iconst 4, 1) := by decide +kernel
theorem dX4_knotsOf_13 : decode cX4_knotsOf 13 = .ok (.if_icmp .ge 40, 3) := by decide +kernel
theorem dX4_knotsOf_16 : decode cX4_knotsOf 16 = .ok (.iload_n 2, 1) := by decide +kernel
theorem dX4_knotsOf_17 : decode cX4_knotsOf 17 = .ok (.iload 5, 2) := by decide +kernel
theorem dX4_knotsOf_19 : decode cX4_knotsOf 19 = .ok (.invokestatic 77, 3) := by decide +kernel
theorem dX4_knotsOf_22 : decode cX4_knotsOf 22 = .ok (.istore 6, 2) := by decide +kernel
theorem dX4_knotsOf_24 : decode cX4_knotsOf 24 = .ok (.iload 6, 2) := by decide +kernel
theorem dX4_knotsOf_26 : decode cX4_knotsOf 26 = .ok (.aload_n 0, 1) := by decide +kernel
theorem dX4_knotsOf_27 : decode cX4_knotsOf 27 = .ok (.getfield 42, 3) := by decide +kernel
theorem dX4_knotsOf_30 : decode cX4_knotsOf 30 = .ok (.if_icmp .lt 7, 3) := by decide +kernel
theorem dX4_knotsOf_33 : decode cX4_knotsOf 33 = .ok (.ldc2_w 80, 3) := by decide +kernel
theorem dX4_knotsOf_36 : decode cX4_knotsOf 36 = .ok (.lreturn, 1) := by decide +kernel
theorem dX4_knotsOf_37 : decode cX4_knotsOf 37 = .ok (.aload_n 0, 1) := by decide +kernel
theorem dX4_knotsOf_38 : decode cX4_knotsOf 38 = .ok (.iload 5, 2) := by decide +kernel
theorem dX4_knotsOf_40 : decode cX4_knotsOf 40 = .ok (.iload 6, 2) := by decide +kernel
theorem dX4_knotsOf_42 : decode cX4_knotsOf 42 = .ok (.lload_n 3, 1) := by decide +kernel
theorem dX4_knotsOf_43 : decode cX4_knotsOf 43 = .ok (.invokevirtual 82, 3) := by decide +kernel
theorem dX4_knotsOf_46 : decode cX4_knotsOf 46 = .ok (.lstore_n 3, 1) := by decide +kernel
theorem dX4_knotsOf_47 : decode cX4_knotsOf 47 = .ok (.iinc 5 1, 3) := by decide +kernel
theorem dX4_knotsOf_50 : decode cX4_knotsOf 50 = .ok (.goto (-40), 3) := by decide +kernel
theorem dX4_knotsOf_53 : decode cX4_knotsOf 53 = .ok (.lload_n 3, 1) := by decide +kernel
theorem dX4_knotsOf_54 : decode cX4_knotsOf 54 = .ok (.lreturn, 1) := by decide +kernel
theorem dX4_prepareKnots_0 : decode cX4_prepareKnots 0 = .ok (.iconst 1, 1) := by decide +kernel
theorem dX4_prepareKnots_1 : decode cX4_prepareKnots 1 = .ok (.iconst 3, 1) := by decide +kernel
theorem dX4_prepareKnots_2 : decode cX4_prepareKnots 2 = .ok (.iload_n 1, 1) := by decide +kernel
theorem dX4_prepareKnots_3 : decode cX4_prepareKnots 3 = .ok (.invokestatic 53, 3) := by decide +kernel
theorem dX4_prepareKnots_6 : decode cX4_prepareKnots 6 = .ok (.invokestatic 86, 3) := by decide +kernel
theorem dX4_prepareKnots_9 : decode cX4_prepareKnots 9 = .ok (.istore_n 2, 1) := by decide +kernel
theorem dX4_prepareKnots_10 : decode cX4_prepareKnots 10 = .ok (.aload_n 0, 1) := by decide +kernel
theorem dX4_prepareKnots_11 : decode cX4_prepareKnots 11 = .ok (.iconst 1, 1) := by decide +kernel
theorem dX4_prepareKnots_12 : decode cX4_prepareKnots 12 = .ok (.iload_n 2, 1) := by decide +kernel
theorem dX4_prepareKnots_13 : decode cX4_prepareKnots 13 = .ok (.ishl, 1) := by decide +kernel
theorem dX4_prepareKnots_14 : decode cX4_prepareKnots 14 = .ok (.aload_n 0, 1) := by decide +kernel
theorem dX4_prepareKnots_15 : decode cX4_prepareKnots 15 = .ok (.getfield 49, 3) := by decide +kernel
theorem dX4_prepareKnots_18 : decode cX4_prepareKnots 18 = .ok (.getfield 89, 3) := by decide +kernel
theorem dX4_prepareKnots_21 : decode cX4_prepareKnots 21 = .ok (.aload_n 0, 1) := by decide +kernel
theorem dX4_prepareKnots_22 : decode cX4_prepareKnots 22 = .ok (.getfield 49, 3) := by decide +kernel
theorem dX4_prepareKnots_25 : decode cX4_prepareKnots 25 = .ok (.getfield 93, 3) := by decide +kernel
theorem dX4_prepareKnots_28 : decode cX4_prepareKnots 28 = .ok (.invokevirtual 59, 3) := by decide +kernel
theorem dX4_prepareKnots_31 : decode cX4_prepareKnots 31 = .ok (.aload_n 0, 1) := by decide +kernel
theorem dX4_prepareKnots_32 : decode cX4_prepareKnots 32 = .ok (.lconst 1, 1) := by decide +kernel
theorem dX4_prepareKnots_33 : decode cX4_prepareKnots 33 = .ok (.putfield 19, 3) := by decide +kernel
theorem dX4_prepareKnots_36 : decode cX4_prepareKnots 36 = .ok (.iconst 0, 1) := by decide +kernel
theorem dX4_prepareKnots_37 : decode cX4_prepareKnots 37 = .ok (.istore_n 3, 1) := by decide +kernel
theorem dX4_prepareKnots_38 : decode cX4_prepareKnots 38 = .ok (.iload_n 3, 1) := by decide +kernel
theorem dX4_prepareKnots_39 : decode cX4_prepareKnots 39 = .ok (.iload_n 2, 1) := by decide +kernel
theorem dX4_prepareKnots_40 : decode cX4_prepareKnots 40 = .ok (.if_icmp .ge 21, 3) := by decide +kernel
theorem dX4_prepareKnots_43 : decode cX4_prepareKnots 43 = .ok (.aload_n 0, 1) := by decide +kernel
theorem dX4_prepareKnots_44 : decode cX4_prepareKnots 44 = .ok (.aload_n 0, 1) := by decide +kernel
theorem dX4_prepareKnots_45 : decode cX4_prepareKnots 45 = .ok (.getfield 19, 3) := by decide +kernel
theorem dX4_prepareKnots_48 : decode cX4_prepareKnots 48 = .ok (.ldc2_w 63, 3) := by decide +kernel
theorem dX4_prepareKnots_51 : decode cX4_prepareKnots 51 = .ok (.lmul, 1) := by decide +kernel
theorem dX4_prepareKnots_52 : decode cX4_prepareKnots 52 = .ok (.putfield 19, 3) := by decide +kernel
theorem dX4_prepareKnots_55 : decode cX4_prepareKnots 55 = .ok (.iinc 3 1, 3) := by decide +kernel
theorem dX4_prepareKnots_58 : decode cX4_prepareKnots 58 = .ok (.goto (-20), 3) := by decide +kernel
theorem dX4_prepareKnots_61 : decode cX4_prepareKnots 61 = .ok (.iconst 0, 1) := by decide +kernel
theorem dX4_prepareKnots_62 : decode cX4_prepareKnots 62 = .ok (.istore_n 3, 1) := by decide +kernel
theorem dX4_prepareKnots_63 : decode cX4_prepareKnots 63 = .ok (.iload_n 3, 1) := by decide +kernel
theorem dX4_prepareKnots_64 : decode cX4_prepareKnots 64 = .ok (.aload_n 0, 1) := by decide +kernel
theorem dX4_prepareKnots_65 : decode cX4_prepareKnots 65 = .ok (.getfield 42, 3) := by decide +kernel
theorem dX4_prepareKnots_68 : decode cX4_prepareKnots 68 = .ok (.if_icmp .ge 47, 3) := by decide +kernel
theorem dX4_prepareKnots_71 : decode cX4_prepareKnots 71 = .ok (.iconst 0, 1) := by decide +kernel
theorem dX4_prepareKnots_72 : decode cX4_prepareKnots 72 = .ok (.istore 4, 2) := by decide +kernel
theorem dX4_prepareKnots_74 : decode cX4_prepareKnots 74 = .ok (.iload 4, 2) := by decide +kernel
theorem dX4_prepareKnots_76 : decode cX4_prepareKnots 76 = .ok (.aload_n 0, 1) := by decide +kernel
theorem dX4_prepareKnots_77 : decode cX4_prepareKnots 77 = .ok (.getfield 42, 3) := by decide +kernel
theorem dX4_prepareKnots_80 : decode cX4_prepareKnots 80 = .ok (.if_icmp .ge 29, 3) := by decide +kernel
theorem dX4_prepareKnots_83 : decode cX4_prepareKnots 83 = .ok (.aload_n 0, 1) := by decide +kernel
theorem dX4_prepareKnots_84 : decode cX4_prepareKnots 84 = .ok (.getfield 22, 3) := by decide +kernel
theorem dX4_prepareKnots_87 : decode cX4_prepareKnots 87 = .ok (.iload_n 3, 1) := by decide +kernel
theorem dX4_prepareKnots_88 : decode cX4_prepareKnots 88 = .ok (.bipush 8, 2) := by decide +kernel
theorem dX4_prepareKnots_90 : decode cX4_prepareKnots 90 = .ok (.imul, 1) := by decide +kernel
theorem dX4_prepareKnots_91 : decode cX4_prepareKnots 91 = .ok (.iload 4, 2) := by decide +kernel
theorem dX4_prepareKnots_93 : decode cX4_prepareKnots 93 = .ok (.iadd, 1) := by decide +kernel
theorem dX4_prepareKnots_94 : decode cX4_prepareKnots 94 = .ok (.aload_n 0, 1) := by decide +kernel
theorem dX4_prepareKnots_95 : decode cX4_prepareKnots 95 = .ok (.iload_n 2, 1) := by decide +kernel
theorem dX4_prepareKnots_96 : decode cX4_prepareKnots 96 = .ok (.iload_n 3, 1) := by decide +kernel
theorem dX4_prepareKnots_97 : decode cX4_prepareKnots 97 = .ok (.iload 4, 2) := by decide +kernel
theorem dX4_prepareKnots_99 : decode cX4_prepareKnots 99 = .ok (.invokevirtual 96, 3) := by decide +kernel
theorem dX4_prepareKnots_102 : decode cX4_prepareKnots 102 = .ok (.lastore, 1) := by decide +kernel
theorem dX4_prepareKnots_103 : decode cX4_prepareKnots 103 = .ok (.iinc 4 1, 3) := by decide +kernel
theorem dX4_prepareKnots_106 : decode cX4_prepareKnots 106 = .ok (.goto (-32), 3) := by decide +kernel
theorem dX4_prepareKnots_109 : decode cX4_prepareKnots 109 = .ok (.iinc 3 1, 3) := by decide +kernel
theorem dX4_prepareKnots_112 : decode cX4_prepareKnots 112 = .ok (.goto (-49), 3) := by decide +kernel
theorem dX4_prepareKnots_115 : decode cX4_prepareKnots 115 = .ok (.return_, 1) := by decide +kernel
theorem dX4_knotChance_0 : decode cX4_knotChance 0 = .ok (.lconst 1, 1) := by decide +kernel
theorem dX4_knotChance_1 : decode cX4_knotChance 1 = .ok (.lstore 4, 2) := by decide +kernel
theorem dX4_knotChance_3 : decode cX4_knotChance 3 = .ok (.iconst 0, 1) := by decide +kernel
theorem dX4_knotChance_4 : decode cX4_knotChance 4 = .ok (.istore 6, 2) := by decide +kernel
theorem dX4_knotChance_6 : decode cX4_knotChance 6 = .ok (.iload 6, 2) := by decide +kernel
theorem dX4_knotChance_8 : decode cX4_knotChance 8 = .ok (.iload_n 1, 1) := by decide +kernel
theorem dX4_knotChance_9 : decode cX4_knotChance 9 = .ok (.if_icmp .ge 84, 3) := by decide +kernel
theorem dX4_knotChance_12 : decode cX4_knotChance 12 = .ok (.iload_n 2, 1) := by decide +kernel
theorem dX4_knotChance_13 : decode cX4_knotChance 13 = .ok (.iload 6, 2) := by decide +kernel
theorem dX4_knotChance_15 : decode cX4_knotChance 15 = .ok (.iushr, 1) := by decide +kernel
theorem dX4_knotChance_16 : decode cX4_knotChance 16 = .ok (.iconst 1, 1) := by decide +kernel
theorem dX4_knotChance_17 : decode cX4_knotChance 17 = .ok (.iand, 1) := by decide +kernel
theorem dX4_knotChance_18 : decode cX4_knotChance 18 = .ok (.istore 7, 2) := by decide +kernel
theorem dX4_knotChance_20 : decode cX4_knotChance 20 = .ok (.iload_n 3, 1) := by decide +kernel
theorem dX4_knotChance_21 : decode cX4_knotChance 21 = .ok (.iload 6, 2) := by decide +kernel
theorem dX4_knotChance_23 : decode cX4_knotChance 23 = .ok (.iushr, 1) := by decide +kernel
theorem dX4_knotChance_24 : decode cX4_knotChance 24 = .ok (.iconst 1, 1) := by decide +kernel
theorem dX4_knotChance_25 : decode cX4_knotChance 25 = .ok (.iand, 1) := by decide +kernel
theorem dX4_knotChance_26 : decode cX4_knotChance 26 = .ok (.istore 8, 2) := by decide +kernel
theorem dX4_knotChance_28 : decode cX4_knotChance 28 = .ok (.iload 7, 2) := by decide +kernel
theorem dX4_knotChance_30 : decode cX4_knotChance 30 = .ok (.iconst 1, 1) := by decide +kernel
theorem dX4_knotChance_31 : decode cX4_knotChance 31 = .ok (.if_icmp .ne 38, 3) := by decide +kernel
theorem dX4_knotChance_34 : decode cX4_knotChance 34 = .ok (.lload 4, 2) := by decide +kernel
theorem dX4_knotChance_36 : decode cX4_knotChance 36 = .ok (.iload 8, 2) := by decide +kernel
theorem dX4_knotChance_38 : decode cX4_knotChance 38 = .ok (.iconst 1, 1) := by decide +kernel
theorem dX4_knotChance_39 : decode cX4_knotChance 39 = .ok (.if_icmp .ne 16, 3) := by decide +kernel
theorem dX4_knotChance_42 : decode cX4_knotChance 42 = .ok (.bipush 100, 2) := by decide +kernel
theorem dX4_knotChance_44 : decode cX4_knotChance 44 = .ok (.aload_n 0, 1) := by decide +kernel
theorem dX4_knotChance_45 : decode cX4_knotChance 45 = .ok (.getfield 49, 3) := by decide +kernel
theorem dX4_knotChance_48 : decode cX4_knotChance 48 = .ok (.getfield 65, 3) := by decide +kernel
theorem dX4_knotChance_51 : decode cX4_knotChance 51 = .ok (.isub, 1) := by decide +kernel
theorem dX4_knotChance_52 : decode cX4_knotChance 52 = .ok (.goto 10, 3) := by decide +kernel
theorem dX4_knotChance_55 : decode cX4_knotChance 55 = .ok (.aload_n 0, 1) := by decide +kernel
theorem dX4_knotChance_56 : decode cX4_knotChance 56 = .ok (.getfield 49, 3) := by decide +kernel
theorem dX4_knotChance_59 : decode cX4_knotChance 59 = .ok (.getfield 65, 3) := by decide +kernel
theorem dX4_knotChance_62 : decode cX4_knotChance 62 = .ok (.i2l, 1) := by decide +kernel
theorem dX4_knotChance_63 : decode cX4_knotChance 63 = .ok (.lmul, 1) := by decide +kernel
theorem dX4_knotChance_64 : decode cX4_knotChance 64 = .ok (.lstore 4, 2) := by decide +kernel
theorem dX4_knotChance_66 : decode cX4_knotChance 66 = .ok (.goto 21, 3) := by decide +kernel
theorem dX4_knotChance_69 : decode cX4_knotChance 69 = .ok (.lload 4, 2) := by decide +kernel
theorem dX4_knotChance_71 : decode cX4_knotChance 71 = .ok (.iload 8, 2) := by decide +kernel
theorem dX4_knotChance_73 : decode cX4_knotChance 73 = .ok (.iconst 1, 1) := by decide +kernel
theorem dX4_knotChance_74 : decode cX4_knotChance 74 = .ok (.if_icmp .ne 7, 3) := by decide +kernel
theorem dX4_knotChance_77 : decode cX4_knotChance 77 = .ok (.iconst 0, 1) := by decide +kernel
theorem dX4_knotChance_78 : decode cX4_knotChance 78 = .ok (.goto 5, 3) := by decide +kernel
theorem dX4_knotChance_81 : decode cX4_knotChance 81 = .ok (.bipush 100, 2) := by decide +kernel
theorem dX4_knotChance_83 : decode cX4_knotChance 83 = .ok (.i2l, 1) := by decide +kernel
theorem dX4_knotChance_84 : decode cX4_knotChance 84 = .ok (.lmul, 1) := by decide +kernel
theorem dX4_knotChance_85 : decode cX4_knotChance 85 = .ok (.lstore 4, 2) := by decide +kernel
theorem dX4_knotChance_87 : decode cX4_knotChance 87 = .ok (.iinc 6 1, 3) := by decide +kernel
theorem dX4_knotChance_90 : decode cX4_knotChance 90 = .ok (.goto (-84), 3) := by decide +kernel
theorem dX4_knotChance_93 : decode cX4_knotChance 93 = .ok (.lload 4, 2) := by decide +kernel
theorem dX4_knotChance_95 : decode cX4_knotChance 95 = .ok (.lreturn, 1) := by decide +kernel
theorem dX4_prepare_0 : decode cX4_prepare 0 = .ok (.aload_n 0, 1) := by decide +kernel
theorem dX4_prepare_1 : decode cX4_prepare 1 = .ok (.iload_n 1, 1) := by decide +kernel
theorem dX4_prepare_2 : decode cX4_prepare 2 = .ok (.putfield 42, 3) := by decide +kernel
theorem dX4_prepare_5 : decode cX4_prepare 5 = .ok (.aload_n 0, 1) := by decide +kernel
theorem dX4_prepare_6 : decode cX4_prepare 6 = .ok (.bipush 6, 2) := by decide +kernel
theorem dX4_prepare_8 : decode cX4_prepare 8 = .ok (.aload_n 0, 1) := by decide +kernel
theorem dX4_prepare_9 : decode cX4_prepare 9 = .ok (.getfield 45, 3) := by decide +kernel
theorem dX4_prepare_12 : decode cX4_prepare 12 = .ok (.getfield 100, 3) := by decide +kernel
theorem dX4_prepare_15 : decode cX4_prepare 15 = .ok (.invokestatic 53, 3) := by decide +kernel
theorem dX4_prepare_18 : decode cX4_prepare 18 = .ok (.putfield 39, 3) := by decide +kernel
theorem dX4_prepare_21 : decode cX4_prepare 21 = .ok (.iconst 0, 1) := by decide +kernel
theorem dX4_prepare_22 : decode cX4_prepare 22 = .ok (.istore 4, 2) := by decide +kernel
theorem dX4_prepare_24 : decode cX4_prepare 24 = .ok (.iload 4, 2) := by decide +kernel
theorem dX4_prepare_26 : decode cX4_prepare 26 = .ok (.aload_n 0, 1) := by decide +kernel
theorem dX4_prepare_27 : decode cX4_prepare 27 = .ok (.getfield 39, 3) := by decide +kernel
theorem dX4_prepare_30 : decode cX4_prepare 30 = .ok (.if_icmp .ge 60, 3) := by decide +kernel
theorem dX4_prepare_33 : decode cX4_prepare 33 = .ok (.aload_n 0, 1) := by decide +kernel
theorem dX4_prepare_34 : decode cX4_prepare 34 = .ok (.getfield 29, 3) := by decide +kernel
theorem dX4_prepare_37 : decode cX4_prepare 37 = .ok (.iload 4, 2) := by decide +kernel
theorem dX4_prepare_39 : decode cX4_prepare 39 = .ok (.aload_n 0, 1) := by decide +kernel
theorem dX4_prepare_40 : decode cX4_prepare 40 = .ok (.getfield 45, 3) := by decide +kernel
theorem dX4_prepare_43 : decode cX4_prepare 43 = .ok (.iload 4, 2) := by decide +kernel
theorem dX4_prepare_45 : decode cX4_prepare 45 = .ok (.iload_n 3, 1) := by decide +kernel
theorem dX4_prepare_46 : decode cX4_prepare 46 = .ok (.invokevirtual 103, 3) := by decide +kernel
theorem dX4_prepare_49 : decode cX4_prepare 49 = .ok (.iastore, 1) := by decide +kernel
theorem dX4_prepare_50 : decode cX4_prepare 50 = .ok (.aload_n 0, 1) := by decide +kernel
theorem dX4_prepare_51 : decode cX4_prepare 51 = .ok (.getfield 33, 3) := by decide +kernel
theorem dX4_prepare_54 : decode cX4_prepare 54 = .ok (.iload 4, 2) := by decide +kernel
theorem dX4_prepare_56 : decode cX4_prepare 56 = .ok (.aload_n 0, 1) := by decide +kernel
theorem dX4_prepare_57 : decode cX4_prepare 57 = .ok (.getfield 45, 3) := by decide +kernel
theorem dX4_prepare_60 : decode cX4_prepare 60 = .ok (.iload 4, 2) := by decide +kernel
theorem dX4_prepare_62 : decode cX4_prepare 62 = .ok (.iload_n 2, 1) := by decide +kernel
theorem dX4_prepare_63 : decode cX4_prepare 63 = .ok (.invokevirtual 107, 3) := by decide +kernel
theorem dX4_prepare_66 : decode cX4_prepare 66 = .ok (.iastore, 1) := by decide +kernel
theorem dX4_prepare_67 : decode cX4_prepare 67 = .ok (.aload_n 0, 1) := by decide +kernel
theorem dX4_prepare_68 : decode cX4_prepare 68 = .ok (.getfield 36, 3) := by decide +kernel
theorem dX4_prepare_71 : decode cX4_prepare 71 = .ok (.iload 4, 2) := by decide +kernel
theorem dX4_prepare_73 : decode cX4_prepare 73 = .ok (.aload_n 0, 1) := by decide +kernel
theorem dX4_prepare_74 : decode cX4_prepare 74 = .ok (.getfield 45, 3) := by decide +kernel
theorem dX4_prepare_77 : decode cX4_prepare 77 = .ok (.iload 4, 2) := by decide +kernel
theorem dX4_prepare_79 : decode cX4_prepare 79 = .ok (.invokevirtual 110, 3) := by decide +kernel
theorem dX4_prepare_82 : decode cX4_prepare 82 = .ok (.i2l, 1) := by decide +kernel
theorem dX4_prepare_83 : decode cX4_prepare 83 = .ok (.lastore, 1) := by decide +kernel
theorem dX4_prepare_84 : decode cX4_prepare 84 = .ok (.iinc 4 1, 3) := by decide +kernel
theorem dX4_prepare_87 : decode cX4_prepare 87 = .ok (.goto (-63), 3) := by decide +kernel
theorem dX4_prepare_90 : decode cX4_prepare 90 = .ok (.aload_n 0, 1) := by decide +kernel
theorem dX4_prepare_91 : decode cX4_prepare 91 = .ok (.getfield 26, 3) := by decide +kernel
theorem dX4_prepare_94 : decode cX4_prepare 94 = .ok (.lconst 0, 1) := by decide +kernel
theorem dX4_prepare_95 : decode cX4_prepare 95 = .ok (.invokestatic 114, 3) := by decide +kernel
theorem dX4_prepare_98 : decode cX4_prepare 98 = .ok (.return_, 1) := by decide +kernel
theorem dX4_findTop_0 : decode cX4_findTop 0 = .ok (.aload_n 0, 1) := by decide +kernel
theorem dX4_findTop_1 : decode cX4_findTop 1 = .ok (.ldc2_w 80, 3) := by decide +kernel
theorem dX4_findTop_4 : decode cX4_findTop 4 = .ok (.putfield 11, 3) := by decide +kernel
theorem dX4_findTop_7 : decode cX4_findTop 7 = .ok (.aload_n 0, 1) := by decide +kernel
theorem dX4_findTop_8 : decode cX4_findTop 8 = .ok (.iconst 0, 1) := by decide +kernel
theorem dX4_findTop_9 : decode cX4_findTop 9 = .ok (.putfield 15, 3) := by decide +kernel
theorem dX4_findTop_12 : decode cX4_findTop 12 = .ok (.aload_n 0, 1) := by decide +kernel
theorem dX4_findTop_13 : decode cX4_findTop 13 = .ok (.iconst 0, 1) := by decide +kernel
theorem dX4_findTop_14 : decode cX4_findTop 14 = .ok (.lconst 0, 1) := by decide +kernel
theorem dX4_findTop_15 : decode cX4_findTop 15 = .ok (.iconst 0, 1) := by decide +kernel
theorem dX4_findTop_16 : decode cX4_findTop 16 = .ok (.invokevirtual 120, 3) := by decide +kernel
theorem dX4_findTop_19 : decode cX4_findTop 19 = .ok (.return_, 1) := by decide +kernel
theorem dX4_tryWords_0 : decode cX4_tryWords 0 = .ok (.iload_n 1, 1) := by decide +kernel
theorem dX4_tryWords_1 : decode cX4_tryWords 1 = .ok (.iconst 4, 1) := by decide +kernel
theorem dX4_tryWords_2 : decode cX4_tryWords 2 = .ok (.if_icmp .lt 24, 3) := by decide +kernel
theorem dX4_tryWords_5 : decode cX4_tryWords 5 = .ok (.lload_n 2, 1) := by decide +kernel
theorem dX4_tryWords_6 : decode cX4_tryWords 6 = .ok (.aload_n 0, 1) := by decide +kernel
theorem dX4_tryWords_7 : decode cX4_tryWords 7 = .ok (.getfield 11, 3) := by decide +kernel
theorem dX4_tryWords_10 : decode cX4_tryWords 10 = .ok (.lcmp, 1) := by decide +kernel
theorem dX4_tryWords_11 : decode cX4_tryWords 11 = .ok (.ifCond .le 14, 3) := by decide +kernel
theorem dX4_tryWords_14 : decode cX4_tryWords 14 = .ok (.aload_n 0, 1) := by decide +kernel
theorem dX4_tryWords_15 : decode cX4_tryWords 15 = .ok (.lload_n 2, 1) := by decide +kernel
theorem dX4_tryWords_16 : decode cX4_tryWords 16 = .ok (.putfield 11, 3) := by decide +kernel
theorem dX4_tryWords_19 : decode cX4_tryWords 19 = .ok (.aload_n 0, 1) := by decide +kernel
theorem dX4_tryWords_20 : decode cX4_tryWords 20 = .ok (.iload 4, 2) := by decide +kernel
theorem dX4_tryWords_22 : decode cX4_tryWords 22 = .ok (.putfield 15, 3) := by decide +kernel
theorem dX4_tryWords_25 : decode cX4_tryWords 25 = .ok (.return_, 1) := by decide +kernel
theorem dX4_tryWords_26 : decode cX4_tryWords 26 = .ok (.aload_n 0, 1) := by decide +kernel
theorem dX4_tryWords_27 : decode cX4_tryWords 27 = .ok (.iload_n 1, 1) := by decide +kernel
theorem dX4_tryWords_28 : decode cX4_tryWords 28 = .ok (.invokevirtual 124, 3) := by decide +kernel
theorem dX4_tryWords_31 : decode cX4_tryWords 31 = .ok (.ifCond .eq 10, 3) := by decide +kernel
theorem dX4_tryWords_34 : decode cX4_tryWords 34 = .ok (.aload_n 0, 1) := by decide +kernel
theorem dX4_tryWords_35 : decode cX4_tryWords 35 = .ok (.getfield 42, 3) := by decide +kernel
theorem dX4_tryWords_38 : decode cX4_tryWords 38 = .ok (.goto 4, 3) := by decide +kernel
theorem dX4_tryWords_41 : decode cX4_tryWords 41 = .ok (.iconst 1, 1) := by decide +kernel
theorem dX4_tryWords_42 : decode cX4_tryWords 42 = .ok (.istore 5, 2) := by decide +kernel
theorem dX4_tryWords_44 : decode cX4_tryWords 44 = .ok (.iconst 0, 1) := by decide +kernel
theorem dX4_tryWords_45 : decode cX4_tryWords 45 = .ok (.istore 6, 2) := by decide +kernel
theorem dX4_tryWords_47 : decode cX4_tryWords 47 = .ok (.iload 6, 2) := by decide +kernel
theorem dX4_tryWords_49 : decode cX4_tryWords 49 = .ok (.iload 5, 2) := by decide +kernel
theorem dX4_tryWords_51 : decode cX4_tryWords 51 = .ok (.if_icmp .ge 32, 3) := by decide +kernel
theorem dX4_tryWords_54 : decode cX4_tryWords 54 = .ok (.aload_n 0, 1) := by decide +kernel
theorem dX4_tryWords_55 : decode cX4_tryWords 55 = .ok (.iload_n 1, 1) := by decide +kernel
theorem dX4_tryWords_56 : decode cX4_tryWords 56 = .ok (.iconst 1, 1) := by decide +kernel
theorem dX4_tryWords_57 : decode cX4_tryWords 57 = .ok (.iadd, 1) := by decide +kernel
theorem dX4_tryWords_58 : decode cX4_tryWords 58 = .ok (.aload_n 0, 1) := by decide +kernel
theorem dX4_tryWords_59 : decode cX4_tryWords 59 = .ok (.iload_n 1, 1) := by decide +kernel
theorem dX4_tryWords_60 : decode cX4_tryWords 60 = .ok (.iload 6, 2) := by decide +kernel
theorem dX4_tryWords_62 : decode cX4_tryWords 62 = .ok (.lload_n 2, 1) := by decide +kernel
theorem dX4_tryWords_63 : decode cX4_tryWords 63 = .ok (.invokevirtual 82, 3) := by decide +kernel
theorem dX4_tryWords_66 : decode cX4_tryWords 66 = .ok (.bipush 10, 2) := by decide +kernel
theorem dX4_tryWords_68 : decode cX4_tryWords 68 = .ok (.iload 4, 2) := by decide +kernel
theorem dX4_tryWords_70 : decode cX4_tryWords 70 = .ok (.imul, 1) := by decide +kernel
theorem dX4_tryWords_71 : decode cX4_tryWords 71 = .ok (.iload 6, 2) := by decide +kernel
theorem dX4_tryWords_73 : decode cX4_tryWords 73 = .ok (.iadd, 1) := by decide +kernel
theorem dX4_tryWords_74 : decode cX4_tryWords 74 = .ok (.invokevirtual 120, 3) := by decide +kernel
theorem dX4_tryWords_77 : decode cX4_tryWords 77 = .ok (.iinc 6 1, 3) := by decide +kernel
theorem dX4_tryWords_80 : decode cX4_tryWords 80 = .ok (.goto (-33), 3) := by decide +kernel
theorem dX4_tryWords_83 : decode cX4_tryWords 83 = .ok (.return_, 1) := by decide +kernel
theorem dX4_isWorthHearing_0 : decode cX4_isWorthHearing 0 = .ok (.iconst 0, 1) := by decide +kernel
theorem dX4_isWorthHearing_1 : decode cX4_isWorthHearing 1 = .ok (.istore_n 2, 1) := by decide +kernel
theorem dX4_isWorthHearing_2 : decode cX4_isWorthHearing 2 = .ok (.iload_n 2, 1) := by decide +kernel
theorem dX4_isWorthHearing_3 : decode cX4_isWorthHearing 3 = .ok (.aload_n 0, 1) := by decide +kernel
theorem dX4_isWorthHearing_4 : decode cX4_isWorthHearing 4 = .ok (.getfield 39, 3) := by decide +kernel
theorem dX4_isWorthHearing_7 : decode cX4_isWorthHearing 7 = .ok (.if_icmp .ge 32, 3) := by decide +kernel
theorem dX4_isWorthHearing_10 : decode cX4_isWorthHearing 10 = .ok (.aload_n 0, 1) := by decide +kernel
theorem dX4_isWorthHearing_11 : decode cX4_isWorthHearing 11 = .ok (.getfield 29, 3) := by decide +kernel
theorem dX4_isWorthHearing_14 : decode cX4_isWorthHearing 14 = .ok (.iload_n 2, 1) := by decide +kernel
theorem dX4_isWorthHearing_15 : decode cX4_isWorthHearing 15 = .ok (.iaload, 1) := by decide +kernel
theorem dX4_isWorthHearing_16 : decode cX4_isWorthHearing 16 = .ok (.iload_n 1, 1) := by decide +kernel
theorem dX4_isWorthHearing_17 : decode cX4_isWorthHearing 17 = .ok (.if_icmp .ne 16, 3) := by decide +kernel
theorem dX4_isWorthHearing_20 : decode cX4_isWorthHearing 20 = .ok (.aload_n 0, 1) := by decide +kernel
theorem dX4_isWorthHearing_21 : decode cX4_isWorthHearing 21 = .ok (.getfield 36, 3) := by decide +kernel
theorem dX4_isWorthHearing_24 : decode cX4_isWorthHearing 24 = .ok (.iload_n 2, 1) := by decide +kernel
theorem dX4_isWorthHearing_25 : decode cX4_isWorthHearing 25 = .ok (.laload, 1) := by decide +kernel
theorem dX4_isWorthHearing_26 : decode cX4_isWorthHearing 26 = .ok (.lconst 0, 1) := by decide +kernel
theorem dX4_isWorthHearing_27 : decode cX4_isWorthHearing 27 = .ok (.lcmp, 1) := by decide +kernel
theorem dX4_isWorthHearing_28 : decode cX4_isWorthHearing 28 = .ok (.ifCond .le 5, 3) := by decide +kernel
theorem dX4_isWorthHearing_31 : decode cX4_isWorthHearing 31 = .ok (.iconst 1, 1) := by decide +kernel
theorem dX4_isWorthHearing_32 : decode cX4_isWorthHearing 32 = .ok (.ireturn, 1) := by decide +kernel
theorem dX4_isWorthHearing_33 : decode cX4_isWorthHearing 33 = .ok (.iinc 2 1, 3) := by decide +kernel
theorem dX4_isWorthHearing_36 : decode cX4_isWorthHearing 36 = .ok (.goto (-34), 3) := by decide +kernel
theorem dX4_isWorthHearing_39 : decode cX4_isWorthHearing 39 = .ok (.iconst 0, 1) := by decide +kernel
theorem dX4_isWorthHearing_40 : decode cX4_isWorthHearing 40 = .ok (.ireturn, 1) := by decide +kernel
theorem dX4_addSound_0 : decode cX4_addSound 0 = .ok (.iload_n 1, 1) := by decide +kernel
theorem dX4_addSound_1 : decode cX4_addSound 1 = .ok (.iconst 1, 1) := by decide +kernel
theorem dX4_addSound_2 : decode cX4_addSound 2 = .ok (.iadd, 1) := by decide +kernel
theorem dX4_addSound_3 : decode cX4_addSound 3 = .ok (.bipush 32, 2) := by decide +kernel
theorem dX4_addSound_5 : decode cX4_addSound 5 = .ok (.imul, 1) := by decide +kernel
theorem dX4_addSound_6 : decode cX4_addSound 6 = .ok (.istore 5, 2) := by decide +kernel
theorem dX4_addSound_8 : decode cX4_addSound 8 = .ok (.iload 5, 2) := by decide +kernel
theorem dX4_addSound_10 : decode cX4_addSound 10 = .ok (.bipush 32, 2) := by decide +kernel
theorem dX4_addSound_12 : decode cX4_addSound 12 = .ok (.aload_n 0, 1) := by decide +kernel
theorem dX4_addSound_13 : decode cX4_addSound 13 = .ok (.getfield 26, 3) := by decide +kernel
theorem dX4_addSound_16 : decode cX4_addSound 16 = .ok (.arraylength, 1) := by decide +kernel
theorem dX4_addSound_17 : decode cX4_addSound 17 = .ok (.bipush 32, 2) := by decide +kernel
theorem dX4_addSound_19 : decode cX4_addSound 19 = .ok (.isub, 1) := by decide +kernel
theorem dX4_addSound_20 : decode cX4_addSound 20 = .ok (.invokestatic 128, 3) := by decide +kernel
theorem dX4_addSound_23 : decode cX4_addSound 23 = .ok (.ifCond .ne 5, 3) := by decide +kernel
theorem dX4_addSound_26 : decode cX4_addSound 26 = .ok (.lload_n 3, 1) := by decide +kernel
theorem dX4_addSound_27 : decode cX4_addSound 27 = .ok (.lreturn, 1) := by decide +kernel
theorem dX4_addSound_28 : decode cX4_addSound 28 = .ok (.aload_n 0, 1) := by decide +kernel
theorem dX4_addSound_29 : decode cX4_addSound 29 = .ok (.getfield 26, 3) := by decide +kernel
theorem dX4_addSound_32 : decode cX4_addSound 32 = .ok (.iload 5, 2) := by decide +kernel
theorem dX4_addSound_34 : decode cX4_addSound 34 = .ok (.bipush 32, 2) := by decide +kernel
theorem dX4_addSound_36 : decode cX4_addSound 36 = .ok (.isub, 1) := by decide +kernel
theorem dX4_addSound_37 : decode cX4_addSound 37 = .ok (.aload_n 0, 1) := by decide +kernel
theorem dX4_addSound_38 : decode cX4_addSound 38 = .ok (.getfield 26, 3) := by decide +kernel
theorem dX4_addSound_41 : decode cX4_addSound 41 = .ok (.iload 5, 2) := by decide +kernel
theorem dX4_addSound_43 : decode cX4_addSound 43 = .ok (.bipush 32, 2) := by decide +kernel
theorem dX4_addSound_45 : decode cX4_addSound 45 = .ok (.invokestatic 132, 3) := by decide +kernel
theorem dX4_addSound_48 : decode cX4_addSound 48 = .ok (.lload_n 3, 1) := by decide +kernel
theorem dX4_addSound_49 : decode cX4_addSound 49 = .ok (.lstore 6, 2) := by decide +kernel
theorem dX4_addSound_51 : decode cX4_addSound 51 = .ok (.iconst 0, 1) := by decide +kernel
theorem dX4_addSound_52 : decode cX4_addSound 52 = .ok (.istore 8, 2) := by decide +kernel
theorem dX4_addSound_54 : decode cX4_addSound 54 = .ok (.iload 8, 2) := by decide +kernel
theorem dX4_addSound_56 : decode cX4_addSound 56 = .ok (.aload_n 0, 1) := by decide +kernel
theorem dX4_addSound_57 : decode cX4_addSound 57 = .ok (.getfield 39, 3) := by decide +kernel
theorem dX4_addSound_60 : decode cX4_addSound 60 = .ok (.if_icmp .ge 34, 3) := by decide +kernel
theorem dX4_addSound_63 : decode cX4_addSound 63 = .ok (.aload_n 0, 1) := by decide +kernel
theorem dX4_addSound_64 : decode cX4_addSound 64 = .ok (.getfield 29, 3) := by decide +kernel
theorem dX4_addSound_67 : decode cX4_addSound 67 = .ok (.iload 8, 2) := by decide +kernel
theorem dX4_addSound_69 : decode cX4_addSound 69 = .ok (.iaload, 1) := by decide +kernel
theorem dX4_addSound_70 : decode cX4_addSound 70 = .ok (.iload_n 1, 1) := by decide +kernel
theorem dX4_addSound_71 : decode cX4_addSound 71 = .ok (.if_icmp .ne 17, 3) := by decide +kernel
theorem dX4_addSound_74 : decode cX4_addSound 74 = .ok (.lload 6, 2) := by decide +kernel
theorem dX4_addSound_76 : decode cX4_addSound 76 = .ok (.aload_n 0, 1) := by decide +kernel
theorem dX4_addSound_77 : decode cX4_addSound 77 = .ok (.iload 8, 2) := by decide +kernel
theorem dX4_addSound_79 : decode cX4_addSound 79 = .ok (.iload_n 2, 1) := by decide +kernel
theorem dX4_addSound_80 : decode cX4_addSound 80 = .ok (.iload 5, 2) := by decide +kernel
theorem dX4_addSound_82 : decode cX4_addSound 82 = .ok (.invokevirtual 138, 3) := by decide +kernel
theorem dX4_addSound_85 : decode cX4_addSound 85 = .ok (.ladd, 1) := by decide +kernel
theorem dX4_addSound_86 : decode cX4_addSound 86 = .ok (.lstore 6, 2) := by decide +kernel
theorem dX4_addSound_88 : decode cX4_addSound 88 = .ok (.iinc 8 1, 3) := by decide +kernel
theorem dX4_addSound_91 : decode cX4_addSound 91 = .ok (.goto (-37), 3) := by decide +kernel
theorem dX4_addSound_94 : decode cX4_addSound 94 = .ok (.lload 6, 2) := by decide +kernel
theorem dX4_addSound_96 : decode cX4_addSound 96 = .ok (.lreturn, 1) := by decide +kernel
theorem dX4_addPlace_0 : decode cX4_addPlace 0 = .ok (.lconst 0, 1) := by decide +kernel
theorem dX4_addPlace_1 : decode cX4_addPlace 1 = .ok (.lstore 4, 2) := by decide +kernel
theorem dX4_addPlace_3 : decode cX4_addPlace 3 = .ok (.iload_n 3, 1) := by decide +kernel
theorem dX4_addPlace_4 : decode cX4_addPlace 4 = .ok (.aload_n 0, 1) := by decide +kernel
theorem dX4_addPlace_5 : decode cX4_addPlace 5 = .ok (.getfield 33, 3) := by decide +kernel
theorem dX4_addPlace_8 : decode cX4_addPlace 8 = .ok (.iload_n 1, 1) := by decide +kernel
theorem dX4_addPlace_9 : decode cX4_addPlace 9 = .ok (.iaload, 1) := by decide +kernel
theorem dX4_addPlace_10 : decode cX4_addPlace 10 = .ok (.bipush 8, 2) := by decide +kernel
theorem dX4_addPlace_12 : decode cX4_addPlace 12 = .ok (.imul, 1) := by decide +kernel
theorem dX4_addPlace_13 : decode cX4_addPlace 13 = .ok (.iadd, 1) := by decide +kernel
theorem dX4_addPlace_14 : decode cX4_addPlace 14 = .ok (.istore 6, 2) := by decide +kernel
theorem dX4_addPlace_16 : decode cX4_addPlace 16 = .ok (.iload_n 2, 1) := by decide +kernel
theorem dX4_addPlace_17 : decode cX4_addPlace 17 = .ok (.iconst 0, 1) := by decide +kernel
theorem dX4_addPlace_18 : decode cX4_addPlace 18 = .ok (.bipush 7, 2) := by decide +kernel
theorem dX4_addPlace_20 : decode cX4_addPlace 20 = .ok (.invokestatic 128, 3) := by decide +kernel
theorem dX4_addPlace_23 : decode cX4_addPlace 23 = .ok (.ifCond .eq 20, 3) := by decide +kernel
theorem dX4_addPlace_26 : decode cX4_addPlace 26 = .ok (.iload 6, 2) := by decide +kernel
theorem dX4_addPlace_28 : decode cX4_addPlace 28 = .ok (.iconst 0, 1) := by decide +kernel
theorem dX4_addPlace_29 : decode cX4_addPlace 29 = .ok (.aload_n 0, 1) := by decide +kernel
theorem dX4_addPlace_30 : decode cX4_addPlace 30 = .ok (.getfield 26, 3) := by decide +kernel
theorem dX4_addPlace_33 : decode cX4_addPlace 33 = .ok (.arraylength, 1) := by decide +kernel
theorem dX4_addPlace_34 : decode cX4_addPlace 34 = .ok (.bipush 8, 2) := by decide +kernel
theorem dX4_addPlace_36 : decode cX4_addPlace 36 = .ok (.isub, 1) := by decide +kernel
theorem dX4_addPlace_37 : decode cX4_addPlace 37 = .ok (.invokestatic 128, 3) := by decide +kernel
theorem dX4_addPlace_40 : decode cX4_addPlace 40 = .ok (.ifCond .ne 5, 3) := by decide +kernel
theorem dX4_addPlace_43 : decode cX4_addPlace 43 = .ok (.lconst 0, 1) := by decide +kernel
theorem dX4_addPlace_44 : decode cX4_addPlace 44 = .ok (.lreturn, 1) := by decide +kernel
theorem dX4_addPlace_45 : decode cX4_addPlace 45 = .ok (.iconst 0, 1) := by decide +kernel
theorem dX4_addPlace_46 : decode cX4_addPlace 46 = .ok (.istore 7, 2) := by decide +kernel
theorem dX4_addPlace_48 : decode cX4_addPlace 48 = .ok (.iload 7, 2) := by decide +kernel
theorem dX4_addPlace_50 : decode cX4_addPlace 50 = .ok (.iload_n 2, 1) := by decide +kernel
theorem dX4_addPlace_51 : decode cX4_addPlace 51 = .ok (.if_icmp .gt 76, 3) := by decide +kernel
theorem dX4_addPlace_54 : decode cX4_addPlace 54 = .ok (.aload_n 0, 1) := by decide +kernel
theorem dX4_addPlace_55 : decode cX4_addPlace 55 = .ok (.getfield 36, 3) := by decide +kernel
theorem dX4_addPlace_58 : decode cX4_addPlace 58 = .ok (.iload_n 1, 1) := by decide +kernel
theorem dX4_addPlace_59 : decode cX4_addPlace 59 = .ok (.laload, 1) := by decide +kernel
theorem dX4_addPlace_60 : decode cX4_addPlace 60 = .ok (.aload_n 0, 1) := by decide +kernel
theorem dX4_addPlace_61 : decode cX4_addPlace 61 = .ok (.getfield 22, 3) := by decide +kernel
theorem dX4_addPlace_64 : decode cX4_addPlace 64 = .ok (.iload_n 2, 1) := by decide +kernel
theorem dX4_addPlace_65 : decode cX4_addPlace 65 = .ok (.bipush 8, 2) := by decide +kernel
theorem dX4_addPlace_67 : decode cX4_addPlace 67 = .ok (.imul, 1) := by decide +kernel
theorem dX4_addPlace_68 : decode cX4_addPlace 68 = .ok (.iload 7, 2) := by decide +kernel
theorem dX4_addPlace_70 : decode cX4_addPlace 70 = .ok (.iadd, 1) := by decide +kernel
theorem dX4_addPlace_71 : decode cX4_addPlace 71 = .ok (.laload, 1) := by decide +kernel
theorem dX4_addPlace_72 : decode cX4_addPlace 72 = .ok (.lmul, 1) := by decide +kernel
theorem dX4_addPlace_73 : decode cX4_addPlace 73 = .ok (.lstore 8, 2) := by decide +kernel
theorem dX4_addPlace_75 : decode cX4_addPlace 75 = .ok (.lload 8, 2) := by decide +kernel
theorem dX4_addPlace_77 : decode cX4_addPlace 77 = .ok (.aload_n 0, 1) := by decide +kernel
theorem dX4_addPlace_78 : decode cX4_addPlace 78 = .ok (.getfield 26, 3) := by decide +kernel
theorem dX4_addPlace_81 : decode cX4_addPlace 81 = .ok (.iload 6, 2) := by decide +kernel
theorem dX4_addPlace_83 : decode cX4_addPlace 83 = .ok (.iload 7, 2) := by decide +kernel
theorem dX4_addPlace_85 : decode cX4_addPlace 85 = .ok (.iadd, 1) := by decide +kernel
theorem dX4_addPlace_86 : decode cX4_addPlace 86 = .ok (.laload, 1) := by decide +kernel
theorem dX4_addPlace_87 : decode cX4_addPlace 87 = .ok (.lcmp, 1) := by decide +kernel
theorem dX4_addPlace_88 : decode cX4_addPlace 88 = .ok (.ifCond .le 33, 3) := by decide +kernel
theorem dX4_addPlace_91 : decode cX4_addPlace 91 = .ok (.lload 4, 2) := by decide +kernel
theorem dX4_addPlace_93 : decode cX4_addPlace 93 = .ok (.lload 8, 2) := by decide +kernel
theorem dX4_addPlace_95 : decode cX4_addPlace 95 = .ok (.aload_n 0, 1) := by decide +kernel
theorem dX4_addPlace_96 : decode cX4_addPlace 96 = .ok (.getfield 26, 3) := by decide +kernel
theorem dX4_addPlace_99 : decode cX4_addPlace 99 = .ok (.iload 6, 2) := by decide +kernel
theorem dX4_addPlace_101 : decode cX4_addPlace 101 = .ok (.iload 7, 2) := by decide +kernel
theorem dX4_addPlace_103 : decode cX4_addPlace 103 = .ok (.iadd, 1) := by decide +kernel
theorem dX4_addPlace_104 : decode cX4_addPlace 104 = .ok (.laload, 1) := by decide +kernel
theorem dX4_addPlace_105 : decode cX4_addPlace 105 = .ok (.lsub, 1) := by decide +kernel
theorem dX4_addPlace_106 : decode cX4_addPlace 106 = .ok (.ladd, 1) := by decide +kernel
theorem dX4_addPlace_107 : decode cX4_addPlace 107 = .ok (.lstore 4, 2) := by decide +kernel
theorem dX4_addPlace_109 : decode cX4_addPlace 109 = .ok (.aload_n 0, 1) := by decide +kernel
theorem dX4_addPlace_110 : decode cX4_addPlace 110 = .ok (.getfield 26, 3) := by decide +kernel
theorem dX4_addPlace_113 : decode cX4_addPlace 113 = .ok (.iload 6, 2) := by decide +kernel
theorem dX4_addPlace_115 : decode cX4_addPlace 115 = .ok (.iload 7, 2) := by decide +kernel
theorem dX4_addPlace_117 : decode cX4_addPlace 117 = .ok (.iadd, 1) := by decide +kernel
theorem dX4_addPlace_118 : decode cX4_addPlace 118 = .ok (.lload 8, 2) := by decide +kernel
theorem dX4_addPlace_120 : decode cX4_addPlace 120 = .ok (.lastore, 1) := by decide +kernel
theorem dX4_addPlace_121 : decode cX4_addPlace 121 = .ok (.iinc 7 1, 3) := by decide +kernel
theorem dX4_addPlace_124 : decode cX4_addPlace 124 = .ok (.goto (-76), 3) := by decide +kernel
theorem dX4_addPlace_127 : decode cX4_addPlace 127 = .ok (.lload 4, 2) := by decide +kernel
theorem dX4_addPlace_129 : decode cX4_addPlace 129 = .ok (.lreturn, 1) := by decide +kernel
theorem dX5_init_0 : decode cX5_init 0 = .ok (.aload_n 0, 1) := by decide +kernel
theorem dX5_init_1 : decode cX5_init 1 = .ok (.invokespecial 3, 3) := by decide +kernel
theorem dX5_init_4 : decode cX5_init 4 = .ok (.aload_n 0, 1) := by decide +kernel
theorem dX5_init_5 : decode cX5_init 5 = .ok (.iconst 4, 1) := by decide +kernel
theorem dX5_init_6 : decode cX5_init 6 = .ok (.newarray .int, 2) := by decide +kernel
theorem dX5_init_8 : decode cX5_init 8 = .ok (.putfield 9, 3) := by decide +kernel
theorem dX5_init_11 : decode cX5_init 11 = .ok (.aload_n 0, 1) := by decide +kernel
theorem dX5_init_12 : decode cX5_init 12 = .ok (.iconst 4, 1) := by decide +kernel
theorem dX5_init_13 : decode cX5_init 13 = .ok (.newarray .long, 2) := by decide +kernel
theorem dX5_init_15 : decode cX5_init 15 = .ok (.putfield 15, 3) := by decide +kernel
theorem dX5_init_18 : decode cX5_init 18 = .ok (.aload_n 0, 1) := by decide +kernel
theorem dX5_init_19 : decode cX5_init 19 = .ok (.bipush 16, 2) := by decide +kernel
theorem dX5_init_21 : decode cX5_init 21 = .ok (.newarray .long, 2) := by decide +kernel
theorem dX5_init_23 : decode cX5_init 23 = .ok (.putfield 19, 3) := by decide +kernel
theorem dX5_init_26 : decode cX5_init 26 = .ok (.aload_n 0, 1) := by decide +kernel
theorem dX5_init_27 : decode cX5_init 27 = .ok (.bipush 16, 2) := by decide +kernel
theorem dX5_init_29 : decode cX5_init 29 = .ok (.newarray .long, 2) := by decide +kernel
theorem dX5_init_31 : decode cX5_init 31 = .ok (.putfield 22, 3) := by decide +kernel
theorem dX5_init_34 : decode cX5_init 34 = .ok (.aload_n 0, 1) := by decide +kernel
theorem dX5_init_35 : decode cX5_init 35 = .ok (.bipush 16, 2) := by decide +kernel
theorem dX5_init_37 : decode cX5_init 37 = .ok (.newarray .long, 2) := by decide +kernel
theorem dX5_init_39 : decode cX5_init 39 = .ok (.putfield 25, 3) := by decide +kernel
theorem dX5_init_42 : decode cX5_init 42 = .ok (.aload_n 0, 1) := by decide +kernel
theorem dX5_init_43 : decode cX5_init 43 = .ok (.aload_n 1, 1) := by decide +kernel
theorem dX5_init_44 : decode cX5_init 44 = .ok (.putfield 28, 3) := by decide +kernel
theorem dX5_init_47 : decode cX5_init 47 = .ok (.aload_n 0, 1) := by decide +kernel
theorem dX5_init_48 : decode cX5_init 48 = .ok (.aload_n 2, 1) := by decide +kernel
theorem dX5_init_49 : decode cX5_init 49 = .ok (.putfield 32, 3) := by decide +kernel
theorem dX5_init_52 : decode cX5_init 52 = .ok (.aload_n 0, 1) := by decide +kernel
theorem dX5_init_53 : decode cX5_init 53 = .ok (.aload_n 3, 1) := by decide +kernel
theorem dX5_init_54 : decode cX5_init 54 = .ok (.putfield 36, 3) := by decide +kernel
theorem dX5_init_57 : decode cX5_init 57 = .ok (.aload_n 0, 1) := by decide +kernel
theorem dX5_init_58 : decode cX5_init 58 = .ok (.getfield 9, 3) := by decide +kernel
theorem dX5_init_61 : decode cX5_init 61 = .ok (.iconst (-1), 1) := by decide +kernel
theorem dX5_init_62 : decode cX5_init 62 = .ok (.invokestatic 40, 3) := by decide +kernel
theorem dX5_init_65 : decode cX5_init 65 = .ok (.aload_n 0, 1) := by decide +kernel
theorem dX5_init_66 : decode cX5_init 66 = .ok (.getfield 15, 3) := by decide +kernel
theorem dX5_init_69 : decode cX5_init 69 = .ok (.ldc2_w 46, 3) := by decide +kernel
theorem dX5_init_72 : decode cX5_init 72 = .ok (.invokestatic 48, 3) := by decide +kernel
theorem dX5_init_75 : decode cX5_init 75 = .ok (.return_, 1) := by decide +kernel
theorem dX5_clear_0 : decode cX5_clear 0 = .ok (.aload_n 0, 1) := by decide +kernel
theorem dX5_clear_1 : decode cX5_clear 1 = .ok (.getfield 9, 3) := by decide +kernel
theorem dX5_clear_4 : decode cX5_clear 4 = .ok (.iconst (-1), 1) := by decide +kernel
theorem dX5_clear_5 : decode cX5_clear 5 = .ok (.invokestatic 40, 3) := by decide +kernel
theorem dX5_clear_8 : decode cX5_clear 8 = .ok (.aload_n 0, 1) := by decide +kernel
theorem dX5_clear_9 : decode cX5_clear 9 = .ok (.getfield 15, 3) := by decide +kernel
theorem dX5_clear_12 : decode cX5_clear 12 = .ok (.ldc2_w 46, 3) := by decide +kernel
theorem dX5_clear_15 : decode cX5_clear 15 = .ok (.invokestatic 48, 3) := by decide +kernel
theorem dX5_clear_18 : decode cX5_clear 18 = .ok (.return_, 1) := by decide +kernel
theorem dX5_hasTugs_0 : decode cX5_hasTugs 0 = .ok (.iload_n 1, 1) := by decide +kernel
theorem dX5_hasTugs_1 : decode cX5_hasTugs 1 = .ok (.invokestatic 51, 3) := by decide +kernel
theorem dX5_hasTugs_4 : decode cX5_hasTugs 4 = .ok (.ifCond .eq 17, 3) := by decide +kernel
theorem dX5_hasTugs_7 : decode cX5_hasTugs 7 = .ok (.aload_n 0, 1) := by decide +kernel
theorem dX5_hasTugs_8 : decode cX5_hasTugs 8 = .ok (.getfield 9, 3) := by decide +kernel
theorem dX5_hasTugs_11 : decode cX5_hasTugs 11 = .ok (.iload_n 1, 1) := by decide +kernel
theorem dX5_hasTugs_12 : decode cX5_hasTugs 12 = .ok (.iaload, 1) := by decide +kernel
theorem dX5_hasTugs_13 : decode cX5_hasTugs 13 = .ok (.iconst (-1), 1) := by decide +kernel
theorem dX5_hasTugs_14 : decode cX5_hasTugs 14 = .ok (.if_icmp .eq 7, 3) := by decide +kernel
theorem dX5_hasTugs_17 : decode cX5_hasTugs 17 = .ok (.iconst 1, 1) := by decide +kernel
theorem dX5_hasTugs_18 : decode cX5_hasTugs 18 = .ok (.goto 4, 3) := by decide +kernel
theorem dX5_hasTugs_21 : decode cX5_hasTugs 21 = .ok (.iconst 0, 1) := by decide +kernel
theorem dX5_hasTugs_22 : decode cX5_hasTugs 22 = .ok (.ireturn, 1) := by decide +kernel
theorem dX5_hasThrows_0 : decode cX5_hasThrows 0 = .ok (.iload_n 1, 1) := by decide +kernel
theorem dX5_hasThrows_1 : decode cX5_hasThrows 1 = .ok (.invokestatic 51, 3) := by decide +kernel
theorem dX5_hasThrows_4 : decode cX5_hasThrows 4 = .ok (.ifCond .eq 20, 3) := by decide +kernel
theorem dX5_hasThrows_7 : decode cX5_hasThrows 7 = .ok (.aload_n 0, 1) := by decide +kernel
theorem dX5_hasThrows_8 : decode cX5_hasThrows 8 = .ok (.getfield 15, 3) := by decide +kernel
theorem dX5_hasThrows_11 : decode cX5_hasThrows 11 = .ok (.iload_n 1, 1) := by decide +kernel
theorem dX5_hasThrows_12 : decode cX5_hasThrows 12 = .ok (.laload, 1) := by decide +kernel
theorem dX5_hasThrows_13 : decode cX5_hasThrows 13 = .ok (.ldc2_w 46, 3) := by decide +kernel
theorem dX5_hasThrows_16 : decode cX5_hasThrows 16 = .ok (.lcmp, 1) := by decide +kernel
theorem dX5_hasThrows_17 : decode cX5_hasThrows 17 = .ok (.ifCond .eq 7, 3) := by decide +kernel
theorem dX5_hasThrows_20 : decode cX5_hasThrows 20 = .ok (.iconst 1, 1) := by decide +kernel
theorem dX5_hasThrows_21 : decode cX5_hasThrows 21 = .ok (.goto 4, 3) := by decide +kernel
theorem dX5_hasThrows_24 : decode cX5_hasThrows 24 = .ok (.iconst 0, 1) := by decide +kernel
theorem dX5_hasThrows_25 : decode cX5_hasThrows 25 = .ok (.ireturn, 1) := by decide +kernel
theorem dX5_isBoat_0 : decode cX5_isBoat 0 = .ok (.iload_n 1, 1) := by decide +kernel
theorem dX5_isBoat_1 : decode cX5_isBoat 1 = .ok (.ifCond .lt 29, 3) := by decide +kernel
theorem dX5_isBoat_4 : decode cX5_isBoat 4 = .ok (.aload_n 0, 1) := by decide +kernel
theorem dX5_isBoat_5 : decode cX5_isBoat 5 = .ok (.iload_n 1, 1) := by decide +kernel
theorem dX5_isBoat_6 : decode cX5_isBoat 6 = .ok (.bipush 10, 2) := by decide +kernel
theorem dX5_isBoat_8 : decode cX5_isBoat 8 = .ok (.idiv, 1) := by decide +kernel
theorem dX5_isBoat_9 : decode cX5_isBoat 9 = .ok (.invokevirtual 55, 3) := by decide +kernel
theorem dX5_isBoat_12 : decode cX5_isBoat 12 = .ok (.ifCond .eq 18, 3) := by decide +kernel
theorem dX5_isBoat_15 : decode cX5_isBoat 15 = .ok (.aload_n 0, 1) := by decide +kernel
theorem dX5_isBoat_16 : decode cX5_isBoat 16 = .ok (.iload_n 1, 1) := by decide +kernel
theorem dX5_isBoat_17 : decode cX5_isBoat 17 = .ok (.bipush 10, 2) := by decide +kernel
theorem dX5_isBoat_19 : decode cX5_isBoat 19 = .ok (.irem, 1) := by decide +kernel
theorem dX5_isBoat_20 : decode cX5_isBoat 20 = .ok (.invokevirtual 58, 3) := by decide +kernel
theorem dX5_isBoat_23 : decode cX5_isBoat 23 = .ok (.ifCond .eq 7, 3) := by decide +kernel
theorem dX5_isBoat_26 : decode cX5_isBoat 26 = .ok (.iconst 1, 1) := by decide +kernel
theorem dX5_isBoat_27 : decode cX5_isBoat 27 = .ok (.goto 4, 3) := by decide +kernel
theorem dX5_isBoat_30 : decode cX5_isBoat 30 = .ok (.iconst 0, 1) := by decide +kernel
theorem dX5_isBoat_31 : decode cX5_isBoat 31 = .ok (.ireturn, 1) := by decide +kernel
theorem dX5_reckonFits_0 : decode cX5_reckonFits 0 = .ok (.iconst 0, 1) := by decide +kernel
theorem dX5_reckonFits_1 : decode cX5_reckonFits 1 = .ok (.istore_n 1, 1) := by decide +kernel
theorem dX5_reckonFits_2 : decode cX5_reckonFits 2 = .ok (.iload_n 1, 1) := by decide +kernel
theorem dX5_reckonFits_3 : decode cX5_reckonFits 3 = .ok (.iconst 4, 1) := by decide +kernel
theorem dX5_reckonFits_4 : decode cX5_reckonFits 4 = .ok (.if_icmp .ge 83, 3) := by decide +kernel
theorem dX5_reckonFits_7 : decode cX5_reckonFits 7 = .ok (.iconst 0, 1) := by decide +kernel
theorem dX5_reckonFits_8 : decode cX5_reckonFits 8 = .ok (.istore_n 2, 1) := by decide +kernel
theorem dX5_reckonFits_9 : decode cX5_reckonFits 9 = .ok (.iload_n 2, 1) := by decide +kernel
theorem dX5_reckonFits_10 : decode cX5_reckonFits 10 = .ok (.iconst 4, 1) := by decide +kernel
theorem dX5_reckonFits_11 : decode cX5_reckonFits 11 = .ok (.if_icmp .ge 70, 3) := by decide +kernel
theorem dX5_reckonFits_14 : decode cX5_reckonFits 14 = .ok (.aload_n 0, 1) := by decide +kernel
theorem dX5_reckonFits_15 : decode cX5_reckonFits 15 = .ok (.iload_n 1, 1) := by decide +kernel
theorem dX5_reckonFits_16 : decode cX5_reckonFits 16 = .ok (.invokevirtual 55, 3) := by decide +kernel
theorem dX5_reckonFits_19 : decode cX5_reckonFits 19 = .ok (.ifCond .eq 15, 3) := by decide +kernel
theorem dX5_reckonFits_22 : decode cX5_reckonFits 22 = .ok (.aload_n 0, 1) := by decide +kernel
theorem dX5_reckonFits_23 : decode cX5_reckonFits 23 = .ok (.iload_n 2, 1) := by decide +kernel
theorem dX5_reckonFits_24 : decode cX5_reckonFits 24 = .ok (.invokevirtual 58, 3) := by decide +kernel
theorem dX5_reckonFits_27 : decode cX5_reckonFits 27 = .ok (.ifCond .eq 7, 3) := by decide +kernel
theorem dX5_reckonFits_30 : decode cX5_reckonFits 30 = .ok (.iconst 1, 1) := by decide +kernel
theorem dX5_reckonFits_31 : decode cX5_reckonFits 31 = .ok (.goto 4, 3) := by decide +kernel
theorem dX5_reckonFits_34 : decode cX5_reckonFits 34 = .ok (.iconst 0, 1) := by decide +kernel
theorem dX5_reckonFits_35 : decode cX5_reckonFits 35 = .ok (.istore_n 3, 1) := by decide +kernel
theorem dX5_reckonFits_36 : decode cX5_reckonFits 36 = .ok (.aload_n 0, 1) := by decide +kernel
theorem dX5_reckonFits_37 : decode cX5_reckonFits 37 = .ok (.getfield 19, 3) := by decide +kernel
theorem dX5_reckonFits_40 : decode cX5_reckonFits 40 = .ok (.iload_n 1, 1) := by decide +kernel
theorem dX5_reckonFits_41 : decode cX5_reckonFits 41 = .ok (.iconst 4, 1) := by decide +kernel
theorem dX5_reckonFits_42 : decode cX5_reckonFits 42 = .ok (.imul, 1) := by decide +kernel
theorem dX5_reckonFits_43 : decode cX5_reckonFits 43 = .ok (.iload_n 2, 1) := by decide +kernel
theorem dX5_reckonFits_44 : decode cX5_reckonFits 44 = .ok (.iadd, 1) := by decide +kernel
theorem dX5_reckonFits_45 : decode cX5_reckonFits 45 = .ok (.iload_n 3, 1) := by decide +kernel
theorem dX5_reckonFits_46 : decode cX5_reckonFits 46 = .ok (.ifCond .eq 25, 3) := by decide +kernel
theorem dX5_reckonFits_49 : decode cX5_reckonFits 49 = .ok (.aload_n 0, 1) := by decide +kernel
theorem dX5_reckonFits_50 : decode cX5_reckonFits 50 = .ok (.getfield 32, 3) := by decide +kernel
theorem dX5_reckonFits_53 : decode cX5_reckonFits 53 = .ok (.aload_n 0, 1) := by decide +kernel
theorem dX5_reckonFits_54 : decode cX5_reckonFits 54 = .ok (.getfield 9, 3) := by decide +kernel
theorem dX5_reckonFits_57 : decode cX5_reckonFits 57 = .ok (.iload_n 1, 1) := by decide +kernel
theorem dX5_reckonFits_58 : decode cX5_reckonFits 58 = .ok (.iaload, 1) := by decide +kernel
theorem dX5_reckonFits_59 : decode cX5_reckonFits 59 = .ok (.aload_n 0, 1) := by decide +kernel
theorem dX5_reckonFits_60 : decode cX5_reckonFits 60 = .ok (.getfield 15, 3) := by decide +kernel
theorem dX5_reckonFits_63 : decode cX5_reckonFits 63 = .ok (.iload_n 2, 1) := by decide +kernel
theorem dX5_reckonFits_64 : decode cX5_reckonFits 64 = .ok (.laload, 1) := by decide +kernel
theorem dX5_reckonFits_65 : decode cX5_reckonFits 65 = .ok (.invokevirtual 61, 3) := by decide +kernel
theorem dX5_reckonFits_68 : decode cX5_reckonFits 68 = .ok (.goto 6, 3) := by decide +kernel
theorem dX5_reckonFits_71 : decode cX5_reckonFits 71 = .ok (.ldc2_w 46, 3) := by decide +kernel
theorem dX5_reckonFits_74 : decode cX5_reckonFits 74 = .ok (.lastore, 1) := by decide +kernel
theorem dX5_reckonFits_75 : decode cX5_reckonFits 75 = .ok (.iinc 2 1, 3) := by decide +kernel
theorem dX5_reckonFits_78 : decode cX5_reckonFits 78 = .ok (.goto (-69), 3) := by decide +kernel
theorem dX5_reckonFits_81 : decode cX5_reckonFits 81 = .ok (.iinc 1 1, 3) := by decide +kernel
theorem dX5_reckonFits_84 : decode cX5_reckonFits 84 = .ok (.goto (-82), 3) := by decide +kernel
theorem dX5_reckonFits_87 : decode cX5_reckonFits 87 = .ok (.return_, 1) := by decide +kernel
theorem dX5_pairOf_0 : decode cX5_pairOf 0 = .ok (.iconst 0, 1) := by decide +kernel
theorem dX5_pairOf_1 : decode cX5_pairOf 1 = .ok (.istore_n 2, 1) := by decide +kernel
theorem dX5_pairOf_2 : decode cX5_pairOf 2 = .ok (.iload_n 2, 1) := by decide +kernel
theorem dX5_pairOf_3 : decode cX5_pairOf 3 = .ok (.iconst 4, 1) := by decide +kernel
theorem dX5_pairOf_4 : decode cX5_pairOf 4 = .ok (.if_icmp .ge 42, 3) := by decide +kernel
theorem dX5_pairOf_7 : decode cX5_pairOf 7 = .ok (.aload_n 0, 1) := by decide +kernel
theorem dX5_pairOf_8 : decode cX5_pairOf 8 = .ok (.invokevirtual 67, 3) := by decide +kernel
theorem dX5_pairOf_11 : decode cX5_pairOf 11 = .ok (.istore_n 3, 1) := by decide +kernel
theorem dX5_pairOf_12 : decode cX5_pairOf 12 = .ok (.iload_n 3, 1) := by decide +kernel
theorem dX5_pairOf_13 : decode cX5_pairOf 13 = .ok (.iconst (-1), 1) := by decide +kernel
theorem dX5_pairOf_14 : decode cX5_pairOf 14 = .ok (.if_icmp .ne 5, 3) := by decide +kernel
theorem dX5_pairOf_17 : decode cX5_pairOf 17 = .ok (.iconst (-1), 1) := by decide +kernel
theorem dX5_pairOf_18 : decode cX5_pairOf 18 = .ok (.ireturn, 1) := by decide +kernel
theorem dX5_pairOf_19 : decode cX5_pairOf 19 = .ok (.iload_n 3, 1) := by decide +kernel
theorem dX5_pairOf_20 : decode cX5_pairOf 20 = .ok (.iconst 4, 1) := by decide +kernel
theorem dX5_pairOf_21 : decode cX5_pairOf 21 = .ok (.idiv, 1) := by decide +kernel
theorem dX5_pairOf_22 : decode cX5_pairOf 22 = .ok (.iload_n 1, 1) := by decide +kernel
theorem dX5_pairOf_23 : decode cX5_pairOf 23 = .ok (.if_icmp .ne 7, 3) := by decide +kernel
theorem dX5_pairOf_26 : decode cX5_pairOf 26 = .ok (.iload_n 3, 1) := by decide +kernel
theorem dX5_pairOf_27 : decode cX5_pairOf 27 = .ok (.iconst 4, 1) := by decide +kernel
theorem dX5_pairOf_28 : decode cX5_pairOf 28 = .ok (.irem, 1) := by decide +kernel
theorem dX5_pairOf_29 : decode cX5_pairOf 29 = .ok (.ireturn, 1) := by decide +kernel
theorem dX5_pairOf_30 : decode cX5_pairOf 30 = .ok (.aload_n 0, 1) := by decide +kernel
theorem dX5_pairOf_31 : decode cX5_pairOf 31 = .ok (.iload_n 3, 1) := by decide +kernel
theorem dX5_pairOf_32 : decode cX5_pairOf 32 = .ok (.iconst 4, 1) := by decide +kernel
theorem dX5_pairOf_33 : decode cX5_pairOf 33 = .ok (.idiv, 1) := by decide +kernel
theorem dX5_pairOf_34 : decode cX5_pairOf 34 = .ok (.iload_n 3, 1) := by decide +kernel
theorem dX5_pairOf_35 : decode cX5_pairOf 35 = .ok (.iconst 4, 1) := by decide +kernel
theorem dX5_pairOf_36 : decode cX5_pairOf 36 = .ok (.irem, 1) := by decide +kernel
theorem dX5_pairOf_37 : decode cX5_pairOf 37 = .ok (.invokevirtual 71, 3) := by decide +kernel
theorem dX5_pairOf_40 : decode cX5_pairOf 40 = .ok (.iinc 2 1, 3) := by decide +kernel
theorem dX5_pairOf_43 : decode cX5_pairOf 43 = .ok (.goto (-41), 3) := by decide +kernel
theorem dX5_pairOf_46 : decode cX5_pairOf 46 = .ok (.iconst (-1), 1) := by decide +kernel
theorem dX5_pairOf_47 : decode cX5_pairOf 47 = .ok (.ireturn, 1) := by decide +kernel
theorem dX5_bestFit_0 : decode cX5_bestFit 0 = .ok (.iconst (-1), 1) := by decide +kernel
theorem dX5_bestFit_1 : decode cX5_bestFit 1 = .ok (.istore_n 1, 1) := by decide +kernel
theorem dX5_bestFit_2 : decode cX5_bestFit 2 = .ok (.ldc2_w 46, 3) := by decide +kernel
theorem dX5_bestFit_5 : decode cX5_bestFit 5 = .ok (.lstore_n 2, 1) := by decide +kernel
theorem dX5_bestFit_6 : decode cX5_bestFit 6 = .ok (.iconst 0, 1) := by decide +kernel
theorem dX5_bestFit_7 : decode cX5_bestFit 7 = .ok (.istore 4, 2) := by decide +kernel
theorem dX5_bestFit_9 : decode cX5_bestFit 9 = .ok (.iload 4, 2) := by decide +kernel
theorem dX5_bestFit_11 : decode cX5_bestFit 11 = .ok (.aload_n 0, 1) := by decide +kernel
theorem dX5_bestFit_12 : decode cX5_bestFit 12 = .ok (.getfield 19, 3) := by decide +kernel
theorem dX5_bestFit_15 : decode cX5_bestFit 15 = .ok (.arraylength, 1) := by decide +kernel
theorem dX5_bestFit_16 : decode cX5_bestFit 16 = .ok (.if_icmp .ge 32, 3) := by decide +kernel
theorem dX5_bestFit_19 : decode cX5_bestFit 19 = .ok (.aload_n 0, 1) := by decide +kernel
theorem dX5_bestFit_20 : decode cX5_bestFit 20 = .ok (.getfield 19, 3) := by decide +kernel
theorem dX5_bestFit_23 : decode cX5_bestFit 23 = .ok (.iload 4, 2) := by decide +kernel
theorem dX5_bestFit_25 : decode cX5_bestFit 25 = .ok (.laload, 1) := by decide +kernel
theorem dX5_bestFit_26 : decode cX5_bestFit 26 = .ok (.lload_n 2, 1) := by decide +kernel
theorem dX5_bestFit_27 : decode cX5_bestFit 27 = .ok (.lcmp, 1) := by decide +kernel
theorem dX5_bestFit_28 : decode cX5_bestFit 28 = .ok (.ifCond .le 14, 3) := by decide +kernel
theorem dX5_bestFit_31 : decode cX5_bestFit 31 = .ok (.aload_n 0, 1) := by decide +kernel
theorem dX5_bestFit_32 : decode cX5_bestFit 32 = .ok (.getfield 19, 3) := by decide +kernel
theorem dX5_bestFit_35 : decode cX5_bestFit 35 = .ok (.iload 4, 2) := by decide +kernel
theorem dX5_bestFit_37 : decode cX5_bestFit 37 = .ok (.laload, 1) := by decide +kernel
theorem dX5_bestFit_38 : decode cX5_bestFit 38 = .ok (.lstore_n 2, 1) := by decide +kernel
theorem dX5_bestFit_39 : decode cX5_bestFit 39 = .ok (.iload 4, 2) := by decide +kernel
theorem dX5_bestFit_41 : decode cX5_bestFit 41 = .ok (.istore_n 1, 1) := by decide +kernel
theorem dX5_bestFit_42 : decode cX5_bestFit 42 = .ok (.iinc 4 1, 3) := by decide +kernel
theorem dX5_bestFit_45 : decode cX5_bestFit 45 = .ok (.goto (-36), 3) := by decide +kernel
theorem dX5_bestFit_48 : decode cX5_bestFit 48 = .ok (.iload_n 1, 1) := by decide +kernel
theorem dX5_bestFit_49 : decode cX5_bestFit 49 = .ok (.ireturn, 1) := by decide +kernel
theorem dX5_strikeOut_0 : decode cX5_strikeOut 0 = .ok (.iconst 0, 1) := by decide +kernel
theorem dX5_strikeOut_1 : decode cX5_strikeOut 1 = .ok (.istore_n 3, 1) := by decide +kernel
theorem dX5_strikeOut_2 : decode cX5_strikeOut 2 = .ok (.iload_n 3, 1) := by decide +kernel
theorem dX5_strikeOut_3 : decode cX5_strikeOut 3 = .ok (.iconst 4, 1) := by decide +kernel
theorem dX5_strikeOut_4 : decode cX5_strikeOut 4 = .ok (.if_icmp .ge 35, 3) := by decide +kernel
theorem dX5_strikeOut_7 : decode cX5_strikeOut 7 = .ok (.aload_n 0, 1) := by decide +kernel
theorem dX5_strikeOut_8 : decode cX5_strikeOut 8 = .ok (.getfield 19, 3) := by decide +kernel
theorem dX5_strikeOut_11 : decode cX5_strikeOut 11 = .ok (.iload_n 1, 1) := by decide +kernel
theorem dX5_strikeOut_12 : decode cX5_strikeOut 12 = .ok (.iconst 4, 1) := by decide +kernel
theorem dX5_strikeOut_13 : decode cX5_strikeOut 13 = .ok (.imul, 1) := by decide +kernel
theorem dX5_strikeOut_14 : decode cX5_strikeOut 14 = .ok (.iload_n 3, 1) := by decide +kernel
theorem dX5_strikeOut_15 : decode cX5_strikeOut 15 = .ok (.iadd, 1) := by decide +kernel
theorem dX5_strikeOut_16 : decode cX5_strikeOut 16 = .ok (.ldc2_w 46, 3) := by decide +kernel
theorem dX5_strikeOut_19 : decode cX5_strikeOut 19 = .ok (.lastore, 1) := by decide +kernel
theorem dX5_strikeOut_20 : decode cX5_strikeOut 20 = .ok (.aload_n 0, 1) := by decide +kernel
theorem dX5_strikeOut_21 : decode cX5_strikeOut 21 = .ok (.getfield 19, 3) := by decide +kernel
theorem dX5_strikeOut_24 : decode cX5_strikeOut 24 = .ok (.iload_n 3, 1) := by decide +kernel
theorem dX5_strikeOut_25 : decode cX5_strikeOut 25 = .ok (.iconst 4, 1) := by decide +kernel
theorem dX5_strikeOut_26 : decode cX5_strikeOut 26 = .ok (.imul, 1) := by decide +kernel
theorem dX5_strikeOut_27 : decode cX5_strikeOut 27 = .ok (.iload_n 2, 1) := by decide +kernel
theorem dX5_strikeOut_28 : decode cX5_strikeOut 28 = .ok (.iadd, 1) := by decide +kernel
theorem dX5_strikeOut_29 : decode cX5_strikeOut 29 = .ok (.ldc2_w 46, 3) := by decide +kernel
theorem dX5_strikeOut_32 : decode cX5_strikeOut 32 = .ok (.lastore, 1) := by decide +kernel
theorem dX5_strikeOut_33 : decode cX5_strikeOut 33 = .ok (.iinc 3 1, 3) := by decide +kernel
theorem dX5_strikeOut_36 : decode cX5_strikeOut 36 = .ok (.goto (-34), 3) := by decide +kernel
theorem dX5_strikeOut_39 : decode cX5_strikeOut 39 = .ok (.return_, 1) := by decide +kernel
theorem dX5_isRow_0 : decode cX5_isRow 0 = .ok (.iload_n 1, 1) := by decide +kernel
theorem dX5_isRow_1 : decode cX5_isRow 1 = .ok (.iconst 0, 1) := by decide +kernel
theorem dX5_isRow_2 : decode cX5_isRow 2 = .ok (.sipush 9999, 3) := by decide +kernel
theorem dX5_isRow_5 : decode cX5_isRow 5 = .ok (.invokestatic 75, 3) := by decide +kernel
theorem dX5_isRow_8 : decode cX5_isRow 8 = .ok (.ifCond .ne 5, 3) := by decide +kernel
theorem dX5_isRow_11 : decode cX5_isRow 11 = .ok (.iconst 0, 1) := by decide +kernel
theorem dX5_isRow_12 : decode cX5_isRow 12 = .ok (.ireturn, 1) := by decide +kernel
theorem dX5_isRow_13 : decode cX5_isRow 13 = .ok (.iconst 0, 1) := by decide +kernel
theorem dX5_isRow_14 : decode cX5_isRow 14 = .ok (.istore_n 2, 1) := by decide +kernel
theorem dX5_isRow_15 : decode cX5_isRow 15 = .ok (.iconst 0, 1) := by decide +kernel
theorem dX5_isRow_16 : decode cX5_isRow 16 = .ok (.istore_n 3, 1) := by decide +kernel
theorem dX5_isRow_17 : decode cX5_isRow 17 = .ok (.iload_n 3, 1) := by decide +kernel
theorem dX5_isRow_18 : decode cX5_isRow 18 = .ok (.iconst 4, 1) := by decide +kernel
theorem dX5_isRow_19 : decode cX5_isRow 19 = .ok (.if_icmp .ge 58, 3) := by decide +kernel
theorem dX5_isRow_22 : decode cX5_isRow 22 = .ok (.iload_n 1, 1) := by decide +kernel
theorem dX5_isRow_23 : decode cX5_isRow 23 = .ok (.iload_n 3, 1) := by decide +kernel
theorem dX5_isRow_24 : decode cX5_isRow 24 = .ok (.invokestatic 79, 3) := by decide +kernel
theorem dX5_isRow_27 : decode cX5_isRow 27 = .ok (.istore 4, 2) := by decide +kernel
theorem dX5_isRow_29 : decode cX5_isRow 29 = .ok (.iload 4, 2) := by decide +kernel
theorem dX5_isRow_31 : decode cX5_isRow 31 = .ok (.bipush 9, 2) := by decide +kernel
theorem dX5_isRow_33 : decode cX5_isRow 33 = .ok (.if_icmp .eq 38, 3) := by decide +kernel
theorem dX5_isRow_36 : decode cX5_isRow 36 = .ok (.aload_n 0, 1) := by decide +kernel
theorem dX5_isRow_37 : decode cX5_isRow 37 = .ok (.iload_n 3, 1) := by decide +kernel
theorem dX5_isRow_38 : decode cX5_isRow 38 = .ok (.invokevirtual 55, 3) := by decide +kernel
theorem dX5_isRow_41 : decode cX5_isRow 41 = .ok (.ifCond .eq 21, 3) := by decide +kernel
theorem dX5_isRow_44 : decode cX5_isRow 44 = .ok (.aload_n 0, 1) := by decide +kernel
theorem dX5_isRow_45 : decode cX5_isRow 45 = .ok (.iload 4, 2) := by decide +kernel
theorem dX5_isRow_47 : decode cX5_isRow 47 = .ok (.invokevirtual 58, 3) := by decide +kernel
theorem dX5_isRow_50 : decode cX5_isRow 50 = .ok (.ifCond .eq 12, 3) := by decide +kernel
theorem dX5_isRow_53 : decode cX5_isRow 53 = .ok (.iload_n 2, 1) := by decide +kernel
theorem dX5_isRow_54 : decode cX5_isRow 54 = .ok (.iconst 1, 1) := by decide +kernel
theorem dX5_isRow_55 : decode cX5_isRow 55 = .ok (.iload 4, 2) := by decide +kernel
theorem dX5_isRow_57 : decode cX5_isRow 57 = .ok (.ishl, 1) := by decide +kernel
theorem dX5_isRow_58 : decode cX5_isRow 58 = .ok (.iand, 1) := by decide +kernel
theorem dX5_isRow_59 : decode cX5_isRow 59 = .ok (.ifCond .eq 5, 3) := by decide +kernel
theorem dX5_isRow_62 : decode cX5_isRow 62 = .ok (.iconst 0, 1) := by decide +kernel
theorem dX5_isRow_63 : decode cX5_isRow 63 = .ok (.ireturn, 1) := by decide +kernel
theorem dX5_isRow_64 : decode cX5_isRow 64 = .ok (.iload_n 2, 1) := by decide +kernel
theorem dX5_isRow_65 : decode cX5_isRow 65 = .ok (.iconst 1, 1) := by decide +kernel
theorem dX5_isRow_66 : decode cX5_isRow 66 = .ok (.iload 4, 2) := by decide +kernel
theorem dX5_isRow_68 : decode cX5_isRow 68 = .ok (.ishl, 1) := by decide +kernel
theorem dX5_isRow_69 : decode cX5_isRow 69 = .ok (.ior, 1) := by decide +kernel
theorem dX5_isRow_70 : decode cX5_isRow 70 = .ok (.istore_n 2, 1) := by decide +kernel
theorem dX5_isRow_71 : decode cX5_isRow 71 = .ok (.iinc 3 1, 3) := by decide +kernel
theorem dX5_isRow_74 : decode cX5_isRow 74 = .ok (.goto (-57), 3) := by decide +kernel
theorem dX5_isRow_77 : decode cX5_isRow 77 = .ok (.iconst 1, 1) := by decide +kernel
theorem dX5_isRow_78 : decode cX5_isRow 78 = .ok (.ireturn, 1) := by decide +kernel
theorem dX5_listLeavers_0 : decode cX5_listLeavers 0 = .ok (.aload_n 0, 1) := by decide +kernel
theorem dX5_listLeavers_1 : decode cX5_listLeavers 1 = .ok (.getfield 36, 3) := by decide +kernel
theorem dX5_listLeavers_4 : decode cX5_listLeavers 4 = .ok (.iload_n 2, 1) := by decide +kernel
theorem dX5_listLeavers_5 : decode cX5_listLeavers 5 = .ok (.invokevirtual 83, 3) := by decide +kernel
theorem dX5_listLeavers_8 : decode cX5_listLeavers 8 = .ok (.iconst 0, 1) := by decide +kernel
theorem dX5_listLeavers_9 : decode cX5_listLeavers 9 = .ok (.istore_n 3, 1) := by decide +kernel
theorem dX5_listLeavers_10 : decode cX5_listLeavers 10 = .ok (.iload_n 3, 1) := by decide +kernel
theorem dX5_listLeavers_11 : decode cX5_listLeavers 11 = .ok (.iconst 4, 1) := by decide +kernel
theorem dX5_listLeavers_12 : decode cX5_listLeavers 12 = .ok (.if_icmp .ge 76, 3) := by decide +kernel
theorem dX5_listLeavers_15 : decode cX5_listLeavers 15 = .ok (.iconst 0, 1) := by decide +kernel
theorem dX5_listLeavers_16 : decode cX5_listLeavers 16 = .ok (.istore 4, 2) := by decide +kernel
theorem dX5_listLeavers_18 : decode cX5_listLeavers 18 = .ok (.iload 4, 2) := by decide +kernel
theorem dX5_listLeavers_20 : decode cX5_listLeavers 20 = .ok (.iconst 4, 1) := by decide +kernel
theorem dX5_listLeavers_21 : decode cX5_listLeavers 21 = .ok (.if_icmp .ge 61, 3) := by decide +kernel
theorem dX5_listLeavers_24 : decode cX5_listLeavers 24 = .ok (.aload_n 0, 1) := by decide +kernel
theorem dX5_listLeavers_25 : decode cX5_listLeavers 25 = .ok (.getfield 19, 3) := by decide +kernel
theorem dX5_listLeavers_28 : decode cX5_listLeavers 28 = .ok (.iload_n 3, 1) := by decide +kernel
theorem dX5_listLeavers_29 : decode cX5_listLeavers 29 = .ok (.iconst 4, 1) := by decide +kernel
theorem dX5_listLeavers_30 : decode cX5_listLeavers 30 = .ok (.imul, 1) := by decide +kernel
theorem dX5_listLeavers_31 : decode cX5_listLeavers 31 = .ok (.iload 4, 2) := by decide +kernel
theorem dX5_listLeavers_33 : decode cX5_listLeavers 33 = .ok (.iadd, 1) := by decide +kernel
theorem dX5_listLeavers_34 : decode cX5_listLeavers 34 = .ok (.laload, 1) := by decide +kernel
theorem dX5_listLeavers_35 : decode cX5_listLeavers 35 = .ok (.lstore 5, 2) := by decide +kernel
theorem dX5_listLeavers_37 : decode cX5_listLeavers 37 = .ok (.lload 5, 2) := by decide +kernel
theorem dX5_listLeavers_39 : decode cX5_listLeavers 39 = .ok (.aload_n 0, 1) := by decide +kernel
theorem dX5_listLeavers_40 : decode cX5_listLeavers 40 = .ok (.iload_n 1, 1) := by decide +kernel
theorem dX5_listLeavers_41 : decode cX5_listLeavers 41 = .ok (.iload_n 3, 1) := by decide +kernel
theorem dX5_listLeavers_42 : decode cX5_listLeavers 42 = .ok (.invokevirtual 89, 3) := by decide +kernel
theorem dX5_listLeavers_45 : decode cX5_listLeavers 45 = .ok (.lcmp, 1) := by decide +kernel
theorem dX5_listLeavers_46 : decode cX5_listLeavers 46 = .ok (.ifCond .le 30, 3) := by decide +kernel
theorem dX5_listLeavers_49 : decode cX5_listLeavers 49 = .ok (.lload 5, 2) := by decide +kernel
theorem dX5_listLeavers_51 : decode cX5_listLeavers 51 = .ok (.aload_n 0, 1) := by decide +kernel
theorem dX5_listLeavers_52 : decode cX5_listLeavers 52 = .ok (.iload_n 1, 1) := by decide +kernel
theorem dX5_listLeavers_53 : decode cX5_listLeavers 53 = .ok (.iload 4, 2) := by decide +kernel
theorem dX5_listLeavers_55 : decode cX5_listLeavers 55 = .ok (.invokevirtual 93, 3) := by decide +kernel
theorem dX5_listLeavers_58 : decode cX5_listLeavers 58 = .ok (.lcmp, 1) := by decide +kernel
theorem dX5_listLeavers_59 : decode cX5_listLeavers 59 = .ok (.ifCond .le 17, 3) := by decide +kernel
theorem dX5_listLeavers_62 : decode cX5_listLeavers 62 = .ok (.aload_n 0, 1) := by decide +kernel
theorem dX5_listLeavers_63 : decode cX5_listLeavers 63 = .ok (.getfield 36, 3) := by decide +kernel
theorem dX5_listLeavers_66 : decode cX5_listLeavers 66 = .ok (.bipush 10, 2) := by decide +kernel
theorem dX5_listLeavers_68 : decode cX5_listLeavers 68 = .ok (.iload_n 3, 1) := by decide +kernel
theorem dX5_listLeavers_69 : decode cX5_listLeavers 69 = .ok (.imul, 1) := by decide +kernel
theorem dX5_listLeavers_70 : decode cX5_listLeavers 70 = .ok (.iload 4, 2) := by decide +kernel
theorem dX5_listLeavers_72 : decode cX5_listLeavers 72 = .ok (.iadd, 1) := by decide +kernel
theorem dX5_listLeavers_73 : decode cX5_listLeavers 73 = .ok (.invokevirtual 96, 3) := by decide +kernel
theorem dX5_listLeavers_76 : decode cX5_listLeavers 76 = .ok (.iinc 4 1, 3) := by decide +kernel
theorem dX5_listLeavers_79 : decode cX5_listLeavers 79 = .ok (.goto (-61), 3) := by decide +kernel
theorem dX5_listLeavers_82 : decode cX5_listLeavers 82 = .ok (.iinc 3 1, 3) := by decide +kernel
theorem dX5_listLeavers_85 : decode cX5_listLeavers 85 = .ok (.goto (-75), 3) := by decide +kernel
theorem dX5_listLeavers_88 : decode cX5_listLeavers 88 = .ok (.aload_n 0, 1) := by decide +kernel
theorem dX5_listLeavers_89 : decode cX5_listLeavers 89 = .ok (.getfield 36, 3) := by decide +kernel
theorem dX5_listLeavers_92 : decode cX5_listLeavers 92 = .ok (.invokevirtual 99, 3) := by decide +kernel
theorem dX5_listLeavers_95 : decode cX5_listLeavers 95 = .ok (.ireturn, 1) := by decide +kernel
theorem dX5_tugsFitNow_0 : decode cX5_tugsFitNow 0 = .ok (.iload_n 1, 1) := by decide +kernel
theorem dX5_tugsFitNow_1 : decode cX5_tugsFitNow 1 = .ok (.iload_n 2, 1) := by decide +kernel
theorem dX5_tugsFitNow_2 : decode cX5_tugsFitNow 2 = .ok (.invokestatic 79, 3) := by decide +kernel
theorem dX5_tugsFitNow_5 : decode cX5_tugsFitNow 5 = .ok (.istore_n 3, 1) := by decide +kernel
theorem dX5_tugsFitNow_6 : decode cX5_tugsFitNow 6 = .ok (.iload_n 3, 1) := by decide +kernel
theorem dX5_tugsFitNow_7 : decode cX5_tugsFitNow 7 = .ok (.invokestatic 51, 3) := by decide +kernel
theorem dX5_tugsFitNow_10 : decode cX5_tugsFitNow 10 = .ok (.ifCond .eq 16, 3) := by decide +kernel
theorem dX5_tugsFitNow_13 : decode cX5_tugsFitNow 13 = .ok (.aload_n 0, 1) := by decide +kernel
theorem dX5_tugsFitNow_14 : decode cX5_tugsFitNow 14 = .ok (.getfield 19, 3) := by decide +kernel
theorem dX5_tugsFitNow_17 : decode cX5_tugsFitNow 17 = .ok (.iload_n 2, 1) := by decide +kernel
theorem dX5_tugsFitNow_18 : decode cX5_tugsFitNow 18 = .ok (.iconst 4, 1) := by decide +kernel
theorem dX5_tugsFitNow_19 : decode cX5_tugsFitNow 19 = .ok (.imul, 1) := by decide +kernel
theorem dX5_tugsFitNow_20 : decode cX5_tugsFitNow 20 = .ok (.iload_n 3, 1) := by decide +kernel
theorem dX5_tugsFitNow_21 : decode cX5_tugsFitNow 21 = .ok (.iadd, 1) := by decide +kernel
theorem dX5_tugsFitNow_22 : decode cX5_tugsFitNow 22 = .ok (.laload, 1) := by decide +kernel
theorem dX5_tugsFitNow_23 : decode cX5_tugsFitNow 23 = .ok (.goto 6, 3) := by decide +kernel
theorem dX5_tugsFitNow_26 : decode cX5_tugsFitNow 26 = .ok (.ldc2_w 46, 3) := by decide +kernel
theorem dX5_tugsFitNow_29 : decode cX5_tugsFitNow 29 = .ok (.lreturn, 1) := by decide +kernel
theorem dX5_throwsFitNow_0 : decode cX5_throwsFitNow 0 = .ok (.iconst 0, 1) := by decide +kernel
theorem dX5_throwsFitNow_1 : decode cX5_throwsFitNow 1 = .ok (.istore_n 3, 1) := by decide +kernel
theorem dX5_throwsFitNow_2 : decode cX5_throwsFitNow 2 = .ok (.iload_n 3, 1) := by decide +kernel
theorem dX5_throwsFitNow_3 : decode cX5_throwsFitNow 3 = .ok (.iconst 4, 1) := by decide +kernel
theorem dX5_throwsFitNow_4 : decode cX5_throwsFitNow 4 = .ok (.if_icmp .ge 29, 3) := by decide +kernel
theorem dX5_throwsFitNow_7 : decode cX5_throwsFitNow 7 = .ok (.iload_n 1, 1) := by decide +kernel
theorem dX5_throwsFitNow_8 : decode cX5_throwsFitNow 8 = .ok (.iload_n 3, 1) := by decide +kernel
theorem dX5_throwsFitNow_9 : decode cX5_throwsFitNow 9 = .ok (.invokestatic 79, 3) := by decide +kernel
theorem dX5_throwsFitNow_12 : decode cX5_throwsFitNow 12 = .ok (.iload_n 2, 1) := by decide +kernel
theorem dX5_throwsFitNow_13 : decode cX5_throwsFitNow 13 = .ok (.if_icmp .ne 14, 3) := by decide +kernel
theorem dX5_throwsFitNow_16 : decode cX5_throwsFitNow 16 = .ok (.aload_n 0, 1) := by decide +kernel
theorem dX5_throwsFitNow_17 : decode cX5_throwsFitNow 17 = .ok (.getfield 19, 3) := by decide +kernel
theorem dX5_throwsFitNow_20 : decode cX5_throwsFitNow 20 = .ok (.iload_n 3, 1) := by decide +kernel
theorem dX5_throwsFitNow_21 : decode cX5_throwsFitNow 21 = .ok (.iconst 4, 1) := by decide +kernel
theorem dX5_throwsFitNow_22 : decode cX5_throwsFitNow 22 = .ok (.imul, 1) := by decide +kernel
theorem dX5_throwsFitNow_23 : decode cX5_throwsFitNow 23 = .ok (.iload_n 2, 1) := by decide +kernel
theorem dX5_throwsFitNow_24 : decode cX5_throwsFitNow 24 = .ok (.iadd, 1) := by decide +kernel
theorem dX5_throwsFitNow_25 : decode cX5_throwsFitNow 25 = .ok (.laload, 1) := by decide +kernel
theorem dX5_throwsFitNow_26 : decode cX5_throwsFitNow 26 = .ok (.lreturn, 1) := by decide +kernel
theorem dX5_throwsFitNow_27 : decode cX5_throwsFitNow 27 = .ok (.iinc 3 1, 3) := by decide +kernel
theorem dX5_throwsFitNow_30 : decode cX5_throwsFitNow 30 = .ok (.goto (-28), 3) := by decide +kernel
theorem dX5_throwsFitNow_33 : decode cX5_throwsFitNow 33 = .ok (.ldc2_w 46, 3) := by decide +kernel
theorem dX5_throwsFitNow_36 : decode cX5_throwsFitNow 36 = .ok (.lreturn, 1) := by decide +kernel
theorem dX5_gainOf_0 : decode cX5_gainOf 0 = .ok (.aload_n 0, 1) := by decide +kernel
theorem dX5_gainOf_1 : decode cX5_gainOf 1 = .ok (.iload_n 1, 1) := by decide +kernel
theorem dX5_gainOf_2 : decode cX5_gainOf 2 = .ok (.invokevirtual 102, 3) := by decide +kernel
theorem dX5_gainOf_5 : decode cX5_gainOf 5 = .ok (.ifCond .eq 11, 3) := by decide +kernel
theorem dX5_gainOf_8 : decode cX5_gainOf 8 = .ok (.aload_n 0, 1) := by decide +kernel
theorem dX5_gainOf_9 : decode cX5_gainOf 9 = .ok (.iload_n 2, 1) := by decide +kernel
theorem dX5_gainOf_10 : decode cX5_gainOf 10 = .ok (.invokevirtual 102, 3) := by decide +kernel
theorem dX5_gainOf_13 : decode cX5_gainOf 13 = .ok (.ifCond .ne 7, 3) := by decide +kernel
theorem dX5_gainOf_16 : decode cX5_gainOf 16 = .ok (.ldc2_w 46, 3) := by decide +kernel
theorem dX5_gainOf_19 : decode cX5_gainOf 19 = .ok (.lreturn, 1) := by decide +kernel
theorem dX5_gainOf_20 : decode cX5_gainOf 20 = .ok (.lconst 0, 1) := by decide +kernel
theorem dX5_gainOf_21 : decode cX5_gainOf 21 = .ok (.lstore_n 3, 1) := by decide +kernel
theorem dX5_gainOf_22 : decode cX5_gainOf 22 = .ok (.iconst 0, 1) := by decide +kernel
theorem dX5_gainOf_23 : decode cX5_gainOf 23 = .ok (.istore 5, 2) := by decide +kernel
theorem dX5_gainOf_25 : decode cX5_gainOf 25 = .ok (.iload 5, 2) := by decide +kernel
theorem dX5_gainOf_27 : decode cX5_gainOf 27 = .ok (.aload_n 0, 1) := by decide +kernel
theorem dX5_gainOf_28 : decode cX5_gainOf 28 = .ok (.getfield 28, 3) := by decide +kernel
theorem dX5_gainOf_31 : decode cX5_gainOf 31 = .ok (.getfield 105, 3) := by decide +kernel
theorem dX5_gainOf_34 : decode cX5_gainOf 34 = .ok (.if_icmp .ge 125, 3) := by decide +kernel
theorem dX5_gainOf_37 : decode cX5_gainOf 37 = .ok (.aload_n 0, 1) := by decide +kernel
theorem dX5_gainOf_38 : decode cX5_gainOf 38 = .ok (.getfield 32, 3) := by decide +kernel
theorem dX5_gainOf_41 : decode cX5_gainOf 41 = .ok (.iload 5, 2) := by decide +kernel
theorem dX5_gainOf_43 : decode cX5_gainOf 43 = .ok (.aload_n 0, 1) := by decide +kernel
theorem dX5_gainOf_44 : decode cX5_gainOf 44 = .ok (.getfield 9, 3) := by decide +kernel
theorem dX5_gainOf_47 : decode cX5_gainOf 47 = .ok (.iload_n 1, 1) := by decide +kernel
theorem dX5_gainOf_48 : decode cX5_gainOf 48 = .ok (.bipush 10, 2) := by decide +kernel
theorem dX5_gainOf_50 : decode cX5_gainOf 50 = .ok (.idiv, 1) := by decide +kernel
theorem dX5_gainOf_51 : decode cX5_gainOf 51 = .ok (.iaload, 1) := by decide +kernel
theorem dX5_gainOf_52 : decode cX5_gainOf 52 = .ok (.aload_n 0, 1) := by decide +kernel
theorem dX5_gainOf_53 : decode cX5_gainOf 53 = .ok (.getfield 15, 3) := by decide +kernel
theorem dX5_gainOf_56 : decode cX5_gainOf 56 = .ok (.iload_n 1, 1) := by decide +kernel
theorem dX5_gainOf_57 : decode cX5_gainOf 57 = .ok (.bipush 10, 2) := by decide +kernel
theorem dX5_gainOf_59 : decode cX5_gainOf 59 = .ok (.irem, 1) := by decide +kernel
theorem dX5_gainOf_60 : decode cX5_gainOf 60 = .ok (.laload, 1) := by decide +kernel
theorem dX5_gainOf_61 : decode cX5_gainOf 61 = .ok (.invokevirtual 111, 3) := by decide +kernel
theorem dX5_gainOf_64 : decode cX5_gainOf 64 = .ok (.i2l, 1) := by decide +kernel
theorem dX5_gainOf_65 : decode cX5_gainOf 65 = .ok (.lstore 6, 2) := by decide +kernel
theorem dX5_gainOf_67 : decode cX5_gainOf 67 = .ok (.aload_n 0, 1) := by decide +kernel
theorem dX5_gainOf_68 : decode cX5_gainOf 68 = .ok (.getfield 32, 3) := by decide +kernel
theorem dX5_gainOf_71 : decode cX5_gainOf 71 = .ok (.iload 5, 2) := by decide +kernel
theorem dX5_gainOf_73 : decode cX5_gainOf 73 = .ok (.aload_n 0, 1) := by decide +kernel
theorem dX5_gainOf_74 : decode cX5_gainOf 74 = .ok (.getfield 9, 3) := by decide +kernel
theorem dX5_gainOf_77 : decode cX5_gainOf 77 = .ok (.iload_n 2, 1) := by decide +kernel
theorem dX5_gainOf_78 : decode cX5_gainOf 78 = .ok (.bipush 10, 2) := by decide +kernel
theorem dX5_gainOf_80 : decode cX5_gainOf 80 = .ok (.idiv, 1) := by decide +kernel
theorem dX5_gainOf_81 : decode cX5_gainOf 81 = .ok (.iaload, 1) := by decide +kernel
theorem dX5_gainOf_82 : decode cX5_gainOf 82 = .ok (.aload_n 0, 1) := by decide +kernel
theorem dX5_gainOf_83 : decode cX5_gainOf 83 = .ok (.getfield 15, 3) := by decide +kernel
theorem dX5_gainOf_86 : decode cX5_gainOf 86 = .ok (.iload_n 2, 1) := by decide +kernel
theorem dX5_gainOf_87 : decode cX5_gainOf 87 = .ok (.bipush 10, 2) := by decide +kernel
theorem dX5_gainOf_89 : decode cX5_gainOf 89 = .ok (.irem, 1) := by decide +kernel
theorem dX5_gainOf_90 : decode cX5_gainOf 90 = .ok (.laload, 1) := by decide +kernel
theorem dX5_gainOf_91 : decode cX5_gainOf 91 = .ok (.invokevirtual 111, 3) := by decide +kernel
theorem dX5_gainOf_94 : decode cX5_gainOf 94 = .ok (.i2l, 1) := by decide +kernel
theorem dX5_gainOf_95 : decode cX5_gainOf 95 = .ok (.lstore 8, 2) := by decide +kernel
theorem dX5_gainOf_97 : decode cX5_gainOf 97 = .ok (.aload_n 0, 1) := by decide +kernel
theorem dX5_gainOf_98 : decode cX5_gainOf 98 = .ok (.getfield 28, 3) := by decide +kernel
theorem dX5_gainOf_101 : decode cX5_gainOf 101 = .ok (.iload 5, 2) := by decide +kernel
theorem dX5_gainOf_103 : decode cX5_gainOf 103 = .ok (.invokevirtual 115, 3) := by decide +kernel
theorem dX5_gainOf_106 : decode cX5_gainOf 106 = .ok (.i2l, 1) := by decide +kernel
theorem dX5_gainOf_107 : decode cX5_gainOf 107 = .ok (.lstore 10, 2) := by decide +kernel
theorem dX5_gainOf_109 : decode cX5_gainOf 109 = .ok (.lload 6, 2) := by decide +kernel
theorem dX5_gainOf_111 : decode cX5_gainOf 111 = .ok (.lload 8, 2) := by decide +kernel
theorem dX5_gainOf_113 : decode cX5_gainOf 113 = .ok (.lmul, 1) := by decide +kernel
theorem dX5_gainOf_114 : decode cX5_gainOf 114 = .ok (.lload 10, 2) := by decide +kernel
theorem dX5_gainOf_116 : decode cX5_gainOf 116 = .ok (.ldc2_w 119, 3) := by decide +kernel
theorem dX5_gainOf_119 : decode cX5_gainOf 119 = .ok (.ldiv, 1) := by decide +kernel
theorem dX5_gainOf_120 : decode cX5_gainOf 120 = .ok (.lmul, 1) := by decide +kernel
theorem dX5_gainOf_121 : decode cX5_gainOf 121 = .ok (.lload 6, 2) := by decide +kernel
theorem dX5_gainOf_123 : decode cX5_gainOf 123 = .ok (.ldc2_w 121, 3) := by decide +kernel
theorem dX5_gainOf_126 : decode cX5_gainOf 126 = .ok (.lload 8, 2) := by decide +kernel
theorem dX5_gainOf_128 : decode cX5_gainOf 128 = .ok (.lsub, 1) := by decide +kernel
theorem dX5_gainOf_129 : decode cX5_gainOf 129 = .ok (.lmul, 1) := by decide +kernel
theorem dX5_gainOf_130 : decode cX5_gainOf 130 = .ok (.lload 10, 2) := by decide +kernel
theorem dX5_gainOf_132 : decode cX5_gainOf 132 = .ok (.lmul, 1) := by decide +kernel
theorem dX5_gainOf_133 : decode cX5_gainOf 133 = .ok (.ladd, 1) := by decide +kernel
theorem dX5_gainOf_134 : decode cX5_gainOf 134 = .ok (.lstore 12, 2) := by decide +kernel
theorem dX5_gainOf_136 : decode cX5_gainOf 136 = .ok (.lload_n 3, 1) := by decide +kernel
theorem dX5_gainOf_137 : decode cX5_gainOf 137 = .ok (.lload 12, 2) := by decide +kernel
theorem dX5_gainOf_139 : decode cX5_gainOf 139 = .ok (.aload_n 0, 1) := by decide +kernel
theorem dX5_gainOf_140 : decode cX5_gainOf 140 = .ok (.getfield 28, 3) := by decide +kernel
theorem dX5_gainOf_143 : decode cX5_gainOf 143 = .ok (.iload 5, 2) := by decide +kernel
theorem dX5_gainOf_145 : decode cX5_gainOf 145 = .ok (.iconst 0, 1) := by decide +kernel
theorem dX5_gainOf_146 : decode cX5_gainOf 146 = .ok (.invokevirtual 123, 3) := by decide +kernel
theorem dX5_gainOf_149 : decode cX5_gainOf 149 = .ok (.i2l, 1) := by decide +kernel
theorem dX5_gainOf_150 : decode cX5_gainOf 150 = .ok (.lmul, 1) := by decide +kernel
theorem dX5_gainOf_151 : decode cX5_gainOf 151 = .ok (.ladd, 1) := by decide +kernel
theorem dX5_gainOf_152 : decode cX5_gainOf 152 = .ok (.lstore_n 3, 1) := by decide +kernel
theorem dX5_gainOf_153 : decode cX5_gainOf 153 = .ok (.iinc 5 1, 3) := by decide +kernel
theorem dX5_gainOf_156 : decode cX5_gainOf 156 = .ok (.goto (-131), 3) := by decide +kernel
theorem dX5_gainOf_159 : decode cX5_gainOf 159 = .ok (.lload_n 3, 1) := by decide +kernel
theorem dX5_gainOf_160 : decode cX5_gainOf 160 = .ok (.lreturn, 1) := by decide +kernel
theorem dX5_listRests_0 : decode cX5_listRests 0 = .ok (.aload_n 0, 1) := by decide +kernel
theorem dX5_listRests_1 : decode cX5_listRests 1 = .ok (.getfield 36, 3) := by decide +kernel
theorem dX5_listRests_4 : decode cX5_listRests 4 = .ok (.iload_n 1, 1) := by decide +kernel
theorem dX5_listRests_5 : decode cX5_listRests 5 = .ok (.invokevirtual 83, 3) := by decide +kernel
theorem dX5_listRests_8 : decode cX5_listRests 8 = .ok (.iconst 0, 1) := by decide +kernel
theorem dX5_listRests_9 : decode cX5_listRests 9 = .ok (.istore_n 2, 1) := by decide +kernel
theorem dX5_listRests_10 : decode cX5_listRests 10 = .ok (.iload_n 2, 1) := by decide +kernel
theorem dX5_listRests_11 : decode cX5_listRests 11 = .ok (.iconst 4, 1) := by decide +kernel
theorem dX5_listRests_12 : decode cX5_listRests 12 = .ok (.if_icmp .ge 60, 3) := by decide +kernel
theorem dX5_listRests_15 : decode cX5_listRests 15 = .ok (.iconst 0, 1) := by decide +kernel
theorem dX5_listRests_16 : decode cX5_listRests 16 = .ok (.istore_n 3, 1) := by decide +kernel
theorem dX5_listRests_17 : decode cX5_listRests 17 = .ok (.iload_n 3, 1) := by decide +kernel
theorem dX5_listRests_18 : decode cX5_listRests 18 = .ok (.iconst 4, 1) := by decide +kernel
theorem dX5_listRests_19 : decode cX5_listRests 19 = .ok (.if_icmp .ge 47, 3) := by decide +kernel
theorem dX5_listRests_22 : decode cX5_listRests 22 = .ok (.aload_n 0, 1) := by decide +kernel
theorem dX5_listRests_23 : decode cX5_listRests 23 = .ok (.iload_n 2, 1) := by decide +kernel
theorem dX5_listRests_24 : decode cX5_listRests 24 = .ok (.invokevirtual 58, 3) := by decide +kernel
theorem dX5_listRests_27 : decode cX5_listRests 27 = .ok (.ifCond .eq 33, 3) := by decide +kernel
theorem dX5_listRests_30 : decode cX5_listRests 30 = .ok (.aload_n 0, 1) := by decide +kernel
theorem dX5_listRests_31 : decode cX5_listRests 31 = .ok (.iload_n 3, 1) := by decide +kernel
theorem dX5_listRests_32 : decode cX5_listRests 32 = .ok (.invokevirtual 58, 3) := by decide +kernel
theorem dX5_listRests_35 : decode cX5_listRests 35 = .ok (.ifCond .eq 25, 3) := by decide +kernel
theorem dX5_listRests_38 : decode cX5_listRests 38 = .ok (.aload_n 0, 1) := by decide +kernel
theorem dX5_listRests_39 : decode cX5_listRests 39 = .ok (.iload_n 2, 1) := by decide +kernel
theorem dX5_listRests_40 : decode cX5_listRests 40 = .ok (.iload_n 3, 1) := by decide +kernel
theorem dX5_listRests_41 : decode cX5_listRests 41 = .ok (.invokevirtual 125, 3) := by decide +kernel
theorem dX5_listRests_44 : decode cX5_listRests 44 = .ok (.ifCond .eq 16, 3) := by decide +kernel
theorem dX5_listRests_47 : decode cX5_listRests 47 = .ok (.aload_n 0, 1) := by decide +kernel
theorem dX5_listRests_48 : decode cX5_listRests 48 = .ok (.getfield 36, 3) := by decide +kernel
theorem dX5_listRests_51 : decode cX5_listRests 51 = .ok (.bipush 10, 2) := by decide +kernel
theorem dX5_listRests_53 : decode cX5_listRests 53 = .ok (.iload_n 2, 1) := by decide +kernel
theorem dX5_listRests_54 : decode cX5_listRests 54 = .ok (.imul, 1) := by decide +kernel
theorem dX5_listRests_55 : decode cX5_listRests 55 = .ok (.iload_n 3, 1) := by decide +kernel
theorem dX5_listRests_56 : decode cX5_listRests 56 = .ok (.iadd, 1) := by decide +kernel
theorem dX5_listRests_57 : decode cX5_listRests 57 = .ok (.invokevirtual 96, 3) := by decide +kernel
theorem dX5_listRests_60 : decode cX5_listRests 60 = .ok (.iinc 3 1, 3) := by decide +kernel
theorem dX5_listRests_63 : decode cX5_listRests 63 = .ok (.goto (-46), 3) := by decide +kernel
theorem dX5_listRests_66 : decode cX5_listRests 66 = .ok (.iinc 2 1, 3) := by decide +kernel
theorem dX5_listRests_69 : decode cX5_listRests 69 = .ok (.goto (-59), 3) := by decide +kernel
theorem dX5_listRests_72 : decode cX5_listRests 72 = .ok (.aload_n 0, 1) := by decide +kernel
theorem dX5_listRests_73 : decode cX5_listRests 73 = .ok (.getfield 36, 3) := by decide +kernel
theorem dX5_listRests_76 : decode cX5_listRests 76 = .ok (.invokevirtual 99, 3) := by decide +kernel
theorem dX5_listRests_79 : decode cX5_listRests 79 = .ok (.ireturn, 1) := by decide +kernel
theorem dX5_reckonGains_0 : decode cX5_reckonGains 0 = .ok (.iconst 0, 1) := by decide +kernel
theorem dX5_reckonGains_1 : decode cX5_reckonGains 1 = .ok (.istore_n 3, 1) := by decide +kernel
theorem dX5_reckonGains_2 : decode cX5_reckonGains 2 = .ok (.iload_n 3, 1) := by decide +kernel
theorem dX5_reckonGains_3 : decode cX5_reckonGains 3 = .ok (.iconst 4, 1) := by decide +kernel
theorem dX5_reckonGains_4 : decode cX5_reckonGains 4 = .ok (.if_icmp .ge 80, 3) := by decide +kernel
theorem dX5_reckonGains_7 : decode cX5_reckonGains 7 = .ok (.iconst 0, 1) := by decide +kernel
theorem dX5_reckonGains_8 : decode cX5_reckonGains 8 = .ok (.istore 4, 2) := by decide +kernel
theorem dX5_reckonGains_10 : decode cX5_reckonGains 10 = .ok (.iload 4, 2) := by decide +kernel
theorem dX5_reckonGains_12 : decode cX5_reckonGains 12 = .ok (.iconst 4, 1) := by decide +kernel
theorem dX5_reckonGains_13 : decode cX5_reckonGains 13 = .ok (.if_icmp .ge 65, 3) := by decide +kernel
theorem dX5_reckonGains_16 : decode cX5_reckonGains 16 = .ok (.aload_n 0, 1) := by decide +kernel
theorem dX5_reckonGains_17 : decode cX5_reckonGains 17 = .ok (.getfield 22, 3) := by decide +kernel
theorem dX5_reckonGains_20 : decode cX5_reckonGains 20 = .ok (.iload_n 3, 1) := by decide +kernel
theorem dX5_reckonGains_21 : decode cX5_reckonGains 21 = .ok (.iconst 4, 1) := by decide +kernel
theorem dX5_reckonGains_22 : decode cX5_reckonGains 22 = .ok (.imul, 1) := by decide +kernel
theorem dX5_reckonGains_23 : decode cX5_reckonGains 23 = .ok (.iload 4, 2) := by decide +kernel
theorem dX5_reckonGains_25 : decode cX5_reckonGains 25 = .ok (.iadd, 1) := by decide +kernel
theorem dX5_reckonGains_26 : decode cX5_reckonGains 26 = .ok (.aload_n 0, 1) := by decide +kernel
theorem dX5_reckonGains_27 : decode cX5_reckonGains 27 = .ok (.bipush 10, 2) := by decide +kernel
theorem dX5_reckonGains_29 : decode cX5_reckonGains 29 = .ok (.iload_n 1, 1) := by decide +kernel
theorem dX5_reckonGains_30 : decode cX5_reckonGains 30 = .ok (.imul, 1) := by decide +kernel
theorem dX5_reckonGains_31 : decode cX5_reckonGains 31 = .ok (.iload_n 3, 1) := by decide +kernel
theorem dX5_reckonGains_32 : decode cX5_reckonGains 32 = .ok (.iadd, 1) := by decide +kernel
theorem dX5_reckonGains_33 : decode cX5_reckonGains 33 = .ok (.bipush 10, 2) := by decide +kernel
theorem dX5_reckonGains_35 : decode cX5_reckonGains 35 = .ok (.iload_n 2, 1) := by decide +kernel
theorem dX5_reckonGains_36 : decode cX5_reckonGains 36 = .ok (.imul, 1) := by decide +kernel
theorem dX5_reckonGains_37 : decode cX5_reckonGains 37 = .ok (.iload 4, 2) := by decide +kernel
theorem dX5_reckonGains_39 : decode cX5_reckonGains 39 = .ok (.iadd, 1) := by decide +kernel
theorem dX5_reckonGains_40 : decode cX5_reckonGains 40 = .ok (.invokevirtual 129, 3) := by decide +kernel
theorem dX5_reckonGains_43 : decode cX5_reckonGains 43 = .ok (.lastore, 1) := by decide +kernel
theorem dX5_reckonGains_44 : decode cX5_reckonGains 44 = .ok (.aload_n 0, 1) := by decide +kernel
theorem dX5_reckonGains_45 : decode cX5_reckonGains 45 = .ok (.getfield 25, 3) := by decide +kernel
theorem dX5_reckonGains_48 : decode cX5_reckonGains 48 = .ok (.iload_n 3, 1) := by decide +kernel
theorem dX5_reckonGains_49 : decode cX5_reckonGains 49 = .ok (.iconst 4, 1) := by decide +kernel
theorem dX5_reckonGains_50 : decode cX5_reckonGains 50 = .ok (.imul, 1) := by decide +kernel
theorem dX5_reckonGains_51 : decode cX5_reckonGains 51 = .ok (.iload 4, 2) := by decide +kernel
theorem dX5_reckonGains_53 : decode cX5_reckonGains 53 = .ok (.iadd, 1) := by decide +kernel
theorem dX5_reckonGains_54 : decode cX5_reckonGains 54 = .ok (.aload_n 0, 1) := by decide +kernel
theorem dX5_reckonGains_55 : decode cX5_reckonGains 55 = .ok (.bipush 10, 2) := by decide +kernel
theorem dX5_reckonGains_57 : decode cX5_reckonGains 57 = .ok (.iload_n 2, 1) := by decide +kernel
theorem dX5_reckonGains_58 : decode cX5_reckonGains 58 = .ok (.imul, 1) := by decide +kernel
theorem dX5_reckonGains_59 : decode cX5_reckonGains 59 = .ok (.iload 4, 2) := by decide +kernel
theorem dX5_reckonGains_61 : decode cX5_reckonGains 61 = .ok (.iadd, 1) := by decide +kernel
theorem dX5_reckonGains_62 : decode cX5_reckonGains 62 = .ok (.bipush 10, 2) := by decide +kernel
theorem dX5_reckonGains_64 : decode cX5_reckonGains 64 = .ok (.iload_n 1, 1) := by decide +kernel
theorem dX5_reckonGains_65 : decode cX5_reckonGains 65 = .ok (.imul, 1) := by decide +kernel
theorem dX5_reckonGains_66 : decode cX5_reckonGains 66 = .ok (.iload_n 3, 1) := by decide +kernel
theorem dX5_reckonGains_67 : decode cX5_reckonGains 67 = .ok (.iadd, 1) := by decide +kernel
theorem dX5_reckonGains_68 : decode cX5_reckonGains 68 = .ok (.invokevirtual 129, 3) := by decide +kernel
theorem dX5_reckonGains_71 : decode cX5_reckonGains 71 = .ok (.lastore, 1) := by decide +kernel
theorem dX5_reckonGains_72 : decode cX5_reckonGains 72 = .ok (.iinc 4 1, 3) := by decide +kernel
theorem dX5_reckonGains_75 : decode cX5_reckonGains 75 = .ok (.goto (-65), 3) := by decide +kernel
theorem dX5_reckonGains_78 : decode cX5_reckonGains 78 = .ok (.iinc 3 1, 3) := by decide +kernel
theorem dX5_reckonGains_81 : decode cX5_reckonGains 81 = .ok (.goto (-79), 3) := by decide +kernel
theorem dX5_reckonGains_84 : decode cX5_reckonGains 84 = .ok (.return_, 1) := by decide +kernel
theorem dX5_isRest_0 : decode cX5_isRest 0 = .ok (.aload_n 0, 1) := by decide +kernel
theorem dX5_isRest_1 : decode cX5_isRest 1 = .ok (.getfield 22, 3) := by decide +kernel
theorem dX5_isRest_4 : decode cX5_isRest 4 = .ok (.iload_n 1, 1) := by decide +kernel
theorem dX5_isRest_5 : decode cX5_isRest 5 = .ok (.iconst 4, 1) := by decide +kernel
theorem dX5_isRest_6 : decode cX5_isRest 6 = .ok (.imul, 1) := by decide +kernel
theorem dX5_isRest_7 : decode cX5_isRest 7 = .ok (.iload_n 2, 1) := by decide +kernel
theorem dX5_isRest_8 : decode cX5_isRest 8 = .ok (.iadd, 1) := by decide +kernel
theorem dX5_isRest_9 : decode cX5_isRest 9 = .ok (.laload, 1) := by decide +kernel
theorem dX5_isRest_10 : decode cX5_isRest 10 = .ok (.lstore_n 3, 1) := by decide +kernel
theorem dX5_isRest_11 : decode cX5_isRest 11 = .ok (.aload_n 0, 1) := by decide +kernel
theorem dX5_isRest_12 : decode cX5_isRest 12 = .ok (.getfield 25, 3) := by decide +kernel
theorem dX5_isRest_15 : decode cX5_isRest 15 = .ok (.iload_n 1, 1) := by decide +kernel
theorem dX5_isRest_16 : decode cX5_isRest 16 = .ok (.iconst 4, 1) := by decide +kernel
theorem dX5_isRest_17 : decode cX5_isRest 17 = .ok (.imul, 1) := by decide +kernel
theorem dX5_isRest_18 : decode cX5_isRest 18 = .ok (.iload_n 2, 1) := by decide +kernel
theorem dX5_isRest_19 : decode cX5_isRest 19 = .ok (.iadd, 1) := by decide +kernel
theorem dX5_isRest_20 : decode cX5_isRest 20 = .ok (.laload, 1) := by decide +kernel
theorem dX5_isRest_21 : decode cX5_isRest 21 = .ok (.lstore 5, 2) := by decide +kernel
theorem dX5_isRest_23 : decode cX5_isRest 23 = .ok (.iconst 0, 1) := by decide +kernel
theorem dX5_isRest_24 : decode cX5_isRest 24 = .ok (.istore 7, 2) := by decide +kernel
theorem dX5_isRest_26 : decode cX5_isRest 26 = .ok (.iload 7, 2) := by decide +kernel
theorem dX5_isRest_28 : decode cX5_isRest 28 = .ok (.iconst 4, 1) := by decide +kernel
theorem dX5_isRest_29 : decode cX5_isRest 29 = .ok (.if_icmp .ge 44, 3) := by decide +kernel
theorem dX5_isRest_32 : decode cX5_isRest 32 = .ok (.aload_n 0, 1) := by decide +kernel
theorem dX5_isRest_33 : decode cX5_isRest 33 = .ok (.getfield 22, 3) := by decide +kernel
theorem dX5_isRest_36 : decode cX5_isRest 36 = .ok (.iload 7, 2) := by decide +kernel
theorem dX5_isRest_38 : decode cX5_isRest 38 = .ok (.iconst 4, 1) := by decide +kernel
theorem dX5_isRest_39 : decode cX5_isRest 39 = .ok (.imul, 1) := by decide +kernel
theorem dX5_isRest_40 : decode cX5_isRest 40 = .ok (.iload_n 2, 1) := by decide +kernel
theorem dX5_isRest_41 : decode cX5_isRest 41 = .ok (.iadd, 1) := by decide +kernel
theorem dX5_isRest_42 : decode cX5_isRest 42 = .ok (.laload, 1) := by decide +kernel
theorem dX5_isRest_43 : decode cX5_isRest 43 = .ok (.lload_n 3, 1) := by decide +kernel
theorem dX5_isRest_44 : decode cX5_isRest 44 = .ok (.lcmp, 1) := by decide +kernel
theorem dX5_isRest_45 : decode cX5_isRest 45 = .ok (.ifCond .gt 20, 3) := by decide +kernel
theorem dX5_isRest_48 : decode cX5_isRest 48 = .ok (.aload_n 0, 1) := by decide +kernel
theorem dX5_isRest_49 : decode cX5_isRest 49 = .ok (.getfield 25, 3) := by decide +kernel
theorem dX5_isRest_52 : decode cX5_isRest 52 = .ok (.iload_n 1, 1) := by decide +kernel
theorem dX5_isRest_53 : decode cX5_isRest 53 = .ok (.iconst 4, 1) := by decide +kernel
theorem dX5_isRest_54 : decode cX5_isRest 54 = .ok (.imul, 1) := by decide +kernel
theorem dX5_isRest_55 : decode cX5_isRest 55 = .ok (.iload 7, 2) := by decide +kernel
theorem dX5_isRest_57 : decode cX5_isRest 57 = .ok (.iadd, 1) := by decide +kernel
theorem dX5_isRest_58 : decode cX5_isRest 58 = .ok (.laload, 1) := by decide +kernel
theorem dX5_isRest_59 : decode cX5_isRest 59 = .ok (.lload 5, 2) := by decide +kernel
theorem dX5_isRest_61 : decode cX5_isRest 61 = .ok (.lcmp, 1) := by decide +kernel
theorem dX5_isRest_62 : decode cX5_isRest 62 = .ok (.ifCond .le 5, 3) := by decide +kernel
theorem dX5_isRest_65 : decode cX5_isRest 65 = .ok (.iconst 0, 1) := by decide +kernel
theorem dX5_isRest_66 : decode cX5_isRest 66 = .ok (.ireturn, 1) := by decide +kernel
theorem dX5_isRest_67 : decode cX5_isRest 67 = .ok (.iinc 7 1, 3) := by decide +kernel
theorem dX5_isRest_70 : decode cX5_isRest 70 = .ok (.goto (-44), 3) := by decide +kernel
theorem dX5_isRest_73 : decode cX5_isRest 73 = .ok (.iconst 1, 1) := by decide +kernel
theorem dX5_isRest_74 : decode cX5_isRest 74 = .ok (.ireturn, 1) := by decide +kernel
theorem dX6_init_0 : decode cX6_init 0 = .ok (.aload_n 0, 1) := by decide +kernel
theorem dX6_init_1 : decode cX6_init 1 = .ok (.invokespecial 3, 3) := by decide +kernel
theorem dX6_init_4 : decode cX6_init 4 = .ok (.aload_n 0, 1) := by decide +kernel
theorem dX6_init_5 : decode cX6_init 5 = .ok (.iconst 0, 1) := by decide +kernel
theorem dX6_init_6 : decode cX6_init 6 = .ok (.putfield 9, 3) := by decide +kernel
theorem dX6_init_9 : decode cX6_init 9 = .ok (.aload_n 0, 1) := by decide +kernel
theorem dX6_init_10 : decode cX6_init 10 = .ok (.lconst 0, 1) := by decide +kernel
theorem dX6_init_11 : decode cX6_init 11 = .ok (.putfield 15, 3) := by decide +kernel
theorem dX6_init_14 : decode cX6_init 14 = .ok (.aload_n 0, 1) := by decide +kernel
theorem dX6_init_15 : decode cX6_init 15 = .ok (.lconst 0, 1) := by decide +kernel
theorem dX6_init_16 : decode cX6_init 16 = .ok (.putfield 19, 3) := by decide +kernel
theorem dX6_init_19 : decode cX6_init 19 = .ok (.aload_n 0, 1) := by decide +kernel
theorem dX6_init_20 : decode cX6_init 20 = .ok (.iconst 0, 1) := by decide +kernel
theorem dX6_init_21 : decode cX6_init 21 = .ok (.putfield 22, 3) := by decide +kernel
theorem dX6_init_24 : decode cX6_init 24 = .ok (.aload_n 0, 1) := by decide +kernel
theorem dX6_init_25 : decode cX6_init 25 = .ok (.iconst 0, 1) := by decide +kernel
theorem dX6_init_26 : decode cX6_init 26 = .ok (.putfield 26, 3) := by decide +kernel
theorem dX6_init_29 : decode cX6_init 29 = .ok (.aload_n 0, 1) := by decide +kernel
theorem dX6_init_30 : decode cX6_init 30 = .ok (.iconst 0, 1) := by decide +kernel
theorem dX6_init_31 : decode cX6_init 31 = .ok (.putfield 29, 3) := by decide +kernel
theorem dX6_init_34 : decode cX6_init 34 = .ok (.aload_n 0, 1) := by decide +kernel
theorem dX6_init_35 : decode cX6_init 35 = .ok (.iconst 0, 1) := by decide +kernel
theorem dX6_init_36 : decode cX6_init 36 = .ok (.putfield 32, 3) := by decide +kernel
theorem dX6_init_39 : decode cX6_init 39 = .ok (.aload_n 0, 1) := by decide +kernel
theorem dX6_init_40 : decode cX6_init 40 = .ok (.bipush 40, 2) := by decide +kernel
theorem dX6_init_42 : decode cX6_init 42 = .ok (.newarray .int, 2) := by decide +kernel
theorem dX6_init_44 : decode cX6_init 44 = .ok (.putfield 35, 3) := by decide +kernel
theorem dX6_init_47 : decode cX6_init 47 = .ok (.aload_n 0, 1) := by decide +kernel
theorem dX6_init_48 : decode cX6_init 48 = .ok (.bipush 40, 2) := by decide +kernel
theorem dX6_init_50 : decode cX6_init 50 = .ok (.newarray .int, 2) := by decide +kernel
theorem dX6_init_52 : decode cX6_init 52 = .ok (.putfield 39, 3) := by decide +kernel
theorem dX6_init_55 : decode cX6_init 55 = .ok (.aload_n 0, 1) := by decide +kernel
theorem dX6_init_56 : decode cX6_init 56 = .ok (.bipush 40, 2) := by decide +kernel
theorem dX6_init_58 : decode cX6_init 58 = .ok (.newarray .int, 2) := by decide +kernel
theorem dX6_init_60 : decode cX6_init 60 = .ok (.putfield 42, 3) := by decide +kernel
theorem dX6_init_63 : decode cX6_init 63 = .ok (.aload_n 0, 1) := by decide +kernel
theorem dX6_init_64 : decode cX6_init 64 = .ok (.bipush 40, 2) := by decide +kernel
theorem dX6_init_66 : decode cX6_init 66 = .ok (.newarray .int, 2) := by decide +kernel
theorem dX6_init_68 : decode cX6_init 68 = .ok (.putfield 45, 3) := by decide +kernel
theorem dX6_init_71 : decode cX6_init 71 = .ok (.aload_n 0, 1) := by decide +kernel
theorem dX6_init_72 : decode cX6_init 72 = .ok (.bipush 40, 2) := by decide +kernel
theorem dX6_init_74 : decode cX6_init 74 = .ok (.newarray .long, 2) := by decide +kernel
theorem dX6_init_76 : decode cX6_init 76 = .ok (.putfield 48, 3) := by decide +kernel
theorem dX6_init_79 : decode cX6_init 79 = .ok (.aload_n 0, 1) := by decide +kernel
theorem dX6_init_80 : decode cX6_init 80 = .ok (.bipush 40, 2) := by decide +kernel
theorem dX6_init_82 : decode cX6_init 82 = .ok (.newarray .long, 2) := by decide +kernel
theorem dX6_init_84 : decode cX6_init 84 = .ok (.putfield 52, 3) := by decide +kernel
theorem dX6_init_87 : decode cX6_init 87 = .ok (.return_, 1) := by decide +kernel
theorem dX6_startLake_0 : decode cX6_startLake 0 = .ok (.aload_n 0, 1) := by decide +kernel
theorem dX6_startLake_1 : decode cX6_startLake 1 = .ok (.iconst 0, 1) := by decide +kernel
theorem dX6_startLake_2 : decode cX6_startLake 2 = .ok (.putfield 9, 3) := by decide +kernel
theorem dX6_startLake_5 : decode cX6_startLake 5 = .ok (.aload_n 0, 1) := by decide +kernel
theorem dX6_startLake_6 : decode cX6_startLake 6 = .ok (.lconst 0, 1) := by decide +kernel
theorem dX6_startLake_7 : decode cX6_startLake 7 = .ok (.putfield 15, 3) := by decide +kernel
theorem dX6_startLake_10 : decode cX6_startLake 10 = .ok (.aload_n 0, 1) := by decide +kernel
theorem dX6_startLake_11 : decode cX6_startLake 11 = .ok (.iconst 0, 1) := by decide +kernel
theorem dX6_startLake_12 : decode cX6_startLake 12 = .ok (.putfield 22, 3) := by decide +kernel
theorem dX6_startLake_15 : decode cX6_startLake 15 = .ok (.aload_n 0, 1) := by decide +kernel
theorem dX6_startLake_16 : decode cX6_startLake 16 = .ok (.iconst 0, 1) := by decide +kernel
theorem dX6_startLake_17 : decode cX6_startLake 17 = .ok (.putfield 26, 3) := by decide +kernel
theorem dX6_startLake_20 : decode cX6_startLake 20 = .ok (.aload_n 0, 1) := by decide +kernel
theorem dX6_startLake_21 : decode cX6_startLake 21 = .ok (.iload_n 1, 1) := by decide +kernel
theorem dX6_startLake_22 : decode cX6_startLake 22 = .ok (.putfield 29, 3) := by decide +kernel
theorem dX6_startLake_25 : decode cX6_startLake 25 = .ok (.aload_n 0, 1) := by decide +kernel
theorem dX6_startLake_26 : decode cX6_startLake 26 = .ok (.iconst 0, 1) := by decide +kernel
theorem dX6_startLake_27 : decode cX6_startLake 27 = .ok (.putfield 32, 3) := by decide +kernel
theorem dX6_startLake_30 : decode cX6_startLake 30 = .ok (.return_, 1) := by decide +kernel
theorem dX6_draw_0 : decode cX6_draw 0 = .ok (.aload_n 0, 1) := by decide +kernel
theorem dX6_draw_1 : decode cX6_draw 1 = .ok (.aload_n 0, 1) := by decide +kernel
theorem dX6_draw_2 : decode cX6_draw 2 = .ok (.getfield 19, 3) := by decide +kernel
theorem dX6_draw_5 : decode cX6_draw 5 = .ok (.ldc2_w 55, 3) := by decide +kernel
theorem dX6_draw_8 : decode cX6_draw 8 = .ok (.lmul, 1) := by decide +kernel
theorem dX6_draw_9 : decode cX6_draw 9 = .ok (.ldc2_w 57, 3) := by decide +kernel
theorem dX6_draw_12 : decode cX6_draw 12 = .ok (.ladd, 1) := by decide +kernel
theorem dX6_draw_13 : decode cX6_draw 13 = .ok (.putfield 19, 3) := by decide +kernel
theorem dX6_draw_16 : decode cX6_draw 16 = .ok (.iload_n 1, 1) := by decide +kernel
theorem dX6_draw_17 : decode cX6_draw 17 = .ok (.iconst 1, 1) := by decide +kernel
theorem dX6_draw_18 : decode cX6_draw 18 = .ok (.if_icmp .ge 7, 3) := by decide +kernel
theorem dX6_draw_21 : decode cX6_draw 21 = .ok (.iconst 0, 1) := by decide +kernel
theorem dX6_draw_22 : decode cX6_draw 22 = .ok (.goto 14, 3) := by decide +kernel
theorem dX6_draw_25 : decode cX6_draw 25 = .ok (.aload_n 0, 1) := by decide +kernel
theorem dX6_draw_26 : decode cX6_draw 26 = .ok (.getfield 19, 3) := by decide +kernel
theorem dX6_draw_29 : decode cX6_draw 29 = .ok (.bipush 33, 2) := by decide +kernel
theorem dX6_draw_31 : decode cX6_draw 31 = .ok (.lushr, 1) := by decide +kernel
theorem dX6_draw_32 : decode cX6_draw 32 = .ok (.iload_n 1, 1) := by decide +kernel
theorem dX6_draw_33 : decode cX6_draw 33 = .ok (.i2l, 1) := by decide +kernel
theorem dX6_draw_34 : decode cX6_draw 34 = .ok (.lrem, 1) := by decide +kernel
theorem dX6_draw_35 : decode cX6_draw 35 = .ok (.l2i, 1) := by decide +kernel
theorem dX6_draw_36 : decode cX6_draw 36 = .ok (.ireturn, 1) := by decide +kernel
theorem dX6_startDay_0 : decode cX6_startDay 0 = .ok (.aload_n 0, 1) := by decide +kernel
theorem dX6_startDay_1 : decode cX6_startDay 1 = .ok (.getfield 32, 3) := by decide +kernel
theorem dX6_startDay_4 : decode cX6_startDay 4 = .ok (.iconst 0, 1) := by decide +kernel
theorem dX6_startDay_5 : decode cX6_startDay 5 = .ok (.bipush 39, 2) := by decide +kernel
theorem dX6_startDay_7 : decode cX6_startDay 7 = .ok (.invokestatic 59, 3) := by decide +kernel
theorem dX6_startDay_10 : decode cX6_startDay 10 = .ok (.ifCond .eq 42, 3) := by decide +kernel
theorem dX6_startDay_13 : decode cX6_startDay 13 = .ok (.aload_n 0, 1) := by decide +kernel
theorem dX6_startDay_14 : decode cX6_startDay 14 = .ok (.getfield 45, 3) := by decide +kernel
theorem dX6_startDay_17 : decode cX6_startDay 17 = .ok (.aload_n 0, 1) := by decide +kernel
theorem dX6_startDay_18 : decode cX6_startDay 18 = .ok (.getfield 32, 3) := by decide +kernel
theorem dX6_startDay_21 : decode cX6_startDay 21 = .ok (.aload_n 0, 1) := by decide +kernel
theorem dX6_startDay_22 : decode cX6_startDay 22 = .ok (.getfield 9, 3) := by decide +kernel
theorem dX6_startDay_25 : decode cX6_startDay 25 = .ok (.iastore, 1) := by decide +kernel
theorem dX6_startDay_26 : decode cX6_startDay 26 = .ok (.aload_n 0, 1) := by decide +kernel
theorem dX6_startDay_27 : decode cX6_startDay 27 = .ok (.getfield 48, 3) := by decide +kernel
theorem dX6_startDay_30 : decode cX6_startDay 30 = .ok (.aload_n 0, 1) := by decide +kernel
theorem dX6_startDay_31 : decode cX6_startDay 31 = .ok (.getfield 32, 3) := by decide +kernel
theorem dX6_startDay_34 : decode cX6_startDay 34 = .ok (.aload_n 0, 1) := by decide +kernel
theorem dX6_startDay_35 : decode cX6_startDay 35 = .ok (.getfield 15, 3) := by decide +kernel
theorem dX6_startDay_38 : decode cX6_startDay 38 = .ok (.lastore, 1) := by decide +kernel
theorem dX6_startDay_39 : decode cX6_startDay 39 = .ok (.aload_n 0, 1) := by decide +kernel
theorem dX6_startDay_40 : decode cX6_startDay 40 = .ok (.getfield 52, 3) := by decide +kernel
theorem dX6_startDay_43 : decode cX6_startDay 43 = .ok (.aload_n 0, 1) := by decide +kernel
theorem dX6_startDay_44 : decode cX6_startDay 44 = .ok (.getfield 32, 3) := by decide +kernel
theorem dX6_startDay_47 : decode cX6_startDay 47 = .ok (.aload_n 0, 1) := by decide +kernel
theorem dX6_startDay_48 : decode cX6_startDay 48 = .ok (.getfield 19, 3) := by decide +kernel
theorem dX6_startDay_51 : decode cX6_startDay 51 = .ok (.lastore, 1) := by decide +kernel
theorem dX6_startDay_52 : decode cX6_startDay 52 = .ok (.return_, 1) := by decide +kernel
theorem dX6_endDay_0 : decode cX6_endDay 0 = .ok (.aload_n 0, 1) := by decide +kernel
theorem dX6_endDay_1 : decode cX6_endDay 1 = .ok (.getfield 32, 3) := by decide +kernel
theorem dX6_endDay_4 : decode cX6_endDay 4 = .ok (.iconst 0, 1) := by decide +kernel
theorem dX6_endDay_5 : decode cX6_endDay 5 = .ok (.bipush 39, 2) := by decide +kernel
theorem dX6_endDay_7 : decode cX6_endDay 7 = .ok (.invokestatic 59, 3) := by decide +kernel
theorem dX6_endDay_10 : decode cX6_endDay 10 = .ok (.ifCond .eq 43, 3) := by decide +kernel
theorem dX6_endDay_13 : decode cX6_endDay 13 = .ok (.aload_n 0, 1) := by decide +kernel
theorem dX6_endDay_14 : decode cX6_endDay 14 = .ok (.getfield 35, 3) := by decide +kernel
theorem dX6_endDay_17 : decode cX6_endDay 17 = .ok (.aload_n 0, 1) := by decide +kernel
theorem dX6_endDay_18 : decode cX6_endDay 18 = .ok (.getfield 32, 3) := by decide +kernel
theorem dX6_endDay_21 : decode cX6_endDay 21 = .ok (.iload_n 1, 1) := by decide +kernel
theorem dX6_endDay_22 : decode cX6_endDay 22 = .ok (.iastore, 1) := by decide +kernel
theorem dX6_endDay_23 : decode cX6_endDay 23 = .ok (.aload_n 0, 1) := by decide +kernel
theorem dX6_endDay_24 : decode cX6_endDay 24 = .ok (.getfield 39, 3) := by decide +kernel
theorem dX6_endDay_27 : decode cX6_endDay 27 = .ok (.aload_n 0, 1) := by decide +kernel
theorem dX6_endDay_28 : decode cX6_endDay 28 = .ok (.getfield 32, 3) := by decide +kernel
theorem dX6_endDay_31 : decode cX6_endDay 31 = .ok (.iload_n 2, 1) := by decide +kernel
theorem dX6_endDay_32 : decode cX6_endDay 32 = .ok (.iastore, 1) := by decide +kernel
theorem dX6_endDay_33 : decode cX6_endDay 33 = .ok (.aload_n 0, 1) := by decide +kernel
theorem dX6_endDay_34 : decode cX6_endDay 34 = .ok (.getfield 42, 3) := by decide +kernel
theorem dX6_endDay_37 : decode cX6_endDay 37 = .ok (.aload_n 0, 1) := by decide +kernel
theorem dX6_endDay_38 : decode cX6_endDay 38 = .ok (.getfield 32, 3) := by decide +kernel
theorem dX6_endDay_41 : decode cX6_endDay 41 = .ok (.iload_n 3, 1) := by decide +kernel
theorem dX6_endDay_42 : decode cX6_endDay 42 = .ok (.iastore, 1) := by decide +kernel
theorem dX6_endDay_43 : decode cX6_endDay 43 = .ok (.aload_n 0, 1) := by decide +kernel
theorem dX6_endDay_44 : decode cX6_endDay 44 = .ok (.dup, 1) := by decide +kernel
theorem dX6_endDay_45 : decode cX6_endDay 45 = .ok (.getfield 32, 3) := by decide +kernel
theorem dX6_endDay_48 : decode cX6_endDay 48 = .ok (.iconst 1, 1) := by decide +kernel
theorem dX6_endDay_49 : decode cX6_endDay 49 = .ok (.iadd, 1) := by decide +kernel
theorem dX6_endDay_50 : decode cX6_endDay 50 = .ok (.putfield 32, 3) := by decide +kernel
theorem dX6_endDay_53 : decode cX6_endDay 53 = .ok (.return_, 1) := by decide +kernel
theorem dX6_shoalOn_0 : decode cX6_shoalOn 0 = .ok (.iload_n 1, 1) := by decide +kernel
theorem dX6_shoalOn_1 : decode cX6_shoalOn 1 = .ok (.iconst 0, 1) := by decide +kernel
theorem dX6_shoalOn_2 : decode cX6_shoalOn 2 = .ok (.bipush 39, 2) := by decide +kernel
theorem dX6_shoalOn_4 : decode cX6_shoalOn 4 = .ok (.invokestatic 59, 3) := by decide +kernel
theorem dX6_shoalOn_7 : decode cX6_shoalOn 7 = .ok (.ifCond .eq 12, 3) := by decide +kernel
theorem dX6_shoalOn_10 : decode cX6_shoalOn 10 = .ok (.aload_n 0, 1) := by decide +kernel
theorem dX6_shoalOn_11 : decode cX6_shoalOn 11 = .ok (.getfield 35, 3) := by decide +kernel
theorem dX6_shoalOn_14 : decode cX6_shoalOn 14 = .ok (.iload_n 1, 1) := by decide +kernel
theorem dX6_shoalOn_15 : decode cX6_shoalOn 15 = .ok (.iaload, 1) := by decide +kernel
theorem dX6_shoalOn_16 : decode cX6_shoalOn 16 = .ok (.goto 4, 3) := by decide +kernel
theorem dX6_shoalOn_19 : decode cX6_shoalOn 19 = .ok (.iconst (-1), 1) := by decide +kernel
theorem dX6_shoalOn_20 : decode cX6_shoalOn 20 = .ok (.ireturn, 1) := by decide +kernel
theorem dX6_cameOn_0 : decode cX6_cameOn 0 = .ok (.iload_n 1, 1) := by decide +kernel
theorem dX6_cameOn_1 : decode cX6_cameOn 1 = .ok (.iconst 0, 1) := by decide +kernel
theorem dX6_cameOn_2 : decode cX6_cameOn 2 = .ok (.bipush 39, 2) := by decide +kernel
theorem dX6_cameOn_4 : decode cX6_cameOn 4 = .ok (.invokestatic 59, 3) := by decide +kernel
theorem dX6_cameOn_7 : decode cX6_cameOn 7 = .ok (.ifCond .eq 12, 3) := by decide +kernel
theorem dX6_cameOn_10 : decode cX6_cameOn 10 = .ok (.aload_n 0, 1) := by decide +kernel
theorem dX6_cameOn_11 : decode cX6_cameOn 11 = .ok (.getfield 39, 3) := by decide +kernel
theorem dX6_cameOn_14 : decode cX6_cameOn 14 = .ok (.iload_n 1, 1) := by decide +kernel
theorem dX6_cameOn_15 : decode cX6_cameOn 15 = .ok (.iaload, 1) := by decide +kernel
theorem dX6_cameOn_16 : decode cX6_cameOn 16 = .ok (.goto 4, 3) := by decide +kernel
theorem dX6_cameOn_19 : decode cX6_cameOn 19 = .ok (.iconst (-1), 1) := by decide +kernel
theorem dX6_cameOn_20 : decode cX6_cameOn 20 = .ok (.ireturn, 1) := by decide +kernel
theorem dX6_caughtOn_0 : decode cX6_caughtOn 0 = .ok (.iload_n 1, 1) := by decide +kernel
theorem dX6_caughtOn_1 : decode cX6_caughtOn 1 = .ok (.iconst 0, 1) := by decide +kernel
theorem dX6_caughtOn_2 : decode cX6_caughtOn 2 = .ok (.bipush 39, 2) := by decide +kernel
theorem dX6_caughtOn_4 : decode cX6_caughtOn 4 = .ok (.invokestatic 59, 3) := by decide +kernel
theorem dX6_caughtOn_7 : decode cX6_caughtOn 7 = .ok (.ifCond .eq 12, 3) := by decide +kernel
theorem dX6_caughtOn_10 : decode cX6_caughtOn 10 = .ok (.aload_n 0, 1) := by decide +kernel
theorem dX6_caughtOn_11 : decode cX6_caughtOn 11 = .ok (.getfield 42, 3) := by decide +kernel
theorem dX6_caughtOn_14 : decode cX6_caughtOn 14 = .ok (.iload_n 1, 1) := by decide +kernel
theorem dX6_caughtOn_15 : decode cX6_caughtOn 15 = .ok (.iaload, 1) := by decide +kernel
theorem dX6_caughtOn_16 : decode cX6_caughtOn 16 = .ok (.goto 4, 3) := by decide +kernel
theorem dX6_caughtOn_19 : decode cX6_caughtOn 19 = .ok (.iconst (-1), 1) := by decide +kernel
theorem dX6_caughtOn_20 : decode cX6_caughtOn 20 = .ok (.ireturn, 1) := by decide +kernel
theorem dX6_takeBackDay_0 : decode cX6_takeBackDay 0 = .ok (.aload_n 0, 1) := by decide +kernel
theorem dX6_takeBackDay_1 : decode cX6_takeBackDay 1 = .ok (.getfield 32, 3) := by decide +kernel
theorem dX6_takeBackDay_4 : decode cX6_takeBackDay 4 = .ok (.iconst 1, 1) := by decide +kernel
theorem dX6_takeBackDay_5 : decode cX6_takeBackDay 5 = .ok (.bipush 40, 2) := by decide +kernel
theorem dX6_takeBackDay_7 : decode cX6_takeBackDay 7 = .ok (.invokestatic 59, 3) := by decide +kernel
theorem dX6_takeBackDay_10 : decode cX6_takeBackDay 10 = .ok (.ifCond .eq 52, 3) := by decide +kernel
theorem dX6_takeBackDay_13 : decode cX6_takeBackDay 13 = .ok (.aload_n 0, 1) := by decide +kernel
theorem dX6_takeBackDay_14 : decode cX6_takeBackDay 14 = .ok (.dup, 1) := by decide +kernel
theorem dX6_takeBackDay_15 : decode cX6_takeBackDay 15 = .ok (.getfield 32, 3) := by decide +kernel
theorem dX6_takeBackDay_18 : decode cX6_takeBackDay 18 = .ok (.iconst 1, 1) := by decide +kernel
theorem dX6_takeBackDay_19 : decode cX6_takeBackDay 19 = .ok (.isub, 1) := by decide +kernel
theorem dX6_takeBackDay_20 : decode cX6_takeBackDay 20 = .ok (.putfield 32, 3) := by decide +kernel
theorem dX6_takeBackDay_23 : decode cX6_takeBackDay 23 = .ok (.aload_n 0, 1) := by decide +kernel
theorem dX6_takeBackDay_24 : decode cX6_takeBackDay 24 = .ok (.aload_n 0, 1) := by decide +kernel
theorem dX6_takeBackDay_25 : decode cX6_takeBackDay 25 = .ok (.getfield 45, 3) := by decide +kernel
theorem dX6_takeBackDay_28 : decode cX6_takeBackDay 28 = .ok (.aload_n 0, 1) := by decide +kernel
theorem dX6_takeBackDay_29 : decode cX6_takeBackDay 29 = .ok (.getfield 32, 3) := by decide +kernel
theorem dX6_takeBackDay_32 : decode cX6_takeBackDay 32 = .ok (.iaload, 1) := by decide +kernel
theorem dX6_takeBackDay_33 : decode cX6_takeBackDay 33 = .ok (.putfield 9, 3) := by decide +kernel
theorem dX6_takeBackDay_36 : decode cX6_takeBackDay 36 = .ok (.aload_n 0, 1) := by decide +kernel
theorem dX6_takeBackDay_37 : decode cX6_takeBackDay 37 = .ok (.aload_n 0, 1) := by decide +kernel
theorem dX6_takeBackDay_38 : decode cX6_takeBackDay 38 = .ok (.getfield 48, 3) := by decide +kernel
theorem dX6_takeBackDay_41 : decode cX6_takeBackDay 41 = .ok (.aload_n 0, 1) := by decide +kernel
theorem dX6_takeBackDay_42 : decode cX6_takeBackDay 42 = .ok (.getfield 32, 3) := by decide +kernel
theorem dX6_takeBackDay_45 : decode cX6_takeBackDay 45 = .ok (.laload, 1) := by decide +kernel
theorem dX6_takeBackDay_46 : decode cX6_takeBackDay 46 = .ok (.putfield 15, 3) := by decide +kernel
theorem dX6_takeBackDay_49 : decode cX6_takeBackDay 49 = .ok (.aload_n 0, 1) := by decide +kernel
theorem dX6_takeBackDay_50 : decode cX6_takeBackDay 50 = .ok (.aload_n 0, 1) := by decide +kernel
theorem dX6_takeBackDay_51 : decode cX6_takeBackDay 51 = .ok (.getfield 52, 3) := by decide +kernel
theorem dX6_takeBackDay_54 : decode cX6_takeBackDay 54 = .ok (.aload_n 0, 1) := by decide +kernel
theorem dX6_takeBackDay_55 : decode cX6_takeBackDay 55 = .ok (.getfield 32, 3) := by decide +kernel
theorem dX6_takeBackDay_58 : decode cX6_takeBackDay 58 = .ok (.laload, 1) := by decide +kernel
theorem dX6_takeBackDay_59 : decode cX6_takeBackDay 59 = .ok (.putfield 19, 3) := by decide +kernel
theorem dX6_takeBackDay_62 : decode cX6_takeBackDay 62 = .ok (.return_, 1) := by decide +kernel
theorem dX6_takeFrom_0 : decode cX6_takeFrom 0 = .ok (.aload_n 0, 1) := by decide +kernel
theorem dX6_takeFrom_1 : decode cX6_takeFrom 1 = .ok (.aload_n 1, 1) := by decide +kernel
theorem dX6_takeFrom_2 : decode cX6_takeFrom 2 = .ok (.getfield 9, 3) := by decide +kernel
theorem dX6_takeFrom_5 : decode cX6_takeFrom 5 = .ok (.putfield 9, 3) := by decide +kernel
theorem dX6_takeFrom_8 : decode cX6_takeFrom 8 = .ok (.aload_n 0, 1) := by decide +kernel
theorem dX6_takeFrom_9 : decode cX6_takeFrom 9 = .ok (.aload_n 1, 1) := by decide +kernel
theorem dX6_takeFrom_10 : decode cX6_takeFrom 10 = .ok (.getfield 15, 3) := by decide +kernel
theorem dX6_takeFrom_13 : decode cX6_takeFrom 13 = .ok (.putfield 15, 3) := by decide +kernel
theorem dX6_takeFrom_16 : decode cX6_takeFrom 16 = .ok (.aload_n 0, 1) := by decide +kernel
theorem dX6_takeFrom_17 : decode cX6_takeFrom 17 = .ok (.aload_n 1, 1) := by decide +kernel
theorem dX6_takeFrom_18 : decode cX6_takeFrom 18 = .ok (.getfield 19, 3) := by decide +kernel
theorem dX6_takeFrom_21 : decode cX6_takeFrom 21 = .ok (.putfield 19, 3) := by decide +kernel
theorem dX6_takeFrom_24 : decode cX6_takeFrom 24 = .ok (.aload_n 0, 1) := by decide +kernel
theorem dX6_takeFrom_25 : decode cX6_takeFrom 25 = .ok (.aload_n 1, 1) := by decide +kernel
theorem dX6_takeFrom_26 : decode cX6_takeFrom 26 = .ok (.getfield 22, 3) := by decide +kernel
theorem dX6_takeFrom_29 : decode cX6_takeFrom 29 = .ok (.putfield 22, 3) := by decide +kernel
theorem dX6_takeFrom_32 : decode cX6_takeFrom 32 = .ok (.aload_n 0, 1) := by decide +kernel
theorem dX6_takeFrom_33 : decode cX6_takeFrom 33 = .ok (.aload_n 1, 1) := by decide +kernel
theorem dX6_takeFrom_34 : decode cX6_takeFrom 34 = .ok (.getfield 26, 3) := by decide +kernel
theorem dX6_takeFrom_37 : decode cX6_takeFrom 37 = .ok (.putfield 26, 3) := by decide +kernel
theorem dX6_takeFrom_40 : decode cX6_takeFrom 40 = .ok (.aload_n 0, 1) := by decide +kernel
theorem dX6_takeFrom_41 : decode cX6_takeFrom 41 = .ok (.aload_n 1, 1) := by decide +kernel
theorem dX6_takeFrom_42 : decode cX6_takeFrom 42 = .ok (.getfield 29, 3) := by decide +kernel
theorem dX6_takeFrom_45 : decode cX6_takeFrom 45 = .ok (.putfield 29, 3) := by decide +kernel
theorem dX6_takeFrom_48 : decode cX6_takeFrom 48 = .ok (.aload_n 0, 1) := by decide +kernel
theorem dX6_takeFrom_49 : decode cX6_takeFrom 49 = .ok (.bipush 40, 2) := by decide +kernel
theorem dX6_takeFrom_51 : decode cX6_takeFrom 51 = .ok (.aload_n 1, 1) := by decide +kernel
theorem dX6_takeFrom_52 : decode cX6_takeFrom 52 = .ok (.getfield 32, 3) := by decide +kernel
theorem dX6_takeFrom_55 : decode cX6_takeFrom 55 = .ok (.invokestatic 63, 3) := by decide +kernel
theorem dX6_takeFrom_58 : decode cX6_takeFrom 58 = .ok (.putfield 32, 3) := by decide +kernel
theorem dX6_takeFrom_61 : decode cX6_takeFrom 61 = .ok (.aload_n 1, 1) := by decide +kernel
theorem dX6_takeFrom_62 : decode cX6_takeFrom 62 = .ok (.getfield 35, 3) := by decide +kernel
theorem dX6_takeFrom_65 : decode cX6_takeFrom 65 = .ok (.iconst 0, 1) := by decide +kernel
theorem dX6_takeFrom_66 : decode cX6_takeFrom 66 = .ok (.aload_n 0, 1) := by decide +kernel
theorem dX6_takeFrom_67 : decode cX6_takeFrom 67 = .ok (.getfield 35, 3) := by decide +kernel
theorem dX6_takeFrom_70 : decode cX6_takeFrom 70 = .ok (.iconst 0, 1) := by decide +kernel
theorem dX6_takeFrom_71 : decode cX6_takeFrom 71 = .ok (.aload_n 0, 1) := by decide +kernel
theorem dX6_takeFrom_72 : decode cX6_takeFrom 72 = .ok (.getfield 32, 3) := by decide +kernel
theorem dX6_takeFrom_75 : decode cX6_takeFrom 75 = .ok (.invokestatic 69, 3) := by decide +kernel
theorem dX6_takeFrom_78 : decode cX6_takeFrom 78 = .ok (.aload_n 1, 1) := by decide +kernel
theorem dX6_takeFrom_79 : decode cX6_takeFrom 79 = .ok (.getfield 39, 3) := by decide +kernel
theorem dX6_takeFrom_82 : decode cX6_takeFrom 82 = .ok (.iconst 0, 1) := by decide +kernel
theorem dX6_takeFrom_83 : decode cX6_takeFrom 83 = .ok (.aload_n 0, 1) := by decide +kernel
theorem dX6_takeFrom_84 : decode cX6_takeFrom 84 = .ok (.getfield 39, 3) := by decide +kernel
theorem dX6_takeFrom_87 : decode cX6_takeFrom 87 = .ok (.iconst 0, 1) := by decide +kernel
theorem dX6_takeFrom_88 : decode cX6_takeFrom 88 = .ok (.aload_n 0, 1) := by decide +kernel
theorem dX6_takeFrom_89 : decode cX6_takeFrom 89 = .ok (.getfield 32, 3) := by decide +kernel
theorem dX6_takeFrom_92 : decode cX6_takeFrom 92 = .ok (.invokestatic 69, 3) := by decide +kernel
theorem dX6_takeFrom_95 : decode cX6_takeFrom 95 = .ok (.aload_n 1, 1) := by decide +kernel
theorem dX6_takeFrom_96 : decode cX6_takeFrom 96 = .ok (.getfield 42, 3) := by decide +kernel
theorem dX6_takeFrom_99 : decode cX6_takeFrom 99 = .ok (.iconst 0, 1) := by decide +kernel
theorem dX6_takeFrom_100 : decode cX6_takeFrom 100 = .ok (.aload_n 0, 1) := by decide +kernel
theorem dX6_takeFrom_101 : decode cX6_takeFrom 101 = .ok (.getfield 42, 3) := by decide +kernel
theorem dX6_takeFrom_104 : decode cX6_takeFrom 104 = .ok (.iconst 0, 1) := by decide +kernel
theorem dX6_takeFrom_105 : decode cX6_takeFrom 105 = .ok (.aload_n 0, 1) := by decide +kernel
theorem dX6_takeFrom_106 : decode cX6_takeFrom 106 = .ok (.getfield 32, 3) := by decide +kernel
theorem dX6_takeFrom_109 : decode cX6_takeFrom 109 = .ok (.invokestatic 69, 3) := by decide +kernel
theorem dX6_takeFrom_112 : decode cX6_takeFrom 112 = .ok (.aload_n 1, 1) := by decide +kernel
theorem dX6_takeFrom_113 : decode cX6_takeFrom 113 = .ok (.getfield 45, 3) := by decide +kernel
theorem dX6_takeFrom_116 : decode cX6_takeFrom 116 = .ok (.iconst 0, 1) := by decide +kernel
theorem dX6_takeFrom_117 : decode cX6_takeFrom 117 = .ok (.aload_n 0, 1) := by decide +kernel
theorem dX6_takeFrom_118 : decode cX6_takeFrom 118 = .ok (.getfield 45, 3) := by decide +kernel
theorem dX6_takeFrom_121 : decode cX6_takeFrom 121 = .ok (.iconst 0, 1) := by decide +kernel
theorem dX6_takeFrom_122 : decode cX6_takeFrom 122 = .ok (.aload_n 0, 1) := by decide +kernel
theorem dX6_takeFrom_123 : decode cX6_takeFrom 123 = .ok (.getfield 32, 3) := by decide +kernel
theorem dX6_takeFrom_126 : decode cX6_takeFrom 126 = .ok (.invokestatic 69, 3) := by decide +kernel
theorem dX6_takeFrom_129 : decode cX6_takeFrom 129 = .ok (.aload_n 1, 1) := by decide +kernel
theorem dX6_takeFrom_130 : decode cX6_takeFrom 130 = .ok (.getfield 48, 3) := by decide +kernel
theorem dX6_takeFrom_133 : decode cX6_takeFrom 133 = .ok (.iconst 0, 1) := by decide +kernel
theorem dX6_takeFrom_134 : decode cX6_takeFrom 134 = .ok (.aload_n 0, 1) := by decide +kernel
theorem dX6_takeFrom_135 : decode cX6_takeFrom 135 = .ok (.getfield 48, 3) := by decide +kernel
theorem dX6_takeFrom_138 : decode cX6_takeFrom 138 = .ok (.iconst 0, 1) := by decide +kernel
theorem dX6_takeFrom_139 : decode cX6_takeFrom 139 = .ok (.aload_n 0, 1) := by decide +kernel
theorem dX6_takeFrom_140 : decode cX6_takeFrom 140 = .ok (.getfield 32, 3) := by decide +kernel
theorem dX6_takeFrom_143 : decode cX6_takeFrom 143 = .ok (.invokestatic 69, 3) := by decide +kernel
theorem dX6_takeFrom_146 : decode cX6_takeFrom 146 = .ok (.aload_n 1, 1) := by decide +kernel
theorem dX6_takeFrom_147 : decode cX6_takeFrom 147 = .ok (.getfield 52, 3) := by decide +kernel
theorem dX6_takeFrom_150 : decode cX6_takeFrom 150 = .ok (.iconst 0, 1) := by decide +kernel
theorem dX6_takeFrom_151 : decode cX6_takeFrom 151 = .ok (.aload_n 0, 1) := by decide +kernel
theorem dX6_takeFrom_152 : decode cX6_takeFrom 152 = .ok (.getfield 52, 3) := by decide +kernel
theorem dX6_takeFrom_155 : decode cX6_takeFrom 155 = .ok (.iconst 0, 1) := by decide +kernel
theorem dX6_takeFrom_156 : decode cX6_takeFrom 156 = .ok (.aload_n 0, 1) := by decide +kernel
theorem dX6_takeFrom_157 : decode cX6_takeFrom 157 = .ok (.getfield 32, 3) := by decide +kernel
theorem dX6_takeFrom_160 : decode cX6_takeFrom 160 = .ok (.invokestatic 69, 3) := by decide +kernel
theorem dX6_takeFrom_163 : decode cX6_takeFrom 163 = .ok (.return_, 1) := by decide +kernel
theorem dX7_init_0 : decode cX7_init 0 = .ok (.aload_n 0, 1) := by decide +kernel
theorem dX7_init_1 : decode cX7_init 1 = .ok (.invokespecial 3, 3) := by decide +kernel
theorem dX7_init_4 : decode cX7_init 4 = .ok (.aload_n 0, 1) := by decide +kernel
theorem dX7_init_5 : decode cX7_init 5 = .ok (.iconst (-1), 1) := by decide +kernel
theorem dX7_init_6 : decode cX7_init 6 = .ok (.putfield 9, 3) := by decide +kernel
theorem dX7_init_9 : decode cX7_init 9 = .ok (.aload_n 0, 1) := by decide +kernel
theorem dX7_init_10 : decode cX7_init 10 = .ok (.iconst 0, 1) := by decide +kernel
theorem dX7_init_11 : decode cX7_init 11 = .ok (.putfield 15, 3) := by decide +kernel
theorem dX7_init_14 : decode cX7_init 14 = .ok (.aload_n 0, 1) := by decide +kernel
theorem dX7_init_15 : decode cX7_init 15 = .ok (.iconst (-1), 1) := by decide +kernel
theorem dX7_init_16 : decode cX7_init 16 = .ok (.putfield 18, 3) := by decide +kernel
theorem dX7_init_19 : decode cX7_init 19 = .ok (.return_, 1) := by decide +kernel
theorem dX7_start_0 : decode cX7_start 0 = .ok (.aload_n 0, 1) := by decide +kernel
theorem dX7_start_1 : decode cX7_start 1 = .ok (.iload_n 1, 1) := by decide +kernel
theorem dX7_start_2 : decode cX7_start 2 = .ok (.putfield 9, 3) := by decide +kernel
theorem dX7_start_5 : decode cX7_start 5 = .ok (.aload_n 0, 1) := by decide +kernel
theorem dX7_start_6 : decode cX7_start 6 = .ok (.iconst 0, 1) := by decide +kernel
theorem dX7_start_7 : decode cX7_start 7 = .ok (.putfield 15, 3) := by decide +kernel
theorem dX7_start_10 : decode cX7_start 10 = .ok (.aload_n 0, 1) := by decide +kernel
theorem dX7_start_11 : decode cX7_start 11 = .ok (.iconst (-1), 1) := by decide +kernel
theorem dX7_start_12 : decode cX7_start 12 = .ok (.putfield 18, 3) := by decide +kernel
theorem dX7_start_15 : decode cX7_start 15 = .ok (.return_, 1) := by decide +kernel
theorem dX7_add_0 : decode cX7_add 0 = .ok (.aload_n 0, 1) := by decide +kernel
theorem dX7_add_1 : decode cX7_add 1 = .ok (.getfield 15, 3) := by decide +kernel
theorem dX7_add_4 : decode cX7_add 4 = .ok (.aload_n 0, 1) := by decide +kernel
theorem dX7_add_5 : decode cX7_add 5 = .ok (.getfield 9, 3) := by decide +kernel
theorem dX7_add_8 : decode cX7_add 8 = .ok (.if_icmp .ne 8, 3) := by decide +kernel
theorem dX7_add_11 : decode cX7_add 11 = .ok (.aload_n 0, 1) := by decide +kernel
theorem dX7_add_12 : decode cX7_add 12 = .ok (.iload_n 1, 1) := by decide +kernel
theorem dX7_add_13 : decode cX7_add 13 = .ok (.putfield 18, 3) := by decide +kernel
theorem dX7_add_16 : decode cX7_add 16 = .ok (.aload_n 0, 1) := by decide +kernel
theorem dX7_add_17 : decode cX7_add 17 = .ok (.dup, 1) := by decide +kernel
theorem dX7_add_18 : decode cX7_add 18 = .ok (.getfield 15, 3) := by decide +kernel
theorem dX7_add_21 : decode cX7_add 21 = .ok (.iconst 1, 1) := by decide +kernel
theorem dX7_add_22 : decode cX7_add 22 = .ok (.iadd, 1) := by decide +kernel
theorem dX7_add_23 : decode cX7_add 23 = .ok (.putfield 15, 3) := by decide +kernel
theorem dX7_add_26 : decode cX7_add 26 = .ok (.return_, 1) := by decide +kernel
theorem dX7_told_0 : decode cX7_told 0 = .ok (.aload_n 0, 1) := by decide +kernel
theorem dX7_told_1 : decode cX7_told 1 = .ok (.getfield 9, 3) := by decide +kernel
theorem dX7_told_4 : decode cX7_told 4 = .ok (.iconst (-1), 1) := by decide +kernel
theorem dX7_told_5 : decode cX7_told 5 = .ok (.if_icmp .ne 10, 3) := by decide +kernel
theorem dX7_told_8 : decode cX7_told 8 = .ok (.aload_n 0, 1) := by decide +kernel
theorem dX7_told_9 : decode cX7_told 9 = .ok (.getfield 15, 3) := by decide +kernel
theorem dX7_told_12 : decode cX7_told 12 = .ok (.goto 7, 3) := by decide +kernel
theorem dX7_told_15 : decode cX7_told 15 = .ok (.aload_n 0, 1) := by decide +kernel
theorem dX7_told_16 : decode cX7_told 16 = .ok (.getfield 18, 3) := by decide +kernel
theorem dX7_told_19 : decode cX7_told 19 = .ok (.ireturn, 1) := by decide +kernel
theorem dX8_init_0 : decode cX8_init 0 = .ok (.aload_n 0, 1) := by decide +kernel
theorem dX8_init_1 : decode cX8_init 1 = .ok (.invokespecial 3, 3) := by decide +kernel
theorem dX8_init_4 : decode cX8_init 4 = .ok (.aload_n 0, 1) := by decide +kernel
theorem dX8_init_5 : decode cX8_init 5 = .ok (.sipush 160, 3) := by decide +kernel
theorem dX8_init_8 : decode cX8_init 8 = .ok (.newarray .int, 2) := by decide +kernel
theorem dX8_init_10 : decode cX8_init 10 = .ok (.putfield 9, 3) := by decide +kernel
theorem dX8_init_13 : decode cX8_init 13 = .ok (.aload_n 0, 1) := by decide +kernel
theorem dX8_init_14 : decode cX8_init 14 = .ok (.iconst 0, 1) := by decide +kernel
theorem dX8_init_15 : decode cX8_init 15 = .ok (.putfield 15, 3) := by decide +kernel
theorem dX8_init_18 : decode cX8_init 18 = .ok (.return_, 1) := by decide +kernel
theorem dX8_signsIn_0 : decode cX8_signsIn 0 = .ok (.iconst 0, 1) := by decide +kernel
theorem dX8_signsIn_1 : decode cX8_signsIn 1 = .ok (.istore_n 1, 1) := by decide +kernel
theorem dX8_signsIn_2 : decode cX8_signsIn 2 = .ok (.bipush 24, 2) := by decide +kernel
theorem dX8_signsIn_4 : decode cX8_signsIn 4 = .ok (.istore_n 2, 1) := by decide +kernel
theorem dX8_signsIn_5 : decode cX8_signsIn 5 = .ok (.iload_n 2, 1) := by decide +kernel
theorem dX8_signsIn_6 : decode cX8_signsIn 6 = .ok (.ifCond .lt 22, 3) := by decide +kernel
theorem dX8_signsIn_9 : decode cX8_signsIn 9 = .ok (.iload_n 0, 1) := by decide +kernel
theorem dX8_signsIn_10 : decode cX8_signsIn 10 = .ok (.iload_n 2, 1) := by decide +kernel
theorem dX8_signsIn_11 : decode cX8_signsIn 11 = .ok (.iushr, 1) := by decide +kernel
theorem dX8_signsIn_12 : decode cX8_signsIn 12 = .ok (.sipush 255, 3) := by decide +kernel
theorem dX8_signsIn_15 : decode cX8_signsIn 15 = .ok (.iand, 1) := by decide +kernel
theorem dX8_signsIn_16 : decode cX8_signsIn 16 = .ok (.ifCond .eq 6, 3) := by decide +kernel
theorem dX8_signsIn_19 : decode cX8_signsIn 19 = .ok (.iinc 1 1, 3) := by decide +kernel
theorem dX8_signsIn_22 : decode cX8_signsIn 22 = .ok (.iinc 2 (-8), 3) := by decide +kernel
theorem dX8_signsIn_25 : decode cX8_signsIn 25 = .ok (.goto (-20), 3) := by decide +kernel
theorem dX8_signsIn_28 : decode cX8_signsIn 28 = .ok (.iload_n 1, 1) := by decide +kernel
theorem dX8_signsIn_29 : decode cX8_signsIn 29 = .ok (.ireturn, 1) := by decide +kernel
theorem dX8_add_0 : decode cX8_add 0 = .ok (.bipush 24, 2) := by decide +kernel
theorem dX8_add_2 : decode cX8_add 2 = .ok (.istore_n 2, 1) := by decide +kernel
theorem dX8_add_3 : decode cX8_add 3 = .ok (.iload_n 2, 1) := by decide +kernel
theorem dX8_add_4 : decode cX8_add 4 = .ok (.ifCond .lt 53, 3) := by decide +kernel
theorem dX8_add_7 : decode cX8_add 7 = .ok (.iload_n 1, 1) := by decide +kernel
theorem dX8_add_8 : decode cX8_add 8 = .ok (.iload_n 2, 1) := by decide +kernel
theorem dX8_add_9 : decode cX8_add 9 = .ok (.iushr, 1) := by decide +kernel
theorem dX8_add_10 : decode cX8_add 10 = .ok (.sipush 255, 3) := by decide +kernel
theorem dX8_add_13 : decode cX8_add 13 = .ok (.iand, 1) := by decide +kernel
theorem dX8_add_14 : decode cX8_add 14 = .ok (.istore_n 3, 1) := by decide +kernel
theorem dX8_add_15 : decode cX8_add 15 = .ok (.iload_n 3, 1) := by decide +kernel
theorem dX8_add_16 : decode cX8_add 16 = .ok (.ifCond .eq 35, 3) := by decide +kernel
theorem dX8_add_19 : decode cX8_add 19 = .ok (.aload_n 0, 1) := by decide +kernel
theorem dX8_add_20 : decode cX8_add 20 = .ok (.getfield 15, 3) := by decide +kernel
theorem dX8_add_23 : decode cX8_add 23 = .ok (.aload_n 0, 1) := by decide +kernel
theorem dX8_add_24 : decode cX8_add 24 = .ok (.getfield 9, 3) := by decide +kernel
theorem dX8_add_27 : decode cX8_add 27 = .ok (.arraylength, 1) := by decide +kernel
theorem dX8_add_28 : decode cX8_add 28 = .ok (.if_icmp .ge 23, 3) := by decide +kernel
theorem dX8_add_31 : decode cX8_add 31 = .ok (.aload_n 0, 1) := by decide +kernel
theorem dX8_add_32 : decode cX8_add 32 = .ok (.getfield 9, 3) := by decide +kernel
theorem dX8_add_35 : decode cX8_add 35 = .ok (.aload_n 0, 1) := by decide +kernel
theorem dX8_add_36 : decode cX8_add 36 = .ok (.getfield 15, 3) := by decide +kernel
theorem dX8_add_39 : decode cX8_add 39 = .ok (.iload_n 3, 1) := by decide +kernel
theorem dX8_add_40 : decode cX8_add 40 = .ok (.iastore, 1) := by decide +kernel
theorem dX8_add_41 : decode cX8_add 41 = .ok (.aload_n 0, 1) := by decide +kernel
theorem dX8_add_42 : decode cX8_add 42 = .ok (.dup, 1) := by decide +kernel
theorem dX8_add_43 : decode cX8_add 43 = .ok (.getfield 15, 3) := by decide +kernel
theorem dX8_add_46 : decode cX8_add 46 = .ok (.iconst 1, 1) := by decide +kernel
theorem dX8_add_47 : decode cX8_add 47 = .ok (.iadd, 1) := by decide +kernel
theorem dX8_add_48 : decode cX8_add 48 = .ok (.putfield 15, 3) := by decide +kernel
theorem dX8_add_51 : decode cX8_add 51 = .ok (.iinc 2 (-8), 3) := by decide +kernel
theorem dX8_add_54 : decode cX8_add 54 = .ok (.goto (-51), 3) := by decide +kernel
theorem dX8_add_57 : decode cX8_add 57 = .ok (.return_, 1) := by decide +kernel
theorem dX9_init_0 : decode cX9_init 0 = .ok (.aload_n 0, 1) := by decide +kernel
theorem dX9_init_1 : decode cX9_init 1 = .ok (.invokespecial 3, 3) := by decide +kernel
theorem dX9_init_4 : decode cX9_init 4 = .ok (.aload_n 0, 1) := by decide +kernel
theorem dX9_init_5 : decode cX9_init 5 = .ok (.iconst 0, 1) := by decide +kernel
theorem dX9_init_6 : decode cX9_init 6 = .ok (.putfield 9, 3) := by decide +kernel
theorem dX9_init_9 : decode cX9_init 9 = .ok (.aload_n 0, 1) := by decide +kernel
theorem dX9_init_10 : decode cX9_init 10 = .ok (.iconst 0, 1) := by decide +kernel
theorem dX9_init_11 : decode cX9_init 11 = .ok (.putfield 15, 3) := by decide +kernel
theorem dX9_init_14 : decode cX9_init 14 = .ok (.aload_n 0, 1) := by decide +kernel
theorem dX9_init_15 : decode cX9_init 15 = .ok (.bipush 16, 2) := by decide +kernel
theorem dX9_init_17 : decode cX9_init 17 = .ok (.newarray .int, 2) := by decide +kernel
theorem dX9_init_19 : decode cX9_init 19 = .ok (.putfield 18, 3) := by decide +kernel
theorem dX9_init_22 : decode cX9_init 22 = .ok (.return_, 1) := by decide +kernel
theorem dX9_make_0 : decode cX9_make 0 = .ok (.iload_n 1, 1) := by decide +kernel
theorem dX9_make_1 : decode cX9_make 1 = .ok (.iconst 1, 1) := by decide +kernel
theorem dX9_make_2 : decode cX9_make 2 = .ok (.bipush 16, 2) := by decide +kernel
theorem dX9_make_4 : decode cX9_make 4 = .ok (.invokestatic 22, 3) := by decide +kernel
theorem dX9_make_7 : decode cX9_make 7 = .ok (.ifCond .eq 12, 3) := by decide +kernel
theorem dX9_make_10 : decode cX9_make 10 = .ok (.iload_n 2, 1) := by decide +kernel
theorem dX9_make_11 : decode cX9_make 11 = .ok (.iconst 0, 1) := by decide +kernel
theorem dX9_make_12 : decode cX9_make 12 = .ok (.iconst 3, 1) := by decide +kernel
theorem dX9_make_13 : decode cX9_make 13 = .ok (.invokestatic 22, 3) := by decide +kernel
theorem dX9_make_16 : decode cX9_make 16 = .ok (.ifCond .ne 5, 3) := by decide +kernel
theorem dX9_make_19 : decode cX9_make 19 = .ok (.iconst 0, 1) := by decide +kernel
theorem dX9_make_20 : decode cX9_make 20 = .ok (.ireturn, 1) := by decide +kernel
theorem dX9_make_21 : decode cX9_make 21 = .ok (.aload_n 0, 1) := by decide +kernel
theorem dX9_make_22 : decode cX9_make 22 = .ok (.iconst 1, 1) := by decide +kernel
theorem dX9_make_23 : decode cX9_make 23 = .ok (.putfield 9, 3) := by decide +kernel
theorem dX9_make_26 : decode cX9_make 26 = .ok (.aload_n 0, 1) := by decide +kernel
theorem dX9_make_27 : decode cX9_make 27 = .ok (.getfield 9, 3) := by decide +kernel
theorem dX9_make_30 : decode cX9_make 30 = .ok (.bipush 8, 2) := by decide +kernel
theorem dX9_make_32 : decode cX9_make 32 = .ok (.if_icmp .gt 32, 3) := by decide +kernel
theorem dX9_make_35 : decode cX9_make 35 = .ok (.aload_n 0, 1) := by decide +kernel
theorem dX9_make_36 : decode cX9_make 36 = .ok (.iload_n 1, 1) := by decide +kernel
theorem dX9_make_37 : decode cX9_make 37 = .ok (.iload_n 2, 1) := by decide +kernel
theorem dX9_make_38 : decode cX9_make 38 = .ok (.invokevirtual 26, 3) := by decide +kernel
theorem dX9_make_41 : decode cX9_make 41 = .ok (.aload_n 0, 1) := by decide +kernel
theorem dX9_make_42 : decode cX9_make 42 = .ok (.getfield 15, 3) := by decide +kernel
theorem dX9_make_45 : decode cX9_make 45 = .ok (.iload_n 1, 1) := by decide +kernel
theorem dX9_make_46 : decode cX9_make 46 = .ok (.if_icmp .lt 5, 3) := by decide +kernel
theorem dX9_make_49 : decode cX9_make 49 = .ok (.iconst 1, 1) := by decide +kernel
theorem dX9_make_50 : decode cX9_make 50 = .ok (.ireturn, 1) := by decide +kernel
theorem dX9_make_51 : decode cX9_make 51 = .ok (.aload_n 0, 1) := by decide +kernel
theorem dX9_make_52 : decode cX9_make 52 = .ok (.dup, 1) := by decide +kernel
theorem dX9_make_53 : decode cX9_make 53 = .ok (.getfield 9, 3) := by decide +kernel
theorem dX9_make_56 : decode cX9_make 56 = .ok (.iconst 1, 1) := by decide +kernel
theorem dX9_make_57 : decode cX9_make 57 = .ok (.iadd, 1) := by decide +kernel
theorem dX9_make_58 : decode cX9_make 58 = .ok (.putfield 9, 3) := by decide +kernel
theorem dX9_make_61 : decode cX9_make 61 = .ok (.goto (-35), 3) := by decide +kernel
theorem dX9_make_64 : decode cX9_make 64 = .ok (.iconst 0, 1) := by decide +kernel
theorem dX9_make_65 : decode cX9_make 65 = .ok (.ireturn, 1) := by decide +kernel
theorem dX9_takeWords_0 : decode cX9_takeWords 0 = .ok (.aload_n 0, 1) := by decide +kernel
theorem dX9_takeWords_1 : decode cX9_takeWords 1 = .ok (.iconst 0, 1) := by decide +kernel
theorem dX9_takeWords_2 : decode cX9_takeWords 2 = .ok (.putfield 15, 3) := by decide +kernel
theorem dX9_takeWords_5 : decode cX9_takeWords 5 = .ok (.iconst 0, 1) := by decide +kernel
theorem dX9_takeWords_6 : decode cX9_takeWords 6 = .ok (.istore_n 3, 1) := by decide +kernel
theorem dX9_takeWords_7 : decode cX9_takeWords 7 = .ok (.iload_n 3, 1) := by decide +kernel
theorem dX9_takeWords_8 : decode cX9_takeWords 8 = .ok (.iconst 1, 1) := by decide +kernel
theorem dX9_takeWords_9 : decode cX9_takeWords 9 = .ok (.aload_n 0, 1) := by decide +kernel
theorem dX9_takeWords_10 : decode cX9_takeWords 10 = .ok (.getfield 9, 3) := by decide +kernel
theorem dX9_takeWords_13 : decode cX9_takeWords 13 = .ok (.ishl, 1) := by decide +kernel
theorem dX9_takeWords_14 : decode cX9_takeWords 14 = .ok (.if_icmp .ge 58, 3) := by decide +kernel
theorem dX9_takeWords_17 : decode cX9_takeWords 17 = .ok (.aload_n 0, 1) := by decide +kernel
theorem dX9_takeWords_18 : decode cX9_takeWords 18 = .ok (.getfield 15, 3) := by decide +kernel
theorem dX9_takeWords_21 : decode cX9_takeWords 21 = .ok (.iload_n 1, 1) := by decide +kernel
theorem dX9_takeWords_22 : decode cX9_takeWords 22 = .ok (.if_icmp .ge 50, 3) := by decide +kernel
theorem dX9_takeWords_25 : decode cX9_takeWords 25 = .ok (.aload_n 0, 1) := by decide +kernel
theorem dX9_takeWords_26 : decode cX9_takeWords 26 = .ok (.getfield 15, 3) := by decide +kernel
theorem dX9_takeWords_29 : decode cX9_takeWords 29 = .ok (.aload_n 0, 1) := by decide +kernel
theorem dX9_takeWords_30 : decode cX9_takeWords 30 = .ok (.getfield 18, 3) := by decide +kernel
theorem dX9_takeWords_33 : decode cX9_takeWords 33 = .ok (.arraylength, 1) := by decide +kernel
theorem dX9_takeWords_34 : decode cX9_takeWords 34 = .ok (.if_icmp .ge 38, 3) := by decide +kernel
theorem dX9_takeWords_37 : decode cX9_takeWords 37 = .ok (.aload_n 0, 1) := by decide +kernel
theorem dX9_takeWords_38 : decode cX9_takeWords 38 = .ok (.iload_n 3, 1) := by decide +kernel
theorem dX9_takeWords_39 : decode cX9_takeWords 39 = .ok (.iload_n 2, 1) := by decide +kernel
theorem dX9_takeWords_40 : decode cX9_takeWords 40 = .ok (.invokevirtual 30, 3) := by decide +kernel
theorem dX9_takeWords_43 : decode cX9_takeWords 43 = .ok (.ifCond .eq 23, 3) := by decide +kernel
theorem dX9_takeWords_46 : decode cX9_takeWords 46 = .ok (.aload_n 0, 1) := by decide +kernel
theorem dX9_takeWords_47 : decode cX9_takeWords 47 = .ok (.getfield 18, 3) := by decide +kernel
theorem dX9_takeWords_50 : decode cX9_takeWords 50 = .ok (.aload_n 0, 1) := by decide +kernel
theorem dX9_takeWords_51 : decode cX9_takeWords 51 = .ok (.getfield 15, 3) := by decide +kernel
theorem dX9_takeWords_54 : decode cX9_takeWords 54 = .ok (.iload_n 3, 1) := by decide +kernel
theorem dX9_takeWords_55 : decode cX9_takeWords 55 = .ok (.iastore, 1) := by decide +kernel
theorem dX9_takeWords_56 : decode cX9_takeWords 56 = .ok (.aload_n 0, 1) := by decide +kernel
theorem dX9_takeWords_57 : decode cX9_takeWords 57 = .ok (.dup, 1) := by decide +kernel
theorem dX9_takeWords_58 : decode cX9_takeWords 58 = .ok (.getfield 15, 3) := by decide +kernel
theorem dX9_takeWords_61 : decode cX9_takeWords 61 = .ok (.iconst 1, 1) := by decide +kernel
theorem dX9_takeWords_62 : decode cX9_takeWords 62 = .ok (.iadd, 1) := by decide +kernel
theorem dX9_takeWords_63 : decode cX9_takeWords 63 = .ok (.putfield 15, 3) := by decide +kernel
theorem dX9_takeWords_66 : decode cX9_takeWords 66 = .ok (.iinc 3 1, 3) := by decide +kernel
theorem dX9_takeWords_69 : decode cX9_takeWords 69 = .ok (.goto (-62), 3) := by decide +kernel
theorem dX9_takeWords_72 : decode cX9_takeWords 72 = .ok (.return_, 1) := by decide +kernel
theorem dX9_isApart_0 : decode cX9_isApart 0 = .ok (.iconst 0, 1) := by decide +kernel
theorem dX9_isApart_1 : decode cX9_isApart 1 = .ok (.istore_n 3, 1) := by decide +kernel
theorem dX9_isApart_2 : decode cX9_isApart 2 = .ok (.iload_n 3, 1) := by decide +kernel
theorem dX9_isApart_3 : decode cX9_isApart 3 = .ok (.aload_n 0, 1) := by decide +kernel
theorem dX9_isApart_4 : decode cX9_isApart 4 = .ok (.getfield 15, 3) := by decide +kernel
theorem dX9_isApart_7 : decode cX9_isApart 7 = .ok (.if_icmp .ge 26, 3) := by decide +kernel
theorem dX9_isApart_10 : decode cX9_isApart 10 = .ok (.aload_n 0, 1) := by decide +kernel
theorem dX9_isApart_11 : decode cX9_isApart 11 = .ok (.getfield 18, 3) := by decide +kernel
theorem dX9_isApart_14 : decode cX9_isApart 14 = .ok (.iload_n 3, 1) := by decide +kernel
theorem dX9_isApart_15 : decode cX9_isApart 15 = .ok (.iaload, 1) := by decide +kernel
theorem dX9_isApart_16 : decode cX9_isApart 16 = .ok (.iload_n 1, 1) := by decide +kernel
theorem dX9_isApart_17 : decode cX9_isApart 17 = .ok (.ixor, 1) := by decide +kernel
theorem dX9_isApart_18 : decode cX9_isApart 18 = .ok (.invokestatic 34, 3) := by decide +kernel
theorem dX9_isApart_21 : decode cX9_isApart 21 = .ok (.iload_n 2, 1) := by decide +kernel
theorem dX9_isApart_22 : decode cX9_isApart 22 = .ok (.if_icmp .gt 5, 3) := by decide +kernel
theorem dX9_isApart_25 : decode cX9_isApart 25 = .ok (.iconst 0, 1) := by decide +kernel
theorem dX9_isApart_26 : decode cX9_isApart 26 = .ok (.ireturn, 1) := by decide +kernel
theorem dX9_isApart_27 : decode cX9_isApart 27 = .ok (.iinc 3 1, 3) := by decide +kernel
theorem dX9_isApart_30 : decode cX9_isApart 30 = .ok (.goto (-28), 3) := by decide +kernel
theorem dX9_isApart_33 : decode cX9_isApart 33 = .ok (.iconst 1, 1) := by decide +kernel
theorem dX9_isApart_34 : decode cX9_isApart 34 = .ok (.ireturn, 1) := by decide +kernel
theorem dX9_wordAt_0 : decode cX9_wordAt 0 = .ok (.iload_n 1, 1) := by decide +kernel
theorem dX9_wordAt_1 : decode cX9_wordAt 1 = .ok (.iconst 0, 1) := by decide +kernel
theorem dX9_wordAt_2 : decode cX9_wordAt 2 = .ok (.aload_n 0, 1) := by decide +kernel
theorem dX9_wordAt_3 : decode cX9_wordAt 3 = .ok (.getfield 15, 3) := by decide +kernel
theorem dX9_wordAt_6 : decode cX9_wordAt 6 = .ok (.iconst 1, 1) := by decide +kernel
theorem dX9_wordAt_7 : decode cX9_wordAt 7 = .ok (.isub, 1) := by decide +kernel
theorem dX9_wordAt_8 : decode cX9_wordAt 8 = .ok (.invokestatic 22, 3) := by decide +kernel
theorem dX9_wordAt_11 : decode cX9_wordAt 11 = .ok (.ifCond .eq 12, 3) := by decide +kernel
theorem dX9_wordAt_14 : decode cX9_wordAt 14 = .ok (.aload_n 0, 1) := by decide +kernel
theorem dX9_wordAt_15 : decode cX9_wordAt 15 = .ok (.getfield 18, 3) := by decide +kernel
theorem dX9_wordAt_18 : decode cX9_wordAt 18 = .ok (.iload_n 1, 1) := by decide +kernel
theorem dX9_wordAt_19 : decode cX9_wordAt 19 = .ok (.iaload, 1) := by decide +kernel
theorem dX9_wordAt_20 : decode cX9_wordAt 20 = .ok (.goto 4, 3) := by decide +kernel
theorem dX9_wordAt_23 : decode cX9_wordAt 23 = .ok (.iconst (-1), 1) := by decide +kernel
theorem dX9_wordAt_24 : decode cX9_wordAt 24 = .ok (.ireturn, 1) := by decide +kernel
theorem dX9_meaningOf_0 : decode cX9_meaningOf 0 = .ok (.iload_n 1, 1) := by decide +kernel
theorem dX9_meaningOf_1 : decode cX9_meaningOf 1 = .ok (.iconst 0, 1) := by decide +kernel
theorem dX9_meaningOf_2 : decode cX9_meaningOf 2 = .ok (.iconst 1, 1) := by decide +kernel
theorem dX9_meaningOf_3 : decode cX9_meaningOf 3 = .ok (.aload_n 0, 1) := by decide +kernel
theorem dX9_meaningOf_4 : decode cX9_meaningOf 4 = .ok (.getfield 9, 3) := by decide +kernel
theorem dX9_meaningOf_7 : decode cX9_meaningOf 7 = .ok (.ishl, 1) := by decide +kernel
theorem dX9_meaningOf_8 : decode cX9_meaningOf 8 = .ok (.iconst 1, 1) := by decide +kernel
theorem dX9_meaningOf_9 : decode cX9_meaningOf 9 = .ok (.isub, 1) := by decide +kernel
theorem dX9_meaningOf_10 : decode cX9_meaningOf 10 = .ok (.invokestatic 22, 3) := by decide +kernel
theorem dX9_meaningOf_13 : decode cX9_meaningOf 13 = .ok (.ifCond .ne 5, 3) := by decide +kernel
theorem dX9_meaningOf_16 : decode cX9_meaningOf 16 = .ok (.iconst (-1), 1) := by decide +kernel
theorem dX9_meaningOf_17 : decode cX9_meaningOf 17 = .ok (.ireturn, 1) := by decide +kernel
theorem dX9_meaningOf_18 : decode cX9_meaningOf 18 = .ok (.bipush 9, 2) := by decide +kernel
theorem dX9_meaningOf_20 : decode cX9_meaningOf 20 = .ok (.istore_n 2, 1) := by decide +kernel
theorem dX9_meaningOf_21 : decode cX9_meaningOf 21 = .ok (.iconst (-1), 1) := by decide +kernel
theorem dX9_meaningOf_22 : decode cX9_meaningOf 22 = .ok (.istore_n 3, 1) := by decide +kernel
theorem dX9_meaningOf_23 : decode cX9_meaningOf 23 = .ok (.iconst 0, 1) := by decide +kernel
theorem dX9_meaningOf_24 : decode cX9_meaningOf 24 = .ok (.istore 4, 2) := by decide +kernel
theorem dX9_meaningOf_26 : decode cX9_meaningOf 26 = .ok (.iload 4, 2) := by decide +kernel
theorem dX9_meaningOf_28 : decode cX9_meaningOf 28 = .ok (.aload_n 0, 1) := by decide +kernel
theorem dX9_meaningOf_29 : decode cX9_meaningOf 29 = .ok (.getfield 15, 3) := by decide +kernel
theorem dX9_meaningOf_32 : decode cX9_meaningOf 32 = .ok (.if_icmp .ge 46, 3) := by decide +kernel
theorem dX9_meaningOf_35 : decode cX9_meaningOf 35 = .ok (.aload_n 0, 1) := by decide +kernel
theorem dX9_meaningOf_36 : decode cX9_meaningOf 36 = .ok (.getfield 18, 3) := by decide +kernel
theorem dX9_meaningOf_39 : decode cX9_meaningOf 39 = .ok (.iload 4, 2) := by decide +kernel
theorem dX9_meaningOf_41 : decode cX9_meaningOf 41 = .ok (.iaload, 1) := by decide +kernel
theorem dX9_meaningOf_42 : decode cX9_meaningOf 42 = .ok (.iload_n 1, 1) := by decide +kernel
theorem dX9_meaningOf_43 : decode cX9_meaningOf 43 = .ok (.ixor, 1) := by decide +kernel
theorem dX9_meaningOf_44 : decode cX9_meaningOf 44 = .ok (.invokestatic 34, 3) := by decide +kernel
theorem dX9_meaningOf_47 : decode cX9_meaningOf 47 = .ok (.istore 5, 2) := by decide +kernel
theorem dX9_meaningOf_49 : decode cX9_meaningOf 49 = .ok (.iload 5, 2) := by decide +kernel
theorem dX9_meaningOf_51 : decode cX9_meaningOf 51 = .ok (.iload_n 2, 1) := by decide +kernel
theorem dX9_meaningOf_52 : decode cX9_meaningOf 52 = .ok (.if_icmp .ge 12, 3) := by decide +kernel
theorem dX9_meaningOf_55 : decode cX9_meaningOf 55 = .ok (.iload 5, 2) := by decide +kernel
theorem dX9_meaningOf_57 : decode cX9_meaningOf 57 = .ok (.istore_n 2, 1) := by decide +kernel
theorem dX9_meaningOf_58 : decode cX9_meaningOf 58 = .ok (.iload 4, 2) := by decide +kernel
theorem dX9_meaningOf_60 : decode cX9_meaningOf 60 = .ok (.istore_n 3, 1) := by decide +kernel
theorem dX9_meaningOf_61 : decode cX9_meaningOf 61 = .ok (.goto 11, 3) := by decide +kernel
theorem dX9_meaningOf_64 : decode cX9_meaningOf 64 = .ok (.iload 5, 2) := by decide +kernel
theorem dX9_meaningOf_66 : decode cX9_meaningOf 66 = .ok (.iload_n 2, 1) := by decide +kernel
theorem dX9_meaningOf_67 : decode cX9_meaningOf 67 = .ok (.if_icmp .ne 5, 3) := by decide +kernel
theorem dX9_meaningOf_70 : decode cX9_meaningOf 70 = .ok (.iconst (-1), 1) := by decide +kernel
theorem dX9_meaningOf_71 : decode cX9_meaningOf 71 = .ok (.istore_n 3, 1) := by decide +kernel
theorem dX9_meaningOf_72 : decode cX9_meaningOf 72 = .ok (.iinc 4 1, 3) := by decide +kernel
theorem dX9_meaningOf_75 : decode cX9_meaningOf 75 = .ok (.goto (-49), 3) := by decide +kernel
theorem dX9_meaningOf_78 : decode cX9_meaningOf 78 = .ok (.iload_n 3, 1) := by decide +kernel
theorem dX9_meaningOf_79 : decode cX9_meaningOf 79 = .ok (.ireturn, 1) := by decide +kernel
theorem dX9_leastApart_0 : decode cX9_leastApart 0 = .ok (.bipush 9, 2) := by decide +kernel
theorem dX9_leastApart_2 : decode cX9_leastApart 2 = .ok (.istore_n 1, 1) := by decide +kernel
theorem dX9_leastApart_3 : decode cX9_leastApart 3 = .ok (.iconst 1, 1) := by decide +kernel
theorem dX9_leastApart_4 : decode cX9_leastApart 4 = .ok (.istore_n 2, 1) := by decide +kernel
theorem dX9_leastApart_5 : decode cX9_leastApart 5 = .ok (.iload_n 2, 1) := by decide +kernel
theorem dX9_leastApart_6 : decode cX9_leastApart 6 = .ok (.aload_n 0, 1) := by decide +kernel
theorem dX9_leastApart_7 : decode cX9_leastApart 7 = .ok (.getfield 15, 3) := by decide +kernel
theorem dX9_leastApart_10 : decode cX9_leastApart 10 = .ok (.if_icmp .ge 43, 3) := by decide +kernel
theorem dX9_leastApart_13 : decode cX9_leastApart 13 = .ok (.iconst 0, 1) := by decide +kernel
theorem dX9_leastApart_14 : decode cX9_leastApart 14 = .ok (.istore_n 3, 1) := by decide +kernel
theorem dX9_leastApart_15 : decode cX9_leastApart 15 = .ok (.iload_n 3, 1) := by decide +kernel
theorem dX9_leastApart_16 : decode cX9_leastApart 16 = .ok (.iload_n 2, 1) := by decide +kernel
theorem dX9_leastApart_17 : decode cX9_leastApart 17 = .ok (.if_icmp .ge 30, 3) := by decide +kernel
theorem dX9_leastApart_20 : decode cX9_leastApart 20 = .ok (.iload_n 1, 1) := by decide +kernel
theorem dX9_leastApart_21 : decode cX9_leastApart 21 = .ok (.aload_n 0, 1) := by decide +kernel
theorem dX9_leastApart_22 : decode cX9_leastApart 22 = .ok (.getfield 18, 3) := by decide +kernel
theorem dX9_leastApart_25 : decode cX9_leastApart 25 = .ok (.iload_n 2, 1) := by decide +kernel
theorem dX9_leastApart_26 : decode cX9_leastApart 26 = .ok (.iaload, 1) := by decide +kernel
theorem dX9_leastApart_27 : decode cX9_leastApart 27 = .ok (.aload_n 0, 1) := by decide +kernel
theorem dX9_leastApart_28 : decode cX9_leastApart 28 = .ok (.getfield 18, 3) := by decide +kernel
theorem dX9_leastApart_31 : decode cX9_leastApart 31 = .ok (.iload_n 3, 1) := by decide +kernel
theorem dX9_leastApart_32 : decode cX9_leastApart 32 = .ok (.iaload, 1) := by decide +kernel
theorem dX9_leastApart_33 : decode cX9_leastApart 33 = .ok (.ixor, 1) := by decide +kernel
theorem dX9_leastApart_34 : decode cX9_leastApart 34 = .ok (.invokestatic 34, 3) := by decide +kernel
theorem dX9_leastApart_37 : decode cX9_leastApart 37 = .ok (.invokestatic 40, 3) := by decide +kernel
theorem dX9_leastApart_40 : decode cX9_leastApart 40 = .ok (.istore_n 1, 1) := by decide +kernel
theorem dX9_leastApart_41 : decode cX9_leastApart 41 = .ok (.iinc 3 1, 3) := by decide +kernel
theorem dX9_leastApart_44 : decode cX9_leastApart 44 = .ok (.goto (-29), 3) := by decide +kernel
theorem dX9_leastApart_47 : decode cX9_leastApart 47 = .ok (.iinc 2 1, 3) := by decide +kernel
theorem dX9_leastApart_50 : decode cX9_leastApart 50 = .ok (.goto (-45), 3) := by decide +kernel
theorem dX9_leastApart_53 : decode cX9_leastApart 53 = .ok (.aload_n 0, 1) := by decide +kernel
theorem dX9_leastApart_54 : decode cX9_leastApart 54 = .ok (.getfield 15, 3) := by decide +kernel
theorem dX9_leastApart_57 : decode cX9_leastApart 57 = .ok (.iconst 2, 1) := by decide +kernel
theorem dX9_leastApart_58 : decode cX9_leastApart 58 = .ok (.if_icmp .ge 7, 3) := by decide +kernel
theorem dX9_leastApart_61 : decode cX9_leastApart 61 = .ok (.iconst (-1), 1) := by decide +kernel
theorem dX9_leastApart_62 : decode cX9_leastApart 62 = .ok (.goto 4, 3) := by decide +kernel
theorem dX9_leastApart_65 : decode cX9_leastApart 65 = .ok (.iload_n 1, 1) := by decide +kernel
theorem dX9_leastApart_66 : decode cX9_leastApart 66 = .ok (.ireturn, 1) := by decide +kernel
theorem dX10_init_0 : decode cX10_init 0 = .ok (.aload_n 0, 1) := by decide +kernel
theorem dX10_init_1 : decode cX10_init 1 = .ok (.invokespecial 3, 3) := by decide +kernel
theorem dX10_init_4 : decode cX10_init 4 = .ok (.aload_n 0, 1) := by decide +kernel
theorem dX10_init_5 : decode cX10_init 5 = .ok (.iconst 0, 1) := by decide +kernel
theorem dX10_init_6 : decode cX10_init 6 = .ok (.putfield 9, 3) := by decide +kernel
theorem dX10_init_9 : decode cX10_init 9 = .ok (.aload_n 0, 1) := by decide +kernel
theorem dX10_init_10 : decode cX10_init 10 = .ok (.iconst (-1), 1) := by decide +kernel
theorem dX10_init_11 : decode cX10_init 11 = .ok (.putfield 15, 3) := by decide +kernel
theorem dX10_init_14 : decode cX10_init 14 = .ok (.aload_n 0, 1) := by decide +kernel
theorem dX10_init_15 : decode cX10_init 15 = .ok (.sipush 640, 3) := by decide +kernel
theorem dX10_init_18 : decode cX10_init 18 = .ok (.newarray .int, 2) := by decide +kernel
theorem dX10_init_20 : decode cX10_init 20 = .ok (.putfield 18, 3) := by decide +kernel
theorem dX10_init_23 : decode cX10_init 23 = .ok (.aload_n 0, 1) := by decide +kernel
theorem dX10_init_24 : decode cX10_init 24 = .ok (.iconst 4, 1) := by decide +kernel
theorem dX10_init_25 : decode cX10_init 25 = .ok (.newarray .int, 2) := by decide +kernel
theorem dX10_init_27 : decode cX10_init 27 = .ok (.putfield 22, 3) := by decide +kernel
theorem dX10_init_30 : decode cX10_init 30 = .ok (.aload_n 0, 1) := by decide +kernel
theorem dX10_init_31 : decode cX10_init 31 = .ok (.iconst 5, 1) := by decide +kernel
theorem dX10_init_32 : decode cX10_init 32 = .ok (.newarray .int, 2) := by decide +kernel
theorem dX10_init_34 : decode cX10_init 34 = .ok (.putfield 25, 3) := by decide +kernel
theorem dX10_init_37 : decode cX10_init 37 = .ok (.aload_n 0, 1) := by decide +kernel
theorem dX10_init_38 : decode cX10_init 38 = .ok (.iconst 0, 1) := by decide +kernel
theorem dX10_init_39 : decode cX10_init 39 = .ok (.putfield 28, 3) := by decide +kernel
theorem dX10_init_42 : decode cX10_init 42 = .ok (.aload_n 0, 1) := by decide +kernel
theorem dX10_init_43 : decode cX10_init 43 = .ok (.iconst 0, 1) := by decide +kernel
theorem dX10_init_44 : decode cX10_init 44 = .ok (.putfield 32, 3) := by decide +kernel
theorem dX10_init_47 : decode cX10_init 47 = .ok (.return_, 1) := by decide +kernel
theorem dX10_faultOf_0 : decode cX10_faultOf 0 = .ok (.aload_n 0, 1) := by decide +kernel
theorem dX10_faultOf_1 : decode cX10_faultOf 1 = .ok (.aload_n 1, 1) := by decide +kernel
theorem dX10_faultOf_2 : decode cX10_faultOf 2 = .ok (.getfield 35, 3) := by decide +kernel
theorem dX10_faultOf_5 : decode cX10_faultOf 5 = .ok (.iconst 0, 1) := by decide +kernel
theorem dX10_faultOf_6 : decode cX10_faultOf 6 = .ok (.aload_n 1, 1) := by decide +kernel
theorem dX10_faultOf_7 : decode cX10_faultOf 7 = .ok (.getfield 40, 3) := by decide +kernel
theorem dX10_faultOf_10 : decode cX10_faultOf 10 = .ok (.invokevirtual 43, 3) := by decide +kernel
theorem dX10_faultOf_13 : decode cX10_faultOf 13 = .ok (.aload_n 0, 1) := by decide +kernel
theorem dX10_faultOf_14 : decode cX10_faultOf 14 = .ok (.invokevirtual 47, 3) := by decide +kernel
theorem dX10_faultOf_17 : decode cX10_faultOf 17 = .ok (.aload_n 0, 1) := by decide +kernel
theorem dX10_faultOf_18 : decode cX10_faultOf 18 = .ok (.invokevirtual 50, 3) := by decide +kernel
theorem dX10_faultOf_21 : decode cX10_faultOf 21 = .ok (.ireturn, 1) := by decide +kernel
theorem dX10_keep_0 : decode cX10_keep 0 = .ok (.aload_n 0, 1) := by decide +kernel
theorem dX10_keep_1 : decode cX10_keep 1 = .ok (.getfield 9, 3) := by decide +kernel
theorem dX10_keep_4 : decode cX10_keep 4 = .ok (.iconst 0, 1) := by decide +kernel
theorem dX10_keep_5 : decode cX10_keep 5 = .ok (.iconst 3, 1) := by decide +kernel
theorem dX10_keep_6 : decode cX10_keep 6 = .ok (.invokestatic 54, 3) := by decide +kernel
theorem dX10_keep_9 : decode cX10_keep 9 = .ok (.ifCond .eq 64, 3) := by decide +kernel
theorem dX10_keep_12 : decode cX10_keep 12 = .ok (.aload_n 1, 1) := by decide +kernel
theorem dX10_keep_13 : decode cX10_keep 13 = .ok (.getfield 40, 3) := by decide +kernel
theorem dX10_keep_16 : decode cX10_keep 16 = .ok (.iconst 0, 1) := by decide +kernel
theorem dX10_keep_17 : decode cX10_keep 17 = .ok (.sipush 160, 3) := by decide +kernel
theorem dX10_keep_20 : decode cX10_keep 20 = .ok (.invokestatic 54, 3) := by decide +kernel
theorem dX10_keep_23 : decode cX10_keep 23 = .ok (.ifCond .eq 50, 3) := by decide +kernel
theorem dX10_keep_26 : decode cX10_keep 26 = .ok (.aload_n 1, 1) := by decide +kernel
theorem dX10_keep_27 : decode cX10_keep 27 = .ok (.getfield 35, 3) := by decide +kernel
theorem dX10_keep_30 : decode cX10_keep 30 = .ok (.iconst 0, 1) := by decide +kernel
theorem dX10_keep_31 : decode cX10_keep 31 = .ok (.aload_n 0, 1) := by decide +kernel
theorem dX10_keep_32 : decode cX10_keep 32 = .ok (.getfield 18, 3) := by decide +kernel
theorem dX10_keep_35 : decode cX10_keep 35 = .ok (.aload_n 0, 1) := by decide +kernel
theorem dX10_keep_36 : decode cX10_keep 36 = .ok (.getfield 9, 3) := by decide +kernel
theorem dX10_keep_39 : decode cX10_keep 39 = .ok (.sipush 160, 3) := by decide +kernel
theorem dX10_keep_42 : decode cX10_keep 42 = .ok (.imul, 1) := by decide +kernel
theorem dX10_keep_43 : decode cX10_keep 43 = .ok (.aload_n 1, 1) := by decide +kernel
theorem dX10_keep_44 : decode cX10_keep 44 = .ok (.getfield 40, 3) := by decide +kernel
theorem dX10_keep_47 : decode cX10_keep 47 = .ok (.invokestatic 58, 3) := by decide +kernel
theorem dX10_keep_50 : decode cX10_keep 50 = .ok (.aload_n 0, 1) := by decide +kernel
theorem dX10_keep_51 : decode cX10_keep 51 = .ok (.getfield 22, 3) := by decide +kernel
theorem dX10_keep_54 : decode cX10_keep 54 = .ok (.aload_n 0, 1) := by decide +kernel
theorem dX10_keep_55 : decode cX10_keep 55 = .ok (.getfield 9, 3) := by decide +kernel
theorem dX10_keep_58 : decode cX10_keep 58 = .ok (.aload_n 1, 1) := by decide +kernel
theorem dX10_keep_59 : decode cX10_keep 59 = .ok (.getfield 40, 3) := by decide +kernel
theorem dX10_keep_62 : decode cX10_keep 62 = .ok (.iastore, 1) := by decide +kernel
theorem dX10_keep_63 : decode cX10_keep 63 = .ok (.aload_n 0, 1) := by decide +kernel
theorem dX10_keep_64 : decode cX10_keep 64 = .ok (.dup, 1) := by decide +kernel
theorem dX10_keep_65 : decode cX10_keep 65 = .ok (.getfield 9, 3) := by decide +kernel
theorem dX10_keep_68 : decode cX10_keep 68 = .ok (.iconst 1, 1) := by decide +kernel
theorem dX10_keep_69 : decode cX10_keep 69 = .ok (.iadd, 1) := by decide +kernel
theorem dX10_keep_70 : decode cX10_keep 70 = .ok (.putfield 9, 3) := by decide +kernel
theorem dX10_keep_73 : decode cX10_keep 73 = .ok (.return_, 1) := by decide +kernel
theorem dX10_reckonFor_0 : decode cX10_reckonFor 0 = .ok (.aload_n 0, 1) := by decide +kernel
theorem dX10_reckonFor_1 : decode cX10_reckonFor 1 = .ok (.getfield 15, 3) := by decide +kernel
theorem dX10_reckonFor_4 : decode cX10_reckonFor 4 = .ok (.iconst 0, 1) := by decide +kernel
theorem dX10_reckonFor_5 : decode cX10_reckonFor 5 = .ok (.iconst 3, 1) := by decide +kernel
theorem dX10_reckonFor_6 : decode cX10_reckonFor 6 = .ok (.invokestatic 54, 3) := by decide +kernel
theorem dX10_reckonFor_9 : decode cX10_reckonFor 9 = .ok (.istore_n 2, 1) := by decide +kernel
theorem dX10_reckonFor_10 : decode cX10_reckonFor 10 = .ok (.iload_n 2, 1) := by decide +kernel
theorem dX10_reckonFor_11 : decode cX10_reckonFor 11 = .ok (.ifCond .eq 28, 3) := by decide +kernel
theorem dX10_reckonFor_14 : decode cX10_reckonFor 14 = .ok (.aload_n 0, 1) := by decide +kernel
theorem dX10_reckonFor_15 : decode cX10_reckonFor 15 = .ok (.aload_n 0, 1) := by decide +kernel
theorem dX10_reckonFor_16 : decode cX10_reckonFor 16 = .ok (.getfield 18, 3) := by decide +kernel
theorem dX10_reckonFor_19 : decode cX10_reckonFor 19 = .ok (.aload_n 0, 1) := by decide +kernel
theorem dX10_reckonFor_20 : decode cX10_reckonFor 20 = .ok (.getfield 15, 3) := by decide +kernel
theorem dX10_reckonFor_23 : decode cX10_reckonFor 23 = .ok (.sipush 160, 3) := by decide +kernel
theorem dX10_reckonFor_26 : decode cX10_reckonFor 26 = .ok (.imul, 1) := by decide +kernel
theorem dX10_reckonFor_27 : decode cX10_reckonFor 27 = .ok (.aload_n 0, 1) := by decide +kernel
theorem dX10_reckonFor_28 : decode cX10_reckonFor 28 = .ok (.getfield 22, 3) := by decide +kernel
theorem dX10_reckonFor_31 : decode cX10_reckonFor 31 = .ok (.aload_n 0, 1) := by decide +kernel
theorem dX10_reckonFor_32 : decode cX10_reckonFor 32 = .ok (.getfield 15, 3) := by decide +kernel
theorem dX10_reckonFor_35 : decode cX10_reckonFor 35 = .ok (.iaload, 1) := by decide +kernel
theorem dX10_reckonFor_36 : decode cX10_reckonFor 36 = .ok (.invokevirtual 43, 3) := by decide +kernel
theorem dX10_reckonFor_39 : decode cX10_reckonFor 39 = .ok (.iconst 0, 1) := by decide +kernel
theorem dX10_reckonFor_40 : decode cX10_reckonFor 40 = .ok (.istore_n 3, 1) := by decide +kernel
theorem dX10_reckonFor_41 : decode cX10_reckonFor 41 = .ok (.iload_n 3, 1) := by decide +kernel
theorem dX10_reckonFor_42 : decode cX10_reckonFor 42 = .ok (.aload_n 1, 1) := by decide +kernel
theorem dX10_reckonFor_43 : decode cX10_reckonFor 43 = .ok (.getfield 64, 3) := by decide +kernel
theorem dX10_reckonFor_46 : decode cX10_reckonFor 46 = .ok (.if_icmp .ge 56, 3) := by decide +kernel
theorem dX10_reckonFor_49 : decode cX10_reckonFor 49 = .ok (.aload_n 0, 1) := by decide +kernel
theorem dX10_reckonFor_50 : decode cX10_reckonFor 50 = .ok (.aload_n 1, 1) := by decide +kernel
theorem dX10_reckonFor_51 : decode cX10_reckonFor 51 = .ok (.iload_n 3, 1) := by decide +kernel
theorem dX10_reckonFor_52 : decode cX10_reckonFor 52 = .ok (.iconst 3, 1) := by decide +kernel
theorem dX10_reckonFor_53 : decode cX10_reckonFor 53 = .ok (.invokevirtual 69, 3) := by decide +kernel
theorem dX10_reckonFor_56 : decode cX10_reckonFor 56 = .ok (.putfield 32, 3) := by decide +kernel
theorem dX10_reckonFor_59 : decode cX10_reckonFor 59 = .ok (.iload_n 2, 1) := by decide +kernel
theorem dX10_reckonFor_60 : decode cX10_reckonFor 60 = .ok (.ifCond .eq 17, 3) := by decide +kernel
theorem dX10_reckonFor_63 : decode cX10_reckonFor 63 = .ok (.aload_n 0, 1) := by decide +kernel
theorem dX10_reckonFor_64 : decode cX10_reckonFor 64 = .ok (.aload_n 1, 1) := by decide +kernel
theorem dX10_reckonFor_65 : decode cX10_reckonFor 65 = .ok (.iload_n 3, 1) := by decide +kernel
theorem dX10_reckonFor_66 : decode cX10_reckonFor 66 = .ok (.invokevirtual 73, 3) := by decide +kernel
theorem dX10_reckonFor_69 : decode cX10_reckonFor 69 = .ok (.aload_n 0, 1) := by decide +kernel
theorem dX10_reckonFor_70 : decode cX10_reckonFor 70 = .ok (.invokevirtual 77, 3) := by decide +kernel
theorem dX10_reckonFor_73 : decode cX10_reckonFor 73 = .ok (.aload_n 0, 1) := by decide +kernel
theorem dX10_reckonFor_74 : decode cX10_reckonFor 74 = .ok (.invokevirtual 47, 3) := by decide +kernel
theorem dX10_reckonFor_77 : decode cX10_reckonFor 77 = .ok (.aload_n 1, 1) := by decide +kernel
theorem dX10_reckonFor_78 : decode cX10_reckonFor 78 = .ok (.iload_n 3, 1) := by decide +kernel
theorem dX10_reckonFor_79 : decode cX10_reckonFor 79 = .ok (.iconst 0, 1) := by decide +kernel
theorem dX10_reckonFor_80 : decode cX10_reckonFor 80 = .ok (.sipush 999, 3) := by decide +kernel
theorem dX10_reckonFor_83 : decode cX10_reckonFor 83 = .ok (.aload_n 0, 1) := by decide +kernel
theorem dX10_reckonFor_84 : decode cX10_reckonFor 84 = .ok (.getfield 32, 3) := by decide +kernel
theorem dX10_reckonFor_87 : decode cX10_reckonFor 87 = .ok (.invokestatic 80, 3) := by decide +kernel
theorem dX10_reckonFor_90 : decode cX10_reckonFor 90 = .ok (.invokestatic 85, 3) := by decide +kernel
theorem dX10_reckonFor_93 : decode cX10_reckonFor 93 = .ok (.invokevirtual 88, 3) := by decide +kernel
theorem dX10_reckonFor_96 : decode cX10_reckonFor 96 = .ok (.iinc 3 1, 3) := by decide +kernel
theorem dX10_reckonFor_99 : decode cX10_reckonFor 99 = .ok (.goto (-58), 3) := by decide +kernel
theorem dX10_reckonFor_102 : decode cX10_reckonFor 102 = .ok (.return_, 1) := by decide +kernel
theorem dX10_letItBe_0 : decode cX10_letItBe 0 = .ok (.aload_n 0, 1) := by decide +kernel
theorem dX10_letItBe_1 : decode cX10_letItBe 1 = .ok (.getfield 25, 3) := by decide +kernel
theorem dX10_letItBe_4 : decode cX10_letItBe 4 = .ok (.iconst 0, 1) := by decide +kernel
theorem dX10_letItBe_5 : decode cX10_letItBe 5 = .ok (.aload_n 1, 1) := by decide +kernel
theorem dX10_letItBe_6 : decode cX10_letItBe 6 = .ok (.iload_n 2, 1) := by decide +kernel
theorem dX10_letItBe_7 : decode cX10_letItBe 7 = .ok (.iconst 3, 1) := by decide +kernel
theorem dX10_letItBe_8 : decode cX10_letItBe 8 = .ok (.invokevirtual 69, 3) := by decide +kernel
theorem dX10_letItBe_11 : decode cX10_letItBe 11 = .ok (.iastore, 1) := by decide +kernel
theorem dX10_letItBe_12 : decode cX10_letItBe 12 = .ok (.aload_n 0, 1) := by decide +kernel
theorem dX10_letItBe_13 : decode cX10_letItBe 13 = .ok (.getfield 25, 3) := by decide +kernel
theorem dX10_letItBe_16 : decode cX10_letItBe 16 = .ok (.iconst 1, 1) := by decide +kernel
theorem dX10_letItBe_17 : decode cX10_letItBe 17 = .ok (.iload_n 2, 1) := by decide +kernel
theorem dX10_letItBe_18 : decode cX10_letItBe 18 = .ok (.iastore, 1) := by decide +kernel
theorem dX10_letItBe_19 : decode cX10_letItBe 19 = .ok (.aload_n 0, 1) := by decide +kernel
theorem dX10_letItBe_20 : decode cX10_letItBe 20 = .ok (.getfield 25, 3) := by decide +kernel
theorem dX10_letItBe_23 : decode cX10_letItBe 23 = .ok (.iconst 2, 1) := by decide +kernel
theorem dX10_letItBe_24 : decode cX10_letItBe 24 = .ok (.aload_n 1, 1) := by decide +kernel
theorem dX10_letItBe_25 : decode cX10_letItBe 25 = .ok (.iload_n 2, 1) := by decide +kernel
theorem dX10_letItBe_26 : decode cX10_letItBe 26 = .ok (.iconst 1, 1) := by decide +kernel
theorem dX10_letItBe_27 : decode cX10_letItBe 27 = .ok (.invokevirtual 69, 3) := by decide +kernel
theorem dX10_letItBe_30 : decode cX10_letItBe 30 = .ok (.iastore, 1) := by decide +kernel
theorem dX10_letItBe_31 : decode cX10_letItBe 31 = .ok (.aload_n 0, 1) := by decide +kernel
theorem dX10_letItBe_32 : decode cX10_letItBe 32 = .ok (.getfield 25, 3) := by decide +kernel
theorem dX10_letItBe_35 : decode cX10_letItBe 35 = .ok (.iconst 3, 1) := by decide +kernel
theorem dX10_letItBe_36 : decode cX10_letItBe 36 = .ok (.aload_n 1, 1) := by decide +kernel
theorem dX10_letItBe_37 : decode cX10_letItBe 37 = .ok (.iload_n 2, 1) := by decide +kernel
theorem dX10_letItBe_38 : decode cX10_letItBe 38 = .ok (.iconst 2, 1) := by decide +kernel
theorem dX10_letItBe_39 : decode cX10_letItBe 39 = .ok (.invokevirtual 69, 3) := by decide +kernel
theorem dX10_letItBe_42 : decode cX10_letItBe 42 = .ok (.iastore, 1) := by decide +kernel
theorem dX10_letItBe_43 : decode cX10_letItBe 43 = .ok (.aload_n 0, 1) := by decide +kernel
theorem dX10_letItBe_44 : decode cX10_letItBe 44 = .ok (.getfield 25, 3) := by decide +kernel
theorem dX10_letItBe_47 : decode cX10_letItBe 47 = .ok (.iconst 4, 1) := by decide +kernel
theorem dX10_letItBe_48 : decode cX10_letItBe 48 = .ok (.aload_n 1, 1) := by decide +kernel
theorem dX10_letItBe_49 : decode cX10_letItBe 49 = .ok (.iload_n 2, 1) := by decide +kernel
theorem dX10_letItBe_50 : decode cX10_letItBe 50 = .ok (.iconst 0, 1) := by decide +kernel
theorem dX10_letItBe_51 : decode cX10_letItBe 51 = .ok (.invokevirtual 69, 3) := by decide +kernel
theorem dX10_letItBe_54 : decode cX10_letItBe 54 = .ok (.iastore, 1) := by decide +kernel
theorem dX10_letItBe_55 : decode cX10_letItBe 55 = .ok (.return_, 1) := by decide +kernel
theorem dX10_readClauses_0 : decode cX10_readClauses 0 = .ok (.aload_n 0, 1) := by decide +kernel
theorem dX10_readClauses_1 : decode cX10_readClauses 1 = .ok (.iconst 0, 1) := by decide +kernel
theorem dX10_readClauses_2 : decode cX10_readClauses 2 = .ok (.putfield 28, 3) := by decide +kernel
theorem dX10_readClauses_5 : decode cX10_readClauses 5 = .ok (.aload_n 0, 1) := by decide +kernel
theorem dX10_readClauses_6 : decode cX10_readClauses 6 = .ok (.iconst 0, 1) := by decide +kernel
theorem dX10_readClauses_7 : decode cX10_readClauses 7 = .ok (.putfield 32, 3) := by decide +kernel
theorem dX10_readClauses_10 : decode cX10_readClauses 10 = .ok (.iconst 0, 1) := by decide +kernel
theorem dX10_readClauses_11 : decode cX10_readClauses 11 = .ok (.istore_n 1, 1) := by decide +kernel
theorem dX10_readClauses_12 : decode cX10_readClauses 12 = .ok (.iload_n 1, 1) := by decide +kernel
theorem dX10_readClauses_13 : decode cX10_readClauses 13 = .ok (.sipush 160, 3) := by decide +kernel
theorem dX10_readClauses_16 : decode cX10_readClauses 16 = .ok (.if_icmp .gt 36, 3) := by decide +kernel
theorem dX10_readClauses_19 : decode cX10_readClauses 19 = .ok (.aload_n 0, 1) := by decide +kernel
theorem dX10_readClauses_20 : decode cX10_readClauses 20 = .ok (.invokevirtual 92, 3) := by decide +kernel
theorem dX10_readClauses_23 : decode cX10_readClauses 23 = .ok (.aload_n 0, 1) := by decide +kernel
theorem dX10_readClauses_24 : decode cX10_readClauses 24 = .ok (.invokevirtual 95, 3) := by decide +kernel
theorem dX10_readClauses_27 : decode cX10_readClauses 27 = .ok (.ifCond .ne 12, 3) := by decide +kernel
theorem dX10_readClauses_30 : decode cX10_readClauses 30 = .ok (.aload_n 0, 1) := by decide +kernel
theorem dX10_readClauses_31 : decode cX10_readClauses 31 = .ok (.invokevirtual 99, 3) := by decide +kernel
theorem dX10_readClauses_34 : decode cX10_readClauses 34 = .ok (.bipush (-2), 2) := by decide +kernel
theorem dX10_readClauses_36 : decode cX10_readClauses 36 = .ok (.if_icmp .ne 4, 3) := by decide +kernel
theorem dX10_readClauses_39 : decode cX10_readClauses 39 = .ok (.return_, 1) := by decide +kernel
theorem dX10_readClauses_40 : decode cX10_readClauses 40 = .ok (.aload_n 0, 1) := by decide +kernel
theorem dX10_readClauses_41 : decode cX10_readClauses 41 = .ok (.bipush 59, 2) := by decide +kernel
theorem dX10_readClauses_43 : decode cX10_readClauses 43 = .ok (.invokevirtual 102, 3) := by decide +kernel
theorem dX10_readClauses_46 : decode cX10_readClauses 46 = .ok (.iinc 1 1, 3) := by decide +kernel
theorem dX10_readClauses_49 : decode cX10_readClauses 49 = .ok (.goto (-37), 3) := by decide +kernel
theorem dX10_readClauses_52 : decode cX10_readClauses 52 = .ok (.return_, 1) := by decide +kernel
theorem dX10_readClause_0 : decode cX10_readClause 0 = .ok (.aload_n 0, 1) := by decide +kernel
theorem dX10_readClause_1 : decode cX10_readClause 1 = .ok (.bipush 121, 2) := by decide +kernel
theorem dX10_readClause_3 : decode cX10_readClause 3 = .ok (.invokevirtual 102, 3) := by decide +kernel
theorem dX10_readClause_6 : decode cX10_readClause 6 = .ok (.aload_n 0, 1) := by decide +kernel
theorem dX10_readClause_7 : decode cX10_readClause 7 = .ok (.bipush 58, 2) := by decide +kernel
theorem dX10_readClause_9 : decode cX10_readClause 9 = .ok (.invokevirtual 102, 3) := by decide +kernel
theorem dX10_readClause_12 : decode cX10_readClause 12 = .ok (.aload_n 0, 1) := by decide +kernel
theorem dX10_readClause_13 : decode cX10_readClause 13 = .ok (.invokevirtual 95, 3) := by decide +kernel
theorem dX10_readClause_16 : decode cX10_readClause 16 = .ok (.ifCond .eq 4, 3) := by decide +kernel
theorem dX10_readClause_19 : decode cX10_readClause 19 = .ok (.return_, 1) := by decide +kernel
theorem dX10_readClause_20 : decode cX10_readClause 20 = .ok (.iconst 1, 1) := by decide +kernel
theorem dX10_readClause_21 : decode cX10_readClause 21 = .ok (.istore_n 1, 1) := by decide +kernel
theorem dX10_readClause_22 : decode cX10_readClause 22 = .ok (.aload_n 0, 1) := by decide +kernel
theorem dX10_readClause_23 : decode cX10_readClause 23 = .ok (.invokevirtual 106, 3) := by decide +kernel
theorem dX10_readClause_26 : decode cX10_readClause 26 = .ok (.ifCond .eq 15, 3) := by decide +kernel
theorem dX10_readClause_29 : decode cX10_readClause 29 = .ok (.aload_n 0, 1) := by decide +kernel
theorem dX10_readClause_30 : decode cX10_readClause 30 = .ok (.iconst 0, 1) := by decide +kernel
theorem dX10_readClause_31 : decode cX10_readClause 31 = .ok (.invokevirtual 109, 3) := by decide +kernel
theorem dX10_readClause_34 : decode cX10_readClause 34 = .ok (.istore_n 1, 1) := by decide +kernel
theorem dX10_readClause_35 : decode cX10_readClause 35 = .ok (.aload_n 0, 1) := by decide +kernel
theorem dX10_readClause_36 : decode cX10_readClause 36 = .ok (.bipush 63, 2) := by decide +kernel
theorem dX10_readClause_38 : decode cX10_readClause 38 = .ok (.invokevirtual 102, 3) := by decide +kernel
theorem dX10_readClause_41 : decode cX10_readClause 41 = .ok (.aload_n 0, 1) := by decide +kernel
theorem dX10_readClause_42 : decode cX10_readClause 42 = .ok (.invokevirtual 95, 3) := by decide +kernel
theorem dX10_readClause_45 : decode cX10_readClause 45 = .ok (.ifCond .eq 7, 3) := by decide +kernel
theorem dX10_readClause_48 : decode cX10_readClause 48 = .ok (.iconst 0, 1) := by decide +kernel
theorem dX10_readClause_49 : decode cX10_readClause 49 = .ok (.goto 8, 3) := by decide +kernel
theorem dX10_readClause_52 : decode cX10_readClause 52 = .ok (.aload_n 0, 1) := by decide +kernel
theorem dX10_readClause_53 : decode cX10_readClause 53 = .ok (.iconst 0, 1) := by decide +kernel
theorem dX10_readClause_54 : decode cX10_readClause 54 = .ok (.invokevirtual 113, 3) := by decide +kernel
theorem dX10_readClause_57 : decode cX10_readClause 57 = .ok (.istore_n 2, 1) := by decide +kernel
theorem dX10_readClause_58 : decode cX10_readClause 58 = .ok (.iload_n 1, 1) := by decide +kernel
theorem dX10_readClause_59 : decode cX10_readClause 59 = .ok (.ifCond .eq 20, 3) := by decide +kernel
theorem dX10_readClause_62 : decode cX10_readClause 62 = .ok (.aload_n 0, 1) := by decide +kernel
theorem dX10_readClause_63 : decode cX10_readClause 63 = .ok (.getfield 28, 3) := by decide +kernel
theorem dX10_readClause_66 : decode cX10_readClause 66 = .ok (.ifCond .ne 13, 3) := by decide +kernel
theorem dX10_readClause_69 : decode cX10_readClause 69 = .ok (.aload_n 0, 1) := by decide +kernel
theorem dX10_readClause_70 : decode cX10_readClause 70 = .ok (.iconst 1, 1) := by decide +kernel
theorem dX10_readClause_71 : decode cX10_readClause 71 = .ok (.putfield 28, 3) := by decide +kernel
theorem dX10_readClause_74 : decode cX10_readClause 74 = .ok (.aload_n 0, 1) := by decide +kernel
theorem dX10_readClause_75 : decode cX10_readClause 75 = .ok (.iload_n 2, 1) := by decide +kernel
theorem dX10_readClause_76 : decode cX10_readClause 76 = .ok (.putfield 32, 3) := by decide +kernel
theorem dX10_readClause_79 : decode cX10_readClause 79 = .ok (.return_, 1) := by decide +kernel
theorem dX10_hasCondition_0 : decode cX10_hasCondition 0 = .ok (.aload_n 0, 1) := by decide +kernel
theorem dX10_hasCondition_1 : decode cX10_hasCondition 1 = .ok (.invokevirtual 99, 3) := by decide +kernel
theorem dX10_hasCondition_4 : decode cX10_hasCondition 4 = .ok (.istore_n 1, 1) := by decide +kernel
theorem dX10_hasCondition_5 : decode cX10_hasCondition 5 = .ok (.iload_n 1, 1) := by decide +kernel
theorem dX10_hasCondition_6 : decode cX10_hasCondition 6 = .ok (.bipush 33, 2) := by decide +kernel
theorem dX10_hasCondition_8 : decode cX10_hasCondition 8 = .ok (.if_icmp .eq 9, 3) := by decide +kernel
theorem dX10_hasCondition_11 : decode cX10_hasCondition 11 = .ok (.iload_n 1, 1) := by decide +kernel
theorem dX10_hasCondition_12 : decode cX10_hasCondition 12 = .ok (.bipush 40, 2) := by decide +kernel
theorem dX10_hasCondition_14 : decode cX10_hasCondition 14 = .ok (.if_icmp .ne 5, 3) := by decide +kernel
theorem dX10_hasCondition_17 : decode cX10_hasCondition 17 = .ok (.iconst 1, 1) := by decide +kernel
theorem dX10_hasCondition_18 : decode cX10_hasCondition 18 = .ok (.ireturn, 1) := by decide +kernel
theorem dX10_hasCondition_19 : decode cX10_hasCondition 19 = .ok (.aload_n 0, 1) := by decide +kernel
theorem dX10_hasCondition_20 : decode cX10_hasCondition 20 = .ok (.invokevirtual 117, 3) := by decide +kernel
theorem dX10_hasCondition_23 : decode cX10_hasCondition 23 = .ok (.istore_n 2, 1) := by decide +kernel
theorem dX10_hasCondition_24 : decode cX10_hasCondition 24 = .ok (.aload_n 0, 1) := by decide +kernel
theorem dX10_hasCondition_25 : decode cX10_hasCondition 25 = .ok (.iconst 0, 1) := by decide +kernel
theorem dX10_hasCondition_26 : decode cX10_hasCondition 26 = .ok (.invokevirtual 113, 3) := by decide +kernel
theorem dX10_hasCondition_29 : decode cX10_hasCondition 29 = .ok (.pop, 1) := by decide +kernel
theorem dX10_hasCondition_30 : decode cX10_hasCondition 30 = .ok (.aload_n 0, 1) := by decide +kernel
theorem dX10_hasCondition_31 : decode cX10_hasCondition 31 = .ok (.invokevirtual 95, 3) := by decide +kernel
theorem dX10_hasCondition_34 : decode cX10_hasCondition 34 = .ok (.ifCond .eq 5, 3) := by decide +kernel
theorem dX10_hasCondition_37 : decode cX10_hasCondition 37 = .ok (.iconst 0, 1) := by decide +kernel
theorem dX10_hasCondition_38 : decode cX10_hasCondition 38 = .ok (.ireturn, 1) := by decide +kernel
theorem dX10_hasCondition_39 : decode cX10_hasCondition 39 = .ok (.aload_n 0, 1) := by decide +kernel
theorem dX10_hasCondition_40 : decode cX10_hasCondition 40 = .ok (.invokevirtual 99, 3) := by decide +kernel
theorem dX10_hasCondition_43 : decode cX10_hasCondition 43 = .ok (.invokestatic 120, 3) := by decide +kernel
theorem dX10_hasCondition_46 : decode cX10_hasCondition 46 = .ok (.istore_n 3, 1) := by decide +kernel
theorem dX10_hasCondition_47 : decode cX10_hasCondition 47 = .ok (.aload_n 0, 1) := by decide +kernel
theorem dX10_hasCondition_48 : decode cX10_hasCondition 48 = .ok (.iload_n 2, 1) := by decide +kernel
theorem dX10_hasCondition_49 : decode cX10_hasCondition 49 = .ok (.invokevirtual 123, 3) := by decide +kernel
theorem dX10_hasCondition_52 : decode cX10_hasCondition 52 = .ok (.iload_n 3, 1) := by decide +kernel
theorem dX10_hasCondition_53 : decode cX10_hasCondition 53 = .ok (.ireturn, 1) := by decide +kernel
theorem dX10_isComparison_0 : decode cX10_isComparison 0 = .ok (.iload_n 0, 1) := by decide +kernel
theorem dX10_isComparison_1 : decode cX10_isComparison 1 = .ok (.bipush 61, 2) := by decide +kernel
theorem dX10_isComparison_3 : decode cX10_isComparison 3 = .ok (.if_icmp .eq 15, 3) := by decide +kernel
theorem dX10_isComparison_6 : decode cX10_isComparison 6 = .ok (.iload_n 0, 1) := by decide +kernel
theorem dX10_isComparison_7 : decode cX10_isComparison 7 = .ok (.bipush 60, 2) := by decide +kernel
theorem dX10_isComparison_9 : decode cX10_isComparison 9 = .ok (.if_icmp .eq 9, 3) := by decide +kernel
theorem dX10_isComparison_12 : decode cX10_isComparison 12 = .ok (.iload_n 0, 1) := by decide +kernel
theorem dX10_isComparison_13 : decode cX10_isComparison 13 = .ok (.bipush 62, 2) := by decide +kernel
theorem dX10_isComparison_15 : decode cX10_isComparison 15 = .ok (.if_icmp .ne 7, 3) := by decide +kernel
theorem dX10_isComparison_18 : decode cX10_isComparison 18 = .ok (.iconst 1, 1) := by decide +kernel
theorem dX10_isComparison_19 : decode cX10_isComparison 19 = .ok (.goto 4, 3) := by decide +kernel
theorem dX10_isComparison_22 : decode cX10_isComparison 22 = .ok (.iconst 0, 1) := by decide +kernel
theorem dX10_isComparison_23 : decode cX10_isComparison 23 = .ok (.ireturn, 1) := by decide +kernel
theorem dX10_readCondition_0 : decode cX10_readCondition 0 = .ok (.iconst 0, 1) := by decide +kernel
theorem dX10_readCondition_1 : decode cX10_readCondition 1 = .ok (.istore_n 2, 1) := by decide +kernel
theorem dX10_readCondition_2 : decode cX10_readCondition 2 = .ok (.iconst 1, 1) := by decide +kernel
theorem dX10_readCondition_3 : decode cX10_readCondition 3 = .ok (.istore_n 3, 1) := by decide +kernel
theorem dX10_readCondition_4 : decode cX10_readCondition 4 = .ok (.iconst 0, 1) := by decide +kernel
theorem dX10_readCondition_5 : decode cX10_readCondition 5 = .ok (.istore 4, 2) := by decide +kernel
theorem dX10_readCondition_7 : decode cX10_readCondition 7 = .ok (.iload 4, 2) := by decide +kernel
theorem dX10_readCondition_9 : decode cX10_readCondition 9 = .ok (.sipush 160, 3) := by decide +kernel
theorem dX10_readCondition_12 : decode cX10_readCondition 12 = .ok (.if_icmp .gt 76, 3) := by decide +kernel
theorem dX10_readCondition_15 : decode cX10_readCondition 15 = .ok (.aload_n 0, 1) := by decide +kernel
theorem dX10_readCondition_16 : decode cX10_readCondition 16 = .ok (.iload_n 1, 1) := by decide +kernel
theorem dX10_readCondition_17 : decode cX10_readCondition 17 = .ok (.invokevirtual 126, 3) := by decide +kernel
theorem dX10_readCondition_20 : decode cX10_readCondition 20 = .ok (.istore 5, 2) := by decide +kernel
theorem dX10_readCondition_22 : decode cX10_readCondition 22 = .ok (.iload_n 3, 1) := by decide +kernel
theorem dX10_readCondition_23 : decode cX10_readCondition 23 = .ok (.ifCond .eq 12, 3) := by decide +kernel
theorem dX10_readCondition_26 : decode cX10_readCondition 26 = .ok (.iload 5, 2) := by decide +kernel
theorem dX10_readCondition_28 : decode cX10_readCondition 28 = .ok (.ifCond .eq 7, 3) := by decide +kernel
theorem dX10_readCondition_31 : decode cX10_readCondition 31 = .ok (.iconst 1, 1) := by decide +kernel
theorem dX10_readCondition_32 : decode cX10_readCondition 32 = .ok (.goto 4, 3) := by decide +kernel
theorem dX10_readCondition_35 : decode cX10_readCondition 35 = .ok (.iconst 0, 1) := by decide +kernel
theorem dX10_readCondition_36 : decode cX10_readCondition 36 = .ok (.istore_n 3, 1) := by decide +kernel
theorem dX10_readCondition_37 : decode cX10_readCondition 37 = .ok (.aload_n 0, 1) := by decide +kernel
theorem dX10_readCondition_38 : decode cX10_readCondition 38 = .ok (.invokevirtual 95, 3) := by decide +kernel
theorem dX10_readCondition_41 : decode cX10_readCondition 41 = .ok (.ifCond .eq 5, 3) := by decide +kernel
theorem dX10_readCondition_44 : decode cX10_readCondition 44 = .ok (.iconst 0, 1) := by decide +kernel
theorem dX10_readCondition_45 : decode cX10_readCondition 45 = .ok (.ireturn, 1) := by decide +kernel
theorem dX10_readCondition_46 : decode cX10_readCondition 46 = .ok (.aload_n 0, 1) := by decide +kernel
theorem dX10_readCondition_47 : decode cX10_readCondition 47 = .ok (.bipush 38, 2) := by decide +kernel
theorem dX10_readCondition_49 : decode cX10_readCondition 49 = .ok (.invokevirtual 129, 3) := by decide +kernel
theorem dX10_readCondition_52 : decode cX10_readCondition 52 = .ok (.ifCond .ne 30, 3) := by decide +kernel
theorem dX10_readCondition_55 : decode cX10_readCondition 55 = .ok (.iload_n 2, 1) := by decide +kernel
theorem dX10_readCondition_56 : decode cX10_readCondition 56 = .ok (.ifCond .ne 7, 3) := by decide +kernel
theorem dX10_readCondition_59 : decode cX10_readCondition 59 = .ok (.iload_n 3, 1) := by decide +kernel
theorem dX10_readCondition_60 : decode cX10_readCondition 60 = .ok (.ifCond .eq 7, 3) := by decide +kernel
theorem dX10_readCondition_63 : decode cX10_readCondition 63 = .ok (.iconst 1, 1) := by decide +kernel
theorem dX10_readCondition_64 : decode cX10_readCondition 64 = .ok (.goto 4, 3) := by decide +kernel
theorem dX10_readCondition_67 : decode cX10_readCondition 67 = .ok (.iconst 0, 1) := by decide +kernel
theorem dX10_readCondition_68 : decode cX10_readCondition 68 = .ok (.istore_n 2, 1) := by decide +kernel
theorem dX10_readCondition_69 : decode cX10_readCondition 69 = .ok (.iconst 1, 1) := by decide +kernel
theorem dX10_readCondition_70 : decode cX10_readCondition 70 = .ok (.istore_n 3, 1) := by decide +kernel
theorem dX10_readCondition_71 : decode cX10_readCondition 71 = .ok (.aload_n 0, 1) := by decide +kernel
theorem dX10_readCondition_72 : decode cX10_readCondition 72 = .ok (.bipush 124, 2) := by decide +kernel
theorem dX10_readCondition_74 : decode cX10_readCondition 74 = .ok (.invokevirtual 129, 3) := by decide +kernel
theorem dX10_readCondition_77 : decode cX10_readCondition 77 = .ok (.ifCond .ne 5, 3) := by decide +kernel
theorem dX10_readCondition_80 : decode cX10_readCondition 80 = .ok (.iload_n 2, 1) := by decide +kernel
theorem dX10_readCondition_81 : decode cX10_readCondition 81 = .ok (.ireturn, 1) := by decide +kernel
theorem dX10_readCondition_82 : decode cX10_readCondition 82 = .ok (.iinc 4 1, 3) := by decide +kernel
theorem dX10_readCondition_85 : decode cX10_readCondition 85 = .ok (.goto (-78), 3) := by decide +kernel
theorem dX10_readCondition_88 : decode cX10_readCondition 88 = .ok (.iload_n 2, 1) := by decide +kernel
theorem dX10_readCondition_89 : decode cX10_readCondition 89 = .ok (.ireturn, 1) := by decide +kernel
theorem dX10_readUnit_0 : decode cX10_readUnit 0 = .ok (.iload_n 1, 1) := by decide +kernel
theorem dX10_readUnit_1 : decode cX10_readUnit 1 = .ok (.bipush 6, 2) := by decide +kernel
theorem dX10_readUnit_3 : decode cX10_readUnit 3 = .ok (.if_icmp .ge 28, 3) := by decide +kernel
theorem dX10_readUnit_6 : decode cX10_readUnit 6 = .ok (.aload_n 0, 1) := by decide +kernel
theorem dX10_readUnit_7 : decode cX10_readUnit 7 = .ok (.bipush 33, 2) := by decide +kernel
theorem dX10_readUnit_9 : decode cX10_readUnit 9 = .ok (.invokevirtual 129, 3) := by decide +kernel
theorem dX10_readUnit_12 : decode cX10_readUnit 12 = .ok (.ifCond .eq 19, 3) := by decide +kernel
theorem dX10_readUnit_15 : decode cX10_readUnit 15 = .ok (.aload_n 0, 1) := by decide +kernel
theorem dX10_readUnit_16 : decode cX10_readUnit 16 = .ok (.iload_n 1, 1) := by decide +kernel
theorem dX10_readUnit_17 : decode cX10_readUnit 17 = .ok (.iconst 1, 1) := by decide +kernel
theorem dX10_readUnit_18 : decode cX10_readUnit 18 = .ok (.iadd, 1) := by decide +kernel
theorem dX10_readUnit_19 : decode cX10_readUnit 19 = .ok (.invokevirtual 126, 3) := by decide +kernel
theorem dX10_readUnit_22 : decode cX10_readUnit 22 = .ok (.ifCond .ne 7, 3) := by decide +kernel
theorem dX10_readUnit_25 : decode cX10_readUnit 25 = .ok (.iconst 1, 1) := by decide +kernel
theorem dX10_readUnit_26 : decode cX10_readUnit 26 = .ok (.goto 4, 3) := by decide +kernel
theorem dX10_readUnit_29 : decode cX10_readUnit 29 = .ok (.iconst 0, 1) := by decide +kernel
theorem dX10_readUnit_30 : decode cX10_readUnit 30 = .ok (.ireturn, 1) := by decide +kernel
theorem dX10_readUnit_31 : decode cX10_readUnit 31 = .ok (.iload_n 1, 1) := by decide +kernel
theorem dX10_readUnit_32 : decode cX10_readUnit 32 = .ok (.bipush 6, 2) := by decide +kernel
theorem dX10_readUnit_34 : decode cX10_readUnit 34 = .ok (.if_icmp .ge 28, 3) := by decide +kernel
theorem dX10_readUnit_37 : decode cX10_readUnit 37 = .ok (.aload_n 0, 1) := by decide +kernel
theorem dX10_readUnit_38 : decode cX10_readUnit 38 = .ok (.bipush 40, 2) := by decide +kernel
theorem dX10_readUnit_40 : decode cX10_readUnit 40 = .ok (.invokevirtual 129, 3) := by decide +kernel
theorem dX10_readUnit_43 : decode cX10_readUnit 43 = .ok (.ifCond .eq 19, 3) := by decide +kernel
theorem dX10_readUnit_46 : decode cX10_readUnit 46 = .ok (.aload_n 0, 1) := by decide +kernel
theorem dX10_readUnit_47 : decode cX10_readUnit 47 = .ok (.iload_n 1, 1) := by decide +kernel
theorem dX10_readUnit_48 : decode cX10_readUnit 48 = .ok (.iconst 1, 1) := by decide +kernel
theorem dX10_readUnit_49 : decode cX10_readUnit 49 = .ok (.iadd, 1) := by decide +kernel
theorem dX10_readUnit_50 : decode cX10_readUnit 50 = .ok (.invokevirtual 109, 3) := by decide +kernel
theorem dX10_readUnit_53 : decode cX10_readUnit 53 = .ok (.istore_n 2, 1) := by decide +kernel
theorem dX10_readUnit_54 : decode cX10_readUnit 54 = .ok (.aload_n 0, 1) := by decide +kernel
theorem dX10_readUnit_55 : decode cX10_readUnit 55 = .ok (.bipush 41, 2) := by decide +kernel
theorem dX10_readUnit_57 : decode cX10_readUnit 57 = .ok (.invokevirtual 102, 3) := by decide +kernel
theorem dX10_readUnit_60 : decode cX10_readUnit 60 = .ok (.iload_n 2, 1) := by decide +kernel
theorem dX10_readUnit_61 : decode cX10_readUnit 61 = .ok (.ireturn, 1) := by decide +kernel
theorem dX10_readUnit_62 : decode cX10_readUnit 62 = .ok (.aload_n 0, 1) := by decide +kernel
theorem dX10_readUnit_63 : decode cX10_readUnit 63 = .ok (.iload_n 1, 1) := by decide +kernel
theorem dX10_readUnit_64 : decode cX10_readUnit 64 = .ok (.invokevirtual 113, 3) := by decide +kernel
theorem dX10_readUnit_67 : decode cX10_readUnit 67 = .ok (.istore_n 2, 1) := by decide +kernel
theorem dX10_readUnit_68 : decode cX10_readUnit 68 = .ok (.aload_n 0, 1) := by decide +kernel
theorem dX10_readUnit_69 : decode cX10_readUnit 69 = .ok (.invokevirtual 99, 3) := by decide +kernel
theorem dX10_readUnit_72 : decode cX10_readUnit 72 = .ok (.istore_n 3, 1) := by decide +kernel
theorem dX10_readUnit_73 : decode cX10_readUnit 73 = .ok (.aload_n 0, 1) := by decide +kernel
theorem dX10_readUnit_74 : decode cX10_readUnit 74 = .ok (.invokevirtual 95, 3) := by decide +kernel
theorem dX10_readUnit_77 : decode cX10_readUnit 77 = .ok (.ifCond .ne 10, 3) := by decide +kernel
theorem dX10_readUnit_80 : decode cX10_readUnit 80 = .ok (.iload_n 3, 1) := by decide +kernel
theorem dX10_readUnit_81 : decode cX10_readUnit 81 = .ok (.invokestatic 120, 3) := by decide +kernel
theorem dX10_readUnit_84 : decode cX10_readUnit 84 = .ok (.ifCond .ne 9, 3) := by decide +kernel
theorem dX10_readUnit_87 : decode cX10_readUnit 87 = .ok (.aload_n 0, 1) := by decide +kernel
theorem dX10_readUnit_88 : decode cX10_readUnit 88 = .ok (.invokevirtual 132, 3) := by decide +kernel
theorem dX10_readUnit_91 : decode cX10_readUnit 91 = .ok (.iconst 0, 1) := by decide +kernel
theorem dX10_readUnit_92 : decode cX10_readUnit 92 = .ok (.ireturn, 1) := by decide +kernel
theorem dX10_readUnit_93 : decode cX10_readUnit 93 = .ok (.aload_n 0, 1) := by decide +kernel
theorem dX10_readUnit_94 : decode cX10_readUnit 94 = .ok (.invokevirtual 135, 3) := by decide +kernel
theorem dX10_readUnit_97 : decode cX10_readUnit 97 = .ok (.aload_n 0, 1) := by decide +kernel
theorem dX10_readUnit_98 : decode cX10_readUnit 98 = .ok (.iload_n 1, 1) := by decide +kernel
theorem dX10_readUnit_99 : decode cX10_readUnit 99 = .ok (.invokevirtual 113, 3) := by decide +kernel
theorem dX10_readUnit_102 : decode cX10_readUnit 102 = .ok (.istore 4, 2) := by decide +kernel
theorem dX10_readUnit_104 : decode cX10_readUnit 104 = .ok (.iload_n 3, 1) := by decide +kernel
theorem dX10_readUnit_105 : decode cX10_readUnit 105 = .ok (.bipush 61, 2) := by decide +kernel
theorem dX10_readUnit_107 : decode cX10_readUnit 107 = .ok (.if_icmp .ne 15, 3) := by decide +kernel
theorem dX10_readUnit_110 : decode cX10_readUnit 110 = .ok (.iload_n 2, 1) := by decide +kernel
theorem dX10_readUnit_111 : decode cX10_readUnit 111 = .ok (.iload 4, 2) := by decide +kernel
theorem dX10_readUnit_113 : decode cX10_readUnit 113 = .ok (.if_icmp .ne 7, 3) := by decide +kernel
theorem dX10_readUnit_116 : decode cX10_readUnit 116 = .ok (.iconst 1, 1) := by decide +kernel
theorem dX10_readUnit_117 : decode cX10_readUnit 117 = .ok (.goto 4, 3) := by decide +kernel
theorem dX10_readUnit_120 : decode cX10_readUnit 120 = .ok (.iconst 0, 1) := by decide +kernel
theorem dX10_readUnit_121 : decode cX10_readUnit 121 = .ok (.ireturn, 1) := by decide +kernel
theorem dX10_readUnit_122 : decode cX10_readUnit 122 = .ok (.iload_n 3, 1) := by decide +kernel
theorem dX10_readUnit_123 : decode cX10_readUnit 123 = .ok (.bipush 60, 2) := by decide +kernel
theorem dX10_readUnit_125 : decode cX10_readUnit 125 = .ok (.if_icmp .ne 17, 3) := by decide +kernel
theorem dX10_readUnit_128 : decode cX10_readUnit 128 = .ok (.iload_n 2, 1) := by decide +kernel
theorem dX10_readUnit_129 : decode cX10_readUnit 129 = .ok (.iload 4, 2) := by decide +kernel
theorem dX10_readUnit_131 : decode cX10_readUnit 131 = .ok (.if_icmp .ge 7, 3) := by decide +kernel
theorem dX10_readUnit_134 : decode cX10_readUnit 134 = .ok (.iconst 1, 1) := by decide +kernel
theorem dX10_readUnit_135 : decode cX10_readUnit 135 = .ok (.goto 18, 3) := by decide +kernel
theorem dX10_readUnit_138 : decode cX10_readUnit 138 = .ok (.iconst 0, 1) := by decide +kernel
theorem dX10_readUnit_139 : decode cX10_readUnit 139 = .ok (.goto 14, 3) := by decide +kernel
theorem dX10_readUnit_142 : decode cX10_readUnit 142 = .ok (.iload_n 2, 1) := by decide +kernel
theorem dX10_readUnit_143 : decode cX10_readUnit 143 = .ok (.iload 4, 2) := by decide +kernel
theorem dX10_readUnit_145 : decode cX10_readUnit 145 = .ok (.if_icmp .le 7, 3) := by decide +kernel
theorem dX10_readUnit_148 : decode cX10_readUnit 148 = .ok (.iconst 1, 1) := by decide +kernel
theorem dX10_readUnit_149 : decode cX10_readUnit 149 = .ok (.goto 4, 3) := by decide +kernel
theorem dX10_readUnit_152 : decode cX10_readUnit 152 = .ok (.iconst 0, 1) := by decide +kernel
theorem dX10_readUnit_153 : decode cX10_readUnit 153 = .ok (.ireturn, 1) := by decide +kernel
theorem dX10_readSum_0 : decode cX10_readSum 0 = .ok (.lconst 0, 1) := by decide +kernel
theorem dX10_readSum_1 : decode cX10_readSum 1 = .ok (.lstore_n 2, 1) := by decide +kernel
theorem dX10_readSum_2 : decode cX10_readSum 2 = .ok (.iconst 0, 1) := by decide +kernel
theorem dX10_readSum_3 : decode cX10_readSum 3 = .ok (.istore 4, 2) := by decide +kernel
theorem dX10_readSum_5 : decode cX10_readSum 5 = .ok (.iconst 0, 1) := by decide +kernel
theorem dX10_readSum_6 : decode cX10_readSum 6 = .ok (.istore 5, 2) := by decide +kernel
theorem dX10_readSum_8 : decode cX10_readSum 8 = .ok (.iload 5, 2) := by decide +kernel
theorem dX10_readSum_10 : decode cX10_readSum 10 = .ok (.sipush 160, 3) := by decide +kernel
theorem dX10_readSum_13 : decode cX10_readSum 13 = .ok (.if_icmp .gt 86, 3) := by decide +kernel
theorem dX10_readSum_16 : decode cX10_readSum 16 = .ok (.aload_n 0, 1) := by decide +kernel
theorem dX10_readSum_17 : decode cX10_readSum 17 = .ok (.iload_n 1, 1) := by decide +kernel
theorem dX10_readSum_18 : decode cX10_readSum 18 = .ok (.invokevirtual 138, 3) := by decide +kernel
theorem dX10_readSum_21 : decode cX10_readSum 21 = .ok (.istore 6, 2) := by decide +kernel
theorem dX10_readSum_23 : decode cX10_readSum 23 = .ok (.iload 4, 2) := by decide +kernel
theorem dX10_readSum_25 : decode cX10_readSum 25 = .ok (.ifCond .eq 11, 3) := by decide +kernel
theorem dX10_readSum_28 : decode cX10_readSum 28 = .ok (.lload_n 2, 1) := by decide +kernel
theorem dX10_readSum_29 : decode cX10_readSum 29 = .ok (.iload 6, 2) := by decide +kernel
theorem dX10_readSum_31 : decode cX10_readSum 31 = .ok (.i2l, 1) := by decide +kernel
theorem dX10_readSum_32 : decode cX10_readSum 32 = .ok (.lsub, 1) := by decide +kernel
theorem dX10_readSum_33 : decode cX10_readSum 33 = .ok (.goto 8, 3) := by decide +kernel
theorem dX10_readSum_36 : decode cX10_readSum 36 = .ok (.lload_n 2, 1) := by decide +kernel
theorem dX10_readSum_37 : decode cX10_readSum 37 = .ok (.iload 6, 2) := by decide +kernel
theorem dX10_readSum_39 : decode cX10_readSum 39 = .ok (.i2l, 1) := by decide +kernel
theorem dX10_readSum_40 : decode cX10_readSum 40 = .ok (.ladd, 1) := by decide +kernel
theorem dX10_readSum_41 : decode cX10_readSum 41 = .ok (.invokestatic 141, 3) := by decide +kernel
theorem dX10_readSum_44 : decode cX10_readSum 44 = .ok (.lstore_n 2, 1) := by decide +kernel
theorem dX10_readSum_45 : decode cX10_readSum 45 = .ok (.aload_n 0, 1) := by decide +kernel
theorem dX10_readSum_46 : decode cX10_readSum 46 = .ok (.invokevirtual 99, 3) := by decide +kernel
theorem dX10_readSum_49 : decode cX10_readSum 49 = .ok (.istore 7, 2) := by decide +kernel
theorem dX10_readSum_51 : decode cX10_readSum 51 = .ok (.aload_n 0, 1) := by decide +kernel
theorem dX10_readSum_52 : decode cX10_readSum 52 = .ok (.invokevirtual 95, 3) := by decide +kernel
theorem dX10_readSum_55 : decode cX10_readSum 55 = .ok (.ifCond .ne 17, 3) := by decide +kernel
theorem dX10_readSum_58 : decode cX10_readSum 58 = .ok (.iload 7, 2) := by decide +kernel
theorem dX10_readSum_60 : decode cX10_readSum 60 = .ok (.bipush 43, 2) := by decide +kernel
theorem dX10_readSum_62 : decode cX10_readSum 62 = .ok (.if_icmp .eq 13, 3) := by decide +kernel
theorem dX10_readSum_65 : decode cX10_readSum 65 = .ok (.iload 7, 2) := by decide +kernel
theorem dX10_readSum_67 : decode cX10_readSum 67 = .ok (.bipush 45, 2) := by decide +kernel
theorem dX10_readSum_69 : decode cX10_readSum 69 = .ok (.if_icmp .eq 6, 3) := by decide +kernel
theorem dX10_readSum_72 : decode cX10_readSum 72 = .ok (.lload_n 2, 1) := by decide +kernel
theorem dX10_readSum_73 : decode cX10_readSum 73 = .ok (.l2i, 1) := by decide +kernel
theorem dX10_readSum_74 : decode cX10_readSum 74 = .ok (.ireturn, 1) := by decide +kernel
theorem dX10_readSum_75 : decode cX10_readSum 75 = .ok (.iload 7, 2) := by decide +kernel
theorem dX10_readSum_77 : decode cX10_readSum 77 = .ok (.bipush 45, 2) := by decide +kernel
theorem dX10_readSum_79 : decode cX10_readSum 79 = .ok (.if_icmp .ne 7, 3) := by decide +kernel
theorem dX10_readSum_82 : decode cX10_readSum 82 = .ok (.iconst 1, 1) := by decide +kernel
theorem dX10_readSum_83 : decode cX10_readSum 83 = .ok (.goto 4, 3) := by decide +kernel
theorem dX10_readSum_86 : decode cX10_readSum 86 = .ok (.iconst 0, 1) := by decide +kernel
theorem dX10_readSum_87 : decode cX10_readSum 87 = .ok (.istore 4, 2) := by decide +kernel
theorem dX10_readSum_89 : decode cX10_readSum 89 = .ok (.aload_n 0, 1) := by decide +kernel
theorem dX10_readSum_90 : decode cX10_readSum 90 = .ok (.invokevirtual 135, 3) := by decide +kernel
theorem dX10_readSum_93 : decode cX10_readSum 93 = .ok (.iinc 5 1, 3) := by decide +kernel
theorem dX10_readSum_96 : decode cX10_readSum 96 = .ok (.goto (-88), 3) := by decide +kernel
theorem dX10_readSum_99 : decode cX10_readSum 99 = .ok (.lload_n 2, 1) := by decide +kernel
theorem dX10_readSum_100 : decode cX10_readSum 100 = .ok (.l2i, 1) := by decide +kernel
theorem dX10_readSum_101 : decode cX10_readSum 101 = .ok (.ireturn, 1) := by decide +kernel
theorem dX10_readTerm_0 : decode cX10_readTerm 0 = .ok (.aload_n 0, 1) := by decide +kernel
theorem dX10_readTerm_1 : decode cX10_readTerm 1 = .ok (.iload_n 1, 1) := by decide +kernel
theorem dX10_readTerm_2 : decode cX10_readTerm 2 = .ok (.invokevirtual 145, 3) := by decide +kernel
theorem dX10_readTerm_5 : decode cX10_readTerm 5 = .ok (.i2l, 1) := by decide +kernel
theorem dX10_readTerm_6 : decode cX10_readTerm 6 = .ok (.lstore_n 2, 1) := by decide +kernel
theorem dX10_readTerm_7 : decode cX10_readTerm 7 = .ok (.iconst 0, 1) := by decide +kernel
theorem dX10_readTerm_8 : decode cX10_readTerm 8 = .ok (.istore 4, 2) := by decide +kernel
theorem dX10_readTerm_10 : decode cX10_readTerm 10 = .ok (.iload 4, 2) := by decide +kernel
theorem dX10_readTerm_12 : decode cX10_readTerm 12 = .ok (.sipush 160, 3) := by decide +kernel
theorem dX10_readTerm_15 : decode cX10_readTerm 15 = .ok (.if_icmp .gt 87, 3) := by decide +kernel
theorem dX10_readTerm_18 : decode cX10_readTerm 18 = .ok (.aload_n 0, 1) := by decide +kernel
theorem dX10_readTerm_19 : decode cX10_readTerm 19 = .ok (.invokevirtual 99, 3) := by decide +kernel
theorem dX10_readTerm_22 : decode cX10_readTerm 22 = .ok (.istore 5, 2) := by decide +kernel
theorem dX10_readTerm_24 : decode cX10_readTerm 24 = .ok (.aload_n 0, 1) := by decide +kernel
theorem dX10_readTerm_25 : decode cX10_readTerm 25 = .ok (.invokevirtual 95, 3) := by decide +kernel
theorem dX10_readTerm_28 : decode cX10_readTerm 28 = .ok (.ifCond .ne 17, 3) := by decide +kernel
theorem dX10_readTerm_31 : decode cX10_readTerm 31 = .ok (.iload 5, 2) := by decide +kernel
theorem dX10_readTerm_33 : decode cX10_readTerm 33 = .ok (.bipush 42, 2) := by decide +kernel
theorem dX10_readTerm_35 : decode cX10_readTerm 35 = .ok (.if_icmp .eq 13, 3) := by decide +kernel
theorem dX10_readTerm_38 : decode cX10_readTerm 38 = .ok (.iload 5, 2) := by decide +kernel
theorem dX10_readTerm_40 : decode cX10_readTerm 40 = .ok (.bipush 47, 2) := by decide +kernel
theorem dX10_readTerm_42 : decode cX10_readTerm 42 = .ok (.if_icmp .eq 6, 3) := by decide +kernel
theorem dX10_readTerm_45 : decode cX10_readTerm 45 = .ok (.lload_n 2, 1) := by decide +kernel
theorem dX10_readTerm_46 : decode cX10_readTerm 46 = .ok (.l2i, 1) := by decide +kernel
theorem dX10_readTerm_47 : decode cX10_readTerm 47 = .ok (.ireturn, 1) := by decide +kernel
theorem dX10_readTerm_48 : decode cX10_readTerm 48 = .ok (.aload_n 0, 1) := by decide +kernel
theorem dX10_readTerm_49 : decode cX10_readTerm 49 = .ok (.invokevirtual 135, 3) := by decide +kernel
theorem dX10_readTerm_52 : decode cX10_readTerm 52 = .ok (.aload_n 0, 1) := by decide +kernel
theorem dX10_readTerm_53 : decode cX10_readTerm 53 = .ok (.iload_n 1, 1) := by decide +kernel
theorem dX10_readTerm_54 : decode cX10_readTerm 54 = .ok (.invokevirtual 145, 3) := by decide +kernel
theorem dX10_readTerm_57 : decode cX10_readTerm 57 = .ok (.istore 6, 2) := by decide +kernel
theorem dX10_readTerm_59 : decode cX10_readTerm 59 = .ok (.iload 5, 2) := by decide +kernel
theorem dX10_readTerm_61 : decode cX10_readTerm 61 = .ok (.bipush 42, 2) := by decide +kernel
theorem dX10_readTerm_63 : decode cX10_readTerm 63 = .ok (.if_icmp .ne 15, 3) := by decide +kernel
theorem dX10_readTerm_66 : decode cX10_readTerm 66 = .ok (.lload_n 2, 1) := by decide +kernel
theorem dX10_readTerm_67 : decode cX10_readTerm 67 = .ok (.iload 6, 2) := by decide +kernel
theorem dX10_readTerm_69 : decode cX10_readTerm 69 = .ok (.i2l, 1) := by decide +kernel
theorem dX10_readTerm_70 : decode cX10_readTerm 70 = .ok (.lmul, 1) := by decide +kernel
theorem dX10_readTerm_71 : decode cX10_readTerm 71 = .ok (.invokestatic 141, 3) := by decide +kernel
theorem dX10_readTerm_74 : decode cX10_readTerm 74 = .ok (.lstore_n 2, 1) := by decide +kernel
theorem dX10_readTerm_75 : decode cX10_readTerm 75 = .ok (.goto 21, 3) := by decide +kernel
theorem dX10_readTerm_78 : decode cX10_readTerm 78 = .ok (.iload 6, 2) := by decide +kernel
theorem dX10_readTerm_80 : decode cX10_readTerm 80 = .ok (.ifCond .ne 7, 3) := by decide +kernel
theorem dX10_readTerm_83 : decode cX10_readTerm 83 = .ok (.lconst 0, 1) := by decide +kernel
theorem dX10_readTerm_84 : decode cX10_readTerm 84 = .ok (.goto 11, 3) := by decide +kernel
theorem dX10_readTerm_87 : decode cX10_readTerm 87 = .ok (.lload_n 2, 1) := by decide +kernel
theorem dX10_readTerm_88 : decode cX10_readTerm 88 = .ok (.iload 6, 2) := by decide +kernel
theorem dX10_readTerm_90 : decode cX10_readTerm 90 = .ok (.i2l, 1) := by decide +kernel
theorem dX10_readTerm_91 : decode cX10_readTerm 91 = .ok (.ldiv, 1) := by decide +kernel
theorem dX10_readTerm_92 : decode cX10_readTerm 92 = .ok (.invokestatic 141, 3) := by decide +kernel
theorem dX10_readTerm_95 : decode cX10_readTerm 95 = .ok (.lstore_n 2, 1) := by decide +kernel
theorem dX10_readTerm_96 : decode cX10_readTerm 96 = .ok (.iinc 4 1, 3) := by decide +kernel
theorem dX10_readTerm_99 : decode cX10_readTerm 99 = .ok (.goto (-89), 3) := by decide +kernel
theorem dX10_readTerm_102 : decode cX10_readTerm 102 = .ok (.lload_n 2, 1) := by decide +kernel
theorem dX10_readTerm_103 : decode cX10_readTerm 103 = .ok (.l2i, 1) := by decide +kernel
theorem dX10_readTerm_104 : decode cX10_readTerm 104 = .ok (.ireturn, 1) := by decide +kernel
theorem dX10_readAtom_0 : decode cX10_readAtom 0 = .ok (.aload_n 0, 1) := by decide +kernel
theorem dX10_readAtom_1 : decode cX10_readAtom 1 = .ok (.invokevirtual 99, 3) := by decide +kernel
theorem dX10_readAtom_4 : decode cX10_readAtom 4 = .ok (.istore_n 2, 1) := by decide +kernel
theorem dX10_readAtom_5 : decode cX10_readAtom 5 = .ok (.iload_n 2, 1) := by decide +kernel
theorem dX10_readAtom_6 : decode cX10_readAtom 6 = .ok (.bipush 48, 2) := by decide +kernel
theorem dX10_readAtom_8 : decode cX10_readAtom 8 = .ok (.bipush 57, 2) := by decide +kernel
theorem dX10_readAtom_10 : decode cX10_readAtom 10 = .ok (.invokestatic 54, 3) := by decide +kernel
theorem dX10_readAtom_13 : decode cX10_readAtom 13 = .ok (.ifCond .eq 12, 3) := by decide +kernel
theorem dX10_readAtom_16 : decode cX10_readAtom 16 = .ok (.aload_n 0, 1) := by decide +kernel
theorem dX10_readAtom_17 : decode cX10_readAtom 17 = .ok (.iconst 4, 1) := by decide +kernel
theorem dX10_readAtom_18 : decode cX10_readAtom 18 = .ok (.iconst 0, 1) := by decide +kernel
theorem dX10_readAtom_19 : decode cX10_readAtom 19 = .ok (.ldc 148, 2) := by decide +kernel
theorem dX10_readAtom_21 : decode cX10_readAtom 21 = .ok (.invokevirtual 149, 3) := by decide +kernel
theorem dX10_readAtom_24 : decode cX10_readAtom 24 = .ok (.ireturn, 1) := by decide +kernel
theorem dX10_readAtom_25 : decode cX10_readAtom 25 = .ok (.iload_n 1, 1) := by decide +kernel
theorem dX10_readAtom_26 : decode cX10_readAtom 26 = .ok (.bipush 6, 2) := by decide +kernel
theorem dX10_readAtom_28 : decode cX10_readAtom 28 = .ok (.if_icmp .ge 28, 3) := by decide +kernel
theorem dX10_readAtom_31 : decode cX10_readAtom 31 = .ok (.aload_n 0, 1) := by decide +kernel
theorem dX10_readAtom_32 : decode cX10_readAtom 32 = .ok (.bipush 91, 2) := by decide +kernel
theorem dX10_readAtom_34 : decode cX10_readAtom 34 = .ok (.invokevirtual 129, 3) := by decide +kernel
theorem dX10_readAtom_37 : decode cX10_readAtom 37 = .ok (.ifCond .eq 19, 3) := by decide +kernel
theorem dX10_readAtom_40 : decode cX10_readAtom 40 = .ok (.aload_n 0, 1) := by decide +kernel
theorem dX10_readAtom_41 : decode cX10_readAtom 41 = .ok (.iload_n 1, 1) := by decide +kernel
theorem dX10_readAtom_42 : decode cX10_readAtom 42 = .ok (.iconst 1, 1) := by decide +kernel
theorem dX10_readAtom_43 : decode cX10_readAtom 43 = .ok (.iadd, 1) := by decide +kernel
theorem dX10_readAtom_44 : decode cX10_readAtom 44 = .ok (.invokevirtual 113, 3) := by decide +kernel
theorem dX10_readAtom_47 : decode cX10_readAtom 47 = .ok (.istore_n 3, 1) := by decide +kernel
theorem dX10_readAtom_48 : decode cX10_readAtom 48 = .ok (.aload_n 0, 1) := by decide +kernel
theorem dX10_readAtom_49 : decode cX10_readAtom 49 = .ok (.bipush 93, 2) := by decide +kernel
theorem dX10_readAtom_51 : decode cX10_readAtom 51 = .ok (.invokevirtual 102, 3) := by decide +kernel
theorem dX10_readAtom_54 : decode cX10_readAtom 54 = .ok (.iload_n 3, 1) := by decide +kernel
theorem dX10_readAtom_55 : decode cX10_readAtom 55 = .ok (.ireturn, 1) := by decide +kernel
theorem dX10_readAtom_56 : decode cX10_readAtom 56 = .ok (.iload_n 2, 1) := by decide +kernel
theorem dX10_readAtom_57 : decode cX10_readAtom 57 = .ok (.bipush (-2), 2) := by decide +kernel
theorem dX10_readAtom_59 : decode cX10_readAtom 59 = .ok (.if_icmp .ne 7, 3) := by decide +kernel
theorem dX10_readAtom_62 : decode cX10_readAtom 62 = .ok (.iconst (-1), 1) := by decide +kernel
theorem dX10_readAtom_63 : decode cX10_readAtom 63 = .ok (.goto 10, 3) := by decide +kernel
theorem dX10_readAtom_66 : decode cX10_readAtom 66 = .ok (.ldc 153, 2) := by decide +kernel
theorem dX10_readAtom_68 : decode cX10_readAtom 68 = .ok (.iload_n 2, 1) := by decide +kernel
theorem dX10_readAtom_69 : decode cX10_readAtom 69 = .ok (.i2c, 1) := by decide +kernel
theorem dX10_readAtom_70 : decode cX10_readAtom 70 = .ok (.invokevirtual 155, 3) := by decide +kernel
theorem dX10_readAtom_73 : decode cX10_readAtom 73 = .ok (.istore_n 3, 1) := by decide +kernel
theorem dX10_readAtom_74 : decode cX10_readAtom 74 = .ok (.iload_n 3, 1) := by decide +kernel
theorem dX10_readAtom_75 : decode cX10_readAtom 75 = .ok (.iconst 0, 1) := by decide +kernel
theorem dX10_readAtom_76 : decode cX10_readAtom 76 = .ok (.aload_n 0, 1) := by decide +kernel
theorem dX10_readAtom_77 : decode cX10_readAtom 77 = .ok (.getfield 25, 3) := by decide +kernel
theorem dX10_readAtom_80 : decode cX10_readAtom 80 = .ok (.arraylength, 1) := by decide +kernel
theorem dX10_readAtom_81 : decode cX10_readAtom 81 = .ok (.iconst 1, 1) := by decide +kernel
theorem dX10_readAtom_82 : decode cX10_readAtom 82 = .ok (.isub, 1) := by decide +kernel
theorem dX10_readAtom_83 : decode cX10_readAtom 83 = .ok (.invokestatic 54, 3) := by decide +kernel
theorem dX10_readAtom_86 : decode cX10_readAtom 86 = .ok (.ifCond .ne 9, 3) := by decide +kernel
theorem dX10_readAtom_89 : decode cX10_readAtom 89 = .ok (.aload_n 0, 1) := by decide +kernel
theorem dX10_readAtom_90 : decode cX10_readAtom 90 = .ok (.invokevirtual 132, 3) := by decide +kernel
theorem dX10_readAtom_93 : decode cX10_readAtom 93 = .ok (.iconst 0, 1) := by decide +kernel
theorem dX10_readAtom_94 : decode cX10_readAtom 94 = .ok (.ireturn, 1) := by decide +kernel
theorem dX10_readAtom_95 : decode cX10_readAtom 95 = .ok (.aload_n 0, 1) := by decide +kernel
theorem dX10_readAtom_96 : decode cX10_readAtom 96 = .ok (.invokevirtual 135, 3) := by decide +kernel
theorem dX10_readAtom_99 : decode cX10_readAtom 99 = .ok (.aload_n 0, 1) := by decide +kernel
theorem dX10_readAtom_100 : decode cX10_readAtom 100 = .ok (.getfield 25, 3) := by decide +kernel
theorem dX10_readAtom_103 : decode cX10_readAtom 103 = .ok (.iload_n 3, 1) := by decide +kernel
theorem dX10_readAtom_104 : decode cX10_readAtom 104 = .ok (.iaload, 1) := by decide +kernel
theorem dX10_readAtom_105 : decode cX10_readAtom 105 = .ok (.ireturn, 1) := by decide +kernel
theorem dX10_held_0 : decode cX10_held 0 = .ok (.ldc2_w 160, 3) := by decide +kernel
theorem dX10_held_3 : decode cX10_held 3 = .ok (.ldc2_w 162, 3) := by decide +kernel
theorem dX10_held_6 : decode cX10_held 6 = .ok (.lload_n 0, 1) := by decide +kernel
theorem dX10_held_7 : decode cX10_held 7 = .ok (.invokestatic 164, 3) := by decide +kernel
theorem dX10_held_10 : decode cX10_held 10 = .ok (.invokestatic 167, 3) := by decide +kernel
theorem dX10_held_13 : decode cX10_held 13 = .ok (.lreturn, 1) := by decide +kernel
theorem dX11_init_0 : decode cX11_init 0 = .ok (.aload_n 0, 1) := by decide +kernel
theorem dX11_init_1 : decode cX11_init 1 = .ok (.invokespecial 1, 3) := by decide +kernel
theorem dX11_init_4 : decode cX11_init 4 = .ok (.aload_n 0, 1) := by decide +kernel
theorem dX11_init_5 : decode cX11_init 5 = .ok (.new 7, 3) := by decide +kernel
theorem dX11_init_8 : decode cX11_init 8 = .ok (.dup, 1) := by decide +kernel
theorem dX11_init_9 : decode cX11_init 9 = .ok (.invokespecial 9, 3) := by decide +kernel
theorem dX11_init_12 : decode cX11_init 12 = .ok (.putfield 10, 3) := by decide +kernel
theorem dX11_init_15 : decode cX11_init 15 = .ok (.aload_n 0, 1) := by decide +kernel
theorem dX11_init_16 : decode cX11_init 16 = .ok (.new 16, 3) := by decide +kernel
theorem dX11_init_19 : decode cX11_init 19 = .ok (.dup, 1) := by decide +kernel
theorem dX11_init_20 : decode cX11_init 20 = .ok (.invokespecial 18, 3) := by decide +kernel
theorem dX11_init_23 : decode cX11_init 23 = .ok (.putfield 19, 3) := by decide +kernel
theorem dX11_init_26 : decode cX11_init 26 = .ok (.aload_n 0, 1) := by decide +kernel
theorem dX11_init_27 : decode cX11_init 27 = .ok (.new 23, 3) := by decide +kernel
theorem dX11_init_30 : decode cX11_init 30 = .ok (.dup, 1) := by decide +kernel
theorem dX11_init_31 : decode cX11_init 31 = .ok (.invokespecial 25, 3) := by decide +kernel
theorem dX11_init_34 : decode cX11_init 34 = .ok (.putfield 26, 3) := by decide +kernel
theorem dX11_init_37 : decode cX11_init 37 = .ok (.aload_n 0, 1) := by decide +kernel
theorem dX11_init_38 : decode cX11_init 38 = .ok (.new 30, 3) := by decide +kernel
theorem dX11_init_41 : decode cX11_init 41 = .ok (.dup, 1) := by decide +kernel
theorem dX11_init_42 : decode cX11_init 42 = .ok (.invokespecial 32, 3) := by decide +kernel
theorem dX11_init_45 : decode cX11_init 45 = .ok (.putfield 33, 3) := by decide +kernel
theorem dX11_init_48 : decode cX11_init 48 = .ok (.aload_n 0, 1) := by decide +kernel
theorem dX11_init_49 : decode cX11_init 49 = .ok (.new 37, 3) := by decide +kernel
theorem dX11_init_52 : decode cX11_init 52 = .ok (.dup, 1) := by decide +kernel
theorem dX11_init_53 : decode cX11_init 53 = .ok (.invokespecial 39, 3) := by decide +kernel
theorem dX11_init_56 : decode cX11_init 56 = .ok (.putfield 40, 3) := by decide +kernel
theorem dX11_init_59 : decode cX11_init 59 = .ok (.aload_n 0, 1) := by decide +kernel
theorem dX11_init_60 : decode cX11_init 60 = .ok (.new 37, 3) := by decide +kernel
theorem dX11_init_63 : decode cX11_init 63 = .ok (.dup, 1) := by decide +kernel
theorem dX11_init_64 : decode cX11_init 64 = .ok (.invokespecial 39, 3) := by decide +kernel
theorem dX11_init_67 : decode cX11_init 67 = .ok (.putfield 44, 3) := by decide +kernel
theorem dX11_init_70 : decode cX11_init 70 = .ok (.aload_n 0, 1) := by decide +kernel
theorem dX11_init_71 : decode cX11_init 71 = .ok (.new 47, 3) := by decide +kernel
theorem dX11_init_74 : decode cX11_init 74 = .ok (.dup, 1) := by decide +kernel
theorem dX11_init_75 : decode cX11_init 75 = .ok (.aload_n 0, 1) := by decide +kernel
theorem dX11_init_76 : decode cX11_init 76 = .ok (.getfield 33, 3) := by decide +kernel
theorem dX11_init_79 : decode cX11_init 79 = .ok (.aload_n 0, 1) := by decide +kernel
theorem dX11_init_80 : decode cX11_init 80 = .ok (.getfield 40, 3) := by decide +kernel
theorem dX11_init_83 : decode cX11_init 83 = .ok (.invokespecial 49, 3) := by decide +kernel
theorem dX11_init_86 : decode cX11_init 86 = .ok (.putfield 52, 3) := by decide +kernel
theorem dX11_init_89 : decode cX11_init 89 = .ok (.aload_n 0, 1) := by decide +kernel
theorem dX11_init_90 : decode cX11_init 90 = .ok (.new 56, 3) := by decide +kernel
theorem dX11_init_93 : decode cX11_init 93 = .ok (.dup, 1) := by decide +kernel
theorem dX11_init_94 : decode cX11_init 94 = .ok (.aload_n 0, 1) := by decide +kernel
theorem dX11_init_95 : decode cX11_init 95 = .ok (.getfield 33, 3) := by decide +kernel
theorem dX11_init_98 : decode cX11_init 98 = .ok (.aload_n 0, 1) := by decide +kernel
theorem dX11_init_99 : decode cX11_init 99 = .ok (.getfield 40, 3) := by decide +kernel
theorem dX11_init_102 : decode cX11_init 102 = .ok (.invokespecial 58, 3) := by decide +kernel
theorem dX11_init_105 : decode cX11_init 105 = .ok (.putfield 59, 3) := by decide +kernel
theorem dX11_init_108 : decode cX11_init 108 = .ok (.aload_n 0, 1) := by decide +kernel
theorem dX11_init_109 : decode cX11_init 109 = .ok (.new 63, 3) := by decide +kernel
theorem dX11_init_112 : decode cX11_init 112 = .ok (.dup, 1) := by decide +kernel
theorem dX11_init_113 : decode cX11_init 113 = .ok (.invokespecial 65, 3) := by decide +kernel
theorem dX11_init_116 : decode cX11_init 116 = .ok (.putfield 66, 3) := by decide +kernel
theorem dX11_init_119 : decode cX11_init 119 = .ok (.aload_n 0, 1) := by decide +kernel
theorem dX11_init_120 : decode cX11_init 120 = .ok (.new 70, 3) := by decide +kernel
theorem dX11_init_123 : decode cX11_init 123 = .ok (.dup, 1) := by decide +kernel
theorem dX11_init_124 : decode cX11_init 124 = .ok (.invokespecial 72, 3) := by decide +kernel
theorem dX11_init_127 : decode cX11_init 127 = .ok (.putfield 73, 3) := by decide +kernel
theorem dX11_init_130 : decode cX11_init 130 = .ok (.aload_n 0, 1) := by decide +kernel
theorem dX11_init_131 : decode cX11_init 131 = .ok (.new 77, 3) := by decide +kernel
theorem dX11_init_134 : decode cX11_init 134 = .ok (.dup, 1) := by decide +kernel
theorem dX11_init_135 : decode cX11_init 135 = .ok (.aload_n 0, 1) := by decide +kernel
theorem dX11_init_136 : decode cX11_init 136 = .ok (.getfield 33, 3) := by decide +kernel
theorem dX11_init_139 : decode cX11_init 139 = .ok (.aload_n 0, 1) := by decide +kernel
theorem dX11_init_140 : decode cX11_init 140 = .ok (.getfield 52, 3) := by decide +kernel
theorem dX11_init_143 : decode cX11_init 143 = .ok (.aload_n 0, 1) := by decide +kernel
theorem dX11_init_144 : decode cX11_init 144 = .ok (.getfield 73, 3) := by decide +kernel
theorem dX11_init_147 : decode cX11_init 147 = .ok (.invokespecial 79, 3) := by decide +kernel
theorem dX11_init_150 : decode cX11_init 150 = .ok (.putfield 82, 3) := by decide +kernel
theorem dX11_init_153 : decode cX11_init 153 = .ok (.aload_n 0, 1) := by decide +kernel
theorem dX11_init_154 : decode cX11_init 154 = .ok (.bipush 20, 2) := by decide +kernel
theorem dX11_init_156 : decode cX11_init 156 = .ok (.newarray .int, 2) := by decide +kernel
theorem dX11_init_158 : decode cX11_init 158 = .ok (.putfield 86, 3) := by decide +kernel
theorem dX11_init_161 : decode cX11_init 161 = .ok (.aload_n 0, 1) := by decide +kernel
theorem dX11_init_162 : decode cX11_init 162 = .ok (.bipush 20, 2) := by decide +kernel
theorem dX11_init_164 : decode cX11_init 164 = .ok (.newarray .int, 2) := by decide +kernel
theorem dX11_init_166 : decode cX11_init 166 = .ok (.putfield 90, 3) := by decide +kernel
theorem dX11_init_169 : decode cX11_init 169 = .ok (.aload_n 0, 1) := by decide +kernel
theorem dX11_init_170 : decode cX11_init 170 = .ok (.iconst 0, 1) := by decide +kernel
theorem dX11_init_171 : decode cX11_init 171 = .ok (.putfield 93, 3) := by decide +kernel
theorem dX11_init_174 : decode cX11_init 174 = .ok (.aload_n 0, 1) := by decide +kernel
theorem dX11_init_175 : decode cX11_init 175 = .ok (.iconst 0, 1) := by decide +kernel
theorem dX11_init_176 : decode cX11_init 176 = .ok (.putfield 97, 3) := by decide +kernel
theorem dX11_init_179 : decode cX11_init 179 = .ok (.aload_n 0, 1) := by decide +kernel
theorem dX11_init_180 : decode cX11_init 180 = .ok (.iconst 0, 1) := by decide +kernel
theorem dX11_init_181 : decode cX11_init 181 = .ok (.putfield 101, 3) := by decide +kernel
theorem dX11_init_184 : decode cX11_init 184 = .ok (.aload_n 0, 1) := by decide +kernel
theorem dX11_init_185 : decode cX11_init 185 = .ok (.iconst 0, 1) := by decide +kernel
theorem dX11_init_186 : decode cX11_init 186 = .ok (.putfield 104, 3) := by decide +kernel
theorem dX11_init_189 : decode cX11_init 189 = .ok (.return_, 1) := by decide +kernel
theorem dX11_feed_0 : decode cX11_feed 0 = .ok (.iload_n 1, 1) := by decide +kernel
theorem dX11_feed_1 : decode cX11_feed 1 = .ok (.invokestatic 107, 3) := by decide +kernel
theorem dX11_feed_4 : decode cX11_feed 4 = .ok (.iload_n 2, 1) := by decide +kernel
theorem dX11_feed_5 : decode cX11_feed 5 = .ok (.invokestatic 107, 3) := by decide +kernel
theorem dX11_feed_8 : decode cX11_feed 8 = .ok (.iadd, 1) := by decide +kernel
theorem dX11_feed_9 : decode cX11_feed 9 = .ok (.iload_n 3, 1) := by decide +kernel
theorem dX11_feed_10 : decode cX11_feed 10 = .ok (.invokestatic 107, 3) := by decide +kernel
theorem dX11_feed_13 : decode cX11_feed 13 = .ok (.iadd, 1) := by decide +kernel
theorem dX11_feed_14 : decode cX11_feed 14 = .ok (.iload 4, 2) := by decide +kernel
theorem dX11_feed_16 : decode cX11_feed 16 = .ok (.invokestatic 107, 3) := by decide +kernel
theorem dX11_feed_19 : decode cX11_feed 19 = .ok (.iadd, 1) := by decide +kernel
theorem dX11_feed_20 : decode cX11_feed 20 = .ok (.iload 5, 2) := by decide +kernel
theorem dX11_feed_22 : decode cX11_feed 22 = .ok (.invokestatic 107, 3) := by decide +kernel
theorem dX11_feed_25 : decode cX11_feed 25 = .ok (.iadd, 1) := by decide +kernel
theorem dX11_feed_26 : decode cX11_feed 26 = .ok (.istore 6, 2) := by decide +kernel
theorem dX11_feed_28 : decode cX11_feed 28 = .ok (.aload_n 0, 1) := by decide +kernel
theorem dX11_feed_29 : decode cX11_feed 29 = .ok (.getfield 10, 3) := by decide +kernel
theorem dX11_feed_32 : decode cX11_feed 32 = .ok (.getfield 111, 3) := by decide +kernel
theorem dX11_feed_35 : decode cX11_feed 35 = .ok (.iload 6, 2) := by decide +kernel
theorem dX11_feed_37 : decode cX11_feed 37 = .ok (.iadd, 1) := by decide +kernel
theorem dX11_feed_38 : decode cX11_feed 38 = .ok (.sipush 160, 3) := by decide +kernel
theorem dX11_feed_41 : decode cX11_feed 41 = .ok (.if_icmp .le 5, 3) := by decide +kernel
theorem dX11_feed_44 : decode cX11_feed 44 = .ok (.iconst (-1), 1) := by decide +kernel
theorem dX11_feed_45 : decode cX11_feed 45 = .ok (.ireturn, 1) := by decide +kernel
theorem dX11_feed_46 : decode cX11_feed 46 = .ok (.aload_n 0, 1) := by decide +kernel
theorem dX11_feed_47 : decode cX11_feed 47 = .ok (.getfield 10, 3) := by decide +kernel
theorem dX11_feed_50 : decode cX11_feed 50 = .ok (.iload_n 1, 1) := by decide +kernel
theorem dX11_feed_51 : decode cX11_feed 51 = .ok (.invokevirtual 114, 3) := by decide +kernel
theorem dX11_feed_54 : decode cX11_feed 54 = .ok (.aload_n 0, 1) := by decide +kernel
theorem dX11_feed_55 : decode cX11_feed 55 = .ok (.getfield 10, 3) := by decide +kernel
theorem dX11_feed_58 : decode cX11_feed 58 = .ok (.iload_n 2, 1) := by decide +kernel
theorem dX11_feed_59 : decode cX11_feed 59 = .ok (.invokevirtual 114, 3) := by decide +kernel
theorem dX11_feed_62 : decode cX11_feed 62 = .ok (.aload_n 0, 1) := by decide +kernel
theorem dX11_feed_63 : decode cX11_feed 63 = .ok (.getfield 10, 3) := by decide +kernel
theorem dX11_feed_66 : decode cX11_feed 66 = .ok (.iload_n 3, 1) := by decide +kernel
theorem dX11_feed_67 : decode cX11_feed 67 = .ok (.invokevirtual 114, 3) := by decide +kernel
theorem dX11_feed_70 : decode cX11_feed 70 = .ok (.aload_n 0, 1) := by decide +kernel
theorem dX11_feed_71 : decode cX11_feed 71 = .ok (.getfield 10, 3) := by decide +kernel
theorem dX11_feed_74 : decode cX11_feed 74 = .ok (.iload 4, 2) := by decide +kernel
theorem dX11_feed_76 : decode cX11_feed 76 = .ok (.invokevirtual 114, 3) := by decide +kernel
theorem dX11_feed_79 : decode cX11_feed 79 = .ok (.aload_n 0, 1) := by decide +kernel
theorem dX11_feed_80 : decode cX11_feed 80 = .ok (.getfield 10, 3) := by decide +kernel
theorem dX11_feed_83 : decode cX11_feed 83 = .ok (.iload 5, 2) := by decide +kernel
theorem dX11_feed_85 : decode cX11_feed 85 = .ok (.invokevirtual 114, 3) := by decide +kernel
theorem dX11_feed_88 : decode cX11_feed 88 = .ok (.aload_n 0, 1) := by decide +kernel
theorem dX11_feed_89 : decode cX11_feed 89 = .ok (.getfield 10, 3) := by decide +kernel
theorem dX11_feed_92 : decode cX11_feed 92 = .ok (.getfield 111, 3) := by decide +kernel
theorem dX11_feed_95 : decode cX11_feed 95 = .ok (.ireturn, 1) := by decide +kernel
theorem dX11_end_0 : decode cX11_end 0 = .ok (.iload_n 1, 1) := by decide +kernel
theorem dX11_end_1 : decode cX11_end 1 = .ok (.iconst 0, 1) := by decide +kernel
theorem dX11_end_2 : decode cX11_end 2 = .ok (.aload_n 0, 1) := by decide +kernel
theorem dX11_end_3 : decode cX11_end 3 = .ok (.getfield 10, 3) := by decide +kernel
theorem dX11_end_6 : decode cX11_end 6 = .ok (.getfield 111, 3) := by decide +kernel
theorem dX11_end_9 : decode cX11_end 9 = .ok (.invokestatic 118, 3) := by decide +kernel
theorem dX11_end_12 : decode cX11_end 12 = .ok (.ifCond .ne 5, 3) := by decide +kernel
theorem dX11_end_15 : decode cX11_end 15 = .ok (.iconst 0, 1) := by decide +kernel
theorem dX11_end_16 : decode cX11_end 16 = .ok (.ireturn, 1) := by decide +kernel
theorem dX11_end_17 : decode cX11_end 17 = .ok (.aload_n 0, 1) := by decide +kernel
theorem dX11_end_18 : decode cX11_end 18 = .ok (.getfield 10, 3) := by decide +kernel
theorem dX11_end_21 : decode cX11_end 21 = .ok (.iload_n 1, 1) := by decide +kernel
theorem dX11_end_22 : decode cX11_end 22 = .ok (.putfield 111, 3) := by decide +kernel
theorem dX11_end_25 : decode cX11_end 25 = .ok (.iconst 1, 1) := by decide +kernel
theorem dX11_end_26 : decode cX11_end 26 = .ok (.ireturn, 1) := by decide +kernel
theorem dX11_fault_0 : decode cX11_fault 0 = .ok (.iload_n 1, 1) := by decide +kernel
theorem dX11_fault_1 : decode cX11_fault 1 = .ok (.ifCond .ne 15, 3) := by decide +kernel
theorem dX11_fault_4 : decode cX11_fault 4 = .ok (.aload_n 0, 1) := by decide +kernel
theorem dX11_fault_5 : decode cX11_fault 5 = .ok (.getfield 19, 3) := by decide +kernel
theorem dX11_fault_8 : decode cX11_fault 8 = .ok (.aload_n 0, 1) := by decide +kernel
theorem dX11_fault_9 : decode cX11_fault 9 = .ok (.getfield 10, 3) := by decide +kernel
theorem dX11_fault_12 : decode cX11_fault 12 = .ok (.invokevirtual 122, 3) := by decide +kernel
theorem dX11_fault_15 : decode cX11_fault 15 = .ok (.ireturn, 1) := by decide +kernel
theorem dX11_fault_16 : decode cX11_fault 16 = .ok (.iload_n 1, 1) := by decide +kernel
theorem dX11_fault_17 : decode cX11_fault 17 = .ok (.iconst 1, 1) := by decide +kernel
theorem dX11_fault_18 : decode cX11_fault 18 = .ok (.if_icmp .ne 17, 3) := by decide +kernel
theorem dX11_fault_21 : decode cX11_fault 21 = .ok (.aload_n 0, 1) := by decide +kernel
theorem dX11_fault_22 : decode cX11_fault 22 = .ok (.getfield 26, 3) := by decide +kernel
theorem dX11_fault_25 : decode cX11_fault 25 = .ok (.aload_n 0, 1) := by decide +kernel
theorem dX11_fault_26 : decode cX11_fault 26 = .ok (.getfield 10, 3) := by decide +kernel
theorem dX11_fault_29 : decode cX11_fault 29 = .ok (.invokevirtual 126, 3) := by decide +kernel
theorem dX11_fault_32 : decode cX11_fault 32 = .ok (.goto 5, 3) := by decide +kernel
theorem dX11_fault_35 : decode cX11_fault 35 = .ok (.bipush (-2), 2) := by decide +kernel
theorem dX11_fault_37 : decode cX11_fault 37 = .ok (.ireturn, 1) := by decide +kernel
theorem dX11_text_0 : decode cX11_text 0 = .ok (.iload_n 1, 1) := by decide +kernel
theorem dX11_text_1 : decode cX11_text 1 = .ok (.ifCond .ne 60, 3) := by decide +kernel
theorem dX11_text_4 : decode cX11_text 4 = .ok (.aload_n 0, 1) := by decide +kernel
theorem dX11_text_5 : decode cX11_text 5 = .ok (.getfield 19, 3) := by decide +kernel
theorem dX11_text_8 : decode cX11_text 8 = .ok (.aload_n 0, 1) := by decide +kernel
theorem dX11_text_9 : decode cX11_text 9 = .ok (.getfield 10, 3) := by decide +kernel
theorem dX11_text_12 : decode cX11_text 12 = .ok (.invokevirtual 122, 3) := by decide +kernel
theorem dX11_text_15 : decode cX11_text 15 = .ok (.iconst (-1), 1) := by decide +kernel
theorem dX11_text_16 : decode cX11_text 16 = .ok (.if_icmp .ne 45, 3) := by decide +kernel
theorem dX11_text_19 : decode cX11_text 19 = .ok (.aload_n 0, 1) := by decide +kernel
theorem dX11_text_20 : decode cX11_text 20 = .ok (.getfield 10, 3) := by decide +kernel
theorem dX11_text_23 : decode cX11_text 23 = .ok (.iconst 0, 1) := by decide +kernel
theorem dX11_text_24 : decode cX11_text 24 = .ok (.putfield 111, 3) := by decide +kernel
theorem dX11_text_27 : decode cX11_text 27 = .ok (.aload_n 0, 1) := by decide +kernel
theorem dX11_text_28 : decode cX11_text 28 = .ok (.getfield 33, 3) := by decide +kernel
theorem dX11_text_31 : decode cX11_text 31 = .ok (.aload_n 0, 1) := by decide +kernel
theorem dX11_text_32 : decode cX11_text 32 = .ok (.getfield 19, 3) := by decide +kernel
theorem dX11_text_35 : decode cX11_text 35 = .ok (.invokevirtual 127, 3) := by decide +kernel
theorem dX11_text_38 : decode cX11_text 38 = .ok (.aload_n 0, 1) := by decide +kernel
theorem dX11_text_39 : decode cX11_text 39 = .ok (.getfield 26, 3) := by decide +kernel
theorem dX11_text_42 : decode cX11_text 42 = .ok (.aload_n 0, 1) := by decide +kernel
theorem dX11_text_43 : decode cX11_text 43 = .ok (.getfield 33, 3) := by decide +kernel
theorem dX11_text_46 : decode cX11_text 46 = .ok (.invokevirtual 131, 3) := by decide +kernel
theorem dX11_text_49 : decode cX11_text 49 = .ok (.aload_n 0, 1) := by decide +kernel
theorem dX11_text_50 : decode cX11_text 50 = .ok (.invokevirtual 135, 3) := by decide +kernel
theorem dX11_text_53 : decode cX11_text 53 = .ok (.aload_n 0, 1) := by decide +kernel
theorem dX11_text_54 : decode cX11_text 54 = .ok (.getfield 33, 3) := by decide +kernel
theorem dX11_text_57 : decode cX11_text 57 = .ok (.getfield 138, 3) := by decide +kernel
theorem dX11_text_60 : decode cX11_text 60 = .ok (.ireturn, 1) := by decide +kernel
theorem dX11_text_61 : decode cX11_text 61 = .ok (.iload_n 1, 1) := by decide +kernel
theorem dX11_text_62 : decode cX11_text 62 = .ok (.iconst 1, 1) := by decide +kernel
theorem dX11_text_63 : decode cX11_text 63 = .ok (.if_icmp .ne 58, 3) := by decide +kernel
theorem dX11_text_66 : decode cX11_text 66 = .ok (.aload_n 0, 1) := by decide +kernel
theorem dX11_text_67 : decode cX11_text 67 = .ok (.getfield 26, 3) := by decide +kernel
theorem dX11_text_70 : decode cX11_text 70 = .ok (.getfield 141, 3) := by decide +kernel
theorem dX11_text_73 : decode cX11_text 73 = .ok (.iconst 4, 1) := by decide +kernel
theorem dX11_text_74 : decode cX11_text 74 = .ok (.if_icmp .ge 47, 3) := by decide +kernel
theorem dX11_text_77 : decode cX11_text 77 = .ok (.aload_n 0, 1) := by decide +kernel
theorem dX11_text_78 : decode cX11_text 78 = .ok (.getfield 26, 3) := by decide +kernel
theorem dX11_text_81 : decode cX11_text 81 = .ok (.aload_n 0, 1) := by decide +kernel
theorem dX11_text_82 : decode cX11_text 82 = .ok (.getfield 10, 3) := by decide +kernel
theorem dX11_text_85 : decode cX11_text 85 = .ok (.invokevirtual 126, 3) := by decide +kernel
theorem dX11_text_88 : decode cX11_text 88 = .ok (.iconst (-1), 1) := by decide +kernel
theorem dX11_text_89 : decode cX11_text 89 = .ok (.if_icmp .ne 32, 3) := by decide +kernel
theorem dX11_text_92 : decode cX11_text 92 = .ok (.aload_n 0, 1) := by decide +kernel
theorem dX11_text_93 : decode cX11_text 93 = .ok (.getfield 26, 3) := by decide +kernel
theorem dX11_text_96 : decode cX11_text 96 = .ok (.aload_n 0, 1) := by decide +kernel
theorem dX11_text_97 : decode cX11_text 97 = .ok (.getfield 10, 3) := by decide +kernel
theorem dX11_text_100 : decode cX11_text 100 = .ok (.invokevirtual 144, 3) := by decide +kernel
theorem dX11_text_103 : decode cX11_text 103 = .ok (.aload_n 0, 1) := by decide +kernel
theorem dX11_text_104 : decode cX11_text 104 = .ok (.getfield 10, 3) := by decide +kernel
theorem dX11_text_107 : decode cX11_text 107 = .ok (.iconst 0, 1) := by decide +kernel
theorem dX11_text_108 : decode cX11_text 108 = .ok (.putfield 111, 3) := by decide +kernel
theorem dX11_text_111 : decode cX11_text 111 = .ok (.aload_n 0, 1) := by decide +kernel
theorem dX11_text_112 : decode cX11_text 112 = .ok (.getfield 26, 3) := by decide +kernel
theorem dX11_text_115 : decode cX11_text 115 = .ok (.getfield 141, 3) := by decide +kernel
theorem dX11_text_118 : decode cX11_text 118 = .ok (.iconst 1, 1) := by decide +kernel
theorem dX11_text_119 : decode cX11_text 119 = .ok (.isub, 1) := by decide +kernel
theorem dX11_text_120 : decode cX11_text 120 = .ok (.ireturn, 1) := by decide +kernel
theorem dX11_text_121 : decode cX11_text 121 = .ok (.iconst (-1), 1) := by decide +kernel
theorem dX11_text_122 : decode cX11_text 122 = .ok (.ireturn, 1) := by decide +kernel
theorem dX11_forgetOtherLake_0 : decode cX11_forgetOtherLake 0 = .ok (.aload_n 0, 1) := by decide +kernel
theorem dX11_forgetOtherLake_1 : decode cX11_forgetOtherLake 1 = .ok (.getfield 40, 3) := by decide +kernel
theorem dX11_forgetOtherLake_4 : decode cX11_forgetOtherLake 4 = .ok (.aload_n 0, 1) := by decide +kernel
theorem dX11_forgetOtherLake_5 : decode cX11_forgetOtherLake 5 = .ok (.getfield 19, 3) := by decide +kernel
theorem dX11_forgetOtherLake_8 : decode cX11_forgetOtherLake 8 = .ok (.invokevirtual 148, 3) := by decide +kernel
theorem dX11_forgetOtherLake_11 : decode cX11_forgetOtherLake 11 = .ok (.invokevirtual 152, 3) := by decide +kernel
theorem dX11_forgetOtherLake_14 : decode cX11_forgetOtherLake 14 = .ok (.aload_n 0, 1) := by decide +kernel
theorem dX11_forgetOtherLake_15 : decode cX11_forgetOtherLake 15 = .ok (.getfield 82, 3) := by decide +kernel
theorem dX11_forgetOtherLake_18 : decode cX11_forgetOtherLake 18 = .ok (.invokevirtual 155, 3) := by decide +kernel
theorem dX11_forgetOtherLake_21 : decode cX11_forgetOtherLake 21 = .ok (.aload_n 0, 1) := by decide +kernel
theorem dX11_forgetOtherLake_22 : decode cX11_forgetOtherLake 22 = .ok (.iconst 0, 1) := by decide +kernel
theorem dX11_forgetOtherLake_23 : decode cX11_forgetOtherLake 23 = .ok (.putfield 93, 3) := by decide +kernel
theorem dX11_forgetOtherLake_26 : decode cX11_forgetOtherLake 26 = .ok (.aload_n 0, 1) := by decide +kernel
theorem dX11_forgetOtherLake_27 : decode cX11_forgetOtherLake 27 = .ok (.iconst 0, 1) := by decide +kernel
theorem dX11_forgetOtherLake_28 : decode cX11_forgetOtherLake 28 = .ok (.putfield 97, 3) := by decide +kernel
theorem dX11_forgetOtherLake_31 : decode cX11_forgetOtherLake 31 = .ok (.aload_n 0, 1) := by decide +kernel
theorem dX11_forgetOtherLake_32 : decode cX11_forgetOtherLake 32 = .ok (.iconst 0, 1) := by decide +kernel
theorem dX11_forgetOtherLake_33 : decode cX11_forgetOtherLake 33 = .ok (.putfield 101, 3) := by decide +kernel
theorem dX11_forgetOtherLake_36 : decode cX11_forgetOtherLake 36 = .ok (.aload_n 0, 1) := by decide +kernel
theorem dX11_forgetOtherLake_37 : decode cX11_forgetOtherLake 37 = .ok (.iconst 0, 1) := by decide +kernel
theorem dX11_forgetOtherLake_38 : decode cX11_forgetOtherLake 38 = .ok (.putfield 104, 3) := by decide +kernel
theorem dX11_forgetOtherLake_41 : decode cX11_forgetOtherLake 41 = .ok (.return_, 1) := by decide +kernel
theorem dX11_place_0 : decode cX11_place 0 = .ok (.aload_n 0, 1) := by decide +kernel
theorem dX11_place_1 : decode cX11_place 1 = .ok (.iload_n 1, 1) := by decide +kernel
theorem dX11_place_2 : decode cX11_place 2 = .ok (.invokevirtual 158, 3) := by decide +kernel
theorem dX11_place_5 : decode cX11_place 5 = .ok (.ifCond .eq 12, 3) := by decide +kernel
theorem dX11_place_8 : decode cX11_place 8 = .ok (.iload_n 2, 1) := by decide +kernel
theorem dX11_place_9 : decode cX11_place 9 = .ok (.iconst 0, 1) := by decide +kernel
theorem dX11_place_10 : decode cX11_place 10 = .ok (.iconst 4, 1) := by decide +kernel
theorem dX11_place_11 : decode cX11_place 11 = .ok (.invokestatic 118, 3) := by decide +kernel
theorem dX11_place_14 : decode cX11_place 14 = .ok (.ifCond .ne 11, 3) := by decide +kernel
theorem dX11_place_17 : decode cX11_place 17 = .ok (.new 162, 3) := by decide +kernel
theorem dX11_place_20 : decode cX11_place 20 = .ok (.dup, 1) := by decide +kernel
theorem dX11_place_21 : decode cX11_place 21 = .ok (.invokespecial 164, 3) := by decide +kernel
theorem dX11_place_24 : decode cX11_place 24 = .ok (.athrow, 1) := by decide +kernel
theorem dX11_place_25 : decode cX11_place 25 = .ok (.iload_n 2, 1) := by decide +kernel
theorem dX11_place_26 : decode cX11_place 26 = .ok (.iconst 4, 1) := by decide +kernel
theorem dX11_place_27 : decode cX11_place 27 = .ok (.if_icmp .ne 14, 3) := by decide +kernel
theorem dX11_place_30 : decode cX11_place 30 = .ok (.aload_n 0, 1) := by decide +kernel
theorem dX11_place_31 : decode cX11_place 31 = .ok (.getfield 33, 3) := by decide +kernel
theorem dX11_place_34 : decode cX11_place 34 = .ok (.iload_n 1, 1) := by decide +kernel
theorem dX11_place_35 : decode cX11_place 35 = .ok (.invokevirtual 165, 3) := by decide +kernel
theorem dX11_place_38 : decode cX11_place 38 = .ok (.goto 12, 3) := by decide +kernel
theorem dX11_place_41 : decode cX11_place 41 = .ok (.aload_n 0, 1) := by decide +kernel
theorem dX11_place_42 : decode cX11_place 42 = .ok (.getfield 33, 3) := by decide +kernel
theorem dX11_place_45 : decode cX11_place 45 = .ok (.iload_n 1, 1) := by decide +kernel
theorem dX11_place_46 : decode cX11_place 46 = .ok (.iload_n 2, 1) := by decide +kernel
theorem dX11_place_47 : decode cX11_place 47 = .ok (.invokevirtual 168, 3) := by decide +kernel
theorem dX11_place_50 : decode cX11_place 50 = .ok (.ireturn, 1) := by decide +kernel
theorem dX11_worth_0 : decode cX11_worth 0 = .ok (.iload_n 1, 1) := by decide +kernel
theorem dX11_worth_1 : decode cX11_worth 1 = .ok (.iconst (-1), 1) := by decide +kernel
theorem dX11_worth_2 : decode cX11_worth 2 = .ok (.if_icmp .eq 22, 3) := by decide +kernel
theorem dX11_worth_5 : decode cX11_worth 5 = .ok (.iload_n 1, 1) := by decide +kernel
theorem dX11_worth_6 : decode cX11_worth 6 = .ok (.iconst 0, 1) := by decide +kernel
theorem dX11_worth_7 : decode cX11_worth 7 = .ok (.aload_n 0, 1) := by decide +kernel
theorem dX11_worth_8 : decode cX11_worth 8 = .ok (.getfield 26, 3) := by decide +kernel
theorem dX11_worth_11 : decode cX11_worth 11 = .ok (.getfield 141, 3) := by decide +kernel
theorem dX11_worth_14 : decode cX11_worth 14 = .ok (.iconst 1, 1) := by decide +kernel
theorem dX11_worth_15 : decode cX11_worth 15 = .ok (.isub, 1) := by decide +kernel
theorem dX11_worth_16 : decode cX11_worth 16 = .ok (.invokestatic 118, 3) := by decide +kernel
theorem dX11_worth_19 : decode cX11_worth 19 = .ok (.ifCond .ne 5, 3) := by decide +kernel
theorem dX11_worth_22 : decode cX11_worth 22 = .ok (.iconst 0, 1) := by decide +kernel
theorem dX11_worth_23 : decode cX11_worth 23 = .ok (.ireturn, 1) := by decide +kernel
theorem dX11_worth_24 : decode cX11_worth 24 = .ok (.aload_n 0, 1) := by decide +kernel
theorem dX11_worth_25 : decode cX11_worth 25 = .ok (.getfield 26, 3) := by decide +kernel
theorem dX11_worth_28 : decode cX11_worth 28 = .ok (.iload_n 1, 1) := by decide +kernel
theorem dX11_worth_29 : decode cX11_worth 29 = .ok (.putfield 172, 3) := by decide +kernel
theorem dX11_worth_32 : decode cX11_worth 32 = .ok (.aload_n 0, 1) := by decide +kernel
theorem dX11_worth_33 : decode cX11_worth 33 = .ok (.getfield 26, 3) := by decide +kernel
theorem dX11_worth_36 : decode cX11_worth 36 = .ok (.aload_n 0, 1) := by decide +kernel
theorem dX11_worth_37 : decode cX11_worth 37 = .ok (.getfield 33, 3) := by decide +kernel
theorem dX11_worth_40 : decode cX11_worth 40 = .ok (.invokevirtual 131, 3) := by decide +kernel
theorem dX11_worth_43 : decode cX11_worth 43 = .ok (.iconst 1, 1) := by decide +kernel
theorem dX11_worth_44 : decode cX11_worth 44 = .ok (.ireturn, 1) := by decide +kernel
theorem dX11_set_0 : decode cX11_set 0 = .ok (.aload_n 0, 1) := by decide +kernel
theorem dX11_set_1 : decode cX11_set 1 = .ok (.invokevirtual 175, 3) := by decide +kernel
theorem dX11_set_4 : decode cX11_set 4 = .ok (.ifCond .eq 21, 3) := by decide +kernel
theorem dX11_set_7 : decode cX11_set 7 = .ok (.iload_n 1, 1) := by decide +kernel
theorem dX11_set_8 : decode cX11_set 8 = .ok (.iconst 0, 1) := by decide +kernel
theorem dX11_set_9 : decode cX11_set 9 = .ok (.iconst 3, 1) := by decide +kernel
theorem dX11_set_10 : decode cX11_set 10 = .ok (.invokestatic 118, 3) := by decide +kernel
theorem dX11_set_13 : decode cX11_set 13 = .ok (.ifCond .eq 12, 3) := by decide +kernel
theorem dX11_set_16 : decode cX11_set 16 = .ok (.aload_n 0, 1) := by decide +kernel
theorem dX11_set_17 : decode cX11_set 17 = .ok (.iload_n 1, 1) := by decide +kernel
theorem dX11_set_18 : decode cX11_set 18 = .ok (.invokevirtual 179, 3) := by decide +kernel
theorem dX11_set_21 : decode cX11_set 21 = .ok (.iload_n 2, 1) := by decide +kernel
theorem dX11_set_22 : decode cX11_set 22 = .ok (.if_icmp .ne 5, 3) := by decide +kernel
theorem dX11_set_25 : decode cX11_set 25 = .ok (.iconst 0, 1) := by decide +kernel
theorem dX11_set_26 : decode cX11_set 26 = .ok (.ireturn, 1) := by decide +kernel
theorem dX11_set_27 : decode cX11_set 27 = .ok (.iload_n 1, 1) := by decide +kernel
theorem dX11_set_28 : decode cX11_set 28 = .ok (.ifCond .ne 14, 3) := by decide +kernel
theorem dX11_set_31 : decode cX11_set 31 = .ok (.aload_n 0, 1) := by decide +kernel
theorem dX11_set_32 : decode cX11_set 32 = .ok (.getfield 40, 3) := by decide +kernel
theorem dX11_set_35 : decode cX11_set 35 = .ok (.iload_n 2, 1) := by decide +kernel
theorem dX11_set_36 : decode cX11_set 36 = .ok (.putfield 182, 3) := by decide +kernel
theorem dX11_set_39 : decode cX11_set 39 = .ok (.goto 37, 3) := by decide +kernel
theorem dX11_set_42 : decode cX11_set 42 = .ok (.iload_n 1, 1) := by decide +kernel
theorem dX11_set_43 : decode cX11_set 43 = .ok (.iconst 1, 1) := by decide +kernel
theorem dX11_set_44 : decode cX11_set 44 = .ok (.if_icmp .ne 14, 3) := by decide +kernel
theorem dX11_set_47 : decode cX11_set 47 = .ok (.aload_n 0, 1) := by decide +kernel
theorem dX11_set_48 : decode cX11_set 48 = .ok (.getfield 40, 3) := by decide +kernel
theorem dX11_set_51 : decode cX11_set 51 = .ok (.iload_n 2, 1) := by decide +kernel
theorem dX11_set_52 : decode cX11_set 52 = .ok (.putfield 185, 3) := by decide +kernel
theorem dX11_set_55 : decode cX11_set 55 = .ok (.goto 21, 3) := by decide +kernel
theorem dX11_set_58 : decode cX11_set 58 = .ok (.iload_n 1, 1) := by decide +kernel
theorem dX11_set_59 : decode cX11_set 59 = .ok (.iconst 2, 1) := by decide +kernel
theorem dX11_set_60 : decode cX11_set 60 = .ok (.if_icmp .ne 11, 3) := by decide +kernel
theorem dX11_set_63 : decode cX11_set 63 = .ok (.aload_n 0, 1) := by decide +kernel
theorem dX11_set_64 : decode cX11_set 64 = .ok (.iload_n 2, 1) := by decide +kernel
theorem dX11_set_65 : decode cX11_set 65 = .ok (.putfield 101, 3) := by decide +kernel
theorem dX11_set_68 : decode cX11_set 68 = .ok (.goto 8, 3) := by decide +kernel
theorem dX11_set_71 : decode cX11_set 71 = .ok (.aload_n 0, 1) := by decide +kernel
theorem dX11_set_72 : decode cX11_set 72 = .ok (.iload_n 2, 1) := by decide +kernel
theorem dX11_set_73 : decode cX11_set 73 = .ok (.putfield 104, 3) := by decide +kernel
theorem dX11_set_76 : decode cX11_set 76 = .ok (.iconst 1, 1) := by decide +kernel
theorem dX11_set_77 : decode cX11_set 77 = .ok (.ireturn, 1) := by decide +kernel
theorem dX11_flag_0 : decode cX11_flag 0 = .ok (.iload_n 1, 1) := by decide +kernel
theorem dX11_flag_1 : decode cX11_flag 1 = .ok (.ifCond .ne 11, 3) := by decide +kernel
theorem dX11_flag_4 : decode cX11_flag 4 = .ok (.aload_n 0, 1) := by decide +kernel
theorem dX11_flag_5 : decode cX11_flag 5 = .ok (.getfield 40, 3) := by decide +kernel
theorem dX11_flag_8 : decode cX11_flag 8 = .ok (.getfield 182, 3) := by decide +kernel
theorem dX11_flag_11 : decode cX11_flag 11 = .ok (.ireturn, 1) := by decide +kernel
theorem dX11_flag_12 : decode cX11_flag 12 = .ok (.iload_n 1, 1) := by decide +kernel
theorem dX11_flag_13 : decode cX11_flag 13 = .ok (.iconst 1, 1) := by decide +kernel
theorem dX11_flag_14 : decode cX11_flag 14 = .ok (.if_icmp .ne 11, 3) := by decide +kernel
theorem dX11_flag_17 : decode cX11_flag 17 = .ok (.aload_n 0, 1) := by decide +kernel
theorem dX11_flag_18 : decode cX11_flag 18 = .ok (.getfield 40, 3) := by decide +kernel
theorem dX11_flag_21 : decode cX11_flag 21 = .ok (.getfield 185, 3) := by decide +kernel
theorem dX11_flag_24 : decode cX11_flag 24 = .ok (.ireturn, 1) := by decide +kernel
theorem dX11_flag_25 : decode cX11_flag 25 = .ok (.iload_n 1, 1) := by decide +kernel
theorem dX11_flag_26 : decode cX11_flag 26 = .ok (.iconst 2, 1) := by decide +kernel
theorem dX11_flag_27 : decode cX11_flag 27 = .ok (.if_icmp .ne 10, 3) := by decide +kernel
theorem dX11_flag_30 : decode cX11_flag 30 = .ok (.aload_n 0, 1) := by decide +kernel
theorem dX11_flag_31 : decode cX11_flag 31 = .ok (.getfield 101, 3) := by decide +kernel
theorem dX11_flag_34 : decode cX11_flag 34 = .ok (.goto 7, 3) := by decide +kernel
theorem dX11_flag_37 : decode cX11_flag 37 = .ok (.aload_n 0, 1) := by decide +kernel
theorem dX11_flag_38 : decode cX11_flag 38 = .ok (.getfield 104, 3) := by decide +kernel
theorem dX11_flag_41 : decode cX11_flag 41 = .ok (.ireturn, 1) := by decide +kernel
theorem dX11_tugs_0 : decode cX11_tugs 0 = .ok (.aload_n 0, 1) := by decide +kernel
theorem dX11_tugs_1 : decode cX11_tugs 1 = .ok (.invokevirtual 175, 3) := by decide +kernel
theorem dX11_tugs_4 : decode cX11_tugs 4 = .ok (.ifCond .eq 17, 3) := by decide +kernel
theorem dX11_tugs_7 : decode cX11_tugs 7 = .ok (.iload_n 1, 1) := by decide +kernel
theorem dX11_tugs_8 : decode cX11_tugs 8 = .ok (.aload_n 0, 1) := by decide +kernel
theorem dX11_tugs_9 : decode cX11_tugs 9 = .ok (.getfield 33, 3) := by decide +kernel
theorem dX11_tugs_12 : decode cX11_tugs 12 = .ok (.getfield 188, 3) := by decide +kernel
theorem dX11_tugs_15 : decode cX11_tugs 15 = .ok (.invokestatic 191, 3) := by decide +kernel
theorem dX11_tugs_18 : decode cX11_tugs 18 = .ok (.goto 4, 3) := by decide +kernel
theorem dX11_tugs_21 : decode cX11_tugs 21 = .ok (.iconst (-1), 1) := by decide +kernel
theorem dX11_tugs_22 : decode cX11_tugs 22 = .ok (.istore_n 2, 1) := by decide +kernel
theorem dX11_tugs_23 : decode cX11_tugs 23 = .ok (.iload_n 2, 1) := by decide +kernel
theorem dX11_tugs_24 : decode cX11_tugs 24 = .ok (.iconst (-1), 1) := by decide +kernel
theorem dX11_tugs_25 : decode cX11_tugs 25 = .ok (.if_icmp .ne 5, 3) := by decide +kernel
theorem dX11_tugs_28 : decode cX11_tugs 28 = .ok (.iconst 0, 1) := by decide +kernel
theorem dX11_tugs_29 : decode cX11_tugs 29 = .ok (.ireturn, 1) := by decide +kernel
theorem dX11_tugs_30 : decode cX11_tugs 30 = .ok (.aload_n 0, 1) := by decide +kernel
theorem dX11_tugs_31 : decode cX11_tugs 31 = .ok (.getfield 40, 3) := by decide +kernel
theorem dX11_tugs_34 : decode cX11_tugs 34 = .ok (.iload_n 2, 1) := by decide +kernel
theorem dX11_tugs_35 : decode cX11_tugs 35 = .ok (.putfield 194, 3) := by decide +kernel
theorem dX11_tugs_38 : decode cX11_tugs 38 = .ok (.iconst 1, 1) := by decide +kernel
theorem dX11_tugs_39 : decode cX11_tugs 39 = .ok (.ireturn, 1) := by decide +kernel
theorem dX11_throwTo_0 : decode cX11_throwTo 0 = .ok (.aload_n 0, 1) := by decide +kernel
theorem dX11_throwTo_1 : decode cX11_throwTo 1 = .ok (.iload_n 1, 1) := by decide +kernel
theorem dX11_throwTo_2 : decode cX11_throwTo 2 = .ok (.iload_n 2, 1) := by decide +kernel
theorem dX11_throwTo_3 : decode cX11_throwTo 3 = .ok (.invokevirtual 197, 3) := by decide +kernel
theorem dX11_throwTo_6 : decode cX11_throwTo 6 = .ok (.ifCond .eq 11, 3) := by decide +kernel
theorem dX11_throwTo_9 : decode cX11_throwTo 9 = .ok (.aload_n 0, 1) := by decide +kernel
theorem dX11_throwTo_10 : decode cX11_throwTo 10 = .ok (.iload_n 3, 1) := by decide +kernel
theorem dX11_throwTo_11 : decode cX11_throwTo 11 = .ok (.invokevirtual 158, 3) := by decide +kernel
theorem dX11_throwTo_14 : decode cX11_throwTo 14 = .ok (.ifCond .ne 5, 3) := by decide +kernel
theorem dX11_throwTo_17 : decode cX11_throwTo 17 = .ok (.iconst 0, 1) := by decide +kernel
theorem dX11_throwTo_18 : decode cX11_throwTo 18 = .ok (.ireturn, 1) := by decide +kernel
theorem dX11_throwTo_19 : decode cX11_throwTo 19 = .ok (.aload_n 0, 1) := by decide +kernel
theorem dX11_throwTo_20 : decode cX11_throwTo 20 = .ok (.getfield 40, 3) := by decide +kernel
theorem dX11_throwTo_23 : decode cX11_throwTo 23 = .ok (.aload_n 0, 1) := by decide +kernel
theorem dX11_throwTo_24 : decode cX11_throwTo 24 = .ok (.getfield 40, 3) := by decide +kernel
theorem dX11_throwTo_27 : decode cX11_throwTo 27 = .ok (.getfield 201, 3) := by decide +kernel
theorem dX11_throwTo_30 : decode cX11_throwTo 30 = .ok (.iload_n 1, 1) := by decide +kernel
theorem dX11_throwTo_31 : decode cX11_throwTo 31 = .ok (.iload_n 2, 1) := by decide +kernel
theorem dX11_throwTo_32 : decode cX11_throwTo 32 = .ok (.iload_n 3, 1) := by decide +kernel
theorem dX11_throwTo_33 : decode cX11_throwTo 33 = .ok (.invokestatic 205, 3) := by decide +kernel
theorem dX11_throwTo_36 : decode cX11_throwTo 36 = .ok (.putfield 201, 3) := by decide +kernel
theorem dX11_throwTo_39 : decode cX11_throwTo 39 = .ok (.iconst 1, 1) := by decide +kernel
theorem dX11_throwTo_40 : decode cX11_throwTo 40 = .ok (.ireturn, 1) := by decide +kernel
theorem dX11_thrown_0 : decode cX11_thrown 0 = .ok (.aload_n 0, 1) := by decide +kernel
theorem dX11_thrown_1 : decode cX11_thrown 1 = .ok (.iload_n 1, 1) := by decide +kernel
theorem dX11_thrown_2 : decode cX11_thrown 2 = .ok (.iload_n 2, 1) := by decide +kernel
theorem dX11_thrown_3 : decode cX11_thrown 3 = .ok (.invokevirtual 197, 3) := by decide +kernel
theorem dX11_thrown_6 : decode cX11_thrown 6 = .ok (.ifCond .eq 18, 3) := by decide +kernel
theorem dX11_thrown_9 : decode cX11_thrown 9 = .ok (.aload_n 0, 1) := by decide +kernel
theorem dX11_thrown_10 : decode cX11_thrown 10 = .ok (.getfield 40, 3) := by decide +kernel
theorem dX11_thrown_13 : decode cX11_thrown 13 = .ok (.getfield 201, 3) := by decide +kernel
theorem dX11_thrown_16 : decode cX11_thrown 16 = .ok (.iload_n 1, 1) := by decide +kernel
theorem dX11_thrown_17 : decode cX11_thrown 17 = .ok (.iload_n 2, 1) := by decide +kernel
theorem dX11_thrown_18 : decode cX11_thrown 18 = .ok (.invokestatic 209, 3) := by decide +kernel
theorem dX11_thrown_21 : decode cX11_thrown 21 = .ok (.goto 4, 3) := by decide +kernel
theorem dX11_thrown_24 : decode cX11_thrown 24 = .ok (.iconst (-1), 1) := by decide +kernel
theorem dX11_thrown_25 : decode cX11_thrown 25 = .ok (.ireturn, 1) := by decide +kernel
theorem dX11_wet_0 : decode cX11_wet 0 = .ok (.aload_n 0, 1) := by decide +kernel
theorem dX11_wet_1 : decode cX11_wet 1 = .ok (.invokevirtual 175, 3) := by decide +kernel
theorem dX11_wet_4 : decode cX11_wet 4 = .ok (.ifCond .eq 24, 3) := by decide +kernel
theorem dX11_wet_7 : decode cX11_wet 7 = .ok (.iload_n 1, 1) := by decide +kernel
theorem dX11_wet_8 : decode cX11_wet 8 = .ok (.iconst 0, 1) := by decide +kernel
theorem dX11_wet_9 : decode cX11_wet 9 = .ok (.bipush 99, 2) := by decide +kernel
theorem dX11_wet_11 : decode cX11_wet 11 = .ok (.invokestatic 118, 3) := by decide +kernel
theorem dX11_wet_14 : decode cX11_wet 14 = .ok (.ifCond .eq 14, 3) := by decide +kernel
theorem dX11_wet_17 : decode cX11_wet 17 = .ok (.aload_n 0, 1) := by decide +kernel
theorem dX11_wet_18 : decode cX11_wet 18 = .ok (.getfield 40, 3) := by decide +kernel
theorem dX11_wet_21 : decode cX11_wet 21 = .ok (.getfield 213, 3) := by decide +kernel
theorem dX11_wet_24 : decode cX11_wet 24 = .ok (.iload_n 1, 1) := by decide +kernel
theorem dX11_wet_25 : decode cX11_wet 25 = .ok (.if_icmp .ne 5, 3) := by decide +kernel
theorem dX11_wet_28 : decode cX11_wet 28 = .ok (.iconst 0, 1) := by decide +kernel
theorem dX11_wet_29 : decode cX11_wet 29 = .ok (.ireturn, 1) := by decide +kernel
theorem dX11_wet_30 : decode cX11_wet 30 = .ok (.aload_n 0, 1) := by decide +kernel
theorem dX11_wet_31 : decode cX11_wet 31 = .ok (.getfield 40, 3) := by decide +kernel
theorem dX11_wet_34 : decode cX11_wet 34 = .ok (.iload_n 1, 1) := by decide +kernel
theorem dX11_wet_35 : decode cX11_wet 35 = .ok (.putfield 213, 3) := by decide +kernel
theorem dX11_wet_38 : decode cX11_wet 38 = .ok (.iconst 1, 1) := by decide +kernel
theorem dX11_wet_39 : decode cX11_wet 39 = .ok (.ireturn, 1) := by decide +kernel
theorem dX11_answer_0 : decode cX11_answer 0 = .ok (.aload_n 0, 1) := by decide +kernel
theorem dX11_answer_1 : decode cX11_answer 1 = .ok (.invokevirtual 175, 3) := by decide +kernel
theorem dX11_answer_4 : decode cX11_answer 4 = .ok (.ifCond .ne 5, 3) := by decide +kernel
theorem dX11_answer_7 : decode cX11_answer 7 = .ok (.iconst 0, 1) := by decide +kernel
theorem dX11_answer_8 : decode cX11_answer 8 = .ok (.ireturn, 1) := by decide +kernel
theorem dX11_answer_9 : decode cX11_answer 9 = .ok (.aload_n 0, 1) := by decide +kernel
theorem dX11_answer_10 : decode cX11_answer 10 = .ok (.getfield 40, 3) := by decide +kernel
theorem dX11_answer_13 : decode cX11_answer 13 = .ok (.aload_n 0, 1) := by decide +kernel
theorem dX11_answer_14 : decode cX11_answer 14 = .ok (.getfield 52, 3) := by decide +kernel
theorem dX11_answer_17 : decode cX11_answer 17 = .ok (.aload_n 0, 1) := by decide +kernel
theorem dX11_answer_18 : decode cX11_answer 18 = .ok (.getfield 40, 3) := by decide +kernel
theorem dX11_answer_21 : decode cX11_answer 21 = .ok (.getfield 194, 3) := by decide +kernel
theorem dX11_answer_24 : decode cX11_answer 24 = .ok (.invokevirtual 216, 3) := by decide +kernel
theorem dX11_answer_27 : decode cX11_answer 27 = .ok (.putfield 201, 3) := by decide +kernel
theorem dX11_answer_30 : decode cX11_answer 30 = .ok (.iconst 1, 1) := by decide +kernel
theorem dX11_answer_31 : decode cX11_answer 31 = .ok (.ireturn, 1) := by decide +kernel
theorem dX11_answerTo_0 : decode cX11_answerTo 0 = .ok (.aload_n 0, 1) := by decide +kernel
theorem dX11_answerTo_1 : decode cX11_answerTo 1 = .ok (.iload_n 1, 1) := by decide +kernel
theorem dX11_answerTo_2 : decode cX11_answerTo 2 = .ok (.iload_n 2, 1) := by decide +kernel
theorem dX11_answerTo_3 : decode cX11_answerTo 3 = .ok (.invokevirtual 197, 3) := by decide +kernel
theorem dX11_answerTo_6 : decode cX11_answerTo 6 = .ok (.ifCond .eq 25, 3) := by decide +kernel
theorem dX11_answerTo_9 : decode cX11_answerTo 9 = .ok (.aload_n 0, 1) := by decide +kernel
theorem dX11_answerTo_10 : decode cX11_answerTo 10 = .ok (.getfield 52, 3) := by decide +kernel
theorem dX11_answerTo_13 : decode cX11_answerTo 13 = .ok (.aload_n 0, 1) := by decide +kernel
theorem dX11_answerTo_14 : decode cX11_answerTo 14 = .ok (.getfield 40, 3) := by decide +kernel
theorem dX11_answerTo_17 : decode cX11_answerTo 17 = .ok (.getfield 194, 3) := by decide +kernel
theorem dX11_answerTo_20 : decode cX11_answerTo 20 = .ok (.invokevirtual 216, 3) := by decide +kernel
theorem dX11_answerTo_23 : decode cX11_answerTo 23 = .ok (.iload_n 1, 1) := by decide +kernel
theorem dX11_answerTo_24 : decode cX11_answerTo 24 = .ok (.iload_n 2, 1) := by decide +kernel
theorem dX11_answerTo_25 : decode cX11_answerTo 25 = .ok (.invokestatic 209, 3) := by decide +kernel
theorem dX11_answerTo_28 : decode cX11_answerTo 28 = .ok (.goto 4, 3) := by decide +kernel
theorem dX11_answerTo_31 : decode cX11_answerTo 31 = .ok (.iconst (-1), 1) := by decide +kernel
theorem dX11_answerTo_32 : decode cX11_answerTo 32 = .ok (.ireturn, 1) := by decide +kernel
theorem dX11_mean_0 : decode cX11_mean 0 = .ok (.aload_n 0, 1) := by decide +kernel
theorem dX11_mean_1 : decode cX11_mean 1 = .ok (.invokevirtual 175, 3) := by decide +kernel
theorem dX11_mean_4 : decode cX11_mean 4 = .ok (.ifCond .eq 10, 3) := by decide +kernel
theorem dX11_mean_7 : decode cX11_mean 7 = .ok (.iload_n 1, 1) := by decide +kernel
theorem dX11_mean_8 : decode cX11_mean 8 = .ok (.invokestatic 220, 3) := by decide +kernel
theorem dX11_mean_11 : decode cX11_mean 11 = .ok (.ifCond .ne 5, 3) := by decide +kernel
theorem dX11_mean_14 : decode cX11_mean 14 = .ok (.iconst (-1), 1) := by decide +kernel
theorem dX11_mean_15 : decode cX11_mean 15 = .ok (.ireturn, 1) := by decide +kernel
theorem dX11_mean_16 : decode cX11_mean 16 = .ok (.aload_n 0, 1) := by decide +kernel
theorem dX11_mean_17 : decode cX11_mean 17 = .ok (.aload_n 0, 1) := by decide +kernel
theorem dX11_mean_18 : decode cX11_mean 18 = .ok (.getfield 52, 3) := by decide +kernel
theorem dX11_mean_21 : decode cX11_mean 21 = .ok (.aload_n 0, 1) := by decide +kernel
theorem dX11_mean_22 : decode cX11_mean 22 = .ok (.getfield 40, 3) := by decide +kernel
theorem dX11_mean_25 : decode cX11_mean 25 = .ok (.getfield 194, 3) := by decide +kernel
theorem dX11_mean_28 : decode cX11_mean 28 = .ok (.aload_n 0, 1) := by decide +kernel
theorem dX11_mean_29 : decode cX11_mean 29 = .ok (.getfield 40, 3) := by decide +kernel
theorem dX11_mean_32 : decode cX11_mean 32 = .ok (.getfield 201, 3) := by decide +kernel
theorem dX11_mean_35 : decode cX11_mean 35 = .ok (.invokevirtual 223, 3) := by decide +kernel
theorem dX11_mean_38 : decode cX11_mean 38 = .ok (.iload_n 1, 1) := by decide +kernel
theorem dX11_mean_39 : decode cX11_mean 39 = .ok (.invokevirtual 227, 3) := by decide +kernel
theorem dX11_mean_42 : decode cX11_mean 42 = .ok (.ireturn, 1) := by decide +kernel
theorem dX11_tongue_0 : decode cX11_tongue 0 = .ok (.aload_n 0, 1) := by decide +kernel
theorem dX11_tongue_1 : decode cX11_tongue 1 = .ok (.invokevirtual 175, 3) := by decide +kernel
theorem dX11_tongue_4 : decode cX11_tongue 4 = .ok (.ifCond .eq 21, 3) := by decide +kernel
theorem dX11_tongue_7 : decode cX11_tongue 7 = .ok (.iload_n 1, 1) := by decide +kernel
theorem dX11_tongue_8 : decode cX11_tongue 8 = .ok (.iconst 1, 1) := by decide +kernel
theorem dX11_tongue_9 : decode cX11_tongue 9 = .ok (.iconst 4, 1) := by decide +kernel
theorem dX11_tongue_10 : decode cX11_tongue 10 = .ok (.invokestatic 118, 3) := by decide +kernel
theorem dX11_tongue_13 : decode cX11_tongue 13 = .ok (.ifCond .eq 12, 3) := by decide +kernel
theorem dX11_tongue_16 : decode cX11_tongue 16 = .ok (.iload_n 2, 1) := by decide +kernel
theorem dX11_tongue_17 : decode cX11_tongue 17 = .ok (.iconst 0, 1) := by decide +kernel
theorem dX11_tongue_18 : decode cX11_tongue 18 = .ok (.iconst 2, 1) := by decide +kernel
theorem dX11_tongue_19 : decode cX11_tongue 19 = .ok (.invokestatic 118, 3) := by decide +kernel
theorem dX11_tongue_22 : decode cX11_tongue 22 = .ok (.ifCond .ne 5, 3) := by decide +kernel
theorem dX11_tongue_25 : decode cX11_tongue 25 = .ok (.iconst (-1), 1) := by decide +kernel
theorem dX11_tongue_26 : decode cX11_tongue 26 = .ok (.ireturn, 1) := by decide +kernel
theorem dX11_tongue_27 : decode cX11_tongue 27 = .ok (.aload_n 0, 1) := by decide +kernel
theorem dX11_tongue_28 : decode cX11_tongue 28 = .ok (.getfield 59, 3) := by decide +kernel
theorem dX11_tongue_31 : decode cX11_tongue 31 = .ok (.iload_n 1, 1) := by decide +kernel
theorem dX11_tongue_32 : decode cX11_tongue 32 = .ok (.aload_n 0, 1) := by decide +kernel
theorem dX11_tongue_33 : decode cX11_tongue 33 = .ok (.getfield 40, 3) := by decide +kernel
theorem dX11_tongue_36 : decode cX11_tongue 36 = .ok (.getfield 182, 3) := by decide +kernel
theorem dX11_tongue_39 : decode cX11_tongue 39 = .ok (.aload_n 0, 1) := by decide +kernel
theorem dX11_tongue_40 : decode cX11_tongue 40 = .ok (.getfield 40, 3) := by decide +kernel
theorem dX11_tongue_43 : decode cX11_tongue 43 = .ok (.getfield 185, 3) := by decide +kernel
theorem dX11_tongue_46 : decode cX11_tongue 46 = .ok (.invokevirtual 231, 3) := by decide +kernel
theorem dX11_tongue_49 : decode cX11_tongue 49 = .ok (.iload_n 2, 1) := by decide +kernel
theorem dX11_tongue_50 : decode cX11_tongue 50 = .ok (.ifCond .ne 13, 3) := by decide +kernel
theorem dX11_tongue_53 : decode cX11_tongue 53 = .ok (.aload_n 0, 1) := by decide +kernel
theorem dX11_tongue_54 : decode cX11_tongue 54 = .ok (.getfield 59, 3) := by decide +kernel
theorem dX11_tongue_57 : decode cX11_tongue 57 = .ok (.getfield 235, 3) := by decide +kernel
theorem dX11_tongue_60 : decode cX11_tongue 60 = .ok (.goto 17, 3) := by decide +kernel
theorem dX11_tongue_63 : decode cX11_tongue 63 = .ok (.aload_n 0, 1) := by decide +kernel
theorem dX11_tongue_64 : decode cX11_tongue 64 = .ok (.aload_n 0, 1) := by decide +kernel
theorem dX11_tongue_65 : decode cX11_tongue 65 = .ok (.getfield 59, 3) := by decide +kernel
theorem dX11_tongue_68 : decode cX11_tongue 68 = .ok (.getfield 238, 3) := by decide +kernel
theorem dX11_tongue_71 : decode cX11_tongue 71 = .ok (.iload_n 2, 1) := by decide +kernel
theorem dX11_tongue_72 : decode cX11_tongue 72 = .ok (.iconst 1, 1) := by decide +kernel
theorem dX11_tongue_73 : decode cX11_tongue 73 = .ok (.isub, 1) := by decide +kernel
theorem dX11_tongue_74 : decode cX11_tongue 74 = .ok (.invokevirtual 227, 3) := by decide +kernel
theorem dX11_tongue_77 : decode cX11_tongue 77 = .ok (.ireturn, 1) := by decide +kernel
theorem dX11_sense_0 : decode cX11_sense 0 = .ok (.aload_n 0, 1) := by decide +kernel
theorem dX11_sense_1 : decode cX11_sense 1 = .ok (.invokevirtual 175, 3) := by decide +kernel
theorem dX11_sense_4 : decode cX11_sense 4 = .ok (.ifCond .eq 10, 3) := by decide +kernel
theorem dX11_sense_7 : decode cX11_sense 7 = .ok (.iload_n 3, 1) := by decide +kernel
theorem dX11_sense_8 : decode cX11_sense 8 = .ok (.invokestatic 220, 3) := by decide +kernel
theorem dX11_sense_11 : decode cX11_sense 11 = .ok (.ifCond .ne 5, 3) := by decide +kernel
theorem dX11_sense_14 : decode cX11_sense 14 = .ok (.iconst (-1), 1) := by decide +kernel
theorem dX11_sense_15 : decode cX11_sense 15 = .ok (.ireturn, 1) := by decide +kernel
theorem dX11_sense_16 : decode cX11_sense 16 = .ok (.aload_n 0, 1) := by decide +kernel
theorem dX11_sense_17 : decode cX11_sense 17 = .ok (.aload_n 0, 1) := by decide +kernel
theorem dX11_sense_18 : decode cX11_sense 18 = .ok (.iload_n 1, 1) := by decide +kernel
theorem dX11_sense_19 : decode cX11_sense 19 = .ok (.iload_n 2, 1) := by decide +kernel
theorem dX11_sense_20 : decode cX11_sense 20 = .ok (.invokevirtual 241, 3) := by decide +kernel
theorem dX11_sense_23 : decode cX11_sense 23 = .ok (.iload_n 3, 1) := by decide +kernel
theorem dX11_sense_24 : decode cX11_sense 24 = .ok (.invokevirtual 227, 3) := by decide +kernel
theorem dX11_sense_27 : decode cX11_sense 27 = .ok (.ireturn, 1) := by decide +kernel
theorem dX11_senseAbove_0 : decode cX11_senseAbove 0 = .ok (.aload_n 0, 1) := by decide +kernel
theorem dX11_senseAbove_1 : decode cX11_senseAbove 1 = .ok (.getfield 59, 3) := by decide +kernel
theorem dX11_senseAbove_4 : decode cX11_senseAbove 4 = .ok (.aload_n 0, 1) := by decide +kernel
theorem dX11_senseAbove_5 : decode cX11_senseAbove 5 = .ok (.getfield 33, 3) := by decide +kernel
theorem dX11_senseAbove_8 : decode cX11_senseAbove 8 = .ok (.getfield 188, 3) := by decide +kernel
theorem dX11_senseAbove_11 : decode cX11_senseAbove 11 = .ok (.iload_n 1, 1) := by decide +kernel
theorem dX11_senseAbove_12 : decode cX11_senseAbove 12 = .ok (.iload_n 2, 1) := by decide +kernel
theorem dX11_senseAbove_13 : decode cX11_senseAbove 13 = .ok (.invokevirtual 231, 3) := by decide +kernel
theorem dX11_senseAbove_16 : decode cX11_senseAbove 16 = .ok (.aload_n 0, 1) := by decide +kernel
theorem dX11_senseAbove_17 : decode cX11_senseAbove 17 = .ok (.getfield 59, 3) := by decide +kernel
theorem dX11_senseAbove_20 : decode cX11_senseAbove 20 = .ok (.getfield 238, 3) := by decide +kernel
theorem dX11_senseAbove_23 : decode cX11_senseAbove 23 = .ok (.lreturn, 1) := by decide +kernel
theorem dX11_settled_0 : decode cX11_settled 0 = .ok (.aload_n 0, 1) := by decide +kernel
theorem dX11_settled_1 : decode cX11_settled 1 = .ok (.invokevirtual 175, 3) := by decide +kernel
theorem dX11_settled_4 : decode cX11_settled 4 = .ok (.ifCond .ne 5, 3) := by decide +kernel
theorem dX11_settled_7 : decode cX11_settled 7 = .ok (.iconst (-1), 1) := by decide +kernel
theorem dX11_settled_8 : decode cX11_settled 8 = .ok (.ireturn, 1) := by decide +kernel
theorem dX11_settled_9 : decode cX11_settled 9 = .ok (.aload_n 0, 1) := by decide +kernel
theorem dX11_settled_10 : decode cX11_settled 10 = .ok (.getfield 73, 3) := by decide +kernel
theorem dX11_settled_13 : decode cX11_settled 13 = .ok (.iload_n 1, 1) := by decide +kernel
theorem dX11_settled_14 : decode cX11_settled 14 = .ok (.invokevirtual 245, 3) := by decide +kernel
theorem dX11_settled_17 : decode cX11_settled 17 = .ok (.iconst 0, 1) := by decide +kernel
theorem dX11_settled_18 : decode cX11_settled 18 = .ok (.istore_n 2, 1) := by decide +kernel
theorem dX11_settled_19 : decode cX11_settled 19 = .ok (.iload_n 2, 1) := by decide +kernel
theorem dX11_settled_20 : decode cX11_settled 20 = .ok (.sipush 256, 3) := by decide +kernel
theorem dX11_settled_23 : decode cX11_settled 23 = .ok (.if_icmp .ge 45, 3) := by decide +kernel
theorem dX11_settled_26 : decode cX11_settled 26 = .ok (.iload_n 2, 1) := by decide +kernel
theorem dX11_settled_27 : decode cX11_settled 27 = .ok (.aload_n 0, 1) := by decide +kernel
theorem dX11_settled_28 : decode cX11_settled 28 = .ok (.getfield 33, 3) := by decide +kernel
theorem dX11_settled_31 : decode cX11_settled 31 = .ok (.getfield 188, 3) := by decide +kernel
theorem dX11_settled_34 : decode cX11_settled 34 = .ok (.invokestatic 248, 3) := by decide +kernel
theorem dX11_settled_37 : decode cX11_settled 37 = .ok (.ifCond .eq 25, 3) := by decide +kernel
theorem dX11_settled_40 : decode cX11_settled 40 = .ok (.aload_n 0, 1) := by decide +kernel
theorem dX11_settled_41 : decode cX11_settled 41 = .ok (.getfield 52, 3) := by decide +kernel
theorem dX11_settled_44 : decode cX11_settled 44 = .ok (.iload_n 2, 1) := by decide +kernel
theorem dX11_settled_45 : decode cX11_settled 45 = .ok (.invokevirtual 251, 3) := by decide +kernel
theorem dX11_settled_48 : decode cX11_settled 48 = .ok (.ifCond .eq 14, 3) := by decide +kernel
theorem dX11_settled_51 : decode cX11_settled 51 = .ok (.aload_n 0, 1) := by decide +kernel
theorem dX11_settled_52 : decode cX11_settled 52 = .ok (.getfield 73, 3) := by decide +kernel
theorem dX11_settled_55 : decode cX11_settled 55 = .ok (.iload_n 2, 1) := by decide +kernel
theorem dX11_settled_56 : decode cX11_settled 56 = .ok (.invokestatic 254, 3) := by decide +kernel
theorem dX11_settled_59 : decode cX11_settled 59 = .ok (.invokevirtual 257, 3) := by decide +kernel
theorem dX11_settled_62 : decode cX11_settled 62 = .ok (.iinc 2 1, 3) := by decide +kernel
theorem dX11_settled_65 : decode cX11_settled 65 = .ok (.goto (-46), 3) := by decide +kernel
theorem dX11_settled_68 : decode cX11_settled 68 = .ok (.aload_n 0, 1) := by decide +kernel
theorem dX11_settled_69 : decode cX11_settled 69 = .ok (.getfield 73, 3) := by decide +kernel
theorem dX11_settled_72 : decode cX11_settled 72 = .ok (.invokevirtual 258, 3) := by decide +kernel
theorem dX11_settled_75 : decode cX11_settled 75 = .ok (.ireturn, 1) := by decide +kernel
theorem dX11_worst_0 : decode cX11_worst 0 = .ok (.aload_n 0, 1) := by decide +kernel
theorem dX11_worst_1 : decode cX11_worst 1 = .ok (.invokevirtual 175, 3) := by decide +kernel
theorem dX11_worst_4 : decode cX11_worst 4 = .ok (.ifCond .eq 10, 3) := by decide +kernel
theorem dX11_worst_7 : decode cX11_worst 7 = .ok (.iload_n 1, 1) := by decide +kernel
theorem dX11_worst_8 : decode cX11_worst 8 = .ok (.invokestatic 220, 3) := by decide +kernel
theorem dX11_worst_11 : decode cX11_worst 11 = .ok (.ifCond .ne 5, 3) := by decide +kernel
theorem dX11_worst_14 : decode cX11_worst 14 = .ok (.iconst (-1), 1) := by decide +kernel
theorem dX11_worst_15 : decode cX11_worst 15 = .ok (.ireturn, 1) := by decide +kernel
theorem dX11_worst_16 : decode cX11_worst 16 = .ok (.ldc2_w 260, 3) := by decide +kernel
theorem dX11_worst_19 : decode cX11_worst 19 = .ok (.lstore_n 2, 1) := by decide +kernel
theorem dX11_worst_20 : decode cX11_worst 20 = .ok (.iconst 0, 1) := by decide +kernel
theorem dX11_worst_21 : decode cX11_worst 21 = .ok (.istore 4, 2) := by decide +kernel
theorem dX11_worst_23 : decode cX11_worst 23 = .ok (.iload 4, 2) := by decide +kernel
theorem dX11_worst_25 : decode cX11_worst 25 = .ok (.sipush 256, 3) := by decide +kernel
theorem dX11_worst_28 : decode cX11_worst 28 = .ok (.if_icmp .ge 76, 3) := by decide +kernel
theorem dX11_worst_31 : decode cX11_worst 31 = .ok (.iload 4, 2) := by decide +kernel
theorem dX11_worst_33 : decode cX11_worst 33 = .ok (.aload_n 0, 1) := by decide +kernel
theorem dX11_worst_34 : decode cX11_worst 34 = .ok (.getfield 33, 3) := by decide +kernel
theorem dX11_worst_37 : decode cX11_worst 37 = .ok (.getfield 188, 3) := by decide +kernel
theorem dX11_worst_40 : decode cX11_worst 40 = .ok (.invokestatic 248, 3) := by decide +kernel
theorem dX11_worst_43 : decode cX11_worst 43 = .ok (.ifCond .eq 55, 3) := by decide +kernel
theorem dX11_worst_46 : decode cX11_worst 46 = .ok (.aload_n 0, 1) := by decide +kernel
theorem dX11_worst_47 : decode cX11_worst 47 = .ok (.getfield 52, 3) := by decide +kernel
theorem dX11_worst_50 : decode cX11_worst 50 = .ok (.iload 4, 2) := by decide +kernel
theorem dX11_worst_52 : decode cX11_worst 52 = .ok (.invokevirtual 251, 3) := by decide +kernel
theorem dX11_worst_55 : decode cX11_worst 55 = .ok (.ifCond .eq 43, 3) := by decide +kernel
theorem dX11_worst_58 : decode cX11_worst 58 = .ok (.aload_n 0, 1) := by decide +kernel
theorem dX11_worst_59 : decode cX11_worst 59 = .ok (.getfield 52, 3) := by decide +kernel
theorem dX11_worst_62 : decode cX11_worst 62 = .ok (.iload 4, 2) := by decide +kernel
theorem dX11_worst_64 : decode cX11_worst 64 = .ok (.aload_n 0, 1) := by decide +kernel
theorem dX11_worst_65 : decode cX11_worst 65 = .ok (.getfield 52, 3) := by decide +kernel
theorem dX11_worst_68 : decode cX11_worst 68 = .ok (.iload 4, 2) := by decide +kernel
theorem dX11_worst_70 : decode cX11_worst 70 = .ok (.invokevirtual 216, 3) := by decide +kernel
theorem dX11_worst_73 : decode cX11_worst 73 = .ok (.invokevirtual 223, 3) := by decide +kernel
theorem dX11_worst_76 : decode cX11_worst 76 = .ok (.lstore 5, 2) := by decide +kernel
theorem dX11_worst_78 : decode cX11_worst 78 = .ok (.lload_n 2, 1) := by decide +kernel
theorem dX11_worst_79 : decode cX11_worst 79 = .ok (.ldc2_w 260, 3) := by decide +kernel
theorem dX11_worst_82 : decode cX11_worst 82 = .ok (.lcmp, 1) := by decide +kernel
theorem dX11_worst_83 : decode cX11_worst 83 = .ok (.ifCond .ne 8, 3) := by decide +kernel
theorem dX11_worst_86 : decode cX11_worst 86 = .ok (.lload 5, 2) := by decide +kernel
theorem dX11_worst_88 : decode cX11_worst 88 = .ok (.goto 9, 3) := by decide +kernel
theorem dX11_worst_91 : decode cX11_worst 91 = .ok (.lload_n 2, 1) := by decide +kernel
theorem dX11_worst_92 : decode cX11_worst 92 = .ok (.lload 5, 2) := by decide +kernel
theorem dX11_worst_94 : decode cX11_worst 94 = .ok (.invokestatic 262, 3) := by decide +kernel
theorem dX11_worst_97 : decode cX11_worst 97 = .ok (.lstore_n 2, 1) := by decide +kernel
theorem dX11_worst_98 : decode cX11_worst 98 = .ok (.iinc 4 1, 3) := by decide +kernel
theorem dX11_worst_101 : decode cX11_worst 101 = .ok (.goto (-78), 3) := by decide +kernel
theorem dX11_worst_104 : decode cX11_worst 104 = .ok (.aload_n 0, 1) := by decide +kernel
theorem dX11_worst_105 : decode cX11_worst 105 = .ok (.lload_n 2, 1) := by decide +kernel
theorem dX11_worst_106 : decode cX11_worst 106 = .ok (.iload_n 1, 1) := by decide +kernel
theorem dX11_worst_107 : decode cX11_worst 107 = .ok (.invokevirtual 227, 3) := by decide +kernel
theorem dX11_worst_110 : decode cX11_worst 110 = .ok (.ireturn, 1) := by decide +kernel
theorem dX11_code_0 : decode cX11_code 0 = .ok (.aload_n 0, 1) := by decide +kernel
theorem dX11_code_1 : decode cX11_code 1 = .ok (.getfield 66, 3) := by decide +kernel
theorem dX11_code_4 : decode cX11_code 4 = .ok (.iload_n 1, 1) := by decide +kernel
theorem dX11_code_5 : decode cX11_code 5 = .ok (.iload_n 2, 1) := by decide +kernel
theorem dX11_code_6 : decode cX11_code 6 = .ok (.invokevirtual 268, 3) := by decide +kernel
theorem dX11_code_9 : decode cX11_code 9 = .ok (.ifCond .ne 5, 3) := by decide +kernel
theorem dX11_code_12 : decode cX11_code 12 = .ok (.iconst (-1), 1) := by decide +kernel
theorem dX11_code_13 : decode cX11_code 13 = .ok (.ireturn, 1) := by decide +kernel
theorem dX11_code_14 : decode cX11_code 14 = .ok (.iload_n 3, 1) := by decide +kernel
theorem dX11_code_15 : decode cX11_code 15 = .ok (.iconst (-1), 1) := by decide +kernel
theorem dX11_code_16 : decode cX11_code 16 = .ok (.if_icmp .ne 13, 3) := by decide +kernel
theorem dX11_code_19 : decode cX11_code 19 = .ok (.aload_n 0, 1) := by decide +kernel
theorem dX11_code_20 : decode cX11_code 20 = .ok (.getfield 66, 3) := by decide +kernel
theorem dX11_code_23 : decode cX11_code 23 = .ok (.getfield 271, 3) := by decide +kernel
theorem dX11_code_26 : decode cX11_code 26 = .ok (.goto 11, 3) := by decide +kernel
theorem dX11_code_29 : decode cX11_code 29 = .ok (.aload_n 0, 1) := by decide +kernel
theorem dX11_code_30 : decode cX11_code 30 = .ok (.getfield 66, 3) := by decide +kernel
theorem dX11_code_33 : decode cX11_code 33 = .ok (.iload_n 3, 1) := by decide +kernel
theorem dX11_code_34 : decode cX11_code 34 = .ok (.invokevirtual 272, 3) := by decide +kernel
theorem dX11_code_37 : decode cX11_code 37 = .ok (.ireturn, 1) := by decide +kernel
theorem dX11_read_0 : decode cX11_read 0 = .ok (.aload_n 0, 1) := by decide +kernel
theorem dX11_read_1 : decode cX11_read 1 = .ok (.getfield 66, 3) := by decide +kernel
theorem dX11_read_4 : decode cX11_read 4 = .ok (.iload_n 1, 1) := by decide +kernel
theorem dX11_read_5 : decode cX11_read 5 = .ok (.iload_n 2, 1) := by decide +kernel
theorem dX11_read_6 : decode cX11_read 6 = .ok (.invokevirtual 268, 3) := by decide +kernel
theorem dX11_read_9 : decode cX11_read 9 = .ok (.ifCond .eq 14, 3) := by decide +kernel
theorem dX11_read_12 : decode cX11_read 12 = .ok (.aload_n 0, 1) := by decide +kernel
theorem dX11_read_13 : decode cX11_read 13 = .ok (.getfield 66, 3) := by decide +kernel
theorem dX11_read_16 : decode cX11_read 16 = .ok (.iload_n 3, 1) := by decide +kernel
theorem dX11_read_17 : decode cX11_read 17 = .ok (.invokevirtual 275, 3) := by decide +kernel
theorem dX11_read_20 : decode cX11_read 20 = .ok (.goto 4, 3) := by decide +kernel
theorem dX11_read_23 : decode cX11_read 23 = .ok (.iconst (-1), 1) := by decide +kernel
theorem dX11_read_24 : decode cX11_read 24 = .ok (.ireturn, 1) := by decide +kernel
theorem dX11_spread_0 : decode cX11_spread 0 = .ok (.aload_n 0, 1) := by decide +kernel
theorem dX11_spread_1 : decode cX11_spread 1 = .ok (.getfield 66, 3) := by decide +kernel
theorem dX11_spread_4 : decode cX11_spread 4 = .ok (.iload_n 1, 1) := by decide +kernel
theorem dX11_spread_5 : decode cX11_spread 5 = .ok (.iload_n 2, 1) := by decide +kernel
theorem dX11_spread_6 : decode cX11_spread 6 = .ok (.invokevirtual 268, 3) := by decide +kernel
theorem dX11_spread_9 : decode cX11_spread 9 = .ok (.ifCond .eq 13, 3) := by decide +kernel
theorem dX11_spread_12 : decode cX11_spread 12 = .ok (.aload_n 0, 1) := by decide +kernel
theorem dX11_spread_13 : decode cX11_spread 13 = .ok (.getfield 66, 3) := by decide +kernel
theorem dX11_spread_16 : decode cX11_spread 16 = .ok (.invokevirtual 278, 3) := by decide +kernel
theorem dX11_spread_19 : decode cX11_spread 19 = .ok (.goto 4, 3) := by decide +kernel
theorem dX11_spread_22 : decode cX11_spread 22 = .ok (.iconst (-1), 1) := by decide +kernel
theorem dX11_spread_23 : decode cX11_spread 23 = .ok (.ireturn, 1) := by decide +kernel
theorem dX11_shelve_0 : decode cX11_shelve 0 = .ok (.aload_n 0, 1) := by decide +kernel
theorem dX11_shelve_1 : decode cX11_shelve 1 = .ok (.invokevirtual 175, 3) := by decide +kernel
theorem dX11_shelve_4 : decode cX11_shelve 4 = .ok (.ifCond .eq 10, 3) := by decide +kernel
theorem dX11_shelve_7 : decode cX11_shelve 7 = .ok (.iload_n 2, 1) := by decide +kernel
theorem dX11_shelve_8 : decode cX11_shelve 8 = .ok (.invokestatic 281, 3) := by decide +kernel
theorem dX11_shelve_11 : decode cX11_shelve 11 = .ok (.ifCond .ne 5, 3) := by decide +kernel
theorem dX11_shelve_14 : decode cX11_shelve 14 = .ok (.iconst 0, 1) := by decide +kernel
theorem dX11_shelve_15 : decode cX11_shelve 15 = .ok (.ireturn, 1) := by decide +kernel
theorem dX11_shelve_16 : decode cX11_shelve 16 = .ok (.iload_n 1, 1) := by decide +kernel
theorem dX11_shelve_17 : decode cX11_shelve 17 = .ok (.ifCond .eq 22, 3) := by decide +kernel
theorem dX11_shelve_20 : decode cX11_shelve 20 = .ok (.aload_n 0, 1) := by decide +kernel
theorem dX11_shelve_21 : decode cX11_shelve 21 = .ok (.getfield 82, 3) := by decide +kernel
theorem dX11_shelve_24 : decode cX11_shelve 24 = .ok (.getfield 284, 3) := by decide +kernel
theorem dX11_shelve_27 : decode cX11_shelve 27 = .ok (.iload_n 2, 1) := by decide +kernel
theorem dX11_shelve_28 : decode cX11_shelve 28 = .ok (.aload_n 0, 1) := by decide +kernel
theorem dX11_shelve_29 : decode cX11_shelve 29 = .ok (.getfield 40, 3) := by decide +kernel
theorem dX11_shelve_32 : decode cX11_shelve 32 = .ok (.getfield 201, 3) := by decide +kernel
theorem dX11_shelve_35 : decode cX11_shelve 35 = .ok (.lastore, 1) := by decide +kernel
theorem dX11_shelve_36 : decode cX11_shelve 36 = .ok (.goto 19, 3) := by decide +kernel
theorem dX11_shelve_39 : decode cX11_shelve 39 = .ok (.aload_n 0, 1) := by decide +kernel
theorem dX11_shelve_40 : decode cX11_shelve 40 = .ok (.getfield 82, 3) := by decide +kernel
theorem dX11_shelve_43 : decode cX11_shelve 43 = .ok (.getfield 288, 3) := by decide +kernel
theorem dX11_shelve_46 : decode cX11_shelve 46 = .ok (.iload_n 2, 1) := by decide +kernel
theorem dX11_shelve_47 : decode cX11_shelve 47 = .ok (.aload_n 0, 1) := by decide +kernel
theorem dX11_shelve_48 : decode cX11_shelve 48 = .ok (.getfield 40, 3) := by decide +kernel
theorem dX11_shelve_51 : decode cX11_shelve 51 = .ok (.getfield 194, 3) := by decide +kernel
theorem dX11_shelve_54 : decode cX11_shelve 54 = .ok (.iastore, 1) := by decide +kernel
theorem dX11_shelve_55 : decode cX11_shelve 55 = .ok (.iconst 1, 1) := by decide +kernel
theorem dX11_shelve_56 : decode cX11_shelve 56 = .ok (.ireturn, 1) := by decide +kernel
theorem dX11_fit_0 : decode cX11_fit 0 = .ok (.aload_n 0, 1) := by decide +kernel
theorem dX11_fit_1 : decode cX11_fit 1 = .ok (.getfield 82, 3) := by decide +kernel
theorem dX11_fit_4 : decode cX11_fit 4 = .ok (.iload_n 1, 1) := by decide +kernel
theorem dX11_fit_5 : decode cX11_fit 5 = .ok (.invokevirtual 291, 3) := by decide +kernel
theorem dX11_fit_8 : decode cX11_fit 8 = .ok (.ifCond .eq 21, 3) := by decide +kernel
theorem dX11_fit_11 : decode cX11_fit 11 = .ok (.aload_n 0, 1) := by decide +kernel
theorem dX11_fit_12 : decode cX11_fit 12 = .ok (.getfield 82, 3) := by decide +kernel
theorem dX11_fit_15 : decode cX11_fit 15 = .ok (.iload_n 2, 1) := by decide +kernel
theorem dX11_fit_16 : decode cX11_fit 16 = .ok (.invokevirtual 294, 3) := by decide +kernel
theorem dX11_fit_19 : decode cX11_fit 19 = .ok (.ifCond .eq 10, 3) := by decide +kernel
theorem dX11_fit_22 : decode cX11_fit 22 = .ok (.iload_n 3, 1) := by decide +kernel
theorem dX11_fit_23 : decode cX11_fit 23 = .ok (.invokestatic 220, 3) := by decide +kernel
theorem dX11_fit_26 : decode cX11_fit 26 = .ok (.ifCond .ne 5, 3) := by decide +kernel
theorem dX11_fit_29 : decode cX11_fit 29 = .ok (.iconst (-1), 1) := by decide +kernel
theorem dX11_fit_30 : decode cX11_fit 30 = .ok (.ireturn, 1) := by decide +kernel
theorem dX11_fit_31 : decode cX11_fit 31 = .ok (.aload_n 0, 1) := by decide +kernel
theorem dX11_fit_32 : decode cX11_fit 32 = .ok (.aload_n 0, 1) := by decide +kernel
theorem dX11_fit_33 : decode cX11_fit 33 = .ok (.getfield 52, 3) := by decide +kernel
theorem dX11_fit_36 : decode cX11_fit 36 = .ok (.aload_n 0, 1) := by decide +kernel
theorem dX11_fit_37 : decode cX11_fit 37 = .ok (.getfield 82, 3) := by decide +kernel
theorem dX11_fit_40 : decode cX11_fit 40 = .ok (.getfield 288, 3) := by decide +kernel
theorem dX11_fit_43 : decode cX11_fit 43 = .ok (.iload_n 1, 1) := by decide +kernel
theorem dX11_fit_44 : decode cX11_fit 44 = .ok (.iaload, 1) := by decide +kernel
theorem dX11_fit_45 : decode cX11_fit 45 = .ok (.aload_n 0, 1) := by decide +kernel
theorem dX11_fit_46 : decode cX11_fit 46 = .ok (.getfield 82, 3) := by decide +kernel
theorem dX11_fit_49 : decode cX11_fit 49 = .ok (.getfield 284, 3) := by decide +kernel
theorem dX11_fit_52 : decode cX11_fit 52 = .ok (.iload_n 2, 1) := by decide +kernel
theorem dX11_fit_53 : decode cX11_fit 53 = .ok (.laload, 1) := by decide +kernel
theorem dX11_fit_54 : decode cX11_fit 54 = .ok (.invokevirtual 223, 3) := by decide +kernel
theorem dX11_fit_57 : decode cX11_fit 57 = .ok (.iload_n 3, 1) := by decide +kernel
theorem dX11_fit_58 : decode cX11_fit 58 = .ok (.invokevirtual 227, 3) := by decide +kernel
theorem dX11_fit_61 : decode cX11_fit 61 = .ok (.ireturn, 1) := by decide +kernel
theorem dX11_pair_0 : decode cX11_pair 0 = .ok (.aload_n 0, 1) := by decide +kernel
theorem dX11_pair_1 : decode cX11_pair 1 = .ok (.getfield 82, 3) := by decide +kernel
theorem dX11_pair_4 : decode cX11_pair 4 = .ok (.iload_n 1, 1) := by decide +kernel
theorem dX11_pair_5 : decode cX11_pair 5 = .ok (.invokevirtual 291, 3) := by decide +kernel
theorem dX11_pair_8 : decode cX11_pair 8 = .ok (.ifCond .ne 5, 3) := by decide +kernel
theorem dX11_pair_11 : decode cX11_pair 11 = .ok (.iconst (-1), 1) := by decide +kernel
theorem dX11_pair_12 : decode cX11_pair 12 = .ok (.ireturn, 1) := by decide +kernel
theorem dX11_pair_13 : decode cX11_pair 13 = .ok (.aload_n 0, 1) := by decide +kernel
theorem dX11_pair_14 : decode cX11_pair 14 = .ok (.getfield 82, 3) := by decide +kernel
theorem dX11_pair_17 : decode cX11_pair 17 = .ok (.invokevirtual 297, 3) := by decide +kernel
theorem dX11_pair_20 : decode cX11_pair 20 = .ok (.aload_n 0, 1) := by decide +kernel
theorem dX11_pair_21 : decode cX11_pair 21 = .ok (.getfield 82, 3) := by decide +kernel
theorem dX11_pair_24 : decode cX11_pair 24 = .ok (.iload_n 1, 1) := by decide +kernel
theorem dX11_pair_25 : decode cX11_pair 25 = .ok (.invokevirtual 300, 3) := by decide +kernel
theorem dX11_pair_28 : decode cX11_pair 28 = .ok (.ireturn, 1) := by decide +kernel
theorem dX11_leavers_0 : decode cX11_leavers 0 = .ok (.aload_n 0, 1) := by decide +kernel
theorem dX11_leavers_1 : decode cX11_leavers 1 = .ok (.invokevirtual 175, 3) := by decide +kernel
theorem dX11_leavers_4 : decode cX11_leavers 4 = .ok (.ifCond .eq 14, 3) := by decide +kernel
theorem dX11_leavers_7 : decode cX11_leavers 7 = .ok (.aload_n 0, 1) := by decide +kernel
theorem dX11_leavers_8 : decode cX11_leavers 8 = .ok (.getfield 82, 3) := by decide +kernel
theorem dX11_leavers_11 : decode cX11_leavers 11 = .ok (.iload_n 1, 1) := by decide +kernel
theorem dX11_leavers_12 : decode cX11_leavers 12 = .ok (.invokevirtual 303, 3) := by decide +kernel
theorem dX11_leavers_15 : decode cX11_leavers 15 = .ok (.ifCond .ne 5, 3) := by decide +kernel
theorem dX11_leavers_18 : decode cX11_leavers 18 = .ok (.iconst (-1), 1) := by decide +kernel
theorem dX11_leavers_19 : decode cX11_leavers 19 = .ok (.ireturn, 1) := by decide +kernel
theorem dX11_leavers_20 : decode cX11_leavers 20 = .ok (.aload_n 0, 1) := by decide +kernel
theorem dX11_leavers_21 : decode cX11_leavers 21 = .ok (.getfield 82, 3) := by decide +kernel
theorem dX11_leavers_24 : decode cX11_leavers 24 = .ok (.invokevirtual 297, 3) := by decide +kernel
theorem dX11_leavers_27 : decode cX11_leavers 27 = .ok (.aload_n 0, 1) := by decide +kernel
theorem dX11_leavers_28 : decode cX11_leavers 28 = .ok (.getfield 82, 3) := by decide +kernel
theorem dX11_leavers_31 : decode cX11_leavers 31 = .ok (.iload_n 1, 1) := by decide +kernel
theorem dX11_leavers_32 : decode cX11_leavers 32 = .ok (.iload_n 2, 1) := by decide +kernel
theorem dX11_leavers_33 : decode cX11_leavers 33 = .ok (.invokevirtual 306, 3) := by decide +kernel
theorem dX11_leavers_36 : decode cX11_leavers 36 = .ok (.ireturn, 1) := by decide +kernel
theorem dX11_crossed_0 : decode cX11_crossed 0 = .ok (.aload_n 0, 1) := by decide +kernel
theorem dX11_crossed_1 : decode cX11_crossed 1 = .ok (.getfield 82, 3) := by decide +kernel
theorem dX11_crossed_4 : decode cX11_crossed 4 = .ok (.iload_n 1, 1) := by decide +kernel
theorem dX11_crossed_5 : decode cX11_crossed 5 = .ok (.invokevirtual 309, 3) := by decide +kernel
theorem dX11_crossed_8 : decode cX11_crossed 8 = .ok (.ifCond .eq 21, 3) := by decide +kernel
theorem dX11_crossed_11 : decode cX11_crossed 11 = .ok (.aload_n 0, 1) := by decide +kernel
theorem dX11_crossed_12 : decode cX11_crossed 12 = .ok (.getfield 82, 3) := by decide +kernel
theorem dX11_crossed_15 : decode cX11_crossed 15 = .ok (.iload_n 2, 1) := by decide +kernel
theorem dX11_crossed_16 : decode cX11_crossed 16 = .ok (.invokevirtual 309, 3) := by decide +kernel
theorem dX11_crossed_19 : decode cX11_crossed 19 = .ok (.ifCond .eq 10, 3) := by decide +kernel
theorem dX11_crossed_22 : decode cX11_crossed 22 = .ok (.iload_n 3, 1) := by decide +kernel
theorem dX11_crossed_23 : decode cX11_crossed 23 = .ok (.invokestatic 220, 3) := by decide +kernel
theorem dX11_crossed_26 : decode cX11_crossed 26 = .ok (.ifCond .ne 7, 3) := by decide +kernel
theorem dX11_crossed_29 : decode cX11_crossed 29 = .ok (.ldc2_w 260, 3) := by decide +kernel
theorem dX11_crossed_32 : decode cX11_crossed 32 = .ok (.lreturn, 1) := by decide +kernel
theorem dX11_crossed_33 : decode cX11_crossed 33 = .ok (.aload_n 0, 1) := by decide +kernel
theorem dX11_crossed_34 : decode cX11_crossed 34 = .ok (.getfield 82, 3) := by decide +kernel
theorem dX11_crossed_37 : decode cX11_crossed 37 = .ok (.iload_n 1, 1) := by decide +kernel
theorem dX11_crossed_38 : decode cX11_crossed 38 = .ok (.iload_n 2, 1) := by decide +kernel
theorem dX11_crossed_39 : decode cX11_crossed 39 = .ok (.invokevirtual 312, 3) := by decide +kernel
theorem dX11_crossed_42 : decode cX11_crossed 42 = .ok (.ldc2_w 316, 3) := by decide +kernel
theorem dX11_crossed_45 : decode cX11_crossed 45 = .ok (.aload_n 0, 1) := by decide +kernel
theorem dX11_crossed_46 : decode cX11_crossed 46 = .ok (.getfield 33, 3) := by decide +kernel
theorem dX11_crossed_49 : decode cX11_crossed 49 = .ok (.getfield 318, 3) := by decide +kernel
theorem dX11_crossed_52 : decode cX11_crossed 52 = .ok (.i2l, 1) := by decide +kernel
theorem dX11_crossed_53 : decode cX11_crossed 53 = .ok (.lmul, 1) := by decide +kernel
theorem dX11_crossed_54 : decode cX11_crossed 54 = .ok (.iload_n 3, 1) := by decide +kernel
theorem dX11_crossed_55 : decode cX11_crossed 55 = .ok (.invokestatic 321, 3) := by decide +kernel
theorem dX11_crossed_58 : decode cX11_crossed 58 = .ok (.lreturn, 1) := by decide +kernel
theorem dX11_rests_0 : decode cX11_rests 0 = .ok (.aload_n 0, 1) := by decide +kernel
theorem dX11_rests_1 : decode cX11_rests 1 = .ok (.getfield 82, 3) := by decide +kernel
theorem dX11_rests_4 : decode cX11_rests 4 = .ok (.iload_n 1, 1) := by decide +kernel
theorem dX11_rests_5 : decode cX11_rests 5 = .ok (.invokevirtual 291, 3) := by decide +kernel
theorem dX11_rests_8 : decode cX11_rests 8 = .ok (.ifCond .eq 14, 3) := by decide +kernel
theorem dX11_rests_11 : decode cX11_rests 11 = .ok (.aload_n 0, 1) := by decide +kernel
theorem dX11_rests_12 : decode cX11_rests 12 = .ok (.getfield 82, 3) := by decide +kernel
theorem dX11_rests_15 : decode cX11_rests 15 = .ok (.iload_n 2, 1) := by decide +kernel
theorem dX11_rests_16 : decode cX11_rests 16 = .ok (.invokevirtual 291, 3) := by decide +kernel
theorem dX11_rests_19 : decode cX11_rests 19 = .ok (.ifCond .ne 5, 3) := by decide +kernel
theorem dX11_rests_22 : decode cX11_rests 22 = .ok (.iconst (-1), 1) := by decide +kernel
theorem dX11_rests_23 : decode cX11_rests 23 = .ok (.ireturn, 1) := by decide +kernel
theorem dX11_rests_24 : decode cX11_rests 24 = .ok (.aload_n 0, 1) := by decide +kernel
theorem dX11_rests_25 : decode cX11_rests 25 = .ok (.getfield 82, 3) := by decide +kernel
theorem dX11_rests_28 : decode cX11_rests 28 = .ok (.iload_n 1, 1) := by decide +kernel
theorem dX11_rests_29 : decode cX11_rests 29 = .ok (.iload_n 2, 1) := by decide +kernel
theorem dX11_rests_30 : decode cX11_rests 30 = .ok (.invokevirtual 325, 3) := by decide +kernel
theorem dX11_rests_33 : decode cX11_rests 33 = .ok (.aload_n 0, 1) := by decide +kernel
theorem dX11_rests_34 : decode cX11_rests 34 = .ok (.getfield 82, 3) := by decide +kernel
theorem dX11_rests_37 : decode cX11_rests 37 = .ok (.iload_n 3, 1) := by decide +kernel
theorem dX11_rests_38 : decode cX11_rests 38 = .ok (.invokevirtual 329, 3) := by decide +kernel
theorem dX11_rests_41 : decode cX11_rests 41 = .ok (.ireturn, 1) := by decide +kernel
theorem dX11_see_0 : decode cX11_see 0 = .ok (.aload_n 0, 1) := by decide +kernel
theorem dX11_see_1 : decode cX11_see 1 = .ok (.iload_n 1, 1) := by decide +kernel
theorem dX11_see_2 : decode cX11_see 2 = .ok (.invokevirtual 158, 3) := by decide +kernel
theorem dX11_see_5 : decode cX11_see 5 = .ok (.ifCond .eq 20, 3) := by decide +kernel
theorem dX11_see_8 : decode cX11_see 8 = .ok (.aload_n 0, 1) := by decide +kernel
theorem dX11_see_9 : decode cX11_see 9 = .ok (.iload_n 2, 1) := by decide +kernel
theorem dX11_see_10 : decode cX11_see 10 = .ok (.invokevirtual 158, 3) := by decide +kernel
theorem dX11_see_13 : decode cX11_see 13 = .ok (.ifCond .eq 12, 3) := by decide +kernel
theorem dX11_see_16 : decode cX11_see 16 = .ok (.aload_n 0, 1) := by decide +kernel
theorem dX11_see_17 : decode cX11_see 17 = .ok (.getfield 93, 3) := by decide +kernel
theorem dX11_see_20 : decode cX11_see 20 = .ok (.bipush 20, 2) := by decide +kernel
theorem dX11_see_22 : decode cX11_see 22 = .ok (.if_icmp .lt 5, 3) := by decide +kernel
theorem dX11_see_25 : decode cX11_see 25 = .ok (.iconst (-1), 1) := by decide +kernel
theorem dX11_see_26 : decode cX11_see 26 = .ok (.ireturn, 1) := by decide +kernel
theorem dX11_see_27 : decode cX11_see 27 = .ok (.aload_n 0, 1) := by decide +kernel
theorem dX11_see_28 : decode cX11_see 28 = .ok (.getfield 86, 3) := by decide +kernel
theorem dX11_see_31 : decode cX11_see 31 = .ok (.aload_n 0, 1) := by decide +kernel
theorem dX11_see_32 : decode cX11_see 32 = .ok (.getfield 93, 3) := by decide +kernel
theorem dX11_see_35 : decode cX11_see 35 = .ok (.iload_n 1, 1) := by decide +kernel
theorem dX11_see_36 : decode cX11_see 36 = .ok (.iastore, 1) := by decide +kernel
theorem dX11_see_37 : decode cX11_see 37 = .ok (.aload_n 0, 1) := by decide +kernel
theorem dX11_see_38 : decode cX11_see 38 = .ok (.getfield 90, 3) := by decide +kernel
theorem dX11_see_41 : decode cX11_see 41 = .ok (.aload_n 0, 1) := by decide +kernel
theorem dX11_see_42 : decode cX11_see 42 = .ok (.getfield 93, 3) := by decide +kernel
theorem dX11_see_45 : decode cX11_see 45 = .ok (.iload_n 2, 1) := by decide +kernel
theorem dX11_see_46 : decode cX11_see 46 = .ok (.iastore, 1) := by decide +kernel
theorem dX11_see_47 : decode cX11_see 47 = .ok (.aload_n 0, 1) := by decide +kernel
theorem dX11_see_48 : decode cX11_see 48 = .ok (.dup, 1) := by decide +kernel
theorem dX11_see_49 : decode cX11_see 49 = .ok (.getfield 93, 3) := by decide +kernel
theorem dX11_see_52 : decode cX11_see 52 = .ok (.iconst 1, 1) := by decide +kernel
theorem dX11_see_53 : decode cX11_see 53 = .ok (.iadd, 1) := by decide +kernel
theorem dX11_see_54 : decode cX11_see 54 = .ok (.putfield 93, 3) := by decide +kernel
theorem dX11_see_57 : decode cX11_see 57 = .ok (.aload_n 0, 1) := by decide +kernel
theorem dX11_see_58 : decode cX11_see 58 = .ok (.getfield 93, 3) := by decide +kernel
theorem dX11_see_61 : decode cX11_see 61 = .ok (.ireturn, 1) := by decide +kernel
theorem dX11_meant_0 : decode cX11_meant 0 = .ok (.aload_n 0, 1) := by decide +kernel
theorem dX11_meant_1 : decode cX11_meant 1 = .ok (.invokevirtual 175, 3) := by decide +kernel
theorem dX11_meant_4 : decode cX11_meant 4 = .ok (.ifCond .ne 5, 3) := by decide +kernel
theorem dX11_meant_7 : decode cX11_meant 7 = .ok (.iconst (-1), 1) := by decide +kernel
theorem dX11_meant_8 : decode cX11_meant 8 = .ok (.ireturn, 1) := by decide +kernel
theorem dX11_meant_9 : decode cX11_meant 9 = .ok (.aload_n 0, 1) := by decide +kernel
theorem dX11_meant_10 : decode cX11_meant 10 = .ok (.getfield 73, 3) := by decide +kernel
theorem dX11_meant_13 : decode cX11_meant 13 = .ok (.iload_n 1, 1) := by decide +kernel
theorem dX11_meant_14 : decode cX11_meant 14 = .ok (.invokevirtual 245, 3) := by decide +kernel
theorem dX11_meant_17 : decode cX11_meant 17 = .ok (.iconst 0, 1) := by decide +kernel
theorem dX11_meant_18 : decode cX11_meant 18 = .ok (.istore_n 2, 1) := by decide +kernel
theorem dX11_meant_19 : decode cX11_meant 19 = .ok (.iload_n 2, 1) := by decide +kernel
theorem dX11_meant_20 : decode cX11_meant 20 = .ok (.sipush 256, 3) := by decide +kernel
theorem dX11_meant_23 : decode cX11_meant 23 = .ok (.if_icmp .ge 42, 3) := by decide +kernel
theorem dX11_meant_26 : decode cX11_meant 26 = .ok (.iload_n 2, 1) := by decide +kernel
theorem dX11_meant_27 : decode cX11_meant 27 = .ok (.aload_n 0, 1) := by decide +kernel
theorem dX11_meant_28 : decode cX11_meant 28 = .ok (.getfield 33, 3) := by decide +kernel
theorem dX11_meant_31 : decode cX11_meant 31 = .ok (.getfield 188, 3) := by decide +kernel
theorem dX11_meant_34 : decode cX11_meant 34 = .ok (.invokestatic 248, 3) := by decide +kernel
theorem dX11_meant_37 : decode cX11_meant 37 = .ok (.ifCond .eq 22, 3) := by decide +kernel
theorem dX11_meant_40 : decode cX11_meant 40 = .ok (.aload_n 0, 1) := by decide +kernel
theorem dX11_meant_41 : decode cX11_meant 41 = .ok (.iload_n 2, 1) := by decide +kernel
theorem dX11_meant_42 : decode cX11_meant 42 = .ok (.invokevirtual 332, 3) := by decide +kernel
theorem dX11_meant_45 : decode cX11_meant 45 = .ok (.ifCond .eq 14, 3) := by decide +kernel
theorem dX11_meant_48 : decode cX11_meant 48 = .ok (.aload_n 0, 1) := by decide +kernel
theorem dX11_meant_49 : decode cX11_meant 49 = .ok (.getfield 73, 3) := by decide +kernel
theorem dX11_meant_52 : decode cX11_meant 52 = .ok (.iload_n 2, 1) := by decide +kernel
theorem dX11_meant_53 : decode cX11_meant 53 = .ok (.invokestatic 254, 3) := by decide +kernel
theorem dX11_meant_56 : decode cX11_meant 56 = .ok (.invokevirtual 257, 3) := by decide +kernel
theorem dX11_meant_59 : decode cX11_meant 59 = .ok (.iinc 2 1, 3) := by decide +kernel
theorem dX11_meant_62 : decode cX11_meant 62 = .ok (.goto (-43), 3) := by decide +kernel
theorem dX11_meant_65 : decode cX11_meant 65 = .ok (.aload_n 0, 1) := by decide +kernel
theorem dX11_meant_66 : decode cX11_meant 66 = .ok (.getfield 73, 3) := by decide +kernel
theorem dX11_meant_69 : decode cX11_meant 69 = .ok (.invokevirtual 258, 3) := by decide +kernel
theorem dX11_meant_72 : decode cX11_meant 72 = .ok (.ireturn, 1) := by decide +kernel
theorem dX11_canBeMeant_0 : decode cX11_canBeMeant 0 = .ok (.iconst 0, 1) := by decide +kernel
theorem dX11_canBeMeant_1 : decode cX11_canBeMeant 1 = .ok (.istore_n 2, 1) := by decide +kernel
theorem dX11_canBeMeant_2 : decode cX11_canBeMeant 2 = .ok (.iload_n 2, 1) := by decide +kernel
theorem dX11_canBeMeant_3 : decode cX11_canBeMeant 3 = .ok (.aload_n 0, 1) := by decide +kernel
theorem dX11_canBeMeant_4 : decode cX11_canBeMeant 4 = .ok (.getfield 93, 3) := by decide +kernel
theorem dX11_canBeMeant_7 : decode cX11_canBeMeant 7 = .ok (.if_icmp .ge 81, 3) := by decide +kernel
theorem dX11_canBeMeant_10 : decode cX11_canBeMeant 10 = .ok (.iload_n 2, 1) := by decide +kernel
theorem dX11_canBeMeant_11 : decode cX11_canBeMeant 11 = .ok (.bipush 20, 2) := by decide +kernel
theorem dX11_canBeMeant_13 : decode cX11_canBeMeant 13 = .ok (.if_icmp .ge 75, 3) := by decide +kernel
theorem dX11_canBeMeant_16 : decode cX11_canBeMeant 16 = .ok (.aload_n 0, 1) := by decide +kernel
theorem dX11_canBeMeant_17 : decode cX11_canBeMeant 17 = .ok (.getfield 86, 3) := by decide +kernel
theorem dX11_canBeMeant_20 : decode cX11_canBeMeant 20 = .ok (.iload_n 2, 1) := by decide +kernel
theorem dX11_canBeMeant_21 : decode cX11_canBeMeant 21 = .ok (.iaload, 1) := by decide +kernel
theorem dX11_canBeMeant_22 : decode cX11_canBeMeant 22 = .ok (.istore_n 3, 1) := by decide +kernel
theorem dX11_canBeMeant_23 : decode cX11_canBeMeant 23 = .ok (.iload_n 1, 1) := by decide +kernel
theorem dX11_canBeMeant_24 : decode cX11_canBeMeant 24 = .ok (.aload_n 0, 1) := by decide +kernel
theorem dX11_canBeMeant_25 : decode cX11_canBeMeant 25 = .ok (.getfield 33, 3) := by decide +kernel
theorem dX11_canBeMeant_28 : decode cX11_canBeMeant 28 = .ok (.iload_n 3, 1) := by decide +kernel
theorem dX11_canBeMeant_29 : decode cX11_canBeMeant 29 = .ok (.aload_n 0, 1) := by decide +kernel
theorem dX11_canBeMeant_30 : decode cX11_canBeMeant 30 = .ok (.getfield 40, 3) := by decide +kernel
theorem dX11_canBeMeant_33 : decode cX11_canBeMeant 33 = .ok (.getfield 185, 3) := by decide +kernel
theorem dX11_canBeMeant_36 : decode cX11_canBeMeant 36 = .ok (.invokevirtual 335, 3) := by decide +kernel
theorem dX11_canBeMeant_39 : decode cX11_canBeMeant 39 = .ok (.invokestatic 339, 3) := by decide +kernel
theorem dX11_canBeMeant_42 : decode cX11_canBeMeant 42 = .ok (.istore 4, 2) := by decide +kernel
theorem dX11_canBeMeant_44 : decode cX11_canBeMeant 44 = .ok (.aload_n 0, 1) := by decide +kernel
theorem dX11_canBeMeant_45 : decode cX11_canBeMeant 45 = .ok (.getfield 40, 3) := by decide +kernel
theorem dX11_canBeMeant_48 : decode cX11_canBeMeant 48 = .ok (.getfield 201, 3) := by decide +kernel
theorem dX11_canBeMeant_51 : decode cX11_canBeMeant 51 = .ok (.aload_n 0, 1) := by decide +kernel
theorem dX11_canBeMeant_52 : decode cX11_canBeMeant 52 = .ok (.getfield 33, 3) := by decide +kernel
theorem dX11_canBeMeant_55 : decode cX11_canBeMeant 55 = .ok (.iload_n 3, 1) := by decide +kernel
theorem dX11_canBeMeant_56 : decode cX11_canBeMeant 56 = .ok (.aload_n 0, 1) := by decide +kernel
theorem dX11_canBeMeant_57 : decode cX11_canBeMeant 57 = .ok (.getfield 40, 3) := by decide +kernel
theorem dX11_canBeMeant_60 : decode cX11_canBeMeant 60 = .ok (.getfield 182, 3) := by decide +kernel
theorem dX11_canBeMeant_63 : decode cX11_canBeMeant 63 = .ok (.invokevirtual 342, 3) := by decide +kernel
theorem dX11_canBeMeant_66 : decode cX11_canBeMeant 66 = .ok (.iload 4, 2) := by decide +kernel
theorem dX11_canBeMeant_68 : decode cX11_canBeMeant 68 = .ok (.invokestatic 209, 3) := by decide +kernel
theorem dX11_canBeMeant_71 : decode cX11_canBeMeant 71 = .ok (.aload_n 0, 1) := by decide +kernel
theorem dX11_canBeMeant_72 : decode cX11_canBeMeant 72 = .ok (.getfield 90, 3) := by decide +kernel
theorem dX11_canBeMeant_75 : decode cX11_canBeMeant 75 = .ok (.iload_n 2, 1) := by decide +kernel
theorem dX11_canBeMeant_76 : decode cX11_canBeMeant 76 = .ok (.iaload, 1) := by decide +kernel
theorem dX11_canBeMeant_77 : decode cX11_canBeMeant 77 = .ok (.if_icmp .eq 5, 3) := by decide +kernel
theorem dX11_canBeMeant_80 : decode cX11_canBeMeant 80 = .ok (.iconst 0, 1) := by decide +kernel
theorem dX11_canBeMeant_81 : decode cX11_canBeMeant 81 = .ok (.ireturn, 1) := by decide +kernel
theorem dX11_canBeMeant_82 : decode cX11_canBeMeant 82 = .ok (.iinc 2 1, 3) := by decide +kernel
theorem dX11_canBeMeant_85 : decode cX11_canBeMeant 85 = .ok (.goto (-83), 3) := by decide +kernel
theorem dX11_canBeMeant_88 : decode cX11_canBeMeant 88 = .ok (.iconst 1, 1) := by decide +kernel
theorem dX11_canBeMeant_89 : decode cX11_canBeMeant 89 = .ok (.ireturn, 1) := by decide +kernel
theorem dX11_seed_0 : decode cX11_seed 0 = .ok (.aload_n 0, 1) := by decide +kernel
theorem dX11_seed_1 : decode cX11_seed 1 = .ok (.getfield 40, 3) := by decide +kernel
theorem dX11_seed_4 : decode cX11_seed 4 = .ok (.lload_n 1, 1) := by decide +kernel
theorem dX11_seed_5 : decode cX11_seed 5 = .ok (.putfield 345, 3) := by decide +kernel
theorem dX11_seed_8 : decode cX11_seed 8 = .ok (.iconst 1, 1) := by decide +kernel
theorem dX11_seed_9 : decode cX11_seed 9 = .ok (.ireturn, 1) := by decide +kernel
theorem dX11_day_0 : decode cX11_day 0 = .ok (.aload_n 0, 1) := by decide +kernel
theorem dX11_day_1 : decode cX11_day 1 = .ok (.invokevirtual 175, 3) := by decide +kernel
theorem dX11_day_4 : decode cX11_day 4 = .ok (.ifCond .eq 15, 3) := by decide +kernel
theorem dX11_day_7 : decode cX11_day 7 = .ok (.aload_n 0, 1) := by decide +kernel
theorem dX11_day_8 : decode cX11_day 8 = .ok (.getfield 40, 3) := by decide +kernel
theorem dX11_day_11 : decode cX11_day 11 = .ok (.getfield 348, 3) := by decide +kernel
theorem dX11_day_14 : decode cX11_day 14 = .ok (.bipush 40, 2) := by decide +kernel
theorem dX11_day_16 : decode cX11_day 16 = .ok (.if_icmp .lt 5, 3) := by decide +kernel
theorem dX11_day_19 : decode cX11_day 19 = .ok (.iconst (-1), 1) := by decide +kernel
theorem dX11_day_20 : decode cX11_day 20 = .ok (.ireturn, 1) := by decide +kernel
theorem dX11_day_21 : decode cX11_day 21 = .ok (.aload_n 0, 1) := by decide +kernel
theorem dX11_day_22 : decode cX11_day 22 = .ok (.getfield 40, 3) := by decide +kernel
theorem dX11_day_25 : decode cX11_day 25 = .ok (.invokevirtual 351, 3) := by decide +kernel
theorem dX11_day_28 : decode cX11_day 28 = .ok (.aload_n 0, 1) := by decide +kernel
theorem dX11_day_29 : decode cX11_day 29 = .ok (.getfield 33, 3) := by decide +kernel
theorem dX11_day_32 : decode cX11_day 32 = .ok (.aload_n 0, 1) := by decide +kernel
theorem dX11_day_33 : decode cX11_day 33 = .ok (.getfield 40, 3) := by decide +kernel
theorem dX11_day_36 : decode cX11_day 36 = .ok (.aload_n 0, 1) := by decide +kernel
theorem dX11_day_37 : decode cX11_day 37 = .ok (.getfield 33, 3) := by decide +kernel
theorem dX11_day_40 : decode cX11_day 40 = .ok (.getfield 318, 3) := by decide +kernel
theorem dX11_day_43 : decode cX11_day 43 = .ok (.invokevirtual 354, 3) := by decide +kernel
theorem dX11_day_46 : decode cX11_day 46 = .ok (.invokevirtual 357, 3) := by decide +kernel
theorem dX11_day_49 : decode cX11_day 49 = .ok (.istore_n 1, 1) := by decide +kernel
theorem dX11_day_50 : decode cX11_day 50 = .ok (.aload_n 0, 1) := by decide +kernel
theorem dX11_day_51 : decode cX11_day 51 = .ok (.getfield 33, 3) := by decide +kernel
theorem dX11_day_54 : decode cX11_day 54 = .ok (.iload_n 1, 1) := by decide +kernel
theorem dX11_day_55 : decode cX11_day 55 = .ok (.aload_n 0, 1) := by decide +kernel
theorem dX11_day_56 : decode cX11_day 56 = .ok (.getfield 40, 3) := by decide +kernel
theorem dX11_day_59 : decode cX11_day 59 = .ok (.getfield 185, 3) := by decide +kernel
theorem dX11_day_62 : decode cX11_day 62 = .ok (.invokevirtual 335, 3) := by decide +kernel
theorem dX11_day_65 : decode cX11_day 65 = .ok (.istore_n 2, 1) := by decide +kernel
theorem dX11_day_66 : decode cX11_day 66 = .ok (.aload_n 0, 1) := by decide +kernel
theorem dX11_day_67 : decode cX11_day 67 = .ok (.getfield 33, 3) := by decide +kernel
theorem dX11_day_70 : decode cX11_day 70 = .ok (.iload_n 1, 1) := by decide +kernel
theorem dX11_day_71 : decode cX11_day 71 = .ok (.aload_n 0, 1) := by decide +kernel
theorem dX11_day_72 : decode cX11_day 72 = .ok (.getfield 40, 3) := by decide +kernel
theorem dX11_day_75 : decode cX11_day 75 = .ok (.getfield 182, 3) := by decide +kernel
theorem dX11_day_78 : decode cX11_day 78 = .ok (.invokevirtual 342, 3) := by decide +kernel
theorem dX11_day_81 : decode cX11_day 81 = .ok (.istore_n 3, 1) := by decide +kernel
theorem dX11_day_82 : decode cX11_day 82 = .ok (.aload_n 0, 1) := by decide +kernel
theorem dX11_day_83 : decode cX11_day 83 = .ok (.getfield 40, 3) := by decide +kernel
theorem dX11_day_86 : decode cX11_day 86 = .ok (.getfield 194, 3) := by decide +kernel
theorem dX11_day_89 : decode cX11_day 89 = .ok (.iload_n 2, 1) := by decide +kernel
theorem dX11_day_90 : decode cX11_day 90 = .ok (.invokestatic 339, 3) := by decide +kernel
theorem dX11_day_93 : decode cX11_day 93 = .ok (.istore 4, 2) := by decide +kernel
theorem dX11_day_95 : decode cX11_day 95 = .ok (.iload 4, 2) := by decide +kernel
theorem dX11_day_97 : decode cX11_day 97 = .ok (.ifCond .eq 26, 3) := by decide +kernel
theorem dX11_day_100 : decode cX11_day 100 = .ok (.aload_n 0, 1) := by decide +kernel
theorem dX11_day_101 : decode cX11_day 101 = .ok (.getfield 40, 3) := by decide +kernel
theorem dX11_day_104 : decode cX11_day 104 = .ok (.bipush 100, 2) := by decide +kernel
theorem dX11_day_106 : decode cX11_day 106 = .ok (.invokevirtual 354, 3) := by decide +kernel
theorem dX11_day_109 : decode cX11_day 109 = .ok (.aload_n 0, 1) := by decide +kernel
theorem dX11_day_110 : decode cX11_day 110 = .ok (.getfield 40, 3) := by decide +kernel
theorem dX11_day_113 : decode cX11_day 113 = .ok (.getfield 213, 3) := by decide +kernel
theorem dX11_day_116 : decode cX11_day 116 = .ok (.if_icmp .ge 7, 3) := by decide +kernel
theorem dX11_day_119 : decode cX11_day 119 = .ok (.iconst 0, 1) := by decide +kernel
theorem dX11_day_120 : decode cX11_day 120 = .ok (.goto 5, 3) := by decide +kernel
theorem dX11_day_123 : decode cX11_day 123 = .ok (.iload 4, 2) := by decide +kernel
theorem dX11_day_125 : decode cX11_day 125 = .ok (.istore 5, 2) := by decide +kernel
theorem dX11_day_127 : decode cX11_day 127 = .ok (.aload_n 0, 1) := by decide +kernel
theorem dX11_day_128 : decode cX11_day 128 = .ok (.getfield 40, 3) := by decide +kernel
theorem dX11_day_131 : decode cX11_day 131 = .ok (.getfield 201, 3) := by decide +kernel
theorem dX11_day_134 : decode cX11_day 134 = .ok (.iload_n 3, 1) := by decide +kernel
theorem dX11_day_135 : decode cX11_day 135 = .ok (.iload 5, 2) := by decide +kernel
theorem dX11_day_137 : decode cX11_day 137 = .ok (.invokestatic 209, 3) := by decide +kernel
theorem dX11_day_140 : decode cX11_day 140 = .ok (.iload_n 1, 1) := by decide +kernel
theorem dX11_day_141 : decode cX11_day 141 = .ok (.if_icmp .ne 7, 3) := by decide +kernel
theorem dX11_day_144 : decode cX11_day 144 = .ok (.iconst 1, 1) := by decide +kernel
theorem dX11_day_145 : decode cX11_day 145 = .ok (.goto 4, 3) := by decide +kernel
theorem dX11_day_148 : decode cX11_day 148 = .ok (.iconst 0, 1) := by decide +kernel
theorem dX11_day_149 : decode cX11_day 149 = .ok (.istore 6, 2) := by decide +kernel
theorem dX11_day_151 : decode cX11_day 151 = .ok (.iload 6, 2) := by decide +kernel
theorem dX11_day_153 : decode cX11_day 153 = .ok (.ifCond .eq 14, 3) := by decide +kernel
theorem dX11_day_156 : decode cX11_day 156 = .ok (.aload_n 0, 1) := by decide +kernel
theorem dX11_day_157 : decode cX11_day 157 = .ok (.getfield 33, 3) := by decide +kernel
theorem dX11_day_160 : decode cX11_day 160 = .ok (.iload_n 1, 1) := by decide +kernel
theorem dX11_day_161 : decode cX11_day 161 = .ok (.invokevirtual 165, 3) := by decide +kernel
theorem dX11_day_164 : decode cX11_day 164 = .ok (.goto 4, 3) := by decide +kernel
theorem dX11_day_167 : decode cX11_day 167 = .ok (.iconst 0, 1) := by decide +kernel
theorem dX11_day_168 : decode cX11_day 168 = .ok (.istore 7, 2) := by decide +kernel
theorem dX11_day_170 : decode cX11_day 170 = .ok (.aload_n 0, 1) := by decide +kernel
theorem dX11_day_171 : decode cX11_day 171 = .ok (.getfield 40, 3) := by decide +kernel
theorem dX11_day_174 : decode cX11_day 174 = .ok (.iload_n 1, 1) := by decide +kernel
theorem dX11_day_175 : decode cX11_day 175 = .ok (.iload 5, 2) := by decide +kernel
theorem dX11_day_177 : decode cX11_day 177 = .ok (.iload 7, 2) := by decide +kernel
theorem dX11_day_179 : decode cX11_day 179 = .ok (.invokevirtual 360, 3) := by decide +kernel
theorem dX11_day_182 : decode cX11_day 182 = .ok (.iload 6, 2) := by decide +kernel
theorem dX11_day_184 : decode cX11_day 184 = .ok (.ifCond .ne 31, 3) := by decide +kernel
theorem dX11_day_187 : decode cX11_day 187 = .ok (.aload_n 0, 1) := by decide +kernel
theorem dX11_day_188 : decode cX11_day 188 = .ok (.getfield 101, 3) := by decide +kernel
theorem dX11_day_191 : decode cX11_day 191 = .ok (.ifCond .eq 24, 3) := by decide +kernel
theorem dX11_day_194 : decode cX11_day 194 = .ok (.aload_n 0, 1) := by decide +kernel
theorem dX11_day_195 : decode cX11_day 195 = .ok (.getfield 40, 3) := by decide +kernel
theorem dX11_day_198 : decode cX11_day 198 = .ok (.aload_n 0, 1) := by decide +kernel
theorem dX11_day_199 : decode cX11_day 199 = .ok (.getfield 40, 3) := by decide +kernel
theorem dX11_day_202 : decode cX11_day 202 = .ok (.getfield 201, 3) := by decide +kernel
theorem dX11_day_205 : decode cX11_day 205 = .ok (.iload_n 3, 1) := by decide +kernel
theorem dX11_day_206 : decode cX11_day 206 = .ok (.iload 5, 2) := by decide +kernel
theorem dX11_day_208 : decode cX11_day 208 = .ok (.iload_n 1, 1) := by decide +kernel
theorem dX11_day_209 : decode cX11_day 209 = .ok (.invokestatic 205, 3) := by decide +kernel
theorem dX11_day_212 : decode cX11_day 212 = .ok (.putfield 201, 3) := by decide +kernel
theorem dX11_day_215 : decode cX11_day 215 = .ok (.iload 6, 2) := by decide +kernel
theorem dX11_day_217 : decode cX11_day 217 = .ok (.ifCond .ne 50, 3) := by decide +kernel
theorem dX11_day_220 : decode cX11_day 220 = .ok (.aload_n 0, 1) := by decide +kernel
theorem dX11_day_221 : decode cX11_day 221 = .ok (.getfield 104, 3) := by decide +kernel
theorem dX11_day_224 : decode cX11_day 224 = .ok (.ifCond .eq 43, 3) := by decide +kernel
theorem dX11_day_227 : decode cX11_day 227 = .ok (.aload_n 0, 1) := by decide +kernel
theorem dX11_day_228 : decode cX11_day 228 = .ok (.getfield 40, 3) := by decide +kernel
theorem dX11_day_231 : decode cX11_day 231 = .ok (.aload_n 0, 1) := by decide +kernel
theorem dX11_day_232 : decode cX11_day 232 = .ok (.getfield 40, 3) := by decide +kernel
theorem dX11_day_235 : decode cX11_day 235 = .ok (.getfield 194, 3) := by decide +kernel
theorem dX11_day_238 : decode cX11_day 238 = .ok (.iload_n 2, 1) := by decide +kernel
theorem dX11_day_239 : decode cX11_day 239 = .ok (.iload 4, 2) := by decide +kernel
theorem dX11_day_241 : decode cX11_day 241 = .ok (.iconst 1, 1) := by decide +kernel
theorem dX11_day_242 : decode cX11_day 242 = .ok (.iadd, 1) := by decide +kernel
theorem dX11_day_243 : decode cX11_day 243 = .ok (.aload_n 0, 1) := by decide +kernel
theorem dX11_day_244 : decode cX11_day 244 = .ok (.getfield 33, 3) := by decide +kernel
theorem dX11_day_247 : decode cX11_day 247 = .ok (.getfield 188, 3) := by decide +kernel
theorem dX11_day_250 : decode cX11_day 250 = .ok (.if_icmp .ge 10, 3) := by decide +kernel
theorem dX11_day_253 : decode cX11_day 253 = .ok (.iload 4, 2) := by decide +kernel
theorem dX11_day_255 : decode cX11_day 255 = .ok (.iconst 1, 1) := by decide +kernel
theorem dX11_day_256 : decode cX11_day 256 = .ok (.iadd, 1) := by decide +kernel
theorem dX11_day_257 : decode cX11_day 257 = .ok (.goto 4, 3) := by decide +kernel
theorem dX11_day_260 : decode cX11_day 260 = .ok (.iconst 0, 1) := by decide +kernel
theorem dX11_day_261 : decode cX11_day 261 = .ok (.invokestatic 364, 3) := by decide +kernel
theorem dX11_day_264 : decode cX11_day 264 = .ok (.putfield 194, 3) := by decide +kernel
theorem dX11_day_267 : decode cX11_day 267 = .ok (.iload 7, 2) := by decide +kernel
theorem dX11_day_269 : decode cX11_day 269 = .ok (.ireturn, 1) := by decide +kernel
theorem dX11_was_0 : decode cX11_was 0 = .ok (.iload_n 1, 1) := by decide +kernel
theorem dX11_was_1 : decode cX11_was 1 = .ok (.iconst 0, 1) := by decide +kernel
theorem dX11_was_2 : decode cX11_was 2 = .ok (.aload_n 0, 1) := by decide +kernel
theorem dX11_was_3 : decode cX11_was 3 = .ok (.getfield 40, 3) := by decide +kernel
theorem dX11_was_6 : decode cX11_was 6 = .ok (.getfield 348, 3) := by decide +kernel
theorem dX11_was_9 : decode cX11_was 9 = .ok (.iconst 1, 1) := by decide +kernel
theorem dX11_was_10 : decode cX11_was 10 = .ok (.isub, 1) := by decide +kernel
theorem dX11_was_11 : decode cX11_was 11 = .ok (.invokestatic 118, 3) := by decide +kernel
theorem dX11_was_14 : decode cX11_was 14 = .ok (.ifCond .eq 12, 3) := by decide +kernel
theorem dX11_was_17 : decode cX11_was 17 = .ok (.iload_n 2, 1) := by decide +kernel
theorem dX11_was_18 : decode cX11_was 18 = .ok (.iconst 0, 1) := by decide +kernel
theorem dX11_was_19 : decode cX11_was 19 = .ok (.iconst 2, 1) := by decide +kernel
theorem dX11_was_20 : decode cX11_was 20 = .ok (.invokestatic 118, 3) := by decide +kernel
theorem dX11_was_23 : decode cX11_was 23 = .ok (.ifCond .ne 5, 3) := by decide +kernel
theorem dX11_was_26 : decode cX11_was 26 = .ok (.iconst (-1), 1) := by decide +kernel
theorem dX11_was_27 : decode cX11_was 27 = .ok (.ireturn, 1) := by decide +kernel
theorem dX11_was_28 : decode cX11_was 28 = .ok (.iload_n 2, 1) := by decide +kernel
theorem dX11_was_29 : decode cX11_was 29 = .ok (.ifCond .ne 12, 3) := by decide +kernel
theorem dX11_was_32 : decode cX11_was 32 = .ok (.aload_n 0, 1) := by decide +kernel
theorem dX11_was_33 : decode cX11_was 33 = .ok (.getfield 40, 3) := by decide +kernel
theorem dX11_was_36 : decode cX11_was 36 = .ok (.iload_n 1, 1) := by decide +kernel
theorem dX11_was_37 : decode cX11_was 37 = .ok (.invokevirtual 368, 3) := by decide +kernel
theorem dX11_was_40 : decode cX11_was 40 = .ok (.ireturn, 1) := by decide +kernel
theorem dX11_was_41 : decode cX11_was 41 = .ok (.iload_n 2, 1) := by decide +kernel
theorem dX11_was_42 : decode cX11_was 42 = .ok (.iconst 1, 1) := by decide +kernel
theorem dX11_was_43 : decode cX11_was 43 = .ok (.if_icmp .ne 14, 3) := by decide +kernel
theorem dX11_was_46 : decode cX11_was 46 = .ok (.aload_n 0, 1) := by decide +kernel
theorem dX11_was_47 : decode cX11_was 47 = .ok (.getfield 40, 3) := by decide +kernel
theorem dX11_was_50 : decode cX11_was 50 = .ok (.iload_n 1, 1) := by decide +kernel
theorem dX11_was_51 : decode cX11_was 51 = .ok (.invokevirtual 371, 3) := by decide +kernel
theorem dX11_was_54 : decode cX11_was 54 = .ok (.goto 11, 3) := by decide +kernel
theorem dX11_was_57 : decode cX11_was 57 = .ok (.aload_n 0, 1) := by decide +kernel
theorem dX11_was_58 : decode cX11_was 58 = .ok (.getfield 40, 3) := by decide +kernel
theorem dX11_was_61 : decode cX11_was 61 = .ok (.iload_n 1, 1) := by decide +kernel
theorem dX11_was_62 : decode cX11_was 62 = .ok (.invokevirtual 374, 3) := by decide +kernel
theorem dX11_was_65 : decode cX11_was 65 = .ok (.ireturn, 1) := by decide +kernel
theorem dX11_undo_0 : decode cX11_undo 0 = .ok (.aload_n 0, 1) := by decide +kernel
theorem dX11_undo_1 : decode cX11_undo 1 = .ok (.getfield 40, 3) := by decide +kernel
theorem dX11_undo_4 : decode cX11_undo 4 = .ok (.getfield 348, 3) := by decide +kernel
theorem dX11_undo_7 : decode cX11_undo 7 = .ok (.iconst 1, 1) := by decide +kernel
theorem dX11_undo_8 : decode cX11_undo 8 = .ok (.if_icmp .ge 5, 3) := by decide +kernel
theorem dX11_undo_11 : decode cX11_undo 11 = .ok (.iconst (-1), 1) := by decide +kernel
theorem dX11_undo_12 : decode cX11_undo 12 = .ok (.ireturn, 1) := by decide +kernel
theorem dX11_undo_13 : decode cX11_undo 13 = .ok (.aload_n 0, 1) := by decide +kernel
theorem dX11_undo_14 : decode cX11_undo 14 = .ok (.getfield 40, 3) := by decide +kernel
theorem dX11_undo_17 : decode cX11_undo 17 = .ok (.invokevirtual 377, 3) := by decide +kernel
theorem dX11_undo_20 : decode cX11_undo 20 = .ok (.aload_n 0, 1) := by decide +kernel
theorem dX11_undo_21 : decode cX11_undo 21 = .ok (.getfield 40, 3) := by decide +kernel
theorem dX11_undo_24 : decode cX11_undo 24 = .ok (.getfield 348, 3) := by decide +kernel
theorem dX11_undo_27 : decode cX11_undo 27 = .ok (.ireturn, 1) := by decide +kernel
theorem dX11_hoard_0 : decode cX11_hoard 0 = .ok (.aload_n 0, 1) := by decide +kernel
theorem dX11_hoard_1 : decode cX11_hoard 1 = .ok (.iload_n 1, 1) := by decide +kernel
theorem dX11_hoard_2 : decode cX11_hoard 2 = .ok (.invokevirtual 158, 3) := by decide +kernel
theorem dX11_hoard_5 : decode cX11_hoard 5 = .ok (.ifCond .eq 12, 3) := by decide +kernel
theorem dX11_hoard_8 : decode cX11_hoard 8 = .ok (.iload_n 2, 1) := by decide +kernel
theorem dX11_hoard_9 : decode cX11_hoard 9 = .ok (.iconst 0, 1) := by decide +kernel
theorem dX11_hoard_10 : decode cX11_hoard 10 = .ok (.iconst 1, 1) := by decide +kernel
theorem dX11_hoard_11 : decode cX11_hoard 11 = .ok (.invokestatic 118, 3) := by decide +kernel
theorem dX11_hoard_14 : decode cX11_hoard 14 = .ok (.ifCond .ne 5, 3) := by decide +kernel
theorem dX11_hoard_17 : decode cX11_hoard 17 = .ok (.iconst (-1), 1) := by decide +kernel
theorem dX11_hoard_18 : decode cX11_hoard 18 = .ok (.ireturn, 1) := by decide +kernel
theorem dX11_hoard_19 : decode cX11_hoard 19 = .ok (.iconst 0, 1) := by decide +kernel
theorem dX11_hoard_20 : decode cX11_hoard 20 = .ok (.istore_n 3, 1) := by decide +kernel
theorem dX11_hoard_21 : decode cX11_hoard 21 = .ok (.iconst 0, 1) := by decide +kernel
theorem dX11_hoard_22 : decode cX11_hoard 22 = .ok (.istore 4, 2) := by decide +kernel
theorem dX11_hoard_24 : decode cX11_hoard 24 = .ok (.iload 4, 2) := by decide +kernel
theorem dX11_hoard_26 : decode cX11_hoard 26 = .ok (.aload_n 0, 1) := by decide +kernel
theorem dX11_hoard_27 : decode cX11_hoard 27 = .ok (.getfield 40, 3) := by decide +kernel
theorem dX11_hoard_30 : decode cX11_hoard 30 = .ok (.getfield 348, 3) := by decide +kernel
theorem dX11_hoard_33 : decode cX11_hoard 33 = .ok (.if_icmp .ge 42, 3) := by decide +kernel
theorem dX11_hoard_36 : decode cX11_hoard 36 = .ok (.aload_n 0, 1) := by decide +kernel
theorem dX11_hoard_37 : decode cX11_hoard 37 = .ok (.getfield 40, 3) := by decide +kernel
theorem dX11_hoard_40 : decode cX11_hoard 40 = .ok (.iload 4, 2) := by decide +kernel
theorem dX11_hoard_42 : decode cX11_hoard 42 = .ok (.invokevirtual 368, 3) := by decide +kernel
theorem dX11_hoard_45 : decode cX11_hoard 45 = .ok (.iload_n 1, 1) := by decide +kernel
theorem dX11_hoard_46 : decode cX11_hoard 46 = .ok (.if_icmp .ne 23, 3) := by decide +kernel
theorem dX11_hoard_49 : decode cX11_hoard 49 = .ok (.iload_n 3, 1) := by decide +kernel
theorem dX11_hoard_50 : decode cX11_hoard 50 = .ok (.iload_n 2, 1) := by decide +kernel
theorem dX11_hoard_51 : decode cX11_hoard 51 = .ok (.ifCond .ne 15, 3) := by decide +kernel
theorem dX11_hoard_54 : decode cX11_hoard 54 = .ok (.aload_n 0, 1) := by decide +kernel
theorem dX11_hoard_55 : decode cX11_hoard 55 = .ok (.getfield 40, 3) := by decide +kernel
theorem dX11_hoard_58 : decode cX11_hoard 58 = .ok (.iload 4, 2) := by decide +kernel
theorem dX11_hoard_60 : decode cX11_hoard 60 = .ok (.invokevirtual 374, 3) := by decide +kernel
theorem dX11_hoard_63 : decode cX11_hoard 63 = .ok (.goto 4, 3) := by decide +kernel
theorem dX11_hoard_66 : decode cX11_hoard 66 = .ok (.iconst 1, 1) := by decide +kernel
theorem dX11_hoard_67 : decode cX11_hoard 67 = .ok (.iadd, 1) := by decide +kernel
theorem dX11_hoard_68 : decode cX11_hoard 68 = .ok (.istore_n 3, 1) := by decide +kernel
theorem dX11_hoard_69 : decode cX11_hoard 69 = .ok (.iinc 4 1, 3) := by decide +kernel
theorem dX11_hoard_72 : decode cX11_hoard 72 = .ok (.goto (-48), 3) := by decide +kernel
theorem dX11_hoard_75 : decode cX11_hoard 75 = .ok (.iload_n 3, 1) := by decide +kernel
theorem dX11_hoard_76 : decode cX11_hoard 76 = .ok (.ireturn, 1) := by decide +kernel
theorem dX11_said_0 : decode cX11_said 0 = .ok (.aload_n 0, 1) := by decide +kernel
theorem dX11_said_1 : decode cX11_said 1 = .ok (.invokevirtual 175, 3) := by decide +kernel
theorem dX11_said_4 : decode cX11_said 4 = .ok (.ifCond .eq 21, 3) := by decide +kernel
theorem dX11_said_7 : decode cX11_said 7 = .ok (.iload_n 1, 1) := by decide +kernel
theorem dX11_said_8 : decode cX11_said 8 = .ok (.iconst 0, 1) := by decide +kernel
theorem dX11_said_9 : decode cX11_said 9 = .ok (.iconst 3, 1) := by decide +kernel
theorem dX11_said_10 : decode cX11_said 10 = .ok (.invokestatic 118, 3) := by decide +kernel
theorem dX11_said_13 : decode cX11_said 13 = .ok (.ifCond .eq 12, 3) := by decide +kernel
theorem dX11_said_16 : decode cX11_said 16 = .ok (.iload_n 2, 1) := by decide +kernel
theorem dX11_said_17 : decode cX11_said 17 = .ok (.iconst 0, 1) := by decide +kernel
theorem dX11_said_18 : decode cX11_said 18 = .ok (.iconst 3, 1) := by decide +kernel
theorem dX11_said_19 : decode cX11_said 19 = .ok (.invokestatic 118, 3) := by decide +kernel
theorem dX11_said_22 : decode cX11_said 22 = .ok (.ifCond .ne 5, 3) := by decide +kernel
theorem dX11_said_25 : decode cX11_said 25 = .ok (.iconst (-1), 1) := by decide +kernel
theorem dX11_said_26 : decode cX11_said 26 = .ok (.ireturn, 1) := by decide +kernel
theorem dX11_said_27 : decode cX11_said 27 = .ok (.iconst 0, 1) := by decide +kernel
theorem dX11_said_28 : decode cX11_said 28 = .ok (.istore_n 3, 1) := by decide +kernel
theorem dX11_said_29 : decode cX11_said 29 = .ok (.iconst 0, 1) := by decide +kernel
theorem dX11_said_30 : decode cX11_said 30 = .ok (.istore 4, 2) := by decide +kernel
theorem dX11_said_32 : decode cX11_said 32 = .ok (.iload 4, 2) := by decide +kernel
theorem dX11_said_34 : decode cX11_said 34 = .ok (.aload_n 0, 1) := by decide +kernel
theorem dX11_said_35 : decode cX11_said 35 = .ok (.getfield 40, 3) := by decide +kernel
theorem dX11_said_38 : decode cX11_said 38 = .ok (.getfield 348, 3) := by decide +kernel
theorem dX11_said_41 : decode cX11_said 41 = .ok (.if_icmp .ge 46, 3) := by decide +kernel
theorem dX11_said_44 : decode cX11_said 44 = .ok (.aload_n 0, 1) := by decide +kernel
theorem dX11_said_45 : decode cX11_said 45 = .ok (.getfield 40, 3) := by decide +kernel
theorem dX11_said_48 : decode cX11_said 48 = .ok (.iload 4, 2) := by decide +kernel
theorem dX11_said_50 : decode cX11_said 50 = .ok (.invokevirtual 371, 3) := by decide +kernel
theorem dX11_said_53 : decode cX11_said 53 = .ok (.iload_n 2, 1) := by decide +kernel
theorem dX11_said_54 : decode cX11_said 54 = .ok (.if_icmp .ne 27, 3) := by decide +kernel
theorem dX11_said_57 : decode cX11_said 57 = .ok (.aload_n 0, 1) := by decide +kernel
theorem dX11_said_58 : decode cX11_said 58 = .ok (.getfield 33, 3) := by decide +kernel
theorem dX11_said_61 : decode cX11_said 61 = .ok (.aload_n 0, 1) := by decide +kernel
theorem dX11_said_62 : decode cX11_said 62 = .ok (.getfield 40, 3) := by decide +kernel
theorem dX11_said_65 : decode cX11_said 65 = .ok (.iload 4, 2) := by decide +kernel
theorem dX11_said_67 : decode cX11_said 67 = .ok (.invokevirtual 368, 3) := by decide +kernel
theorem dX11_said_70 : decode cX11_said 70 = .ok (.iconst 1, 1) := by decide +kernel
theorem dX11_said_71 : decode cX11_said 71 = .ok (.invokevirtual 168, 3) := by decide +kernel
theorem dX11_said_74 : decode cX11_said 74 = .ok (.iload_n 1, 1) := by decide +kernel
theorem dX11_said_75 : decode cX11_said 75 = .ok (.if_icmp .ne 6, 3) := by decide +kernel
theorem dX11_said_78 : decode cX11_said 78 = .ok (.iinc 3 1, 3) := by decide +kernel
theorem dX11_said_81 : decode cX11_said 81 = .ok (.iinc 4 1, 3) := by decide +kernel
theorem dX11_said_84 : decode cX11_said 84 = .ok (.goto (-52), 3) := by decide +kernel
theorem dX11_said_87 : decode cX11_said 87 = .ok (.iload_n 3, 1) := by decide +kernel
theorem dX11_said_88 : decode cX11_said 88 = .ok (.ireturn, 1) := by decide +kernel
theorem dX11_run_0 : decode cX11_run 0 = .ok (.aload_n 0, 1) := by decide +kernel
theorem dX11_run_1 : decode cX11_run 1 = .ok (.invokevirtual 175, 3) := by decide +kernel
theorem dX11_run_4 : decode cX11_run 4 = .ok (.ifCond .ne 5, 3) := by decide +kernel
theorem dX11_run_7 : decode cX11_run 7 = .ok (.iconst (-1), 1) := by decide +kernel
theorem dX11_run_8 : decode cX11_run 8 = .ok (.ireturn, 1) := by decide +kernel
theorem dX11_run_9 : decode cX11_run 9 = .ok (.iconst 0, 1) := by decide +kernel
theorem dX11_run_10 : decode cX11_run 10 = .ok (.istore_n 1, 1) := by decide +kernel
theorem dX11_run_11 : decode cX11_run 11 = .ok (.iconst 0, 1) := by decide +kernel
theorem dX11_run_12 : decode cX11_run 12 = .ok (.istore_n 2, 1) := by decide +kernel
theorem dX11_run_13 : decode cX11_run 13 = .ok (.iconst 0, 1) := by decide +kernel
theorem dX11_run_14 : decode cX11_run 14 = .ok (.istore_n 3, 1) := by decide +kernel
theorem dX11_run_15 : decode cX11_run 15 = .ok (.iload_n 3, 1) := by decide +kernel
theorem dX11_run_16 : decode cX11_run 16 = .ok (.aload_n 0, 1) := by decide +kernel
theorem dX11_run_17 : decode cX11_run 17 = .ok (.getfield 40, 3) := by decide +kernel
theorem dX11_run_20 : decode cX11_run 20 = .ok (.getfield 348, 3) := by decide +kernel
theorem dX11_run_23 : decode cX11_run 23 = .ok (.if_icmp .ge 34, 3) := by decide +kernel
theorem dX11_run_26 : decode cX11_run 26 = .ok (.aload_n 0, 1) := by decide +kernel
theorem dX11_run_27 : decode cX11_run 27 = .ok (.getfield 40, 3) := by decide +kernel
theorem dX11_run_30 : decode cX11_run 30 = .ok (.iload_n 3, 1) := by decide +kernel
theorem dX11_run_31 : decode cX11_run 31 = .ok (.invokevirtual 374, 3) := by decide +kernel
theorem dX11_run_34 : decode cX11_run 34 = .ok (.ifCond .ne 9, 3) := by decide +kernel
theorem dX11_run_37 : decode cX11_run 37 = .ok (.iload_n 2, 1) := by decide +kernel
theorem dX11_run_38 : decode cX11_run 38 = .ok (.iconst 1, 1) := by decide +kernel
theorem dX11_run_39 : decode cX11_run 39 = .ok (.iadd, 1) := by decide +kernel
theorem dX11_run_40 : decode cX11_run 40 = .ok (.goto 4, 3) := by decide +kernel
theorem dX11_run_43 : decode cX11_run 43 = .ok (.iconst 0, 1) := by decide +kernel
theorem dX11_run_44 : decode cX11_run 44 = .ok (.istore_n 2, 1) := by decide +kernel
theorem dX11_run_45 : decode cX11_run 45 = .ok (.iload_n 1, 1) := by decide +kernel
theorem dX11_run_46 : decode cX11_run 46 = .ok (.iload_n 2, 1) := by decide +kernel
theorem dX11_run_47 : decode cX11_run 47 = .ok (.invokestatic 380, 3) := by decide +kernel
theorem dX11_run_50 : decode cX11_run 50 = .ok (.istore_n 1, 1) := by decide +kernel
theorem dX11_run_51 : decode cX11_run 51 = .ok (.iinc 3 1, 3) := by decide +kernel
theorem dX11_run_54 : decode cX11_run 54 = .ok (.goto (-39), 3) := by decide +kernel
theorem dX11_run_57 : decode cX11_run 57 = .ok (.iload_n 1, 1) := by decide +kernel
theorem dX11_run_58 : decode cX11_run 58 = .ok (.ireturn, 1) := by decide +kernel
theorem dX11_copy_0 : decode cX11_copy 0 = .ok (.aload_n 0, 1) := by decide +kernel
theorem dX11_copy_1 : decode cX11_copy 1 = .ok (.invokevirtual 175, 3) := by decide +kernel
theorem dX11_copy_4 : decode cX11_copy 4 = .ok (.ifCond .ne 5, 3) := by decide +kernel
theorem dX11_copy_7 : decode cX11_copy 7 = .ok (.iconst (-1), 1) := by decide +kernel
theorem dX11_copy_8 : decode cX11_copy 8 = .ok (.ireturn, 1) := by decide +kernel
theorem dX11_copy_9 : decode cX11_copy 9 = .ok (.aload_n 0, 1) := by decide +kernel
theorem dX11_copy_10 : decode cX11_copy 10 = .ok (.getfield 52, 3) := by decide +kernel
theorem dX11_copy_13 : decode cX11_copy 13 = .ok (.aload_n 0, 1) := by decide +kernel
theorem dX11_copy_14 : decode cX11_copy 14 = .ok (.getfield 40, 3) := by decide +kernel
theorem dX11_copy_17 : decode cX11_copy 17 = .ok (.getfield 194, 3) := by decide +kernel
theorem dX11_copy_20 : decode cX11_copy 20 = .ok (.invokevirtual 216, 3) := by decide +kernel
theorem dX11_copy_23 : decode cX11_copy 23 = .ok (.lstore_n 1, 1) := by decide +kernel
theorem dX11_copy_24 : decode cX11_copy 24 = .ok (.iconst 0, 1) := by decide +kernel
theorem dX11_copy_25 : decode cX11_copy 25 = .ok (.istore_n 3, 1) := by decide +kernel
theorem dX11_copy_26 : decode cX11_copy 26 = .ok (.iconst 0, 1) := by decide +kernel
theorem dX11_copy_27 : decode cX11_copy 27 = .ok (.istore 4, 2) := by decide +kernel
theorem dX11_copy_29 : decode cX11_copy 29 = .ok (.iload 4, 2) := by decide +kernel
theorem dX11_copy_31 : decode cX11_copy 31 = .ok (.iconst 4, 1) := by decide +kernel
theorem dX11_copy_32 : decode cX11_copy 32 = .ok (.if_icmp .ge 58, 3) := by decide +kernel
theorem dX11_copy_35 : decode cX11_copy 35 = .ok (.iconst 0, 1) := by decide +kernel
theorem dX11_copy_36 : decode cX11_copy 36 = .ok (.istore 5, 2) := by decide +kernel
theorem dX11_copy_38 : decode cX11_copy 38 = .ok (.iload 5, 2) := by decide +kernel
theorem dX11_copy_40 : decode cX11_copy 40 = .ok (.aload_n 0, 1) := by decide +kernel
theorem dX11_copy_41 : decode cX11_copy 41 = .ok (.getfield 33, 3) := by decide +kernel
theorem dX11_copy_44 : decode cX11_copy 44 = .ok (.getfield 188, 3) := by decide +kernel
theorem dX11_copy_47 : decode cX11_copy 47 = .ok (.if_icmp .ge 37, 3) := by decide +kernel
theorem dX11_copy_50 : decode cX11_copy 50 = .ok (.aload_n 0, 1) := by decide +kernel
theorem dX11_copy_51 : decode cX11_copy 51 = .ok (.getfield 40, 3) := by decide +kernel
theorem dX11_copy_54 : decode cX11_copy 54 = .ok (.getfield 201, 3) := by decide +kernel
theorem dX11_copy_57 : decode cX11_copy 57 = .ok (.iload 4, 2) := by decide +kernel
theorem dX11_copy_59 : decode cX11_copy 59 = .ok (.iload 5, 2) := by decide +kernel
theorem dX11_copy_61 : decode cX11_copy 61 = .ok (.invokestatic 209, 3) := by decide +kernel
theorem dX11_copy_64 : decode cX11_copy 64 = .ok (.lload_n 1, 1) := by decide +kernel
theorem dX11_copy_65 : decode cX11_copy 65 = .ok (.iload 4, 2) := by decide +kernel
theorem dX11_copy_67 : decode cX11_copy 67 = .ok (.iload 5, 2) := by decide +kernel
theorem dX11_copy_69 : decode cX11_copy 69 = .ok (.invokestatic 209, 3) := by decide +kernel
theorem dX11_copy_72 : decode cX11_copy 72 = .ok (.if_icmp .ne 6, 3) := by decide +kernel
theorem dX11_copy_75 : decode cX11_copy 75 = .ok (.iinc 3 1, 3) := by decide +kernel
theorem dX11_copy_78 : decode cX11_copy 78 = .ok (.iinc 5 1, 3) := by decide +kernel
theorem dX11_copy_81 : decode cX11_copy 81 = .ok (.goto (-43), 3) := by decide +kernel
theorem dX11_copy_84 : decode cX11_copy 84 = .ok (.iinc 4 1, 3) := by decide +kernel
theorem dX11_copy_87 : decode cX11_copy 87 = .ok (.goto (-58), 3) := by decide +kernel
theorem dX11_copy_90 : decode cX11_copy 90 = .ok (.iload_n 3, 1) := by decide +kernel
theorem dX11_copy_91 : decode cX11_copy 91 = .ok (.ireturn, 1) := by decide +kernel
theorem dX11_image_0 : decode cX11_image 0 = .ok (.aload_n 0, 1) := by decide +kernel
theorem dX11_image_1 : decode cX11_image 1 = .ok (.invokevirtual 175, 3) := by decide +kernel
theorem dX11_image_4 : decode cX11_image 4 = .ok (.ifCond .ne 5, 3) := by decide +kernel
theorem dX11_image_7 : decode cX11_image 7 = .ok (.iconst (-1), 1) := by decide +kernel
theorem dX11_image_8 : decode cX11_image 8 = .ok (.ireturn, 1) := by decide +kernel
theorem dX11_image_9 : decode cX11_image 9 = .ok (.aload_n 0, 1) := by decide +kernel
theorem dX11_image_10 : decode cX11_image 10 = .ok (.getfield 44, 3) := by decide +kernel
theorem dX11_image_13 : decode cX11_image 13 = .ok (.aload_n 0, 1) := by decide +kernel
theorem dX11_image_14 : decode cX11_image 14 = .ok (.getfield 40, 3) := by decide +kernel
theorem dX11_image_17 : decode cX11_image 17 = .ok (.invokevirtual 383, 3) := by decide +kernel
theorem dX11_image_20 : decode cX11_image 20 = .ok (.aload_n 0, 1) := by decide +kernel
theorem dX11_image_21 : decode cX11_image 21 = .ok (.iconst 1, 1) := by decide +kernel
theorem dX11_image_22 : decode cX11_image 22 = .ok (.putfield 97, 3) := by decide +kernel
theorem dX11_image_25 : decode cX11_image 25 = .ok (.aload_n 0, 1) := by decide +kernel
theorem dX11_image_26 : decode cX11_image 26 = .ok (.getfield 44, 3) := by decide +kernel
theorem dX11_image_29 : decode cX11_image 29 = .ok (.getfield 348, 3) := by decide +kernel
theorem dX11_image_32 : decode cX11_image 32 = .ok (.ireturn, 1) := by decide +kernel
theorem dX11_back_0 : decode cX11_back 0 = .ok (.aload_n 0, 1) := by decide +kernel
theorem dX11_back_1 : decode cX11_back 1 = .ok (.getfield 97, 3) := by decide +kernel
theorem dX11_back_4 : decode cX11_back 4 = .ok (.ifCond .ne 5, 3) := by decide +kernel
theorem dX11_back_7 : decode cX11_back 7 = .ok (.iconst (-1), 1) := by decide +kernel
theorem dX11_back_8 : decode cX11_back 8 = .ok (.ireturn, 1) := by decide +kernel
theorem dX11_back_9 : decode cX11_back 9 = .ok (.aload_n 0, 1) := by decide +kernel
theorem dX11_back_10 : decode cX11_back 10 = .ok (.getfield 40, 3) := by decide +kernel
theorem dX11_back_13 : decode cX11_back 13 = .ok (.aload_n 0, 1) := by decide +kernel
theorem dX11_back_14 : decode cX11_back 14 = .ok (.getfield 44, 3) := by decide +kernel
theorem dX11_back_17 : decode cX11_back 17 = .ok (.invokevirtual 383, 3) := by decide +kernel
theorem dX11_back_20 : decode cX11_back 20 = .ok (.aload_n 0, 1) := by decide +kernel
theorem dX11_back_21 : decode cX11_back 21 = .ok (.getfield 40, 3) := by decide +kernel
theorem dX11_back_24 : decode cX11_back 24 = .ok (.getfield 348, 3) := by decide +kernel
theorem dX11_back_27 : decode cX11_back 27 = .ok (.ireturn, 1) := by decide +kernel
theorem dX11_lone_0 : decode cX11_lone 0 = .ok (.aload_n 0, 1) := by decide +kernel
theorem dX11_lone_1 : decode cX11_lone 1 = .ok (.invokevirtual 175, 3) := by decide +kernel
theorem dX11_lone_4 : decode cX11_lone 4 = .ok (.ifCond .eq 19, 3) := by decide +kernel
theorem dX11_lone_7 : decode cX11_lone 7 = .ok (.iload_n 1, 1) := by decide +kernel
theorem dX11_lone_8 : decode cX11_lone 8 = .ok (.iconst 0, 1) := by decide +kernel
theorem dX11_lone_9 : decode cX11_lone 9 = .ok (.iconst 2, 1) := by decide +kernel
theorem dX11_lone_10 : decode cX11_lone 10 = .ok (.invokestatic 118, 3) := by decide +kernel
theorem dX11_lone_13 : decode cX11_lone 13 = .ok (.ifCond .eq 10, 3) := by decide +kernel
theorem dX11_lone_16 : decode cX11_lone 16 = .ok (.iload_n 2, 1) := by decide +kernel
theorem dX11_lone_17 : decode cX11_lone 17 = .ok (.invokestatic 220, 3) := by decide +kernel
theorem dX11_lone_20 : decode cX11_lone 20 = .ok (.ifCond .ne 5, 3) := by decide +kernel
theorem dX11_lone_23 : decode cX11_lone 23 = .ok (.iconst (-1), 1) := by decide +kernel
theorem dX11_lone_24 : decode cX11_lone 24 = .ok (.ireturn, 1) := by decide +kernel
theorem dX11_lone_25 : decode cX11_lone 25 = .ok (.iload_n 1, 1) := by decide +kernel
theorem dX11_lone_26 : decode cX11_lone 26 = .ok (.iconst 1, 1) := by decide +kernel
theorem dX11_lone_27 : decode cX11_lone 27 = .ok (.if_icmp .ne 7, 3) := by decide +kernel
theorem dX11_lone_30 : decode cX11_lone 30 = .ok (.iconst 1, 1) := by decide +kernel
theorem dX11_lone_31 : decode cX11_lone 31 = .ok (.goto 4, 3) := by decide +kernel
theorem dX11_lone_34 : decode cX11_lone 34 = .ok (.iconst 4, 1) := by decide +kernel
theorem dX11_lone_35 : decode cX11_lone 35 = .ok (.istore_n 3, 1) := by decide +kernel
theorem dX11_lone_36 : decode cX11_lone 36 = .ok (.iload_n 1, 1) := by decide +kernel
theorem dX11_lone_37 : decode cX11_lone 37 = .ok (.ifCond .ne 7, 3) := by decide +kernel
theorem dX11_lone_40 : decode cX11_lone 40 = .ok (.iconst 1, 1) := by decide +kernel
theorem dX11_lone_41 : decode cX11_lone 41 = .ok (.goto 4, 3) := by decide +kernel
theorem dX11_lone_44 : decode cX11_lone 44 = .ok (.iconst 4, 1) := by decide +kernel
theorem dX11_lone_45 : decode cX11_lone 45 = .ok (.istore 4, 2) := by decide +kernel
theorem dX11_lone_47 : decode cX11_lone 47 = .ok (.lconst 0, 1) := by decide +kernel
theorem dX11_lone_48 : decode cX11_lone 48 = .ok (.lstore 5, 2) := by decide +kernel
theorem dX11_lone_50 : decode cX11_lone 50 = .ok (.iconst 0, 1) := by decide +kernel
theorem dX11_lone_51 : decode cX11_lone 51 = .ok (.istore 7, 2) := by decide +kernel
theorem dX11_lone_53 : decode cX11_lone 53 = .ok (.iload 7, 2) := by decide +kernel
theorem dX11_lone_55 : decode cX11_lone 55 = .ok (.iload_n 3, 1) := by decide +kernel
theorem dX11_lone_56 : decode cX11_lone 56 = .ok (.if_icmp .ge 47, 3) := by decide +kernel
theorem dX11_lone_59 : decode cX11_lone 59 = .ok (.iconst 0, 1) := by decide +kernel
theorem dX11_lone_60 : decode cX11_lone 60 = .ok (.istore 8, 2) := by decide +kernel
theorem dX11_lone_62 : decode cX11_lone 62 = .ok (.iload 8, 2) := by decide +kernel
theorem dX11_lone_64 : decode cX11_lone 64 = .ok (.iload 4, 2) := by decide +kernel
theorem dX11_lone_66 : decode cX11_lone 66 = .ok (.if_icmp .ge 31, 3) := by decide +kernel
theorem dX11_lone_69 : decode cX11_lone 69 = .ok (.lload 5, 2) := by decide +kernel
theorem dX11_lone_71 : decode cX11_lone 71 = .ok (.ldc2_w 386, 3) := by decide +kernel
theorem dX11_lone_74 : decode cX11_lone 74 = .ok (.aload_n 0, 1) := by decide +kernel
theorem dX11_lone_75 : decode cX11_lone 75 = .ok (.getfield 52, 3) := by decide +kernel
theorem dX11_lone_78 : decode cX11_lone 78 = .ok (.iload_n 1, 1) := by decide +kernel
theorem dX11_lone_79 : decode cX11_lone 79 = .ok (.iload 7, 2) := by decide +kernel
theorem dX11_lone_81 : decode cX11_lone 81 = .ok (.iload 8, 2) := by decide +kernel
theorem dX11_lone_83 : decode cX11_lone 83 = .ok (.invokevirtual 388, 3) := by decide +kernel
theorem dX11_lone_86 : decode cX11_lone 86 = .ok (.i2l, 1) := by decide +kernel
theorem dX11_lone_87 : decode cX11_lone 87 = .ok (.lmul, 1) := by decide +kernel
theorem dX11_lone_88 : decode cX11_lone 88 = .ok (.ladd, 1) := by decide +kernel
theorem dX11_lone_89 : decode cX11_lone 89 = .ok (.lstore 5, 2) := by decide +kernel
theorem dX11_lone_91 : decode cX11_lone 91 = .ok (.iinc 8 1, 3) := by decide +kernel
theorem dX11_lone_94 : decode cX11_lone 94 = .ok (.goto (-32), 3) := by decide +kernel
theorem dX11_lone_97 : decode cX11_lone 97 = .ok (.iinc 7 1, 3) := by decide +kernel
theorem dX11_lone_100 : decode cX11_lone 100 = .ok (.goto (-47), 3) := by decide +kernel
theorem dX11_lone_103 : decode cX11_lone 103 = .ok (.aload_n 0, 1) := by decide +kernel
theorem dX11_lone_104 : decode cX11_lone 104 = .ok (.lload 5, 2) := by decide +kernel
theorem dX11_lone_106 : decode cX11_lone 106 = .ok (.iload_n 2, 1) := by decide +kernel
theorem dX11_lone_107 : decode cX11_lone 107 = .ok (.invokevirtual 227, 3) := by decide +kernel
theorem dX11_lone_110 : decode cX11_lone 110 = .ok (.ireturn, 1) := by decide +kernel
theorem dX11_alone_0 : decode cX11_alone 0 = .ok (.iload_n 1, 1) := by decide +kernel
theorem dX11_alone_1 : decode cX11_alone 1 = .ok (.iconst 0, 1) := by decide +kernel
theorem dX11_alone_2 : decode cX11_alone 2 = .ok (.iconst 2, 1) := by decide +kernel
theorem dX11_alone_3 : decode cX11_alone 3 = .ok (.invokestatic 118, 3) := by decide +kernel
theorem dX11_alone_6 : decode cX11_alone 6 = .ok (.ifCond .eq 25, 3) := by decide +kernel
theorem dX11_alone_9 : decode cX11_alone 9 = .ok (.iload_n 2, 1) := by decide +kernel
theorem dX11_alone_10 : decode cX11_alone 10 = .ok (.iconst 0, 1) := by decide +kernel
theorem dX11_alone_11 : decode cX11_alone 11 = .ok (.iconst 3, 1) := by decide +kernel
theorem dX11_alone_12 : decode cX11_alone 12 = .ok (.invokestatic 118, 3) := by decide +kernel
theorem dX11_alone_15 : decode cX11_alone 15 = .ok (.ifCond .eq 16, 3) := by decide +kernel
theorem dX11_alone_18 : decode cX11_alone 18 = .ok (.iload_n 3, 1) := by decide +kernel
theorem dX11_alone_19 : decode cX11_alone 19 = .ok (.iconst 0, 1) := by decide +kernel
theorem dX11_alone_20 : decode cX11_alone 20 = .ok (.iconst 3, 1) := by decide +kernel
theorem dX11_alone_21 : decode cX11_alone 21 = .ok (.invokestatic 118, 3) := by decide +kernel
theorem dX11_alone_24 : decode cX11_alone 24 = .ok (.ifCond .eq 7, 3) := by decide +kernel
theorem dX11_alone_27 : decode cX11_alone 27 = .ok (.iconst 1, 1) := by decide +kernel
theorem dX11_alone_28 : decode cX11_alone 28 = .ok (.goto 4, 3) := by decide +kernel
theorem dX11_alone_31 : decode cX11_alone 31 = .ok (.iconst 0, 1) := by decide +kernel
theorem dX11_alone_32 : decode cX11_alone 32 = .ok (.istore 4, 2) := by decide +kernel
theorem dX11_alone_34 : decode cX11_alone 34 = .ok (.aload_n 0, 1) := by decide +kernel
theorem dX11_alone_35 : decode cX11_alone 35 = .ok (.invokevirtual 175, 3) := by decide +kernel
theorem dX11_alone_38 : decode cX11_alone 38 = .ok (.ifCond .eq 21, 3) := by decide +kernel
theorem dX11_alone_41 : decode cX11_alone 41 = .ok (.iload 4, 2) := by decide +kernel
theorem dX11_alone_43 : decode cX11_alone 43 = .ok (.ifCond .eq 16, 3) := by decide +kernel
theorem dX11_alone_46 : decode cX11_alone 46 = .ok (.aload_n 0, 1) := by decide +kernel
theorem dX11_alone_47 : decode cX11_alone 47 = .ok (.getfield 52, 3) := by decide +kernel
theorem dX11_alone_50 : decode cX11_alone 50 = .ok (.iload_n 1, 1) := by decide +kernel
theorem dX11_alone_51 : decode cX11_alone 51 = .ok (.iload_n 2, 1) := by decide +kernel
theorem dX11_alone_52 : decode cX11_alone 52 = .ok (.iload_n 3, 1) := by decide +kernel
theorem dX11_alone_53 : decode cX11_alone 53 = .ok (.invokevirtual 391, 3) := by decide +kernel
theorem dX11_alone_56 : decode cX11_alone 56 = .ok (.goto 4, 3) := by decide +kernel
theorem dX11_alone_59 : decode cX11_alone 59 = .ok (.iconst (-1), 1) := by decide +kernel
theorem dX11_alone_60 : decode cX11_alone 60 = .ok (.ireturn, 1) := by decide +kernel
theorem dX11_knots_0 : decode cX11_knots 0 = .ok (.aload_n 0, 1) := by decide +kernel
theorem dX11_knots_1 : decode cX11_knots 1 = .ok (.invokevirtual 175, 3) := by decide +kernel
theorem dX11_knots_4 : decode cX11_knots 4 = .ok (.ifCond .eq 30, 3) := by decide +kernel
theorem dX11_knots_7 : decode cX11_knots 7 = .ok (.iload_n 1, 1) := by decide +kernel
theorem dX11_knots_8 : decode cX11_knots 8 = .ok (.iconst 1, 1) := by decide +kernel
theorem dX11_knots_9 : decode cX11_knots 9 = .ok (.iconst 3, 1) := by decide +kernel
theorem dX11_knots_10 : decode cX11_knots 10 = .ok (.invokestatic 118, 3) := by decide +kernel
theorem dX11_knots_13 : decode cX11_knots 13 = .ok (.ifCond .eq 21, 3) := by decide +kernel
theorem dX11_knots_16 : decode cX11_knots 16 = .ok (.iload_n 2, 1) := by decide +kernel
theorem dX11_knots_17 : decode cX11_knots 17 = .ok (.iconst 0, 1) := by decide +kernel
theorem dX11_knots_18 : decode cX11_knots 18 = .ok (.sipush 9999, 3) := by decide +kernel
theorem dX11_knots_21 : decode cX11_knots 21 = .ok (.invokestatic 118, 3) := by decide +kernel
theorem dX11_knots_24 : decode cX11_knots 24 = .ok (.ifCond .eq 10, 3) := by decide +kernel
theorem dX11_knots_27 : decode cX11_knots 27 = .ok (.iload_n 3, 1) := by decide +kernel
theorem dX11_knots_28 : decode cX11_knots 28 = .ok (.invokestatic 220, 3) := by decide +kernel
theorem dX11_knots_31 : decode cX11_knots 31 = .ok (.ifCond .ne 7, 3) := by decide +kernel
theorem dX11_knots_34 : decode cX11_knots 34 = .ok (.ldc2_w 260, 3) := by decide +kernel
theorem dX11_knots_37 : decode cX11_knots 37 = .ok (.lreturn, 1) := by decide +kernel
theorem dX11_knots_38 : decode cX11_knots 38 = .ok (.aload_n 0, 1) := by decide +kernel
theorem dX11_knots_39 : decode cX11_knots 39 = .ok (.getfield 59, 3) := by decide +kernel
theorem dX11_knots_42 : decode cX11_knots 42 = .ok (.iload_n 1, 1) := by decide +kernel
theorem dX11_knots_43 : decode cX11_knots 43 = .ok (.iload_n 2, 1) := by decide +kernel
theorem dX11_knots_44 : decode cX11_knots 44 = .ok (.invokevirtual 394, 3) := by decide +kernel
theorem dX11_knots_47 : decode cX11_knots 47 = .ok (.lstore 4, 2) := by decide +kernel
theorem dX11_knots_49 : decode cX11_knots 49 = .ok (.lload 4, 2) := by decide +kernel
theorem dX11_knots_51 : decode cX11_knots 51 = .ok (.ldc2_w 260, 3) := by decide +kernel
theorem dX11_knots_54 : decode cX11_knots 54 = .ok (.lcmp, 1) := by decide +kernel
theorem dX11_knots_55 : decode cX11_knots 55 = .ok (.ifCond .ne 9, 3) := by decide +kernel
theorem dX11_knots_58 : decode cX11_knots 58 = .ok (.ldc2_w 260, 3) := by decide +kernel
theorem dX11_knots_61 : decode cX11_knots 61 = .ok (.goto 25, 3) := by decide +kernel
theorem dX11_knots_64 : decode cX11_knots 64 = .ok (.lload 4, 2) := by decide +kernel
theorem dX11_knots_66 : decode cX11_knots 66 = .ok (.aload_n 0, 1) := by decide +kernel
theorem dX11_knots_67 : decode cX11_knots 67 = .ok (.getfield 59, 3) := by decide +kernel
theorem dX11_knots_70 : decode cX11_knots 70 = .ok (.getfield 397, 3) := by decide +kernel
theorem dX11_knots_73 : decode cX11_knots 73 = .ok (.aload_n 0, 1) := by decide +kernel
theorem dX11_knots_74 : decode cX11_knots 74 = .ok (.getfield 33, 3) := by decide +kernel
theorem dX11_knots_77 : decode cX11_knots 77 = .ok (.getfield 318, 3) := by decide +kernel
theorem dX11_knots_80 : decode cX11_knots 80 = .ok (.i2l, 1) := by decide +kernel
theorem dX11_knots_81 : decode cX11_knots 81 = .ok (.lmul, 1) := by decide +kernel
theorem dX11_knots_82 : decode cX11_knots 82 = .ok (.iload_n 3, 1) := by decide +kernel
theorem dX11_knots_83 : decode cX11_knots 83 = .ok (.invokestatic 321, 3) := by decide +kernel
theorem dX11_knots_86 : decode cX11_knots 86 = .ok (.lreturn, 1) := by decide +kernel
theorem dX11_bestKnots_0 : decode cX11_bestKnots 0 = .ok (.aload_n 0, 1) := by decide +kernel
theorem dX11_bestKnots_1 : decode cX11_bestKnots 1 = .ok (.invokevirtual 175, 3) := by decide +kernel
theorem dX11_bestKnots_4 : decode cX11_bestKnots 4 = .ok (.ifCond .eq 21, 3) := by decide +kernel
theorem dX11_bestKnots_7 : decode cX11_bestKnots 7 = .ok (.iload_n 1, 1) := by decide +kernel
theorem dX11_bestKnots_8 : decode cX11_bestKnots 8 = .ok (.iconst 1, 1) := by decide +kernel
theorem dX11_bestKnots_9 : decode cX11_bestKnots 9 = .ok (.iconst 3, 1) := by decide +kernel
theorem dX11_bestKnots_10 : decode cX11_bestKnots 10 = .ok (.invokestatic 118, 3) := by decide +kernel
theorem dX11_bestKnots_13 : decode cX11_bestKnots 13 = .ok (.ifCond .eq 12, 3) := by decide +kernel
theorem dX11_bestKnots_16 : decode cX11_bestKnots 16 = .ok (.iload_n 2, 1) := by decide +kernel
theorem dX11_bestKnots_17 : decode cX11_bestKnots 17 = .ok (.iconst 0, 1) := by decide +kernel
theorem dX11_bestKnots_18 : decode cX11_bestKnots 18 = .ok (.iconst 2, 1) := by decide +kernel
theorem dX11_bestKnots_19 : decode cX11_bestKnots 19 = .ok (.invokestatic 118, 3) := by decide +kernel
theorem dX11_bestKnots_22 : decode cX11_bestKnots 22 = .ok (.ifCond .ne 7, 3) := by decide +kernel
theorem dX11_bestKnots_25 : decode cX11_bestKnots 25 = .ok (.ldc2_w 260, 3) := by decide +kernel
theorem dX11_bestKnots_28 : decode cX11_bestKnots 28 = .ok (.lreturn, 1) := by decide +kernel
theorem dX11_bestKnots_29 : decode cX11_bestKnots 29 = .ok (.aload_n 0, 1) := by decide +kernel
theorem dX11_bestKnots_30 : decode cX11_bestKnots 30 = .ok (.getfield 59, 3) := by decide +kernel
theorem dX11_bestKnots_33 : decode cX11_bestKnots 33 = .ok (.iload_n 1, 1) := by decide +kernel
theorem dX11_bestKnots_34 : decode cX11_bestKnots 34 = .ok (.invokevirtual 400, 3) := by decide +kernel
theorem dX11_bestKnots_37 : decode cX11_bestKnots 37 = .ok (.iload_n 2, 1) := by decide +kernel
theorem dX11_bestKnots_38 : decode cX11_bestKnots 38 = .ok (.ifCond .ne 14, 3) := by decide +kernel
theorem dX11_bestKnots_41 : decode cX11_bestKnots 41 = .ok (.aload_n 0, 1) := by decide +kernel
theorem dX11_bestKnots_42 : decode cX11_bestKnots 42 = .ok (.getfield 59, 3) := by decide +kernel
theorem dX11_bestKnots_45 : decode cX11_bestKnots 45 = .ok (.getfield 235, 3) := by decide +kernel
theorem dX11_bestKnots_48 : decode cX11_bestKnots 48 = .ok (.i2l, 1) := by decide +kernel
theorem dX11_bestKnots_49 : decode cX11_bestKnots 49 = .ok (.goto 32, 3) := by decide +kernel
theorem dX11_bestKnots_52 : decode cX11_bestKnots 52 = .ok (.aload_n 0, 1) := by decide +kernel
theorem dX11_bestKnots_53 : decode cX11_bestKnots 53 = .ok (.getfield 59, 3) := by decide +kernel
theorem dX11_bestKnots_56 : decode cX11_bestKnots 56 = .ok (.getfield 238, 3) := by decide +kernel
theorem dX11_bestKnots_59 : decode cX11_bestKnots 59 = .ok (.aload_n 0, 1) := by decide +kernel
theorem dX11_bestKnots_60 : decode cX11_bestKnots 60 = .ok (.getfield 59, 3) := by decide +kernel
theorem dX11_bestKnots_63 : decode cX11_bestKnots 63 = .ok (.getfield 397, 3) := by decide +kernel
theorem dX11_bestKnots_66 : decode cX11_bestKnots 66 = .ok (.aload_n 0, 1) := by decide +kernel
theorem dX11_bestKnots_67 : decode cX11_bestKnots 67 = .ok (.getfield 33, 3) := by decide +kernel
theorem dX11_bestKnots_70 : decode cX11_bestKnots 70 = .ok (.getfield 318, 3) := by decide +kernel
theorem dX11_bestKnots_73 : decode cX11_bestKnots 73 = .ok (.i2l, 1) := by decide +kernel
theorem dX11_bestKnots_74 : decode cX11_bestKnots 74 = .ok (.lmul, 1) := by decide +kernel
theorem dX11_bestKnots_75 : decode cX11_bestKnots 75 = .ok (.iload_n 2, 1) := by decide +kernel
theorem dX11_bestKnots_76 : decode cX11_bestKnots 76 = .ok (.iconst 1, 1) := by decide +kernel
theorem dX11_bestKnots_77 : decode cX11_bestKnots 77 = .ok (.isub, 1) := by decide +kernel
theorem dX11_bestKnots_78 : decode cX11_bestKnots 78 = .ok (.invokestatic 321, 3) := by decide +kernel
theorem dX11_bestKnots_81 : decode cX11_bestKnots 81 = .ok (.lreturn, 1) := by decide +kernel
theorem dX11_weather_0 : decode cX11_weather 0 = .ok (.aload_n 0, 1) := by decide +kernel
theorem dX11_weather_1 : decode cX11_weather 1 = .ok (.invokevirtual 175, 3) := by decide +kernel
theorem dX11_weather_4 : decode cX11_weather 4 = .ok (.ifCond .eq 30, 3) := by decide +kernel
theorem dX11_weather_7 : decode cX11_weather 7 = .ok (.iload_n 1, 1) := by decide +kernel
theorem dX11_weather_8 : decode cX11_weather 8 = .ok (.iconst 0, 1) := by decide +kernel
theorem dX11_weather_9 : decode cX11_weather 9 = .ok (.bipush 100, 2) := by decide +kernel
theorem dX11_weather_11 : decode cX11_weather 11 = .ok (.invokestatic 118, 3) := by decide +kernel
theorem dX11_weather_14 : decode cX11_weather 14 = .ok (.ifCond .eq 20, 3) := by decide +kernel
theorem dX11_weather_17 : decode cX11_weather 17 = .ok (.iload_n 2, 1) := by decide +kernel
theorem dX11_weather_18 : decode cX11_weather 18 = .ok (.iconst 0, 1) := by decide +kernel
theorem dX11_weather_19 : decode cX11_weather 19 = .ok (.bipush 100, 2) := by decide +kernel
theorem dX11_weather_21 : decode cX11_weather 21 = .ok (.invokestatic 118, 3) := by decide +kernel
theorem dX11_weather_24 : decode cX11_weather 24 = .ok (.ifCond .eq 10, 3) := by decide +kernel
theorem dX11_weather_27 : decode cX11_weather 27 = .ok (.iload_n 3, 1) := by decide +kernel
theorem dX11_weather_28 : decode cX11_weather 28 = .ok (.invokestatic 220, 3) := by decide +kernel
theorem dX11_weather_31 : decode cX11_weather 31 = .ok (.ifCond .ne 7, 3) := by decide +kernel
theorem dX11_weather_34 : decode cX11_weather 34 = .ok (.ldc2_w 260, 3) := by decide +kernel
theorem dX11_weather_37 : decode cX11_weather 37 = .ok (.lreturn, 1) := by decide +kernel
theorem dX11_weather_38 : decode cX11_weather 38 = .ok (.iload_n 1, 1) := by decide +kernel
theorem dX11_weather_39 : decode cX11_weather 39 = .ok (.i2l, 1) := by decide +kernel
theorem dX11_weather_40 : decode cX11_weather 40 = .ok (.iload_n 2, 1) := by decide +kernel
theorem dX11_weather_41 : decode cX11_weather 41 = .ok (.i2l, 1) := by decide +kernel
theorem dX11_weather_42 : decode cX11_weather 42 = .ok (.lmul, 1) := by decide +kernel
theorem dX11_weather_43 : decode cX11_weather 43 = .ok (.aload_n 0, 1) := by decide +kernel
theorem dX11_weather_44 : decode cX11_weather 44 = .ok (.iconst 1, 1) := by decide +kernel
theorem dX11_weather_45 : decode cX11_weather 45 = .ok (.iconst 1, 1) := by decide +kernel
theorem dX11_weather_46 : decode cX11_weather 46 = .ok (.invokevirtual 403, 3) := by decide +kernel
theorem dX11_weather_49 : decode cX11_weather 49 = .ok (.lmul, 1) := by decide +kernel
theorem dX11_weather_50 : decode cX11_weather 50 = .ok (.iload_n 1, 1) := by decide +kernel
theorem dX11_weather_51 : decode cX11_weather 51 = .ok (.i2l, 1) := by decide +kernel
theorem dX11_weather_52 : decode cX11_weather 52 = .ok (.bipush 100, 2) := by decide +kernel
theorem dX11_weather_54 : decode cX11_weather 54 = .ok (.iload_n 2, 1) := by decide +kernel
theorem dX11_weather_55 : decode cX11_weather 55 = .ok (.isub, 1) := by decide +kernel
theorem dX11_weather_56 : decode cX11_weather 56 = .ok (.i2l, 1) := by decide +kernel
theorem dX11_weather_57 : decode cX11_weather 57 = .ok (.lmul, 1) := by decide +kernel
theorem dX11_weather_58 : decode cX11_weather 58 = .ok (.aload_n 0, 1) := by decide +kernel
theorem dX11_weather_59 : decode cX11_weather 59 = .ok (.iconst 1, 1) := by decide +kernel
theorem dX11_weather_60 : decode cX11_weather 60 = .ok (.iconst 0, 1) := by decide +kernel
theorem dX11_weather_61 : decode cX11_weather 61 = .ok (.invokevirtual 403, 3) := by decide +kernel
theorem dX11_weather_64 : decode cX11_weather 64 = .ok (.lmul, 1) := by decide +kernel
theorem dX11_weather_65 : decode cX11_weather 65 = .ok (.ladd, 1) := by decide +kernel
theorem dX11_weather_66 : decode cX11_weather 66 = .ok (.bipush 100, 2) := by decide +kernel
theorem dX11_weather_68 : decode cX11_weather 68 = .ok (.iload_n 1, 1) := by decide +kernel
theorem dX11_weather_69 : decode cX11_weather 69 = .ok (.isub, 1) := by decide +kernel
theorem dX11_weather_70 : decode cX11_weather 70 = .ok (.i2l, 1) := by decide +kernel
theorem dX11_weather_71 : decode cX11_weather 71 = .ok (.iload_n 2, 1) := by decide +kernel
theorem dX11_weather_72 : decode cX11_weather 72 = .ok (.i2l, 1) := by decide +kernel
theorem dX11_weather_73 : decode cX11_weather 73 = .ok (.lmul, 1) := by decide +kernel
theorem dX11_weather_74 : decode cX11_weather 74 = .ok (.aload_n 0, 1) := by decide +kernel
theorem dX11_weather_75 : decode cX11_weather 75 = .ok (.iconst 0, 1) := by decide +kernel
theorem dX11_weather_76 : decode cX11_weather 76 = .ok (.iconst 1, 1) := by decide +kernel
theorem dX11_weather_77 : decode cX11_weather 77 = .ok (.invokevirtual 403, 3) := by decide +kernel
theorem dX11_weather_80 : decode cX11_weather 80 = .ok (.lmul, 1) := by decide +kernel
theorem dX11_weather_81 : decode cX11_weather 81 = .ok (.ladd, 1) := by decide +kernel
theorem dX11_weather_82 : decode cX11_weather 82 = .ok (.bipush 100, 2) := by decide +kernel
theorem dX11_weather_84 : decode cX11_weather 84 = .ok (.iload_n 1, 1) := by decide +kernel
theorem dX11_weather_85 : decode cX11_weather 85 = .ok (.isub, 1) := by decide +kernel
theorem dX11_weather_86 : decode cX11_weather 86 = .ok (.i2l, 1) := by decide +kernel
theorem dX11_weather_87 : decode cX11_weather 87 = .ok (.bipush 100, 2) := by decide +kernel
theorem dX11_weather_89 : decode cX11_weather 89 = .ok (.iload_n 2, 1) := by decide +kernel
theorem dX11_weather_90 : decode cX11_weather 90 = .ok (.isub, 1) := by decide +kernel
theorem dX11_weather_91 : decode cX11_weather 91 = .ok (.i2l, 1) := by decide +kernel
theorem dX11_weather_92 : decode cX11_weather 92 = .ok (.lmul, 1) := by decide +kernel
theorem dX11_weather_93 : decode cX11_weather 93 = .ok (.aload_n 0, 1) := by decide +kernel
theorem dX11_weather_94 : decode cX11_weather 94 = .ok (.iconst 0, 1) := by decide +kernel
theorem dX11_weather_95 : decode cX11_weather 95 = .ok (.iconst 0, 1) := by decide +kernel
theorem dX11_weather_96 : decode cX11_weather 96 = .ok (.invokevirtual 403, 3) := by decide +kernel
theorem dX11_weather_99 : decode cX11_weather 99 = .ok (.lmul, 1) := by decide +kernel
theorem dX11_weather_100 : decode cX11_weather 100 = .ok (.ladd, 1) := by decide +kernel
theorem dX11_weather_101 : decode cX11_weather 101 = .ok (.lstore 4, 2) := by decide +kernel
theorem dX11_weather_103 : decode cX11_weather 103 = .ok (.lload 4, 2) := by decide +kernel
theorem dX11_weather_105 : decode cX11_weather 105 = .ok (.ldc2_w 406, 3) := by decide +kernel
theorem dX11_weather_108 : decode cX11_weather 108 = .ok (.aload_n 0, 1) := by decide +kernel
theorem dX11_weather_109 : decode cX11_weather 109 = .ok (.getfield 33, 3) := by decide +kernel
theorem dX11_weather_112 : decode cX11_weather 112 = .ok (.getfield 318, 3) := by decide +kernel
theorem dX11_weather_115 : decode cX11_weather 115 = .ok (.i2l, 1) := by decide +kernel
theorem dX11_weather_116 : decode cX11_weather 116 = .ok (.lmul, 1) := by decide +kernel
theorem dX11_weather_117 : decode cX11_weather 117 = .ok (.iload_n 3, 1) := by decide +kernel
theorem dX11_weather_118 : decode cX11_weather 118 = .ok (.invokestatic 321, 3) := by decide +kernel
theorem dX11_weather_121 : decode cX11_weather 121 = .ok (.lreturn, 1) := by decide +kernel
theorem dX11_aboveIn_0 : decode cX11_aboveIn 0 = .ok (.aload_n 0, 1) := by decide +kernel
theorem dX11_aboveIn_1 : decode cX11_aboveIn 1 = .ok (.getfield 52, 3) := by decide +kernel
theorem dX11_aboveIn_4 : decode cX11_aboveIn 4 = .ok (.aload_n 0, 1) := by decide +kernel
theorem dX11_aboveIn_5 : decode cX11_aboveIn 5 = .ok (.getfield 40, 3) := by decide +kernel
theorem dX11_aboveIn_8 : decode cX11_aboveIn 8 = .ok (.getfield 194, 3) := by decide +kernel
theorem dX11_aboveIn_11 : decode cX11_aboveIn 11 = .ok (.aload_n 0, 1) := by decide +kernel
theorem dX11_aboveIn_12 : decode cX11_aboveIn 12 = .ok (.getfield 40, 3) := by decide +kernel
theorem dX11_aboveIn_15 : decode cX11_aboveIn 15 = .ok (.getfield 201, 3) := by decide +kernel
theorem dX11_aboveIn_18 : decode cX11_aboveIn 18 = .ok (.iload_n 1, 1) := by decide +kernel
theorem dX11_aboveIn_19 : decode cX11_aboveIn 19 = .ok (.iload_n 2, 1) := by decide +kernel
theorem dX11_aboveIn_20 : decode cX11_aboveIn 20 = .ok (.invokevirtual 408, 3) := by decide +kernel
theorem dX11_aboveIn_23 : decode cX11_aboveIn 23 = .ok (.lreturn, 1) := by decide +kernel
theorem dX11_skill_0 : decode cX11_skill 0 = .ok (.aload_n 0, 1) := by decide +kernel
theorem dX11_skill_1 : decode cX11_skill 1 = .ok (.invokevirtual 175, 3) := by decide +kernel
theorem dX11_skill_4 : decode cX11_skill 4 = .ok (.ifCond .eq 19, 3) := by decide +kernel
theorem dX11_skill_7 : decode cX11_skill 7 = .ok (.iload_n 1, 1) := by decide +kernel
theorem dX11_skill_8 : decode cX11_skill 8 = .ok (.iconst 0, 1) := by decide +kernel
theorem dX11_skill_9 : decode cX11_skill 9 = .ok (.iconst 2, 1) := by decide +kernel
theorem dX11_skill_10 : decode cX11_skill 10 = .ok (.invokestatic 118, 3) := by decide +kernel
theorem dX11_skill_13 : decode cX11_skill 13 = .ok (.ifCond .eq 10, 3) := by decide +kernel
theorem dX11_skill_16 : decode cX11_skill 16 = .ok (.iload_n 2, 1) := by decide +kernel
theorem dX11_skill_17 : decode cX11_skill 17 = .ok (.invokestatic 220, 3) := by decide +kernel
theorem dX11_skill_20 : decode cX11_skill 20 = .ok (.ifCond .ne 7, 3) := by decide +kernel
theorem dX11_skill_23 : decode cX11_skill 23 = .ok (.ldc_w 411, 3) := by decide +kernel
theorem dX11_skill_26 : decode cX11_skill 26 = .ok (.ireturn, 1) := by decide +kernel
theorem dX11_skill_27 : decode cX11_skill 27 = .ok (.aload_n 0, 1) := by decide +kernel
theorem dX11_skill_28 : decode cX11_skill 28 = .ok (.aload_n 0, 1) := by decide +kernel
theorem dX11_skill_29 : decode cX11_skill 29 = .ok (.iconst 0, 1) := by decide +kernel
theorem dX11_skill_30 : decode cX11_skill 30 = .ok (.iconst 0, 1) := by decide +kernel
theorem dX11_skill_31 : decode cX11_skill 31 = .ok (.invokevirtual 241, 3) := by decide +kernel
theorem dX11_skill_34 : decode cX11_skill 34 = .ok (.aload_n 0, 1) := by decide +kernel
theorem dX11_skill_35 : decode cX11_skill 35 = .ok (.iload_n 1, 1) := by decide +kernel
theorem dX11_skill_36 : decode cX11_skill 36 = .ok (.iconst 1, 1) := by decide +kernel
theorem dX11_skill_37 : decode cX11_skill 37 = .ok (.if_icmp .eq 7, 3) := by decide +kernel
theorem dX11_skill_40 : decode cX11_skill 40 = .ok (.iconst 1, 1) := by decide +kernel
theorem dX11_skill_41 : decode cX11_skill 41 = .ok (.goto 4, 3) := by decide +kernel
theorem dX11_skill_44 : decode cX11_skill 44 = .ok (.iconst 0, 1) := by decide +kernel
theorem dX11_skill_45 : decode cX11_skill 45 = .ok (.iload_n 1, 1) := by decide +kernel
theorem dX11_skill_46 : decode cX11_skill 46 = .ok (.ifCond .eq 7, 3) := by decide +kernel
theorem dX11_skill_49 : decode cX11_skill 49 = .ok (.iconst 1, 1) := by decide +kernel
theorem dX11_skill_50 : decode cX11_skill 50 = .ok (.goto 4, 3) := by decide +kernel
theorem dX11_skill_53 : decode cX11_skill 53 = .ok (.iconst 0, 1) := by decide +kernel
theorem dX11_skill_54 : decode cX11_skill 54 = .ok (.invokevirtual 241, 3) := by decide +kernel
theorem dX11_skill_57 : decode cX11_skill 57 = .ok (.lsub, 1) := by decide +kernel
theorem dX11_skill_58 : decode cX11_skill 58 = .ok (.iload_n 2, 1) := by decide +kernel
theorem dX11_skill_59 : decode cX11_skill 59 = .ok (.invokevirtual 227, 3) := by decide +kernel
theorem dX11_skill_62 : decode cX11_skill 62 = .ok (.ireturn, 1) := by decide +kernel
theorem dX11_cases_0 : decode cX11_cases 0 = .ok (.aload_n 0, 1) := by decide +kernel
theorem dX11_cases_1 : decode cX11_cases 1 = .ok (.invokevirtual 175, 3) := by decide +kernel
theorem dX11_cases_4 : decode cX11_cases 4 = .ok (.ifCond .eq 12, 3) := by decide +kernel
theorem dX11_cases_7 : decode cX11_cases 7 = .ok (.iload_n 1, 1) := by decide +kernel
theorem dX11_cases_8 : decode cX11_cases 8 = .ok (.iconst 0, 1) := by decide +kernel
theorem dX11_cases_9 : decode cX11_cases 9 = .ok (.iconst 1, 1) := by decide +kernel
theorem dX11_cases_10 : decode cX11_cases 10 = .ok (.invokestatic 118, 3) := by decide +kernel
theorem dX11_cases_13 : decode cX11_cases 13 = .ok (.ifCond .ne 5, 3) := by decide +kernel
theorem dX11_cases_16 : decode cX11_cases 16 = .ok (.iconst (-1), 1) := by decide +kernel
theorem dX11_cases_17 : decode cX11_cases 17 = .ok (.ireturn, 1) := by decide +kernel
theorem dX11_cases_18 : decode cX11_cases 18 = .ok (.iconst 0, 1) := by decide +kernel
theorem dX11_cases_19 : decode cX11_cases 19 = .ok (.istore_n 2, 1) := by decide +kernel
theorem dX11_cases_20 : decode cX11_cases 20 = .ok (.iconst 0, 1) := by decide +kernel
theorem dX11_cases_21 : decode cX11_cases 21 = .ok (.istore_n 3, 1) := by decide +kernel
theorem dX11_cases_22 : decode cX11_cases 22 = .ok (.iload_n 3, 1) := by decide +kernel
theorem dX11_cases_23 : decode cX11_cases 23 = .ok (.aload_n 0, 1) := by decide +kernel
theorem dX11_cases_24 : decode cX11_cases 24 = .ok (.getfield 33, 3) := by decide +kernel
theorem dX11_cases_27 : decode cX11_cases 27 = .ok (.getfield 138, 3) := by decide +kernel
theorem dX11_cases_30 : decode cX11_cases 30 = .ok (.if_icmp .ge 114, 3) := by decide +kernel
theorem dX11_cases_33 : decode cX11_cases 33 = .ok (.aload_n 0, 1) := by decide +kernel
theorem dX11_cases_34 : decode cX11_cases 34 = .ok (.getfield 40, 3) := by decide +kernel
theorem dX11_cases_37 : decode cX11_cases 37 = .ok (.getfield 194, 3) := by decide +kernel
theorem dX11_cases_40 : decode cX11_cases 40 = .ok (.aload_n 0, 1) := by decide +kernel
theorem dX11_cases_41 : decode cX11_cases 41 = .ok (.getfield 33, 3) := by decide +kernel
theorem dX11_cases_44 : decode cX11_cases 44 = .ok (.iload_n 3, 1) := by decide +kernel
theorem dX11_cases_45 : decode cX11_cases 45 = .ok (.aload_n 0, 1) := by decide +kernel
theorem dX11_cases_46 : decode cX11_cases 46 = .ok (.getfield 40, 3) := by decide +kernel
theorem dX11_cases_49 : decode cX11_cases 49 = .ok (.getfield 185, 3) := by decide +kernel
theorem dX11_cases_52 : decode cX11_cases 52 = .ok (.invokevirtual 335, 3) := by decide +kernel
theorem dX11_cases_55 : decode cX11_cases 55 = .ok (.invokestatic 339, 3) := by decide +kernel
theorem dX11_cases_58 : decode cX11_cases 58 = .ok (.istore 4, 2) := by decide +kernel
theorem dX11_cases_60 : decode cX11_cases 60 = .ok (.aload_n 0, 1) := by decide +kernel
theorem dX11_cases_61 : decode cX11_cases 61 = .ok (.getfield 52, 3) := by decide +kernel
theorem dX11_cases_64 : decode cX11_cases 64 = .ok (.iload_n 3, 1) := by decide +kernel
theorem dX11_cases_65 : decode cX11_cases 65 = .ok (.iload 4, 2) := by decide +kernel
theorem dX11_cases_67 : decode cX11_cases 67 = .ok (.aload_n 0, 1) := by decide +kernel
theorem dX11_cases_68 : decode cX11_cases 68 = .ok (.getfield 40, 3) := by decide +kernel
theorem dX11_cases_71 : decode cX11_cases 71 = .ok (.getfield 201, 3) := by decide +kernel
theorem dX11_cases_74 : decode cX11_cases 74 = .ok (.aload_n 0, 1) := by decide +kernel
theorem dX11_cases_75 : decode cX11_cases 75 = .ok (.getfield 40, 3) := by decide +kernel
theorem dX11_cases_78 : decode cX11_cases 78 = .ok (.getfield 182, 3) := by decide +kernel
theorem dX11_cases_81 : decode cX11_cases 81 = .ok (.invokevirtual 412, 3) := by decide +kernel
theorem dX11_cases_84 : decode cX11_cases 84 = .ok (.istore 5, 2) := by decide +kernel
theorem dX11_cases_86 : decode cX11_cases 86 = .ok (.iload_n 1, 1) := by decide +kernel
theorem dX11_cases_87 : decode cX11_cases 87 = .ok (.ifCond .ne 18, 3) := by decide +kernel
theorem dX11_cases_90 : decode cX11_cases 90 = .ok (.iload 5, 2) := by decide +kernel
theorem dX11_cases_92 : decode cX11_cases 92 = .ok (.bipush 100, 2) := by decide +kernel
theorem dX11_cases_94 : decode cX11_cases 94 = .ok (.if_icmp .ne 7, 3) := by decide +kernel
theorem dX11_cases_97 : decode cX11_cases 97 = .ok (.iconst 1, 1) := by decide +kernel
theorem dX11_cases_98 : decode cX11_cases 98 = .ok (.goto 15, 3) := by decide +kernel
theorem dX11_cases_101 : decode cX11_cases 101 = .ok (.iconst 0, 1) := by decide +kernel
theorem dX11_cases_102 : decode cX11_cases 102 = .ok (.goto 11, 3) := by decide +kernel
theorem dX11_cases_105 : decode cX11_cases 105 = .ok (.iload 5, 2) := by decide +kernel
theorem dX11_cases_107 : decode cX11_cases 107 = .ok (.iconst 1, 1) := by decide +kernel
theorem dX11_cases_108 : decode cX11_cases 108 = .ok (.bipush 99, 2) := by decide +kernel
theorem dX11_cases_110 : decode cX11_cases 110 = .ok (.invokestatic 118, 3) := by decide +kernel
theorem dX11_cases_113 : decode cX11_cases 113 = .ok (.istore 6, 2) := by decide +kernel
theorem dX11_cases_115 : decode cX11_cases 115 = .ok (.iload 6, 2) := by decide +kernel
theorem dX11_cases_117 : decode cX11_cases 117 = .ok (.ifCond .eq 21, 3) := by decide +kernel
theorem dX11_cases_120 : decode cX11_cases 120 = .ok (.aload_n 0, 1) := by decide +kernel
theorem dX11_cases_121 : decode cX11_cases 121 = .ok (.getfield 33, 3) := by decide +kernel
theorem dX11_cases_124 : decode cX11_cases 124 = .ok (.iload_n 3, 1) := by decide +kernel
theorem dX11_cases_125 : decode cX11_cases 125 = .ok (.iconst 0, 1) := by decide +kernel
theorem dX11_cases_126 : decode cX11_cases 126 = .ok (.invokevirtual 168, 3) := by decide +kernel
theorem dX11_cases_129 : decode cX11_cases 129 = .ok (.ifCond .le 9, 3) := by decide +kernel
theorem dX11_cases_132 : decode cX11_cases 132 = .ok (.iload_n 2, 1) := by decide +kernel
theorem dX11_cases_133 : decode cX11_cases 133 = .ok (.iconst 1, 1) := by decide +kernel
theorem dX11_cases_134 : decode cX11_cases 134 = .ok (.iload_n 3, 1) := by decide +kernel
theorem dX11_cases_135 : decode cX11_cases 135 = .ok (.ishl, 1) := by decide +kernel
theorem dX11_cases_136 : decode cX11_cases 136 = .ok (.ior, 1) := by decide +kernel
theorem dX11_cases_137 : decode cX11_cases 137 = .ok (.istore_n 2, 1) := by decide +kernel
theorem dX11_cases_138 : decode cX11_cases 138 = .ok (.iinc 3 1, 3) := by decide +kernel
theorem dX11_cases_141 : decode cX11_cases 141 = .ok (.goto (-119), 3) := by decide +kernel
theorem dX11_cases_144 : decode cX11_cases 144 = .ok (.iload_n 2, 1) := by decide +kernel
theorem dX11_cases_145 : decode cX11_cases 145 = .ok (.ireturn, 1) := by decide +kernel
theorem dX11_mixed_0 : decode cX11_mixed 0 = .ok (.aload_n 0, 1) := by decide +kernel
theorem dX11_mixed_1 : decode cX11_mixed 1 = .ok (.invokevirtual 175, 3) := by decide +kernel
theorem dX11_mixed_4 : decode cX11_mixed 4 = .ok (.ifCond .ne 5, 3) := by decide +kernel
theorem dX11_mixed_7 : decode cX11_mixed 7 = .ok (.iconst (-1), 1) := by decide +kernel
theorem dX11_mixed_8 : decode cX11_mixed 8 = .ok (.ireturn, 1) := by decide +kernel
theorem dX11_mixed_9 : decode cX11_mixed 9 = .ok (.aload_n 0, 1) := by decide +kernel
theorem dX11_mixed_10 : decode cX11_mixed 10 = .ok (.getfield 73, 3) := by decide +kernel
theorem dX11_mixed_13 : decode cX11_mixed 13 = .ok (.iload_n 1, 1) := by decide +kernel
theorem dX11_mixed_14 : decode cX11_mixed 14 = .ok (.invokevirtual 245, 3) := by decide +kernel
theorem dX11_mixed_17 : decode cX11_mixed 17 = .ok (.iconst 0, 1) := by decide +kernel
theorem dX11_mixed_18 : decode cX11_mixed 18 = .ok (.istore_n 2, 1) := by decide +kernel
theorem dX11_mixed_19 : decode cX11_mixed 19 = .ok (.iload_n 2, 1) := by decide +kernel
theorem dX11_mixed_20 : decode cX11_mixed 20 = .ok (.iconst 4, 1) := by decide +kernel
theorem dX11_mixed_21 : decode cX11_mixed 21 = .ok (.if_icmp .ge 45, 3) := by decide +kernel
theorem dX11_mixed_24 : decode cX11_mixed 24 = .ok (.iconst 0, 1) := by decide +kernel
theorem dX11_mixed_25 : decode cX11_mixed 25 = .ok (.istore_n 3, 1) := by decide +kernel
theorem dX11_mixed_26 : decode cX11_mixed 26 = .ok (.iload_n 3, 1) := by decide +kernel
theorem dX11_mixed_27 : decode cX11_mixed 27 = .ok (.iconst 4, 1) := by decide +kernel
theorem dX11_mixed_28 : decode cX11_mixed 28 = .ok (.if_icmp .ge 32, 3) := by decide +kernel
theorem dX11_mixed_31 : decode cX11_mixed 31 = .ok (.aload_n 0, 1) := by decide +kernel
theorem dX11_mixed_32 : decode cX11_mixed 32 = .ok (.iload_n 2, 1) := by decide +kernel
theorem dX11_mixed_33 : decode cX11_mixed 33 = .ok (.iload_n 3, 1) := by decide +kernel
theorem dX11_mixed_34 : decode cX11_mixed 34 = .ok (.invokevirtual 416, 3) := by decide +kernel
theorem dX11_mixed_37 : decode cX11_mixed 37 = .ok (.iconst 1, 1) := by decide +kernel
theorem dX11_mixed_38 : decode cX11_mixed 38 = .ok (.if_icmp .le 16, 3) := by decide +kernel
theorem dX11_mixed_41 : decode cX11_mixed 41 = .ok (.aload_n 0, 1) := by decide +kernel
theorem dX11_mixed_42 : decode cX11_mixed 42 = .ok (.getfield 73, 3) := by decide +kernel
theorem dX11_mixed_45 : decode cX11_mixed 45 = .ok (.bipush 10, 2) := by decide +kernel
theorem dX11_mixed_47 : decode cX11_mixed 47 = .ok (.iload_n 2, 1) := by decide +kernel
theorem dX11_mixed_48 : decode cX11_mixed 48 = .ok (.imul, 1) := by decide +kernel
theorem dX11_mixed_49 : decode cX11_mixed 49 = .ok (.iload_n 3, 1) := by decide +kernel
theorem dX11_mixed_50 : decode cX11_mixed 50 = .ok (.iadd, 1) := by decide +kernel
theorem dX11_mixed_51 : decode cX11_mixed 51 = .ok (.invokevirtual 257, 3) := by decide +kernel
theorem dX11_mixed_54 : decode cX11_mixed 54 = .ok (.iinc 3 1, 3) := by decide +kernel
theorem dX11_mixed_57 : decode cX11_mixed 57 = .ok (.goto (-31), 3) := by decide +kernel
theorem dX11_mixed_60 : decode cX11_mixed 60 = .ok (.iinc 2 1, 3) := by decide +kernel
theorem dX11_mixed_63 : decode cX11_mixed 63 = .ok (.goto (-44), 3) := by decide +kernel
theorem dX11_mixed_66 : decode cX11_mixed 66 = .ok (.aload_n 0, 1) := by decide +kernel
theorem dX11_mixed_67 : decode cX11_mixed 67 = .ok (.getfield 73, 3) := by decide +kernel
theorem dX11_mixed_70 : decode cX11_mixed 70 = .ok (.invokevirtual 258, 3) := by decide +kernel
theorem dX11_mixed_73 : decode cX11_mixed 73 = .ok (.ireturn, 1) := by decide +kernel
theorem dX11_placesLike_0 : decode cX11_placesLike 0 = .ok (.iconst 0, 1) := by decide +kernel
theorem dX11_placesLike_1 : decode cX11_placesLike 1 = .ok (.istore_n 3, 1) := by decide +kernel
theorem dX11_placesLike_2 : decode cX11_placesLike 2 = .ok (.iconst 0, 1) := by decide +kernel
theorem dX11_placesLike_3 : decode cX11_placesLike 3 = .ok (.istore 4, 2) := by decide +kernel
theorem dX11_placesLike_5 : decode cX11_placesLike 5 = .ok (.iload 4, 2) := by decide +kernel
theorem dX11_placesLike_7 : decode cX11_placesLike 7 = .ok (.aload_n 0, 1) := by decide +kernel
theorem dX11_placesLike_8 : decode cX11_placesLike 8 = .ok (.getfield 33, 3) := by decide +kernel
theorem dX11_placesLike_11 : decode cX11_placesLike 11 = .ok (.getfield 138, 3) := by decide +kernel
theorem dX11_placesLike_14 : decode cX11_placesLike 14 = .ok (.if_icmp .ge 77, 3) := by decide +kernel
theorem dX11_placesLike_17 : decode cX11_placesLike 17 = .ok (.aload_n 0, 1) := by decide +kernel
theorem dX11_placesLike_18 : decode cX11_placesLike 18 = .ok (.getfield 33, 3) := by decide +kernel
theorem dX11_placesLike_21 : decode cX11_placesLike 21 = .ok (.iload 4, 2) := by decide +kernel
theorem dX11_placesLike_23 : decode cX11_placesLike 23 = .ok (.aload_n 0, 1) := by decide +kernel
theorem dX11_placesLike_24 : decode cX11_placesLike 24 = .ok (.getfield 40, 3) := by decide +kernel
theorem dX11_placesLike_27 : decode cX11_placesLike 27 = .ok (.getfield 185, 3) := by decide +kernel
theorem dX11_placesLike_30 : decode cX11_placesLike 30 = .ok (.invokevirtual 335, 3) := by decide +kernel
theorem dX11_placesLike_33 : decode cX11_placesLike 33 = .ok (.iload_n 1, 1) := by decide +kernel
theorem dX11_placesLike_34 : decode cX11_placesLike 34 = .ok (.if_icmp .ne 27, 3) := by decide +kernel
theorem dX11_placesLike_37 : decode cX11_placesLike 37 = .ok (.aload_n 0, 1) := by decide +kernel
theorem dX11_placesLike_38 : decode cX11_placesLike 38 = .ok (.getfield 33, 3) := by decide +kernel
theorem dX11_placesLike_41 : decode cX11_placesLike 41 = .ok (.iload 4, 2) := by decide +kernel
theorem dX11_placesLike_43 : decode cX11_placesLike 43 = .ok (.aload_n 0, 1) := by decide +kernel
theorem dX11_placesLike_44 : decode cX11_placesLike 44 = .ok (.getfield 40, 3) := by decide +kernel
theorem dX11_placesLike_47 : decode cX11_placesLike 47 = .ok (.getfield 182, 3) := by decide +kernel
theorem dX11_placesLike_50 : decode cX11_placesLike 50 = .ok (.invokevirtual 342, 3) := by decide +kernel
theorem dX11_placesLike_53 : decode cX11_placesLike 53 = .ok (.iload_n 2, 1) := by decide +kernel
theorem dX11_placesLike_54 : decode cX11_placesLike 54 = .ok (.if_icmp .ne 7, 3) := by decide +kernel
theorem dX11_placesLike_57 : decode cX11_placesLike 57 = .ok (.iconst 1, 1) := by decide +kernel
theorem dX11_placesLike_58 : decode cX11_placesLike 58 = .ok (.goto 4, 3) := by decide +kernel
theorem dX11_placesLike_61 : decode cX11_placesLike 61 = .ok (.iconst 0, 1) := by decide +kernel
theorem dX11_placesLike_62 : decode cX11_placesLike 62 = .ok (.istore 5, 2) := by decide +kernel
theorem dX11_placesLike_64 : decode cX11_placesLike 64 = .ok (.iload 5, 2) := by decide +kernel
theorem dX11_placesLike_66 : decode cX11_placesLike 66 = .ok (.ifCond .eq 19, 3) := by decide +kernel
theorem dX11_placesLike_69 : decode cX11_placesLike 69 = .ok (.aload_n 0, 1) := by decide +kernel
theorem dX11_placesLike_70 : decode cX11_placesLike 70 = .ok (.getfield 33, 3) := by decide +kernel
theorem dX11_placesLike_73 : decode cX11_placesLike 73 = .ok (.iload 4, 2) := by decide +kernel
theorem dX11_placesLike_75 : decode cX11_placesLike 75 = .ok (.iconst 0, 1) := by decide +kernel
theorem dX11_placesLike_76 : decode cX11_placesLike 76 = .ok (.invokevirtual 168, 3) := by decide +kernel
theorem dX11_placesLike_79 : decode cX11_placesLike 79 = .ok (.ifCond .le 6, 3) := by decide +kernel
theorem dX11_placesLike_82 : decode cX11_placesLike 82 = .ok (.iinc 3 1, 3) := by decide +kernel
theorem dX11_placesLike_85 : decode cX11_placesLike 85 = .ok (.iinc 4 1, 3) := by decide +kernel
theorem dX11_placesLike_88 : decode cX11_placesLike 88 = .ok (.goto (-83), 3) := by decide +kernel
theorem dX11_placesLike_91 : decode cX11_placesLike 91 = .ok (.iload_n 3, 1) := by decide +kernel
theorem dX11_placesLike_92 : decode cX11_placesLike 92 = .ok (.ireturn, 1) := by decide +kernel
theorem dX11_count_0 : decode cX11_count 0 = .ok (.iload_n 1, 1) := by decide +kernel
theorem dX11_count_1 : decode cX11_count 1 = .ok (.tableswitch 206 0 13 #[71, 79, 87, 95, 103, 111, 122, 138, 154, 167, 172, 180, 185, 193], 71) := by decide +kernel
theorem dX11_count_72 : decode cX11_count 72 = .ok (.aload_n 0, 1) := by decide +kernel
theorem dX11_count_73 : decode cX11_count 73 = .ok (.getfield 33, 3) := by decide +kernel
theorem dX11_count_76 : decode cX11_count 76 = .ok (.getfield 138, 3) := by decide +kernel
theorem dX11_count_79 : decode cX11_count 79 = .ok (.ireturn, 1) := by decide +kernel
theorem dX11_count_80 : decode cX11_count 80 = .ok (.aload_n 0, 1) := by decide +kernel
theorem dX11_count_81 : decode cX11_count 81 = .ok (.getfield 33, 3) := by decide +kernel
theorem dX11_count_84 : decode cX11_count 84 = .ok (.getfield 188, 3) := by decide +kernel
theorem dX11_count_87 : decode cX11_count 87 = .ok (.ireturn, 1) := by decide +kernel
theorem dX11_count_88 : decode cX11_count 88 = .ok (.aload_n 0, 1) := by decide +kernel
theorem dX11_count_89 : decode cX11_count 89 = .ok (.getfield 40, 3) := by decide +kernel
theorem dX11_count_92 : decode cX11_count 92 = .ok (.getfield 213, 3) := by decide +kernel
theorem dX11_count_95 : decode cX11_count 95 = .ok (.ireturn, 1) := by decide +kernel
theorem dX11_count_96 : decode cX11_count 96 = .ok (.aload_n 0, 1) := by decide +kernel
theorem dX11_count_97 : decode cX11_count 97 = .ok (.getfield 26, 3) := by decide +kernel
theorem dX11_count_100 : decode cX11_count 100 = .ok (.getfield 141, 3) := by decide +kernel
theorem dX11_count_103 : decode cX11_count 103 = .ok (.ireturn, 1) := by decide +kernel
theorem dX11_count_104 : decode cX11_count 104 = .ok (.aload_n 0, 1) := by decide +kernel
theorem dX11_count_105 : decode cX11_count 105 = .ok (.getfield 10, 3) := by decide +kernel
theorem dX11_count_108 : decode cX11_count 108 = .ok (.getfield 111, 3) := by decide +kernel
theorem dX11_count_111 : decode cX11_count 111 = .ok (.ireturn, 1) := by decide +kernel
theorem dX11_count_112 : decode cX11_count 112 = .ok (.aload_n 0, 1) := by decide +kernel
theorem dX11_count_113 : decode cX11_count 113 = .ok (.getfield 40, 3) := by decide +kernel
theorem dX11_count_116 : decode cX11_count 116 = .ok (.getfield 194, 3) := by decide +kernel
theorem dX11_count_119 : decode cX11_count 119 = .ok (.invokestatic 254, 3) := by decide +kernel
theorem dX11_count_122 : decode cX11_count 122 = .ok (.ireturn, 1) := by decide +kernel
theorem dX11_count_123 : decode cX11_count 123 = .ok (.aload_n 0, 1) := by decide +kernel
theorem dX11_count_124 : decode cX11_count 124 = .ok (.getfield 40, 3) := by decide +kernel
theorem dX11_count_127 : decode cX11_count 127 = .ok (.getfield 182, 3) := by decide +kernel
theorem dX11_count_130 : decode cX11_count 130 = .ok (.ifCond .eq 7, 3) := by decide +kernel
theorem dX11_count_133 : decode cX11_count 133 = .ok (.iconst 1, 1) := by decide +kernel
theorem dX11_count_134 : decode cX11_count 134 = .ok (.goto 4, 3) := by decide +kernel
theorem dX11_count_137 : decode cX11_count 137 = .ok (.iconst 0, 1) := by decide +kernel
theorem dX11_count_138 : decode cX11_count 138 = .ok (.ireturn, 1) := by decide +kernel
theorem dX11_count_139 : decode cX11_count 139 = .ok (.aload_n 0, 1) := by decide +kernel
theorem dX11_count_140 : decode cX11_count 140 = .ok (.getfield 40, 3) := by decide +kernel
theorem dX11_count_143 : decode cX11_count 143 = .ok (.getfield 185, 3) := by decide +kernel
theorem dX11_count_146 : decode cX11_count 146 = .ok (.ifCond .eq 7, 3) := by decide +kernel
theorem dX11_count_149 : decode cX11_count 149 = .ok (.iconst 1, 1) := by decide +kernel
theorem dX11_count_150 : decode cX11_count 150 = .ok (.goto 4, 3) := by decide +kernel
theorem dX11_count_153 : decode cX11_count 153 = .ok (.iconst 0, 1) := by decide +kernel
theorem dX11_count_154 : decode cX11_count 154 = .ok (.ireturn, 1) := by decide +kernel
theorem dX11_count_155 : decode cX11_count 155 = .ok (.aload_n 0, 1) := by decide +kernel
theorem dX11_count_156 : decode cX11_count 156 = .ok (.getfield 101, 3) := by decide +kernel
theorem dX11_count_159 : decode cX11_count 159 = .ok (.ifCond .eq 7, 3) := by decide +kernel
theorem dX11_count_162 : decode cX11_count 162 = .ok (.iconst 1, 1) := by decide +kernel
theorem dX11_count_163 : decode cX11_count 163 = .ok (.goto 4, 3) := by decide +kernel
theorem dX11_count_166 : decode cX11_count 166 = .ok (.iconst 0, 1) := by decide +kernel
theorem dX11_count_167 : decode cX11_count 167 = .ok (.ireturn, 1) := by decide +kernel
theorem dX11_count_168 : decode cX11_count 168 = .ok (.aload_n 0, 1) := by decide +kernel
theorem dX11_count_169 : decode cX11_count 169 = .ok (.getfield 93, 3) := by decide +kernel
theorem dX11_count_172 : decode cX11_count 172 = .ok (.ireturn, 1) := by decide +kernel
theorem dX11_count_173 : decode cX11_count 173 = .ok (.aload_n 0, 1) := by decide +kernel
theorem dX11_count_174 : decode cX11_count 174 = .ok (.getfield 40, 3) := by decide +kernel
theorem dX11_count_177 : decode cX11_count 177 = .ok (.getfield 348, 3) := by decide +kernel
theorem dX11_count_180 : decode cX11_count 180 = .ok (.ireturn, 1) := by decide +kernel
theorem dX11_count_181 : decode cX11_count 181 = .ok (.aload_n 0, 1) := by decide +kernel
theorem dX11_count_182 : decode cX11_count 182 = .ok (.invokevirtual 419, 3) := by decide +kernel
theorem dX11_count_185 : decode cX11_count 185 = .ok (.ireturn, 1) := by decide +kernel
theorem dX11_count_186 : decode cX11_count 186 = .ok (.aload_n 0, 1) := by decide +kernel
theorem dX11_count_187 : decode cX11_count 187 = .ok (.getfield 26, 3) := by decide +kernel
theorem dX11_count_190 : decode cX11_count 190 = .ok (.getfield 172, 3) := by decide +kernel
theorem dX11_count_193 : decode cX11_count 193 = .ok (.ireturn, 1) := by decide +kernel
theorem dX11_count_194 : decode cX11_count 194 = .ok (.aload_n 0, 1) := by decide +kernel
theorem dX11_count_195 : decode cX11_count 195 = .ok (.getfield 104, 3) := by decide +kernel
theorem dX11_count_198 : decode cX11_count 198 = .ok (.ifCond .eq 7, 3) := by decide +kernel
theorem dX11_count_201 : decode cX11_count 201 = .ok (.iconst 1, 1) := by decide +kernel
theorem dX11_count_202 : decode cX11_count 202 = .ok (.goto 4, 3) := by decide +kernel
theorem dX11_count_205 : decode cX11_count 205 = .ok (.iconst 0, 1) := by decide +kernel
theorem dX11_count_206 : decode cX11_count 206 = .ok (.ireturn, 1) := by decide +kernel
theorem dX11_count_207 : decode cX11_count 207 = .ok (.ldc_w 411, 3) := by decide +kernel
theorem dX11_count_210 : decode cX11_count 210 = .ok (.ireturn, 1) := by decide +kernel
theorem dX11_caughtInAll_0 : decode cX11_caughtInAll 0 = .ok (.iconst 0, 1) := by decide +kernel
theorem dX11_caughtInAll_1 : decode cX11_caughtInAll 1 = .ok (.istore_n 1, 1) := by decide +kernel
theorem dX11_caughtInAll_2 : decode cX11_caughtInAll 2 = .ok (.iconst 0, 1) := by decide +kernel
theorem dX11_caughtInAll_3 : decode cX11_caughtInAll 3 = .ok (.istore_n 2, 1) := by decide +kernel
theorem dX11_caughtInAll_4 : decode cX11_caughtInAll 4 = .ok (.iload_n 2, 1) := by decide +kernel
theorem dX11_caughtInAll_5 : decode cX11_caughtInAll 5 = .ok (.aload_n 0, 1) := by decide +kernel
theorem dX11_caughtInAll_6 : decode cX11_caughtInAll 6 = .ok (.getfield 40, 3) := by decide +kernel
theorem dX11_caughtInAll_9 : decode cX11_caughtInAll 9 = .ok (.getfield 348, 3) := by decide +kernel
theorem dX11_caughtInAll_12 : decode cX11_caughtInAll 12 = .ok (.if_icmp .ge 20, 3) := by decide +kernel
theorem dX11_caughtInAll_15 : decode cX11_caughtInAll 15 = .ok (.iload_n 1, 1) := by decide +kernel
theorem dX11_caughtInAll_16 : decode cX11_caughtInAll 16 = .ok (.aload_n 0, 1) := by decide +kernel
theorem dX11_caughtInAll_17 : decode cX11_caughtInAll 17 = .ok (.getfield 40, 3) := by decide +kernel
theorem dX11_caughtInAll_20 : decode cX11_caughtInAll 20 = .ok (.iload_n 2, 1) := by decide +kernel
theorem dX11_caughtInAll_21 : decode cX11_caughtInAll 21 = .ok (.invokevirtual 374, 3) := by decide +kernel
theorem dX11_caughtInAll_24 : decode cX11_caughtInAll 24 = .ok (.iadd, 1) := by decide +kernel
theorem dX11_caughtInAll_25 : decode cX11_caughtInAll 25 = .ok (.istore_n 1, 1) := by decide +kernel
theorem dX11_caughtInAll_26 : decode cX11_caughtInAll 26 = .ok (.iinc 2 1, 3) := by decide +kernel
theorem dX11_caughtInAll_29 : decode cX11_caughtInAll 29 = .ok (.goto (-25), 3) := by decide +kernel
theorem dX11_caughtInAll_32 : decode cX11_caughtInAll 32 = .ok (.iload_n 1, 1) := by decide +kernel
theorem dX11_caughtInAll_33 : decode cX11_caughtInAll 33 = .ok (.ireturn, 1) := by decide +kernel
theorem dX11_hasLake_0 : decode cX11_hasLake 0 = .ok (.aload_n 0, 1) := by decide +kernel
theorem dX11_hasLake_1 : decode cX11_hasLake 1 = .ok (.getfield 33, 3) := by decide +kernel
theorem dX11_hasLake_4 : decode cX11_hasLake 4 = .ok (.getfield 138, 3) := by decide +kernel
theorem dX11_hasLake_7 : decode cX11_hasLake 7 = .ok (.ifCond .le 7, 3) := by decide +kernel
theorem dX11_hasLake_10 : decode cX11_hasLake 10 = .ok (.iconst 1, 1) := by decide +kernel
theorem dX11_hasLake_11 : decode cX11_hasLake 11 = .ok (.goto 4, 3) := by decide +kernel
theorem dX11_hasLake_14 : decode cX11_hasLake 14 = .ok (.iconst 0, 1) := by decide +kernel
theorem dX11_hasLake_15 : decode cX11_hasLake 15 = .ok (.ireturn, 1) := by decide +kernel
theorem dX11_isPlace_0 : decode cX11_isPlace 0 = .ok (.iload_n 1, 1) := by decide +kernel
theorem dX11_isPlace_1 : decode cX11_isPlace 1 = .ok (.iconst 0, 1) := by decide +kernel
theorem dX11_isPlace_2 : decode cX11_isPlace 2 = .ok (.aload_n 0, 1) := by decide +kernel
theorem dX11_isPlace_3 : decode cX11_isPlace 3 = .ok (.getfield 33, 3) := by decide +kernel
theorem dX11_isPlace_6 : decode cX11_isPlace 6 = .ok (.getfield 138, 3) := by decide +kernel
theorem dX11_isPlace_9 : decode cX11_isPlace 9 = .ok (.iconst 1, 1) := by decide +kernel
theorem dX11_isPlace_10 : decode cX11_isPlace 10 = .ok (.isub, 1) := by decide +kernel
theorem dX11_isPlace_11 : decode cX11_isPlace 11 = .ok (.invokestatic 118, 3) := by decide +kernel
theorem dX11_isPlace_14 : decode cX11_isPlace 14 = .ok (.ireturn, 1) := by decide +kernel
theorem dX11_isCast_0 : decode cX11_isCast 0 = .ok (.aload_n 0, 1) := by decide +kernel
theorem dX11_isCast_1 : decode cX11_isCast 1 = .ok (.invokevirtual 175, 3) := by decide +kernel
theorem dX11_isCast_4 : decode cX11_isCast 4 = .ok (.ifCond .eq 33, 3) := by decide +kernel
theorem dX11_isCast_7 : decode cX11_isCast 7 = .ok (.iload_n 1, 1) := by decide +kernel
theorem dX11_isCast_8 : decode cX11_isCast 8 = .ok (.iconst 0, 1) := by decide +kernel
theorem dX11_isCast_9 : decode cX11_isCast 9 = .ok (.iconst 3, 1) := by decide +kernel
theorem dX11_isCast_10 : decode cX11_isCast 10 = .ok (.invokestatic 118, 3) := by decide +kernel
theorem dX11_isCast_13 : decode cX11_isCast 13 = .ok (.ifCond .eq 24, 3) := by decide +kernel
theorem dX11_isCast_16 : decode cX11_isCast 16 = .ok (.iload_n 2, 1) := by decide +kernel
theorem dX11_isCast_17 : decode cX11_isCast 17 = .ok (.iconst 0, 1) := by decide +kernel
theorem dX11_isCast_18 : decode cX11_isCast 18 = .ok (.aload_n 0, 1) := by decide +kernel
theorem dX11_isCast_19 : decode cX11_isCast 19 = .ok (.getfield 33, 3) := by decide +kernel
theorem dX11_isCast_22 : decode cX11_isCast 22 = .ok (.getfield 188, 3) := by decide +kernel
theorem dX11_isCast_25 : decode cX11_isCast 25 = .ok (.iconst 1, 1) := by decide +kernel
theorem dX11_isCast_26 : decode cX11_isCast 26 = .ok (.isub, 1) := by decide +kernel
theorem dX11_isCast_27 : decode cX11_isCast 27 = .ok (.invokestatic 118, 3) := by decide +kernel
theorem dX11_isCast_30 : decode cX11_isCast 30 = .ok (.ifCond .eq 7, 3) := by decide +kernel
theorem dX11_isCast_33 : decode cX11_isCast 33 = .ok (.iconst 1, 1) := by decide +kernel
theorem dX11_isCast_34 : decode cX11_isCast 34 = .ok (.goto 4, 3) := by decide +kernel
theorem dX11_isCast_37 : decode cX11_isCast 37 = .ok (.iconst 0, 1) := by decide +kernel
theorem dX11_isCast_38 : decode cX11_isCast 38 = .ok (.ireturn, 1) := by decide +kernel
theorem dX11_isPart_0 : decode cX11_isPart 0 = .ok (.iload_n 0, 1) := by decide +kernel
theorem dX11_isPart_1 : decode cX11_isPart 1 = .ok (.iconst 0, 1) := by decide +kernel
theorem dX11_isPart_2 : decode cX11_isPart 2 = .ok (.iconst 1, 1) := by decide +kernel
theorem dX11_isPart_3 : decode cX11_isPart 3 = .ok (.invokestatic 118, 3) := by decide +kernel
theorem dX11_isPart_6 : decode cX11_isPart 6 = .ok (.ireturn, 1) := by decide +kernel
theorem dX11_isShelf_0 : decode cX11_isShelf 0 = .ok (.iload_n 0, 1) := by decide +kernel
theorem dX11_isShelf_1 : decode cX11_isShelf 1 = .ok (.iconst 0, 1) := by decide +kernel
theorem dX11_isShelf_2 : decode cX11_isShelf 2 = .ok (.iconst 3, 1) := by decide +kernel
theorem dX11_isShelf_3 : decode cX11_isShelf 3 = .ok (.invokestatic 118, 3) := by decide +kernel
theorem dX11_isShelf_6 : decode cX11_isShelf 6 = .ok (.ireturn, 1) := by decide +kernel
theorem dX11_within_0 : decode cX11_within 0 = .ok (.iload_n 0, 1) := by decide +kernel
theorem dX11_within_1 : decode cX11_within 1 = .ok (.iload_n 1, 1) := by decide +kernel
theorem dX11_within_2 : decode cX11_within 2 = .ok (.if_icmp .lt 12, 3) := by decide +kernel
theorem dX11_within_5 : decode cX11_within 5 = .ok (.iload_n 0, 1) := by decide +kernel
theorem dX11_within_6 : decode cX11_within 6 = .ok (.iload_n 2, 1) := by decide +kernel
theorem dX11_within_7 : decode cX11_within 7 = .ok (.if_icmp .gt 7, 3) := by decide +kernel
theorem dX11_within_10 : decode cX11_within 10 = .ok (.iconst 1, 1) := by decide +kernel
theorem dX11_within_11 : decode cX11_within 11 = .ok (.goto 4, 3) := by decide +kernel
theorem dX11_within_14 : decode cX11_within 14 = .ok (.iconst 0, 1) := by decide +kernel
theorem dX11_within_15 : decode cX11_within 15 = .ok (.ireturn, 1) := by decide +kernel
theorem dX11_plainMean_0 : decode cX11_plainMean 0 = .ok (.lload_n 1, 1) := by decide +kernel
theorem dX11_plainMean_1 : decode cX11_plainMean 1 = .ok (.ldc2_w 386, 3) := by decide +kernel
theorem dX11_plainMean_4 : decode cX11_plainMean 4 = .ok (.aload_n 0, 1) := by decide +kernel
theorem dX11_plainMean_5 : decode cX11_plainMean 5 = .ok (.getfield 33, 3) := by decide +kernel
theorem dX11_plainMean_8 : decode cX11_plainMean 8 = .ok (.getfield 318, 3) := by decide +kernel
theorem dX11_plainMean_11 : decode cX11_plainMean 11 = .ok (.i2l, 1) := by decide +kernel
theorem dX11_plainMean_12 : decode cX11_plainMean 12 = .ok (.lmul, 1) := by decide +kernel
theorem dX11_plainMean_13 : decode cX11_plainMean 13 = .ok (.iload_n 3, 1) := by decide +kernel
theorem dX11_plainMean_14 : decode cX11_plainMean 14 = .ok (.invokestatic 321, 3) := by decide +kernel
theorem dX11_plainMean_17 : decode cX11_plainMean 17 = .ok (.l2i, 1) := by decide +kernel
theorem dX11_plainMean_18 : decode cX11_plainMean 18 = .ok (.ireturn, 1) := by decide +kernel
theorem dX11_plain_0 : decode cX11_plain 0 = .ok (.lload_n 0, 1) := by decide +kernel
theorem dX11_plain_1 : decode cX11_plain 1 = .ok (.lconst 0, 1) := by decide +kernel
theorem dX11_plain_2 : decode cX11_plain 2 = .ok (.lcmp, 1) := by decide +kernel
theorem dX11_plain_3 : decode cX11_plain 3 = .ok (.ifCond .eq 9, 3) := by decide +kernel
theorem dX11_plain_6 : decode cX11_plain 6 = .ok (.lload_n 2, 1) := by decide +kernel
theorem dX11_plain_7 : decode cX11_plain 7 = .ok (.lconst 0, 1) := by decide +kernel
theorem dX11_plain_8 : decode cX11_plain 8 = .ok (.lcmp, 1) := by decide +kernel
theorem dX11_plain_9 : decode cX11_plain 9 = .ok (.ifCond .ne 14, 3) := by decide +kernel
theorem dX11_plain_12 : decode cX11_plain 12 = .ok (.iload 4, 2) := by decide +kernel
theorem dX11_plain_14 : decode cX11_plain 14 = .ok (.ifCond .ne 7, 3) := by decide +kernel
theorem dX11_plain_17 : decode cX11_plain 17 = .ok (.lconst 0, 1) := by decide +kernel
theorem dX11_plain_18 : decode cX11_plain 18 = .ok (.goto 4, 3) := by decide +kernel
theorem dX11_plain_21 : decode cX11_plain 21 = .ok (.lconst 1, 1) := by decide +kernel
theorem dX11_plain_22 : decode cX11_plain 22 = .ok (.lreturn, 1) := by decide +kernel
theorem dX11_plain_23 : decode cX11_plain 23 = .ok (.lload_n 0, 1) := by decide +kernel
theorem dX11_plain_24 : decode cX11_plain 24 = .ok (.lload_n 2, 1) := by decide +kernel
theorem dX11_plain_25 : decode cX11_plain 25 = .ok (.invokestatic 422, 3) := by decide +kernel
theorem dX11_plain_28 : decode cX11_plain 28 = .ok (.lstore 5, 2) := by decide +kernel
theorem dX11_plain_30 : decode cX11_plain 30 = .ok (.lload 5, 2) := by decide +kernel
theorem dX11_plain_32 : decode cX11_plain 32 = .ok (.lconst 0, 1) := by decide +kernel
theorem dX11_plain_33 : decode cX11_plain 33 = .ok (.lcmp, 1) := by decide +kernel
theorem dX11_plain_34 : decode cX11_plain 34 = .ok (.ifCond .ne 7, 3) := by decide +kernel
theorem dX11_plain_37 : decode cX11_plain 37 = .ok (.ldc2_w 260, 3) := by decide +kernel
theorem dX11_plain_40 : decode cX11_plain 40 = .ok (.lreturn, 1) := by decide +kernel
theorem dX11_plain_41 : decode cX11_plain 41 = .ok (.iload 4, 2) := by decide +kernel
theorem dX11_plain_43 : decode cX11_plain 43 = .ok (.ifCond .ne 10, 3) := by decide +kernel
theorem dX11_plain_46 : decode cX11_plain 46 = .ok (.lload_n 0, 1) := by decide +kernel
theorem dX11_plain_47 : decode cX11_plain 47 = .ok (.lload 5, 2) := by decide +kernel
theorem dX11_plain_49 : decode cX11_plain 49 = .ok (.ldiv, 1) := by decide +kernel
theorem dX11_plain_50 : decode cX11_plain 50 = .ok (.goto 7, 3) := by decide +kernel
theorem dX11_plain_53 : decode cX11_plain 53 = .ok (.lload_n 2, 1) := by decide +kernel
theorem dX11_plain_54 : decode cX11_plain 54 = .ok (.lload 5, 2) := by decide +kernel
theorem dX11_plain_56 : decode cX11_plain 56 = .ok (.ldiv, 1) := by decide +kernel
theorem dX11_plain_57 : decode cX11_plain 57 = .ok (.lreturn, 1) := by decide +kernel
theorem dX11_commonOf_0 : decode cX11_commonOf 0 = .ok (.lload_n 0, 1) := by decide +kernel
theorem dX11_commonOf_1 : decode cX11_commonOf 1 = .ok (.lstore 4, 2) := by decide +kernel
theorem dX11_commonOf_3 : decode cX11_commonOf 3 = .ok (.lload_n 2, 1) := by decide +kernel
theorem dX11_commonOf_4 : decode cX11_commonOf 4 = .ok (.lstore 6, 2) := by decide +kernel
theorem dX11_commonOf_6 : decode cX11_commonOf 6 = .ok (.iconst 0, 1) := by decide +kernel
theorem dX11_commonOf_7 : decode cX11_commonOf 7 = .ok (.istore 8, 2) := by decide +kernel
theorem dX11_commonOf_9 : decode cX11_commonOf 9 = .ok (.iload 8, 2) := by decide +kernel
theorem dX11_commonOf_11 : decode cX11_commonOf 11 = .ok (.sipush 200, 3) := by decide +kernel
theorem dX11_commonOf_14 : decode cX11_commonOf 14 = .ok (.if_icmp .ge 31, 3) := by decide +kernel
theorem dX11_commonOf_17 : decode cX11_commonOf 17 = .ok (.lload 6, 2) := by decide +kernel
theorem dX11_commonOf_19 : decode cX11_commonOf 19 = .ok (.lconst 0, 1) := by decide +kernel
theorem dX11_commonOf_20 : decode cX11_commonOf 20 = .ok (.lcmp, 1) := by decide +kernel
theorem dX11_commonOf_21 : decode cX11_commonOf 21 = .ok (.ifCond .eq 24, 3) := by decide +kernel
theorem dX11_commonOf_24 : decode cX11_commonOf 24 = .ok (.lload 4, 2) := by decide +kernel
theorem dX11_commonOf_26 : decode cX11_commonOf 26 = .ok (.lload 6, 2) := by decide +kernel
theorem dX11_commonOf_28 : decode cX11_commonOf 28 = .ok (.lrem, 1) := by decide +kernel
theorem dX11_commonOf_29 : decode cX11_commonOf 29 = .ok (.lstore 9, 2) := by decide +kernel
theorem dX11_commonOf_31 : decode cX11_commonOf 31 = .ok (.lload 6, 2) := by decide +kernel
theorem dX11_commonOf_33 : decode cX11_commonOf 33 = .ok (.lstore 4, 2) := by decide +kernel
theorem dX11_commonOf_35 : decode cX11_commonOf 35 = .ok (.lload 9, 2) := by decide +kernel
theorem dX11_commonOf_37 : decode cX11_commonOf 37 = .ok (.lstore 6, 2) := by decide +kernel
theorem dX11_commonOf_39 : decode cX11_commonOf 39 = .ok (.iinc 8 1, 3) := by decide +kernel
theorem dX11_commonOf_42 : decode cX11_commonOf 42 = .ok (.goto (-33), 3) := by decide +kernel
theorem dX11_commonOf_45 : decode cX11_commonOf 45 = .ok (.lload 4, 2) := by decide +kernel
theorem dX11_commonOf_47 : decode cX11_commonOf 47 = .ok (.lreturn, 1) := by decide +kernel
theorem dX11_signOf_0 : decode cX11_signOf 0 = .ok (.iload_n 0, 1) := by decide +kernel
theorem dX11_signOf_1 : decode cX11_signOf 1 = .ok (.bipush 6, 2) := by decide +kernel
theorem dX11_signOf_3 : decode cX11_signOf 3 = .ok (.iconst 2, 1) := by decide +kernel
theorem dX11_signOf_4 : decode cX11_signOf 4 = .ok (.iload_n 1, 1) := by decide +kernel
theorem dX11_signOf_5 : decode cX11_signOf 5 = .ok (.imul, 1) := by decide +kernel
theorem dX11_signOf_6 : decode cX11_signOf 6 = .ok (.isub, 1) := by decide +kernel
theorem dX11_signOf_7 : decode cX11_signOf 7 = .ok (.iushr, 1) := by decide +kernel
theorem dX11_signOf_8 : decode cX11_signOf 8 = .ok (.iconst 3, 1) := by decide +kernel
theorem dX11_signOf_9 : decode cX11_signOf 9 = .ok (.iand, 1) := by decide +kernel
theorem dX11_signOf_10 : decode cX11_signOf 10 = .ok (.ireturn, 1) := by decide +kernel
theorem dX11_withSign_0 : decode cX11_withSign 0 = .ok (.bipush 6, 2) := by decide +kernel
theorem dX11_withSign_2 : decode cX11_withSign 2 = .ok (.iconst 2, 1) := by decide +kernel
theorem dX11_withSign_3 : decode cX11_withSign 3 = .ok (.iload_n 1, 1) := by decide +kernel
theorem dX11_withSign_4 : decode cX11_withSign 4 = .ok (.imul, 1) := by decide +kernel
theorem dX11_withSign_5 : decode cX11_withSign 5 = .ok (.isub, 1) := by decide +kernel
theorem dX11_withSign_6 : decode cX11_withSign 6 = .ok (.istore_n 3, 1) := by decide +kernel
theorem dX11_withSign_7 : decode cX11_withSign 7 = .ok (.iload_n 0, 1) := by decide +kernel
theorem dX11_withSign_8 : decode cX11_withSign 8 = .ok (.iconst 3, 1) := by decide +kernel
theorem dX11_withSign_9 : decode cX11_withSign 9 = .ok (.iload_n 3, 1) := by decide +kernel
theorem dX11_withSign_10 : decode cX11_withSign 10 = .ok (.ishl, 1) := by decide +kernel
theorem dX11_withSign_11 : decode cX11_withSign 11 = .ok (.iconst (-1), 1) := by decide +kernel
theorem dX11_withSign_12 : decode cX11_withSign 12 = .ok (.ixor, 1) := by decide +kernel
theorem dX11_withSign_13 : decode cX11_withSign 13 = .ok (.iand, 1) := by decide +kernel
theorem dX11_withSign_14 : decode cX11_withSign 14 = .ok (.iload_n 2, 1) := by decide +kernel
theorem dX11_withSign_15 : decode cX11_withSign 15 = .ok (.iconst 3, 1) := by decide +kernel
theorem dX11_withSign_16 : decode cX11_withSign 16 = .ok (.iand, 1) := by decide +kernel
theorem dX11_withSign_17 : decode cX11_withSign 17 = .ok (.iload_n 3, 1) := by decide +kernel
theorem dX11_withSign_18 : decode cX11_withSign 18 = .ok (.ishl, 1) := by decide +kernel
theorem dX11_withSign_19 : decode cX11_withSign 19 = .ok (.ior, 1) := by decide +kernel
theorem dX11_withSign_20 : decode cX11_withSign 20 = .ok (.ireturn, 1) := by decide +kernel
theorem dX11_signsBelow_0 : decode cX11_signsBelow 0 = .ok (.iconst 0, 1) := by decide +kernel
theorem dX11_signsBelow_1 : decode cX11_signsBelow 1 = .ok (.istore_n 2, 1) := by decide +kernel
theorem dX11_signsBelow_2 : decode cX11_signsBelow 2 = .ok (.iload_n 2, 1) := by decide +kernel
theorem dX11_signsBelow_3 : decode cX11_signsBelow 3 = .ok (.iconst 4, 1) := by decide +kernel
theorem dX11_signsBelow_4 : decode cX11_signsBelow 4 = .ok (.if_icmp .ge 20, 3) := by decide +kernel
theorem dX11_signsBelow_7 : decode cX11_signsBelow 7 = .ok (.iload_n 0, 1) := by decide +kernel
theorem dX11_signsBelow_8 : decode cX11_signsBelow 8 = .ok (.iload_n 2, 1) := by decide +kernel
theorem dX11_signsBelow_9 : decode cX11_signsBelow 9 = .ok (.invokestatic 339, 3) := by decide +kernel
theorem dX11_signsBelow_12 : decode cX11_signsBelow 12 = .ok (.iload_n 1, 1) := by decide +kernel
theorem dX11_signsBelow_13 : decode cX11_signsBelow 13 = .ok (.if_icmp .lt 5, 3) := by decide +kernel
theorem dX11_signsBelow_16 : decode cX11_signsBelow 16 = .ok (.iconst 0, 1) := by decide +kernel
theorem dX11_signsBelow_17 : decode cX11_signsBelow 17 = .ok (.ireturn, 1) := by decide +kernel
theorem dX11_signsBelow_18 : decode cX11_signsBelow 18 = .ok (.iinc 2 1, 3) := by decide +kernel
theorem dX11_signsBelow_21 : decode cX11_signsBelow 21 = .ok (.goto (-19), 3) := by decide +kernel
theorem dX11_signsBelow_24 : decode cX11_signsBelow 24 = .ok (.iconst 1, 1) := by decide +kernel
theorem dX11_signsBelow_25 : decode cX11_signsBelow 25 = .ok (.ireturn, 1) := by decide +kernel
theorem dX11_digitsOf_0 : decode cX11_digitsOf 0 = .ok (.iconst 0, 1) := by decide +kernel
theorem dX11_digitsOf_1 : decode cX11_digitsOf 1 = .ok (.istore_n 1, 1) := by decide +kernel
theorem dX11_digitsOf_2 : decode cX11_digitsOf 2 = .ok (.iconst 0, 1) := by decide +kernel
theorem dX11_digitsOf_3 : decode cX11_digitsOf 3 = .ok (.istore_n 2, 1) := by decide +kernel
theorem dX11_digitsOf_4 : decode cX11_digitsOf 4 = .ok (.iload_n 2, 1) := by decide +kernel
theorem dX11_digitsOf_5 : decode cX11_digitsOf 5 = .ok (.iconst 4, 1) := by decide +kernel
theorem dX11_digitsOf_6 : decode cX11_digitsOf 6 = .ok (.if_icmp .ge 20, 3) := by decide +kernel
theorem dX11_digitsOf_9 : decode cX11_digitsOf 9 = .ok (.bipush 10, 2) := by decide +kernel
theorem dX11_digitsOf_11 : decode cX11_digitsOf 11 = .ok (.iload_n 1, 1) := by decide +kernel
theorem dX11_digitsOf_12 : decode cX11_digitsOf 12 = .ok (.imul, 1) := by decide +kernel
theorem dX11_digitsOf_13 : decode cX11_digitsOf 13 = .ok (.iload_n 0, 1) := by decide +kernel
theorem dX11_digitsOf_14 : decode cX11_digitsOf 14 = .ok (.iload_n 2, 1) := by decide +kernel
theorem dX11_digitsOf_15 : decode cX11_digitsOf 15 = .ok (.invokestatic 339, 3) := by decide +kernel
theorem dX11_digitsOf_18 : decode cX11_digitsOf 18 = .ok (.iadd, 1) := by decide +kernel
theorem dX11_digitsOf_19 : decode cX11_digitsOf 19 = .ok (.istore_n 1, 1) := by decide +kernel
theorem dX11_digitsOf_20 : decode cX11_digitsOf 20 = .ok (.iinc 2 1, 3) := by decide +kernel
theorem dX11_digitsOf_23 : decode cX11_digitsOf 23 = .ok (.goto (-19), 3) := by decide +kernel
theorem dX11_digitsOf_26 : decode cX11_digitsOf 26 = .ok (.iload_n 1, 1) := by decide +kernel
theorem dX11_digitsOf_27 : decode cX11_digitsOf 27 = .ok (.ireturn, 1) := by decide +kernel
theorem dX11_tugsOf_0 : decode cX11_tugsOf 0 = .ok (.iload_n 0, 1) := by decide +kernel
theorem dX11_tugsOf_1 : decode cX11_tugsOf 1 = .ok (.iconst 0, 1) := by decide +kernel
theorem dX11_tugsOf_2 : decode cX11_tugsOf 2 = .ok (.sipush 9999, 3) := by decide +kernel
theorem dX11_tugsOf_5 : decode cX11_tugsOf 5 = .ok (.invokestatic 118, 3) := by decide +kernel
theorem dX11_tugsOf_8 : decode cX11_tugsOf 8 = .ok (.ifCond .ne 5, 3) := by decide +kernel
theorem dX11_tugsOf_11 : decode cX11_tugsOf 11 = .ok (.iconst (-1), 1) := by decide +kernel
theorem dX11_tugsOf_12 : decode cX11_tugsOf 12 = .ok (.ireturn, 1) := by decide +kernel
theorem dX11_tugsOf_13 : decode cX11_tugsOf 13 = .ok (.iconst 0, 1) := by decide +kernel
theorem dX11_tugsOf_14 : decode cX11_tugsOf 14 = .ok (.istore_n 2, 1) := by decide +kernel
theorem dX11_tugsOf_15 : decode cX11_tugsOf 15 = .ok (.iconst 0, 1) := by decide +kernel
theorem dX11_tugsOf_16 : decode cX11_tugsOf 16 = .ok (.istore_n 3, 1) := by decide +kernel
theorem dX11_tugsOf_17 : decode cX11_tugsOf 17 = .ok (.iload_n 3, 1) := by decide +kernel
theorem dX11_tugsOf_18 : decode cX11_tugsOf 18 = .ok (.iconst 4, 1) := by decide +kernel
theorem dX11_tugsOf_19 : decode cX11_tugsOf 19 = .ok (.if_icmp .ge 32, 3) := by decide +kernel
theorem dX11_tugsOf_22 : decode cX11_tugsOf 22 = .ok (.iload_n 0, 1) := by decide +kernel
theorem dX11_tugsOf_23 : decode cX11_tugsOf 23 = .ok (.iload_n 3, 1) := by decide +kernel
theorem dX11_tugsOf_24 : decode cX11_tugsOf 24 = .ok (.invokestatic 425, 3) := by decide +kernel
theorem dX11_tugsOf_27 : decode cX11_tugsOf 27 = .ok (.istore 4, 2) := by decide +kernel
theorem dX11_tugsOf_29 : decode cX11_tugsOf 29 = .ok (.iload 4, 2) := by decide +kernel
theorem dX11_tugsOf_31 : decode cX11_tugsOf 31 = .ok (.iload_n 1, 1) := by decide +kernel
theorem dX11_tugsOf_32 : decode cX11_tugsOf 32 = .ok (.if_icmp .lt 5, 3) := by decide +kernel
theorem dX11_tugsOf_35 : decode cX11_tugsOf 35 = .ok (.iconst (-1), 1) := by decide +kernel
theorem dX11_tugsOf_36 : decode cX11_tugsOf 36 = .ok (.ireturn, 1) := by decide +kernel
theorem dX11_tugsOf_37 : decode cX11_tugsOf 37 = .ok (.iload_n 2, 1) := by decide +kernel
theorem dX11_tugsOf_38 : decode cX11_tugsOf 38 = .ok (.iload_n 3, 1) := by decide +kernel
theorem dX11_tugsOf_39 : decode cX11_tugsOf 39 = .ok (.iload 4, 2) := by decide +kernel
theorem dX11_tugsOf_41 : decode cX11_tugsOf 41 = .ok (.invokestatic 364, 3) := by decide +kernel
theorem dX11_tugsOf_44 : decode cX11_tugsOf 44 = .ok (.istore_n 2, 1) := by decide +kernel
theorem dX11_tugsOf_45 : decode cX11_tugsOf 45 = .ok (.iinc 3 1, 3) := by decide +kernel
theorem dX11_tugsOf_48 : decode cX11_tugsOf 48 = .ok (.goto (-31), 3) := by decide +kernel
theorem dX11_tugsOf_51 : decode cX11_tugsOf 51 = .ok (.iload_n 2, 1) := by decide +kernel
theorem dX11_tugsOf_52 : decode cX11_tugsOf 52 = .ok (.ireturn, 1) := by decide +kernel
theorem dX11_digitOf_0 : decode cX11_digitOf 0 = .ok (.iload_n 0, 1) := by decide +kernel
theorem dX11_digitOf_1 : decode cX11_digitOf 1 = .ok (.istore_n 2, 1) := by decide +kernel
theorem dX11_digitOf_2 : decode cX11_digitOf 2 = .ok (.iload_n 1, 1) := by decide +kernel
theorem dX11_digitOf_3 : decode cX11_digitOf 3 = .ok (.istore_n 3, 1) := by decide +kernel
theorem dX11_digitOf_4 : decode cX11_digitOf 4 = .ok (.iload_n 3, 1) := by decide +kernel
theorem dX11_digitOf_5 : decode cX11_digitOf 5 = .ok (.iconst 3, 1) := by decide +kernel
theorem dX11_digitOf_6 : decode cX11_digitOf 6 = .ok (.if_icmp .ge 14, 3) := by decide +kernel
theorem dX11_digitOf_9 : decode cX11_digitOf 9 = .ok (.iload_n 2, 1) := by decide +kernel
theorem dX11_digitOf_10 : decode cX11_digitOf 10 = .ok (.bipush 10, 2) := by decide +kernel
theorem dX11_digitOf_12 : decode cX11_digitOf 12 = .ok (.idiv, 1) := by decide +kernel
theorem dX11_digitOf_13 : decode cX11_digitOf 13 = .ok (.istore_n 2, 1) := by decide +kernel
theorem dX11_digitOf_14 : decode cX11_digitOf 14 = .ok (.iinc 3 1, 3) := by decide +kernel
theorem dX11_digitOf_17 : decode cX11_digitOf 17 = .ok (.goto (-13), 3) := by decide +kernel
theorem dX11_digitOf_20 : decode cX11_digitOf 20 = .ok (.iload_n 2, 1) := by decide +kernel
theorem dX11_digitOf_21 : decode cX11_digitOf 21 = .ok (.bipush 10, 2) := by decide +kernel
theorem dX11_digitOf_23 : decode cX11_digitOf 23 = .ok (.irem, 1) := by decide +kernel
theorem dX11_digitOf_24 : decode cX11_digitOf 24 = .ok (.ireturn, 1) := by decide +kernel
theorem dX11_placeOf_0 : decode cX11_placeOf 0 = .ok (.lload_n 0, 1) := by decide +kernel
theorem dX11_placeOf_1 : decode cX11_placeOf 1 = .ok (.iconst 3, 1) := by decide +kernel
theorem dX11_placeOf_2 : decode cX11_placeOf 2 = .ok (.iload_n 2, 1) := by decide +kernel
theorem dX11_placeOf_3 : decode cX11_placeOf 3 = .ok (.iconst 4, 1) := by decide +kernel
theorem dX11_placeOf_4 : decode cX11_placeOf 4 = .ok (.imul, 1) := by decide +kernel
theorem dX11_placeOf_5 : decode cX11_placeOf 5 = .ok (.iload_n 3, 1) := by decide +kernel
theorem dX11_placeOf_6 : decode cX11_placeOf 6 = .ok (.iadd, 1) := by decide +kernel
theorem dX11_placeOf_7 : decode cX11_placeOf 7 = .ok (.imul, 1) := by decide +kernel
theorem dX11_placeOf_8 : decode cX11_placeOf 8 = .ok (.lushr, 1) := by decide +kernel
theorem dX11_placeOf_9 : decode cX11_placeOf 9 = .ok (.l2i, 1) := by decide +kernel
theorem dX11_placeOf_10 : decode cX11_placeOf 10 = .ok (.bipush 7, 2) := by decide +kernel
theorem dX11_placeOf_12 : decode cX11_placeOf 12 = .ok (.iand, 1) := by decide +kernel
theorem dX11_placeOf_13 : decode cX11_placeOf 13 = .ok (.ireturn, 1) := by decide +kernel
theorem dX11_withPlace_0 : decode cX11_withPlace 0 = .ok (.iconst 3, 1) := by decide +kernel
theorem dX11_withPlace_1 : decode cX11_withPlace 1 = .ok (.iload_n 2, 1) := by decide +kernel
theorem dX11_withPlace_2 : decode cX11_withPlace 2 = .ok (.iconst 4, 1) := by decide +kernel
theorem dX11_withPlace_3 : decode cX11_withPlace 3 = .ok (.imul, 1) := by decide +kernel
theorem dX11_withPlace_4 : decode cX11_withPlace 4 = .ok (.iload_n 3, 1) := by decide +kernel
theorem dX11_withPlace_5 : decode cX11_withPlace 5 = .ok (.iadd, 1) := by decide +kernel
theorem dX11_withPlace_6 : decode cX11_withPlace 6 = .ok (.imul, 1) := by decide +kernel
theorem dX11_withPlace_7 : decode cX11_withPlace 7 = .ok (.istore 5, 2) := by decide +kernel
theorem dX11_withPlace_9 : decode cX11_withPlace 9 = .ok (.lload_n 0, 1) := by decide +kernel
theorem dX11_withPlace_10 : decode cX11_withPlace 10 = .ok (.ldc2_w 428, 3) := by decide +kernel
theorem dX11_withPlace_13 : decode cX11_withPlace 13 = .ok (.iload 5, 2) := by decide +kernel
theorem dX11_withPlace_15 : decode cX11_withPlace 15 = .ok (.lshl, 1) := by decide +kernel
theorem dX11_withPlace_16 : decode cX11_withPlace 16 = .ok (.ldc2_w 260, 3) := by decide +kernel
theorem dX11_withPlace_19 : decode cX11_withPlace 19 = .ok (.lxor, 1) := by decide +kernel
theorem dX11_withPlace_20 : decode cX11_withPlace 20 = .ok (.land, 1) := by decide +kernel
theorem dX11_withPlace_21 : decode cX11_withPlace 21 = .ok (.iload 4, 2) := by decide +kernel
theorem dX11_withPlace_23 : decode cX11_withPlace 23 = .ok (.bipush 7, 2) := by decide +kernel
theorem dX11_withPlace_25 : decode cX11_withPlace 25 = .ok (.iand, 1) := by decide +kernel
theorem dX11_withPlace_26 : decode cX11_withPlace 26 = .ok (.i2l, 1) := by decide +kernel
theorem dX11_withPlace_27 : decode cX11_withPlace 27 = .ok (.iload 5, 2) := by decide +kernel
theorem dX11_withPlace_29 : decode cX11_withPlace 29 = .ok (.lshl, 1) := by decide +kernel
theorem dX11_withPlace_30 : decode cX11_withPlace 30 = .ok (.lor, 1) := by decide +kernel
theorem dX11_withPlace_31 : decode cX11_withPlace 31 = .ok (.lreturn, 1) := by decide +kernel
