theorem dX1_init_0 : decode cX1_init 0 = .ok (.aload_n 0, 1) := by decide +kernel
theorem dX1_init_1 : decode cX1_init 1 = .ok (.invokespecial 3, 3) := by decide +kernel
theorem dX1_init_4 : decode cX1_init 4 = .ok (.aload_n 0, 1) := by decide +kernel
theorem dX1_init_5 : decode cX1_init 5 = .ok (.bipush 6, 2) := by decide +kernel
theorem dX1_init_7 : decode cX1_init 7 = .ok (.newarray .int, 2) := by decide +kernel
theorem dX1_init_9 : decode cX1_init 9 = .ok (.putfield 9, 3) := by decide +kernel
theorem dX1_init_12 : decode cX1_init 12 = .ok (.aload_n 0, 1) := by decide +kernel
theorem dX1_init_13 : decode cX1_init 13 = .ok (.iconst (-1), 1) := by decide +kernel
theorem dX1_init_14 : decode cX1_init 14 = .ok (.putfield 15, 3) := by decide +kernel
theorem dX1_init_17 : decode cX1_init 17 = .ok (.aload_n 0, 1) := by decide +kernel
theorem dX1_init_18 : decode cX1_init 18 = .ok (.iconst (-1), 1) := by decide +kernel
theorem dX1_init_19 : decode cX1_init 19 = .ok (.putfield 19, 3) := by decide +kernel
theorem dX1_init_22 : decode cX1_init 22 = .ok (.aload_n 0, 1) := by decide +kernel
theorem dX1_init_23 : decode cX1_init 23 = .ok (.aload_n 1, 1) := by decide +kernel
theorem dX1_init_24 : decode cX1_init 24 = .ok (.putfield 22, 3) := by decide +kernel
theorem dX1_init_27 : decode cX1_init 27 = .ok (.aload_n 0, 1) := by decide +kernel
theorem dX1_init_28 : decode cX1_init 28 = .ok (.aload_n 2, 1) := by decide +kernel
theorem dX1_init_29 : decode cX1_init 29 = .ok (.putfield 26, 3) := by decide +kernel
theorem dX1_init_32 : decode cX1_init 32 = .ok (.return_, 1) := by decide +kernel
theorem dX1_hearSenders_0 : decode cX1_hearSenders 0 = .ok (.iconst 0, 1) := by decide +kernel
theorem dX1_hearSenders_1 : decode cX1_hearSenders 1 = .ok (.istore_n 1, 1) := by decide +kernel
theorem dX1_hearSenders_2 : decode cX1_hearSenders 2 = .ok (.iload_n 1, 1) := by decide +kernel
theorem dX1_hearSenders_3 : decode cX1_hearSenders 3 = .ok (.aload_n 0, 1) := by decide +kernel
theorem dX1_hearSenders_4 : decode cX1_hearSenders 4 = .ok (.getfield 9, 3) := by decide +kernel
theorem dX1_hearSenders_7 : decode cX1_hearSenders 7 = .ok (.arraylength, 1) := by decide +kernel
theorem dX1_hearSenders_8 : decode cX1_hearSenders 8 = .ok (.if_icmp .ge 83, 3) := by decide +kernel
theorem dX1_hearSenders_11 : decode cX1_hearSenders 11 = .ok (.iconst 0, 1) := by decide +kernel
theorem dX1_hearSenders_12 : decode cX1_hearSenders 12 = .ok (.istore_n 2, 1) := by decide +kernel
theorem dX1_hearSenders_13 : decode cX1_hearSenders 13 = .ok (.iconst 0, 1) := by decide +kernel
theorem dX1_hearSenders_14 : decode cX1_hearSenders 14 = .ok (.istore_n 3, 1) := by decide +kernel
theorem dX1_hearSenders_15 : decode cX1_hearSenders 15 = .ok (.iload_n 3, 1) := by decide +kernel
theorem dX1_hearSenders_16 : decode cX1_hearSenders 16 = .ok (.aload_n 0, 1) := by decide +kernel
theorem dX1_hearSenders_17 : decode cX1_hearSenders 17 = .ok (.getfield 22, 3) := by decide +kernel
theorem dX1_hearSenders_20 : decode cX1_hearSenders 20 = .ok (.getfield 30, 3) := by decide +kernel
theorem dX1_hearSenders_23 : decode cX1_hearSenders 23 = .ok (.invokevirtual 36, 3) := by decide +kernel
theorem dX1_hearSenders_26 : decode cX1_hearSenders 26 = .ok (.if_icmp .ge 46, 3) := by decide +kernel
theorem dX1_hearSenders_29 : decode cX1_hearSenders 29 = .ok (.iload_n 2, 1) := by decide +kernel
theorem dX1_hearSenders_30 : decode cX1_hearSenders 30 = .ok (.aload_n 0, 1) := by decide +kernel
theorem dX1_hearSenders_31 : decode cX1_hearSenders 31 = .ok (.getfield 26, 3) := by decide +kernel
theorem dX1_hearSenders_34 : decode cX1_hearSenders 34 = .ok (.iload_n 1, 1) := by decide +kernel
theorem dX1_hearSenders_35 : decode cX1_hearSenders 35 = .ok (.aload_n 0, 1) := by decide +kernel
theorem dX1_hearSenders_36 : decode cX1_hearSenders 36 = .ok (.getfield 22, 3) := by decide +kernel
theorem dX1_hearSenders_39 : decode cX1_hearSenders 39 = .ok (.getfield 30, 3) := by decide +kernel
theorem dX1_hearSenders_42 : decode cX1_hearSenders 42 = .ok (.iload_n 3, 1) := by decide +kernel
theorem dX1_hearSenders_43 : decode cX1_hearSenders 43 = .ok (.iconst 0, 1) := by decide +kernel
theorem dX1_hearSenders_44 : decode cX1_hearSenders 44 = .ok (.invokevirtual 42, 3) := by decide +kernel
theorem dX1_hearSenders_47 : decode cX1_hearSenders 47 = .ok (.aload_n 0, 1) := by decide +kernel
theorem dX1_hearSenders_48 : decode cX1_hearSenders 48 = .ok (.getfield 22, 3) := by decide +kernel
theorem dX1_hearSenders_51 : decode cX1_hearSenders 51 = .ok (.getfield 30, 3) := by decide +kernel
theorem dX1_hearSenders_54 : decode cX1_hearSenders 54 = .ok (.iload_n 3, 1) := by decide +kernel
theorem dX1_hearSenders_55 : decode cX1_hearSenders 55 = .ok (.iconst 1, 1) := by decide +kernel
theorem dX1_hearSenders_56 : decode cX1_hearSenders 56 = .ok (.invokevirtual 42, 3) := by decide +kernel
theorem dX1_hearSenders_59 : decode cX1_hearSenders 59 = .ok (.invokevirtual 46, 3) := by decide +kernel
theorem dX1_hearSenders_62 : decode cX1_hearSenders 62 = .ok (.invokestatic 52, 3) := by decide +kernel
theorem dX1_hearSenders_65 : decode cX1_hearSenders 65 = .ok (.istore_n 2, 1) := by decide +kernel
theorem dX1_hearSenders_66 : decode cX1_hearSenders 66 = .ok (.iinc 3 1, 3) := by decide +kernel
theorem dX1_hearSenders_69 : decode cX1_hearSenders 69 = .ok (.goto (-54), 3) := by decide +kernel
theorem dX1_hearSenders_72 : decode cX1_hearSenders 72 = .ok (.aload_n 0, 1) := by decide +kernel
theorem dX1_hearSenders_73 : decode cX1_hearSenders 73 = .ok (.getfield 9, 3) := by decide +kernel
theorem dX1_hearSenders_76 : decode cX1_hearSenders 76 = .ok (.iload_n 1, 1) := by decide +kernel
theorem dX1_hearSenders_77 : decode cX1_hearSenders 77 = .ok (.sipush 9999, 3) := by decide +kernel
theorem dX1_hearSenders_80 : decode cX1_hearSenders 80 = .ok (.iload_n 2, 1) := by decide +kernel
theorem dX1_hearSenders_81 : decode cX1_hearSenders 81 = .ok (.invokestatic 57, 3) := by decide +kernel
theorem dX1_hearSenders_84 : decode cX1_hearSenders 84 = .ok (.iastore, 1) := by decide +kernel
theorem dX1_hearSenders_85 : decode cX1_hearSenders 85 = .ok (.iinc 1 1, 3) := by decide +kernel
theorem dX1_hearSenders_88 : decode cX1_hearSenders 88 = .ok (.goto (-86), 3) := by decide +kernel
theorem dX1_hearSenders_91 : decode cX1_hearSenders 91 = .ok (.return_, 1) := by decide +kernel
theorem dX1_findBreach_0 : decode cX1_findBreach 0 = .ok (.aload_n 0, 1) := by decide +kernel
theorem dX1_findBreach_1 : decode cX1_findBreach 1 = .ok (.iconst (-1), 1) := by decide +kernel
theorem dX1_findBreach_2 : decode cX1_findBreach 2 = .ok (.putfield 15, 3) := by decide +kernel
theorem dX1_findBreach_5 : decode cX1_findBreach 5 = .ok (.aload_n 0, 1) := by decide +kernel
theorem dX1_findBreach_6 : decode cX1_findBreach 6 = .ok (.iconst (-1), 1) := by decide +kernel
theorem dX1_findBreach_7 : decode cX1_findBreach 7 = .ok (.putfield 19, 3) := by decide +kernel
theorem dX1_findBreach_10 : decode cX1_findBreach 10 = .ok (.aload_n 0, 1) := by decide +kernel
theorem dX1_findBreach_11 : decode cX1_findBreach 11 = .ok (.invokevirtual 60, 3) := by decide +kernel
theorem dX1_findBreach_14 : decode cX1_findBreach 14 = .ok (.iconst 0, 1) := by decide +kernel
theorem dX1_findBreach_15 : decode cX1_findBreach 15 = .ok (.istore_n 1, 1) := by decide +kernel
theorem dX1_findBreach_16 : decode cX1_findBreach 16 = .ok (.iload_n 1, 1) := by decide +kernel
theorem dX1_findBreach_17 : decode cX1_findBreach 17 = .ok (.bipush 24, 2) := by decide +kernel
theorem dX1_findBreach_19 : decode cX1_findBreach 19 = .ok (.if_icmp .ge 87, 3) := by decide +kernel
theorem dX1_findBreach_22 : decode cX1_findBreach 22 = .ok (.aload_n 0, 1) := by decide +kernel
theorem dX1_findBreach_23 : decode cX1_findBreach 23 = .ok (.getfield 15, 3) := by decide +kernel
theorem dX1_findBreach_26 : decode cX1_findBreach 26 = .ok (.iconst (-1), 1) := by decide +kernel
theorem dX1_findBreach_27 : decode cX1_findBreach 27 = .ok (.if_icmp .ne 79, 3) := by decide +kernel
theorem dX1_findBreach_30 : decode cX1_findBreach 30 = .ok (.iconst 0, 1) := by decide +kernel
theorem dX1_findBreach_31 : decode cX1_findBreach 31 = .ok (.istore_n 2, 1) := by decide +kernel
theorem dX1_findBreach_32 : decode cX1_findBreach 32 = .ok (.iload_n 2, 1) := by decide +kernel
theorem dX1_findBreach_33 : decode cX1_findBreach 33 = .ok (.bipush 6, 2) := by decide +kernel
theorem dX1_findBreach_35 : decode cX1_findBreach 35 = .ok (.if_icmp .ge 65, 3) := by decide +kernel
theorem dX1_findBreach_38 : decode cX1_findBreach 38 = .ok (.aload_n 0, 1) := by decide +kernel
theorem dX1_findBreach_39 : decode cX1_findBreach 39 = .ok (.getfield 15, 3) := by decide +kernel
theorem dX1_findBreach_42 : decode cX1_findBreach 42 = .ok (.iconst (-1), 1) := by decide +kernel
theorem dX1_findBreach_43 : decode cX1_findBreach 43 = .ok (.if_icmp .ne 57, 3) := by decide +kernel
theorem dX1_findBreach_46 : decode cX1_findBreach 46 = .ok (.aload_n 0, 1) := by decide +kernel
theorem dX1_findBreach_47 : decode cX1_findBreach 47 = .ok (.getfield 22, 3) := by decide +kernel
theorem dX1_findBreach_50 : decode cX1_findBreach 50 = .ok (.iload_n 2, 1) := by decide +kernel
theorem dX1_findBreach_51 : decode cX1_findBreach 51 = .ok (.invokevirtual 63, 3) := by decide +kernel
theorem dX1_findBreach_54 : decode cX1_findBreach 54 = .ok (.ifCond .eq 12, 3) := by decide +kernel
theorem dX1_findBreach_57 : decode cX1_findBreach 57 = .ok (.aload_n 0, 1) := by decide +kernel
theorem dX1_findBreach_58 : decode cX1_findBreach 58 = .ok (.iload_n 2, 1) := by decide +kernel
theorem dX1_findBreach_59 : decode cX1_findBreach 59 = .ok (.iload_n 1, 1) := by decide +kernel
theorem dX1_findBreach_60 : decode cX1_findBreach 60 = .ok (.invokevirtual 67, 3) := by decide +kernel
theorem dX1_findBreach_63 : decode cX1_findBreach 63 = .ok (.goto 4, 3) := by decide +kernel
theorem dX1_findBreach_66 : decode cX1_findBreach 66 = .ok (.iconst (-1), 1) := by decide +kernel
theorem dX1_findBreach_67 : decode cX1_findBreach 67 = .ok (.istore_n 3, 1) := by decide +kernel
theorem dX1_findBreach_68 : decode cX1_findBreach 68 = .ok (.aload_n 0, 1) := by decide +kernel
theorem dX1_findBreach_69 : decode cX1_findBreach 69 = .ok (.getfield 22, 3) := by decide +kernel
theorem dX1_findBreach_72 : decode cX1_findBreach 72 = .ok (.getfield 70, 3) := by decide +kernel
theorem dX1_findBreach_75 : decode cX1_findBreach 75 = .ok (.iload_n 3, 1) := by decide +kernel
theorem dX1_findBreach_76 : decode cX1_findBreach 76 = .ok (.iconst 0, 1) := by decide +kernel
theorem dX1_findBreach_77 : decode cX1_findBreach 77 = .ok (.invokevirtual 42, 3) := by decide +kernel
theorem dX1_findBreach_80 : decode cX1_findBreach 80 = .ok (.iconst 1, 1) := by decide +kernel
theorem dX1_findBreach_81 : decode cX1_findBreach 81 = .ok (.if_icmp .ne 13, 3) := by decide +kernel
theorem dX1_findBreach_84 : decode cX1_findBreach 84 = .ok (.aload_n 0, 1) := by decide +kernel
theorem dX1_findBreach_85 : decode cX1_findBreach 85 = .ok (.iload_n 1, 1) := by decide +kernel
theorem dX1_findBreach_86 : decode cX1_findBreach 86 = .ok (.putfield 15, 3) := by decide +kernel
theorem dX1_findBreach_89 : decode cX1_findBreach 89 = .ok (.aload_n 0, 1) := by decide +kernel
theorem dX1_findBreach_90 : decode cX1_findBreach 90 = .ok (.iload_n 2, 1) := by decide +kernel
theorem dX1_findBreach_91 : decode cX1_findBreach 91 = .ok (.putfield 19, 3) := by decide +kernel
theorem dX1_findBreach_94 : decode cX1_findBreach 94 = .ok (.iinc 2 1, 3) := by decide +kernel
theorem dX1_findBreach_97 : decode cX1_findBreach 97 = .ok (.goto (-65), 3) := by decide +kernel
theorem dX1_findBreach_100 : decode cX1_findBreach 100 = .ok (.iinc 1 1, 3) := by decide +kernel
theorem dX1_findBreach_103 : decode cX1_findBreach 103 = .ok (.goto (-87), 3) := by decide +kernel
theorem dX1_findBreach_106 : decode cX1_findBreach 106 = .ok (.return_, 1) := by decide +kernel
theorem dX1_lineFor_0 : decode cX1_lineFor 0 = .ok (.iconst 0, 1) := by decide +kernel
theorem dX1_lineFor_1 : decode cX1_lineFor 1 = .ok (.istore_n 3, 1) := by decide +kernel
theorem dX1_lineFor_2 : decode cX1_lineFor 2 = .ok (.iload_n 3, 1) := by decide +kernel
theorem dX1_lineFor_3 : decode cX1_lineFor 3 = .ok (.aload_n 0, 1) := by decide +kernel
theorem dX1_lineFor_4 : decode cX1_lineFor 4 = .ok (.getfield 22, 3) := by decide +kernel
theorem dX1_lineFor_7 : decode cX1_lineFor 7 = .ok (.getfield 70, 3) := by decide +kernel
theorem dX1_lineFor_10 : decode cX1_lineFor 10 = .ok (.invokevirtual 36, 3) := by decide +kernel
theorem dX1_lineFor_13 : decode cX1_lineFor 13 = .ok (.if_icmp .ge 21, 3) := by decide +kernel
theorem dX1_lineFor_16 : decode cX1_lineFor 16 = .ok (.aload_n 0, 1) := by decide +kernel
theorem dX1_lineFor_17 : decode cX1_lineFor 17 = .ok (.iload_n 3, 1) := by decide +kernel
theorem dX1_lineFor_18 : decode cX1_lineFor 18 = .ok (.iload_n 1, 1) := by decide +kernel
theorem dX1_lineFor_19 : decode cX1_lineFor 19 = .ok (.iload_n 2, 1) := by decide +kernel
theorem dX1_lineFor_20 : decode cX1_lineFor 20 = .ok (.invokevirtual 75, 3) := by decide +kernel
theorem dX1_lineFor_23 : decode cX1_lineFor 23 = .ok (.ifCond .eq 5, 3) := by decide +kernel
theorem dX1_lineFor_26 : decode cX1_lineFor 26 = .ok (.iload_n 3, 1) := by decide +kernel
theorem dX1_lineFor_27 : decode cX1_lineFor 27 = .ok (.ireturn, 1) := by decide +kernel
theorem dX1_lineFor_28 : decode cX1_lineFor 28 = .ok (.iinc 3 1, 3) := by decide +kernel
theorem dX1_lineFor_31 : decode cX1_lineFor 31 = .ok (.goto (-29), 3) := by decide +kernel
theorem dX1_lineFor_34 : decode cX1_lineFor 34 = .ok (.iconst (-1), 1) := by decide +kernel
theorem dX1_lineFor_35 : decode cX1_lineFor 35 = .ok (.ireturn, 1) := by decide +kernel
theorem dX1_isFitting_0 : decode cX1_isFitting 0 = .ok (.aload_n 0, 1) := by decide +kernel
theorem dX1_isFitting_1 : decode cX1_isFitting 1 = .ok (.getfield 22, 3) := by decide +kernel
theorem dX1_isFitting_4 : decode cX1_isFitting 4 = .ok (.getfield 70, 3) := by decide +kernel
theorem dX1_isFitting_7 : decode cX1_isFitting 7 = .ok (.iload_n 1, 1) := by decide +kernel
theorem dX1_isFitting_8 : decode cX1_isFitting 8 = .ok (.iconst 1, 1) := by decide +kernel
theorem dX1_isFitting_9 : decode cX1_isFitting 9 = .ok (.invokevirtual 42, 3) := by decide +kernel
theorem dX1_isFitting_12 : decode cX1_isFitting 12 = .ok (.istore 4, 2) := by decide +kernel
theorem dX1_isFitting_14 : decode cX1_isFitting 14 = .ok (.iconst 0, 1) := by decide +kernel
theorem dX1_isFitting_15 : decode cX1_isFitting 15 = .ok (.istore 5, 2) := by decide +kernel
theorem dX1_isFitting_17 : decode cX1_isFitting 17 = .ok (.iload 5, 2) := by decide +kernel
theorem dX1_isFitting_19 : decode cX1_isFitting 19 = .ok (.iload 4, 2) := by decide +kernel
theorem dX1_isFitting_21 : decode cX1_isFitting 21 = .ok (.if_icmp .ge 58, 3) := by decide +kernel
theorem dX1_isFitting_24 : decode cX1_isFitting 24 = .ok (.iload 5, 2) := by decide +kernel
theorem dX1_isFitting_26 : decode cX1_isFitting 26 = .ok (.invokestatic 79, 3) := by decide +kernel
theorem dX1_isFitting_29 : decode cX1_isFitting 29 = .ok (.istore 6, 2) := by decide +kernel
theorem dX1_isFitting_31 : decode cX1_isFitting 31 = .ok (.aload_n 0, 1) := by decide +kernel
theorem dX1_isFitting_32 : decode cX1_isFitting 32 = .ok (.getfield 22, 3) := by decide +kernel
theorem dX1_isFitting_35 : decode cX1_isFitting 35 = .ok (.getfield 70, 3) := by decide +kernel
theorem dX1_isFitting_38 : decode cX1_isFitting 38 = .ok (.iload_n 1, 1) := by decide +kernel
theorem dX1_isFitting_39 : decode cX1_isFitting 39 = .ok (.iload 6, 2) := by decide +kernel
theorem dX1_isFitting_41 : decode cX1_isFitting 41 = .ok (.iconst 0, 1) := by decide +kernel
theorem dX1_isFitting_42 : decode cX1_isFitting 42 = .ok (.iadd, 1) := by decide +kernel
theorem dX1_isFitting_43 : decode cX1_isFitting 43 = .ok (.invokevirtual 42, 3) := by decide +kernel
theorem dX1_isFitting_46 : decode cX1_isFitting 46 = .ok (.iconst 1, 1) := by decide +kernel
theorem dX1_isFitting_47 : decode cX1_isFitting 47 = .ok (.if_icmp .ne 7, 3) := by decide +kernel
theorem dX1_isFitting_50 : decode cX1_isFitting 50 = .ok (.iconst 1, 1) := by decide +kernel
theorem dX1_isFitting_51 : decode cX1_isFitting 51 = .ok (.goto 4, 3) := by decide +kernel
theorem dX1_isFitting_54 : decode cX1_isFitting 54 = .ok (.iconst 0, 1) := by decide +kernel
theorem dX1_isFitting_55 : decode cX1_isFitting 55 = .ok (.istore 7, 2) := by decide +kernel
theorem dX1_isFitting_57 : decode cX1_isFitting 57 = .ok (.aload_n 0, 1) := by decide +kernel
theorem dX1_isFitting_58 : decode cX1_isFitting 58 = .ok (.iload_n 1, 1) := by decide +kernel
theorem dX1_isFitting_59 : decode cX1_isFitting 59 = .ok (.iload 6, 2) := by decide +kernel
theorem dX1_isFitting_61 : decode cX1_isFitting 61 = .ok (.iload_n 2, 1) := by decide +kernel
theorem dX1_isFitting_62 : decode cX1_isFitting 62 = .ok (.iload_n 3, 1) := by decide +kernel
theorem dX1_isFitting_63 : decode cX1_isFitting 63 = .ok (.invokevirtual 83, 3) := by decide +kernel
theorem dX1_isFitting_66 : decode cX1_isFitting 66 = .ok (.iload 7, 2) := by decide +kernel
theorem dX1_isFitting_68 : decode cX1_isFitting 68 = .ok (.if_icmp .ne 5, 3) := by decide +kernel
theorem dX1_isFitting_71 : decode cX1_isFitting 71 = .ok (.iconst 0, 1) := by decide +kernel
theorem dX1_isFitting_72 : decode cX1_isFitting 72 = .ok (.ireturn, 1) := by decide +kernel
theorem dX1_isFitting_73 : decode cX1_isFitting 73 = .ok (.iinc 5 1, 3) := by decide +kernel
theorem dX1_isFitting_76 : decode cX1_isFitting 76 = .ok (.goto (-59), 3) := by decide +kernel
theorem dX1_isFitting_79 : decode cX1_isFitting 79 = .ok (.iconst 1, 1) := by decide +kernel
theorem dX1_isFitting_80 : decode cX1_isFitting 80 = .ok (.ireturn, 1) := by decide +kernel
theorem dX1_holds_0 : decode cX1_holds 0 = .ok (.aload_n 0, 1) := by decide +kernel
theorem dX1_holds_1 : decode cX1_holds 1 = .ok (.getfield 22, 3) := by decide +kernel
theorem dX1_holds_4 : decode cX1_holds 4 = .ok (.getfield 70, 3) := by decide +kernel
theorem dX1_holds_7 : decode cX1_holds 7 = .ok (.iload_n 1, 1) := by decide +kernel
theorem dX1_holds_8 : decode cX1_holds 8 = .ok (.iload_n 2, 1) := by decide +kernel
theorem dX1_holds_9 : decode cX1_holds 9 = .ok (.iconst 1, 1) := by decide +kernel
theorem dX1_holds_10 : decode cX1_holds 10 = .ok (.iadd, 1) := by decide +kernel
theorem dX1_holds_11 : decode cX1_holds 11 = .ok (.invokevirtual 42, 3) := by decide +kernel
theorem dX1_holds_14 : decode cX1_holds 14 = .ok (.istore 5, 2) := by decide +kernel
theorem dX1_holds_16 : decode cX1_holds 16 = .ok (.iload 5, 2) := by decide +kernel
theorem dX1_holds_18 : decode cX1_holds 18 = .ok (.ifCond .ne 9, 3) := by decide +kernel
theorem dX1_holds_21 : decode cX1_holds 21 = .ok (.aload_n 0, 1) := by decide +kernel
theorem dX1_holds_22 : decode cX1_holds 22 = .ok (.iload_n 3, 1) := by decide +kernel
theorem dX1_holds_23 : decode cX1_holds 23 = .ok (.invokevirtual 87, 3) := by decide +kernel
theorem dX1_holds_26 : decode cX1_holds 26 = .ok (.ireturn, 1) := by decide +kernel
theorem dX1_holds_27 : decode cX1_holds 27 = .ok (.aload_n 0, 1) := by decide +kernel
theorem dX1_holds_28 : decode cX1_holds 28 = .ok (.iload 5, 2) := by decide +kernel
theorem dX1_holds_30 : decode cX1_holds 30 = .ok (.iload_n 3, 1) := by decide +kernel
theorem dX1_holds_31 : decode cX1_holds 31 = .ok (.iload 4, 2) := by decide +kernel
theorem dX1_holds_33 : decode cX1_holds 33 = .ok (.invokevirtual 90, 3) := by decide +kernel
theorem dX1_holds_36 : decode cX1_holds 36 = .ok (.istore 6, 2) := by decide +kernel
theorem dX1_holds_38 : decode cX1_holds 38 = .ok (.aload_n 0, 1) := by decide +kernel
theorem dX1_holds_39 : decode cX1_holds 39 = .ok (.getfield 22, 3) := by decide +kernel
theorem dX1_holds_42 : decode cX1_holds 42 = .ok (.getfield 70, 3) := by decide +kernel
theorem dX1_holds_45 : decode cX1_holds 45 = .ok (.iload_n 1, 1) := by decide +kernel
theorem dX1_holds_46 : decode cX1_holds 46 = .ok (.iload_n 2, 1) := by decide +kernel
theorem dX1_holds_47 : decode cX1_holds 47 = .ok (.iconst 3, 1) := by decide +kernel
theorem dX1_holds_48 : decode cX1_holds 48 = .ok (.iadd, 1) := by decide +kernel
theorem dX1_holds_49 : decode cX1_holds 49 = .ok (.invokevirtual 42, 3) := by decide +kernel
theorem dX1_holds_52 : decode cX1_holds 52 = .ok (.istore 7, 2) := by decide +kernel
theorem dX1_holds_54 : decode cX1_holds 54 = .ok (.aload_n 0, 1) := by decide +kernel
theorem dX1_holds_55 : decode cX1_holds 55 = .ok (.getfield 22, 3) := by decide +kernel
theorem dX1_holds_58 : decode cX1_holds 58 = .ok (.getfield 70, 3) := by decide +kernel
theorem dX1_holds_61 : decode cX1_holds 61 = .ok (.iload_n 1, 1) := by decide +kernel
theorem dX1_holds_62 : decode cX1_holds 62 = .ok (.iload_n 2, 1) := by decide +kernel
theorem dX1_holds_63 : decode cX1_holds 63 = .ok (.iconst 2, 1) := by decide +kernel
theorem dX1_holds_64 : decode cX1_holds 64 = .ok (.iadd, 1) := by decide +kernel
theorem dX1_holds_65 : decode cX1_holds 65 = .ok (.invokevirtual 42, 3) := by decide +kernel
theorem dX1_holds_68 : decode cX1_holds 68 = .ok (.lookupswitch 54 #[(60, 28), (62, 41)], 28) := by decide +kernel
theorem dX1_holds_96 : decode cX1_holds 96 = .ok (.iload 6, 2) := by decide +kernel
theorem dX1_holds_98 : decode cX1_holds 98 = .ok (.iload 7, 2) := by decide +kernel
theorem dX1_holds_100 : decode cX1_holds 100 = .ok (.if_icmp .ge 7, 3) := by decide +kernel
theorem dX1_holds_103 : decode cX1_holds 103 = .ok (.iconst 1, 1) := by decide +kernel
theorem dX1_holds_104 : decode cX1_holds 104 = .ok (.goto 4, 3) := by decide +kernel
theorem dX1_holds_107 : decode cX1_holds 107 = .ok (.iconst 0, 1) := by decide +kernel
theorem dX1_holds_108 : decode cX1_holds 108 = .ok (.ireturn, 1) := by decide +kernel
theorem dX1_holds_109 : decode cX1_holds 109 = .ok (.iload 6, 2) := by decide +kernel
theorem dX1_holds_111 : decode cX1_holds 111 = .ok (.iload 7, 2) := by decide +kernel
theorem dX1_holds_113 : decode cX1_holds 113 = .ok (.if_icmp .le 7, 3) := by decide +kernel
theorem dX1_holds_116 : decode cX1_holds 116 = .ok (.iconst 1, 1) := by decide +kernel
theorem dX1_holds_117 : decode cX1_holds 117 = .ok (.goto 4, 3) := by decide +kernel
theorem dX1_holds_120 : decode cX1_holds 120 = .ok (.iconst 0, 1) := by decide +kernel
theorem dX1_holds_121 : decode cX1_holds 121 = .ok (.ireturn, 1) := by decide +kernel
theorem dX1_holds_122 : decode cX1_holds 122 = .ok (.iload 6, 2) := by decide +kernel
theorem dX1_holds_124 : decode cX1_holds 124 = .ok (.iload 7, 2) := by decide +kernel
theorem dX1_holds_126 : decode cX1_holds 126 = .ok (.if_icmp .ne 7, 3) := by decide +kernel
theorem dX1_holds_129 : decode cX1_holds 129 = .ok (.iconst 1, 1) := by decide +kernel
theorem dX1_holds_130 : decode cX1_holds 130 = .ok (.goto 4, 3) := by decide +kernel
theorem dX1_holds_133 : decode cX1_holds 133 = .ok (.iconst 0, 1) := by decide +kernel
theorem dX1_holds_134 : decode cX1_holds 134 = .ok (.ireturn, 1) := by decide +kernel
theorem dX1_isAlone_0 : decode cX1_isAlone 0 = .ok (.aload_n 0, 1) := by decide +kernel
theorem dX1_isAlone_1 : decode cX1_isAlone 1 = .ok (.getfield 22, 3) := by decide +kernel
theorem dX1_isAlone_4 : decode cX1_isAlone 4 = .ok (.getfield 93, 3) := by decide +kernel
theorem dX1_isAlone_7 : decode cX1_isAlone 7 = .ok (.iload_n 1, 1) := by decide +kernel
theorem dX1_isAlone_8 : decode cX1_isAlone 8 = .ok (.iconst 2, 1) := by decide +kernel
theorem dX1_isAlone_9 : decode cX1_isAlone 9 = .ok (.invokevirtual 42, 3) := by decide +kernel
theorem dX1_isAlone_12 : decode cX1_isAlone 12 = .ok (.istore_n 2, 1) := by decide +kernel
theorem dX1_isAlone_13 : decode cX1_isAlone 13 = .ok (.iconst 0, 1) := by decide +kernel
theorem dX1_isAlone_14 : decode cX1_isAlone 14 = .ok (.istore_n 3, 1) := by decide +kernel
theorem dX1_isAlone_15 : decode cX1_isAlone 15 = .ok (.iload_n 3, 1) := by decide +kernel
theorem dX1_isAlone_16 : decode cX1_isAlone 16 = .ok (.aload_n 0, 1) := by decide +kernel
theorem dX1_isAlone_17 : decode cX1_isAlone 17 = .ok (.getfield 22, 3) := by decide +kernel
theorem dX1_isAlone_20 : decode cX1_isAlone 20 = .ok (.getfield 93, 3) := by decide +kernel
theorem dX1_isAlone_23 : decode cX1_isAlone 23 = .ok (.invokevirtual 36, 3) := by decide +kernel
theorem dX1_isAlone_26 : decode cX1_isAlone 26 = .ok (.if_icmp .ge 55, 3) := by decide +kernel
theorem dX1_isAlone_29 : decode cX1_isAlone 29 = .ok (.aload_n 0, 1) := by decide +kernel
theorem dX1_isAlone_30 : decode cX1_isAlone 30 = .ok (.getfield 22, 3) := by decide +kernel
theorem dX1_isAlone_33 : decode cX1_isAlone 33 = .ok (.getfield 93, 3) := by decide +kernel
theorem dX1_isAlone_36 : decode cX1_isAlone 36 = .ok (.iload_n 3, 1) := by decide +kernel
theorem dX1_isAlone_37 : decode cX1_isAlone 37 = .ok (.iconst 2, 1) := by decide +kernel
theorem dX1_isAlone_38 : decode cX1_isAlone 38 = .ok (.invokevirtual 42, 3) := by decide +kernel
theorem dX1_isAlone_41 : decode cX1_isAlone 41 = .ok (.iload_n 2, 1) := by decide +kernel
theorem dX1_isAlone_42 : decode cX1_isAlone 42 = .ok (.if_icmp .ne 7, 3) := by decide +kernel
theorem dX1_isAlone_45 : decode cX1_isAlone 45 = .ok (.iconst 1, 1) := by decide +kernel
theorem dX1_isAlone_46 : decode cX1_isAlone 46 = .ok (.goto 4, 3) := by decide +kernel
theorem dX1_isAlone_49 : decode cX1_isAlone 49 = .ok (.iconst 0, 1) := by decide +kernel
theorem dX1_isAlone_50 : decode cX1_isAlone 50 = .ok (.istore 4, 2) := by decide +kernel
theorem dX1_isAlone_52 : decode cX1_isAlone 52 = .ok (.iload_n 3, 1) := by decide +kernel
theorem dX1_isAlone_53 : decode cX1_isAlone 53 = .ok (.iload_n 1, 1) := by decide +kernel
theorem dX1_isAlone_54 : decode cX1_isAlone 54 = .ok (.if_icmp .eq 21, 3) := by decide +kernel
theorem dX1_isAlone_57 : decode cX1_isAlone 57 = .ok (.iload 4, 2) := by decide +kernel
theorem dX1_isAlone_59 : decode cX1_isAlone 59 = .ok (.ifCond .eq 16, 3) := by decide +kernel
theorem dX1_isAlone_62 : decode cX1_isAlone 62 = .ok (.aload_n 0, 1) := by decide +kernel
theorem dX1_isAlone_63 : decode cX1_isAlone 63 = .ok (.getfield 22, 3) := by decide +kernel
theorem dX1_isAlone_66 : decode cX1_isAlone 66 = .ok (.iload_n 3, 1) := by decide +kernel
theorem dX1_isAlone_67 : decode cX1_isAlone 67 = .ok (.invokevirtual 63, 3) := by decide +kernel
theorem dX1_isAlone_70 : decode cX1_isAlone 70 = .ok (.ifCond .eq 5, 3) := by decide +kernel
theorem dX1_isAlone_73 : decode cX1_isAlone 73 = .ok (.iconst 0, 1) := by decide +kernel
theorem dX1_isAlone_74 : decode cX1_isAlone 74 = .ok (.ireturn, 1) := by decide +kernel
theorem dX1_isAlone_75 : decode cX1_isAlone 75 = .ok (.iinc 3 1, 3) := by decide +kernel
theorem dX1_isAlone_78 : decode cX1_isAlone 78 = .ok (.goto (-63), 3) := by decide +kernel
theorem dX1_isAlone_81 : decode cX1_isAlone 81 = .ok (.iconst 1, 1) := by decide +kernel
theorem dX1_isAlone_82 : decode cX1_isAlone 82 = .ok (.ireturn, 1) := by decide +kernel
theorem dX1_valueOf_0 : decode cX1_valueOf 0 = .ok (.iload_n 1, 1) := by decide +kernel
theorem dX1_valueOf_1 : decode cX1_valueOf 1 = .ok (.tableswitch 89 1 5 #[35, 48, 61, 74, 87], 35) := by decide +kernel
theorem dX1_valueOf_36 : decode cX1_valueOf 36 = .ok (.aload_n 0, 1) := by decide +kernel
theorem dX1_valueOf_37 : decode cX1_valueOf 37 = .ok (.getfield 22, 3) := by decide +kernel
theorem dX1_valueOf_40 : decode cX1_valueOf 40 = .ok (.getfield 93, 3) := by decide +kernel
theorem dX1_valueOf_43 : decode cX1_valueOf 43 = .ok (.iload_n 2, 1) := by decide +kernel
theorem dX1_valueOf_44 : decode cX1_valueOf 44 = .ok (.iconst 2, 1) := by decide +kernel
theorem dX1_valueOf_45 : decode cX1_valueOf 45 = .ok (.invokevirtual 42, 3) := by decide +kernel
theorem dX1_valueOf_48 : decode cX1_valueOf 48 = .ok (.ireturn, 1) := by decide +kernel
theorem dX1_valueOf_49 : decode cX1_valueOf 49 = .ok (.aload_n 0, 1) := by decide +kernel
theorem dX1_valueOf_50 : decode cX1_valueOf 50 = .ok (.getfield 22, 3) := by decide +kernel
theorem dX1_valueOf_53 : decode cX1_valueOf 53 = .ok (.getfield 93, 3) := by decide +kernel
theorem dX1_valueOf_56 : decode cX1_valueOf 56 = .ok (.iload_n 2, 1) := by decide +kernel
theorem dX1_valueOf_57 : decode cX1_valueOf 57 = .ok (.iconst 3, 1) := by decide +kernel
theorem dX1_valueOf_58 : decode cX1_valueOf 58 = .ok (.invokevirtual 42, 3) := by decide +kernel
theorem dX1_valueOf_61 : decode cX1_valueOf 61 = .ok (.ireturn, 1) := by decide +kernel
theorem dX1_valueOf_62 : decode cX1_valueOf 62 = .ok (.aload_n 0, 1) := by decide +kernel
theorem dX1_valueOf_63 : decode cX1_valueOf 63 = .ok (.getfield 22, 3) := by decide +kernel
theorem dX1_valueOf_66 : decode cX1_valueOf 66 = .ok (.getfield 93, 3) := by decide +kernel
theorem dX1_valueOf_69 : decode cX1_valueOf 69 = .ok (.iload_n 2, 1) := by decide +kernel
theorem dX1_valueOf_70 : decode cX1_valueOf 70 = .ok (.iconst 0, 1) := by decide +kernel
theorem dX1_valueOf_71 : decode cX1_valueOf 71 = .ok (.invokevirtual 42, 3) := by decide +kernel
theorem dX1_valueOf_74 : decode cX1_valueOf 74 = .ok (.ireturn, 1) := by decide +kernel
theorem dX1_valueOf_75 : decode cX1_valueOf 75 = .ok (.aload_n 0, 1) := by decide +kernel
theorem dX1_valueOf_76 : decode cX1_valueOf 76 = .ok (.getfield 22, 3) := by decide +kernel
theorem dX1_valueOf_79 : decode cX1_valueOf 79 = .ok (.getfield 93, 3) := by decide +kernel
theorem dX1_valueOf_82 : decode cX1_valueOf 82 = .ok (.iload_n 2, 1) := by decide +kernel
theorem dX1_valueOf_83 : decode cX1_valueOf 83 = .ok (.iconst 1, 1) := by decide +kernel
theorem dX1_valueOf_84 : decode cX1_valueOf 84 = .ok (.invokevirtual 42, 3) := by decide +kernel
theorem dX1_valueOf_87 : decode cX1_valueOf 87 = .ok (.ireturn, 1) := by decide +kernel
theorem dX1_valueOf_88 : decode cX1_valueOf 88 = .ok (.iload_n 3, 1) := by decide +kernel
theorem dX1_valueOf_89 : decode cX1_valueOf 89 = .ok (.ireturn, 1) := by decide +kernel
theorem dX1_valueOf_90 : decode cX1_valueOf 90 = .ok (.iload_n 2, 1) := by decide +kernel
theorem dX1_valueOf_91 : decode cX1_valueOf 91 = .ok (.ifCond .lt 21, 3) := by decide +kernel
theorem dX1_valueOf_94 : decode cX1_valueOf 94 = .ok (.iload_n 2, 1) := by decide +kernel
theorem dX1_valueOf_95 : decode cX1_valueOf 95 = .ok (.aload_n 0, 1) := by decide +kernel
theorem dX1_valueOf_96 : decode cX1_valueOf 96 = .ok (.getfield 9, 3) := by decide +kernel
theorem dX1_valueOf_99 : decode cX1_valueOf 99 = .ok (.arraylength, 1) := by decide +kernel
theorem dX1_valueOf_100 : decode cX1_valueOf 100 = .ok (.if_icmp .ge 12, 3) := by decide +kernel
theorem dX1_valueOf_103 : decode cX1_valueOf 103 = .ok (.aload_n 0, 1) := by decide +kernel
theorem dX1_valueOf_104 : decode cX1_valueOf 104 = .ok (.getfield 9, 3) := by decide +kernel
theorem dX1_valueOf_107 : decode cX1_valueOf 107 = .ok (.iload_n 2, 1) := by decide +kernel
theorem dX1_valueOf_108 : decode cX1_valueOf 108 = .ok (.iaload, 1) := by decide +kernel
theorem dX1_valueOf_109 : decode cX1_valueOf 109 = .ok (.goto 4, 3) := by decide +kernel
theorem dX1_valueOf_112 : decode cX1_valueOf 112 = .ok (.iconst 0, 1) := by decide +kernel
theorem dX1_valueOf_113 : decode cX1_valueOf 113 = .ok (.ireturn, 1) := by decide +kernel
theorem dX2_init_0 : decode cX2_init 0 = .ok (.aload_n 0, 1) := by decide +kernel
theorem dX2_init_1 : decode cX2_init 1 = .ok (.invokespecial 3, 3) := by decide +kernel
theorem dX2_init_4 : decode cX2_init 4 = .ok (.aload_n 0, 1) := by decide +kernel
theorem dX2_init_5 : decode cX2_init 5 = .ok (.new 9, 3) := by decide +kernel
theorem dX2_init_8 : decode cX2_init 8 = .ok (.dup, 1) := by decide +kernel
theorem dX2_init_9 : decode cX2_init 9 = .ok (.invokespecial 11, 3) := by decide +kernel
theorem dX2_init_12 : decode cX2_init 12 = .ok (.putfield 12, 3) := by decide +kernel
theorem dX2_init_15 : decode cX2_init 15 = .ok (.aload_n 0, 1) := by decide +kernel
theorem dX2_init_16 : decode cX2_init 16 = .ok (.new 9, 3) := by decide +kernel
theorem dX2_init_19 : decode cX2_init 19 = .ok (.dup, 1) := by decide +kernel
theorem dX2_init_20 : decode cX2_init 20 = .ok (.invokespecial 11, 3) := by decide +kernel
theorem dX2_init_23 : decode cX2_init 23 = .ok (.putfield 18, 3) := by decide +kernel
theorem dX2_init_26 : decode cX2_init 26 = .ok (.aload_n 0, 1) := by decide +kernel
theorem dX2_init_27 : decode cX2_init 27 = .ok (.new 9, 3) := by decide +kernel
theorem dX2_init_30 : decode cX2_init 30 = .ok (.dup, 1) := by decide +kernel
theorem dX2_init_31 : decode cX2_init 31 = .ok (.invokespecial 11, 3) := by decide +kernel
theorem dX2_init_34 : decode cX2_init 34 = .ok (.putfield 21, 3) := by decide +kernel
theorem dX2_init_37 : decode cX2_init 37 = .ok (.aload_n 0, 1) := by decide +kernel
theorem dX2_init_38 : decode cX2_init 38 = .ok (.new 9, 3) := by decide +kernel
theorem dX2_init_41 : decode cX2_init 41 = .ok (.dup, 1) := by decide +kernel
theorem dX2_init_42 : decode cX2_init 42 = .ok (.invokespecial 11, 3) := by decide +kernel
theorem dX2_init_45 : decode cX2_init 45 = .ok (.putfield 24, 3) := by decide +kernel
theorem dX2_init_48 : decode cX2_init 48 = .ok (.aload_n 0, 1) := by decide +kernel
theorem dX2_init_49 : decode cX2_init 49 = .ok (.new 9, 3) := by decide +kernel
theorem dX2_init_52 : decode cX2_init 52 = .ok (.dup, 1) := by decide +kernel
theorem dX2_init_53 : decode cX2_init 53 = .ok (.invokespecial 11, 3) := by decide +kernel
theorem dX2_init_56 : decode cX2_init 56 = .ok (.putfield 27, 3) := by decide +kernel
theorem dX2_init_59 : decode cX2_init 59 = .ok (.aload_n 0, 1) := by decide +kernel
theorem dX2_init_60 : decode cX2_init 60 = .ok (.new 9, 3) := by decide +kernel
theorem dX2_init_63 : decode cX2_init 63 = .ok (.dup, 1) := by decide +kernel
theorem dX2_init_64 : decode cX2_init 64 = .ok (.invokespecial 11, 3) := by decide +kernel
theorem dX2_init_67 : decode cX2_init 67 = .ok (.putfield 30, 3) := by decide +kernel
theorem dX2_init_70 : decode cX2_init 70 = .ok (.aload_n 0, 1) := by decide +kernel
theorem dX2_init_71 : decode cX2_init 71 = .ok (.new 9, 3) := by decide +kernel
theorem dX2_init_74 : decode cX2_init 74 = .ok (.dup, 1) := by decide +kernel
theorem dX2_init_75 : decode cX2_init 75 = .ok (.invokespecial 11, 3) := by decide +kernel
theorem dX2_init_78 : decode cX2_init 78 = .ok (.putfield 33, 3) := by decide +kernel
theorem dX2_init_81 : decode cX2_init 81 = .ok (.aload_n 0, 1) := by decide +kernel
theorem dX2_init_82 : decode cX2_init 82 = .ok (.new 36, 3) := by decide +kernel
theorem dX2_init_85 : decode cX2_init 85 = .ok (.dup, 1) := by decide +kernel
theorem dX2_init_86 : decode cX2_init 86 = .ok (.sipush 169, 3) := by decide +kernel
theorem dX2_init_89 : decode cX2_init 89 = .ok (.bipush 6, 2) := by decide +kernel
theorem dX2_init_91 : decode cX2_init 91 = .ok (.invokespecial 38, 3) := by decide +kernel
theorem dX2_init_94 : decode cX2_init 94 = .ok (.putfield 41, 3) := by decide +kernel
theorem dX2_init_97 : decode cX2_init 97 = .ok (.aload_n 0, 1) := by decide +kernel
theorem dX2_init_98 : decode cX2_init 98 = .ok (.sipush 169, 3) := by decide +kernel
theorem dX2_init_101 : decode cX2_init 101 = .ok (.newarray .int, 2) := by decide +kernel
theorem dX2_init_103 : decode cX2_init 103 = .ok (.putfield 45, 3) := by decide +kernel
theorem dX2_init_106 : decode cX2_init 106 = .ok (.aload_n 0, 1) := by decide +kernel
theorem dX2_init_107 : decode cX2_init 107 = .ok (.iconst 0, 1) := by decide +kernel
theorem dX2_init_108 : decode cX2_init 108 = .ok (.putfield 49, 3) := by decide +kernel
theorem dX2_init_111 : decode cX2_init 111 = .ok (.aload_n 0, 1) := by decide +kernel
theorem dX2_init_112 : decode cX2_init 112 = .ok (.iconst 0, 1) := by decide +kernel
theorem dX2_init_113 : decode cX2_init 113 = .ok (.putfield 53, 3) := by decide +kernel
theorem dX2_init_116 : decode cX2_init 116 = .ok (.aload_n 0, 1) := by decide +kernel
theorem dX2_init_117 : decode cX2_init 117 = .ok (.iconst 0, 1) := by decide +kernel
theorem dX2_init_118 : decode cX2_init 118 = .ok (.putfield 56, 3) := by decide +kernel
theorem dX2_init_121 : decode cX2_init 121 = .ok (.aload_n 0, 1) := by decide +kernel
theorem dX2_init_122 : decode cX2_init 122 = .ok (.iconst 0, 1) := by decide +kernel
theorem dX2_init_123 : decode cX2_init 123 = .ok (.putfield 59, 3) := by decide +kernel
theorem dX2_init_126 : decode cX2_init 126 = .ok (.aconst_null, 1) := by decide +kernel
theorem dX2_init_127 : decode cX2_init 127 = .ok (.astore_n 1, 1) := by decide +kernel
theorem dX2_init_128 : decode cX2_init 128 = .ok (.bipush 11, 2) := by decide +kernel
theorem dX2_init_130 : decode cX2_init 130 = .ok (.istore_n 2, 1) := by decide +kernel
theorem dX2_init_131 : decode cX2_init 131 = .ok (.iload_n 2, 1) := by decide +kernel
theorem dX2_init_132 : decode cX2_init 132 = .ok (.ifCond .lt 19, 3) := by decide +kernel
theorem dX2_init_135 : decode cX2_init 135 = .ok (.new 62, 3) := by decide +kernel
theorem dX2_init_138 : decode cX2_init 138 = .ok (.dup, 1) := by decide +kernel
theorem dX2_init_139 : decode cX2_init 139 = .ok (.iload_n 2, 1) := by decide +kernel
theorem dX2_init_140 : decode cX2_init 140 = .ok (.aload_n 1, 1) := by decide +kernel
theorem dX2_init_141 : decode cX2_init 141 = .ok (.invokespecial 64, 3) := by decide +kernel
theorem dX2_init_144 : decode cX2_init 144 = .ok (.astore_n 1, 1) := by decide +kernel
theorem dX2_init_145 : decode cX2_init 145 = .ok (.iinc 2 (-1), 3) := by decide +kernel
theorem dX2_init_148 : decode cX2_init 148 = .ok (.goto (-17), 3) := by decide +kernel
theorem dX2_init_151 : decode cX2_init 151 = .ok (.aload_n 0, 1) := by decide +kernel
theorem dX2_init_152 : decode cX2_init 152 = .ok (.aload_n 1, 1) := by decide +kernel
theorem dX2_init_153 : decode cX2_init 153 = .ok (.putfield 67, 3) := by decide +kernel
theorem dX2_init_156 : decode cX2_init 156 = .ok (.return_, 1) := by decide +kernel
theorem dX2_build_0 : decode cX2_build 0 = .ok (.aload_n 0, 1) := by decide +kernel
theorem dX2_build_1 : decode cX2_build 1 = .ok (.aload_n 1, 1) := by decide +kernel
theorem dX2_build_2 : decode cX2_build 2 = .ok (.iconst 0, 1) := by decide +kernel
theorem dX2_build_3 : decode cX2_build 3 = .ok (.invokevirtual 71, 3) := by decide +kernel
theorem dX2_build_6 : decode cX2_build 6 = .ok (.putfield 49, 3) := by decide +kernel
theorem dX2_build_9 : decode cX2_build 9 = .ok (.aload_n 0, 1) := by decide +kernel
theorem dX2_build_10 : decode cX2_build 10 = .ok (.aload_n 1, 1) := by decide +kernel
theorem dX2_build_11 : decode cX2_build 11 = .ok (.iconst 1, 1) := by decide +kernel
theorem dX2_build_12 : decode cX2_build 12 = .ok (.invokevirtual 71, 3) := by decide +kernel
theorem dX2_build_15 : decode cX2_build 15 = .ok (.putfield 53, 3) := by decide +kernel
theorem dX2_build_18 : decode cX2_build 18 = .ok (.aload_n 0, 1) := by decide +kernel
theorem dX2_build_19 : decode cX2_build 19 = .ok (.getfield 67, 3) := by decide +kernel
theorem dX2_build_22 : decode cX2_build 22 = .ok (.astore_n 2, 1) := by decide +kernel
theorem dX2_build_23 : decode cX2_build 23 = .ok (.aload_n 2, 1) := by decide +kernel
theorem dX2_build_24 : decode cX2_build 24 = .ok (.ifnull 16, 3) := by decide +kernel
theorem dX2_build_27 : decode cX2_build 27 = .ok (.aload_n 2, 1) := by decide +kernel
theorem dX2_build_28 : decode cX2_build 28 = .ok (.aload_n 1, 1) := by decide +kernel
theorem dX2_build_29 : decode cX2_build 29 = .ok (.invokevirtual 77, 3) := by decide +kernel
theorem dX2_build_32 : decode cX2_build 32 = .ok (.aload_n 2, 1) := by decide +kernel
theorem dX2_build_33 : decode cX2_build 33 = .ok (.getfield 81, 3) := by decide +kernel
theorem dX2_build_36 : decode cX2_build 36 = .ok (.astore_n 2, 1) := by decide +kernel
theorem dX2_build_37 : decode cX2_build 37 = .ok (.goto (-14), 3) := by decide +kernel
theorem dX2_build_40 : decode cX2_build 40 = .ok (.return_, 1) := by decide +kernel
theorem dX2_search_0 : decode cX2_search 0 = .ok (.aload_n 0, 1) := by decide +kernel
theorem dX2_search_1 : decode cX2_search 1 = .ok (.getfield 41, 3) := by decide +kernel
theorem dX2_search_4 : decode cX2_search 4 = .ok (.iconst 0, 1) := by decide +kernel
theorem dX2_search_5 : decode cX2_search 5 = .ok (.invokevirtual 84, 3) := by decide +kernel
theorem dX2_search_8 : decode cX2_search 8 = .ok (.aload_n 0, 1) := by decide +kernel
theorem dX2_search_9 : decode cX2_search 9 = .ok (.iconst 0, 1) := by decide +kernel
theorem dX2_search_10 : decode cX2_search 10 = .ok (.putfield 59, 3) := by decide +kernel
theorem dX2_search_13 : decode cX2_search 13 = .ok (.aload_n 0, 1) := by decide +kernel
theorem dX2_search_14 : decode cX2_search 14 = .ok (.aload_n 1, 1) := by decide +kernel
theorem dX2_search_15 : decode cX2_search 15 = .ok (.iload_n 2, 1) := by decide +kernel
theorem dX2_search_16 : decode cX2_search 16 = .ok (.iload_n 3, 1) := by decide +kernel
theorem dX2_search_17 : decode cX2_search 17 = .ok (.invokevirtual 88, 3) := by decide +kernel
theorem dX2_search_20 : decode cX2_search 20 = .ok (.putfield 56, 3) := by decide +kernel
theorem dX2_search_23 : decode cX2_search 23 = .ok (.aload_n 0, 1) := by decide +kernel
theorem dX2_search_24 : decode cX2_search 24 = .ok (.getfield 12, 3) := by decide +kernel
theorem dX2_search_27 : decode cX2_search 27 = .ok (.aload_n 1, 1) := by decide +kernel
theorem dX2_search_28 : decode cX2_search 28 = .ok (.iload_n 2, 1) := by decide +kernel
theorem dX2_search_29 : decode cX2_search 29 = .ok (.iconst 0, 1) := by decide +kernel
theorem dX2_search_30 : decode cX2_search 30 = .ok (.invokevirtual 88, 3) := by decide +kernel
theorem dX2_search_33 : decode cX2_search 33 = .ok (.aload_n 1, 1) := by decide +kernel
theorem dX2_search_34 : decode cX2_search 34 = .ok (.iload_n 2, 1) := by decide +kernel
theorem dX2_search_35 : decode cX2_search 35 = .ok (.iconst 1, 1) := by decide +kernel
theorem dX2_search_36 : decode cX2_search 36 = .ok (.invokevirtual 88, 3) := by decide +kernel
theorem dX2_search_39 : decode cX2_search 39 = .ok (.invokevirtual 92, 3) := by decide +kernel
theorem dX2_search_42 : decode cX2_search 42 = .ok (.aload_n 0, 1) := by decide +kernel
theorem dX2_search_43 : decode cX2_search 43 = .ok (.getfield 18, 3) := by decide +kernel
theorem dX2_search_46 : decode cX2_search 46 = .ok (.iload 4, 2) := by decide +kernel
theorem dX2_search_48 : decode cX2_search 48 = .ok (.iload 5, 2) := by decide +kernel
theorem dX2_search_50 : decode cX2_search 50 = .ok (.invokevirtual 92, 3) := by decide +kernel
theorem dX2_search_53 : decode cX2_search 53 = .ok (.aload_n 0, 1) := by decide +kernel
theorem dX2_search_54 : decode cX2_search 54 = .ok (.invokevirtual 95, 3) := by decide +kernel
theorem dX2_search_57 : decode cX2_search 57 = .ok (.aload_n 0, 1) := by decide +kernel
theorem dX2_search_58 : decode cX2_search 58 = .ok (.getfield 41, 3) := by decide +kernel
theorem dX2_search_61 : decode cX2_search 61 = .ok (.invokevirtual 98, 3) := by decide +kernel
theorem dX2_search_64 : decode cX2_search 64 = .ok (.ifCond .ne 7, 3) := by decide +kernel
theorem dX2_search_67 : decode cX2_search 67 = .ok (.iconst 1, 1) := by decide +kernel
theorem dX2_search_68 : decode cX2_search 68 = .ok (.goto 4, 3) := by decide +kernel
theorem dX2_search_71 : decode cX2_search 71 = .ok (.iconst 0, 1) := by decide +kernel
theorem dX2_search_72 : decode cX2_search 72 = .ok (.istore 6, 2) := by decide +kernel
theorem dX2_search_74 : decode cX2_search 74 = .ok (.aload_n 0, 1) := by decide +kernel
theorem dX2_search_75 : decode cX2_search 75 = .ok (.getfield 49, 3) := by decide +kernel
theorem dX2_search_78 : decode cX2_search 78 = .ok (.ifCond .le 7, 3) := by decide +kernel
theorem dX2_search_81 : decode cX2_search 81 = .ok (.aload_n 0, 1) := by decide +kernel
theorem dX2_search_82 : decode cX2_search 82 = .ok (.invokevirtual 102, 3) := by decide +kernel
theorem dX2_search_85 : decode cX2_search 85 = .ok (.aload_n 0, 1) := by decide +kernel
theorem dX2_search_86 : decode cX2_search 86 = .ok (.getfield 49, 3) := by decide +kernel
theorem dX2_search_89 : decode cX2_search 89 = .ok (.iconst 1, 1) := by decide +kernel
theorem dX2_search_90 : decode cX2_search 90 = .ok (.if_icmp .le 7, 3) := by decide +kernel
theorem dX2_search_93 : decode cX2_search 93 = .ok (.aload_n 0, 1) := by decide +kernel
theorem dX2_search_94 : decode cX2_search 94 = .ok (.invokevirtual 105, 3) := by decide +kernel
theorem dX2_search_97 : decode cX2_search 97 = .ok (.aload_n 0, 1) := by decide +kernel
theorem dX2_search_98 : decode cX2_search 98 = .ok (.getfield 53, 3) := by decide +kernel
theorem dX2_search_101 : decode cX2_search 101 = .ok (.ifCond .le 12, 3) := by decide +kernel
theorem dX2_search_104 : decode cX2_search 104 = .ok (.iload 6, 2) := by decide +kernel
theorem dX2_search_106 : decode cX2_search 106 = .ok (.ifCond .eq 7, 3) := by decide +kernel
theorem dX2_search_109 : decode cX2_search 109 = .ok (.aload_n 0, 1) := by decide +kernel
theorem dX2_search_110 : decode cX2_search 110 = .ok (.invokevirtual 108, 3) := by decide +kernel
theorem dX2_search_113 : decode cX2_search 113 = .ok (.aload_n 0, 1) := by decide +kernel
theorem dX2_search_114 : decode cX2_search 114 = .ok (.getfield 59, 3) := by decide +kernel
theorem dX2_search_117 : decode cX2_search 117 = .ok (.ireturn, 1) := by decide +kernel
theorem dX2_searchSight_0 : decode cX2_searchSight 0 = .ok (.aload_n 0, 1) := by decide +kernel
theorem dX2_searchSight_1 : decode cX2_searchSight 1 = .ok (.getfield 12, 3) := by decide +kernel
theorem dX2_searchSight_4 : decode cX2_searchSight 4 = .ok (.aload_n 0, 1) := by decide +kernel
theorem dX2_searchSight_5 : decode cX2_searchSight 5 = .ok (.getfield 18, 3) := by decide +kernel
theorem dX2_searchSight_8 : decode cX2_searchSight 8 = .ok (.invokevirtual 111, 3) := by decide +kernel
theorem dX2_searchSight_11 : decode cX2_searchSight 11 = .ok (.istore_n 1, 1) := by decide +kernel
theorem dX2_searchSight_12 : decode cX2_searchSight 12 = .ok (.aload_n 0, 1) := by decide +kernel
theorem dX2_searchSight_13 : decode cX2_searchSight 13 = .ok (.iconst 0, 1) := by decide +kernel
theorem dX2_searchSight_14 : decode cX2_searchSight 14 = .ok (.iconst (-1), 1) := by decide +kernel
theorem dX2_searchSight_15 : decode cX2_searchSight 15 = .ok (.iconst (-1), 1) := by decide +kernel
theorem dX2_searchSight_16 : decode cX2_searchSight 16 = .ok (.iload_n 1, 1) := by decide +kernel
theorem dX2_searchSight_17 : decode cX2_searchSight 17 = .ok (.iconst 0, 1) := by decide +kernel
theorem dX2_searchSight_18 : decode cX2_searchSight 18 = .ok (.aload_n 0, 1) := by decide +kernel
theorem dX2_searchSight_19 : decode cX2_searchSight 19 = .ok (.aload_n 0, 1) := by decide +kernel
theorem dX2_searchSight_20 : decode cX2_searchSight 20 = .ok (.iload_n 1, 1) := by decide +kernel
theorem dX2_searchSight_21 : decode cX2_searchSight 21 = .ok (.invokevirtual 115, 3) := by decide +kernel
theorem dX2_searchSight_24 : decode cX2_searchSight 24 = .ok (.aload_n 0, 1) := by decide +kernel
theorem dX2_searchSight_25 : decode cX2_searchSight 25 = .ok (.getfield 12, 3) := by decide +kernel
theorem dX2_searchSight_28 : decode cX2_searchSight 28 = .ok (.aload_n 0, 1) := by decide +kernel
theorem dX2_searchSight_29 : decode cX2_searchSight 29 = .ok (.getfield 18, 3) := by decide +kernel
theorem dX2_searchSight_32 : decode cX2_searchSight 32 = .ok (.invokevirtual 118, 3) := by decide +kernel
theorem dX2_searchSight_35 : decode cX2_searchSight 35 = .ok (.invokevirtual 122, 3) := by decide +kernel
theorem dX2_searchSight_38 : decode cX2_searchSight 38 = .ok (.return_, 1) := by decide +kernel
theorem dX2_searchMirrors_0 : decode cX2_searchMirrors 0 = .ok (.aload_n 0, 1) := by decide +kernel
theorem dX2_searchMirrors_1 : decode cX2_searchMirrors 1 = .ok (.getfield 67, 3) := by decide +kernel
theorem dX2_searchMirrors_4 : decode cX2_searchMirrors 4 = .ok (.astore_n 1, 1) := by decide +kernel
theorem dX2_searchMirrors_5 : decode cX2_searchMirrors 5 = .ok (.aload_n 1, 1) := by decide +kernel
theorem dX2_searchMirrors_6 : decode cX2_searchMirrors 6 = .ok (.ifnull 119, 3) := by decide +kernel
theorem dX2_searchMirrors_9 : decode cX2_searchMirrors 9 = .ok (.aload_n 0, 1) := by decide +kernel
theorem dX2_searchMirrors_10 : decode cX2_searchMirrors 10 = .ok (.getfield 21, 3) := by decide +kernel
theorem dX2_searchMirrors_13 : decode cX2_searchMirrors 13 = .ok (.aload_n 0, 1) := by decide +kernel
theorem dX2_searchMirrors_14 : decode cX2_searchMirrors 14 = .ok (.getfield 12, 3) := by decide +kernel
theorem dX2_searchMirrors_17 : decode cX2_searchMirrors 17 = .ok (.aload_n 1, 1) := by decide +kernel
theorem dX2_searchMirrors_18 : decode cX2_searchMirrors 18 = .ok (.invokevirtual 126, 3) := by decide +kernel
theorem dX2_searchMirrors_21 : decode cX2_searchMirrors 21 = .ok (.aload_n 1, 1) := by decide +kernel
theorem dX2_searchMirrors_22 : decode cX2_searchMirrors 22 = .ok (.getfield 130, 3) := by decide +kernel
theorem dX2_searchMirrors_25 : decode cX2_searchMirrors 25 = .ok (.ifCond .eq 92, 3) := by decide +kernel
theorem dX2_searchMirrors_28 : decode cX2_searchMirrors 28 = .ok (.aload_n 1, 1) := by decide +kernel
theorem dX2_searchMirrors_29 : decode cX2_searchMirrors 29 = .ok (.aload_n 0, 1) := by decide +kernel
theorem dX2_searchMirrors_30 : decode cX2_searchMirrors 30 = .ok (.getfield 21, 3) := by decide +kernel
theorem dX2_searchMirrors_33 : decode cX2_searchMirrors 33 = .ok (.aload_n 0, 1) := by decide +kernel
theorem dX2_searchMirrors_34 : decode cX2_searchMirrors 34 = .ok (.getfield 18, 3) := by decide +kernel
theorem dX2_searchMirrors_37 : decode cX2_searchMirrors 37 = .ok (.aload_n 0, 1) := by decide +kernel
theorem dX2_searchMirrors_38 : decode cX2_searchMirrors 38 = .ok (.getfield 27, 3) := by decide +kernel
theorem dX2_searchMirrors_41 : decode cX2_searchMirrors 41 = .ok (.invokevirtual 134, 3) := by decide +kernel
theorem dX2_searchMirrors_44 : decode cX2_searchMirrors 44 = .ok (.ifCond .ne 6, 3) := by decide +kernel
theorem dX2_searchMirrors_47 : decode cX2_searchMirrors 47 = .ok (.goto 70, 3) := by decide +kernel
theorem dX2_searchMirrors_50 : decode cX2_searchMirrors 50 = .ok (.aload_n 0, 1) := by decide +kernel
theorem dX2_searchMirrors_51 : decode cX2_searchMirrors 51 = .ok (.getfield 21, 3) := by decide +kernel
theorem dX2_searchMirrors_54 : decode cX2_searchMirrors 54 = .ok (.aload_n 0, 1) := by decide +kernel
theorem dX2_searchMirrors_55 : decode cX2_searchMirrors 55 = .ok (.getfield 18, 3) := by decide +kernel
theorem dX2_searchMirrors_58 : decode cX2_searchMirrors 58 = .ok (.invokevirtual 111, 3) := by decide +kernel
theorem dX2_searchMirrors_61 : decode cX2_searchMirrors 61 = .ok (.istore_n 2, 1) := by decide +kernel
theorem dX2_searchMirrors_62 : decode cX2_searchMirrors 62 = .ok (.aload_n 0, 1) := by decide +kernel
theorem dX2_searchMirrors_63 : decode cX2_searchMirrors 63 = .ok (.iload_n 2, 1) := by decide +kernel
theorem dX2_searchMirrors_64 : decode cX2_searchMirrors 64 = .ok (.invokevirtual 115, 3) := by decide +kernel
theorem dX2_searchMirrors_67 : decode cX2_searchMirrors 67 = .ok (.aload_n 1, 1) := by decide +kernel
theorem dX2_searchMirrors_68 : decode cX2_searchMirrors 68 = .ok (.getfield 138, 3) := by decide +kernel
theorem dX2_searchMirrors_71 : decode cX2_searchMirrors 71 = .ok (.imul, 1) := by decide +kernel
theorem dX2_searchMirrors_72 : decode cX2_searchMirrors 72 = .ok (.bipush 100, 2) := by decide +kernel
theorem dX2_searchMirrors_74 : decode cX2_searchMirrors 74 = .ok (.idiv, 1) := by decide +kernel
theorem dX2_searchMirrors_75 : decode cX2_searchMirrors 75 = .ok (.istore_n 3, 1) := by decide +kernel
theorem dX2_searchMirrors_76 : decode cX2_searchMirrors 76 = .ok (.aload_n 0, 1) := by decide +kernel
theorem dX2_searchMirrors_77 : decode cX2_searchMirrors 77 = .ok (.iload_n 3, 1) := by decide +kernel
theorem dX2_searchMirrors_78 : decode cX2_searchMirrors 78 = .ok (.aload_n 0, 1) := by decide +kernel
theorem dX2_searchMirrors_79 : decode cX2_searchMirrors 79 = .ok (.getfield 12, 3) := by decide +kernel
theorem dX2_searchMirrors_82 : decode cX2_searchMirrors 82 = .ok (.aload_n 0, 1) := by decide +kernel
theorem dX2_searchMirrors_83 : decode cX2_searchMirrors 83 = .ok (.getfield 27, 3) := by decide +kernel
theorem dX2_searchMirrors_86 : decode cX2_searchMirrors 86 = .ok (.invokevirtual 118, 3) := by decide +kernel
theorem dX2_searchMirrors_89 : decode cX2_searchMirrors 89 = .ok (.istore_n 3, 1) := by decide +kernel
theorem dX2_searchMirrors_90 : decode cX2_searchMirrors 90 = .ok (.aload_n 0, 1) := by decide +kernel
theorem dX2_searchMirrors_91 : decode cX2_searchMirrors 91 = .ok (.iload_n 3, 1) := by decide +kernel
theorem dX2_searchMirrors_92 : decode cX2_searchMirrors 92 = .ok (.aload_n 0, 1) := by decide +kernel
theorem dX2_searchMirrors_93 : decode cX2_searchMirrors 93 = .ok (.getfield 27, 3) := by decide +kernel
theorem dX2_searchMirrors_96 : decode cX2_searchMirrors 96 = .ok (.aload_n 0, 1) := by decide +kernel
theorem dX2_searchMirrors_97 : decode cX2_searchMirrors 97 = .ok (.getfield 18, 3) := by decide +kernel
theorem dX2_searchMirrors_100 : decode cX2_searchMirrors 100 = .ok (.invokevirtual 118, 3) := by decide +kernel
theorem dX2_searchMirrors_103 : decode cX2_searchMirrors 103 = .ok (.istore_n 3, 1) := by decide +kernel
theorem dX2_searchMirrors_104 : decode cX2_searchMirrors 104 = .ok (.aload_n 0, 1) := by decide +kernel
theorem dX2_searchMirrors_105 : decode cX2_searchMirrors 105 = .ok (.iconst 1, 1) := by decide +kernel
theorem dX2_searchMirrors_106 : decode cX2_searchMirrors 106 = .ok (.aload_n 1, 1) := by decide +kernel
theorem dX2_searchMirrors_107 : decode cX2_searchMirrors 107 = .ok (.getfield 141, 3) := by decide +kernel
theorem dX2_searchMirrors_110 : decode cX2_searchMirrors 110 = .ok (.iconst (-1), 1) := by decide +kernel
theorem dX2_searchMirrors_111 : decode cX2_searchMirrors 111 = .ok (.iload_n 2, 1) := by decide +kernel
theorem dX2_searchMirrors_112 : decode cX2_searchMirrors 112 = .ok (.iconst 0, 1) := by decide +kernel
theorem dX2_searchMirrors_113 : decode cX2_searchMirrors 113 = .ok (.iload_n 3, 1) := by decide +kernel
theorem dX2_searchMirrors_114 : decode cX2_searchMirrors 114 = .ok (.invokevirtual 122, 3) := by decide +kernel
theorem dX2_searchMirrors_117 : decode cX2_searchMirrors 117 = .ok (.aload_n 1, 1) := by decide +kernel
theorem dX2_searchMirrors_118 : decode cX2_searchMirrors 118 = .ok (.getfield 81, 3) := by decide +kernel
theorem dX2_searchMirrors_121 : decode cX2_searchMirrors 121 = .ok (.astore_n 1, 1) := by decide +kernel
theorem dX2_searchMirrors_122 : decode cX2_searchMirrors 122 = .ok (.goto (-117), 3) := by decide +kernel
theorem dX2_searchMirrors_125 : decode cX2_searchMirrors 125 = .ok (.return_, 1) := by decide +kernel
theorem dX2_searchPairs_0 : decode cX2_searchPairs 0 = .ok (.aload_n 0, 1) := by decide +kernel
theorem dX2_searchPairs_1 : decode cX2_searchPairs 1 = .ok (.getfield 67, 3) := by decide +kernel
theorem dX2_searchPairs_4 : decode cX2_searchPairs 4 = .ok (.astore_n 1, 1) := by decide +kernel
theorem dX2_searchPairs_5 : decode cX2_searchPairs 5 = .ok (.aload_n 1, 1) := by decide +kernel
theorem dX2_searchPairs_6 : decode cX2_searchPairs 6 = .ok (.ifnull 212, 3) := by decide +kernel
theorem dX2_searchPairs_9 : decode cX2_searchPairs 9 = .ok (.aload_n 0, 1) := by decide +kernel
theorem dX2_searchPairs_10 : decode cX2_searchPairs 10 = .ok (.getfield 21, 3) := by decide +kernel
theorem dX2_searchPairs_13 : decode cX2_searchPairs 13 = .ok (.aload_n 0, 1) := by decide +kernel
theorem dX2_searchPairs_14 : decode cX2_searchPairs 14 = .ok (.getfield 12, 3) := by decide +kernel
theorem dX2_searchPairs_17 : decode cX2_searchPairs 17 = .ok (.aload_n 1, 1) := by decide +kernel
theorem dX2_searchPairs_18 : decode cX2_searchPairs 18 = .ok (.invokevirtual 126, 3) := by decide +kernel
theorem dX2_searchPairs_21 : decode cX2_searchPairs 21 = .ok (.aload_n 0, 1) := by decide +kernel
theorem dX2_searchPairs_22 : decode cX2_searchPairs 22 = .ok (.getfield 67, 3) := by decide +kernel
theorem dX2_searchPairs_25 : decode cX2_searchPairs 25 = .ok (.astore_n 2, 1) := by decide +kernel
theorem dX2_searchPairs_26 : decode cX2_searchPairs 26 = .ok (.aload_n 2, 1) := by decide +kernel
theorem dX2_searchPairs_27 : decode cX2_searchPairs 27 = .ok (.ifnull 183, 3) := by decide +kernel
theorem dX2_searchPairs_30 : decode cX2_searchPairs 30 = .ok (.aload_n 1, 1) := by decide +kernel
theorem dX2_searchPairs_31 : decode cX2_searchPairs 31 = .ok (.getfield 130, 3) := by decide +kernel
theorem dX2_searchPairs_34 : decode cX2_searchPairs 34 = .ok (.ifCond .eq 176, 3) := by decide +kernel
theorem dX2_searchPairs_37 : decode cX2_searchPairs 37 = .ok (.aload_n 0, 1) := by decide +kernel
theorem dX2_searchPairs_38 : decode cX2_searchPairs 38 = .ok (.getfield 24, 3) := by decide +kernel
theorem dX2_searchPairs_41 : decode cX2_searchPairs 41 = .ok (.aload_n 0, 1) := by decide +kernel
theorem dX2_searchPairs_42 : decode cX2_searchPairs 42 = .ok (.getfield 21, 3) := by decide +kernel
theorem dX2_searchPairs_45 : decode cX2_searchPairs 45 = .ok (.aload_n 2, 1) := by decide +kernel
theorem dX2_searchPairs_46 : decode cX2_searchPairs 46 = .ok (.invokevirtual 126, 3) := by decide +kernel
theorem dX2_searchPairs_49 : decode cX2_searchPairs 49 = .ok (.aload_n 2, 1) := by decide +kernel
theorem dX2_searchPairs_50 : decode cX2_searchPairs 50 = .ok (.aload_n 1, 1) := by decide +kernel
theorem dX2_searchPairs_51 : decode cX2_searchPairs 51 = .ok (.if_acmp .eq 151, 3) := by decide +kernel
theorem dX2_searchPairs_54 : decode cX2_searchPairs 54 = .ok (.aload_n 2, 1) := by decide +kernel
theorem dX2_searchPairs_55 : decode cX2_searchPairs 55 = .ok (.getfield 130, 3) := by decide +kernel
theorem dX2_searchPairs_58 : decode cX2_searchPairs 58 = .ok (.ifCond .eq 144, 3) := by decide +kernel
theorem dX2_searchPairs_61 : decode cX2_searchPairs 61 = .ok (.aload_n 2, 1) := by decide +kernel
theorem dX2_searchPairs_62 : decode cX2_searchPairs 62 = .ok (.aload_n 0, 1) := by decide +kernel
theorem dX2_searchPairs_63 : decode cX2_searchPairs 63 = .ok (.getfield 24, 3) := by decide +kernel
theorem dX2_searchPairs_66 : decode cX2_searchPairs 66 = .ok (.aload_n 0, 1) := by decide +kernel
theorem dX2_searchPairs_67 : decode cX2_searchPairs 67 = .ok (.getfield 18, 3) := by decide +kernel
theorem dX2_searchPairs_70 : decode cX2_searchPairs 70 = .ok (.aload_n 0, 1) := by decide +kernel
theorem dX2_searchPairs_71 : decode cX2_searchPairs 71 = .ok (.getfield 30, 3) := by decide +kernel
theorem dX2_searchPairs_74 : decode cX2_searchPairs 74 = .ok (.invokevirtual 134, 3) := by decide +kernel
theorem dX2_searchPairs_77 : decode cX2_searchPairs 77 = .ok (.ifCond .eq 125, 3) := by decide +kernel
theorem dX2_searchPairs_80 : decode cX2_searchPairs 80 = .ok (.aload_n 1, 1) := by decide +kernel
theorem dX2_searchPairs_81 : decode cX2_searchPairs 81 = .ok (.aload_n 0, 1) := by decide +kernel
theorem dX2_searchPairs_82 : decode cX2_searchPairs 82 = .ok (.getfield 21, 3) := by decide +kernel
theorem dX2_searchPairs_85 : decode cX2_searchPairs 85 = .ok (.aload_n 0, 1) := by decide +kernel
theorem dX2_searchPairs_86 : decode cX2_searchPairs 86 = .ok (.getfield 30, 3) := by decide +kernel
theorem dX2_searchPairs_89 : decode cX2_searchPairs 89 = .ok (.aload_n 0, 1) := by decide +kernel
theorem dX2_searchPairs_90 : decode cX2_searchPairs 90 = .ok (.getfield 27, 3) := by decide +kernel
theorem dX2_searchPairs_93 : decode cX2_searchPairs 93 = .ok (.invokevirtual 134, 3) := by decide +kernel
theorem dX2_searchPairs_96 : decode cX2_searchPairs 96 = .ok (.ifCond .ne 6, 3) := by decide +kernel
theorem dX2_searchPairs_99 : decode cX2_searchPairs 99 = .ok (.goto 103, 3) := by decide +kernel
theorem dX2_searchPairs_102 : decode cX2_searchPairs 102 = .ok (.aload_n 0, 1) := by decide +kernel
theorem dX2_searchPairs_103 : decode cX2_searchPairs 103 = .ok (.getfield 24, 3) := by decide +kernel
theorem dX2_searchPairs_106 : decode cX2_searchPairs 106 = .ok (.aload_n 0, 1) := by decide +kernel
theorem dX2_searchPairs_107 : decode cX2_searchPairs 107 = .ok (.getfield 18, 3) := by decide +kernel
theorem dX2_searchPairs_110 : decode cX2_searchPairs 110 = .ok (.invokevirtual 111, 3) := by decide +kernel
theorem dX2_searchPairs_113 : decode cX2_searchPairs 113 = .ok (.istore_n 3, 1) := by decide +kernel
theorem dX2_searchPairs_114 : decode cX2_searchPairs 114 = .ok (.aload_n 0, 1) := by decide +kernel
theorem dX2_searchPairs_115 : decode cX2_searchPairs 115 = .ok (.iload_n 3, 1) := by decide +kernel
theorem dX2_searchPairs_116 : decode cX2_searchPairs 116 = .ok (.invokevirtual 115, 3) := by decide +kernel
theorem dX2_searchPairs_119 : decode cX2_searchPairs 119 = .ok (.aload_n 1, 1) := by decide +kernel
theorem dX2_searchPairs_120 : decode cX2_searchPairs 120 = .ok (.getfield 138, 3) := by decide +kernel
theorem dX2_searchPairs_123 : decode cX2_searchPairs 123 = .ok (.imul, 1) := by decide +kernel
theorem dX2_searchPairs_124 : decode cX2_searchPairs 124 = .ok (.bipush 100, 2) := by decide +kernel
theorem dX2_searchPairs_126 : decode cX2_searchPairs 126 = .ok (.idiv, 1) := by decide +kernel
theorem dX2_searchPairs_127 : decode cX2_searchPairs 127 = .ok (.aload_n 2, 1) := by decide +kernel
theorem dX2_searchPairs_128 : decode cX2_searchPairs 128 = .ok (.getfield 138, 3) := by decide +kernel
theorem dX2_searchPairs_131 : decode cX2_searchPairs 131 = .ok (.imul, 1) := by decide +kernel
theorem dX2_searchPairs_132 : decode cX2_searchPairs 132 = .ok (.bipush 100, 2) := by decide +kernel
theorem dX2_searchPairs_134 : decode cX2_searchPairs 134 = .ok (.idiv, 1) := by decide +kernel
theorem dX2_searchPairs_135 : decode cX2_searchPairs 135 = .ok (.istore 4, 2) := by decide +kernel
theorem dX2_searchPairs_137 : decode cX2_searchPairs 137 = .ok (.aload_n 0, 1) := by decide +kernel
theorem dX2_searchPairs_138 : decode cX2_searchPairs 138 = .ok (.iload 4, 2) := by decide +kernel
theorem dX2_searchPairs_140 : decode cX2_searchPairs 140 = .ok (.aload_n 0, 1) := by decide +kernel
theorem dX2_searchPairs_141 : decode cX2_searchPairs 141 = .ok (.getfield 12, 3) := by decide +kernel
theorem dX2_searchPairs_144 : decode cX2_searchPairs 144 = .ok (.aload_n 0, 1) := by decide +kernel
theorem dX2_searchPairs_145 : decode cX2_searchPairs 145 = .ok (.getfield 27, 3) := by decide +kernel
theorem dX2_searchPairs_148 : decode cX2_searchPairs 148 = .ok (.invokevirtual 118, 3) := by decide +kernel
theorem dX2_searchPairs_151 : decode cX2_searchPairs 151 = .ok (.istore 4, 2) := by decide +kernel
theorem dX2_searchPairs_153 : decode cX2_searchPairs 153 = .ok (.aload_n 0, 1) := by decide +kernel
theorem dX2_searchPairs_154 : decode cX2_searchPairs 154 = .ok (.iload 4, 2) := by decide +kernel
theorem dX2_searchPairs_156 : decode cX2_searchPairs 156 = .ok (.aload_n 0, 1) := by decide +kernel
theorem dX2_searchPairs_157 : decode cX2_searchPairs 157 = .ok (.getfield 27, 3) := by decide +kernel
theorem dX2_searchPairs_160 : decode cX2_searchPairs 160 = .ok (.aload_n 0, 1) := by decide +kernel
theorem dX2_searchPairs_161 : decode cX2_searchPairs 161 = .ok (.getfield 30, 3) := by decide +kernel
theorem dX2_searchPairs_164 : decode cX2_searchPairs 164 = .ok (.invokevirtual 118, 3) := by decide +kernel
theorem dX2_searchPairs_167 : decode cX2_searchPairs 167 = .ok (.istore 4, 2) := by decide +kernel
theorem dX2_searchPairs_169 : decode cX2_searchPairs 169 = .ok (.aload_n 0, 1) := by decide +kernel
theorem dX2_searchPairs_170 : decode cX2_searchPairs 170 = .ok (.iload 4, 2) := by decide +kernel
theorem dX2_searchPairs_172 : decode cX2_searchPairs 172 = .ok (.aload_n 0, 1) := by decide +kernel
theorem dX2_searchPairs_173 : decode cX2_searchPairs 173 = .ok (.getfield 30, 3) := by decide +kernel
theorem dX2_searchPairs_176 : decode cX2_searchPairs 176 = .ok (.aload_n 0, 1) := by decide +kernel
theorem dX2_searchPairs_177 : decode cX2_searchPairs 177 = .ok (.getfield 18, 3) := by decide +kernel
theorem dX2_searchPairs_180 : decode cX2_searchPairs 180 = .ok (.invokevirtual 118, 3) := by decide +kernel
theorem dX2_searchPairs_183 : decode cX2_searchPairs 183 = .ok (.istore 4, 2) := by decide +kernel
theorem dX2_searchPairs_185 : decode cX2_searchPairs 185 = .ok (.aload_n 0, 1) := by decide +kernel
theorem dX2_searchPairs_186 : decode cX2_searchPairs 186 = .ok (.iconst 2, 1) := by decide +kernel
theorem dX2_searchPairs_187 : decode cX2_searchPairs 187 = .ok (.aload_n 1, 1) := by decide +kernel
theorem dX2_searchPairs_188 : decode cX2_searchPairs 188 = .ok (.getfield 141, 3) := by decide +kernel
theorem dX2_searchPairs_191 : decode cX2_searchPairs 191 = .ok (.aload_n 2, 1) := by decide +kernel
theorem dX2_searchPairs_192 : decode cX2_searchPairs 192 = .ok (.getfield 141, 3) := by decide +kernel
theorem dX2_searchPairs_195 : decode cX2_searchPairs 195 = .ok (.iload_n 3, 1) := by decide +kernel
theorem dX2_searchPairs_196 : decode cX2_searchPairs 196 = .ok (.iconst 0, 1) := by decide +kernel
theorem dX2_searchPairs_197 : decode cX2_searchPairs 197 = .ok (.iload 4, 2) := by decide +kernel
theorem dX2_searchPairs_199 : decode cX2_searchPairs 199 = .ok (.invokevirtual 122, 3) := by decide +kernel
theorem dX2_searchPairs_202 : decode cX2_searchPairs 202 = .ok (.aload_n 2, 1) := by decide +kernel
theorem dX2_searchPairs_203 : decode cX2_searchPairs 203 = .ok (.getfield 81, 3) := by decide +kernel
theorem dX2_searchPairs_206 : decode cX2_searchPairs 206 = .ok (.astore_n 2, 1) := by decide +kernel
theorem dX2_searchPairs_207 : decode cX2_searchPairs 207 = .ok (.goto (-181), 3) := by decide +kernel
theorem dX2_searchPairs_210 : decode cX2_searchPairs 210 = .ok (.aload_n 1, 1) := by decide +kernel
theorem dX2_searchPairs_211 : decode cX2_searchPairs 211 = .ok (.getfield 81, 3) := by decide +kernel
theorem dX2_searchPairs_214 : decode cX2_searchPairs 214 = .ok (.astore_n 1, 1) := by decide +kernel
theorem dX2_searchPairs_215 : decode cX2_searchPairs 215 = .ok (.goto (-210), 3) := by decide +kernel
theorem dX2_searchPairs_218 : decode cX2_searchPairs 218 = .ok (.return_, 1) := by decide +kernel
theorem dX2_searchCorners_0 : decode cX2_searchCorners 0 = .ok (.aload_n 0, 1) := by decide +kernel
theorem dX2_searchCorners_1 : decode cX2_searchCorners 1 = .ok (.getfield 67, 3) := by decide +kernel
theorem dX2_searchCorners_4 : decode cX2_searchCorners 4 = .ok (.astore_n 1, 1) := by decide +kernel
theorem dX2_searchCorners_5 : decode cX2_searchCorners 5 = .ok (.aload_n 1, 1) := by decide +kernel
theorem dX2_searchCorners_6 : decode cX2_searchCorners 6 = .ok (.ifnull 160, 3) := by decide +kernel
theorem dX2_searchCorners_9 : decode cX2_searchCorners 9 = .ok (.iconst 0, 1) := by decide +kernel
theorem dX2_searchCorners_10 : decode cX2_searchCorners 10 = .ok (.istore_n 2, 1) := by decide +kernel
theorem dX2_searchCorners_11 : decode cX2_searchCorners 11 = .ok (.iload_n 2, 1) := by decide +kernel
theorem dX2_searchCorners_12 : decode cX2_searchCorners 12 = .ok (.iconst 2, 1) := by decide +kernel
theorem dX2_searchCorners_13 : decode cX2_searchCorners 13 = .ok (.if_icmp .ge 145, 3) := by decide +kernel
theorem dX2_searchCorners_16 : decode cX2_searchCorners 16 = .ok (.aload_n 1, 1) := by decide +kernel
theorem dX2_searchCorners_17 : decode cX2_searchCorners 17 = .ok (.iload_n 2, 1) := by decide +kernel
theorem dX2_searchCorners_18 : decode cX2_searchCorners 18 = .ok (.aload_n 0, 1) := by decide +kernel
theorem dX2_searchCorners_19 : decode cX2_searchCorners 19 = .ok (.getfield 27, 3) := by decide +kernel
theorem dX2_searchCorners_22 : decode cX2_searchCorners 22 = .ok (.invokevirtual 144, 3) := by decide +kernel
theorem dX2_searchCorners_25 : decode cX2_searchCorners 25 = .ok (.aload_n 0, 1) := by decide +kernel
theorem dX2_searchCorners_26 : decode cX2_searchCorners 26 = .ok (.getfield 12, 3) := by decide +kernel
theorem dX2_searchCorners_29 : decode cX2_searchCorners 29 = .ok (.aload_n 0, 1) := by decide +kernel
theorem dX2_searchCorners_30 : decode cX2_searchCorners 30 = .ok (.getfield 27, 3) := by decide +kernel
theorem dX2_searchCorners_33 : decode cX2_searchCorners 33 = .ok (.invokevirtual 111, 3) := by decide +kernel
theorem dX2_searchCorners_36 : decode cX2_searchCorners 36 = .ok (.istore_n 3, 1) := by decide +kernel
theorem dX2_searchCorners_37 : decode cX2_searchCorners 37 = .ok (.aload_n 0, 1) := by decide +kernel
theorem dX2_searchCorners_38 : decode cX2_searchCorners 38 = .ok (.getfield 27, 3) := by decide +kernel
theorem dX2_searchCorners_41 : decode cX2_searchCorners 41 = .ok (.aload_n 0, 1) := by decide +kernel
theorem dX2_searchCorners_42 : decode cX2_searchCorners 42 = .ok (.getfield 18, 3) := by decide +kernel
theorem dX2_searchCorners_45 : decode cX2_searchCorners 45 = .ok (.invokevirtual 111, 3) := by decide +kernel
theorem dX2_searchCorners_48 : decode cX2_searchCorners 48 = .ok (.istore 4, 2) := by decide +kernel
theorem dX2_searchCorners_50 : decode cX2_searchCorners 50 = .ok (.aload_n 1, 1) := by decide +kernel
theorem dX2_searchCorners_51 : decode cX2_searchCorners 51 = .ok (.getfield 130, 3) := by decide +kernel
theorem dX2_searchCorners_54 : decode cX2_searchCorners 54 = .ok (.ifCond .eq 98, 3) := by decide +kernel
theorem dX2_searchCorners_57 : decode cX2_searchCorners 57 = .ok (.iload_n 3, 1) := by decide +kernel
theorem dX2_searchCorners_58 : decode cX2_searchCorners 58 = .ok (.ifCond .eq 94, 3) := by decide +kernel
theorem dX2_searchCorners_61 : decode cX2_searchCorners 61 = .ok (.iload 4, 2) := by decide +kernel
theorem dX2_searchCorners_63 : decode cX2_searchCorners 63 = .ok (.ifCond .eq 89, 3) := by decide +kernel
theorem dX2_searchCorners_66 : decode cX2_searchCorners 66 = .ok (.aload_n 0, 1) := by decide +kernel
theorem dX2_searchCorners_67 : decode cX2_searchCorners 67 = .ok (.aload_n 1, 1) := by decide +kernel
theorem dX2_searchCorners_68 : decode cX2_searchCorners 68 = .ok (.invokevirtual 148, 3) := by decide +kernel
theorem dX2_searchCorners_71 : decode cX2_searchCorners 71 = .ok (.ifCond .eq 6, 3) := by decide +kernel
theorem dX2_searchCorners_74 : decode cX2_searchCorners 74 = .ok (.goto 78, 3) := by decide +kernel
theorem dX2_searchCorners_77 : decode cX2_searchCorners 77 = .ok (.aload_n 0, 1) := by decide +kernel
theorem dX2_searchCorners_78 : decode cX2_searchCorners 78 = .ok (.iload_n 3, 1) := by decide +kernel
theorem dX2_searchCorners_79 : decode cX2_searchCorners 79 = .ok (.iload 4, 2) := by decide +kernel
theorem dX2_searchCorners_81 : decode cX2_searchCorners 81 = .ok (.iadd, 1) := by decide +kernel
theorem dX2_searchCorners_82 : decode cX2_searchCorners 82 = .ok (.iconst 2, 1) := by decide +kernel
theorem dX2_searchCorners_83 : decode cX2_searchCorners 83 = .ok (.iload_n 3, 1) := by decide +kernel
theorem dX2_searchCorners_84 : decode cX2_searchCorners 84 = .ok (.iload 4, 2) := by decide +kernel
theorem dX2_searchCorners_86 : decode cX2_searchCorners 86 = .ok (.imul, 1) := by decide +kernel
theorem dX2_searchCorners_87 : decode cX2_searchCorners 87 = .ok (.invokestatic 152, 3) := by decide +kernel
theorem dX2_searchCorners_90 : decode cX2_searchCorners 90 = .ok (.imul, 1) := by decide +kernel
theorem dX2_searchCorners_91 : decode cX2_searchCorners 91 = .ok (.iadd, 1) := by decide +kernel
theorem dX2_searchCorners_92 : decode cX2_searchCorners 92 = .ok (.invokevirtual 115, 3) := by decide +kernel
theorem dX2_searchCorners_95 : decode cX2_searchCorners 95 = .ok (.aload_n 0, 1) := by decide +kernel
theorem dX2_searchCorners_96 : decode cX2_searchCorners 96 = .ok (.getfield 53, 3) := by decide +kernel
theorem dX2_searchCorners_99 : decode cX2_searchCorners 99 = .ok (.imul, 1) := by decide +kernel
theorem dX2_searchCorners_100 : decode cX2_searchCorners 100 = .ok (.bipush 100, 2) := by decide +kernel
theorem dX2_searchCorners_102 : decode cX2_searchCorners 102 = .ok (.idiv, 1) := by decide +kernel
theorem dX2_searchCorners_103 : decode cX2_searchCorners 103 = .ok (.istore 5, 2) := by decide +kernel
theorem dX2_searchCorners_105 : decode cX2_searchCorners 105 = .ok (.aload_n 0, 1) := by decide +kernel
theorem dX2_searchCorners_106 : decode cX2_searchCorners 106 = .ok (.iload 5, 2) := by decide +kernel
theorem dX2_searchCorners_108 : decode cX2_searchCorners 108 = .ok (.aload_n 0, 1) := by decide +kernel
theorem dX2_searchCorners_109 : decode cX2_searchCorners 109 = .ok (.getfield 12, 3) := by decide +kernel
theorem dX2_searchCorners_112 : decode cX2_searchCorners 112 = .ok (.aload_n 0, 1) := by decide +kernel
theorem dX2_searchCorners_113 : decode cX2_searchCorners 113 = .ok (.getfield 27, 3) := by decide +kernel
theorem dX2_searchCorners_116 : decode cX2_searchCorners 116 = .ok (.invokevirtual 118, 3) := by decide +kernel
theorem dX2_searchCorners_119 : decode cX2_searchCorners 119 = .ok (.istore 5, 2) := by decide +kernel
theorem dX2_searchCorners_121 : decode cX2_searchCorners 121 = .ok (.aload_n 0, 1) := by decide +kernel
theorem dX2_searchCorners_122 : decode cX2_searchCorners 122 = .ok (.iload 5, 2) := by decide +kernel
theorem dX2_searchCorners_124 : decode cX2_searchCorners 124 = .ok (.aload_n 0, 1) := by decide +kernel
theorem dX2_searchCorners_125 : decode cX2_searchCorners 125 = .ok (.getfield 27, 3) := by decide +kernel
theorem dX2_searchCorners_128 : decode cX2_searchCorners 128 = .ok (.aload_n 0, 1) := by decide +kernel
theorem dX2_searchCorners_129 : decode cX2_searchCorners 129 = .ok (.getfield 18, 3) := by decide +kernel
theorem dX2_searchCorners_132 : decode cX2_searchCorners 132 = .ok (.invokevirtual 118, 3) := by decide +kernel
theorem dX2_searchCorners_135 : decode cX2_searchCorners 135 = .ok (.istore 5, 2) := by decide +kernel
theorem dX2_searchCorners_137 : decode cX2_searchCorners 137 = .ok (.aload_n 0, 1) := by decide +kernel
theorem dX2_searchCorners_138 : decode cX2_searchCorners 138 = .ok (.iconst 3, 1) := by decide +kernel
theorem dX2_searchCorners_139 : decode cX2_searchCorners 139 = .ok (.aload_n 1, 1) := by decide +kernel
theorem dX2_searchCorners_140 : decode cX2_searchCorners 140 = .ok (.getfield 141, 3) := by decide +kernel
theorem dX2_searchCorners_143 : decode cX2_searchCorners 143 = .ok (.iload_n 2, 1) := by decide +kernel
theorem dX2_searchCorners_144 : decode cX2_searchCorners 144 = .ok (.iload_n 3, 1) := by decide +kernel
theorem dX2_searchCorners_145 : decode cX2_searchCorners 145 = .ok (.iload 4, 2) := by decide +kernel
theorem dX2_searchCorners_147 : decode cX2_searchCorners 147 = .ok (.iload 5, 2) := by decide +kernel
theorem dX2_searchCorners_149 : decode cX2_searchCorners 149 = .ok (.invokevirtual 122, 3) := by decide +kernel
theorem dX2_searchCorners_152 : decode cX2_searchCorners 152 = .ok (.iinc 2 1, 3) := by decide +kernel
theorem dX2_searchCorners_155 : decode cX2_searchCorners 155 = .ok (.goto (-144), 3) := by decide +kernel
theorem dX2_searchCorners_158 : decode cX2_searchCorners 158 = .ok (.aload_n 1, 1) := by decide +kernel
theorem dX2_searchCorners_159 : decode cX2_searchCorners 159 = .ok (.getfield 81, 3) := by decide +kernel
theorem dX2_searchCorners_162 : decode cX2_searchCorners 162 = .ok (.astore_n 1, 1) := by decide +kernel
theorem dX2_searchCorners_163 : decode cX2_searchCorners 163 = .ok (.goto (-158), 3) := by decide +kernel
theorem dX2_searchCorners_166 : decode cX2_searchCorners 166 = .ok (.return_, 1) := by decide +kernel
theorem dX2_isEarlierCorner_0 : decode cX2_isEarlierCorner 0 = .ok (.aload_n 0, 1) := by decide +kernel
theorem dX2_isEarlierCorner_1 : decode cX2_isEarlierCorner 1 = .ok (.getfield 67, 3) := by decide +kernel
theorem dX2_isEarlierCorner_4 : decode cX2_isEarlierCorner 4 = .ok (.astore_n 2, 1) := by decide +kernel
theorem dX2_isEarlierCorner_5 : decode cX2_isEarlierCorner 5 = .ok (.aload_n 2, 1) := by decide +kernel
theorem dX2_isEarlierCorner_6 : decode cX2_isEarlierCorner 6 = .ok (.ifnull 36, 3) := by decide +kernel
theorem dX2_isEarlierCorner_9 : decode cX2_isEarlierCorner 9 = .ok (.aload_n 2, 1) := by decide +kernel
theorem dX2_isEarlierCorner_10 : decode cX2_isEarlierCorner 10 = .ok (.aload_n 1, 1) := by decide +kernel
theorem dX2_isEarlierCorner_11 : decode cX2_isEarlierCorner 11 = .ok (.if_acmp .eq 31, 3) := by decide +kernel
theorem dX2_isEarlierCorner_14 : decode cX2_isEarlierCorner 14 = .ok (.aload_n 2, 1) := by decide +kernel
theorem dX2_isEarlierCorner_15 : decode cX2_isEarlierCorner 15 = .ok (.getfield 130, 3) := by decide +kernel
theorem dX2_isEarlierCorner_18 : decode cX2_isEarlierCorner 18 = .ok (.ifCond .eq 16, 3) := by decide +kernel
theorem dX2_isEarlierCorner_21 : decode cX2_isEarlierCorner 21 = .ok (.aload_n 2, 1) := by decide +kernel
theorem dX2_isEarlierCorner_22 : decode cX2_isEarlierCorner 22 = .ok (.aload_n 0, 1) := by decide +kernel
theorem dX2_isEarlierCorner_23 : decode cX2_isEarlierCorner 23 = .ok (.getfield 27, 3) := by decide +kernel
theorem dX2_isEarlierCorner_26 : decode cX2_isEarlierCorner 26 = .ok (.invokevirtual 155, 3) := by decide +kernel
theorem dX2_isEarlierCorner_29 : decode cX2_isEarlierCorner 29 = .ok (.ifCond .eq 5, 3) := by decide +kernel
theorem dX2_isEarlierCorner_32 : decode cX2_isEarlierCorner 32 = .ok (.iconst 1, 1) := by decide +kernel
theorem dX2_isEarlierCorner_33 : decode cX2_isEarlierCorner 33 = .ok (.ireturn, 1) := by decide +kernel
theorem dX2_isEarlierCorner_34 : decode cX2_isEarlierCorner 34 = .ok (.aload_n 2, 1) := by decide +kernel
theorem dX2_isEarlierCorner_35 : decode cX2_isEarlierCorner 35 = .ok (.getfield 81, 3) := by decide +kernel
theorem dX2_isEarlierCorner_38 : decode cX2_isEarlierCorner 38 = .ok (.astore_n 2, 1) := by decide +kernel
theorem dX2_isEarlierCorner_39 : decode cX2_isEarlierCorner 39 = .ok (.goto (-34), 3) := by decide +kernel
theorem dX2_isEarlierCorner_42 : decode cX2_isEarlierCorner 42 = .ok (.iconst 0, 1) := by decide +kernel
theorem dX2_isEarlierCorner_43 : decode cX2_isEarlierCorner 43 = .ok (.ireturn, 1) := by decide +kernel
theorem dX2_spread_0 : decode cX2_spread 0 = .ok (.aload_n 0, 1) := by decide +kernel
theorem dX2_spread_1 : decode cX2_spread 1 = .ok (.getfield 56, 3) := by decide +kernel
theorem dX2_spread_4 : decode cX2_spread 4 = .ok (.sipush 1000, 3) := by decide +kernel
theorem dX2_spread_7 : decode cX2_spread 7 = .ok (.imul, 1) := by decide +kernel
theorem dX2_spread_8 : decode cX2_spread 8 = .ok (.iconst 1, 1) := by decide +kernel
theorem dX2_spread_9 : decode cX2_spread 9 = .ok (.iload_n 1, 1) := by decide +kernel
theorem dX2_spread_10 : decode cX2_spread 10 = .ok (.invokestatic 159, 3) := by decide +kernel
theorem dX2_spread_13 : decode cX2_spread 13 = .ok (.idiv, 1) := by decide +kernel
theorem dX2_spread_14 : decode cX2_spread 14 = .ok (.ireturn, 1) := by decide +kernel
theorem dX2_carry_0 : decode cX2_carry 0 = .ok (.iload_n 1, 1) := by decide +kernel
theorem dX2_carry_1 : decode cX2_carry 1 = .ok (.istore 4, 2) := by decide +kernel
theorem dX2_carry_3 : decode cX2_carry 3 = .ok (.aload_n 0, 1) := by decide +kernel
theorem dX2_carry_4 : decode cX2_carry 4 = .ok (.getfield 67, 3) := by decide +kernel
theorem dX2_carry_7 : decode cX2_carry 7 = .ok (.astore 5, 2) := by decide +kernel
theorem dX2_carry_9 : decode cX2_carry 9 = .ok (.aload 5, 2) := by decide +kernel
theorem dX2_carry_11 : decode cX2_carry 11 = .ok (.ifnull 66, 3) := by decide +kernel
theorem dX2_carry_14 : decode cX2_carry 14 = .ok (.iload 4, 2) := by decide +kernel
theorem dX2_carry_16 : decode cX2_carry 16 = .ok (.iconst (-1), 1) := by decide +kernel
theorem dX2_carry_17 : decode cX2_carry 17 = .ok (.if_icmp .eq 60, 3) := by decide +kernel
theorem dX2_carry_20 : decode cX2_carry 20 = .ok (.aload 5, 2) := by decide +kernel
theorem dX2_carry_22 : decode cX2_carry 22 = .ok (.getfield 130, 3) := by decide +kernel
theorem dX2_carry_25 : decode cX2_carry 25 = .ok (.ifCond .eq 42, 3) := by decide +kernel
theorem dX2_carry_28 : decode cX2_carry 28 = .ok (.aload 5, 2) := by decide +kernel
theorem dX2_carry_30 : decode cX2_carry 30 = .ok (.aload_n 2, 1) := by decide +kernel
theorem dX2_carry_31 : decode cX2_carry 31 = .ok (.aload_n 3, 1) := by decide +kernel
theorem dX2_carry_32 : decode cX2_carry 32 = .ok (.aload_n 0, 1) := by decide +kernel
theorem dX2_carry_33 : decode cX2_carry 33 = .ok (.getfield 33, 3) := by decide +kernel
theorem dX2_carry_36 : decode cX2_carry 36 = .ok (.invokevirtual 134, 3) := by decide +kernel
theorem dX2_carry_39 : decode cX2_carry 39 = .ok (.ifCond .eq 28, 3) := by decide +kernel
theorem dX2_carry_42 : decode cX2_carry 42 = .ok (.aload 5, 2) := by decide +kernel
theorem dX2_carry_44 : decode cX2_carry 44 = .ok (.getfield 164, 3) := by decide +kernel
theorem dX2_carry_47 : decode cX2_carry 47 = .ok (.ifCond .ne 7, 3) := by decide +kernel
theorem dX2_carry_50 : decode cX2_carry 50 = .ok (.iconst (-1), 1) := by decide +kernel
theorem dX2_carry_51 : decode cX2_carry 51 = .ok (.goto 14, 3) := by decide +kernel
theorem dX2_carry_54 : decode cX2_carry 54 = .ok (.iload 4, 2) := by decide +kernel
theorem dX2_carry_56 : decode cX2_carry 56 = .ok (.aload 5, 2) := by decide +kernel
theorem dX2_carry_58 : decode cX2_carry 58 = .ok (.getfield 164, 3) := by decide +kernel
theorem dX2_carry_61 : decode cX2_carry 61 = .ok (.imul, 1) := by decide +kernel
theorem dX2_carry_62 : decode cX2_carry 62 = .ok (.bipush 100, 2) := by decide +kernel
theorem dX2_carry_64 : decode cX2_carry 64 = .ok (.idiv, 1) := by decide +kernel
theorem dX2_carry_65 : decode cX2_carry 65 = .ok (.istore 4, 2) := by decide +kernel
theorem dX2_carry_67 : decode cX2_carry 67 = .ok (.aload 5, 2) := by decide +kernel
theorem dX2_carry_69 : decode cX2_carry 69 = .ok (.getfield 81, 3) := by decide +kernel
theorem dX2_carry_72 : decode cX2_carry 72 = .ok (.astore 5, 2) := by decide +kernel
theorem dX2_carry_74 : decode cX2_carry 74 = .ok (.goto (-65), 3) := by decide +kernel
theorem dX2_carry_77 : decode cX2_carry 77 = .ok (.iload 4, 2) := by decide +kernel
theorem dX2_carry_79 : decode cX2_carry 79 = .ok (.ireturn, 1) := by decide +kernel
theorem dX2_keep_0 : decode cX2_keep 0 = .ok (.aload_n 0, 1) := by decide +kernel
theorem dX2_keep_1 : decode cX2_keep 1 = .ok (.getfield 41, 3) := by decide +kernel
theorem dX2_keep_4 : decode cX2_keep 4 = .ok (.invokevirtual 98, 3) := by decide +kernel
theorem dX2_keep_7 : decode cX2_keep 7 = .ok (.istore 7, 2) := by decide +kernel
theorem dX2_keep_9 : decode cX2_keep 9 = .ok (.iload 6, 2) := by decide +kernel
theorem dX2_keep_11 : decode cX2_keep 11 = .ok (.iconst (-1), 1) := by decide +kernel
theorem dX2_keep_12 : decode cX2_keep 12 = .ok (.if_icmp .eq 23, 3) := by decide +kernel
theorem dX2_keep_15 : decode cX2_keep 15 = .ok (.iload 7, 2) := by decide +kernel
theorem dX2_keep_17 : decode cX2_keep 17 = .ok (.aload_n 0, 1) := by decide +kernel
theorem dX2_keep_18 : decode cX2_keep 18 = .ok (.getfield 45, 3) := by decide +kernel
theorem dX2_keep_21 : decode cX2_keep 21 = .ok (.arraylength, 1) := by decide +kernel
theorem dX2_keep_22 : decode cX2_keep 22 = .ok (.if_icmp .ge 13, 3) := by decide +kernel
theorem dX2_keep_25 : decode cX2_keep 25 = .ok (.aload_n 0, 1) := by decide +kernel
theorem dX2_keep_26 : decode cX2_keep 26 = .ok (.getfield 41, 3) := by decide +kernel
theorem dX2_keep_29 : decode cX2_keep 29 = .ok (.invokevirtual 167, 3) := by decide +kernel
theorem dX2_keep_32 : decode cX2_keep 32 = .ok (.ifCond .ne 4, 3) := by decide +kernel
theorem dX2_keep_35 : decode cX2_keep 35 = .ok (.return_, 1) := by decide +kernel
theorem dX2_keep_36 : decode cX2_keep 36 = .ok (.aload_n 0, 1) := by decide +kernel
theorem dX2_keep_37 : decode cX2_keep 37 = .ok (.getfield 41, 3) := by decide +kernel
theorem dX2_keep_40 : decode cX2_keep 40 = .ok (.iload 7, 2) := by decide +kernel
theorem dX2_keep_42 : decode cX2_keep 42 = .ok (.iconst 0, 1) := by decide +kernel
theorem dX2_keep_43 : decode cX2_keep 43 = .ok (.iload_n 1, 1) := by decide +kernel
theorem dX2_keep_44 : decode cX2_keep 44 = .ok (.invokevirtual 171, 3) := by decide +kernel
theorem dX2_keep_47 : decode cX2_keep 47 = .ok (.aload_n 0, 1) := by decide +kernel
theorem dX2_keep_48 : decode cX2_keep 48 = .ok (.getfield 41, 3) := by decide +kernel
theorem dX2_keep_51 : decode cX2_keep 51 = .ok (.iload 7, 2) := by decide +kernel
theorem dX2_keep_53 : decode cX2_keep 53 = .ok (.iconst 1, 1) := by decide +kernel
theorem dX2_keep_54 : decode cX2_keep 54 = .ok (.iload_n 2, 1) := by decide +kernel
theorem dX2_keep_55 : decode cX2_keep 55 = .ok (.invokevirtual 171, 3) := by decide +kernel
theorem dX2_keep_58 : decode cX2_keep 58 = .ok (.aload_n 0, 1) := by decide +kernel
theorem dX2_keep_59 : decode cX2_keep 59 = .ok (.getfield 41, 3) := by decide +kernel
theorem dX2_keep_62 : decode cX2_keep 62 = .ok (.iload 7, 2) := by decide +kernel
theorem dX2_keep_64 : decode cX2_keep 64 = .ok (.iconst 2, 1) := by decide +kernel
theorem dX2_keep_65 : decode cX2_keep 65 = .ok (.iload_n 3, 1) := by decide +kernel
theorem dX2_keep_66 : decode cX2_keep 66 = .ok (.invokevirtual 171, 3) := by decide +kernel
theorem dX2_keep_69 : decode cX2_keep 69 = .ok (.aload_n 0, 1) := by decide +kernel
theorem dX2_keep_70 : decode cX2_keep 70 = .ok (.getfield 41, 3) := by decide +kernel
theorem dX2_keep_73 : decode cX2_keep 73 = .ok (.iload 7, 2) := by decide +kernel
theorem dX2_keep_75 : decode cX2_keep 75 = .ok (.iconst 3, 1) := by decide +kernel
theorem dX2_keep_76 : decode cX2_keep 76 = .ok (.iload 4, 2) := by decide +kernel
theorem dX2_keep_78 : decode cX2_keep 78 = .ok (.invokevirtual 171, 3) := by decide +kernel
theorem dX2_keep_81 : decode cX2_keep 81 = .ok (.aload_n 0, 1) := by decide +kernel
theorem dX2_keep_82 : decode cX2_keep 82 = .ok (.getfield 41, 3) := by decide +kernel
theorem dX2_keep_85 : decode cX2_keep 85 = .ok (.iload 7, 2) := by decide +kernel
theorem dX2_keep_87 : decode cX2_keep 87 = .ok (.iconst 4, 1) := by decide +kernel
theorem dX2_keep_88 : decode cX2_keep 88 = .ok (.iload 5, 2) := by decide +kernel
theorem dX2_keep_90 : decode cX2_keep 90 = .ok (.invokevirtual 171, 3) := by decide +kernel
theorem dX2_keep_93 : decode cX2_keep 93 = .ok (.aload_n 0, 1) := by decide +kernel
theorem dX2_keep_94 : decode cX2_keep 94 = .ok (.getfield 41, 3) := by decide +kernel
theorem dX2_keep_97 : decode cX2_keep 97 = .ok (.iload 7, 2) := by decide +kernel
theorem dX2_keep_99 : decode cX2_keep 99 = .ok (.iconst 5, 1) := by decide +kernel
theorem dX2_keep_100 : decode cX2_keep 100 = .ok (.iload 6, 2) := by decide +kernel
theorem dX2_keep_102 : decode cX2_keep 102 = .ok (.invokevirtual 171, 3) := by decide +kernel
theorem dX2_keep_105 : decode cX2_keep 105 = .ok (.aload_n 0, 1) := by decide +kernel
theorem dX2_keep_106 : decode cX2_keep 106 = .ok (.getfield 45, 3) := by decide +kernel
theorem dX2_keep_109 : decode cX2_keep 109 = .ok (.iload 7, 2) := by decide +kernel
theorem dX2_keep_111 : decode cX2_keep 111 = .ok (.iload 7, 2) := by decide +kernel
theorem dX2_keep_113 : decode cX2_keep 113 = .ok (.iastore, 1) := by decide +kernel
theorem dX2_keep_114 : decode cX2_keep 114 = .ok (.aload_n 0, 1) := by decide +kernel
theorem dX2_keep_115 : decode cX2_keep 115 = .ok (.dup, 1) := by decide +kernel
theorem dX2_keep_116 : decode cX2_keep 116 = .ok (.getfield 59, 3) := by decide +kernel
theorem dX2_keep_119 : decode cX2_keep 119 = .ok (.iload 6, 2) := by decide +kernel
theorem dX2_keep_121 : decode cX2_keep 121 = .ok (.iadd, 1) := by decide +kernel
theorem dX2_keep_122 : decode cX2_keep 122 = .ok (.putfield 59, 3) := by decide +kernel
theorem dX2_keep_125 : decode cX2_keep 125 = .ok (.return_, 1) := by decide +kernel
theorem dX2_sort_0 : decode cX2_sort 0 = .ok (.iconst 1, 1) := by decide +kernel
theorem dX2_sort_1 : decode cX2_sort 1 = .ok (.istore_n 1, 1) := by decide +kernel
theorem dX2_sort_2 : decode cX2_sort 2 = .ok (.iload_n 1, 1) := by decide +kernel
theorem dX2_sort_3 : decode cX2_sort 3 = .ok (.aload_n 0, 1) := by decide +kernel
theorem dX2_sort_4 : decode cX2_sort 4 = .ok (.getfield 41, 3) := by decide +kernel
theorem dX2_sort_7 : decode cX2_sort 7 = .ok (.invokevirtual 98, 3) := by decide +kernel
theorem dX2_sort_10 : decode cX2_sort 10 = .ok (.if_icmp .ge 74, 3) := by decide +kernel
theorem dX2_sort_13 : decode cX2_sort 13 = .ok (.iload_n 1, 1) := by decide +kernel
theorem dX2_sort_14 : decode cX2_sort 14 = .ok (.aload_n 0, 1) := by decide +kernel
theorem dX2_sort_15 : decode cX2_sort 15 = .ok (.getfield 45, 3) := by decide +kernel
theorem dX2_sort_18 : decode cX2_sort 18 = .ok (.arraylength, 1) := by decide +kernel
theorem dX2_sort_19 : decode cX2_sort 19 = .ok (.if_icmp .ge 65, 3) := by decide +kernel
theorem dX2_sort_22 : decode cX2_sort 22 = .ok (.aload_n 0, 1) := by decide +kernel
theorem dX2_sort_23 : decode cX2_sort 23 = .ok (.getfield 45, 3) := by decide +kernel
theorem dX2_sort_26 : decode cX2_sort 26 = .ok (.iload_n 1, 1) := by decide +kernel
theorem dX2_sort_27 : decode cX2_sort 27 = .ok (.iaload, 1) := by decide +kernel
theorem dX2_sort_28 : decode cX2_sort 28 = .ok (.istore_n 2, 1) := by decide +kernel
theorem dX2_sort_29 : decode cX2_sort 29 = .ok (.iload_n 1, 1) := by decide +kernel
theorem dX2_sort_30 : decode cX2_sort 30 = .ok (.istore_n 3, 1) := by decide +kernel
theorem dX2_sort_31 : decode cX2_sort 31 = .ok (.iload_n 3, 1) := by decide +kernel
theorem dX2_sort_32 : decode cX2_sort 32 = .ok (.ifCond .le 39, 3) := by decide +kernel
theorem dX2_sort_35 : decode cX2_sort 35 = .ok (.aload_n 0, 1) := by decide +kernel
theorem dX2_sort_36 : decode cX2_sort 36 = .ok (.aload_n 0, 1) := by decide +kernel
theorem dX2_sort_37 : decode cX2_sort 37 = .ok (.getfield 45, 3) := by decide +kernel
theorem dX2_sort_40 : decode cX2_sort 40 = .ok (.iload_n 3, 1) := by decide +kernel
theorem dX2_sort_41 : decode cX2_sort 41 = .ok (.iconst 1, 1) := by decide +kernel
theorem dX2_sort_42 : decode cX2_sort 42 = .ok (.isub, 1) := by decide +kernel
theorem dX2_sort_43 : decode cX2_sort 43 = .ok (.iaload, 1) := by decide +kernel
theorem dX2_sort_44 : decode cX2_sort 44 = .ok (.iload_n 2, 1) := by decide +kernel
theorem dX2_sort_45 : decode cX2_sort 45 = .ok (.invokevirtual 174, 3) := by decide +kernel
theorem dX2_sort_48 : decode cX2_sort 48 = .ok (.ifCond .eq 23, 3) := by decide +kernel
theorem dX2_sort_51 : decode cX2_sort 51 = .ok (.aload_n 0, 1) := by decide +kernel
theorem dX2_sort_52 : decode cX2_sort 52 = .ok (.getfield 45, 3) := by decide +kernel
theorem dX2_sort_55 : decode cX2_sort 55 = .ok (.iload_n 3, 1) := by decide +kernel
theorem dX2_sort_56 : decode cX2_sort 56 = .ok (.aload_n 0, 1) := by decide +kernel
theorem dX2_sort_57 : decode cX2_sort 57 = .ok (.getfield 45, 3) := by decide +kernel
theorem dX2_sort_60 : decode cX2_sort 60 = .ok (.iload_n 3, 1) := by decide +kernel
theorem dX2_sort_61 : decode cX2_sort 61 = .ok (.iconst 1, 1) := by decide +kernel
theorem dX2_sort_62 : decode cX2_sort 62 = .ok (.isub, 1) := by decide +kernel
theorem dX2_sort_63 : decode cX2_sort 63 = .ok (.iaload, 1) := by decide +kernel
theorem dX2_sort_64 : decode cX2_sort 64 = .ok (.iastore, 1) := by decide +kernel
theorem dX2_sort_65 : decode cX2_sort 65 = .ok (.iinc 3 (-1), 3) := by decide +kernel
theorem dX2_sort_68 : decode cX2_sort 68 = .ok (.goto (-37), 3) := by decide +kernel
theorem dX2_sort_71 : decode cX2_sort 71 = .ok (.aload_n 0, 1) := by decide +kernel
theorem dX2_sort_72 : decode cX2_sort 72 = .ok (.getfield 45, 3) := by decide +kernel
theorem dX2_sort_75 : decode cX2_sort 75 = .ok (.iload_n 3, 1) := by decide +kernel
theorem dX2_sort_76 : decode cX2_sort 76 = .ok (.iload_n 2, 1) := by decide +kernel
theorem dX2_sort_77 : decode cX2_sort 77 = .ok (.iastore, 1) := by decide +kernel
theorem dX2_sort_78 : decode cX2_sort 78 = .ok (.iinc 1 1, 3) := by decide +kernel
theorem dX2_sort_81 : decode cX2_sort 81 = .ok (.goto (-79), 3) := by decide +kernel
theorem dX2_sort_84 : decode cX2_sort 84 = .ok (.return_, 1) := by decide +kernel
theorem dX2_isLonger_0 : decode cX2_isLonger 0 = .ok (.aload_n 0, 1) := by decide +kernel
theorem dX2_isLonger_1 : decode cX2_isLonger 1 = .ok (.getfield 41, 3) := by decide +kernel
theorem dX2_isLonger_4 : decode cX2_isLonger 4 = .ok (.iload_n 1, 1) := by decide +kernel
theorem dX2_isLonger_5 : decode cX2_isLonger 5 = .ok (.iconst 3, 1) := by decide +kernel
theorem dX2_isLonger_6 : decode cX2_isLonger 6 = .ok (.invokevirtual 88, 3) := by decide +kernel
theorem dX2_isLonger_9 : decode cX2_isLonger 9 = .ok (.i2l, 1) := by decide +kernel
theorem dX2_isLonger_10 : decode cX2_isLonger 10 = .ok (.aload_n 0, 1) := by decide +kernel
theorem dX2_isLonger_11 : decode cX2_isLonger 11 = .ok (.getfield 41, 3) := by decide +kernel
theorem dX2_isLonger_14 : decode cX2_isLonger 14 = .ok (.iload_n 1, 1) := by decide +kernel
theorem dX2_isLonger_15 : decode cX2_isLonger 15 = .ok (.iconst 4, 1) := by decide +kernel
theorem dX2_isLonger_16 : decode cX2_isLonger 16 = .ok (.invokevirtual 88, 3) := by decide +kernel
theorem dX2_isLonger_19 : decode cX2_isLonger 19 = .ok (.i2l, 1) := by decide +kernel
theorem dX2_isLonger_20 : decode cX2_isLonger 20 = .ok (.aload_n 0, 1) := by decide +kernel
theorem dX2_isLonger_21 : decode cX2_isLonger 21 = .ok (.getfield 41, 3) := by decide +kernel
theorem dX2_isLonger_24 : decode cX2_isLonger 24 = .ok (.iload_n 2, 1) := by decide +kernel
theorem dX2_isLonger_25 : decode cX2_isLonger 25 = .ok (.iconst 3, 1) := by decide +kernel
theorem dX2_isLonger_26 : decode cX2_isLonger 26 = .ok (.invokevirtual 88, 3) := by decide +kernel
theorem dX2_isLonger_29 : decode cX2_isLonger 29 = .ok (.i2l, 1) := by decide +kernel
theorem dX2_isLonger_30 : decode cX2_isLonger 30 = .ok (.aload_n 0, 1) := by decide +kernel
theorem dX2_isLonger_31 : decode cX2_isLonger 31 = .ok (.getfield 41, 3) := by decide +kernel
theorem dX2_isLonger_34 : decode cX2_isLonger 34 = .ok (.iload_n 2, 1) := by decide +kernel
theorem dX2_isLonger_35 : decode cX2_isLonger 35 = .ok (.iconst 4, 1) := by decide +kernel
theorem dX2_isLonger_36 : decode cX2_isLonger 36 = .ok (.invokevirtual 88, 3) := by decide +kernel
theorem dX2_isLonger_39 : decode cX2_isLonger 39 = .ok (.i2l, 1) := by decide +kernel
theorem dX2_isLonger_40 : decode cX2_isLonger 40 = .ok (.invokestatic 178, 3) := by decide +kernel
theorem dX2_isLonger_43 : decode cX2_isLonger 43 = .ok (.ifCond .le 7, 3) := by decide +kernel
theorem dX2_isLonger_46 : decode cX2_isLonger 46 = .ok (.iconst 1, 1) := by decide +kernel
theorem dX2_isLonger_47 : decode cX2_isLonger 47 = .ok (.goto 4, 3) := by decide +kernel
theorem dX2_isLonger_50 : decode cX2_isLonger 50 = .ok (.iconst 0, 1) := by decide +kernel
theorem dX2_isLonger_51 : decode cX2_isLonger 51 = .ok (.ireturn, 1) := by decide +kernel
theorem dX2_sawTarget_0 : decode cX2_sawTarget 0 = .ok (.aload_n 0, 1) := by decide +kernel
theorem dX2_sawTarget_1 : decode cX2_sawTarget 1 = .ok (.getfield 41, 3) := by decide +kernel
theorem dX2_sawTarget_4 : decode cX2_sawTarget 4 = .ok (.invokevirtual 98, 3) := by decide +kernel
theorem dX2_sawTarget_7 : decode cX2_sawTarget 7 = .ok (.ifCond .le 19, 3) := by decide +kernel
theorem dX2_sawTarget_10 : decode cX2_sawTarget 10 = .ok (.aload_n 0, 1) := by decide +kernel
theorem dX2_sawTarget_11 : decode cX2_sawTarget 11 = .ok (.getfield 41, 3) := by decide +kernel
theorem dX2_sawTarget_14 : decode cX2_sawTarget 14 = .ok (.iconst 0, 1) := by decide +kernel
theorem dX2_sawTarget_15 : decode cX2_sawTarget 15 = .ok (.iconst 0, 1) := by decide +kernel
theorem dX2_sawTarget_16 : decode cX2_sawTarget 16 = .ok (.invokevirtual 88, 3) := by decide +kernel
theorem dX2_sawTarget_19 : decode cX2_sawTarget 19 = .ok (.ifCond .ne 7, 3) := by decide +kernel
theorem dX2_sawTarget_22 : decode cX2_sawTarget 22 = .ok (.iconst 1, 1) := by decide +kernel
theorem dX2_sawTarget_23 : decode cX2_sawTarget 23 = .ok (.goto 4, 3) := by decide +kernel
theorem dX2_sawTarget_26 : decode cX2_sawTarget 26 = .ok (.iconst 0, 1) := by decide +kernel
theorem dX2_sawTarget_27 : decode cX2_sawTarget 27 = .ok (.ireturn, 1) := by decide +kernel
theorem dX2_size_0 : decode cX2_size 0 = .ok (.aload_n 0, 1) := by decide +kernel
theorem dX2_size_1 : decode cX2_size 1 = .ok (.getfield 41, 3) := by decide +kernel
theorem dX2_size_4 : decode cX2_size 4 = .ok (.invokevirtual 98, 3) := by decide +kernel
theorem dX2_size_7 : decode cX2_size 7 = .ok (.ireturn, 1) := by decide +kernel
theorem dX2_tell_0 : decode cX2_tell 0 = .ok (.iload_n 1, 1) := by decide +kernel
theorem dX2_tell_1 : decode cX2_tell 1 = .ok (.ifCond .lt 29, 3) := by decide +kernel
theorem dX2_tell_4 : decode cX2_tell 4 = .ok (.iload_n 1, 1) := by decide +kernel
theorem dX2_tell_5 : decode cX2_tell 5 = .ok (.aload_n 0, 1) := by decide +kernel
theorem dX2_tell_6 : decode cX2_tell 6 = .ok (.getfield 45, 3) := by decide +kernel
theorem dX2_tell_9 : decode cX2_tell 9 = .ok (.arraylength, 1) := by decide +kernel
theorem dX2_tell_10 : decode cX2_tell 10 = .ok (.if_icmp .ge 20, 3) := by decide +kernel
theorem dX2_tell_13 : decode cX2_tell 13 = .ok (.aload_n 0, 1) := by decide +kernel
theorem dX2_tell_14 : decode cX2_tell 14 = .ok (.getfield 41, 3) := by decide +kernel
theorem dX2_tell_17 : decode cX2_tell 17 = .ok (.aload_n 0, 1) := by decide +kernel
theorem dX2_tell_18 : decode cX2_tell 18 = .ok (.getfield 45, 3) := by decide +kernel
theorem dX2_tell_21 : decode cX2_tell 21 = .ok (.iload_n 1, 1) := by decide +kernel
theorem dX2_tell_22 : decode cX2_tell 22 = .ok (.iaload, 1) := by decide +kernel
theorem dX2_tell_23 : decode cX2_tell 23 = .ok (.iload_n 2, 1) := by decide +kernel
theorem dX2_tell_24 : decode cX2_tell 24 = .ok (.invokevirtual 88, 3) := by decide +kernel
theorem dX2_tell_27 : decode cX2_tell 27 = .ok (.goto 5, 3) := by decide +kernel
theorem dX2_tell_30 : decode cX2_tell 30 = .ok (.bipush (-2), 2) := by decide +kernel
theorem dX2_tell_32 : decode cX2_tell 32 = .ok (.ireturn, 1) := by decide +kernel
theorem dX2_lateness_0 : decode cX2_lateness 0 = .ok (.sipush 10000, 3) := by decide +kernel
theorem dX2_lateness_3 : decode cX2_lateness 3 = .ok (.aload_n 0, 1) := by decide +kernel
theorem dX2_lateness_4 : decode cX2_lateness 4 = .ok (.iload_n 1, 1) := by decide +kernel
theorem dX2_lateness_5 : decode cX2_lateness 5 = .ok (.iconst 3, 1) := by decide +kernel
theorem dX2_lateness_6 : decode cX2_lateness 6 = .ok (.invokevirtual 182, 3) := by decide +kernel
theorem dX2_lateness_9 : decode cX2_lateness 9 = .ok (.imul, 1) := by decide +kernel
theorem dX2_lateness_10 : decode cX2_lateness 10 = .ok (.invokestatic 152, 3) := by decide +kernel
theorem dX2_lateness_13 : decode cX2_lateness 13 = .ok (.sipush 10000, 3) := by decide +kernel
theorem dX2_lateness_16 : decode cX2_lateness 16 = .ok (.aload_n 0, 1) := by decide +kernel
theorem dX2_lateness_17 : decode cX2_lateness 17 = .ok (.iload_n 1, 1) := by decide +kernel
theorem dX2_lateness_18 : decode cX2_lateness 18 = .ok (.iconst 4, 1) := by decide +kernel
theorem dX2_lateness_19 : decode cX2_lateness 19 = .ok (.invokevirtual 182, 3) := by decide +kernel
theorem dX2_lateness_22 : decode cX2_lateness 22 = .ok (.imul, 1) := by decide +kernel
theorem dX2_lateness_23 : decode cX2_lateness 23 = .ok (.invokestatic 152, 3) := by decide +kernel
theorem dX2_lateness_26 : decode cX2_lateness 26 = .ok (.iadd, 1) := by decide +kernel
theorem dX2_lateness_27 : decode cX2_lateness 27 = .ok (.ireturn, 1) := by decide +kernel
theorem dX2_rootOf_0 : decode cX2_rootOf 0 = .ok (.iconst 0, 1) := by decide +kernel
theorem dX2_rootOf_1 : decode cX2_rootOf 1 = .ok (.istore_n 1, 1) := by decide +kernel
theorem dX2_rootOf_2 : decode cX2_rootOf 2 = .ok (.ldc 185, 2) := by decide +kernel
theorem dX2_rootOf_4 : decode cX2_rootOf 4 = .ok (.istore_n 2, 1) := by decide +kernel
theorem dX2_rootOf_5 : decode cX2_rootOf 5 = .ok (.iload_n 2, 1) := by decide +kernel
theorem dX2_rootOf_6 : decode cX2_rootOf 6 = .ok (.ifCond .le 28, 3) := by decide +kernel
theorem dX2_rootOf_9 : decode cX2_rootOf 9 = .ok (.iload_n 1, 1) := by decide +kernel
theorem dX2_rootOf_10 : decode cX2_rootOf 10 = .ok (.iload_n 2, 1) := by decide +kernel
theorem dX2_rootOf_11 : decode cX2_rootOf 11 = .ok (.iadd, 1) := by decide +kernel
theorem dX2_rootOf_12 : decode cX2_rootOf 12 = .ok (.i2l, 1) := by decide +kernel
theorem dX2_rootOf_13 : decode cX2_rootOf 13 = .ok (.lstore_n 3, 1) := by decide +kernel
theorem dX2_rootOf_14 : decode cX2_rootOf 14 = .ok (.lload_n 3, 1) := by decide +kernel
theorem dX2_rootOf_15 : decode cX2_rootOf 15 = .ok (.lload_n 3, 1) := by decide +kernel
theorem dX2_rootOf_16 : decode cX2_rootOf 16 = .ok (.lmul, 1) := by decide +kernel
theorem dX2_rootOf_17 : decode cX2_rootOf 17 = .ok (.iload_n 0, 1) := by decide +kernel
theorem dX2_rootOf_18 : decode cX2_rootOf 18 = .ok (.i2l, 1) := by decide +kernel
theorem dX2_rootOf_19 : decode cX2_rootOf 19 = .ok (.lcmp, 1) := by decide +kernel
theorem dX2_rootOf_20 : decode cX2_rootOf 20 = .ok (.ifCond .gt 7, 3) := by decide +kernel
theorem dX2_rootOf_23 : decode cX2_rootOf 23 = .ok (.iload_n 1, 1) := by decide +kernel
theorem dX2_rootOf_24 : decode cX2_rootOf 24 = .ok (.iload_n 2, 1) := by decide +kernel
theorem dX2_rootOf_25 : decode cX2_rootOf 25 = .ok (.iadd, 1) := by decide +kernel
theorem dX2_rootOf_26 : decode cX2_rootOf 26 = .ok (.istore_n 1, 1) := by decide +kernel
theorem dX2_rootOf_27 : decode cX2_rootOf 27 = .ok (.iload_n 2, 1) := by decide +kernel
theorem dX2_rootOf_28 : decode cX2_rootOf 28 = .ok (.iconst 1, 1) := by decide +kernel
theorem dX2_rootOf_29 : decode cX2_rootOf 29 = .ok (.ishr, 1) := by decide +kernel
theorem dX2_rootOf_30 : decode cX2_rootOf 30 = .ok (.istore_n 2, 1) := by decide +kernel
theorem dX2_rootOf_31 : decode cX2_rootOf 31 = .ok (.goto (-26), 3) := by decide +kernel
theorem dX2_rootOf_34 : decode cX2_rootOf 34 = .ok (.iload_n 1, 1) := by decide +kernel
theorem dX2_rootOf_35 : decode cX2_rootOf 35 = .ok (.ireturn, 1) := by decide +kernel
theorem dX2_orderOfLengths_0 : decode cX2_orderOfLengths 0 = .ok (.lload_n 0, 1) := by decide +kernel
theorem dX2_orderOfLengths_1 : decode cX2_orderOfLengths 1 = .ok (.lload_n 2, 1) := by decide +kernel
theorem dX2_orderOfLengths_2 : decode cX2_orderOfLengths 2 = .ok (.ladd, 1) := by decide +kernel
theorem dX2_orderOfLengths_3 : decode cX2_orderOfLengths 3 = .ok (.lload 4, 2) := by decide +kernel
theorem dX2_orderOfLengths_5 : decode cX2_orderOfLengths 5 = .ok (.lsub, 1) := by decide +kernel
theorem dX2_orderOfLengths_6 : decode cX2_orderOfLengths 6 = .ok (.lload 6, 2) := by decide +kernel
theorem dX2_orderOfLengths_8 : decode cX2_orderOfLengths 8 = .ok (.lsub, 1) := by decide +kernel
theorem dX2_orderOfLengths_9 : decode cX2_orderOfLengths 9 = .ok (.lstore 8, 2) := by decide +kernel
theorem dX2_orderOfLengths_11 : decode cX2_orderOfLengths 11 = .ok (.lload 8, 2) := by decide +kernel
theorem dX2_orderOfLengths_13 : decode cX2_orderOfLengths 13 = .ok (.lconst 0, 1) := by decide +kernel
theorem dX2_orderOfLengths_14 : decode cX2_orderOfLengths 14 = .ok (.lcmp, 1) := by decide +kernel
theorem dX2_orderOfLengths_15 : decode cX2_orderOfLengths 15 = .ok (.ifCond .ge 29, 3) := by decide +kernel
theorem dX2_orderOfLengths_18 : decode cX2_orderOfLengths 18 = .ok (.lload 8, 2) := by decide +kernel
theorem dX2_orderOfLengths_20 : decode cX2_orderOfLengths 20 = .ok (.lneg, 1) := by decide +kernel
theorem dX2_orderOfLengths_21 : decode cX2_orderOfLengths 21 = .ok (.ldc2_w 186, 3) := by decide +kernel
theorem dX2_orderOfLengths_24 : decode cX2_orderOfLengths 24 = .ok (.lload 4, 2) := by decide +kernel
theorem dX2_orderOfLengths_26 : decode cX2_orderOfLengths 26 = .ok (.lmul, 1) := by decide +kernel
theorem dX2_orderOfLengths_27 : decode cX2_orderOfLengths 27 = .ok (.lload 6, 2) := by decide +kernel
theorem dX2_orderOfLengths_29 : decode cX2_orderOfLengths 29 = .ok (.lmul, 1) := by decide +kernel
theorem dX2_orderOfLengths_30 : decode cX2_orderOfLengths 30 = .ok (.ldc2_w 186, 3) := by decide +kernel
theorem dX2_orderOfLengths_33 : decode cX2_orderOfLengths 33 = .ok (.lload_n 0, 1) := by decide +kernel
theorem dX2_orderOfLengths_34 : decode cX2_orderOfLengths 34 = .ok (.lmul, 1) := by decide +kernel
theorem dX2_orderOfLengths_35 : decode cX2_orderOfLengths 35 = .ok (.lload_n 2, 1) := by decide +kernel
theorem dX2_orderOfLengths_36 : decode cX2_orderOfLengths 36 = .ok (.lmul, 1) := by decide +kernel
theorem dX2_orderOfLengths_37 : decode cX2_orderOfLengths 37 = .ok (.invokestatic 188, 3) := by decide +kernel
theorem dX2_orderOfLengths_40 : decode cX2_orderOfLengths 40 = .ok (.ineg, 1) := by decide +kernel
theorem dX2_orderOfLengths_41 : decode cX2_orderOfLengths 41 = .ok (.goto 24, 3) := by decide +kernel
theorem dX2_orderOfLengths_44 : decode cX2_orderOfLengths 44 = .ok (.lload 8, 2) := by decide +kernel
theorem dX2_orderOfLengths_46 : decode cX2_orderOfLengths 46 = .ok (.ldc2_w 186, 3) := by decide +kernel
theorem dX2_orderOfLengths_49 : decode cX2_orderOfLengths 49 = .ok (.lload_n 0, 1) := by decide +kernel
theorem dX2_orderOfLengths_50 : decode cX2_orderOfLengths 50 = .ok (.lmul, 1) := by decide +kernel
theorem dX2_orderOfLengths_51 : decode cX2_orderOfLengths 51 = .ok (.lload_n 2, 1) := by decide +kernel
theorem dX2_orderOfLengths_52 : decode cX2_orderOfLengths 52 = .ok (.lmul, 1) := by decide +kernel
theorem dX2_orderOfLengths_53 : decode cX2_orderOfLengths 53 = .ok (.ldc2_w 186, 3) := by decide +kernel
theorem dX2_orderOfLengths_56 : decode cX2_orderOfLengths 56 = .ok (.lload 4, 2) := by decide +kernel
theorem dX2_orderOfLengths_58 : decode cX2_orderOfLengths 58 = .ok (.lmul, 1) := by decide +kernel
theorem dX2_orderOfLengths_59 : decode cX2_orderOfLengths 59 = .ok (.lload 6, 2) := by decide +kernel
theorem dX2_orderOfLengths_61 : decode cX2_orderOfLengths 61 = .ok (.lmul, 1) := by decide +kernel
theorem dX2_orderOfLengths_62 : decode cX2_orderOfLengths 62 = .ok (.invokestatic 188, 3) := by decide +kernel
theorem dX2_orderOfLengths_65 : decode cX2_orderOfLengths 65 = .ok (.ireturn, 1) := by decide +kernel
theorem dX2_signOf_0 : decode cX2_signOf 0 = .ok (.lload 4, 2) := by decide +kernel
theorem dX2_signOf_2 : decode cX2_signOf 2 = .ok (.lload_n 2, 1) := by decide +kernel
theorem dX2_signOf_3 : decode cX2_signOf 3 = .ok (.lsub, 1) := by decide +kernel
theorem dX2_signOf_4 : decode cX2_signOf 4 = .ok (.lload_n 0, 1) := by decide +kernel
theorem dX2_signOf_5 : decode cX2_signOf 5 = .ok (.lload_n 0, 1) := by decide +kernel
theorem dX2_signOf_6 : decode cX2_signOf 6 = .ok (.lmul, 1) := by decide +kernel
theorem dX2_signOf_7 : decode cX2_signOf 7 = .ok (.lsub, 1) := by decide +kernel
theorem dX2_signOf_8 : decode cX2_signOf 8 = .ok (.lstore 6, 2) := by decide +kernel
theorem dX2_signOf_10 : decode cX2_signOf 10 = .ok (.lload 6, 2) := by decide +kernel
theorem dX2_signOf_12 : decode cX2_signOf 12 = .ok (.lconst 0, 1) := by decide +kernel
theorem dX2_signOf_13 : decode cX2_signOf 13 = .ok (.lcmp, 1) := by decide +kernel
theorem dX2_signOf_14 : decode cX2_signOf 14 = .ok (.ifCond .ge 5, 3) := by decide +kernel
theorem dX2_signOf_17 : decode cX2_signOf 17 = .ok (.iconst 1, 1) := by decide +kernel
theorem dX2_signOf_18 : decode cX2_signOf 18 = .ok (.ireturn, 1) := by decide +kernel
theorem dX2_signOf_19 : decode cX2_signOf 19 = .ok (.ldc2_w 186, 3) := by decide +kernel
theorem dX2_signOf_22 : decode cX2_signOf 22 = .ok (.lload_n 0, 1) := by decide +kernel
theorem dX2_signOf_23 : decode cX2_signOf 23 = .ok (.lmul, 1) := by decide +kernel
theorem dX2_signOf_24 : decode cX2_signOf 24 = .ok (.lload_n 0, 1) := by decide +kernel
theorem dX2_signOf_25 : decode cX2_signOf 25 = .ok (.lmul, 1) := by decide +kernel
theorem dX2_signOf_26 : decode cX2_signOf 26 = .ok (.lload_n 2, 1) := by decide +kernel
theorem dX2_signOf_27 : decode cX2_signOf 27 = .ok (.lmul, 1) := by decide +kernel
theorem dX2_signOf_28 : decode cX2_signOf 28 = .ok (.lstore 8, 2) := by decide +kernel
theorem dX2_signOf_30 : decode cX2_signOf 30 = .ok (.lload 6, 2) := by decide +kernel
theorem dX2_signOf_32 : decode cX2_signOf 32 = .ok (.lload 6, 2) := by decide +kernel
theorem dX2_signOf_34 : decode cX2_signOf 34 = .ok (.lmul, 1) := by decide +kernel
theorem dX2_signOf_35 : decode cX2_signOf 35 = .ok (.lstore 10, 2) := by decide +kernel
theorem dX2_signOf_37 : decode cX2_signOf 37 = .ok (.lload 8, 2) := by decide +kernel
theorem dX2_signOf_39 : decode cX2_signOf 39 = .ok (.lload 10, 2) := by decide +kernel
theorem dX2_signOf_41 : decode cX2_signOf 41 = .ok (.lcmp, 1) := by decide +kernel
theorem dX2_signOf_42 : decode cX2_signOf 42 = .ok (.ifCond .ge 7, 3) := by decide +kernel
theorem dX2_signOf_45 : decode cX2_signOf 45 = .ok (.iconst (-1), 1) := by decide +kernel
theorem dX2_signOf_46 : decode cX2_signOf 46 = .ok (.goto 16, 3) := by decide +kernel
theorem dX2_signOf_49 : decode cX2_signOf 49 = .ok (.lload 8, 2) := by decide +kernel
theorem dX2_signOf_51 : decode cX2_signOf 51 = .ok (.lload 10, 2) := by decide +kernel
theorem dX2_signOf_53 : decode cX2_signOf 53 = .ok (.lcmp, 1) := by decide +kernel
theorem dX2_signOf_54 : decode cX2_signOf 54 = .ok (.ifCond .le 7, 3) := by decide +kernel
theorem dX2_signOf_57 : decode cX2_signOf 57 = .ok (.iconst 1, 1) := by decide +kernel
theorem dX2_signOf_58 : decode cX2_signOf 58 = .ok (.goto 4, 3) := by decide +kernel
theorem dX2_signOf_61 : decode cX2_signOf 61 = .ok (.iconst 0, 1) := by decide +kernel
theorem dX2_signOf_62 : decode cX2_signOf 62 = .ok (.ireturn, 1) := by decide +kernel
theorem dX3_init_0 : decode cX3_init 0 = .ok (.aload_n 0, 1) := by decide +kernel
theorem dX3_init_1 : decode cX3_init 1 = .ok (.invokespecial 3, 3) := by decide +kernel
theorem dX3_init_4 : decode cX3_init 4 = .ok (.aload_n 0, 1) := by decide +kernel
theorem dX3_init_5 : decode cX3_init 5 = .ok (.sipush 2710, 3) := by decide +kernel
theorem dX3_init_8 : decode cX3_init 8 = .ok (.newarray .int, 2) := by decide +kernel
theorem dX3_init_10 : decode cX3_init 10 = .ok (.putfield 11, 3) := by decide +kernel
theorem dX3_init_13 : decode cX3_init 13 = .ok (.aload_n 0, 1) := by decide +kernel
theorem dX3_init_14 : decode cX3_init 14 = .ok (.sipush 2710, 3) := by decide +kernel
theorem dX3_init_17 : decode cX3_init 17 = .ok (.newarray .int, 2) := by decide +kernel
theorem dX3_init_19 : decode cX3_init 19 = .ok (.putfield 15, 3) := by decide +kernel
theorem dX3_init_22 : decode cX3_init 22 = .ok (.aload_n 0, 1) := by decide +kernel
theorem dX3_init_23 : decode cX3_init 23 = .ok (.bipush 6, 2) := by decide +kernel
theorem dX3_init_25 : decode cX3_init 25 = .ok (.newarray .int, 2) := by decide +kernel
theorem dX3_init_27 : decode cX3_init 27 = .ok (.putfield 18, 3) := by decide +kernel
theorem dX3_init_30 : decode cX3_init 30 = .ok (.aload_n 0, 1) := by decide +kernel
theorem dX3_init_31 : decode cX3_init 31 = .ok (.bipush 60, 2) := by decide +kernel
theorem dX3_init_33 : decode cX3_init 33 = .ok (.newarray .int, 2) := by decide +kernel
theorem dX3_init_35 : decode cX3_init 35 = .ok (.putfield 21, 3) := by decide +kernel
theorem dX3_init_38 : decode cX3_init 38 = .ok (.aload_n 0, 1) := by decide +kernel
theorem dX3_init_39 : decode cX3_init 39 = .ok (.iconst 1, 1) := by decide +kernel
theorem dX3_init_40 : decode cX3_init 40 = .ok (.putfield 24, 3) := by decide +kernel
theorem dX3_init_43 : decode cX3_init 43 = .ok (.aload_n 0, 1) := by decide +kernel
theorem dX3_init_44 : decode cX3_init 44 = .ok (.iconst (-1), 1) := by decide +kernel
theorem dX3_init_45 : decode cX3_init 45 = .ok (.putfield 28, 3) := by decide +kernel
theorem dX3_init_48 : decode cX3_init 48 = .ok (.aload_n 0, 1) := by decide +kernel
theorem dX3_init_49 : decode cX3_init 49 = .ok (.aload_n 1, 1) := by decide +kernel
theorem dX3_init_50 : decode cX3_init 50 = .ok (.putfield 31, 3) := by decide +kernel
theorem dX3_init_53 : decode cX3_init 53 = .ok (.aload_n 0, 1) := by decide +kernel
theorem dX3_init_54 : decode cX3_init 54 = .ok (.aload_n 2, 1) := by decide +kernel
theorem dX3_init_55 : decode cX3_init 55 = .ok (.putfield 35, 3) := by decide +kernel
theorem dX3_init_58 : decode cX3_init 58 = .ok (.return_, 1) := by decide +kernel
theorem dX3_forget_0 : decode cX3_forget 0 = .ok (.aload_n 0, 1) := by decide +kernel
theorem dX3_forget_1 : decode cX3_forget 1 = .ok (.dup, 1) := by decide +kernel
theorem dX3_forget_2 : decode cX3_forget 2 = .ok (.getfield 24, 3) := by decide +kernel
theorem dX3_forget_5 : decode cX3_forget 5 = .ok (.iconst 1, 1) := by decide +kernel
theorem dX3_forget_6 : decode cX3_forget 6 = .ok (.iadd, 1) := by decide +kernel
theorem dX3_forget_7 : decode cX3_forget 7 = .ok (.putfield 24, 3) := by decide +kernel
theorem dX3_forget_10 : decode cX3_forget 10 = .ok (.aload_n 0, 1) := by decide +kernel
theorem dX3_forget_11 : decode cX3_forget 11 = .ok (.iconst (-1), 1) := by decide +kernel
theorem dX3_forget_12 : decode cX3_forget 12 = .ok (.putfield 28, 3) := by decide +kernel
theorem dX3_forget_15 : decode cX3_forget 15 = .ok (.return_, 1) := by decide +kernel
theorem dX3_keyOf_0 : decode cX3_keyOf 0 = .ok (.iload_n 0, 1) := by decide +kernel
theorem dX3_keyOf_1 : decode cX3_keyOf 1 = .ok (.bipush 21, 2) := by decide +kernel
theorem dX3_keyOf_3 : decode cX3_keyOf 3 = .ok (.imul, 1) := by decide +kernel
theorem dX3_keyOf_4 : decode cX3_keyOf 4 = .ok (.iload_n 2, 1) := by decide +kernel
theorem dX3_keyOf_5 : decode cX3_keyOf 5 = .ok (.iadd, 1) := by decide +kernel
theorem dX3_keyOf_6 : decode cX3_keyOf 6 = .ok (.bipush 21, 2) := by decide +kernel
theorem dX3_keyOf_8 : decode cX3_keyOf 8 = .ok (.imul, 1) := by decide +kernel
theorem dX3_keyOf_9 : decode cX3_keyOf 9 = .ok (.iload_n 1, 1) := by decide +kernel
theorem dX3_keyOf_10 : decode cX3_keyOf 10 = .ok (.iadd, 1) := by decide +kernel
theorem dX3_keyOf_11 : decode cX3_keyOf 11 = .ok (.ireturn, 1) := by decide +kernel
theorem dX3_signalAt_0 : decode cX3_signalAt 0 = .ok (.aload_n 0, 1) := by decide +kernel
theorem dX3_signalAt_1 : decode cX3_signalAt 1 = .ok (.getfield 31, 3) := by decide +kernel
theorem dX3_signalAt_4 : decode cX3_signalAt 4 = .ok (.iload_n 1, 1) := by decide +kernel
theorem dX3_signalAt_5 : decode cX3_signalAt 5 = .ok (.invokevirtual 39, 3) := by decide +kernel
theorem dX3_signalAt_8 : decode cX3_signalAt 8 = .ok (.ifCond .eq 11, 3) := by decide +kernel
theorem dX3_signalAt_11 : decode cX3_signalAt 11 = .ok (.iload_n 2, 1) := by decide +kernel
theorem dX3_signalAt_12 : decode cX3_signalAt 12 = .ok (.iload_n 3, 1) := by decide +kernel
theorem dX3_signalAt_13 : decode cX3_signalAt 13 = .ok (.invokestatic 45, 3) := by decide +kernel
theorem dX3_signalAt_16 : decode cX3_signalAt 16 = .ok (.ifCond .ne 5, 3) := by decide +kernel
theorem dX3_signalAt_19 : decode cX3_signalAt 19 = .ok (.iconst (-1), 1) := by decide +kernel
theorem dX3_signalAt_20 : decode cX3_signalAt 20 = .ok (.ireturn, 1) := by decide +kernel
theorem dX3_signalAt_21 : decode cX3_signalAt 21 = .ok (.iload_n 1, 1) := by decide +kernel
theorem dX3_signalAt_22 : decode cX3_signalAt 22 = .ok (.iload_n 2, 1) := by decide +kernel
theorem dX3_signalAt_23 : decode cX3_signalAt 23 = .ok (.iload_n 3, 1) := by decide +kernel
theorem dX3_signalAt_24 : decode cX3_signalAt 24 = .ok (.invokestatic 49, 3) := by decide +kernel
theorem dX3_signalAt_27 : decode cX3_signalAt 27 = .ok (.istore 4, 2) := by decide +kernel
theorem dX3_signalAt_29 : decode cX3_signalAt 29 = .ok (.iload 4, 2) := by decide +kernel
theorem dX3_signalAt_31 : decode cX3_signalAt 31 = .ok (.ifCond .lt 23, 3) := by decide +kernel
theorem dX3_signalAt_34 : decode cX3_signalAt 34 = .ok (.iload 4, 2) := by decide +kernel
theorem dX3_signalAt_36 : decode cX3_signalAt 36 = .ok (.aload_n 0, 1) := by decide +kernel
theorem dX3_signalAt_37 : decode cX3_signalAt 37 = .ok (.getfield 11, 3) := by decide +kernel
theorem dX3_signalAt_40 : decode cX3_signalAt 40 = .ok (.arraylength, 1) := by decide +kernel
theorem dX3_signalAt_41 : decode cX3_signalAt 41 = .ok (.if_icmp .ge 13, 3) := by decide +kernel
theorem dX3_signalAt_44 : decode cX3_signalAt 44 = .ok (.iload 4, 2) := by decide +kernel
theorem dX3_signalAt_46 : decode cX3_signalAt 46 = .ok (.aload_n 0, 1) := by decide +kernel
theorem dX3_signalAt_47 : decode cX3_signalAt 47 = .ok (.getfield 15, 3) := by decide +kernel
theorem dX3_signalAt_50 : decode cX3_signalAt 50 = .ok (.arraylength, 1) := by decide +kernel
theorem dX3_signalAt_51 : decode cX3_signalAt 51 = .ok (.if_icmp .lt 5, 3) := by decide +kernel
theorem dX3_signalAt_54 : decode cX3_signalAt 54 = .ok (.iconst (-1), 1) := by decide +kernel
theorem dX3_signalAt_55 : decode cX3_signalAt 55 = .ok (.ireturn, 1) := by decide +kernel
theorem dX3_signalAt_56 : decode cX3_signalAt 56 = .ok (.aload_n 0, 1) := by decide +kernel
theorem dX3_signalAt_57 : decode cX3_signalAt 57 = .ok (.getfield 15, 3) := by decide +kernel
theorem dX3_signalAt_60 : decode cX3_signalAt 60 = .ok (.iload 4, 2) := by decide +kernel
theorem dX3_signalAt_62 : decode cX3_signalAt 62 = .ok (.iaload, 1) := by decide +kernel
theorem dX3_signalAt_63 : decode cX3_signalAt 63 = .ok (.aload_n 0, 1) := by decide +kernel
theorem dX3_signalAt_64 : decode cX3_signalAt 64 = .ok (.getfield 24, 3) := by decide +kernel
theorem dX3_signalAt_67 : decode cX3_signalAt 67 = .ok (.if_icmp .eq 44, 3) := by decide +kernel
theorem dX3_signalAt_70 : decode cX3_signalAt 70 = .ok (.aload_n 0, 1) := by decide +kernel
theorem dX3_signalAt_71 : decode cX3_signalAt 71 = .ok (.getfield 11, 3) := by decide +kernel
theorem dX3_signalAt_74 : decode cX3_signalAt 74 = .ok (.iload 4, 2) := by decide +kernel
theorem dX3_signalAt_76 : decode cX3_signalAt 76 = .ok (.aload_n 0, 1) := by decide +kernel
theorem dX3_signalAt_77 : decode cX3_signalAt 77 = .ok (.getfield 35, 3) := by decide +kernel
theorem dX3_signalAt_80 : decode cX3_signalAt 80 = .ok (.aload_n 0, 1) := by decide +kernel
theorem dX3_signalAt_81 : decode cX3_signalAt 81 = .ok (.getfield 31, 3) := by decide +kernel
theorem dX3_signalAt_84 : decode cX3_signalAt 84 = .ok (.getfield 53, 3) := by decide +kernel
theorem dX3_signalAt_87 : decode cX3_signalAt 87 = .ok (.iload_n 1, 1) := by decide +kernel
theorem dX3_signalAt_88 : decode cX3_signalAt 88 = .ok (.iconst 3, 1) := by decide +kernel
theorem dX3_signalAt_89 : decode cX3_signalAt 89 = .ok (.iload_n 2, 1) := by decide +kernel
theorem dX3_signalAt_90 : decode cX3_signalAt 90 = .ok (.iload_n 3, 1) := by decide +kernel
theorem dX3_signalAt_91 : decode cX3_signalAt 91 = .ok (.invokevirtual 57, 3) := by decide +kernel
theorem dX3_signalAt_94 : decode cX3_signalAt 94 = .ok (.iastore, 1) := by decide +kernel
theorem dX3_signalAt_95 : decode cX3_signalAt 95 = .ok (.aload_n 0, 1) := by decide +kernel
theorem dX3_signalAt_96 : decode cX3_signalAt 96 = .ok (.getfield 15, 3) := by decide +kernel
theorem dX3_signalAt_99 : decode cX3_signalAt 99 = .ok (.iload 4, 2) := by decide +kernel
theorem dX3_signalAt_101 : decode cX3_signalAt 101 = .ok (.aload_n 0, 1) := by decide +kernel
theorem dX3_signalAt_102 : decode cX3_signalAt 102 = .ok (.getfield 24, 3) := by decide +kernel
theorem dX3_signalAt_105 : decode cX3_signalAt 105 = .ok (.iastore, 1) := by decide +kernel
theorem dX3_signalAt_106 : decode cX3_signalAt 106 = .ok (.aload_n 0, 1) := by decide +kernel
theorem dX3_signalAt_107 : decode cX3_signalAt 107 = .ok (.iconst (-1), 1) := by decide +kernel
theorem dX3_signalAt_108 : decode cX3_signalAt 108 = .ok (.putfield 28, 3) := by decide +kernel
theorem dX3_signalAt_111 : decode cX3_signalAt 111 = .ok (.aload_n 0, 1) := by decide +kernel
theorem dX3_signalAt_112 : decode cX3_signalAt 112 = .ok (.getfield 11, 3) := by decide +kernel
theorem dX3_signalAt_115 : decode cX3_signalAt 115 = .ok (.iload 4, 2) := by decide +kernel
theorem dX3_signalAt_117 : decode cX3_signalAt 117 = .ok (.iaload, 1) := by decide +kernel
theorem dX3_signalAt_118 : decode cX3_signalAt 118 = .ok (.ireturn, 1) := by decide +kernel
theorem dX3_siteSignal_0 : decode cX3_siteSignal 0 = .ok (.aload_n 0, 1) := by decide +kernel
theorem dX3_siteSignal_1 : decode cX3_siteSignal 1 = .ok (.getfield 31, 3) := by decide +kernel
theorem dX3_siteSignal_4 : decode cX3_siteSignal 4 = .ok (.getfield 63, 3) := by decide +kernel
theorem dX3_siteSignal_7 : decode cX3_siteSignal 7 = .ok (.iload_n 1, 1) := by decide +kernel
theorem dX3_siteSignal_8 : decode cX3_siteSignal 8 = .ok (.invokevirtual 66, 3) := by decide +kernel
theorem dX3_siteSignal_11 : decode cX3_siteSignal 11 = .ok (.ifCond .eq 17, 3) := by decide +kernel
theorem dX3_siteSignal_14 : decode cX3_siteSignal 14 = .ok (.aload_n 0, 1) := by decide +kernel
theorem dX3_siteSignal_15 : decode cX3_siteSignal 15 = .ok (.getfield 31, 3) := by decide +kernel
theorem dX3_siteSignal_18 : decode cX3_siteSignal 18 = .ok (.getfield 71, 3) := by decide +kernel
theorem dX3_siteSignal_21 : decode cX3_siteSignal 21 = .ok (.iload_n 2, 1) := by decide +kernel
theorem dX3_siteSignal_22 : decode cX3_siteSignal 22 = .ok (.invokevirtual 66, 3) := by decide +kernel
theorem dX3_siteSignal_25 : decode cX3_siteSignal 25 = .ok (.ifCond .ne 5, 3) := by decide +kernel
theorem dX3_siteSignal_28 : decode cX3_siteSignal 28 = .ok (.iconst (-1), 1) := by decide +kernel
theorem dX3_siteSignal_29 : decode cX3_siteSignal 29 = .ok (.ireturn, 1) := by decide +kernel
theorem dX3_siteSignal_30 : decode cX3_siteSignal 30 = .ok (.bipush 6, 2) := by decide +kernel
theorem dX3_siteSignal_32 : decode cX3_siteSignal 32 = .ok (.iconst 0, 1) := by decide +kernel
theorem dX3_siteSignal_33 : decode cX3_siteSignal 33 = .ok (.iconst 0, 1) := by decide +kernel
theorem dX3_siteSignal_34 : decode cX3_siteSignal 34 = .ok (.invokestatic 49, 3) := by decide +kernel
theorem dX3_siteSignal_37 : decode cX3_siteSignal 37 = .ok (.iload_n 1, 1) := by decide +kernel
theorem dX3_siteSignal_38 : decode cX3_siteSignal 38 = .ok (.bipush 8, 2) := by decide +kernel
theorem dX3_siteSignal_40 : decode cX3_siteSignal 40 = .ok (.imul, 1) := by decide +kernel
theorem dX3_siteSignal_41 : decode cX3_siteSignal 41 = .ok (.iadd, 1) := by decide +kernel
theorem dX3_siteSignal_42 : decode cX3_siteSignal 42 = .ok (.iload_n 2, 1) := by decide +kernel
theorem dX3_siteSignal_43 : decode cX3_siteSignal 43 = .ok (.iadd, 1) := by decide +kernel
theorem dX3_siteSignal_44 : decode cX3_siteSignal 44 = .ok (.istore_n 3, 1) := by decide +kernel
theorem dX3_siteSignal_45 : decode cX3_siteSignal 45 = .ok (.iload_n 3, 1) := by decide +kernel
theorem dX3_siteSignal_46 : decode cX3_siteSignal 46 = .ok (.ifCond .lt 21, 3) := by decide +kernel
theorem dX3_siteSignal_49 : decode cX3_siteSignal 49 = .ok (.iload_n 3, 1) := by decide +kernel
theorem dX3_siteSignal_50 : decode cX3_siteSignal 50 = .ok (.aload_n 0, 1) := by decide +kernel
theorem dX3_siteSignal_51 : decode cX3_siteSignal 51 = .ok (.getfield 11, 3) := by decide +kernel
theorem dX3_siteSignal_54 : decode cX3_siteSignal 54 = .ok (.arraylength, 1) := by decide +kernel
theorem dX3_siteSignal_55 : decode cX3_siteSignal 55 = .ok (.if_icmp .ge 12, 3) := by decide +kernel
theorem dX3_siteSignal_58 : decode cX3_siteSignal 58 = .ok (.iload_n 3, 1) := by decide +kernel
theorem dX3_siteSignal_59 : decode cX3_siteSignal 59 = .ok (.aload_n 0, 1) := by decide +kernel
theorem dX3_siteSignal_60 : decode cX3_siteSignal 60 = .ok (.getfield 15, 3) := by decide +kernel
theorem dX3_siteSignal_63 : decode cX3_siteSignal 63 = .ok (.arraylength, 1) := by decide +kernel
theorem dX3_siteSignal_64 : decode cX3_siteSignal 64 = .ok (.if_icmp .lt 5, 3) := by decide +kernel
theorem dX3_siteSignal_67 : decode cX3_siteSignal 67 = .ok (.iconst (-1), 1) := by decide +kernel
theorem dX3_siteSignal_68 : decode cX3_siteSignal 68 = .ok (.ireturn, 1) := by decide +kernel
theorem dX3_siteSignal_69 : decode cX3_siteSignal 69 = .ok (.aload_n 0, 1) := by decide +kernel
theorem dX3_siteSignal_70 : decode cX3_siteSignal 70 = .ok (.getfield 15, 3) := by decide +kernel
theorem dX3_siteSignal_73 : decode cX3_siteSignal 73 = .ok (.iload_n 3, 1) := by decide +kernel
theorem dX3_siteSignal_74 : decode cX3_siteSignal 74 = .ok (.iaload, 1) := by decide +kernel
theorem dX3_siteSignal_75 : decode cX3_siteSignal 75 = .ok (.aload_n 0, 1) := by decide +kernel
theorem dX3_siteSignal_76 : decode cX3_siteSignal 76 = .ok (.getfield 24, 3) := by decide +kernel
theorem dX3_siteSignal_79 : decode cX3_siteSignal 79 = .ok (.if_icmp .eq 72, 3) := by decide +kernel
theorem dX3_siteSignal_82 : decode cX3_siteSignal 82 = .ok (.aload_n 0, 1) := by decide +kernel
theorem dX3_siteSignal_83 : decode cX3_siteSignal 83 = .ok (.getfield 31, 3) := by decide +kernel
theorem dX3_siteSignal_86 : decode cX3_siteSignal 86 = .ok (.getfield 71, 3) := by decide +kernel
theorem dX3_siteSignal_89 : decode cX3_siteSignal 89 = .ok (.iload_n 2, 1) := by decide +kernel
theorem dX3_siteSignal_90 : decode cX3_siteSignal 90 = .ok (.iconst 0, 1) := by decide +kernel
theorem dX3_siteSignal_91 : decode cX3_siteSignal 91 = .ok (.invokevirtual 74, 3) := by decide +kernel
theorem dX3_siteSignal_94 : decode cX3_siteSignal 94 = .ok (.istore 4, 2) := by decide +kernel
theorem dX3_siteSignal_96 : decode cX3_siteSignal 96 = .ok (.aload_n 0, 1) := by decide +kernel
theorem dX3_siteSignal_97 : decode cX3_siteSignal 97 = .ok (.getfield 31, 3) := by decide +kernel
theorem dX3_siteSignal_100 : decode cX3_siteSignal 100 = .ok (.getfield 71, 3) := by decide +kernel
theorem dX3_siteSignal_103 : decode cX3_siteSignal 103 = .ok (.iload_n 2, 1) := by decide +kernel
theorem dX3_siteSignal_104 : decode cX3_siteSignal 104 = .ok (.iconst 1, 1) := by decide +kernel
theorem dX3_siteSignal_105 : decode cX3_siteSignal 105 = .ok (.invokevirtual 74, 3) := by decide +kernel
theorem dX3_siteSignal_108 : decode cX3_siteSignal 108 = .ok (.istore 5, 2) := by decide +kernel
theorem dX3_siteSignal_110 : decode cX3_siteSignal 110 = .ok (.aload_n 0, 1) := by decide +kernel
theorem dX3_siteSignal_111 : decode cX3_siteSignal 111 = .ok (.getfield 11, 3) := by decide +kernel
theorem dX3_siteSignal_114 : decode cX3_siteSignal 114 = .ok (.iload_n 3, 1) := by decide +kernel
theorem dX3_siteSignal_115 : decode cX3_siteSignal 115 = .ok (.aload_n 0, 1) := by decide +kernel
theorem dX3_siteSignal_116 : decode cX3_siteSignal 116 = .ok (.getfield 35, 3) := by decide +kernel
theorem dX3_siteSignal_119 : decode cX3_siteSignal 119 = .ok (.aload_n 0, 1) := by decide +kernel
theorem dX3_siteSignal_120 : decode cX3_siteSignal 120 = .ok (.getfield 31, 3) := by decide +kernel
theorem dX3_siteSignal_123 : decode cX3_siteSignal 123 = .ok (.getfield 63, 3) := by decide +kernel
theorem dX3_siteSignal_126 : decode cX3_siteSignal 126 = .ok (.iload_n 1, 1) := by decide +kernel
theorem dX3_siteSignal_127 : decode cX3_siteSignal 127 = .ok (.iconst 2, 1) := by decide +kernel
theorem dX3_siteSignal_128 : decode cX3_siteSignal 128 = .ok (.iload 4, 2) := by decide +kernel
theorem dX3_siteSignal_130 : decode cX3_siteSignal 130 = .ok (.iload 5, 2) := by decide +kernel
theorem dX3_siteSignal_132 : decode cX3_siteSignal 132 = .ok (.invokevirtual 57, 3) := by decide +kernel
theorem dX3_siteSignal_135 : decode cX3_siteSignal 135 = .ok (.iastore, 1) := by decide +kernel
theorem dX3_siteSignal_136 : decode cX3_siteSignal 136 = .ok (.aload_n 0, 1) := by decide +kernel
theorem dX3_siteSignal_137 : decode cX3_siteSignal 137 = .ok (.getfield 15, 3) := by decide +kernel
theorem dX3_siteSignal_140 : decode cX3_siteSignal 140 = .ok (.iload_n 3, 1) := by decide +kernel
theorem dX3_siteSignal_141 : decode cX3_siteSignal 141 = .ok (.aload_n 0, 1) := by decide +kernel
theorem dX3_siteSignal_142 : decode cX3_siteSignal 142 = .ok (.getfield 24, 3) := by decide +kernel
theorem dX3_siteSignal_145 : decode cX3_siteSignal 145 = .ok (.iastore, 1) := by decide +kernel
theorem dX3_siteSignal_146 : decode cX3_siteSignal 146 = .ok (.aload_n 0, 1) := by decide +kernel
theorem dX3_siteSignal_147 : decode cX3_siteSignal 147 = .ok (.iconst (-1), 1) := by decide +kernel
theorem dX3_siteSignal_148 : decode cX3_siteSignal 148 = .ok (.putfield 28, 3) := by decide +kernel
theorem dX3_siteSignal_151 : decode cX3_siteSignal 151 = .ok (.aload_n 0, 1) := by decide +kernel
theorem dX3_siteSignal_152 : decode cX3_siteSignal 152 = .ok (.getfield 11, 3) := by decide +kernel
theorem dX3_siteSignal_155 : decode cX3_siteSignal 155 = .ok (.iload_n 3, 1) := by decide +kernel
theorem dX3_siteSignal_156 : decode cX3_siteSignal 156 = .ok (.iaload, 1) := by decide +kernel
theorem dX3_siteSignal_157 : decode cX3_siteSignal 157 = .ok (.ireturn, 1) := by decide +kernel
theorem dX3_list_0 : decode cX3_list 0 = .ok (.aload_n 0, 1) := by decide +kernel
theorem dX3_list_1 : decode cX3_list 1 = .ok (.getfield 31, 3) := by decide +kernel
theorem dX3_list_4 : decode cX3_list 4 = .ok (.iload_n 1, 1) := by decide +kernel
theorem dX3_list_5 : decode cX3_list 5 = .ok (.invokevirtual 39, 3) := by decide +kernel
theorem dX3_list_8 : decode cX3_list 8 = .ok (.ifCond .eq 11, 3) := by decide +kernel
theorem dX3_list_11 : decode cX3_list 11 = .ok (.iload_n 2, 1) := by decide +kernel
theorem dX3_list_12 : decode cX3_list 12 = .ok (.iload_n 3, 1) := by decide +kernel
theorem dX3_list_13 : decode cX3_list 13 = .ok (.invokestatic 45, 3) := by decide +kernel
theorem dX3_list_16 : decode cX3_list 16 = .ok (.ifCond .ne 5, 3) := by decide +kernel
theorem dX3_list_19 : decode cX3_list 19 = .ok (.iconst 0, 1) := by decide +kernel
theorem dX3_list_20 : decode cX3_list 20 = .ok (.ireturn, 1) := by decide +kernel
theorem dX3_list_21 : decode cX3_list 21 = .ok (.iload_n 1, 1) := by decide +kernel
theorem dX3_list_22 : decode cX3_list 22 = .ok (.iload_n 2, 1) := by decide +kernel
theorem dX3_list_23 : decode cX3_list 23 = .ok (.iload_n 3, 1) := by decide +kernel
theorem dX3_list_24 : decode cX3_list 24 = .ok (.invokestatic 49, 3) := by decide +kernel
theorem dX3_list_27 : decode cX3_list 27 = .ok (.istore 4, 2) := by decide +kernel
theorem dX3_list_29 : decode cX3_list 29 = .ok (.aload_n 0, 1) := by decide +kernel
theorem dX3_list_30 : decode cX3_list 30 = .ok (.getfield 28, 3) := by decide +kernel
theorem dX3_list_33 : decode cX3_list 33 = .ok (.iload 4, 2) := by decide +kernel
theorem dX3_list_35 : decode cX3_list 35 = .ok (.if_icmp .eq 35, 3) := by decide +kernel
theorem dX3_list_38 : decode cX3_list 38 = .ok (.aload_n 0, 1) := by decide +kernel
theorem dX3_list_39 : decode cX3_list 39 = .ok (.getfield 35, 3) := by decide +kernel
theorem dX3_list_42 : decode cX3_list 42 = .ok (.aload_n 0, 1) := by decide +kernel
theorem dX3_list_43 : decode cX3_list 43 = .ok (.getfield 31, 3) := by decide +kernel
theorem dX3_list_46 : decode cX3_list 46 = .ok (.getfield 53, 3) := by decide +kernel
theorem dX3_list_49 : decode cX3_list 49 = .ok (.iload_n 1, 1) := by decide +kernel
theorem dX3_list_50 : decode cX3_list 50 = .ok (.iconst 3, 1) := by decide +kernel
theorem dX3_list_51 : decode cX3_list 51 = .ok (.iload_n 2, 1) := by decide +kernel
theorem dX3_list_52 : decode cX3_list 52 = .ok (.iload_n 3, 1) := by decide +kernel
theorem dX3_list_53 : decode cX3_list 53 = .ok (.invokevirtual 57, 3) := by decide +kernel
theorem dX3_list_56 : decode cX3_list 56 = .ok (.pop, 1) := by decide +kernel
theorem dX3_list_57 : decode cX3_list 57 = .ok (.aload_n 0, 1) := by decide +kernel
theorem dX3_list_58 : decode cX3_list 58 = .ok (.getfield 35, 3) := by decide +kernel
theorem dX3_list_61 : decode cX3_list 61 = .ok (.invokevirtual 78, 3) := by decide +kernel
theorem dX3_list_64 : decode cX3_list 64 = .ok (.aload_n 0, 1) := by decide +kernel
theorem dX3_list_65 : decode cX3_list 65 = .ok (.iload 4, 2) := by decide +kernel
theorem dX3_list_67 : decode cX3_list 67 = .ok (.putfield 28, 3) := by decide +kernel
theorem dX3_list_70 : decode cX3_list 70 = .ok (.iconst 1, 1) := by decide +kernel
theorem dX3_list_71 : decode cX3_list 71 = .ok (.ireturn, 1) := by decide +kernel
theorem dX3_listen_0 : decode cX3_listen 0 = .ok (.iconst 0, 1) := by decide +kernel
theorem dX3_listen_1 : decode cX3_listen 1 = .ok (.istore_n 3, 1) := by decide +kernel
theorem dX3_listen_2 : decode cX3_listen 2 = .ok (.iload_n 3, 1) := by decide +kernel
theorem dX3_listen_3 : decode cX3_listen 3 = .ok (.aload_n 0, 1) := by decide +kernel
theorem dX3_listen_4 : decode cX3_listen 4 = .ok (.getfield 18, 3) := by decide +kernel
theorem dX3_listen_7 : decode cX3_listen 7 = .ok (.arraylength, 1) := by decide +kernel
theorem dX3_listen_8 : decode cX3_listen 8 = .ok (.if_icmp .ge 26, 3) := by decide +kernel
theorem dX3_listen_11 : decode cX3_listen 11 = .ok (.aload_n 0, 1) := by decide +kernel
theorem dX3_listen_12 : decode cX3_listen 12 = .ok (.getfield 18, 3) := by decide +kernel
theorem dX3_listen_15 : decode cX3_listen 15 = .ok (.iload_n 3, 1) := by decide +kernel
theorem dX3_listen_16 : decode cX3_listen 16 = .ok (.iconst 0, 1) := by decide +kernel
theorem dX3_listen_17 : decode cX3_listen 17 = .ok (.aload_n 0, 1) := by decide +kernel
theorem dX3_listen_18 : decode cX3_listen 18 = .ok (.iload_n 3, 1) := by decide +kernel
theorem dX3_listen_19 : decode cX3_listen 19 = .ok (.iload_n 1, 1) := by decide +kernel
theorem dX3_listen_20 : decode cX3_listen 20 = .ok (.iload_n 2, 1) := by decide +kernel
theorem dX3_listen_21 : decode cX3_listen 21 = .ok (.invokevirtual 81, 3) := by decide +kernel
theorem dX3_listen_24 : decode cX3_listen 24 = .ok (.invokestatic 84, 3) := by decide +kernel
theorem dX3_listen_27 : decode cX3_listen 27 = .ok (.iastore, 1) := by decide +kernel
theorem dX3_listen_28 : decode cX3_listen 28 = .ok (.iinc 3 1, 3) := by decide +kernel
theorem dX3_listen_31 : decode cX3_listen 31 = .ok (.goto (-29), 3) := by decide +kernel
theorem dX3_listen_34 : decode cX3_listen 34 = .ok (.return_, 1) := by decide +kernel
theorem dX3_isHeard_0 : decode cX3_isHeard 0 = .ok (.iload_n 1, 1) := by decide +kernel
theorem dX3_isHeard_1 : decode cX3_isHeard 1 = .ok (.ifCond .lt 21, 3) := by decide +kernel
theorem dX3_isHeard_4 : decode cX3_isHeard 4 = .ok (.iload_n 1, 1) := by decide +kernel
theorem dX3_isHeard_5 : decode cX3_isHeard 5 = .ok (.aload_n 0, 1) := by decide +kernel
theorem dX3_isHeard_6 : decode cX3_isHeard 6 = .ok (.getfield 18, 3) := by decide +kernel
theorem dX3_isHeard_9 : decode cX3_isHeard 9 = .ok (.arraylength, 1) := by decide +kernel
theorem dX3_isHeard_10 : decode cX3_isHeard 10 = .ok (.if_icmp .ge 12, 3) := by decide +kernel
theorem dX3_isHeard_13 : decode cX3_isHeard 13 = .ok (.aload_n 0, 1) := by decide +kernel
theorem dX3_isHeard_14 : decode cX3_isHeard 14 = .ok (.getfield 18, 3) := by decide +kernel
theorem dX3_isHeard_17 : decode cX3_isHeard 17 = .ok (.iload_n 1, 1) := by decide +kernel
theorem dX3_isHeard_18 : decode cX3_isHeard 18 = .ok (.iaload, 1) := by decide +kernel
theorem dX3_isHeard_19 : decode cX3_isHeard 19 = .ok (.ifCond .gt 5, 3) := by decide +kernel
theorem dX3_isHeard_22 : decode cX3_isHeard 22 = .ok (.iconst 0, 1) := by decide +kernel
theorem dX3_isHeard_23 : decode cX3_isHeard 23 = .ok (.ireturn, 1) := by decide +kernel
theorem dX3_isHeard_24 : decode cX3_isHeard 24 = .ok (.aload_n 0, 1) := by decide +kernel
theorem dX3_isHeard_25 : decode cX3_isHeard 25 = .ok (.getfield 31, 3) := by decide +kernel
theorem dX3_isHeard_28 : decode cX3_isHeard 28 = .ok (.getfield 53, 3) := by decide +kernel
theorem dX3_isHeard_31 : decode cX3_isHeard 31 = .ok (.iload_n 1, 1) := by decide +kernel
theorem dX3_isHeard_32 : decode cX3_isHeard 32 = .ok (.iconst 2, 1) := by decide +kernel
theorem dX3_isHeard_33 : decode cX3_isHeard 33 = .ok (.invokevirtual 74, 3) := by decide +kernel
theorem dX3_isHeard_36 : decode cX3_isHeard 36 = .ok (.istore_n 2, 1) := by decide +kernel
theorem dX3_isHeard_37 : decode cX3_isHeard 37 = .ok (.aload_n 0, 1) := by decide +kernel
theorem dX3_isHeard_38 : decode cX3_isHeard 38 = .ok (.getfield 31, 3) := by decide +kernel
theorem dX3_isHeard_41 : decode cX3_isHeard 41 = .ok (.iconst 2, 1) := by decide +kernel
theorem dX3_isHeard_42 : decode cX3_isHeard 42 = .ok (.invokevirtual 89, 3) := by decide +kernel
theorem dX3_isHeard_45 : decode cX3_isHeard 45 = .ok (.i2l, 1) := by decide +kernel
theorem dX3_isHeard_46 : decode cX3_isHeard 46 = .ok (.lstore_n 3, 1) := by decide +kernel
theorem dX3_isHeard_47 : decode cX3_isHeard 47 = .ok (.iconst 0, 1) := by decide +kernel
theorem dX3_isHeard_48 : decode cX3_isHeard 48 = .ok (.istore 5, 2) := by decide +kernel
theorem dX3_isHeard_50 : decode cX3_isHeard 50 = .ok (.iload 5, 2) := by decide +kernel
theorem dX3_isHeard_52 : decode cX3_isHeard 52 = .ok (.aload_n 0, 1) := by decide +kernel
theorem dX3_isHeard_53 : decode cX3_isHeard 53 = .ok (.getfield 18, 3) := by decide +kernel
theorem dX3_isHeard_56 : decode cX3_isHeard 56 = .ok (.arraylength, 1) := by decide +kernel
theorem dX3_isHeard_57 : decode cX3_isHeard 57 = .ok (.if_icmp .ge 43, 3) := by decide +kernel
theorem dX3_isHeard_60 : decode cX3_isHeard 60 = .ok (.iload 5, 2) := by decide +kernel
theorem dX3_isHeard_62 : decode cX3_isHeard 62 = .ok (.iload_n 1, 1) := by decide +kernel
theorem dX3_isHeard_63 : decode cX3_isHeard 63 = .ok (.if_icmp .eq 31, 3) := by decide +kernel
theorem dX3_isHeard_66 : decode cX3_isHeard 66 = .ok (.aload_n 0, 1) := by decide +kernel
theorem dX3_isHeard_67 : decode cX3_isHeard 67 = .ok (.getfield 31, 3) := by decide +kernel
theorem dX3_isHeard_70 : decode cX3_isHeard 70 = .ok (.getfield 53, 3) := by decide +kernel
theorem dX3_isHeard_73 : decode cX3_isHeard 73 = .ok (.iload 5, 2) := by decide +kernel
theorem dX3_isHeard_75 : decode cX3_isHeard 75 = .ok (.iconst 2, 1) := by decide +kernel
theorem dX3_isHeard_76 : decode cX3_isHeard 76 = .ok (.invokevirtual 74, 3) := by decide +kernel
theorem dX3_isHeard_79 : decode cX3_isHeard 79 = .ok (.iload_n 2, 1) := by decide +kernel
theorem dX3_isHeard_80 : decode cX3_isHeard 80 = .ok (.if_icmp .ne 14, 3) := by decide +kernel
theorem dX3_isHeard_83 : decode cX3_isHeard 83 = .ok (.lload_n 3, 1) := by decide +kernel
theorem dX3_isHeard_84 : decode cX3_isHeard 84 = .ok (.aload_n 0, 1) := by decide +kernel
theorem dX3_isHeard_85 : decode cX3_isHeard 85 = .ok (.getfield 18, 3) := by decide +kernel
theorem dX3_isHeard_88 : decode cX3_isHeard 88 = .ok (.iload 5, 2) := by decide +kernel
theorem dX3_isHeard_90 : decode cX3_isHeard 90 = .ok (.iaload, 1) := by decide +kernel
theorem dX3_isHeard_91 : decode cX3_isHeard 91 = .ok (.i2l, 1) := by decide +kernel
theorem dX3_isHeard_92 : decode cX3_isHeard 92 = .ok (.ladd, 1) := by decide +kernel
theorem dX3_isHeard_93 : decode cX3_isHeard 93 = .ok (.lstore_n 3, 1) := by decide +kernel
theorem dX3_isHeard_94 : decode cX3_isHeard 94 = .ok (.iinc 5 1, 3) := by decide +kernel
theorem dX3_isHeard_97 : decode cX3_isHeard 97 = .ok (.goto (-47), 3) := by decide +kernel
theorem dX3_isHeard_100 : decode cX3_isHeard 100 = .ok (.aload_n 0, 1) := by decide +kernel
theorem dX3_isHeard_101 : decode cX3_isHeard 101 = .ok (.getfield 18, 3) := by decide +kernel
theorem dX3_isHeard_104 : decode cX3_isHeard 104 = .ok (.iload_n 1, 1) := by decide +kernel
theorem dX3_isHeard_105 : decode cX3_isHeard 105 = .ok (.iaload, 1) := by decide +kernel
theorem dX3_isHeard_106 : decode cX3_isHeard 106 = .ok (.i2l, 1) := by decide +kernel
theorem dX3_isHeard_107 : decode cX3_isHeard 107 = .ok (.ldc2_w 93, 3) := by decide +kernel
theorem dX3_isHeard_110 : decode cX3_isHeard 110 = .ok (.lmul, 1) := by decide +kernel
theorem dX3_isHeard_111 : decode cX3_isHeard 111 = .ok (.aload_n 0, 1) := by decide +kernel
theorem dX3_isHeard_112 : decode cX3_isHeard 112 = .ok (.getfield 31, 3) := by decide +kernel
theorem dX3_isHeard_115 : decode cX3_isHeard 115 = .ok (.iconst 3, 1) := by decide +kernel
theorem dX3_isHeard_116 : decode cX3_isHeard 116 = .ok (.invokevirtual 89, 3) := by decide +kernel
theorem dX3_isHeard_119 : decode cX3_isHeard 119 = .ok (.i2l, 1) := by decide +kernel
theorem dX3_isHeard_120 : decode cX3_isHeard 120 = .ok (.lload_n 3, 1) := by decide +kernel
theorem dX3_isHeard_121 : decode cX3_isHeard 121 = .ok (.lmul, 1) := by decide +kernel
theorem dX3_isHeard_122 : decode cX3_isHeard 122 = .ok (.lcmp, 1) := by decide +kernel
theorem dX3_isHeard_123 : decode cX3_isHeard 123 = .ok (.ifCond .lt 7, 3) := by decide +kernel
theorem dX3_isHeard_126 : decode cX3_isHeard 126 = .ok (.iconst 1, 1) := by decide +kernel
theorem dX3_isHeard_127 : decode cX3_isHeard 127 = .ok (.goto 4, 3) := by decide +kernel
theorem dX3_isHeard_130 : decode cX3_isHeard 130 = .ok (.iconst 0, 1) := by decide +kernel
theorem dX3_isHeard_131 : decode cX3_isHeard 131 = .ok (.ireturn, 1) := by decide +kernel
theorem dX3_heardBits_0 : decode cX3_heardBits 0 = .ok (.iconst 0, 1) := by decide +kernel
theorem dX3_heardBits_1 : decode cX3_heardBits 1 = .ok (.istore_n 1, 1) := by decide +kernel
theorem dX3_heardBits_2 : decode cX3_heardBits 2 = .ok (.iconst 0, 1) := by decide +kernel
theorem dX3_heardBits_3 : decode cX3_heardBits 3 = .ok (.istore_n 2, 1) := by decide +kernel
theorem dX3_heardBits_4 : decode cX3_heardBits 4 = .ok (.iload_n 2, 1) := by decide +kernel
theorem dX3_heardBits_5 : decode cX3_heardBits 5 = .ok (.aload_n 0, 1) := by decide +kernel
theorem dX3_heardBits_6 : decode cX3_heardBits 6 = .ok (.getfield 18, 3) := by decide +kernel
theorem dX3_heardBits_9 : decode cX3_heardBits 9 = .ok (.arraylength, 1) := by decide +kernel
theorem dX3_heardBits_10 : decode cX3_heardBits 10 = .ok (.if_icmp .ge 27, 3) := by decide +kernel
theorem dX3_heardBits_13 : decode cX3_heardBits 13 = .ok (.iload_n 1, 1) := by decide +kernel
theorem dX3_heardBits_14 : decode cX3_heardBits 14 = .ok (.aload_n 0, 1) := by decide +kernel
theorem dX3_heardBits_15 : decode cX3_heardBits 15 = .ok (.iload_n 2, 1) := by decide +kernel
theorem dX3_heardBits_16 : decode cX3_heardBits 16 = .ok (.invokevirtual 95, 3) := by decide +kernel
theorem dX3_heardBits_19 : decode cX3_heardBits 19 = .ok (.ifCond .eq 9, 3) := by decide +kernel
theorem dX3_heardBits_22 : decode cX3_heardBits 22 = .ok (.iconst 1, 1) := by decide +kernel
theorem dX3_heardBits_23 : decode cX3_heardBits 23 = .ok (.iload_n 2, 1) := by decide +kernel
theorem dX3_heardBits_24 : decode cX3_heardBits 24 = .ok (.ishl, 1) := by decide +kernel
theorem dX3_heardBits_25 : decode cX3_heardBits 25 = .ok (.goto 4, 3) := by decide +kernel
theorem dX3_heardBits_28 : decode cX3_heardBits 28 = .ok (.iconst 0, 1) := by decide +kernel
theorem dX3_heardBits_29 : decode cX3_heardBits 29 = .ok (.ior, 1) := by decide +kernel
theorem dX3_heardBits_30 : decode cX3_heardBits 30 = .ok (.istore_n 1, 1) := by decide +kernel
theorem dX3_heardBits_31 : decode cX3_heardBits 31 = .ok (.iinc 2 1, 3) := by decide +kernel
theorem dX3_heardBits_34 : decode cX3_heardBits 34 = .ok (.goto (-30), 3) := by decide +kernel
theorem dX3_heardBits_37 : decode cX3_heardBits 37 = .ok (.iload_n 1, 1) := by decide +kernel
theorem dX3_heardBits_38 : decode cX3_heardBits 38 = .ok (.ireturn, 1) := by decide +kernel
theorem dX3_bestHeard_0 : decode cX3_bestHeard 0 = .ok (.iconst (-1), 1) := by decide +kernel
theorem dX3_bestHeard_1 : decode cX3_bestHeard 1 = .ok (.istore_n 1, 1) := by decide +kernel
theorem dX3_bestHeard_2 : decode cX3_bestHeard 2 = .ok (.iconst 0, 1) := by decide +kernel
theorem dX3_bestHeard_3 : decode cX3_bestHeard 3 = .ok (.istore_n 2, 1) := by decide +kernel
theorem dX3_bestHeard_4 : decode cX3_bestHeard 4 = .ok (.iconst 0, 1) := by decide +kernel
theorem dX3_bestHeard_5 : decode cX3_bestHeard 5 = .ok (.istore_n 3, 1) := by decide +kernel
theorem dX3_bestHeard_6 : decode cX3_bestHeard 6 = .ok (.iload_n 3, 1) := by decide +kernel
theorem dX3_bestHeard_7 : decode cX3_bestHeard 7 = .ok (.aload_n 0, 1) := by decide +kernel
theorem dX3_bestHeard_8 : decode cX3_bestHeard 8 = .ok (.getfield 18, 3) := by decide +kernel
theorem dX3_bestHeard_11 : decode cX3_bestHeard 11 = .ok (.arraylength, 1) := by decide +kernel
theorem dX3_bestHeard_12 : decode cX3_bestHeard 12 = .ok (.if_icmp .ge 36, 3) := by decide +kernel
theorem dX3_bestHeard_15 : decode cX3_bestHeard 15 = .ok (.aload_n 0, 1) := by decide +kernel
theorem dX3_bestHeard_16 : decode cX3_bestHeard 16 = .ok (.getfield 18, 3) := by decide +kernel
theorem dX3_bestHeard_19 : decode cX3_bestHeard 19 = .ok (.iload_n 3, 1) := by decide +kernel
theorem dX3_bestHeard_20 : decode cX3_bestHeard 20 = .ok (.iaload, 1) := by decide +kernel
theorem dX3_bestHeard_21 : decode cX3_bestHeard 21 = .ok (.iload_n 2, 1) := by decide +kernel
theorem dX3_bestHeard_22 : decode cX3_bestHeard 22 = .ok (.if_icmp .le 20, 3) := by decide +kernel
theorem dX3_bestHeard_25 : decode cX3_bestHeard 25 = .ok (.aload_n 0, 1) := by decide +kernel
theorem dX3_bestHeard_26 : decode cX3_bestHeard 26 = .ok (.iload_n 3, 1) := by decide +kernel
theorem dX3_bestHeard_27 : decode cX3_bestHeard 27 = .ok (.invokevirtual 95, 3) := by decide +kernel
theorem dX3_bestHeard_30 : decode cX3_bestHeard 30 = .ok (.ifCond .eq 12, 3) := by decide +kernel
theorem dX3_bestHeard_33 : decode cX3_bestHeard 33 = .ok (.iload_n 3, 1) := by decide +kernel
theorem dX3_bestHeard_34 : decode cX3_bestHeard 34 = .ok (.istore_n 1, 1) := by decide +kernel
theorem dX3_bestHeard_35 : decode cX3_bestHeard 35 = .ok (.aload_n 0, 1) := by decide +kernel
theorem dX3_bestHeard_36 : decode cX3_bestHeard 36 = .ok (.getfield 18, 3) := by decide +kernel
theorem dX3_bestHeard_39 : decode cX3_bestHeard 39 = .ok (.iload_n 3, 1) := by decide +kernel
theorem dX3_bestHeard_40 : decode cX3_bestHeard 40 = .ok (.iaload, 1) := by decide +kernel
theorem dX3_bestHeard_41 : decode cX3_bestHeard 41 = .ok (.istore_n 2, 1) := by decide +kernel
theorem dX3_bestHeard_42 : decode cX3_bestHeard 42 = .ok (.iinc 3 1, 3) := by decide +kernel
theorem dX3_bestHeard_45 : decode cX3_bestHeard 45 = .ok (.goto (-39), 3) := by decide +kernel
theorem dX3_bestHeard_48 : decode cX3_bestHeard 48 = .ok (.iload_n 1, 1) := by decide +kernel
theorem dX3_bestHeard_49 : decode cX3_bestHeard 49 = .ok (.ireturn, 1) := by decide +kernel
theorem dX3_isWish_0 : decode cX3_isWish 0 = .ok (.iload_n 1, 1) := by decide +kernel
theorem dX3_isWish_1 : decode cX3_isWish 1 = .ok (.iload_n 2, 1) := by decide +kernel
theorem dX3_isWish_2 : decode cX3_isWish 2 = .ok (.if_icmp .eq 29, 3) := by decide +kernel
theorem dX3_isWish_5 : decode cX3_isWish 5 = .ok (.iload_n 1, 1) := by decide +kernel
theorem dX3_isWish_6 : decode cX3_isWish 6 = .ok (.ifCond .lt 25, 3) := by decide +kernel
theorem dX3_isWish_9 : decode cX3_isWish 9 = .ok (.iload_n 1, 1) := by decide +kernel
theorem dX3_isWish_10 : decode cX3_isWish 10 = .ok (.aload_n 0, 1) := by decide +kernel
theorem dX3_isWish_11 : decode cX3_isWish 11 = .ok (.getfield 18, 3) := by decide +kernel
theorem dX3_isWish_14 : decode cX3_isWish 14 = .ok (.arraylength, 1) := by decide +kernel
theorem dX3_isWish_15 : decode cX3_isWish 15 = .ok (.if_icmp .ge 16, 3) := by decide +kernel
theorem dX3_isWish_18 : decode cX3_isWish 18 = .ok (.iload_n 2, 1) := by decide +kernel
theorem dX3_isWish_19 : decode cX3_isWish 19 = .ok (.ifCond .lt 12, 3) := by decide +kernel
theorem dX3_isWish_22 : decode cX3_isWish 22 = .ok (.iload_n 2, 1) := by decide +kernel
theorem dX3_isWish_23 : decode cX3_isWish 23 = .ok (.aload_n 0, 1) := by decide +kernel
theorem dX3_isWish_24 : decode cX3_isWish 24 = .ok (.getfield 18, 3) := by decide +kernel
theorem dX3_isWish_27 : decode cX3_isWish 27 = .ok (.arraylength, 1) := by decide +kernel
theorem dX3_isWish_28 : decode cX3_isWish 28 = .ok (.if_icmp .lt 5, 3) := by decide +kernel
theorem dX3_isWish_31 : decode cX3_isWish 31 = .ok (.iconst 0, 1) := by decide +kernel
theorem dX3_isWish_32 : decode cX3_isWish 32 = .ok (.ireturn, 1) := by decide +kernel
theorem dX3_isWish_33 : decode cX3_isWish 33 = .ok (.aload_n 0, 1) := by decide +kernel
theorem dX3_isWish_34 : decode cX3_isWish 34 = .ok (.getfield 18, 3) := by decide +kernel
theorem dX3_isWish_37 : decode cX3_isWish 37 = .ok (.iload_n 1, 1) := by decide +kernel
theorem dX3_isWish_38 : decode cX3_isWish 38 = .ok (.iaload, 1) := by decide +kernel
theorem dX3_isWish_39 : decode cX3_isWish 39 = .ok (.i2l, 1) := by decide +kernel
theorem dX3_isWish_40 : decode cX3_isWish 40 = .ok (.ldc2_w 93, 3) := by decide +kernel
theorem dX3_isWish_43 : decode cX3_isWish 43 = .ok (.lmul, 1) := by decide +kernel
theorem dX3_isWish_44 : decode cX3_isWish 44 = .ok (.ldc2_w 93, 3) := by decide +kernel
theorem dX3_isWish_47 : decode cX3_isWish 47 = .ok (.aload_n 0, 1) := by decide +kernel
theorem dX3_isWish_48 : decode cX3_isWish 48 = .ok (.getfield 31, 3) := by decide +kernel
theorem dX3_isWish_51 : decode cX3_isWish 51 = .ok (.iconst 5, 1) := by decide +kernel
theorem dX3_isWish_52 : decode cX3_isWish 52 = .ok (.invokevirtual 89, 3) := by decide +kernel
theorem dX3_isWish_55 : decode cX3_isWish 55 = .ok (.i2l, 1) := by decide +kernel
theorem dX3_isWish_56 : decode cX3_isWish 56 = .ok (.ladd, 1) := by decide +kernel
theorem dX3_isWish_57 : decode cX3_isWish 57 = .ok (.aload_n 0, 1) := by decide +kernel
theorem dX3_isWish_58 : decode cX3_isWish 58 = .ok (.getfield 18, 3) := by decide +kernel
theorem dX3_isWish_61 : decode cX3_isWish 61 = .ok (.iload_n 2, 1) := by decide +kernel
theorem dX3_isWish_62 : decode cX3_isWish 62 = .ok (.iaload, 1) := by decide +kernel
theorem dX3_isWish_63 : decode cX3_isWish 63 = .ok (.i2l, 1) := by decide +kernel
theorem dX3_isWish_64 : decode cX3_isWish 64 = .ok (.lmul, 1) := by decide +kernel
theorem dX3_isWish_65 : decode cX3_isWish 65 = .ok (.lcmp, 1) := by decide +kernel
theorem dX3_isWish_66 : decode cX3_isWish 66 = .ok (.ifCond .le 7, 3) := by decide +kernel
theorem dX3_isWish_69 : decode cX3_isWish 69 = .ok (.iconst 1, 1) := by decide +kernel
theorem dX3_isWish_70 : decode cX3_isWish 70 = .ok (.goto 4, 3) := by decide +kernel
theorem dX3_isWish_73 : decode cX3_isWish 73 = .ok (.iconst 0, 1) := by decide +kernel
theorem dX3_isWish_74 : decode cX3_isWish 74 = .ok (.ireturn, 1) := by decide +kernel
theorem dX3_followWalk_0 : decode cX3_followWalk 0 = .ok (.iconst (-1), 1) := by decide +kernel
theorem dX3_followWalk_1 : decode cX3_followWalk 1 = .ok (.istore_n 1, 1) := by decide +kernel
theorem dX3_followWalk_2 : decode cX3_followWalk 2 = .ok (.iconst 0, 1) := by decide +kernel
theorem dX3_followWalk_3 : decode cX3_followWalk 3 = .ok (.istore_n 2, 1) := by decide +kernel
theorem dX3_followWalk_4 : decode cX3_followWalk 4 = .ok (.iconst 0, 1) := by decide +kernel
theorem dX3_followWalk_5 : decode cX3_followWalk 5 = .ok (.istore_n 3, 1) := by decide +kernel
theorem dX3_followWalk_6 : decode cX3_followWalk 6 = .ok (.iload_n 3, 1) := by decide +kernel
theorem dX3_followWalk_7 : decode cX3_followWalk 7 = .ok (.aload_n 0, 1) := by decide +kernel
theorem dX3_followWalk_8 : decode cX3_followWalk 8 = .ok (.getfield 31, 3) := by decide +kernel
theorem dX3_followWalk_11 : decode cX3_followWalk 11 = .ok (.getfield 98, 3) := by decide +kernel
theorem dX3_followWalk_14 : decode cX3_followWalk 14 = .ok (.invokevirtual 101, 3) := by decide +kernel
theorem dX3_followWalk_17 : decode cX3_followWalk 17 = .ok (.if_icmp .ge 125, 3) := by decide +kernel
theorem dX3_followWalk_20 : decode cX3_followWalk 20 = .ok (.iload_n 3, 1) := by decide +kernel
theorem dX3_followWalk_21 : decode cX3_followWalk 21 = .ok (.aload_n 0, 1) := by decide +kernel
theorem dX3_followWalk_22 : decode cX3_followWalk 22 = .ok (.getfield 21, 3) := by decide +kernel
theorem dX3_followWalk_25 : decode cX3_followWalk 25 = .ok (.arraylength, 1) := by decide +kernel
theorem dX3_followWalk_26 : decode cX3_followWalk 26 = .ok (.if_icmp .ge 116, 3) := by decide +kernel
theorem dX3_followWalk_29 : decode cX3_followWalk 29 = .ok (.aload_n 0, 1) := by decide +kernel
theorem dX3_followWalk_30 : decode cX3_followWalk 30 = .ok (.aload_n 0, 1) := by decide +kernel
theorem dX3_followWalk_31 : decode cX3_followWalk 31 = .ok (.getfield 31, 3) := by decide +kernel
theorem dX3_followWalk_34 : decode cX3_followWalk 34 = .ok (.getfield 98, 3) := by decide +kernel
theorem dX3_followWalk_37 : decode cX3_followWalk 37 = .ok (.iload_n 3, 1) := by decide +kernel
theorem dX3_followWalk_38 : decode cX3_followWalk 38 = .ok (.iconst 0, 1) := by decide +kernel
theorem dX3_followWalk_39 : decode cX3_followWalk 39 = .ok (.invokevirtual 74, 3) := by decide +kernel
theorem dX3_followWalk_42 : decode cX3_followWalk 42 = .ok (.aload_n 0, 1) := by decide +kernel
theorem dX3_followWalk_43 : decode cX3_followWalk 43 = .ok (.getfield 31, 3) := by decide +kernel
theorem dX3_followWalk_46 : decode cX3_followWalk 46 = .ok (.getfield 98, 3) := by decide +kernel
theorem dX3_followWalk_49 : decode cX3_followWalk 49 = .ok (.iload_n 3, 1) := by decide +kernel
theorem dX3_followWalk_50 : decode cX3_followWalk 50 = .ok (.iconst 1, 1) := by decide +kernel
theorem dX3_followWalk_51 : decode cX3_followWalk 51 = .ok (.invokevirtual 74, 3) := by decide +kernel
theorem dX3_followWalk_54 : decode cX3_followWalk 54 = .ok (.invokevirtual 105, 3) := by decide +kernel
theorem dX3_followWalk_57 : decode cX3_followWalk 57 = .ok (.aload_n 0, 1) := by decide +kernel
theorem dX3_followWalk_58 : decode cX3_followWalk 58 = .ok (.invokevirtual 109, 3) := by decide +kernel
theorem dX3_followWalk_61 : decode cX3_followWalk 61 = .ok (.istore 4, 2) := by decide +kernel
theorem dX3_followWalk_63 : decode cX3_followWalk 63 = .ok (.iload_n 1, 1) := by decide +kernel
theorem dX3_followWalk_64 : decode cX3_followWalk 64 = .ok (.iconst (-1), 1) := by decide +kernel
theorem dX3_followWalk_65 : decode cX3_followWalk 65 = .ok (.if_icmp .eq 15, 3) := by decide +kernel
theorem dX3_followWalk_68 : decode cX3_followWalk 68 = .ok (.aload_n 0, 1) := by decide +kernel
theorem dX3_followWalk_69 : decode cX3_followWalk 69 = .ok (.iload_n 1, 1) := by decide +kernel
theorem dX3_followWalk_70 : decode cX3_followWalk 70 = .ok (.invokevirtual 95, 3) := by decide +kernel
theorem dX3_followWalk_73 : decode cX3_followWalk 73 = .ok (.ifCond .eq 7, 3) := by decide +kernel
theorem dX3_followWalk_76 : decode cX3_followWalk 76 = .ok (.iconst 1, 1) := by decide +kernel
theorem dX3_followWalk_77 : decode cX3_followWalk 77 = .ok (.goto 4, 3) := by decide +kernel
theorem dX3_followWalk_80 : decode cX3_followWalk 80 = .ok (.iconst 0, 1) := by decide +kernel
theorem dX3_followWalk_81 : decode cX3_followWalk 81 = .ok (.istore 5, 2) := by decide +kernel
theorem dX3_followWalk_83 : decode cX3_followWalk 83 = .ok (.iload 5, 2) := by decide +kernel
theorem dX3_followWalk_85 : decode cX3_followWalk 85 = .ok (.ifCond .eq 19, 3) := by decide +kernel
theorem dX3_followWalk_88 : decode cX3_followWalk 88 = .ok (.aload_n 0, 1) := by decide +kernel
theorem dX3_followWalk_89 : decode cX3_followWalk 89 = .ok (.iload 4, 2) := by decide +kernel
theorem dX3_followWalk_91 : decode cX3_followWalk 91 = .ok (.iload_n 1, 1) := by decide +kernel
theorem dX3_followWalk_92 : decode cX3_followWalk 92 = .ok (.invokevirtual 112, 3) := by decide +kernel
theorem dX3_followWalk_95 : decode cX3_followWalk 95 = .ok (.ifCond .eq 9, 3) := by decide +kernel
theorem dX3_followWalk_98 : decode cX3_followWalk 98 = .ok (.iload_n 2, 1) := by decide +kernel
theorem dX3_followWalk_99 : decode cX3_followWalk 99 = .ok (.iconst 1, 1) := by decide +kernel
theorem dX3_followWalk_100 : decode cX3_followWalk 100 = .ok (.iadd, 1) := by decide +kernel
theorem dX3_followWalk_101 : decode cX3_followWalk 101 = .ok (.goto 4, 3) := by decide +kernel
theorem dX3_followWalk_104 : decode cX3_followWalk 104 = .ok (.iconst 0, 1) := by decide +kernel
theorem dX3_followWalk_105 : decode cX3_followWalk 105 = .ok (.istore_n 2, 1) := by decide +kernel
theorem dX3_followWalk_106 : decode cX3_followWalk 106 = .ok (.iload 5, 2) := by decide +kernel
theorem dX3_followWalk_108 : decode cX3_followWalk 108 = .ok (.ifCond .eq 16, 3) := by decide +kernel
theorem dX3_followWalk_111 : decode cX3_followWalk 111 = .ok (.iload_n 2, 1) := by decide +kernel
theorem dX3_followWalk_112 : decode cX3_followWalk 112 = .ok (.aload_n 0, 1) := by decide +kernel
theorem dX3_followWalk_113 : decode cX3_followWalk 113 = .ok (.getfield 31, 3) := by decide +kernel
theorem dX3_followWalk_116 : decode cX3_followWalk 116 = .ok (.bipush 6, 2) := by decide +kernel
theorem dX3_followWalk_118 : decode cX3_followWalk 118 = .ok (.invokevirtual 89, 3) := by decide +kernel
theorem dX3_followWalk_121 : decode cX3_followWalk 121 = .ok (.if_icmp .lt 8, 3) := by decide +kernel
theorem dX3_followWalk_124 : decode cX3_followWalk 124 = .ok (.iload 4, 2) := by decide +kernel
theorem dX3_followWalk_126 : decode cX3_followWalk 126 = .ok (.istore_n 1, 1) := by decide +kernel
theorem dX3_followWalk_127 : decode cX3_followWalk 127 = .ok (.iconst 0, 1) := by decide +kernel
theorem dX3_followWalk_128 : decode cX3_followWalk 128 = .ok (.istore_n 2, 1) := by decide +kernel
theorem dX3_followWalk_129 : decode cX3_followWalk 129 = .ok (.aload_n 0, 1) := by decide +kernel
theorem dX3_followWalk_130 : decode cX3_followWalk 130 = .ok (.getfield 21, 3) := by decide +kernel
theorem dX3_followWalk_133 : decode cX3_followWalk 133 = .ok (.iload_n 3, 1) := by decide +kernel
theorem dX3_followWalk_134 : decode cX3_followWalk 134 = .ok (.iload_n 1, 1) := by decide +kernel
theorem dX3_followWalk_135 : decode cX3_followWalk 135 = .ok (.iastore, 1) := by decide +kernel
theorem dX3_followWalk_136 : decode cX3_followWalk 136 = .ok (.iinc 3 1, 3) := by decide +kernel
theorem dX3_followWalk_139 : decode cX3_followWalk 139 = .ok (.goto (-133), 3) := by decide +kernel
theorem dX3_followWalk_142 : decode cX3_followWalk 142 = .ok (.return_, 1) := by decide +kernel
theorem dX3_servedIn_0 : decode cX3_servedIn 0 = .ok (.iload_n 1, 1) := by decide +kernel
theorem dX3_servedIn_1 : decode cX3_servedIn 1 = .ok (.ifCond .lt 21, 3) := by decide +kernel
theorem dX3_servedIn_4 : decode cX3_servedIn 4 = .ok (.iload_n 1, 1) := by decide +kernel
theorem dX3_servedIn_5 : decode cX3_servedIn 5 = .ok (.aload_n 0, 1) := by decide +kernel
theorem dX3_servedIn_6 : decode cX3_servedIn 6 = .ok (.getfield 21, 3) := by decide +kernel
theorem dX3_servedIn_9 : decode cX3_servedIn 9 = .ok (.arraylength, 1) := by decide +kernel
theorem dX3_servedIn_10 : decode cX3_servedIn 10 = .ok (.if_icmp .ge 12, 3) := by decide +kernel
theorem dX3_servedIn_13 : decode cX3_servedIn 13 = .ok (.aload_n 0, 1) := by decide +kernel
theorem dX3_servedIn_14 : decode cX3_servedIn 14 = .ok (.getfield 21, 3) := by decide +kernel
theorem dX3_servedIn_17 : decode cX3_servedIn 17 = .ok (.iload_n 1, 1) := by decide +kernel
theorem dX3_servedIn_18 : decode cX3_servedIn 18 = .ok (.iaload, 1) := by decide +kernel
theorem dX3_servedIn_19 : decode cX3_servedIn 19 = .ok (.goto 4, 3) := by decide +kernel
theorem dX3_servedIn_22 : decode cX3_servedIn 22 = .ok (.iconst (-1), 1) := by decide +kernel
theorem dX3_servedIn_23 : decode cX3_servedIn 23 = .ok (.ireturn, 1) := by decide +kernel
theorem dX3_changes_0 : decode cX3_changes 0 = .ok (.iconst 0, 1) := by decide +kernel
theorem dX3_changes_1 : decode cX3_changes 1 = .ok (.istore_n 1, 1) := by decide +kernel
theorem dX3_changes_2 : decode cX3_changes 2 = .ok (.iconst 1, 1) := by decide +kernel
theorem dX3_changes_3 : decode cX3_changes 3 = .ok (.istore_n 2, 1) := by decide +kernel
theorem dX3_changes_4 : decode cX3_changes 4 = .ok (.iload_n 2, 1) := by decide +kernel
theorem dX3_changes_5 : decode cX3_changes 5 = .ok (.aload_n 0, 1) := by decide +kernel
theorem dX3_changes_6 : decode cX3_changes 6 = .ok (.getfield 31, 3) := by decide +kernel
theorem dX3_changes_9 : decode cX3_changes 9 = .ok (.getfield 98, 3) := by decide +kernel
theorem dX3_changes_12 : decode cX3_changes 12 = .ok (.invokevirtual 101, 3) := by decide +kernel
theorem dX3_changes_15 : decode cX3_changes 15 = .ok (.if_icmp .ge 49, 3) := by decide +kernel
theorem dX3_changes_18 : decode cX3_changes 18 = .ok (.aload_n 0, 1) := by decide +kernel
theorem dX3_changes_19 : decode cX3_changes 19 = .ok (.iload_n 2, 1) := by decide +kernel
theorem dX3_changes_20 : decode cX3_changes 20 = .ok (.iconst 1, 1) := by decide +kernel
theorem dX3_changes_21 : decode cX3_changes 21 = .ok (.isub, 1) := by decide +kernel
theorem dX3_changes_22 : decode cX3_changes 22 = .ok (.invokevirtual 115, 3) := by decide +kernel
theorem dX3_changes_25 : decode cX3_changes 25 = .ok (.istore_n 3, 1) := by decide +kernel
theorem dX3_changes_26 : decode cX3_changes 26 = .ok (.aload_n 0, 1) := by decide +kernel
theorem dX3_changes_27 : decode cX3_changes 27 = .ok (.iload_n 2, 1) := by decide +kernel
theorem dX3_changes_28 : decode cX3_changes 28 = .ok (.invokevirtual 115, 3) := by decide +kernel
theorem dX3_changes_31 : decode cX3_changes 31 = .ok (.istore 4, 2) := by decide +kernel
theorem dX3_changes_33 : decode cX3_changes 33 = .ok (.iload_n 1, 1) := by decide +kernel
theorem dX3_changes_34 : decode cX3_changes 34 = .ok (.iload_n 3, 1) := by decide +kernel
theorem dX3_changes_35 : decode cX3_changes 35 = .ok (.iconst (-1), 1) := by decide +kernel
theorem dX3_changes_36 : decode cX3_changes 36 = .ok (.if_icmp .eq 19, 3) := by decide +kernel
theorem dX3_changes_39 : decode cX3_changes 39 = .ok (.iload 4, 2) := by decide +kernel
theorem dX3_changes_41 : decode cX3_changes 41 = .ok (.iconst (-1), 1) := by decide +kernel
theorem dX3_changes_42 : decode cX3_changes 42 = .ok (.if_icmp .eq 13, 3) := by decide +kernel
theorem dX3_changes_45 : decode cX3_changes 45 = .ok (.iload_n 3, 1) := by decide +kernel
theorem dX3_changes_46 : decode cX3_changes 46 = .ok (.iload 4, 2) := by decide +kernel
theorem dX3_changes_48 : decode cX3_changes 48 = .ok (.if_icmp .eq 7, 3) := by decide +kernel
theorem dX3_changes_51 : decode cX3_changes 51 = .ok (.iconst 1, 1) := by decide +kernel
theorem dX3_changes_52 : decode cX3_changes 52 = .ok (.goto 4, 3) := by decide +kernel
theorem dX3_changes_55 : decode cX3_changes 55 = .ok (.iconst 0, 1) := by decide +kernel
theorem dX3_changes_56 : decode cX3_changes 56 = .ok (.iadd, 1) := by decide +kernel
theorem dX3_changes_57 : decode cX3_changes 57 = .ok (.istore_n 1, 1) := by decide +kernel
theorem dX3_changes_58 : decode cX3_changes 58 = .ok (.iinc 2 1, 3) := by decide +kernel
theorem dX3_changes_61 : decode cX3_changes 61 = .ok (.goto (-57), 3) := by decide +kernel
theorem dX3_changes_64 : decode cX3_changes 64 = .ok (.iload_n 1, 1) := by decide +kernel
theorem dX3_changes_65 : decode cX3_changes 65 = .ok (.ireturn, 1) := by decide +kernel
theorem dX3_lost_0 : decode cX3_lost 0 = .ok (.iconst 0, 1) := by decide +kernel
theorem dX3_lost_1 : decode cX3_lost 1 = .ok (.istore_n 1, 1) := by decide +kernel
theorem dX3_lost_2 : decode cX3_lost 2 = .ok (.iconst 0, 1) := by decide +kernel
theorem dX3_lost_3 : decode cX3_lost 3 = .ok (.istore_n 2, 1) := by decide +kernel
theorem dX3_lost_4 : decode cX3_lost 4 = .ok (.iload_n 2, 1) := by decide +kernel
theorem dX3_lost_5 : decode cX3_lost 5 = .ok (.aload_n 0, 1) := by decide +kernel
theorem dX3_lost_6 : decode cX3_lost 6 = .ok (.getfield 31, 3) := by decide +kernel
theorem dX3_lost_9 : decode cX3_lost 9 = .ok (.getfield 98, 3) := by decide +kernel
theorem dX3_lost_12 : decode cX3_lost 12 = .ok (.invokevirtual 101, 3) := by decide +kernel
theorem dX3_lost_15 : decode cX3_lost 15 = .ok (.if_icmp .ge 26, 3) := by decide +kernel
theorem dX3_lost_18 : decode cX3_lost 18 = .ok (.iload_n 1, 1) := by decide +kernel
theorem dX3_lost_19 : decode cX3_lost 19 = .ok (.aload_n 0, 1) := by decide +kernel
theorem dX3_lost_20 : decode cX3_lost 20 = .ok (.iload_n 2, 1) := by decide +kernel
theorem dX3_lost_21 : decode cX3_lost 21 = .ok (.invokevirtual 115, 3) := by decide +kernel
theorem dX3_lost_24 : decode cX3_lost 24 = .ok (.iconst (-1), 1) := by decide +kernel
theorem dX3_lost_25 : decode cX3_lost 25 = .ok (.if_icmp .ne 7, 3) := by decide +kernel
theorem dX3_lost_28 : decode cX3_lost 28 = .ok (.iconst 1, 1) := by decide +kernel
theorem dX3_lost_29 : decode cX3_lost 29 = .ok (.goto 4, 3) := by decide +kernel
theorem dX3_lost_32 : decode cX3_lost 32 = .ok (.iconst 0, 1) := by decide +kernel
theorem dX3_lost_33 : decode cX3_lost 33 = .ok (.iadd, 1) := by decide +kernel
theorem dX3_lost_34 : decode cX3_lost 34 = .ok (.istore_n 1, 1) := by decide +kernel
theorem dX3_lost_35 : decode cX3_lost 35 = .ok (.iinc 2 1, 3) := by decide +kernel
theorem dX3_lost_38 : decode cX3_lost 38 = .ok (.goto (-34), 3) := by decide +kernel
theorem dX3_lost_41 : decode cX3_lost 41 = .ok (.iload_n 1, 1) := by decide +kernel
theorem dX3_lost_42 : decode cX3_lost 42 = .ok (.ireturn, 1) := by decide +kernel
theorem dX3_fits_0 : decode cX3_fits 0 = .ok (.iconst 0, 1) := by decide +kernel
theorem dX3_fits_1 : decode cX3_fits 1 = .ok (.istore_n 3, 1) := by decide +kernel
theorem dX3_fits_2 : decode cX3_fits 2 = .ok (.iload_n 3, 1) := by decide +kernel
theorem dX3_fits_3 : decode cX3_fits 3 = .ok (.aload_n 0, 1) := by decide +kernel
theorem dX3_fits_4 : decode cX3_fits 4 = .ok (.getfield 31, 3) := by decide +kernel
theorem dX3_fits_7 : decode cX3_fits 7 = .ok (.getfield 53, 3) := by decide +kernel
theorem dX3_fits_10 : decode cX3_fits 10 = .ok (.invokevirtual 101, 3) := by decide +kernel
theorem dX3_fits_13 : decode cX3_fits 13 = .ok (.if_icmp .ge 80, 3) := by decide +kernel
theorem dX3_fits_16 : decode cX3_fits 16 = .ok (.aload_n 0, 1) := by decide +kernel
theorem dX3_fits_17 : decode cX3_fits 17 = .ok (.getfield 31, 3) := by decide +kernel
theorem dX3_fits_20 : decode cX3_fits 20 = .ok (.getfield 53, 3) := by decide +kernel
theorem dX3_fits_23 : decode cX3_fits 23 = .ok (.iload_n 3, 1) := by decide +kernel
theorem dX3_fits_24 : decode cX3_fits 24 = .ok (.bipush 6, 2) := by decide +kernel
theorem dX3_fits_26 : decode cX3_fits 26 = .ok (.invokevirtual 74, 3) := by decide +kernel
theorem dX3_fits_29 : decode cX3_fits 29 = .ok (.istore 4, 2) := by decide +kernel
theorem dX3_fits_31 : decode cX3_fits 31 = .ok (.iload 4, 2) := by decide +kernel
theorem dX3_fits_33 : decode cX3_fits 33 = .ok (.iconst (-1), 1) := by decide +kernel
theorem dX3_fits_34 : decode cX3_fits 34 = .ok (.if_icmp .eq 53, 3) := by decide +kernel
theorem dX3_fits_37 : decode cX3_fits 37 = .ok (.aload_n 0, 1) := by decide +kernel
theorem dX3_fits_38 : decode cX3_fits 38 = .ok (.getfield 31, 3) := by decide +kernel
theorem dX3_fits_41 : decode cX3_fits 41 = .ok (.iload_n 3, 1) := by decide +kernel
theorem dX3_fits_42 : decode cX3_fits 42 = .ok (.invokevirtual 39, 3) := by decide +kernel
theorem dX3_fits_45 : decode cX3_fits 45 = .ok (.ifCond .ne 6, 3) := by decide +kernel
theorem dX3_fits_48 : decode cX3_fits 48 = .ok (.goto 39, 3) := by decide +kernel
theorem dX3_fits_51 : decode cX3_fits 51 = .ok (.aload_n 0, 1) := by decide +kernel
theorem dX3_fits_52 : decode cX3_fits 52 = .ok (.iload_n 3, 1) := by decide +kernel
theorem dX3_fits_53 : decode cX3_fits 53 = .ok (.iload_n 1, 1) := by decide +kernel
theorem dX3_fits_54 : decode cX3_fits 54 = .ok (.iload_n 2, 1) := by decide +kernel
theorem dX3_fits_55 : decode cX3_fits 55 = .ok (.invokevirtual 81, 3) := by decide +kernel
theorem dX3_fits_58 : decode cX3_fits 58 = .ok (.istore 5, 2) := by decide +kernel
theorem dX3_fits_60 : decode cX3_fits 60 = .ok (.iload 5, 2) := by decide +kernel
theorem dX3_fits_62 : decode cX3_fits 62 = .ok (.iload 4, 2) := by decide +kernel
theorem dX3_fits_64 : decode cX3_fits 64 = .ok (.if_icmp .lt 21, 3) := by decide +kernel
theorem dX3_fits_67 : decode cX3_fits 67 = .ok (.iload 5, 2) := by decide +kernel
theorem dX3_fits_69 : decode cX3_fits 69 = .ok (.aload_n 0, 1) := by decide +kernel
theorem dX3_fits_70 : decode cX3_fits 70 = .ok (.getfield 31, 3) := by decide +kernel
theorem dX3_fits_73 : decode cX3_fits 73 = .ok (.getfield 53, 3) := by decide +kernel
theorem dX3_fits_76 : decode cX3_fits 76 = .ok (.iload_n 3, 1) := by decide +kernel
theorem dX3_fits_77 : decode cX3_fits 77 = .ok (.bipush 7, 2) := by decide +kernel
theorem dX3_fits_79 : decode cX3_fits 79 = .ok (.invokevirtual 74, 3) := by decide +kernel
theorem dX3_fits_82 : decode cX3_fits 82 = .ok (.if_icmp .le 5, 3) := by decide +kernel
theorem dX3_fits_85 : decode cX3_fits 85 = .ok (.iconst 0, 1) := by decide +kernel
theorem dX3_fits_86 : decode cX3_fits 86 = .ok (.ireturn, 1) := by decide +kernel
theorem dX3_fits_87 : decode cX3_fits 87 = .ok (.iinc 3 1, 3) := by decide +kernel
theorem dX3_fits_90 : decode cX3_fits 90 = .ok (.goto (-88), 3) := by decide +kernel
theorem dX3_fits_93 : decode cX3_fits 93 = .ok (.iconst 1, 1) := by decide +kernel
theorem dX3_fits_94 : decode cX3_fits 94 = .ok (.ireturn, 1) := by decide +kernel
theorem dX4_init_0 : decode cX4_init 0 = .ok (.aload_n 0, 1) := by decide +kernel
theorem dX4_init_1 : decode cX4_init 1 = .ok (.invokespecial 3, 3) := by decide +kernel
theorem dX4_init_4 : decode cX4_init 4 = .ok (.aload_n 0, 1) := by decide +kernel
theorem dX4_init_5 : decode cX4_init 5 = .ok (.new 9, 3) := by decide +kernel
theorem dX4_init_8 : decode cX4_init 8 = .ok (.dup, 1) := by decide +kernel
theorem dX4_init_9 : decode cX4_init 9 = .ok (.new 11, 3) := by decide +kernel
theorem dX4_init_12 : decode cX4_init 12 = .ok (.dup, 1) := by decide +kernel
theorem dX4_init_13 : decode cX4_init 13 = .ok (.iconst 0, 1) := by decide +kernel
theorem dX4_init_14 : decode cX4_init 14 = .ok (.iconst 1, 1) := by decide +kernel
theorem dX4_init_15 : decode cX4_init 15 = .ok (.invokespecial 13, 3) := by decide +kernel
theorem dX4_init_18 : decode cX4_init 18 = .ok (.invokespecial 16, 3) := by decide +kernel
theorem dX4_init_21 : decode cX4_init 21 = .ok (.putfield 19, 3) := by decide +kernel
theorem dX4_init_24 : decode cX4_init 24 = .ok (.aload_n 0, 1) := by decide +kernel
theorem dX4_init_25 : decode cX4_init 25 = .ok (.new 11, 3) := by decide +kernel
theorem dX4_init_28 : decode cX4_init 28 = .ok (.dup, 1) := by decide +kernel
theorem dX4_init_29 : decode cX4_init 29 = .ok (.bipush 16, 2) := by decide +kernel
theorem dX4_init_31 : decode cX4_init 31 = .ok (.bipush 18, 2) := by decide +kernel
theorem dX4_init_33 : decode cX4_init 33 = .ok (.invokespecial 13, 3) := by decide +kernel
theorem dX4_init_36 : decode cX4_init 36 = .ok (.putfield 25, 3) := by decide +kernel
theorem dX4_init_39 : decode cX4_init 39 = .ok (.return_, 1) := by decide +kernel
theorem dX4_columnOf_0 : decode cX4_columnOf 0 = .ok (.iconst 2, 1) := by decide +kernel
theorem dX4_columnOf_1 : decode cX4_columnOf 1 = .ok (.iconst 4, 1) := by decide +kernel
theorem dX4_columnOf_2 : decode cX4_columnOf 2 = .ok (.iload_n 0, 1) := by decide +kernel
theorem dX4_columnOf_3 : decode cX4_columnOf 3 = .ok (.imul, 1) := by decide +kernel
theorem dX4_columnOf_4 : decode cX4_columnOf 4 = .ok (.iadd, 1) := by decide +kernel
theorem dX4_columnOf_5 : decode cX4_columnOf 5 = .ok (.ireturn, 1) := by decide +kernel
theorem dX4_read_0 : decode cX4_read 0 = .ok (.aload_n 0, 1) := by decide +kernel
theorem dX4_read_1 : decode cX4_read 1 = .ok (.getfield 25, 3) := by decide +kernel
theorem dX4_read_4 : decode cX4_read 4 = .ok (.iconst 0, 1) := by decide +kernel
theorem dX4_read_5 : decode cX4_read 5 = .ok (.invokevirtual 29, 3) := by decide +kernel
theorem dX4_read_8 : decode cX4_read 8 = .ok (.aload_n 0, 1) := by decide +kernel
theorem dX4_read_9 : decode cX4_read 9 = .ok (.getfield 19, 3) := by decide +kernel
theorem dX4_read_12 : decode cX4_read 12 = .ok (.aload_n 1, 1) := by decide +kernel
theorem dX4_read_13 : decode cX4_read 13 = .ok (.getfield 33, 3) := by decide +kernel
theorem dX4_read_16 : decode cX4_read 16 = .ok (.invokevirtual 38, 3) := by decide +kernel
theorem dX4_read_19 : decode cX4_read 19 = .ok (.iconst 0, 1) := by decide +kernel
theorem dX4_read_20 : decode cX4_read 20 = .ok (.istore_n 2, 1) := by decide +kernel
theorem dX4_read_21 : decode cX4_read 21 = .ok (.iload_n 2, 1) := by decide +kernel
theorem dX4_read_22 : decode cX4_read 22 = .ok (.sipush 500, 3) := by decide +kernel
theorem dX4_read_25 : decode cX4_read 25 = .ok (.if_icmp .ge 24, 3) := by decide +kernel
theorem dX4_read_28 : decode cX4_read 28 = .ok (.aload_n 0, 1) := by decide +kernel
theorem dX4_read_29 : decode cX4_read 29 = .ok (.getfield 19, 3) := by decide +kernel
theorem dX4_read_32 : decode cX4_read 32 = .ok (.invokevirtual 41, 3) := by decide +kernel
theorem dX4_read_35 : decode cX4_read 35 = .ok (.ifCond .eq 14, 3) := by decide +kernel
theorem dX4_read_38 : decode cX4_read 38 = .ok (.aload_n 0, 1) := by decide +kernel
theorem dX4_read_39 : decode cX4_read 39 = .ok (.iload_n 2, 1) := by decide +kernel
theorem dX4_read_40 : decode cX4_read 40 = .ok (.invokevirtual 45, 3) := by decide +kernel
theorem dX4_read_43 : decode cX4_read 43 = .ok (.iinc 2 1, 3) := by decide +kernel
theorem dX4_read_46 : decode cX4_read 46 = .ok (.goto (-25), 3) := by decide +kernel
theorem dX4_read_49 : decode cX4_read 49 = .ok (.aload_n 0, 1) := by decide +kernel
theorem dX4_read_50 : decode cX4_read 50 = .ok (.getfield 19, 3) := by decide +kernel
theorem dX4_read_53 : decode cX4_read 53 = .ok (.aload_n 1, 1) := by decide +kernel
theorem dX4_read_54 : decode cX4_read 54 = .ok (.invokevirtual 48, 3) := by decide +kernel
theorem dX4_read_57 : decode cX4_read 57 = .ok (.aload_n 0, 1) := by decide +kernel
theorem dX4_read_58 : decode cX4_read 58 = .ok (.getfield 19, 3) := by decide +kernel
theorem dX4_read_61 : decode cX4_read 61 = .ok (.invokevirtual 52, 3) := by decide +kernel
theorem dX4_read_64 : decode cX4_read 64 = .ok (.ifCond .ne 5, 3) := by decide +kernel
theorem dX4_read_67 : decode cX4_read 67 = .ok (.iconst (-1), 1) := by decide +kernel
theorem dX4_read_68 : decode cX4_read 68 = .ok (.ireturn, 1) := by decide +kernel
theorem dX4_read_69 : decode cX4_read 69 = .ok (.aload_n 1, 1) := by decide +kernel
theorem dX4_read_70 : decode cX4_read 70 = .ok (.getfield 55, 3) := by decide +kernel
theorem dX4_read_73 : decode cX4_read 73 = .ok (.aload_n 0, 1) := by decide +kernel
theorem dX4_read_74 : decode cX4_read 74 = .ok (.getfield 25, 3) := by decide +kernel
theorem dX4_read_77 : decode cX4_read 77 = .ok (.invokevirtual 58, 3) := by decide +kernel
theorem dX4_read_80 : decode cX4_read 80 = .ok (.iload_n 2, 1) := by decide +kernel
theorem dX4_read_81 : decode cX4_read 81 = .ok (.ireturn, 1) := by decide +kernel
theorem dX4_readLine_0 : decode cX4_readLine 0 = .ok (.aload_n 0, 1) := by decide +kernel
theorem dX4_readLine_1 : decode cX4_readLine 1 = .ok (.getfield 25, 3) := by decide +kernel
theorem dX4_readLine_4 : decode cX4_readLine 4 = .ok (.invokevirtual 61, 3) := by decide +kernel
theorem dX4_readLine_7 : decode cX4_readLine 7 = .ok (.ifCond .ne 18, 3) := by decide +kernel
theorem dX4_readLine_10 : decode cX4_readLine 10 = .ok (.aload_n 0, 1) := by decide +kernel
theorem dX4_readLine_11 : decode cX4_readLine 11 = .ok (.getfield 19, 3) := by decide +kernel
theorem dX4_readLine_14 : decode cX4_readLine 14 = .ok (.iconst 5, 1) := by decide +kernel
theorem dX4_readLine_15 : decode cX4_readLine 15 = .ok (.aload_n 0, 1) := by decide +kernel
theorem dX4_readLine_16 : decode cX4_readLine 16 = .ok (.getfield 19, 3) := by decide +kernel
theorem dX4_readLine_19 : decode cX4_readLine 19 = .ok (.invokevirtual 64, 3) := by decide +kernel
theorem dX4_readLine_22 : decode cX4_readLine 22 = .ok (.invokevirtual 68, 3) := by decide +kernel
theorem dX4_readLine_25 : decode cX4_readLine 25 = .ok (.iconst 0, 1) := by decide +kernel
theorem dX4_readLine_26 : decode cX4_readLine 26 = .ok (.istore_n 2, 1) := by decide +kernel
theorem dX4_readLine_27 : decode cX4_readLine 27 = .ok (.aload_n 0, 1) := by decide +kernel
theorem dX4_readLine_28 : decode cX4_readLine 28 = .ok (.getfield 19, 3) := by decide +kernel
theorem dX4_readLine_31 : decode cX4_readLine 31 = .ok (.ldc 71, 2) := by decide +kernel
theorem dX4_readLine_33 : decode cX4_readLine 33 = .ok (.invokevirtual 73, 3) := by decide +kernel
theorem dX4_readLine_36 : decode cX4_readLine 36 = .ok (.ifCond .eq 70, 3) := by decide +kernel
theorem dX4_readLine_39 : decode cX4_readLine 39 = .ok (.aload_n 0, 1) := by decide +kernel
theorem dX4_readLine_40 : decode cX4_readLine 40 = .ok (.getfield 19, 3) := by decide +kernel
theorem dX4_readLine_43 : decode cX4_readLine 43 = .ok (.invokevirtual 77, 3) := by decide +kernel
theorem dX4_readLine_46 : decode cX4_readLine 46 = .ok (.aload_n 0, 1) := by decide +kernel
theorem dX4_readLine_47 : decode cX4_readLine 47 = .ok (.iload_n 1, 1) := by decide +kernel
theorem dX4_readLine_48 : decode cX4_readLine 48 = .ok (.iload_n 2, 1) := by decide +kernel
theorem dX4_readLine_49 : decode cX4_readLine 49 = .ok (.invokevirtual 80, 3) := by decide +kernel
theorem dX4_readLine_52 : decode cX4_readLine 52 = .ok (.ifCond .ne 4, 3) := by decide +kernel
theorem dX4_readLine_55 : decode cX4_readLine 55 = .ok (.return_, 1) := by decide +kernel
theorem dX4_readLine_56 : decode cX4_readLine 56 = .ok (.iinc 2 1, 3) := by decide +kernel
theorem dX4_readLine_59 : decode cX4_readLine 59 = .ok (.iload_n 2, 1) := by decide +kernel
theorem dX4_readLine_60 : decode cX4_readLine 60 = .ok (.sipush 500, 3) := by decide +kernel
theorem dX4_readLine_63 : decode cX4_readLine 63 = .ok (.if_icmp .ge 15, 3) := by decide +kernel
theorem dX4_readLine_66 : decode cX4_readLine 66 = .ok (.aload_n 0, 1) := by decide +kernel
theorem dX4_readLine_67 : decode cX4_readLine 67 = .ok (.getfield 19, 3) := by decide +kernel
theorem dX4_readLine_70 : decode cX4_readLine 70 = .ok (.ldc 84, 2) := by decide +kernel
theorem dX4_readLine_72 : decode cX4_readLine 72 = .ok (.invokevirtual 73, 3) := by decide +kernel
theorem dX4_readLine_75 : decode cX4_readLine 75 = .ok (.ifCond .ne (-36), 3) := by decide +kernel
theorem dX4_readLine_78 : decode cX4_readLine 78 = .ok (.aload_n 0, 1) := by decide +kernel
theorem dX4_readLine_79 : decode cX4_readLine 79 = .ok (.getfield 19, 3) := by decide +kernel
theorem dX4_readLine_82 : decode cX4_readLine 82 = .ok (.aload_n 0, 1) := by decide +kernel
theorem dX4_readLine_83 : decode cX4_readLine 83 = .ok (.getfield 19, 3) := by decide +kernel
theorem dX4_readLine_86 : decode cX4_readLine 86 = .ok (.invokevirtual 86, 3) := by decide +kernel
theorem dX4_readLine_89 : decode cX4_readLine 89 = .ok (.bipush 58, 2) := by decide +kernel
theorem dX4_readLine_91 : decode cX4_readLine 91 = .ok (.if_icmp .ne 7, 3) := by decide +kernel
theorem dX4_readLine_94 : decode cX4_readLine 94 = .ok (.iconst 1, 1) := by decide +kernel
theorem dX4_readLine_95 : decode cX4_readLine 95 = .ok (.goto 4, 3) := by decide +kernel
theorem dX4_readLine_98 : decode cX4_readLine 98 = .ok (.iconst 0, 1) := by decide +kernel
theorem dX4_readLine_99 : decode cX4_readLine 99 = .ok (.invokevirtual 89, 3) := by decide +kernel
theorem dX4_readLine_102 : decode cX4_readLine 102 = .ok (.ifCond .ne 4, 3) := by decide +kernel
theorem dX4_readLine_105 : decode cX4_readLine 105 = .ok (.return_, 1) := by decide +kernel
theorem dX4_readLine_106 : decode cX4_readLine 106 = .ok (.aload_n 0, 1) := by decide +kernel
theorem dX4_readLine_107 : decode cX4_readLine 107 = .ok (.getfield 19, 3) := by decide +kernel
theorem dX4_readLine_110 : decode cX4_readLine 110 = .ok (.ldc 93, 2) := by decide +kernel
theorem dX4_readLine_112 : decode cX4_readLine 112 = .ok (.invokevirtual 73, 3) := by decide +kernel
theorem dX4_readLine_115 : decode cX4_readLine 115 = .ok (.istore_n 3, 1) := by decide +kernel
theorem dX4_readLine_116 : decode cX4_readLine 116 = .ok (.aload_n 0, 1) := by decide +kernel
theorem dX4_readLine_117 : decode cX4_readLine 117 = .ok (.getfield 25, 3) := by decide +kernel
theorem dX4_readLine_120 : decode cX4_readLine 120 = .ok (.iload_n 1, 1) := by decide +kernel
theorem dX4_readLine_121 : decode cX4_readLine 121 = .ok (.iconst 0, 1) := by decide +kernel
theorem dX4_readLine_122 : decode cX4_readLine 122 = .ok (.iload_n 3, 1) := by decide +kernel
theorem dX4_readLine_123 : decode cX4_readLine 123 = .ok (.ifCond .eq 7, 3) := by decide +kernel
theorem dX4_readLine_126 : decode cX4_readLine 126 = .ok (.iconst 1, 1) := by decide +kernel
theorem dX4_readLine_127 : decode cX4_readLine 127 = .ok (.goto 4, 3) := by decide +kernel
theorem dX4_readLine_130 : decode cX4_readLine 130 = .ok (.iconst 0, 1) := by decide +kernel
theorem dX4_readLine_131 : decode cX4_readLine 131 = .ok (.invokevirtual 95, 3) := by decide +kernel
theorem dX4_readLine_134 : decode cX4_readLine 134 = .ok (.aload_n 0, 1) := by decide +kernel
theorem dX4_readLine_135 : decode cX4_readLine 135 = .ok (.getfield 25, 3) := by decide +kernel
theorem dX4_readLine_138 : decode cX4_readLine 138 = .ok (.iload_n 1, 1) := by decide +kernel
theorem dX4_readLine_139 : decode cX4_readLine 139 = .ok (.iconst 1, 1) := by decide +kernel
theorem dX4_readLine_140 : decode cX4_readLine 140 = .ok (.iload_n 2, 1) := by decide +kernel
theorem dX4_readLine_141 : decode cX4_readLine 141 = .ok (.invokevirtual 95, 3) := by decide +kernel
theorem dX4_readLine_144 : decode cX4_readLine 144 = .ok (.aload_n 0, 1) := by decide +kernel
theorem dX4_readLine_145 : decode cX4_readLine 145 = .ok (.getfield 19, 3) := by decide +kernel
theorem dX4_readLine_148 : decode cX4_readLine 148 = .ok (.iload_n 3, 1) := by decide +kernel
theorem dX4_readLine_149 : decode cX4_readLine 149 = .ok (.ifCond .ne 15, 3) := by decide +kernel
theorem dX4_readLine_152 : decode cX4_readLine 152 = .ok (.aload_n 0, 1) := by decide +kernel
theorem dX4_readLine_153 : decode cX4_readLine 153 = .ok (.getfield 19, 3) := by decide +kernel
theorem dX4_readLine_156 : decode cX4_readLine 156 = .ok (.ldc 99, 2) := by decide +kernel
theorem dX4_readLine_158 : decode cX4_readLine 158 = .ok (.invokevirtual 73, 3) := by decide +kernel
theorem dX4_readLine_161 : decode cX4_readLine 161 = .ok (.ifCond .eq 7, 3) := by decide +kernel
theorem dX4_readLine_164 : decode cX4_readLine 164 = .ok (.iconst 1, 1) := by decide +kernel
theorem dX4_readLine_165 : decode cX4_readLine 165 = .ok (.goto 4, 3) := by decide +kernel
theorem dX4_readLine_168 : decode cX4_readLine 168 = .ok (.iconst 0, 1) := by decide +kernel
theorem dX4_readLine_169 : decode cX4_readLine 169 = .ok (.invokevirtual 89, 3) := by decide +kernel
theorem dX4_readLine_172 : decode cX4_readLine 172 = .ok (.ifCond .eq 28, 3) := by decide +kernel
theorem dX4_readLine_175 : decode cX4_readLine 175 = .ok (.aload_n 0, 1) := by decide +kernel
theorem dX4_readLine_176 : decode cX4_readLine 176 = .ok (.getfield 19, 3) := by decide +kernel
theorem dX4_readLine_179 : decode cX4_readLine 179 = .ok (.aload_n 0, 1) := by decide +kernel
theorem dX4_readLine_180 : decode cX4_readLine 180 = .ok (.getfield 19, 3) := by decide +kernel
theorem dX4_readLine_183 : decode cX4_readLine 183 = .ok (.invokevirtual 86, 3) := by decide +kernel
theorem dX4_readLine_186 : decode cX4_readLine 186 = .ok (.bipush 59, 2) := by decide +kernel
theorem dX4_readLine_188 : decode cX4_readLine 188 = .ok (.if_icmp .ne 7, 3) := by decide +kernel
theorem dX4_readLine_191 : decode cX4_readLine 191 = .ok (.iconst 1, 1) := by decide +kernel
theorem dX4_readLine_192 : decode cX4_readLine 192 = .ok (.goto 4, 3) := by decide +kernel
theorem dX4_readLine_195 : decode cX4_readLine 195 = .ok (.iconst 0, 1) := by decide +kernel
theorem dX4_readLine_196 : decode cX4_readLine 196 = .ok (.invokevirtual 89, 3) := by decide +kernel
theorem dX4_readLine_199 : decode cX4_readLine 199 = .ok (.pop, 1) := by decide +kernel
theorem dX4_readLine_200 : decode cX4_readLine 200 = .ok (.return_, 1) := by decide +kernel
theorem dX4_readTest_0 : decode cX4_readTest 0 = .ok (.iload_n 2, 1) := by decide +kernel
theorem dX4_readTest_1 : decode cX4_readTest 1 = .ok (.iconst 4, 1) := by decide +kernel
theorem dX4_readTest_2 : decode cX4_readTest 2 = .ok (.if_icmp .lt 18, 3) := by decide +kernel
theorem dX4_readTest_5 : decode cX4_readTest 5 = .ok (.aload_n 0, 1) := by decide +kernel
theorem dX4_readTest_6 : decode cX4_readTest 6 = .ok (.getfield 19, 3) := by decide +kernel
theorem dX4_readTest_9 : decode cX4_readTest 9 = .ok (.iconst 5, 1) := by decide +kernel
theorem dX4_readTest_10 : decode cX4_readTest 10 = .ok (.aload_n 0, 1) := by decide +kernel
theorem dX4_readTest_11 : decode cX4_readTest 11 = .ok (.getfield 19, 3) := by decide +kernel
theorem dX4_readTest_14 : decode cX4_readTest 14 = .ok (.invokevirtual 64, 3) := by decide +kernel
theorem dX4_readTest_17 : decode cX4_readTest 17 = .ok (.invokevirtual 68, 3) := by decide +kernel
theorem dX4_readTest_20 : decode cX4_readTest 20 = .ok (.aload_n 0, 1) := by decide +kernel
theorem dX4_readTest_21 : decode cX4_readTest 21 = .ok (.getfield 19, 3) := by decide +kernel
theorem dX4_readTest_24 : decode cX4_readTest 24 = .ok (.ldc 101, 2) := by decide +kernel
theorem dX4_readTest_26 : decode cX4_readTest 26 = .ok (.invokevirtual 73, 3) := by decide +kernel
theorem dX4_readTest_29 : decode cX4_readTest 29 = .ok (.istore_n 3, 1) := by decide +kernel
theorem dX4_readTest_30 : decode cX4_readTest 30 = .ok (.iload_n 3, 1) := by decide +kernel
theorem dX4_readTest_31 : decode cX4_readTest 31 = .ok (.ifCond .eq 10, 3) := by decide +kernel
theorem dX4_readTest_34 : decode cX4_readTest 34 = .ok (.aload_n 0, 1) := by decide +kernel
theorem dX4_readTest_35 : decode cX4_readTest 35 = .ok (.getfield 19, 3) := by decide +kernel
theorem dX4_readTest_38 : decode cX4_readTest 38 = .ok (.invokevirtual 77, 3) := by decide +kernel
theorem dX4_readTest_41 : decode cX4_readTest 41 = .ok (.aload_n 0, 1) := by decide +kernel
theorem dX4_readTest_42 : decode cX4_readTest 42 = .ok (.invokevirtual 103, 3) := by decide +kernel
theorem dX4_readTest_45 : decode cX4_readTest 45 = .ok (.istore 4, 2) := by decide +kernel
theorem dX4_readTest_47 : decode cX4_readTest 47 = .ok (.iload_n 2, 1) := by decide +kernel
theorem dX4_readTest_48 : decode cX4_readTest 48 = .ok (.invokestatic 106, 3) := by decide +kernel
theorem dX4_readTest_51 : decode cX4_readTest 51 = .ok (.istore 5, 2) := by decide +kernel
theorem dX4_readTest_53 : decode cX4_readTest 53 = .ok (.aload_n 0, 1) := by decide +kernel
theorem dX4_readTest_54 : decode cX4_readTest 54 = .ok (.getfield 25, 3) := by decide +kernel
theorem dX4_readTest_57 : decode cX4_readTest 57 = .ok (.iload_n 1, 1) := by decide +kernel
theorem dX4_readTest_58 : decode cX4_readTest 58 = .ok (.iload 5, 2) := by decide +kernel
theorem dX4_readTest_60 : decode cX4_readTest 60 = .ok (.iconst 0, 1) := by decide +kernel
theorem dX4_readTest_61 : decode cX4_readTest 61 = .ok (.iadd, 1) := by decide +kernel
theorem dX4_readTest_62 : decode cX4_readTest 62 = .ok (.iload_n 3, 1) := by decide +kernel
theorem dX4_readTest_63 : decode cX4_readTest 63 = .ok (.ifCond .eq 7, 3) := by decide +kernel
theorem dX4_readTest_66 : decode cX4_readTest 66 = .ok (.iconst 1, 1) := by decide +kernel
theorem dX4_readTest_67 : decode cX4_readTest 67 = .ok (.goto 4, 3) := by decide +kernel
theorem dX4_readTest_70 : decode cX4_readTest 70 = .ok (.iconst 0, 1) := by decide +kernel
theorem dX4_readTest_71 : decode cX4_readTest 71 = .ok (.invokevirtual 95, 3) := by decide +kernel
theorem dX4_readTest_74 : decode cX4_readTest 74 = .ok (.aload_n 0, 1) := by decide +kernel
theorem dX4_readTest_75 : decode cX4_readTest 75 = .ok (.getfield 25, 3) := by decide +kernel
theorem dX4_readTest_78 : decode cX4_readTest 78 = .ok (.iload_n 1, 1) := by decide +kernel
theorem dX4_readTest_79 : decode cX4_readTest 79 = .ok (.iload 5, 2) := by decide +kernel
theorem dX4_readTest_81 : decode cX4_readTest 81 = .ok (.iconst 1, 1) := by decide +kernel
theorem dX4_readTest_82 : decode cX4_readTest 82 = .ok (.iadd, 1) := by decide +kernel
theorem dX4_readTest_83 : decode cX4_readTest 83 = .ok (.iload 4, 2) := by decide +kernel
theorem dX4_readTest_85 : decode cX4_readTest 85 = .ok (.invokevirtual 95, 3) := by decide +kernel
theorem dX4_readTest_88 : decode cX4_readTest 88 = .ok (.aload_n 0, 1) := by decide +kernel
theorem dX4_readTest_89 : decode cX4_readTest 89 = .ok (.getfield 19, 3) := by decide +kernel
theorem dX4_readTest_92 : decode cX4_readTest 92 = .ok (.iload 4, 2) := by decide +kernel
theorem dX4_readTest_94 : decode cX4_readTest 94 = .ok (.iconst (-1), 1) := by decide +kernel
theorem dX4_readTest_95 : decode cX4_readTest 95 = .ok (.if_icmp .eq 7, 3) := by decide +kernel
theorem dX4_readTest_98 : decode cX4_readTest 98 = .ok (.iconst 1, 1) := by decide +kernel
theorem dX4_readTest_99 : decode cX4_readTest 99 = .ok (.goto 4, 3) := by decide +kernel
theorem dX4_readTest_102 : decode cX4_readTest 102 = .ok (.iconst 0, 1) := by decide +kernel
theorem dX4_readTest_103 : decode cX4_readTest 103 = .ok (.invokevirtual 89, 3) := by decide +kernel
theorem dX4_readTest_106 : decode cX4_readTest 106 = .ok (.ifCond .ne 5, 3) := by decide +kernel
theorem dX4_readTest_109 : decode cX4_readTest 109 = .ok (.iconst 0, 1) := by decide +kernel
theorem dX4_readTest_110 : decode cX4_readTest 110 = .ok (.ireturn, 1) := by decide +kernel
theorem dX4_readTest_111 : decode cX4_readTest 111 = .ok (.iload 4, 2) := by decide +kernel
theorem dX4_readTest_113 : decode cX4_readTest 113 = .ok (.ifCond .eq 13, 3) := by decide +kernel
theorem dX4_readTest_116 : decode cX4_readTest 116 = .ok (.aload_n 0, 1) := by decide +kernel
theorem dX4_readTest_117 : decode cX4_readTest 117 = .ok (.iload_n 1, 1) := by decide +kernel
theorem dX4_readTest_118 : decode cX4_readTest 118 = .ok (.iload 5, 2) := by decide +kernel
theorem dX4_readTest_120 : decode cX4_readTest 120 = .ok (.invokevirtual 110, 3) := by decide +kernel
theorem dX4_readTest_123 : decode cX4_readTest 123 = .ok (.ifCond .eq 7, 3) := by decide +kernel
theorem dX4_readTest_126 : decode cX4_readTest 126 = .ok (.iconst 1, 1) := by decide +kernel
theorem dX4_readTest_127 : decode cX4_readTest 127 = .ok (.goto 4, 3) := by decide +kernel
theorem dX4_readTest_130 : decode cX4_readTest 130 = .ok (.iconst 0, 1) := by decide +kernel
theorem dX4_readTest_131 : decode cX4_readTest 131 = .ok (.ireturn, 1) := by decide +kernel
theorem dX4_readNumber_0 : decode cX4_readNumber 0 = .ok (.aload_n 0, 1) := by decide +kernel
theorem dX4_readNumber_1 : decode cX4_readNumber 1 = .ok (.getfield 19, 3) := by decide +kernel
theorem dX4_readNumber_4 : decode cX4_readNumber 4 = .ok (.invokevirtual 86, 3) := by decide +kernel
theorem dX4_readNumber_7 : decode cX4_readNumber 7 = .ok (.istore_n 3, 1) := by decide +kernel
theorem dX4_readNumber_8 : decode cX4_readNumber 8 = .ok (.aload_n 0, 1) := by decide +kernel
theorem dX4_readNumber_9 : decode cX4_readNumber 9 = .ok (.getfield 25, 3) := by decide +kernel
theorem dX4_readNumber_12 : decode cX4_readNumber 12 = .ok (.iload_n 1, 1) := by decide +kernel
theorem dX4_readNumber_13 : decode cX4_readNumber 13 = .ok (.iload_n 2, 1) := by decide +kernel
theorem dX4_readNumber_14 : decode cX4_readNumber 14 = .ok (.iconst 2, 1) := by decide +kernel
theorem dX4_readNumber_15 : decode cX4_readNumber 15 = .ok (.iadd, 1) := by decide +kernel
theorem dX4_readNumber_16 : decode cX4_readNumber 16 = .ok (.iload_n 3, 1) := by decide +kernel
theorem dX4_readNumber_17 : decode cX4_readNumber 17 = .ok (.invokevirtual 95, 3) := by decide +kernel
theorem dX4_readNumber_20 : decode cX4_readNumber 20 = .ok (.aload_n 0, 1) := by decide +kernel
theorem dX4_readNumber_21 : decode cX4_readNumber 21 = .ok (.getfield 19, 3) := by decide +kernel
theorem dX4_readNumber_24 : decode cX4_readNumber 24 = .ok (.iload_n 3, 1) := by decide +kernel
theorem dX4_readNumber_25 : decode cX4_readNumber 25 = .ok (.bipush 60, 2) := by decide +kernel
theorem dX4_readNumber_27 : decode cX4_readNumber 27 = .ok (.if_icmp .eq 15, 3) := by decide +kernel
theorem dX4_readNumber_30 : decode cX4_readNumber 30 = .ok (.iload_n 3, 1) := by decide +kernel
theorem dX4_readNumber_31 : decode cX4_readNumber 31 = .ok (.bipush 62, 2) := by decide +kernel
theorem dX4_readNumber_33 : decode cX4_readNumber 33 = .ok (.if_icmp .eq 9, 3) := by decide +kernel
theorem dX4_readNumber_36 : decode cX4_readNumber 36 = .ok (.iload_n 3, 1) := by decide +kernel
theorem dX4_readNumber_37 : decode cX4_readNumber 37 = .ok (.bipush 61, 2) := by decide +kernel
theorem dX4_readNumber_39 : decode cX4_readNumber 39 = .ok (.if_icmp .ne 7, 3) := by decide +kernel
theorem dX4_readNumber_42 : decode cX4_readNumber 42 = .ok (.iconst 1, 1) := by decide +kernel
theorem dX4_readNumber_43 : decode cX4_readNumber 43 = .ok (.goto 4, 3) := by decide +kernel
theorem dX4_readNumber_46 : decode cX4_readNumber 46 = .ok (.iconst 0, 1) := by decide +kernel
theorem dX4_readNumber_47 : decode cX4_readNumber 47 = .ok (.invokevirtual 89, 3) := by decide +kernel
theorem dX4_readNumber_50 : decode cX4_readNumber 50 = .ok (.ifCond .ne 5, 3) := by decide +kernel
theorem dX4_readNumber_53 : decode cX4_readNumber 53 = .ok (.iconst 0, 1) := by decide +kernel
theorem dX4_readNumber_54 : decode cX4_readNumber 54 = .ok (.ireturn, 1) := by decide +kernel
theorem dX4_readNumber_55 : decode cX4_readNumber 55 = .ok (.aload_n 0, 1) := by decide +kernel
theorem dX4_readNumber_56 : decode cX4_readNumber 56 = .ok (.getfield 25, 3) := by decide +kernel
theorem dX4_readNumber_59 : decode cX4_readNumber 59 = .ok (.iload_n 1, 1) := by decide +kernel
theorem dX4_readNumber_60 : decode cX4_readNumber 60 = .ok (.iload_n 2, 1) := by decide +kernel
theorem dX4_readNumber_61 : decode cX4_readNumber 61 = .ok (.iconst 3, 1) := by decide +kernel
theorem dX4_readNumber_62 : decode cX4_readNumber 62 = .ok (.iadd, 1) := by decide +kernel
theorem dX4_readNumber_63 : decode cX4_readNumber 63 = .ok (.aload_n 0, 1) := by decide +kernel
theorem dX4_readNumber_64 : decode cX4_readNumber 64 = .ok (.getfield 19, 3) := by decide +kernel
theorem dX4_readNumber_67 : decode cX4_readNumber 67 = .ok (.invokevirtual 113, 3) := by decide +kernel
theorem dX4_readNumber_70 : decode cX4_readNumber 70 = .ok (.invokevirtual 95, 3) := by decide +kernel
theorem dX4_readNumber_73 : decode cX4_readNumber 73 = .ok (.aload_n 0, 1) := by decide +kernel
theorem dX4_readNumber_74 : decode cX4_readNumber 74 = .ok (.getfield 19, 3) := by decide +kernel
theorem dX4_readNumber_77 : decode cX4_readNumber 77 = .ok (.aload_n 0, 1) := by decide +kernel
theorem dX4_readNumber_78 : decode cX4_readNumber 78 = .ok (.getfield 19, 3) := by decide +kernel
theorem dX4_readNumber_81 : decode cX4_readNumber 81 = .ok (.invokevirtual 116, 3) := by decide +kernel
theorem dX4_readNumber_84 : decode cX4_readNumber 84 = .ok (.invokevirtual 89, 3) := by decide +kernel
theorem dX4_readNumber_87 : decode cX4_readNumber 87 = .ok (.ireturn, 1) := by decide +kernel
theorem dX4_aboutHere_0 : decode cX4_aboutHere 0 = .ok (.aload_n 0, 1) := by decide +kernel
theorem dX4_aboutHere_1 : decode cX4_aboutHere 1 = .ok (.getfield 19, 3) := by decide +kernel
theorem dX4_aboutHere_4 : decode cX4_aboutHere 4 = .ok (.ldc 119, 2) := by decide +kernel
theorem dX4_aboutHere_6 : decode cX4_aboutHere 6 = .ok (.invokevirtual 73, 3) := by decide +kernel
theorem dX4_aboutHere_9 : decode cX4_aboutHere 9 = .ok (.ifCond .eq 5, 3) := by decide +kernel
theorem dX4_aboutHere_12 : decode cX4_aboutHere 12 = .ok (.iconst 0, 1) := by decide +kernel
theorem dX4_aboutHere_13 : decode cX4_aboutHere 13 = .ok (.ireturn, 1) := by decide +kernel
theorem dX4_aboutHere_14 : decode cX4_aboutHere 14 = .ok (.aload_n 0, 1) := by decide +kernel
theorem dX4_aboutHere_15 : decode cX4_aboutHere 15 = .ok (.getfield 19, 3) := by decide +kernel
theorem dX4_aboutHere_18 : decode cX4_aboutHere 18 = .ok (.ldc 121, 2) := by decide +kernel
theorem dX4_aboutHere_20 : decode cX4_aboutHere 20 = .ok (.invokevirtual 73, 3) := by decide +kernel
theorem dX4_aboutHere_23 : decode cX4_aboutHere 23 = .ok (.ifCond .eq 5, 3) := by decide +kernel
theorem dX4_aboutHere_26 : decode cX4_aboutHere 26 = .ok (.iconst 1, 1) := by decide +kernel
theorem dX4_aboutHere_27 : decode cX4_aboutHere 27 = .ok (.ireturn, 1) := by decide +kernel
theorem dX4_aboutHere_28 : decode cX4_aboutHere 28 = .ok (.aload_n 0, 1) := by decide +kernel
theorem dX4_aboutHere_29 : decode cX4_aboutHere 29 = .ok (.getfield 19, 3) := by decide +kernel
theorem dX4_aboutHere_32 : decode cX4_aboutHere 32 = .ok (.ldc 123, 2) := by decide +kernel
theorem dX4_aboutHere_34 : decode cX4_aboutHere 34 = .ok (.invokevirtual 73, 3) := by decide +kernel
theorem dX4_aboutHere_37 : decode cX4_aboutHere 37 = .ok (.ifCond .eq 5, 3) := by decide +kernel
theorem dX4_aboutHere_40 : decode cX4_aboutHere 40 = .ok (.iconst 2, 1) := by decide +kernel
theorem dX4_aboutHere_41 : decode cX4_aboutHere 41 = .ok (.ireturn, 1) := by decide +kernel
theorem dX4_aboutHere_42 : decode cX4_aboutHere 42 = .ok (.aload_n 0, 1) := by decide +kernel
theorem dX4_aboutHere_43 : decode cX4_aboutHere 43 = .ok (.getfield 19, 3) := by decide +kernel
theorem dX4_aboutHere_46 : decode cX4_aboutHere 46 = .ok (.ldc 125, 2) := by decide +kernel
theorem dX4_aboutHere_48 : decode cX4_aboutHere 48 = .ok (.invokevirtual 73, 3) := by decide +kernel
theorem dX4_aboutHere_51 : decode cX4_aboutHere 51 = .ok (.ifCond .eq 5, 3) := by decide +kernel
theorem dX4_aboutHere_54 : decode cX4_aboutHere 54 = .ok (.iconst 3, 1) := by decide +kernel
theorem dX4_aboutHere_55 : decode cX4_aboutHere 55 = .ok (.ireturn, 1) := by decide +kernel
theorem dX4_aboutHere_56 : decode cX4_aboutHere 56 = .ok (.aload_n 0, 1) := by decide +kernel
theorem dX4_aboutHere_57 : decode cX4_aboutHere 57 = .ok (.getfield 19, 3) := by decide +kernel
theorem dX4_aboutHere_60 : decode cX4_aboutHere 60 = .ok (.ldc 127, 2) := by decide +kernel
theorem dX4_aboutHere_62 : decode cX4_aboutHere 62 = .ok (.invokevirtual 73, 3) := by decide +kernel
theorem dX4_aboutHere_65 : decode cX4_aboutHere 65 = .ok (.ifCond .eq 5, 3) := by decide +kernel
theorem dX4_aboutHere_68 : decode cX4_aboutHere 68 = .ok (.iconst 4, 1) := by decide +kernel
theorem dX4_aboutHere_69 : decode cX4_aboutHere 69 = .ok (.ireturn, 1) := by decide +kernel
theorem dX4_aboutHere_70 : decode cX4_aboutHere 70 = .ok (.aload_n 0, 1) := by decide +kernel
theorem dX4_aboutHere_71 : decode cX4_aboutHere 71 = .ok (.getfield 19, 3) := by decide +kernel
theorem dX4_aboutHere_74 : decode cX4_aboutHere 74 = .ok (.ldc 129, 2) := by decide +kernel
theorem dX4_aboutHere_76 : decode cX4_aboutHere 76 = .ok (.invokevirtual 73, 3) := by decide +kernel
theorem dX4_aboutHere_79 : decode cX4_aboutHere 79 = .ok (.ifCond .eq 5, 3) := by decide +kernel
theorem dX4_aboutHere_82 : decode cX4_aboutHere 82 = .ok (.iconst 5, 1) := by decide +kernel
theorem dX4_aboutHere_83 : decode cX4_aboutHere 83 = .ok (.ireturn, 1) := by decide +kernel
theorem dX4_aboutHere_84 : decode cX4_aboutHere 84 = .ok (.aload_n 0, 1) := by decide +kernel
theorem dX4_aboutHere_85 : decode cX4_aboutHere 85 = .ok (.getfield 19, 3) := by decide +kernel
theorem dX4_aboutHere_88 : decode cX4_aboutHere 88 = .ok (.ldc 131, 2) := by decide +kernel
theorem dX4_aboutHere_90 : decode cX4_aboutHere 90 = .ok (.invokevirtual 73, 3) := by decide +kernel
theorem dX4_aboutHere_93 : decode cX4_aboutHere 93 = .ok (.ifCond .eq 8, 3) := by decide +kernel
theorem dX4_aboutHere_96 : decode cX4_aboutHere 96 = .ok (.bipush 6, 2) := by decide +kernel
theorem dX4_aboutHere_98 : decode cX4_aboutHere 98 = .ok (.goto 4, 3) := by decide +kernel
theorem dX4_aboutHere_101 : decode cX4_aboutHere 101 = .ok (.iconst (-1), 1) := by decide +kernel
theorem dX4_aboutHere_102 : decode cX4_aboutHere 102 = .ok (.ireturn, 1) := by decide +kernel
theorem dX5_init_0 : decode cX5_init 0 = .ok (.aload_n 0, 1) := by decide +kernel
theorem dX5_init_1 : decode cX5_init 1 = .ok (.invokespecial 3, 3) := by decide +kernel
theorem dX5_init_4 : decode cX5_init 4 = .ok (.aload_n 0, 1) := by decide +kernel
theorem dX5_init_5 : decode cX5_init 5 = .ok (.bipush 8, 2) := by decide +kernel
theorem dX5_init_7 : decode cX5_init 7 = .ok (.newarray .int, 2) := by decide +kernel
theorem dX5_init_9 : decode cX5_init 9 = .ok (.putfield 9, 3) := by decide +kernel
theorem dX5_init_12 : decode cX5_init 12 = .ok (.aload_n 0, 1) := by decide +kernel
theorem dX5_init_13 : decode cX5_init 13 = .ok (.bipush 6, 2) := by decide +kernel
theorem dX5_init_15 : decode cX5_init 15 = .ok (.newarray .int, 2) := by decide +kernel
theorem dX5_init_17 : decode cX5_init 17 = .ok (.putfield 15, 3) := by decide +kernel
theorem dX5_init_20 : decode cX5_init 20 = .ok (.aload_n 0, 1) := by decide +kernel
theorem dX5_init_21 : decode cX5_init 21 = .ok (.bipush 6, 2) := by decide +kernel
theorem dX5_init_23 : decode cX5_init 23 = .ok (.newarray .int, 2) := by decide +kernel
theorem dX5_init_25 : decode cX5_init 25 = .ok (.putfield 18, 3) := by decide +kernel
theorem dX5_init_28 : decode cX5_init 28 = .ok (.aload_n 0, 1) := by decide +kernel
theorem dX5_init_29 : decode cX5_init 29 = .ok (.iconst (-1), 1) := by decide +kernel
theorem dX5_init_30 : decode cX5_init 30 = .ok (.putfield 21, 3) := by decide +kernel
theorem dX5_init_33 : decode cX5_init 33 = .ok (.aload_n 0, 1) := by decide +kernel
theorem dX5_init_34 : decode cX5_init 34 = .ok (.iconst (-1), 1) := by decide +kernel
theorem dX5_init_35 : decode cX5_init 35 = .ok (.putfield 25, 3) := by decide +kernel
theorem dX5_init_38 : decode cX5_init 38 = .ok (.aload_n 0, 1) := by decide +kernel
theorem dX5_init_39 : decode cX5_init 39 = .ok (.iconst (-1), 1) := by decide +kernel
theorem dX5_init_40 : decode cX5_init 40 = .ok (.putfield 28, 3) := by decide +kernel
theorem dX5_init_43 : decode cX5_init 43 = .ok (.aload_n 0, 1) := by decide +kernel
theorem dX5_init_44 : decode cX5_init 44 = .ok (.iconst 0, 1) := by decide +kernel
theorem dX5_init_45 : decode cX5_init 45 = .ok (.putfield 31, 3) := by decide +kernel
theorem dX5_init_48 : decode cX5_init 48 = .ok (.aload_n 0, 1) := by decide +kernel
theorem dX5_init_49 : decode cX5_init 49 = .ok (.aload_n 1, 1) := by decide +kernel
theorem dX5_init_50 : decode cX5_init 50 = .ok (.putfield 34, 3) := by decide +kernel
theorem dX5_init_53 : decode cX5_init 53 = .ok (.aload_n 0, 1) := by decide +kernel
theorem dX5_init_54 : decode cX5_init 54 = .ok (.aload_n 2, 1) := by decide +kernel
theorem dX5_init_55 : decode cX5_init 55 = .ok (.putfield 38, 3) := by decide +kernel
theorem dX5_init_58 : decode cX5_init 58 = .ok (.return_, 1) := by decide +kernel
theorem dX5_chooseSites_0 : decode cX5_chooseSites 0 = .ok (.aload_n 0, 1) := by decide +kernel
theorem dX5_chooseSites_1 : decode cX5_chooseSites 1 = .ok (.invokevirtual 42, 3) := by decide +kernel
theorem dX5_chooseSites_4 : decode cX5_chooseSites 4 = .ok (.aload_n 0, 1) := by decide +kernel
theorem dX5_chooseSites_5 : decode cX5_chooseSites 5 = .ok (.iconst (-1), 1) := by decide +kernel
theorem dX5_chooseSites_6 : decode cX5_chooseSites 6 = .ok (.putfield 21, 3) := by decide +kernel
theorem dX5_chooseSites_9 : decode cX5_chooseSites 9 = .ok (.aload_n 0, 1) := by decide +kernel
theorem dX5_chooseSites_10 : decode cX5_chooseSites 10 = .ok (.iconst (-1), 1) := by decide +kernel
theorem dX5_chooseSites_11 : decode cX5_chooseSites 11 = .ok (.putfield 25, 3) := by decide +kernel
theorem dX5_chooseSites_14 : decode cX5_chooseSites 14 = .ok (.aload_n 0, 1) := by decide +kernel
theorem dX5_chooseSites_15 : decode cX5_chooseSites 15 = .ok (.iconst (-1), 1) := by decide +kernel
theorem dX5_chooseSites_16 : decode cX5_chooseSites 16 = .ok (.putfield 28, 3) := by decide +kernel
theorem dX5_chooseSites_19 : decode cX5_chooseSites 19 = .ok (.iconst 1, 1) := by decide +kernel
theorem dX5_chooseSites_20 : decode cX5_chooseSites 20 = .ok (.aload_n 0, 1) := by decide +kernel
theorem dX5_chooseSites_21 : decode cX5_chooseSites 21 = .ok (.getfield 34, 3) := by decide +kernel
theorem dX5_chooseSites_24 : decode cX5_chooseSites 24 = .ok (.getfield 45, 3) := by decide +kernel
theorem dX5_chooseSites_27 : decode cX5_chooseSites 27 = .ok (.invokevirtual 51, 3) := by decide +kernel
theorem dX5_chooseSites_30 : decode cX5_chooseSites 30 = .ok (.ishl, 1) := by decide +kernel
theorem dX5_chooseSites_31 : decode cX5_chooseSites 31 = .ok (.iconst 1, 1) := by decide +kernel
theorem dX5_chooseSites_32 : decode cX5_chooseSites 32 = .ok (.isub, 1) := by decide +kernel
theorem dX5_chooseSites_33 : decode cX5_chooseSites 33 = .ok (.istore_n 1, 1) := by decide +kernel
theorem dX5_chooseSites_34 : decode cX5_chooseSites 34 = .ok (.iconst 0, 1) := by decide +kernel
theorem dX5_chooseSites_35 : decode cX5_chooseSites 35 = .ok (.istore_n 2, 1) := by decide +kernel
theorem dX5_chooseSites_36 : decode cX5_chooseSites 36 = .ok (.iload_n 2, 1) := by decide +kernel
theorem dX5_chooseSites_37 : decode cX5_chooseSites 37 = .ok (.iconst 1, 1) := by decide +kernel
theorem dX5_chooseSites_38 : decode cX5_chooseSites 38 = .ok (.aload_n 0, 1) := by decide +kernel
theorem dX5_chooseSites_39 : decode cX5_chooseSites 39 = .ok (.getfield 34, 3) := by decide +kernel
theorem dX5_chooseSites_42 : decode cX5_chooseSites 42 = .ok (.getfield 57, 3) := by decide +kernel
theorem dX5_chooseSites_45 : decode cX5_chooseSites 45 = .ok (.invokevirtual 51, 3) := by decide +kernel
theorem dX5_chooseSites_48 : decode cX5_chooseSites 48 = .ok (.ishl, 1) := by decide +kernel
theorem dX5_chooseSites_49 : decode cX5_chooseSites 49 = .ok (.if_icmp .ge 32, 3) := by decide +kernel
theorem dX5_chooseSites_52 : decode cX5_chooseSites 52 = .ok (.aload_n 0, 1) := by decide +kernel
theorem dX5_chooseSites_53 : decode cX5_chooseSites 53 = .ok (.iload_n 2, 1) := by decide +kernel
theorem dX5_chooseSites_54 : decode cX5_chooseSites 54 = .ok (.invokevirtual 60, 3) := by decide +kernel
theorem dX5_chooseSites_57 : decode cX5_chooseSites 57 = .ok (.iload_n 1, 1) := by decide +kernel
theorem dX5_chooseSites_58 : decode cX5_chooseSites 58 = .ok (.if_icmp .ne 17, 3) := by decide +kernel
theorem dX5_chooseSites_61 : decode cX5_chooseSites 61 = .ok (.aload_n 0, 1) := by decide +kernel
theorem dX5_chooseSites_62 : decode cX5_chooseSites 62 = .ok (.iload_n 2, 1) := by decide +kernel
theorem dX5_chooseSites_63 : decode cX5_chooseSites 63 = .ok (.aload_n 0, 1) := by decide +kernel
theorem dX5_chooseSites_64 : decode cX5_chooseSites 64 = .ok (.iload_n 2, 1) := by decide +kernel
theorem dX5_chooseSites_65 : decode cX5_chooseSites 65 = .ok (.invokevirtual 64, 3) := by decide +kernel
theorem dX5_chooseSites_68 : decode cX5_chooseSites 68 = .ok (.iload_n 2, 1) := by decide +kernel
theorem dX5_chooseSites_69 : decode cX5_chooseSites 69 = .ok (.invokestatic 67, 3) := by decide +kernel
theorem dX5_chooseSites_72 : decode cX5_chooseSites 72 = .ok (.invokevirtual 72, 3) := by decide +kernel
theorem dX5_chooseSites_75 : decode cX5_chooseSites 75 = .ok (.iinc 2 1, 3) := by decide +kernel
theorem dX5_chooseSites_78 : decode cX5_chooseSites 78 = .ok (.goto (-42), 3) := by decide +kernel
theorem dX5_chooseSites_81 : decode cX5_chooseSites 81 = .ok (.return_, 1) := by decide +kernel
theorem dX5_findSiteReaches_0 : decode cX5_findSiteReaches 0 = .ok (.iconst 0, 1) := by decide +kernel
theorem dX5_findSiteReaches_1 : decode cX5_findSiteReaches 1 = .ok (.istore_n 1, 1) := by decide +kernel
theorem dX5_findSiteReaches_2 : decode cX5_findSiteReaches 2 = .ok (.iload_n 1, 1) := by decide +kernel
theorem dX5_findSiteReaches_3 : decode cX5_findSiteReaches 3 = .ok (.aload_n 0, 1) := by decide +kernel
theorem dX5_findSiteReaches_4 : decode cX5_findSiteReaches 4 = .ok (.getfield 9, 3) := by decide +kernel
theorem dX5_findSiteReaches_7 : decode cX5_findSiteReaches 7 = .ok (.arraylength, 1) := by decide +kernel
theorem dX5_findSiteReaches_8 : decode cX5_findSiteReaches 8 = .ok (.if_icmp .ge 70, 3) := by decide +kernel
theorem dX5_findSiteReaches_11 : decode cX5_findSiteReaches 11 = .ok (.iconst 0, 1) := by decide +kernel
theorem dX5_findSiteReaches_12 : decode cX5_findSiteReaches 12 = .ok (.istore_n 2, 1) := by decide +kernel
theorem dX5_findSiteReaches_13 : decode cX5_findSiteReaches 13 = .ok (.iconst 0, 1) := by decide +kernel
theorem dX5_findSiteReaches_14 : decode cX5_findSiteReaches 14 = .ok (.istore_n 3, 1) := by decide +kernel
theorem dX5_findSiteReaches_15 : decode cX5_findSiteReaches 15 = .ok (.iload_n 3, 1) := by decide +kernel
theorem dX5_findSiteReaches_16 : decode cX5_findSiteReaches 16 = .ok (.aload_n 0, 1) := by decide +kernel
theorem dX5_findSiteReaches_17 : decode cX5_findSiteReaches 17 = .ok (.getfield 34, 3) := by decide +kernel
theorem dX5_findSiteReaches_20 : decode cX5_findSiteReaches 20 = .ok (.getfield 45, 3) := by decide +kernel
theorem dX5_findSiteReaches_23 : decode cX5_findSiteReaches 23 = .ok (.invokevirtual 51, 3) := by decide +kernel
theorem dX5_findSiteReaches_26 : decode cX5_findSiteReaches 26 = .ok (.if_icmp .ge 39, 3) := by decide +kernel
theorem dX5_findSiteReaches_29 : decode cX5_findSiteReaches 29 = .ok (.iload_n 2, 1) := by decide +kernel
theorem dX5_findSiteReaches_30 : decode cX5_findSiteReaches 30 = .ok (.aload_n 0, 1) := by decide +kernel
theorem dX5_findSiteReaches_31 : decode cX5_findSiteReaches 31 = .ok (.getfield 38, 3) := by decide +kernel
theorem dX5_findSiteReaches_34 : decode cX5_findSiteReaches 34 = .ok (.iload_n 1, 1) := by decide +kernel
theorem dX5_findSiteReaches_35 : decode cX5_findSiteReaches 35 = .ok (.iload_n 3, 1) := by decide +kernel
theorem dX5_findSiteReaches_36 : decode cX5_findSiteReaches 36 = .ok (.invokevirtual 76, 3) := by decide +kernel
theorem dX5_findSiteReaches_39 : decode cX5_findSiteReaches 39 = .ok (.aload_n 0, 1) := by decide +kernel
theorem dX5_findSiteReaches_40 : decode cX5_findSiteReaches 40 = .ok (.getfield 34, 3) := by decide +kernel
theorem dX5_findSiteReaches_43 : decode cX5_findSiteReaches 43 = .ok (.iconst 4, 1) := by decide +kernel
theorem dX5_findSiteReaches_44 : decode cX5_findSiteReaches 44 = .ok (.invokevirtual 82, 3) := by decide +kernel
theorem dX5_findSiteReaches_47 : decode cX5_findSiteReaches 47 = .ok (.if_icmp .lt 9, 3) := by decide +kernel
theorem dX5_findSiteReaches_50 : decode cX5_findSiteReaches 50 = .ok (.iconst 1, 1) := by decide +kernel
theorem dX5_findSiteReaches_51 : decode cX5_findSiteReaches 51 = .ok (.iload_n 3, 1) := by decide +kernel
theorem dX5_findSiteReaches_52 : decode cX5_findSiteReaches 52 = .ok (.ishl, 1) := by decide +kernel
theorem dX5_findSiteReaches_53 : decode cX5_findSiteReaches 53 = .ok (.goto 4, 3) := by decide +kernel
theorem dX5_findSiteReaches_56 : decode cX5_findSiteReaches 56 = .ok (.iconst 0, 1) := by decide +kernel
theorem dX5_findSiteReaches_57 : decode cX5_findSiteReaches 57 = .ok (.ior, 1) := by decide +kernel
theorem dX5_findSiteReaches_58 : decode cX5_findSiteReaches 58 = .ok (.istore_n 2, 1) := by decide +kernel
theorem dX5_findSiteReaches_59 : decode cX5_findSiteReaches 59 = .ok (.iinc 3 1, 3) := by decide +kernel
theorem dX5_findSiteReaches_62 : decode cX5_findSiteReaches 62 = .ok (.goto (-47), 3) := by decide +kernel
theorem dX5_findSiteReaches_65 : decode cX5_findSiteReaches 65 = .ok (.aload_n 0, 1) := by decide +kernel
theorem dX5_findSiteReaches_66 : decode cX5_findSiteReaches 66 = .ok (.getfield 9, 3) := by decide +kernel
theorem dX5_findSiteReaches_69 : decode cX5_findSiteReaches 69 = .ok (.iload_n 1, 1) := by decide +kernel
theorem dX5_findSiteReaches_70 : decode cX5_findSiteReaches 70 = .ok (.iload_n 2, 1) := by decide +kernel
theorem dX5_findSiteReaches_71 : decode cX5_findSiteReaches 71 = .ok (.iastore, 1) := by decide +kernel
theorem dX5_findSiteReaches_72 : decode cX5_findSiteReaches 72 = .ok (.iinc 1 1, 3) := by decide +kernel
theorem dX5_findSiteReaches_75 : decode cX5_findSiteReaches 75 = .ok (.goto (-73), 3) := by decide +kernel
theorem dX5_findSiteReaches_78 : decode cX5_findSiteReaches 78 = .ok (.return_, 1) := by decide +kernel
theorem dX5_reachOf_0 : decode cX5_reachOf 0 = .ok (.iconst 0, 1) := by decide +kernel
theorem dX5_reachOf_1 : decode cX5_reachOf 1 = .ok (.istore_n 2, 1) := by decide +kernel
theorem dX5_reachOf_2 : decode cX5_reachOf 2 = .ok (.iconst 0, 1) := by decide +kernel
theorem dX5_reachOf_3 : decode cX5_reachOf 3 = .ok (.istore_n 3, 1) := by decide +kernel
theorem dX5_reachOf_4 : decode cX5_reachOf 4 = .ok (.iload_n 3, 1) := by decide +kernel
theorem dX5_reachOf_5 : decode cX5_reachOf 5 = .ok (.aload_n 0, 1) := by decide +kernel
theorem dX5_reachOf_6 : decode cX5_reachOf 6 = .ok (.getfield 9, 3) := by decide +kernel
theorem dX5_reachOf_9 : decode cX5_reachOf 9 = .ok (.arraylength, 1) := by decide +kernel
theorem dX5_reachOf_10 : decode cX5_reachOf 10 = .ok (.if_icmp .ge 31, 3) := by decide +kernel
theorem dX5_reachOf_13 : decode cX5_reachOf 13 = .ok (.iload_n 2, 1) := by decide +kernel
theorem dX5_reachOf_14 : decode cX5_reachOf 14 = .ok (.iload_n 1, 1) := by decide +kernel
theorem dX5_reachOf_15 : decode cX5_reachOf 15 = .ok (.iload_n 3, 1) := by decide +kernel
theorem dX5_reachOf_16 : decode cX5_reachOf 16 = .ok (.ishr, 1) := by decide +kernel
theorem dX5_reachOf_17 : decode cX5_reachOf 17 = .ok (.iconst 1, 1) := by decide +kernel
theorem dX5_reachOf_18 : decode cX5_reachOf 18 = .ok (.iand, 1) := by decide +kernel
theorem dX5_reachOf_19 : decode cX5_reachOf 19 = .ok (.iconst 1, 1) := by decide +kernel
theorem dX5_reachOf_20 : decode cX5_reachOf 20 = .ok (.if_icmp .ne 12, 3) := by decide +kernel
theorem dX5_reachOf_23 : decode cX5_reachOf 23 = .ok (.aload_n 0, 1) := by decide +kernel
theorem dX5_reachOf_24 : decode cX5_reachOf 24 = .ok (.getfield 9, 3) := by decide +kernel
theorem dX5_reachOf_27 : decode cX5_reachOf 27 = .ok (.iload_n 3, 1) := by decide +kernel
theorem dX5_reachOf_28 : decode cX5_reachOf 28 = .ok (.iaload, 1) := by decide +kernel
theorem dX5_reachOf_29 : decode cX5_reachOf 29 = .ok (.goto 4, 3) := by decide +kernel
theorem dX5_reachOf_32 : decode cX5_reachOf 32 = .ok (.iconst 0, 1) := by decide +kernel
theorem dX5_reachOf_33 : decode cX5_reachOf 33 = .ok (.ior, 1) := by decide +kernel
theorem dX5_reachOf_34 : decode cX5_reachOf 34 = .ok (.istore_n 2, 1) := by decide +kernel
theorem dX5_reachOf_35 : decode cX5_reachOf 35 = .ok (.iinc 3 1, 3) := by decide +kernel
theorem dX5_reachOf_38 : decode cX5_reachOf 38 = .ok (.goto (-34), 3) := by decide +kernel
theorem dX5_reachOf_41 : decode cX5_reachOf 41 = .ok (.iload_n 2, 1) := by decide +kernel
theorem dX5_reachOf_42 : decode cX5_reachOf 42 = .ok (.ireturn, 1) := by decide +kernel
theorem dX5_costOf_0 : decode cX5_costOf 0 = .ok (.iconst 0, 1) := by decide +kernel
theorem dX5_costOf_1 : decode cX5_costOf 1 = .ok (.istore_n 2, 1) := by decide +kernel
theorem dX5_costOf_2 : decode cX5_costOf 2 = .ok (.iconst 0, 1) := by decide +kernel
theorem dX5_costOf_3 : decode cX5_costOf 3 = .ok (.istore_n 3, 1) := by decide +kernel
theorem dX5_costOf_4 : decode cX5_costOf 4 = .ok (.iload_n 3, 1) := by decide +kernel
theorem dX5_costOf_5 : decode cX5_costOf 5 = .ok (.aload_n 0, 1) := by decide +kernel
theorem dX5_costOf_6 : decode cX5_costOf 6 = .ok (.getfield 34, 3) := by decide +kernel
theorem dX5_costOf_9 : decode cX5_costOf 9 = .ok (.getfield 57, 3) := by decide +kernel
theorem dX5_costOf_12 : decode cX5_costOf 12 = .ok (.invokevirtual 51, 3) := by decide +kernel
theorem dX5_costOf_15 : decode cX5_costOf 15 = .ok (.if_icmp .ge 37, 3) := by decide +kernel
theorem dX5_costOf_18 : decode cX5_costOf 18 = .ok (.iload_n 2, 1) := by decide +kernel
theorem dX5_costOf_19 : decode cX5_costOf 19 = .ok (.iload_n 1, 1) := by decide +kernel
theorem dX5_costOf_20 : decode cX5_costOf 20 = .ok (.iload_n 3, 1) := by decide +kernel
theorem dX5_costOf_21 : decode cX5_costOf 21 = .ok (.ishr, 1) := by decide +kernel
theorem dX5_costOf_22 : decode cX5_costOf 22 = .ok (.iconst 1, 1) := by decide +kernel
theorem dX5_costOf_23 : decode cX5_costOf 23 = .ok (.iand, 1) := by decide +kernel
theorem dX5_costOf_24 : decode cX5_costOf 24 = .ok (.iconst 1, 1) := by decide +kernel
theorem dX5_costOf_25 : decode cX5_costOf 25 = .ok (.if_icmp .ne 18, 3) := by decide +kernel
theorem dX5_costOf_28 : decode cX5_costOf 28 = .ok (.aload_n 0, 1) := by decide +kernel
theorem dX5_costOf_29 : decode cX5_costOf 29 = .ok (.getfield 34, 3) := by decide +kernel
theorem dX5_costOf_32 : decode cX5_costOf 32 = .ok (.getfield 57, 3) := by decide +kernel
theorem dX5_costOf_35 : decode cX5_costOf 35 = .ok (.iload_n 3, 1) := by decide +kernel
theorem dX5_costOf_36 : decode cX5_costOf 36 = .ok (.iconst 3, 1) := by decide +kernel
theorem dX5_costOf_37 : decode cX5_costOf 37 = .ok (.invokevirtual 85, 3) := by decide +kernel
theorem dX5_costOf_40 : decode cX5_costOf 40 = .ok (.goto 4, 3) := by decide +kernel
theorem dX5_costOf_43 : decode cX5_costOf 43 = .ok (.iconst 0, 1) := by decide +kernel
theorem dX5_costOf_44 : decode cX5_costOf 44 = .ok (.iadd, 1) := by decide +kernel
theorem dX5_costOf_45 : decode cX5_costOf 45 = .ok (.istore_n 2, 1) := by decide +kernel
theorem dX5_costOf_46 : decode cX5_costOf 46 = .ok (.iinc 3 1, 3) := by decide +kernel
theorem dX5_costOf_49 : decode cX5_costOf 49 = .ok (.goto (-45), 3) := by decide +kernel
theorem dX5_costOf_52 : decode cX5_costOf 52 = .ok (.iload_n 2, 1) := by decide +kernel
theorem dX5_costOf_53 : decode cX5_costOf 53 = .ok (.ireturn, 1) := by decide +kernel
theorem dX5_offer_0 : decode cX5_offer 0 = .ok (.aload_n 0, 1) := by decide +kernel
theorem dX5_offer_1 : decode cX5_offer 1 = .ok (.getfield 21, 3) := by decide +kernel
theorem dX5_offer_4 : decode cX5_offer 4 = .ok (.iconst (-1), 1) := by decide +kernel
theorem dX5_offer_5 : decode cX5_offer 5 = .ok (.if_icmp .eq 27, 3) := by decide +kernel
theorem dX5_offer_8 : decode cX5_offer 8 = .ok (.iload_n 2, 1) := by decide +kernel
theorem dX5_offer_9 : decode cX5_offer 9 = .ok (.aload_n 0, 1) := by decide +kernel
theorem dX5_offer_10 : decode cX5_offer 10 = .ok (.getfield 21, 3) := by decide +kernel
theorem dX5_offer_13 : decode cX5_offer 13 = .ok (.if_icmp .lt 19, 3) := by decide +kernel
theorem dX5_offer_16 : decode cX5_offer 16 = .ok (.iload_n 2, 1) := by decide +kernel
theorem dX5_offer_17 : decode cX5_offer 17 = .ok (.aload_n 0, 1) := by decide +kernel
theorem dX5_offer_18 : decode cX5_offer 18 = .ok (.getfield 21, 3) := by decide +kernel
theorem dX5_offer_21 : decode cX5_offer 21 = .ok (.if_icmp .ne 26, 3) := by decide +kernel
theorem dX5_offer_24 : decode cX5_offer 24 = .ok (.iload_n 3, 1) := by decide +kernel
theorem dX5_offer_25 : decode cX5_offer 25 = .ok (.aload_n 0, 1) := by decide +kernel
theorem dX5_offer_26 : decode cX5_offer 26 = .ok (.getfield 25, 3) := by decide +kernel
theorem dX5_offer_29 : decode cX5_offer 29 = .ok (.if_icmp .ge 18, 3) := by decide +kernel
theorem dX5_offer_32 : decode cX5_offer 32 = .ok (.aload_n 0, 1) := by decide +kernel
theorem dX5_offer_33 : decode cX5_offer 33 = .ok (.iload_n 2, 1) := by decide +kernel
theorem dX5_offer_34 : decode cX5_offer 34 = .ok (.putfield 21, 3) := by decide +kernel
theorem dX5_offer_37 : decode cX5_offer 37 = .ok (.aload_n 0, 1) := by decide +kernel
theorem dX5_offer_38 : decode cX5_offer 38 = .ok (.iload_n 3, 1) := by decide +kernel
theorem dX5_offer_39 : decode cX5_offer 39 = .ok (.putfield 25, 3) := by decide +kernel
theorem dX5_offer_42 : decode cX5_offer 42 = .ok (.aload_n 0, 1) := by decide +kernel
theorem dX5_offer_43 : decode cX5_offer 43 = .ok (.iload_n 1, 1) := by decide +kernel
theorem dX5_offer_44 : decode cX5_offer 44 = .ok (.putfield 28, 3) := by decide +kernel
theorem dX5_offer_47 : decode cX5_offer 47 = .ok (.return_, 1) := by decide +kernel
theorem dX5_findReaches_0 : decode cX5_findReaches 0 = .ok (.iconst 0, 1) := by decide +kernel
theorem dX5_findReaches_1 : decode cX5_findReaches 1 = .ok (.istore_n 1, 1) := by decide +kernel
theorem dX5_findReaches_2 : decode cX5_findReaches 2 = .ok (.iload_n 1, 1) := by decide +kernel
theorem dX5_findReaches_3 : decode cX5_findReaches 3 = .ok (.aload_n 0, 1) := by decide +kernel
theorem dX5_findReaches_4 : decode cX5_findReaches 4 = .ok (.getfield 15, 3) := by decide +kernel
theorem dX5_findReaches_7 : decode cX5_findReaches 7 = .ok (.arraylength, 1) := by decide +kernel
theorem dX5_findReaches_8 : decode cX5_findReaches 8 = .ok (.if_icmp .ge 112, 3) := by decide +kernel
theorem dX5_findReaches_11 : decode cX5_findReaches 11 = .ok (.aload_n 0, 1) := by decide +kernel
theorem dX5_findReaches_12 : decode cX5_findReaches 12 = .ok (.getfield 34, 3) := by decide +kernel
theorem dX5_findReaches_15 : decode cX5_findReaches 15 = .ok (.iload_n 1, 1) := by decide +kernel
theorem dX5_findReaches_16 : decode cX5_findReaches 16 = .ok (.invokevirtual 88, 3) := by decide +kernel
theorem dX5_findReaches_19 : decode cX5_findReaches 19 = .ok (.ifCond .eq 7, 3) := by decide +kernel
theorem dX5_findReaches_22 : decode cX5_findReaches 22 = .ok (.iconst 0, 1) := by decide +kernel
theorem dX5_findReaches_23 : decode cX5_findReaches 23 = .ok (.goto 4, 3) := by decide +kernel
theorem dX5_findReaches_26 : decode cX5_findReaches 26 = .ok (.iconst (-1), 1) := by decide +kernel
theorem dX5_findReaches_27 : decode cX5_findReaches 27 = .ok (.istore_n 2, 1) := by decide +kernel
theorem dX5_findReaches_28 : decode cX5_findReaches 28 = .ok (.iconst 0, 1) := by decide +kernel
theorem dX5_findReaches_29 : decode cX5_findReaches 29 = .ok (.istore_n 3, 1) := by decide +kernel
theorem dX5_findReaches_30 : decode cX5_findReaches 30 = .ok (.iload_n 3, 1) := by decide +kernel
theorem dX5_findReaches_31 : decode cX5_findReaches 31 = .ok (.aload_n 0, 1) := by decide +kernel
theorem dX5_findReaches_32 : decode cX5_findReaches 32 = .ok (.getfield 34, 3) := by decide +kernel
theorem dX5_findReaches_35 : decode cX5_findReaches 35 = .ok (.getfield 45, 3) := by decide +kernel
theorem dX5_findReaches_38 : decode cX5_findReaches 38 = .ok (.invokevirtual 51, 3) := by decide +kernel
theorem dX5_findReaches_41 : decode cX5_findReaches 41 = .ok (.if_icmp .ge 66, 3) := by decide +kernel
theorem dX5_findReaches_44 : decode cX5_findReaches 44 = .ok (.aload_n 0, 1) := by decide +kernel
theorem dX5_findReaches_45 : decode cX5_findReaches 45 = .ok (.getfield 38, 3) := by decide +kernel
theorem dX5_findReaches_48 : decode cX5_findReaches 48 = .ok (.iload_n 1, 1) := by decide +kernel
theorem dX5_findReaches_49 : decode cX5_findReaches 49 = .ok (.aload_n 0, 1) := by decide +kernel
theorem dX5_findReaches_50 : decode cX5_findReaches 50 = .ok (.getfield 34, 3) := by decide +kernel
theorem dX5_findReaches_53 : decode cX5_findReaches 53 = .ok (.getfield 45, 3) := by decide +kernel
theorem dX5_findReaches_56 : decode cX5_findReaches 56 = .ok (.iload_n 3, 1) := by decide +kernel
theorem dX5_findReaches_57 : decode cX5_findReaches 57 = .ok (.iconst 0, 1) := by decide +kernel
theorem dX5_findReaches_58 : decode cX5_findReaches 58 = .ok (.invokevirtual 85, 3) := by decide +kernel
theorem dX5_findReaches_61 : decode cX5_findReaches 61 = .ok (.aload_n 0, 1) := by decide +kernel
theorem dX5_findReaches_62 : decode cX5_findReaches 62 = .ok (.getfield 34, 3) := by decide +kernel
theorem dX5_findReaches_65 : decode cX5_findReaches 65 = .ok (.getfield 45, 3) := by decide +kernel
theorem dX5_findReaches_68 : decode cX5_findReaches 68 = .ok (.iload_n 3, 1) := by decide +kernel
theorem dX5_findReaches_69 : decode cX5_findReaches 69 = .ok (.iconst 1, 1) := by decide +kernel
theorem dX5_findReaches_70 : decode cX5_findReaches 70 = .ok (.invokevirtual 85, 3) := by decide +kernel
theorem dX5_findReaches_73 : decode cX5_findReaches 73 = .ok (.invokevirtual 92, 3) := by decide +kernel
theorem dX5_findReaches_76 : decode cX5_findReaches 76 = .ok (.istore 4, 2) := by decide +kernel
theorem dX5_findReaches_78 : decode cX5_findReaches 78 = .ok (.iload_n 2, 1) := by decide +kernel
theorem dX5_findReaches_79 : decode cX5_findReaches 79 = .ok (.iload 4, 2) := by decide +kernel
theorem dX5_findReaches_81 : decode cX5_findReaches 81 = .ok (.aload_n 0, 1) := by decide +kernel
theorem dX5_findReaches_82 : decode cX5_findReaches 82 = .ok (.getfield 34, 3) := by decide +kernel
theorem dX5_findReaches_85 : decode cX5_findReaches 85 = .ok (.iconst 4, 1) := by decide +kernel
theorem dX5_findReaches_86 : decode cX5_findReaches 86 = .ok (.invokevirtual 82, 3) := by decide +kernel
theorem dX5_findReaches_89 : decode cX5_findReaches 89 = .ok (.if_icmp .lt 9, 3) := by decide +kernel
theorem dX5_findReaches_92 : decode cX5_findReaches 92 = .ok (.iconst 1, 1) := by decide +kernel
theorem dX5_findReaches_93 : decode cX5_findReaches 93 = .ok (.iload_n 3, 1) := by decide +kernel
theorem dX5_findReaches_94 : decode cX5_findReaches 94 = .ok (.ishl, 1) := by decide +kernel
theorem dX5_findReaches_95 : decode cX5_findReaches 95 = .ok (.goto 4, 3) := by decide +kernel
theorem dX5_findReaches_98 : decode cX5_findReaches 98 = .ok (.iconst 0, 1) := by decide +kernel
theorem dX5_findReaches_99 : decode cX5_findReaches 99 = .ok (.ior, 1) := by decide +kernel
theorem dX5_findReaches_100 : decode cX5_findReaches 100 = .ok (.istore_n 2, 1) := by decide +kernel
theorem dX5_findReaches_101 : decode cX5_findReaches 101 = .ok (.iinc 3 1, 3) := by decide +kernel
theorem dX5_findReaches_104 : decode cX5_findReaches 104 = .ok (.goto (-74), 3) := by decide +kernel
theorem dX5_findReaches_107 : decode cX5_findReaches 107 = .ok (.aload_n 0, 1) := by decide +kernel
theorem dX5_findReaches_108 : decode cX5_findReaches 108 = .ok (.getfield 15, 3) := by decide +kernel
theorem dX5_findReaches_111 : decode cX5_findReaches 111 = .ok (.iload_n 1, 1) := by decide +kernel
theorem dX5_findReaches_112 : decode cX5_findReaches 112 = .ok (.iload_n 2, 1) := by decide +kernel
theorem dX5_findReaches_113 : decode cX5_findReaches 113 = .ok (.iastore, 1) := by decide +kernel
theorem dX5_findReaches_114 : decode cX5_findReaches 114 = .ok (.iinc 1 1, 3) := by decide +kernel
theorem dX5_findReaches_117 : decode cX5_findReaches 117 = .ok (.goto (-115), 3) := by decide +kernel
theorem dX5_findReaches_120 : decode cX5_findReaches 120 = .ok (.return_, 1) := by decide +kernel
theorem dX5_clashing_0 : decode cX5_clashing 0 = .ok (.aload_n 0, 1) := by decide +kernel
theorem dX5_clashing_1 : decode cX5_clashing 1 = .ok (.getfield 15, 3) := by decide +kernel
theorem dX5_clashing_4 : decode cX5_clashing 4 = .ok (.iload_n 1, 1) := by decide +kernel
theorem dX5_clashing_5 : decode cX5_clashing 5 = .ok (.iload_n 2, 1) := by decide +kernel
theorem dX5_clashing_6 : decode cX5_clashing 6 = .ok (.invokestatic 96, 3) := by decide +kernel
theorem dX5_clashing_9 : decode cX5_clashing 9 = .ok (.ireturn, 1) := by decide +kernel
theorem dX5_areClashing_0 : decode cX5_areClashing 0 = .ok (.iload_n 1, 1) := by decide +kernel
theorem dX5_areClashing_1 : decode cX5_areClashing 1 = .ok (.ifCond .lt 19, 3) := by decide +kernel
theorem dX5_areClashing_4 : decode cX5_areClashing 4 = .ok (.iload_n 1, 1) := by decide +kernel
theorem dX5_areClashing_5 : decode cX5_areClashing 5 = .ok (.aload_n 0, 1) := by decide +kernel
theorem dX5_areClashing_6 : decode cX5_areClashing 6 = .ok (.arraylength, 1) := by decide +kernel
theorem dX5_areClashing_7 : decode cX5_areClashing 7 = .ok (.if_icmp .ge 13, 3) := by decide +kernel
theorem dX5_areClashing_10 : decode cX5_areClashing 10 = .ok (.iload_n 2, 1) := by decide +kernel
theorem dX5_areClashing_11 : decode cX5_areClashing 11 = .ok (.ifCond .lt 9, 3) := by decide +kernel
theorem dX5_areClashing_14 : decode cX5_areClashing 14 = .ok (.iload_n 2, 1) := by decide +kernel
theorem dX5_areClashing_15 : decode cX5_areClashing 15 = .ok (.aload_n 0, 1) := by decide +kernel
theorem dX5_areClashing_16 : decode cX5_areClashing 16 = .ok (.arraylength, 1) := by decide +kernel
theorem dX5_areClashing_17 : decode cX5_areClashing 17 = .ok (.if_icmp .lt 5, 3) := by decide +kernel
theorem dX5_areClashing_20 : decode cX5_areClashing 20 = .ok (.iconst 0, 1) := by decide +kernel
theorem dX5_areClashing_21 : decode cX5_areClashing 21 = .ok (.ireturn, 1) := by decide +kernel
theorem dX5_areClashing_22 : decode cX5_areClashing 22 = .ok (.aload_n 0, 1) := by decide +kernel
theorem dX5_areClashing_23 : decode cX5_areClashing 23 = .ok (.iload_n 1, 1) := by decide +kernel
theorem dX5_areClashing_24 : decode cX5_areClashing 24 = .ok (.iaload, 1) := by decide +kernel
theorem dX5_areClashing_25 : decode cX5_areClashing 25 = .ok (.iconst (-1), 1) := by decide +kernel
theorem dX5_areClashing_26 : decode cX5_areClashing 26 = .ok (.if_icmp .eq 24, 3) := by decide +kernel
theorem dX5_areClashing_29 : decode cX5_areClashing 29 = .ok (.aload_n 0, 1) := by decide +kernel
theorem dX5_areClashing_30 : decode cX5_areClashing 30 = .ok (.iload_n 2, 1) := by decide +kernel
theorem dX5_areClashing_31 : decode cX5_areClashing 31 = .ok (.iaload, 1) := by decide +kernel
theorem dX5_areClashing_32 : decode cX5_areClashing 32 = .ok (.iconst (-1), 1) := by decide +kernel
theorem dX5_areClashing_33 : decode cX5_areClashing 33 = .ok (.if_icmp .eq 17, 3) := by decide +kernel
theorem dX5_areClashing_36 : decode cX5_areClashing 36 = .ok (.aload_n 0, 1) := by decide +kernel
theorem dX5_areClashing_37 : decode cX5_areClashing 37 = .ok (.iload_n 1, 1) := by decide +kernel
theorem dX5_areClashing_38 : decode cX5_areClashing 38 = .ok (.iaload, 1) := by decide +kernel
theorem dX5_areClashing_39 : decode cX5_areClashing 39 = .ok (.aload_n 0, 1) := by decide +kernel
theorem dX5_areClashing_40 : decode cX5_areClashing 40 = .ok (.iload_n 2, 1) := by decide +kernel
theorem dX5_areClashing_41 : decode cX5_areClashing 41 = .ok (.iaload, 1) := by decide +kernel
theorem dX5_areClashing_42 : decode cX5_areClashing 42 = .ok (.iand, 1) := by decide +kernel
theorem dX5_areClashing_43 : decode cX5_areClashing 43 = .ok (.ifCond .eq 7, 3) := by decide +kernel
theorem dX5_areClashing_46 : decode cX5_areClashing 46 = .ok (.iconst 1, 1) := by decide +kernel
theorem dX5_areClashing_47 : decode cX5_areClashing 47 = .ok (.goto 4, 3) := by decide +kernel
theorem dX5_areClashing_50 : decode cX5_areClashing 50 = .ok (.iconst 0, 1) := by decide +kernel
theorem dX5_areClashing_51 : decode cX5_areClashing 51 = .ok (.ireturn, 1) := by decide +kernel
theorem dX5_paintSenders_0 : decode cX5_paintSenders 0 = .ok (.aload_n 0, 1) := by decide +kernel
theorem dX5_paintSenders_1 : decode cX5_paintSenders 1 = .ok (.invokevirtual 100, 3) := by decide +kernel
theorem dX5_paintSenders_4 : decode cX5_paintSenders 4 = .ok (.aload_n 0, 1) := by decide +kernel
theorem dX5_paintSenders_5 : decode cX5_paintSenders 5 = .ok (.iconst 0, 1) := by decide +kernel
theorem dX5_paintSenders_6 : decode cX5_paintSenders 6 = .ok (.putfield 31, 3) := by decide +kernel
theorem dX5_paintSenders_9 : decode cX5_paintSenders 9 = .ok (.iconst 0, 1) := by decide +kernel
theorem dX5_paintSenders_10 : decode cX5_paintSenders 10 = .ok (.aload_n 0, 1) := by decide +kernel
theorem dX5_paintSenders_11 : decode cX5_paintSenders 11 = .ok (.getfield 31, 3) := by decide +kernel
theorem dX5_paintSenders_14 : decode cX5_paintSenders 14 = .ok (.aload_n 0, 1) := by decide +kernel
theorem dX5_paintSenders_15 : decode cX5_paintSenders 15 = .ok (.getfield 18, 3) := by decide +kernel
theorem dX5_paintSenders_18 : decode cX5_paintSenders 18 = .ok (.aload_n 0, 1) := by decide +kernel
theorem dX5_paintSenders_19 : decode cX5_paintSenders 19 = .ok (.getfield 15, 3) := by decide +kernel
theorem dX5_paintSenders_22 : decode cX5_paintSenders 22 = .ok (.invokestatic 103, 3) := by decide +kernel
theorem dX5_paintSenders_25 : decode cX5_paintSenders 25 = .ok (.ifCond .ne 25, 3) := by decide +kernel
theorem dX5_paintSenders_28 : decode cX5_paintSenders 28 = .ok (.aload_n 0, 1) := by decide +kernel
theorem dX5_paintSenders_29 : decode cX5_paintSenders 29 = .ok (.getfield 31, 3) := by decide +kernel
theorem dX5_paintSenders_32 : decode cX5_paintSenders 32 = .ok (.bipush 6, 2) := by decide +kernel
theorem dX5_paintSenders_34 : decode cX5_paintSenders 34 = .ok (.if_icmp .ge 16, 3) := by decide +kernel
theorem dX5_paintSenders_37 : decode cX5_paintSenders 37 = .ok (.aload_n 0, 1) := by decide +kernel
theorem dX5_paintSenders_38 : decode cX5_paintSenders 38 = .ok (.dup, 1) := by decide +kernel
theorem dX5_paintSenders_39 : decode cX5_paintSenders 39 = .ok (.getfield 31, 3) := by decide +kernel
theorem dX5_paintSenders_42 : decode cX5_paintSenders 42 = .ok (.iconst 1, 1) := by decide +kernel
theorem dX5_paintSenders_43 : decode cX5_paintSenders 43 = .ok (.iadd, 1) := by decide +kernel
theorem dX5_paintSenders_44 : decode cX5_paintSenders 44 = .ok (.putfield 31, 3) := by decide +kernel
theorem dX5_paintSenders_47 : decode cX5_paintSenders 47 = .ok (.goto (-38), 3) := by decide +kernel
theorem dX5_paintSenders_50 : decode cX5_paintSenders 50 = .ok (.return_, 1) := by decide +kernel
theorem dX5_paintFrom_0 : decode cX5_paintFrom 0 = .ok (.iload_n 0, 1) := by decide +kernel
theorem dX5_paintFrom_1 : decode cX5_paintFrom 1 = .ok (.ifCond .lt 15, 3) := by decide +kernel
theorem dX5_paintFrom_4 : decode cX5_paintFrom 4 = .ok (.iload_n 0, 1) := by decide +kernel
theorem dX5_paintFrom_5 : decode cX5_paintFrom 5 = .ok (.aload_n 2, 1) := by decide +kernel
theorem dX5_paintFrom_6 : decode cX5_paintFrom 6 = .ok (.arraylength, 1) := by decide +kernel
theorem dX5_paintFrom_7 : decode cX5_paintFrom 7 = .ok (.if_icmp .ge 9, 3) := by decide +kernel
theorem dX5_paintFrom_10 : decode cX5_paintFrom 10 = .ok (.iload_n 0, 1) := by decide +kernel
theorem dX5_paintFrom_11 : decode cX5_paintFrom 11 = .ok (.aload_n 3, 1) := by decide +kernel
theorem dX5_paintFrom_12 : decode cX5_paintFrom 12 = .ok (.arraylength, 1) := by decide +kernel
theorem dX5_paintFrom_13 : decode cX5_paintFrom 13 = .ok (.if_icmp .lt 5, 3) := by decide +kernel
theorem dX5_paintFrom_16 : decode cX5_paintFrom 16 = .ok (.iconst 1, 1) := by decide +kernel
theorem dX5_paintFrom_17 : decode cX5_paintFrom 17 = .ok (.ireturn, 1) := by decide +kernel
theorem dX5_paintFrom_18 : decode cX5_paintFrom 18 = .ok (.aload_n 3, 1) := by decide +kernel
theorem dX5_paintFrom_19 : decode cX5_paintFrom 19 = .ok (.iload_n 0, 1) := by decide +kernel
theorem dX5_paintFrom_20 : decode cX5_paintFrom 20 = .ok (.iaload, 1) := by decide +kernel
theorem dX5_paintFrom_21 : decode cX5_paintFrom 21 = .ok (.iconst (-1), 1) := by decide +kernel
theorem dX5_paintFrom_22 : decode cX5_paintFrom 22 = .ok (.if_icmp .ne 17, 3) := by decide +kernel
theorem dX5_paintFrom_25 : decode cX5_paintFrom 25 = .ok (.aload_n 2, 1) := by decide +kernel
theorem dX5_paintFrom_26 : decode cX5_paintFrom 26 = .ok (.iload_n 0, 1) := by decide +kernel
theorem dX5_paintFrom_27 : decode cX5_paintFrom 27 = .ok (.iconst (-1), 1) := by decide +kernel
theorem dX5_paintFrom_28 : decode cX5_paintFrom 28 = .ok (.iastore, 1) := by decide +kernel
theorem dX5_paintFrom_29 : decode cX5_paintFrom 29 = .ok (.iload_n 0, 1) := by decide +kernel
theorem dX5_paintFrom_30 : decode cX5_paintFrom 30 = .ok (.iconst 1, 1) := by decide +kernel
theorem dX5_paintFrom_31 : decode cX5_paintFrom 31 = .ok (.iadd, 1) := by decide +kernel
theorem dX5_paintFrom_32 : decode cX5_paintFrom 32 = .ok (.iload_n 1, 1) := by decide +kernel
theorem dX5_paintFrom_33 : decode cX5_paintFrom 33 = .ok (.aload_n 2, 1) := by decide +kernel
theorem dX5_paintFrom_34 : decode cX5_paintFrom 34 = .ok (.aload_n 3, 1) := by decide +kernel
theorem dX5_paintFrom_35 : decode cX5_paintFrom 35 = .ok (.invokestatic 103, 3) := by decide +kernel
theorem dX5_paintFrom_38 : decode cX5_paintFrom 38 = .ok (.ireturn, 1) := by decide +kernel
theorem dX5_paintFrom_39 : decode cX5_paintFrom 39 = .ok (.iconst 0, 1) := by decide +kernel
theorem dX5_paintFrom_40 : decode cX5_paintFrom 40 = .ok (.istore 4, 2) := by decide +kernel
theorem dX5_paintFrom_42 : decode cX5_paintFrom 42 = .ok (.iload 4, 2) := by decide +kernel
theorem dX5_paintFrom_44 : decode cX5_paintFrom 44 = .ok (.iload_n 1, 1) := by decide +kernel
theorem dX5_paintFrom_45 : decode cX5_paintFrom 45 = .ok (.if_icmp .ge 37, 3) := by decide +kernel
theorem dX5_paintFrom_48 : decode cX5_paintFrom 48 = .ok (.aload_n 2, 1) := by decide +kernel
theorem dX5_paintFrom_49 : decode cX5_paintFrom 49 = .ok (.iload_n 0, 1) := by decide +kernel
theorem dX5_paintFrom_50 : decode cX5_paintFrom 50 = .ok (.iload 4, 2) := by decide +kernel
theorem dX5_paintFrom_52 : decode cX5_paintFrom 52 = .ok (.iastore, 1) := by decide +kernel
theorem dX5_paintFrom_53 : decode cX5_paintFrom 53 = .ok (.iload_n 0, 1) := by decide +kernel
theorem dX5_paintFrom_54 : decode cX5_paintFrom 54 = .ok (.aload_n 2, 1) := by decide +kernel
theorem dX5_paintFrom_55 : decode cX5_paintFrom 55 = .ok (.aload_n 3, 1) := by decide +kernel
theorem dX5_paintFrom_56 : decode cX5_paintFrom 56 = .ok (.invokestatic 107, 3) := by decide +kernel
theorem dX5_paintFrom_59 : decode cX5_paintFrom 59 = .ok (.ifCond .eq 17, 3) := by decide +kernel
theorem dX5_paintFrom_62 : decode cX5_paintFrom 62 = .ok (.iload_n 0, 1) := by decide +kernel
theorem dX5_paintFrom_63 : decode cX5_paintFrom 63 = .ok (.iconst 1, 1) := by decide +kernel
theorem dX5_paintFrom_64 : decode cX5_paintFrom 64 = .ok (.iadd, 1) := by decide +kernel
theorem dX5_paintFrom_65 : decode cX5_paintFrom 65 = .ok (.iload_n 1, 1) := by decide +kernel
theorem dX5_paintFrom_66 : decode cX5_paintFrom 66 = .ok (.aload_n 2, 1) := by decide +kernel
theorem dX5_paintFrom_67 : decode cX5_paintFrom 67 = .ok (.aload_n 3, 1) := by decide +kernel
theorem dX5_paintFrom_68 : decode cX5_paintFrom 68 = .ok (.invokestatic 103, 3) := by decide +kernel
theorem dX5_paintFrom_71 : decode cX5_paintFrom 71 = .ok (.ifCond .eq 5, 3) := by decide +kernel
theorem dX5_paintFrom_74 : decode cX5_paintFrom 74 = .ok (.iconst 1, 1) := by decide +kernel
theorem dX5_paintFrom_75 : decode cX5_paintFrom 75 = .ok (.ireturn, 1) := by decide +kernel
theorem dX5_paintFrom_76 : decode cX5_paintFrom 76 = .ok (.iinc 4 1, 3) := by decide +kernel
theorem dX5_paintFrom_79 : decode cX5_paintFrom 79 = .ok (.goto (-37), 3) := by decide +kernel
theorem dX5_paintFrom_82 : decode cX5_paintFrom 82 = .ok (.iconst 0, 1) := by decide +kernel
theorem dX5_paintFrom_83 : decode cX5_paintFrom 83 = .ok (.ireturn, 1) := by decide +kernel
theorem dX5_isFree_0 : decode cX5_isFree 0 = .ok (.iconst 0, 1) := by decide +kernel
theorem dX5_isFree_1 : decode cX5_isFree 1 = .ok (.istore_n 3, 1) := by decide +kernel
theorem dX5_isFree_2 : decode cX5_isFree 2 = .ok (.iload_n 3, 1) := by decide +kernel
theorem dX5_isFree_3 : decode cX5_isFree 3 = .ok (.iload_n 0, 1) := by decide +kernel
theorem dX5_isFree_4 : decode cX5_isFree 4 = .ok (.if_icmp .ge 35, 3) := by decide +kernel
theorem dX5_isFree_7 : decode cX5_isFree 7 = .ok (.iload_n 0, 1) := by decide +kernel
theorem dX5_isFree_8 : decode cX5_isFree 8 = .ok (.aload_n 1, 1) := by decide +kernel
theorem dX5_isFree_9 : decode cX5_isFree 9 = .ok (.arraylength, 1) := by decide +kernel
theorem dX5_isFree_10 : decode cX5_isFree 10 = .ok (.if_icmp .ge 29, 3) := by decide +kernel
theorem dX5_isFree_13 : decode cX5_isFree 13 = .ok (.aload_n 1, 1) := by decide +kernel
theorem dX5_isFree_14 : decode cX5_isFree 14 = .ok (.iload_n 3, 1) := by decide +kernel
theorem dX5_isFree_15 : decode cX5_isFree 15 = .ok (.iaload, 1) := by decide +kernel
theorem dX5_isFree_16 : decode cX5_isFree 16 = .ok (.aload_n 1, 1) := by decide +kernel
theorem dX5_isFree_17 : decode cX5_isFree 17 = .ok (.iload_n 0, 1) := by decide +kernel
theorem dX5_isFree_18 : decode cX5_isFree 18 = .ok (.iaload, 1) := by decide +kernel
theorem dX5_isFree_19 : decode cX5_isFree 19 = .ok (.if_icmp .ne 14, 3) := by decide +kernel
theorem dX5_isFree_22 : decode cX5_isFree 22 = .ok (.aload_n 2, 1) := by decide +kernel
theorem dX5_isFree_23 : decode cX5_isFree 23 = .ok (.iload_n 3, 1) := by decide +kernel
theorem dX5_isFree_24 : decode cX5_isFree 24 = .ok (.iload_n 0, 1) := by decide +kernel
theorem dX5_isFree_25 : decode cX5_isFree 25 = .ok (.invokestatic 96, 3) := by decide +kernel
theorem dX5_isFree_28 : decode cX5_isFree 28 = .ok (.ifCond .eq 5, 3) := by decide +kernel
theorem dX5_isFree_31 : decode cX5_isFree 31 = .ok (.iconst 0, 1) := by decide +kernel
theorem dX5_isFree_32 : decode cX5_isFree 32 = .ok (.ireturn, 1) := by decide +kernel
theorem dX5_isFree_33 : decode cX5_isFree 33 = .ok (.iinc 3 1, 3) := by decide +kernel
theorem dX5_isFree_36 : decode cX5_isFree 36 = .ok (.goto (-34), 3) := by decide +kernel
theorem dX5_isFree_39 : decode cX5_isFree 39 = .ok (.iconst 1, 1) := by decide +kernel
theorem dX5_isFree_40 : decode cX5_isFree 40 = .ok (.ireturn, 1) := by decide +kernel
theorem dX5_paintOf_0 : decode cX5_paintOf 0 = .ok (.iload_n 1, 1) := by decide +kernel
theorem dX5_paintOf_1 : decode cX5_paintOf 1 = .ok (.ifCond .lt 21, 3) := by decide +kernel
theorem dX5_paintOf_4 : decode cX5_paintOf 4 = .ok (.iload_n 1, 1) := by decide +kernel
theorem dX5_paintOf_5 : decode cX5_paintOf 5 = .ok (.aload_n 0, 1) := by decide +kernel
theorem dX5_paintOf_6 : decode cX5_paintOf 6 = .ok (.getfield 18, 3) := by decide +kernel
theorem dX5_paintOf_9 : decode cX5_paintOf 9 = .ok (.arraylength, 1) := by decide +kernel
theorem dX5_paintOf_10 : decode cX5_paintOf 10 = .ok (.if_icmp .ge 12, 3) := by decide +kernel
theorem dX5_paintOf_13 : decode cX5_paintOf 13 = .ok (.aload_n 0, 1) := by decide +kernel
theorem dX5_paintOf_14 : decode cX5_paintOf 14 = .ok (.getfield 18, 3) := by decide +kernel
theorem dX5_paintOf_17 : decode cX5_paintOf 17 = .ok (.iload_n 1, 1) := by decide +kernel
theorem dX5_paintOf_18 : decode cX5_paintOf 18 = .ok (.iaload, 1) := by decide +kernel
theorem dX5_paintOf_19 : decode cX5_paintOf 19 = .ok (.goto 4, 3) := by decide +kernel
theorem dX5_paintOf_22 : decode cX5_paintOf 22 = .ok (.iconst (-1), 1) := by decide +kernel
theorem dX5_paintOf_23 : decode cX5_paintOf 23 = .ok (.ireturn, 1) := by decide +kernel
theorem dX9_init_0 : decode cX9_init 0 = .ok (.aload_n 0, 1) := by decide +kernel
theorem dX9_init_1 : decode cX9_init 1 = .ok (.invokespecial 3, 3) := by decide +kernel
theorem dX9_init_4 : decode cX9_init 4 = .ok (.aload_n 0, 1) := by decide +kernel
theorem dX9_init_5 : decode cX9_init 5 = .ok (.iconst 0, 1) := by decide +kernel
theorem dX9_init_6 : decode cX9_init 6 = .ok (.putfield 11, 3) := by decide +kernel
theorem dX9_init_9 : decode cX9_init 9 = .ok (.aload_n 0, 1) := by decide +kernel
theorem dX9_init_10 : decode cX9_init 10 = .ok (.iconst 0, 1) := by decide +kernel
theorem dX9_init_11 : decode cX9_init 11 = .ok (.putfield 15, 3) := by decide +kernel
theorem dX9_init_14 : decode cX9_init 14 = .ok (.aload_n 0, 1) := by decide +kernel
theorem dX9_init_15 : decode cX9_init 15 = .ok (.iconst 0, 1) := by decide +kernel
theorem dX9_init_16 : decode cX9_init 16 = .ok (.putfield 18, 3) := by decide +kernel
theorem dX9_init_19 : decode cX9_init 19 = .ok (.aload_n 0, 1) := by decide +kernel
theorem dX9_init_20 : decode cX9_init 20 = .ok (.iconst 0, 1) := by decide +kernel
theorem dX9_init_21 : decode cX9_init 21 = .ok (.putfield 21, 3) := by decide +kernel
theorem dX9_init_24 : decode cX9_init 24 = .ok (.aload_n 0, 1) := by decide +kernel
theorem dX9_init_25 : decode cX9_init 25 = .ok (.iconst (-1), 1) := by decide +kernel
theorem dX9_init_26 : decode cX9_init 26 = .ok (.putfield 24, 3) := by decide +kernel
theorem dX9_init_29 : decode cX9_init 29 = .ok (.aload_n 0, 1) := by decide +kernel
theorem dX9_init_30 : decode cX9_init 30 = .ok (.aload_n 1, 1) := by decide +kernel
theorem dX9_init_31 : decode cX9_init 31 = .ok (.putfield 27, 3) := by decide +kernel
theorem dX9_init_34 : decode cX9_init 34 = .ok (.return_, 1) := by decide +kernel
theorem dX9_open_0 : decode cX9_open 0 = .ok (.aload_n 0, 1) := by decide +kernel
theorem dX9_open_1 : decode cX9_open 1 = .ok (.aload_n 1, 1) := by decide +kernel
theorem dX9_open_2 : decode cX9_open 2 = .ok (.putfield 27, 3) := by decide +kernel
theorem dX9_open_5 : decode cX9_open 5 = .ok (.aload_n 0, 1) := by decide +kernel
theorem dX9_open_6 : decode cX9_open 6 = .ok (.iconst 0, 1) := by decide +kernel
theorem dX9_open_7 : decode cX9_open 7 = .ok (.putfield 18, 3) := by decide +kernel
theorem dX9_open_10 : decode cX9_open 10 = .ok (.aload_n 0, 1) := by decide +kernel
theorem dX9_open_11 : decode cX9_open 11 = .ok (.iconst 0, 1) := by decide +kernel
theorem dX9_open_12 : decode cX9_open 12 = .ok (.putfield 21, 3) := by decide +kernel
theorem dX9_open_15 : decode cX9_open 15 = .ok (.aload_n 0, 1) := by decide +kernel
theorem dX9_open_16 : decode cX9_open 16 = .ok (.iconst (-1), 1) := by decide +kernel
theorem dX9_open_17 : decode cX9_open 17 = .ok (.putfield 24, 3) := by decide +kernel
theorem dX9_open_20 : decode cX9_open 20 = .ok (.aload_n 0, 1) := by decide +kernel
theorem dX9_open_21 : decode cX9_open 21 = .ok (.invokevirtual 31, 3) := by decide +kernel
theorem dX9_open_24 : decode cX9_open 24 = .ok (.return_, 1) := by decide +kernel
theorem dX9_from_0 : decode cX9_from 0 = .ok (.aload_n 0, 1) := by decide +kernel
theorem dX9_from_1 : decode cX9_from 1 = .ok (.getfield 15, 3) := by decide +kernel
theorem dX9_from_4 : decode cX9_from 4 = .ok (.ireturn, 1) := by decide +kernel
theorem dX9_sortOf_0 : decode cX9_sortOf 0 = .ok (.iload_n 0, 1) := by decide +kernel
theorem dX9_sortOf_1 : decode cX9_sortOf 1 = .ok (.bipush 97, 2) := by decide +kernel
theorem dX9_sortOf_3 : decode cX9_sortOf 3 = .ok (.if_icmp .lt 11, 3) := by decide +kernel
theorem dX9_sortOf_6 : decode cX9_sortOf 6 = .ok (.iload_n 0, 1) := by decide +kernel
theorem dX9_sortOf_7 : decode cX9_sortOf 7 = .ok (.bipush 122, 2) := by decide +kernel
theorem dX9_sortOf_9 : decode cX9_sortOf 9 = .ok (.if_icmp .gt 5, 3) := by decide +kernel
theorem dX9_sortOf_12 : decode cX9_sortOf 12 = .ok (.iconst 1, 1) := by decide +kernel
theorem dX9_sortOf_13 : decode cX9_sortOf 13 = .ok (.ireturn, 1) := by decide +kernel
theorem dX9_sortOf_14 : decode cX9_sortOf 14 = .ok (.iload_n 0, 1) := by decide +kernel
theorem dX9_sortOf_15 : decode cX9_sortOf 15 = .ok (.bipush 48, 2) := by decide +kernel
theorem dX9_sortOf_17 : decode cX9_sortOf 17 = .ok (.if_icmp .lt 11, 3) := by decide +kernel
theorem dX9_sortOf_20 : decode cX9_sortOf 20 = .ok (.iload_n 0, 1) := by decide +kernel
theorem dX9_sortOf_21 : decode cX9_sortOf 21 = .ok (.bipush 57, 2) := by decide +kernel
theorem dX9_sortOf_23 : decode cX9_sortOf 23 = .ok (.if_icmp .gt 5, 3) := by decide +kernel
theorem dX9_sortOf_26 : decode cX9_sortOf 26 = .ok (.iconst 2, 1) := by decide +kernel
theorem dX9_sortOf_27 : decode cX9_sortOf 27 = .ok (.ireturn, 1) := by decide +kernel
theorem dX9_sortOf_28 : decode cX9_sortOf 28 = .ok (.iload_n 0, 1) := by decide +kernel
theorem dX9_sortOf_29 : decode cX9_sortOf 29 = .ok (.bipush 58, 2) := by decide +kernel
theorem dX9_sortOf_31 : decode cX9_sortOf 31 = .ok (.if_icmp .eq 27, 3) := by decide +kernel
theorem dX9_sortOf_34 : decode cX9_sortOf 34 = .ok (.iload_n 0, 1) := by decide +kernel
theorem dX9_sortOf_35 : decode cX9_sortOf 35 = .ok (.bipush 59, 2) := by decide +kernel
theorem dX9_sortOf_37 : decode cX9_sortOf 37 = .ok (.if_icmp .eq 21, 3) := by decide +kernel
theorem dX9_sortOf_40 : decode cX9_sortOf 40 = .ok (.iload_n 0, 1) := by decide +kernel
theorem dX9_sortOf_41 : decode cX9_sortOf 41 = .ok (.bipush 60, 2) := by decide +kernel
theorem dX9_sortOf_43 : decode cX9_sortOf 43 = .ok (.if_icmp .eq 15, 3) := by decide +kernel
theorem dX9_sortOf_46 : decode cX9_sortOf 46 = .ok (.iload_n 0, 1) := by decide +kernel
theorem dX9_sortOf_47 : decode cX9_sortOf 47 = .ok (.bipush 62, 2) := by decide +kernel
theorem dX9_sortOf_49 : decode cX9_sortOf 49 = .ok (.if_icmp .eq 9, 3) := by decide +kernel
theorem dX9_sortOf_52 : decode cX9_sortOf 52 = .ok (.iload_n 0, 1) := by decide +kernel
theorem dX9_sortOf_53 : decode cX9_sortOf 53 = .ok (.bipush 61, 2) := by decide +kernel
theorem dX9_sortOf_55 : decode cX9_sortOf 55 = .ok (.if_icmp .ne 7, 3) := by decide +kernel
theorem dX9_sortOf_58 : decode cX9_sortOf 58 = .ok (.iconst 3, 1) := by decide +kernel
theorem dX9_sortOf_59 : decode cX9_sortOf 59 = .ok (.goto 4, 3) := by decide +kernel
theorem dX9_sortOf_62 : decode cX9_sortOf 62 = .ok (.iconst 4, 1) := by decide +kernel
theorem dX9_sortOf_63 : decode cX9_sortOf 63 = .ok (.ireturn, 1) := by decide +kernel
theorem dX9_isBlank_0 : decode cX9_isBlank 0 = .ok (.iload_n 0, 1) := by decide +kernel
theorem dX9_isBlank_1 : decode cX9_isBlank 1 = .ok (.bipush 32, 2) := by decide +kernel
theorem dX9_isBlank_3 : decode cX9_isBlank 3 = .ok (.if_icmp .eq 9, 3) := by decide +kernel
theorem dX9_isBlank_6 : decode cX9_isBlank 6 = .ok (.iload_n 0, 1) := by decide +kernel
theorem dX9_isBlank_7 : decode cX9_isBlank 7 = .ok (.bipush 10, 2) := by decide +kernel
theorem dX9_isBlank_9 : decode cX9_isBlank 9 = .ok (.if_icmp .ne 7, 3) := by decide +kernel
theorem dX9_isBlank_12 : decode cX9_isBlank 12 = .ok (.iconst 1, 1) := by decide +kernel
theorem dX9_isBlank_13 : decode cX9_isBlank 13 = .ok (.goto 4, 3) := by decide +kernel
theorem dX9_isBlank_16 : decode cX9_isBlank 16 = .ok (.iconst 0, 1) := by decide +kernel
theorem dX9_isBlank_17 : decode cX9_isBlank 17 = .ok (.ireturn, 1) := by decide +kernel
theorem dX9_advance_0 : decode cX9_advance 0 = .ok (.aload_n 0, 1) := by decide +kernel
theorem dX9_advance_1 : decode cX9_advance 1 = .ok (.aload_n 0, 1) := by decide +kernel
theorem dX9_advance_2 : decode cX9_advance 2 = .ok (.getfield 18, 3) := by decide +kernel
theorem dX9_advance_5 : decode cX9_advance 5 = .ok (.putfield 15, 3) := by decide +kernel
theorem dX9_advance_8 : decode cX9_advance 8 = .ok (.aload_n 0, 1) := by decide +kernel
theorem dX9_advance_9 : decode cX9_advance 9 = .ok (.getfield 15, 3) := by decide +kernel
theorem dX9_advance_12 : decode cX9_advance 12 = .ok (.aload_n 0, 1) := by decide +kernel
theorem dX9_advance_13 : decode cX9_advance 13 = .ok (.getfield 27, 3) := by decide +kernel
theorem dX9_advance_16 : decode cX9_advance 16 = .ok (.invokevirtual 34, 3) := by decide +kernel
theorem dX9_advance_19 : decode cX9_advance 19 = .ok (.if_icmp .ge 34, 3) := by decide +kernel
theorem dX9_advance_22 : decode cX9_advance 22 = .ok (.aload_n 0, 1) := by decide +kernel
theorem dX9_advance_23 : decode cX9_advance 23 = .ok (.getfield 27, 3) := by decide +kernel
theorem dX9_advance_26 : decode cX9_advance 26 = .ok (.aload_n 0, 1) := by decide +kernel
theorem dX9_advance_27 : decode cX9_advance 27 = .ok (.getfield 15, 3) := by decide +kernel
theorem dX9_advance_30 : decode cX9_advance 30 = .ok (.iconst 0, 1) := by decide +kernel
theorem dX9_advance_31 : decode cX9_advance 31 = .ok (.invokevirtual 40, 3) := by decide +kernel
theorem dX9_advance_34 : decode cX9_advance 34 = .ok (.invokestatic 44, 3) := by decide +kernel
theorem dX9_advance_37 : decode cX9_advance 37 = .ok (.ifCond .eq 16, 3) := by decide +kernel
theorem dX9_advance_40 : decode cX9_advance 40 = .ok (.aload_n 0, 1) := by decide +kernel
theorem dX9_advance_41 : decode cX9_advance 41 = .ok (.dup, 1) := by decide +kernel
theorem dX9_advance_42 : decode cX9_advance 42 = .ok (.getfield 15, 3) := by decide +kernel
theorem dX9_advance_45 : decode cX9_advance 45 = .ok (.iconst 1, 1) := by decide +kernel
theorem dX9_advance_46 : decode cX9_advance 46 = .ok (.iadd, 1) := by decide +kernel
theorem dX9_advance_47 : decode cX9_advance 47 = .ok (.putfield 15, 3) := by decide +kernel
theorem dX9_advance_50 : decode cX9_advance 50 = .ok (.goto (-42), 3) := by decide +kernel
theorem dX9_advance_53 : decode cX9_advance 53 = .ok (.aload_n 0, 1) := by decide +kernel
theorem dX9_advance_54 : decode cX9_advance 54 = .ok (.aload_n 0, 1) := by decide +kernel
theorem dX9_advance_55 : decode cX9_advance 55 = .ok (.getfield 15, 3) := by decide +kernel
theorem dX9_advance_58 : decode cX9_advance 58 = .ok (.putfield 18, 3) := by decide +kernel
theorem dX9_advance_61 : decode cX9_advance 61 = .ok (.aload_n 0, 1) := by decide +kernel
theorem dX9_advance_62 : decode cX9_advance 62 = .ok (.iconst 0, 1) := by decide +kernel
theorem dX9_advance_63 : decode cX9_advance 63 = .ok (.putfield 11, 3) := by decide +kernel
theorem dX9_advance_66 : decode cX9_advance 66 = .ok (.aload_n 0, 1) := by decide +kernel
theorem dX9_advance_67 : decode cX9_advance 67 = .ok (.getfield 15, 3) := by decide +kernel
theorem dX9_advance_70 : decode cX9_advance 70 = .ok (.aload_n 0, 1) := by decide +kernel
theorem dX9_advance_71 : decode cX9_advance 71 = .ok (.getfield 27, 3) := by decide +kernel
theorem dX9_advance_74 : decode cX9_advance 74 = .ok (.invokevirtual 34, 3) := by decide +kernel
theorem dX9_advance_77 : decode cX9_advance 77 = .ok (.if_icmp .lt 4, 3) := by decide +kernel
theorem dX9_advance_80 : decode cX9_advance 80 = .ok (.return_, 1) := by decide +kernel
theorem dX9_advance_81 : decode cX9_advance 81 = .ok (.aload_n 0, 1) := by decide +kernel
theorem dX9_advance_82 : decode cX9_advance 82 = .ok (.aload_n 0, 1) := by decide +kernel
theorem dX9_advance_83 : decode cX9_advance 83 = .ok (.getfield 27, 3) := by decide +kernel
theorem dX9_advance_86 : decode cX9_advance 86 = .ok (.aload_n 0, 1) := by decide +kernel
theorem dX9_advance_87 : decode cX9_advance 87 = .ok (.getfield 15, 3) := by decide +kernel
theorem dX9_advance_90 : decode cX9_advance 90 = .ok (.iconst 0, 1) := by decide +kernel
theorem dX9_advance_91 : decode cX9_advance 91 = .ok (.invokevirtual 40, 3) := by decide +kernel
theorem dX9_advance_94 : decode cX9_advance 94 = .ok (.invokestatic 48, 3) := by decide +kernel
theorem dX9_advance_97 : decode cX9_advance 97 = .ok (.putfield 11, 3) := by decide +kernel
theorem dX9_advance_100 : decode cX9_advance 100 = .ok (.aload_n 0, 1) := by decide +kernel
theorem dX9_advance_101 : decode cX9_advance 101 = .ok (.aload_n 0, 1) := by decide +kernel
theorem dX9_advance_102 : decode cX9_advance 102 = .ok (.getfield 15, 3) := by decide +kernel
theorem dX9_advance_105 : decode cX9_advance 105 = .ok (.iconst 1, 1) := by decide +kernel
theorem dX9_advance_106 : decode cX9_advance 106 = .ok (.iadd, 1) := by decide +kernel
theorem dX9_advance_107 : decode cX9_advance 107 = .ok (.putfield 18, 3) := by decide +kernel
theorem dX9_advance_110 : decode cX9_advance 110 = .ok (.aload_n 0, 1) := by decide +kernel
theorem dX9_advance_111 : decode cX9_advance 111 = .ok (.getfield 11, 3) := by decide +kernel
theorem dX9_advance_114 : decode cX9_advance 114 = .ok (.iconst 1, 1) := by decide +kernel
theorem dX9_advance_115 : decode cX9_advance 115 = .ok (.if_icmp .eq 11, 3) := by decide +kernel
theorem dX9_advance_118 : decode cX9_advance 118 = .ok (.aload_n 0, 1) := by decide +kernel
theorem dX9_advance_119 : decode cX9_advance 119 = .ok (.getfield 11, 3) := by decide +kernel
theorem dX9_advance_122 : decode cX9_advance 122 = .ok (.iconst 2, 1) := by decide +kernel
theorem dX9_advance_123 : decode cX9_advance 123 = .ok (.if_icmp .ne 52, 3) := by decide +kernel
theorem dX9_advance_126 : decode cX9_advance 126 = .ok (.aload_n 0, 1) := by decide +kernel
theorem dX9_advance_127 : decode cX9_advance 127 = .ok (.getfield 18, 3) := by decide +kernel
theorem dX9_advance_130 : decode cX9_advance 130 = .ok (.aload_n 0, 1) := by decide +kernel
theorem dX9_advance_131 : decode cX9_advance 131 = .ok (.getfield 27, 3) := by decide +kernel
theorem dX9_advance_134 : decode cX9_advance 134 = .ok (.invokevirtual 34, 3) := by decide +kernel
theorem dX9_advance_137 : decode cX9_advance 137 = .ok (.if_icmp .ge 38, 3) := by decide +kernel
theorem dX9_advance_140 : decode cX9_advance 140 = .ok (.aload_n 0, 1) := by decide +kernel
theorem dX9_advance_141 : decode cX9_advance 141 = .ok (.getfield 27, 3) := by decide +kernel
theorem dX9_advance_144 : decode cX9_advance 144 = .ok (.aload_n 0, 1) := by decide +kernel
theorem dX9_advance_145 : decode cX9_advance 145 = .ok (.getfield 18, 3) := by decide +kernel
theorem dX9_advance_148 : decode cX9_advance 148 = .ok (.iconst 0, 1) := by decide +kernel
theorem dX9_advance_149 : decode cX9_advance 149 = .ok (.invokevirtual 40, 3) := by decide +kernel
theorem dX9_advance_152 : decode cX9_advance 152 = .ok (.invokestatic 48, 3) := by decide +kernel
theorem dX9_advance_155 : decode cX9_advance 155 = .ok (.aload_n 0, 1) := by decide +kernel
theorem dX9_advance_156 : decode cX9_advance 156 = .ok (.getfield 11, 3) := by decide +kernel
theorem dX9_advance_159 : decode cX9_advance 159 = .ok (.if_icmp .ne 16, 3) := by decide +kernel
theorem dX9_advance_162 : decode cX9_advance 162 = .ok (.aload_n 0, 1) := by decide +kernel
theorem dX9_advance_163 : decode cX9_advance 163 = .ok (.dup, 1) := by decide +kernel
theorem dX9_advance_164 : decode cX9_advance 164 = .ok (.getfield 18, 3) := by decide +kernel
theorem dX9_advance_167 : decode cX9_advance 167 = .ok (.iconst 1, 1) := by decide +kernel
theorem dX9_advance_168 : decode cX9_advance 168 = .ok (.iadd, 1) := by decide +kernel
theorem dX9_advance_169 : decode cX9_advance 169 = .ok (.putfield 18, 3) := by decide +kernel
theorem dX9_advance_172 : decode cX9_advance 172 = .ok (.goto (-62), 3) := by decide +kernel
theorem dX9_advance_175 : decode cX9_advance 175 = .ok (.return_, 1) := by decide +kernel
theorem dX9_goOn_0 : decode cX9_goOn 0 = .ok (.aload_n 0, 1) := by decide +kernel
theorem dX9_goOn_1 : decode cX9_goOn 1 = .ok (.getfield 11, 3) := by decide +kernel
theorem dX9_goOn_4 : decode cX9_goOn 4 = .ok (.ifCond .eq 15, 3) := by decide +kernel
theorem dX9_goOn_7 : decode cX9_goOn 7 = .ok (.aload_n 0, 1) := by decide +kernel
theorem dX9_goOn_8 : decode cX9_goOn 8 = .ok (.getfield 21, 3) := by decide +kernel
theorem dX9_goOn_11 : decode cX9_goOn 11 = .ok (.iconst 1, 1) := by decide +kernel
theorem dX9_goOn_12 : decode cX9_goOn 12 = .ok (.if_icmp .eq 7, 3) := by decide +kernel
theorem dX9_goOn_15 : decode cX9_goOn 15 = .ok (.iconst 1, 1) := by decide +kernel
theorem dX9_goOn_16 : decode cX9_goOn 16 = .ok (.goto 4, 3) := by decide +kernel
theorem dX9_goOn_19 : decode cX9_goOn 19 = .ok (.iconst 0, 1) := by decide +kernel
theorem dX9_goOn_20 : decode cX9_goOn 20 = .ok (.ireturn, 1) := by decide +kernel
theorem dX9_isWord_0 : decode cX9_isWord 0 = .ok (.aload_n 0, 1) := by decide +kernel
theorem dX9_isWord_1 : decode cX9_isWord 1 = .ok (.getfield 11, 3) := by decide +kernel
theorem dX9_isWord_4 : decode cX9_isWord 4 = .ok (.iconst 1, 1) := by decide +kernel
theorem dX9_isWord_5 : decode cX9_isWord 5 = .ok (.if_icmp .ne 19, 3) := by decide +kernel
theorem dX9_isWord_8 : decode cX9_isWord 8 = .ok (.aload_n 0, 1) := by decide +kernel
theorem dX9_isWord_9 : decode cX9_isWord 9 = .ok (.getfield 18, 3) := by decide +kernel
theorem dX9_isWord_12 : decode cX9_isWord 12 = .ok (.aload_n 0, 1) := by decide +kernel
theorem dX9_isWord_13 : decode cX9_isWord 13 = .ok (.getfield 15, 3) := by decide +kernel
theorem dX9_isWord_16 : decode cX9_isWord 16 = .ok (.isub, 1) := by decide +kernel
theorem dX9_isWord_17 : decode cX9_isWord 17 = .ok (.aload_n 1, 1) := by decide +kernel
theorem dX9_isWord_18 : decode cX9_isWord 18 = .ok (.invokevirtual 52, 3) := by decide +kernel
theorem dX9_isWord_21 : decode cX9_isWord 21 = .ok (.if_icmp .eq 5, 3) := by decide +kernel
theorem dX9_isWord_24 : decode cX9_isWord 24 = .ok (.iconst 0, 1) := by decide +kernel
theorem dX9_isWord_25 : decode cX9_isWord 25 = .ok (.ireturn, 1) := by decide +kernel
theorem dX9_isWord_26 : decode cX9_isWord 26 = .ok (.iconst 0, 1) := by decide +kernel
theorem dX9_isWord_27 : decode cX9_isWord 27 = .ok (.istore_n 2, 1) := by decide +kernel
theorem dX9_isWord_28 : decode cX9_isWord 28 = .ok (.iload_n 2, 1) := by decide +kernel
theorem dX9_isWord_29 : decode cX9_isWord 29 = .ok (.aload_n 1, 1) := by decide +kernel
theorem dX9_isWord_30 : decode cX9_isWord 30 = .ok (.invokevirtual 52, 3) := by decide +kernel
theorem dX9_isWord_33 : decode cX9_isWord 33 = .ok (.if_icmp .ge 33, 3) := by decide +kernel
theorem dX9_isWord_36 : decode cX9_isWord 36 = .ok (.aload_n 0, 1) := by decide +kernel
theorem dX9_isWord_37 : decode cX9_isWord 37 = .ok (.getfield 27, 3) := by decide +kernel
theorem dX9_isWord_40 : decode cX9_isWord 40 = .ok (.aload_n 0, 1) := by decide +kernel
theorem dX9_isWord_41 : decode cX9_isWord 41 = .ok (.getfield 15, 3) := by decide +kernel
theorem dX9_isWord_44 : decode cX9_isWord 44 = .ok (.iload_n 2, 1) := by decide +kernel
theorem dX9_isWord_45 : decode cX9_isWord 45 = .ok (.iadd, 1) := by decide +kernel
theorem dX9_isWord_46 : decode cX9_isWord 46 = .ok (.iconst 0, 1) := by decide +kernel
theorem dX9_isWord_47 : decode cX9_isWord 47 = .ok (.invokevirtual 40, 3) := by decide +kernel
theorem dX9_isWord_50 : decode cX9_isWord 50 = .ok (.aload_n 1, 1) := by decide +kernel
theorem dX9_isWord_51 : decode cX9_isWord 51 = .ok (.iload_n 2, 1) := by decide +kernel
theorem dX9_isWord_52 : decode cX9_isWord 52 = .ok (.invokevirtual 57, 3) := by decide +kernel
theorem dX9_isWord_55 : decode cX9_isWord 55 = .ok (.if_icmp .eq 5, 3) := by decide +kernel
theorem dX9_isWord_58 : decode cX9_isWord 58 = .ok (.iconst 0, 1) := by decide +kernel
theorem dX9_isWord_59 : decode cX9_isWord 59 = .ok (.ireturn, 1) := by decide +kernel
theorem dX9_isWord_60 : decode cX9_isWord 60 = .ok (.iinc 2 1, 3) := by decide +kernel
theorem dX9_isWord_63 : decode cX9_isWord 63 = .ok (.goto (-35), 3) := by decide +kernel
theorem dX9_isWord_66 : decode cX9_isWord 66 = .ok (.iconst 1, 1) := by decide +kernel
theorem dX9_isWord_67 : decode cX9_isWord 67 = .ok (.ireturn, 1) := by decide +kernel
theorem dX9_isNumber_0 : decode cX9_isNumber 0 = .ok (.aload_n 0, 1) := by decide +kernel
theorem dX9_isNumber_1 : decode cX9_isNumber 1 = .ok (.getfield 11, 3) := by decide +kernel
theorem dX9_isNumber_4 : decode cX9_isNumber 4 = .ok (.iconst 2, 1) := by decide +kernel
theorem dX9_isNumber_5 : decode cX9_isNumber 5 = .ok (.if_icmp .ne 20, 3) := by decide +kernel
theorem dX9_isNumber_8 : decode cX9_isNumber 8 = .ok (.aload_n 0, 1) := by decide +kernel
theorem dX9_isNumber_9 : decode cX9_isNumber 9 = .ok (.getfield 18, 3) := by decide +kernel
theorem dX9_isNumber_12 : decode cX9_isNumber 12 = .ok (.aload_n 0, 1) := by decide +kernel
theorem dX9_isNumber_13 : decode cX9_isNumber 13 = .ok (.getfield 15, 3) := by decide +kernel
theorem dX9_isNumber_16 : decode cX9_isNumber 16 = .ok (.isub, 1) := by decide +kernel
theorem dX9_isNumber_17 : decode cX9_isNumber 17 = .ok (.iconst 4, 1) := by decide +kernel
theorem dX9_isNumber_18 : decode cX9_isNumber 18 = .ok (.if_icmp .gt 7, 3) := by decide +kernel
theorem dX9_isNumber_21 : decode cX9_isNumber 21 = .ok (.iconst 1, 1) := by decide +kernel
theorem dX9_isNumber_22 : decode cX9_isNumber 22 = .ok (.goto 4, 3) := by decide +kernel
theorem dX9_isNumber_25 : decode cX9_isNumber 25 = .ok (.iconst 0, 1) := by decide +kernel
theorem dX9_isNumber_26 : decode cX9_isNumber 26 = .ok (.ireturn, 1) := by decide +kernel
theorem dX9_number_0 : decode cX9_number 0 = .ok (.iconst 0, 1) := by decide +kernel
theorem dX9_number_1 : decode cX9_number 1 = .ok (.istore_n 1, 1) := by decide +kernel
theorem dX9_number_2 : decode cX9_number 2 = .ok (.aload_n 0, 1) := by decide +kernel
theorem dX9_number_3 : decode cX9_number 3 = .ok (.getfield 15, 3) := by decide +kernel
theorem dX9_number_6 : decode cX9_number 6 = .ok (.istore_n 2, 1) := by decide +kernel
theorem dX9_number_7 : decode cX9_number 7 = .ok (.iload_n 2, 1) := by decide +kernel
theorem dX9_number_8 : decode cX9_number 8 = .ok (.aload_n 0, 1) := by decide +kernel
theorem dX9_number_9 : decode cX9_number 9 = .ok (.getfield 18, 3) := by decide +kernel
theorem dX9_number_12 : decode cX9_number 12 = .ok (.if_icmp .ge 37, 3) := by decide +kernel
theorem dX9_number_15 : decode cX9_number 15 = .ok (.iload_n 2, 1) := by decide +kernel
theorem dX9_number_16 : decode cX9_number 16 = .ok (.aload_n 0, 1) := by decide +kernel
theorem dX9_number_17 : decode cX9_number 17 = .ok (.getfield 15, 3) := by decide +kernel
theorem dX9_number_20 : decode cX9_number 20 = .ok (.iconst 4, 1) := by decide +kernel
theorem dX9_number_21 : decode cX9_number 21 = .ok (.iadd, 1) := by decide +kernel
theorem dX9_number_22 : decode cX9_number 22 = .ok (.if_icmp .ge 27, 3) := by decide +kernel
theorem dX9_number_25 : decode cX9_number 25 = .ok (.iload_n 1, 1) := by decide +kernel
theorem dX9_number_26 : decode cX9_number 26 = .ok (.bipush 10, 2) := by decide +kernel
theorem dX9_number_28 : decode cX9_number 28 = .ok (.imul, 1) := by decide +kernel
theorem dX9_number_29 : decode cX9_number 29 = .ok (.aload_n 0, 1) := by decide +kernel
theorem dX9_number_30 : decode cX9_number 30 = .ok (.getfield 27, 3) := by decide +kernel
theorem dX9_number_33 : decode cX9_number 33 = .ok (.iload_n 2, 1) := by decide +kernel
theorem dX9_number_34 : decode cX9_number 34 = .ok (.iconst 0, 1) := by decide +kernel
theorem dX9_number_35 : decode cX9_number 35 = .ok (.invokevirtual 40, 3) := by decide +kernel
theorem dX9_number_38 : decode cX9_number 38 = .ok (.iadd, 1) := by decide +kernel
theorem dX9_number_39 : decode cX9_number 39 = .ok (.bipush 48, 2) := by decide +kernel
theorem dX9_number_41 : decode cX9_number 41 = .ok (.isub, 1) := by decide +kernel
theorem dX9_number_42 : decode cX9_number 42 = .ok (.istore_n 1, 1) := by decide +kernel
theorem dX9_number_43 : decode cX9_number 43 = .ok (.iinc 2 1, 3) := by decide +kernel
theorem dX9_number_46 : decode cX9_number 46 = .ok (.goto (-39), 3) := by decide +kernel
theorem dX9_number_49 : decode cX9_number 49 = .ok (.iload_n 1, 1) := by decide +kernel
theorem dX9_number_50 : decode cX9_number 50 = .ok (.ireturn, 1) := by decide +kernel
theorem dX9_sign_0 : decode cX9_sign 0 = .ok (.aload_n 0, 1) := by decide +kernel
theorem dX9_sign_1 : decode cX9_sign 1 = .ok (.getfield 11, 3) := by decide +kernel
theorem dX9_sign_4 : decode cX9_sign 4 = .ok (.iconst 3, 1) := by decide +kernel
theorem dX9_sign_5 : decode cX9_sign 5 = .ok (.if_icmp .ne 18, 3) := by decide +kernel
theorem dX9_sign_8 : decode cX9_sign 8 = .ok (.aload_n 0, 1) := by decide +kernel
theorem dX9_sign_9 : decode cX9_sign 9 = .ok (.getfield 27, 3) := by decide +kernel
theorem dX9_sign_12 : decode cX9_sign 12 = .ok (.aload_n 0, 1) := by decide +kernel
theorem dX9_sign_13 : decode cX9_sign 13 = .ok (.getfield 15, 3) := by decide +kernel
theorem dX9_sign_16 : decode cX9_sign 16 = .ok (.iconst 0, 1) := by decide +kernel
theorem dX9_sign_17 : decode cX9_sign 17 = .ok (.invokevirtual 40, 3) := by decide +kernel
theorem dX9_sign_20 : decode cX9_sign 20 = .ok (.goto 4, 3) := by decide +kernel
theorem dX9_sign_23 : decode cX9_sign 23 = .ok (.iconst (-1), 1) := by decide +kernel
theorem dX9_sign_24 : decode cX9_sign 24 = .ok (.ireturn, 1) := by decide +kernel
theorem dX9_pass_0 : decode cX9_pass 0 = .ok (.iload_n 1, 1) := by decide +kernel
theorem dX9_pass_1 : decode cX9_pass 1 = .ok (.ifCond .eq 10, 3) := by decide +kernel
theorem dX9_pass_4 : decode cX9_pass 4 = .ok (.aload_n 0, 1) := by decide +kernel
theorem dX9_pass_5 : decode cX9_pass 5 = .ok (.invokevirtual 31, 3) := by decide +kernel
theorem dX9_pass_8 : decode cX9_pass 8 = .ok (.goto 12, 3) := by decide +kernel
theorem dX9_pass_11 : decode cX9_pass 11 = .ok (.aload_n 0, 1) := by decide +kernel
theorem dX9_pass_12 : decode cX9_pass 12 = .ok (.iconst 1, 1) := by decide +kernel
theorem dX9_pass_13 : decode cX9_pass 13 = .ok (.aload_n 0, 1) := by decide +kernel
theorem dX9_pass_14 : decode cX9_pass 14 = .ok (.getfield 15, 3) := by decide +kernel
theorem dX9_pass_17 : decode cX9_pass 17 = .ok (.invokevirtual 61, 3) := by decide +kernel
theorem dX9_pass_20 : decode cX9_pass 20 = .ok (.iload_n 1, 1) := by decide +kernel
theorem dX9_pass_21 : decode cX9_pass 21 = .ok (.ireturn, 1) := by decide +kernel
theorem dX9_note_0 : decode cX9_note 0 = .ok (.iload_n 1, 1) := by decide +kernel
theorem dX9_note_1 : decode cX9_note 1 = .ok (.iconst 1, 1) := by decide +kernel
theorem dX9_note_2 : decode cX9_note 2 = .ok (.if_icmp .eq 10, 3) := by decide +kernel
theorem dX9_note_5 : decode cX9_note 5 = .ok (.aload_n 0, 1) := by decide +kernel
theorem dX9_note_6 : decode cX9_note 6 = .ok (.getfield 21, 3) := by decide +kernel
theorem dX9_note_9 : decode cX9_note 9 = .ok (.ifCond .ne 13, 3) := by decide +kernel
theorem dX9_note_12 : decode cX9_note 12 = .ok (.aload_n 0, 1) := by decide +kernel
theorem dX9_note_13 : decode cX9_note 13 = .ok (.iload_n 1, 1) := by decide +kernel
theorem dX9_note_14 : decode cX9_note 14 = .ok (.putfield 21, 3) := by decide +kernel
theorem dX9_note_17 : decode cX9_note 17 = .ok (.aload_n 0, 1) := by decide +kernel
theorem dX9_note_18 : decode cX9_note 18 = .ok (.iload_n 2, 1) := by decide +kernel
theorem dX9_note_19 : decode cX9_note 19 = .ok (.putfield 24, 3) := by decide +kernel
theorem dX9_note_22 : decode cX9_note 22 = .ok (.return_, 1) := by decide +kernel
theorem dX9_isClean_0 : decode cX9_isClean 0 = .ok (.aload_n 0, 1) := by decide +kernel
theorem dX9_isClean_1 : decode cX9_isClean 1 = .ok (.getfield 21, 3) := by decide +kernel
theorem dX9_isClean_4 : decode cX9_isClean 4 = .ok (.ifCond .ne 7, 3) := by decide +kernel
theorem dX9_isClean_7 : decode cX9_isClean 7 = .ok (.iconst 1, 1) := by decide +kernel
theorem dX9_isClean_8 : decode cX9_isClean 8 = .ok (.goto 4, 3) := by decide +kernel
theorem dX9_isClean_11 : decode cX9_isClean 11 = .ok (.iconst 0, 1) := by decide +kernel
theorem dX9_isClean_12 : decode cX9_isClean 12 = .ok (.ireturn, 1) := by decide +kernel
theorem dX9_tell_0 : decode cX9_tell 0 = .ok (.aload_n 1, 1) := by decide +kernel
theorem dX9_tell_1 : decode cX9_tell 1 = .ok (.aload_n 0, 1) := by decide +kernel
theorem dX9_tell_2 : decode cX9_tell 2 = .ok (.getfield 21, 3) := by decide +kernel
theorem dX9_tell_5 : decode cX9_tell 5 = .ok (.putfield 65, 3) := by decide +kernel
theorem dX9_tell_8 : decode cX9_tell 8 = .ok (.aload_n 1, 1) := by decide +kernel
theorem dX9_tell_9 : decode cX9_tell 9 = .ok (.aload_n 0, 1) := by decide +kernel
theorem dX9_tell_10 : decode cX9_tell 10 = .ok (.getfield 24, 3) := by decide +kernel
theorem dX9_tell_13 : decode cX9_tell 13 = .ok (.putfield 68, 3) := by decide +kernel
theorem dX9_tell_16 : decode cX9_tell 16 = .ok (.return_, 1) := by decide +kernel
theorem dX10_init_0 : decode cX10_init 0 = .ok (.aload_n 0, 1) := by decide +kernel
theorem dX10_init_1 : decode cX10_init 1 = .ok (.invokespecial 3, 3) := by decide +kernel
theorem dX10_init_4 : decode cX10_init 4 = .ok (.aload_n 0, 1) := by decide +kernel
theorem dX10_init_5 : decode cX10_init 5 = .ok (.new 9, 3) := by decide +kernel
theorem dX10_init_8 : decode cX10_init 8 = .ok (.dup, 1) := by decide +kernel
theorem dX10_init_9 : decode cX10_init 9 = .ok (.new 11, 3) := by decide +kernel
theorem dX10_init_12 : decode cX10_init 12 = .ok (.dup, 1) := by decide +kernel
theorem dX10_init_13 : decode cX10_init 13 = .ok (.iconst 0, 1) := by decide +kernel
theorem dX10_init_14 : decode cX10_init 14 = .ok (.iconst 1, 1) := by decide +kernel
theorem dX10_init_15 : decode cX10_init 15 = .ok (.invokespecial 13, 3) := by decide +kernel
theorem dX10_init_18 : decode cX10_init 18 = .ok (.invokespecial 16, 3) := by decide +kernel
theorem dX10_init_21 : decode cX10_init 21 = .ok (.putfield 19, 3) := by decide +kernel
theorem dX10_init_24 : decode cX10_init 24 = .ok (.aload_n 0, 1) := by decide +kernel
theorem dX10_init_25 : decode cX10_init 25 = .ok (.iconst 5, 1) := by decide +kernel
theorem dX10_init_26 : decode cX10_init 26 = .ok (.newarray .int, 2) := by decide +kernel
theorem dX10_init_28 : decode cX10_init 28 = .ok (.putfield 25, 3) := by decide +kernel
theorem dX10_init_31 : decode cX10_init 31 = .ok (.aload_n 0, 1) := by decide +kernel
theorem dX10_init_32 : decode cX10_init 32 = .ok (.iconst 5, 1) := by decide +kernel
theorem dX10_init_33 : decode cX10_init 33 = .ok (.newarray .int, 2) := by decide +kernel
theorem dX10_init_35 : decode cX10_init 35 = .ok (.putfield 29, 3) := by decide +kernel
theorem dX10_init_38 : decode cX10_init 38 = .ok (.return_, 1) := by decide +kernel
theorem dX10_read_0 : decode cX10_read 0 = .ok (.aload_n 1, 1) := by decide +kernel
theorem dX10_read_1 : decode cX10_read 1 = .ok (.getfield 32, 3) := by decide +kernel
theorem dX10_read_4 : decode cX10_read 4 = .ok (.invokevirtual 38, 3) := by decide +kernel
theorem dX10_read_7 : decode cX10_read 7 = .ok (.istore_n 2, 1) := by decide +kernel
theorem dX10_read_8 : decode cX10_read 8 = .ok (.aload_n 1, 1) := by decide +kernel
theorem dX10_read_9 : decode cX10_read 9 = .ok (.getfield 42, 3) := by decide +kernel
theorem dX10_read_12 : decode cX10_read 12 = .ok (.invokevirtual 38, 3) := by decide +kernel
theorem dX10_read_15 : decode cX10_read 15 = .ok (.istore_n 3, 1) := by decide +kernel
theorem dX10_read_16 : decode cX10_read 16 = .ok (.aload_n 1, 1) := by decide +kernel
theorem dX10_read_17 : decode cX10_read 17 = .ok (.getfield 45, 3) := by decide +kernel
theorem dX10_read_20 : decode cX10_read 20 = .ok (.invokevirtual 38, 3) := by decide +kernel
theorem dX10_read_23 : decode cX10_read 23 = .ok (.istore 4, 2) := by decide +kernel
theorem dX10_read_25 : decode cX10_read 25 = .ok (.aload_n 1, 1) := by decide +kernel
theorem dX10_read_26 : decode cX10_read 26 = .ok (.getfield 48, 3) := by decide +kernel
theorem dX10_read_29 : decode cX10_read 29 = .ok (.invokevirtual 38, 3) := by decide +kernel
theorem dX10_read_32 : decode cX10_read 32 = .ok (.istore 5, 2) := by decide +kernel
theorem dX10_read_34 : decode cX10_read 34 = .ok (.aload_n 0, 1) := by decide +kernel
theorem dX10_read_35 : decode cX10_read 35 = .ok (.getfield 19, 3) := by decide +kernel
theorem dX10_read_38 : decode cX10_read 38 = .ok (.aload_n 1, 1) := by decide +kernel
theorem dX10_read_39 : decode cX10_read 39 = .ok (.getfield 51, 3) := by decide +kernel
theorem dX10_read_42 : decode cX10_read 42 = .ok (.invokevirtual 54, 3) := by decide +kernel
theorem dX10_read_45 : decode cX10_read 45 = .ok (.iconst 0, 1) := by decide +kernel
theorem dX10_read_46 : decode cX10_read 46 = .ok (.istore 6, 2) := by decide +kernel
theorem dX10_read_48 : decode cX10_read 48 = .ok (.iload 6, 2) := by decide +kernel
theorem dX10_read_50 : decode cX10_read 50 = .ok (.sipush 500, 3) := by decide +kernel
theorem dX10_read_53 : decode cX10_read 53 = .ok (.if_icmp .ge 24, 3) := by decide +kernel
theorem dX10_read_56 : decode cX10_read 56 = .ok (.aload_n 0, 1) := by decide +kernel
theorem dX10_read_57 : decode cX10_read 57 = .ok (.getfield 19, 3) := by decide +kernel
theorem dX10_read_60 : decode cX10_read 60 = .ok (.invokevirtual 57, 3) := by decide +kernel
theorem dX10_read_63 : decode cX10_read 63 = .ok (.ifCond .eq 14, 3) := by decide +kernel
theorem dX10_read_66 : decode cX10_read 66 = .ok (.aload_n 0, 1) := by decide +kernel
theorem dX10_read_67 : decode cX10_read 67 = .ok (.aload_n 1, 1) := by decide +kernel
theorem dX10_read_68 : decode cX10_read 68 = .ok (.invokevirtual 61, 3) := by decide +kernel
theorem dX10_read_71 : decode cX10_read 71 = .ok (.iinc 6 1, 3) := by decide +kernel
theorem dX10_read_74 : decode cX10_read 74 = .ok (.goto (-26), 3) := by decide +kernel
theorem dX10_read_77 : decode cX10_read 77 = .ok (.aload_n 0, 1) := by decide +kernel
theorem dX10_read_78 : decode cX10_read 78 = .ok (.getfield 19, 3) := by decide +kernel
theorem dX10_read_81 : decode cX10_read 81 = .ok (.aload_n 1, 1) := by decide +kernel
theorem dX10_read_82 : decode cX10_read 82 = .ok (.invokevirtual 65, 3) := by decide +kernel
theorem dX10_read_85 : decode cX10_read 85 = .ok (.aload_n 0, 1) := by decide +kernel
theorem dX10_read_86 : decode cX10_read 86 = .ok (.getfield 19, 3) := by decide +kernel
theorem dX10_read_89 : decode cX10_read 89 = .ok (.invokevirtual 68, 3) := by decide +kernel
theorem dX10_read_92 : decode cX10_read 92 = .ok (.ifCond .eq 6, 3) := by decide +kernel
theorem dX10_read_95 : decode cX10_read 95 = .ok (.iload 6, 2) := by decide +kernel
theorem dX10_read_97 : decode cX10_read 97 = .ok (.ireturn, 1) := by decide +kernel
theorem dX10_read_98 : decode cX10_read 98 = .ok (.aload_n 1, 1) := by decide +kernel
theorem dX10_read_99 : decode cX10_read 99 = .ok (.getfield 32, 3) := by decide +kernel
theorem dX10_read_102 : decode cX10_read 102 = .ok (.iload_n 2, 1) := by decide +kernel
theorem dX10_read_103 : decode cX10_read 103 = .ok (.invokevirtual 71, 3) := by decide +kernel
theorem dX10_read_106 : decode cX10_read 106 = .ok (.aload_n 1, 1) := by decide +kernel
theorem dX10_read_107 : decode cX10_read 107 = .ok (.getfield 42, 3) := by decide +kernel
theorem dX10_read_110 : decode cX10_read 110 = .ok (.iload_n 3, 1) := by decide +kernel
theorem dX10_read_111 : decode cX10_read 111 = .ok (.invokevirtual 71, 3) := by decide +kernel
theorem dX10_read_114 : decode cX10_read 114 = .ok (.aload_n 1, 1) := by decide +kernel
theorem dX10_read_115 : decode cX10_read 115 = .ok (.getfield 45, 3) := by decide +kernel
theorem dX10_read_118 : decode cX10_read 118 = .ok (.iload 4, 2) := by decide +kernel
theorem dX10_read_120 : decode cX10_read 120 = .ok (.invokevirtual 71, 3) := by decide +kernel
theorem dX10_read_123 : decode cX10_read 123 = .ok (.aload_n 1, 1) := by decide +kernel
theorem dX10_read_124 : decode cX10_read 124 = .ok (.getfield 48, 3) := by decide +kernel
theorem dX10_read_127 : decode cX10_read 127 = .ok (.iload 5, 2) := by decide +kernel
theorem dX10_read_129 : decode cX10_read 129 = .ok (.invokevirtual 71, 3) := by decide +kernel
theorem dX10_read_132 : decode cX10_read 132 = .ok (.iconst (-1), 1) := by decide +kernel
theorem dX10_read_133 : decode cX10_read 133 = .ok (.ireturn, 1) := by decide +kernel
theorem dX10_sortHere_0 : decode cX10_sortHere 0 = .ok (.aload_n 0, 1) := by decide +kernel
theorem dX10_sortHere_1 : decode cX10_sortHere 1 = .ok (.getfield 19, 3) := by decide +kernel
theorem dX10_sortHere_4 : decode cX10_sortHere 4 = .ok (.ldc 75, 2) := by decide +kernel
theorem dX10_sortHere_6 : decode cX10_sortHere 6 = .ok (.invokevirtual 77, 3) := by decide +kernel
theorem dX10_sortHere_9 : decode cX10_sortHere 9 = .ok (.ifCond .eq 5, 3) := by decide +kernel
theorem dX10_sortHere_12 : decode cX10_sortHere 12 = .ok (.iconst 0, 1) := by decide +kernel
theorem dX10_sortHere_13 : decode cX10_sortHere 13 = .ok (.ireturn, 1) := by decide +kernel
theorem dX10_sortHere_14 : decode cX10_sortHere 14 = .ok (.aload_n 0, 1) := by decide +kernel
theorem dX10_sortHere_15 : decode cX10_sortHere 15 = .ok (.getfield 19, 3) := by decide +kernel
theorem dX10_sortHere_18 : decode cX10_sortHere 18 = .ok (.ldc 81, 2) := by decide +kernel
theorem dX10_sortHere_20 : decode cX10_sortHere 20 = .ok (.invokevirtual 77, 3) := by decide +kernel
theorem dX10_sortHere_23 : decode cX10_sortHere 23 = .ok (.ifCond .eq 5, 3) := by decide +kernel
theorem dX10_sortHere_26 : decode cX10_sortHere 26 = .ok (.iconst 1, 1) := by decide +kernel
theorem dX10_sortHere_27 : decode cX10_sortHere 27 = .ok (.ireturn, 1) := by decide +kernel
theorem dX10_sortHere_28 : decode cX10_sortHere 28 = .ok (.aload_n 0, 1) := by decide +kernel
theorem dX10_sortHere_29 : decode cX10_sortHere 29 = .ok (.getfield 19, 3) := by decide +kernel
theorem dX10_sortHere_32 : decode cX10_sortHere 32 = .ok (.ldc 83, 2) := by decide +kernel
theorem dX10_sortHere_34 : decode cX10_sortHere 34 = .ok (.invokevirtual 77, 3) := by decide +kernel
theorem dX10_sortHere_37 : decode cX10_sortHere 37 = .ok (.ifCond .eq 5, 3) := by decide +kernel
theorem dX10_sortHere_40 : decode cX10_sortHere 40 = .ok (.iconst 2, 1) := by decide +kernel
theorem dX10_sortHere_41 : decode cX10_sortHere 41 = .ok (.ireturn, 1) := by decide +kernel
theorem dX10_sortHere_42 : decode cX10_sortHere 42 = .ok (.aload_n 0, 1) := by decide +kernel
theorem dX10_sortHere_43 : decode cX10_sortHere 43 = .ok (.getfield 19, 3) := by decide +kernel
theorem dX10_sortHere_46 : decode cX10_sortHere 46 = .ok (.ldc 85, 2) := by decide +kernel
theorem dX10_sortHere_48 : decode cX10_sortHere 48 = .ok (.invokevirtual 77, 3) := by decide +kernel
theorem dX10_sortHere_51 : decode cX10_sortHere 51 = .ok (.ifCond .eq 7, 3) := by decide +kernel
theorem dX10_sortHere_54 : decode cX10_sortHere 54 = .ok (.iconst 3, 1) := by decide +kernel
theorem dX10_sortHere_55 : decode cX10_sortHere 55 = .ok (.goto 4, 3) := by decide +kernel
theorem dX10_sortHere_58 : decode cX10_sortHere 58 = .ok (.iconst (-1), 1) := by decide +kernel
theorem dX10_sortHere_59 : decode cX10_sortHere 59 = .ok (.ireturn, 1) := by decide +kernel
theorem dX10_numbersOf_0 : decode cX10_numbersOf 0 = .ok (.iload_n 0, 1) := by decide +kernel
theorem dX10_numbersOf_1 : decode cX10_numbersOf 1 = .ok (.lookupswitch 31 #[(0, 27), (2, 29)], 27) := by decide +kernel
theorem dX10_numbersOf_28 : decode cX10_numbersOf 28 = .ok (.iconst 5, 1) := by decide +kernel
theorem dX10_numbersOf_29 : decode cX10_numbersOf 29 = .ok (.ireturn, 1) := by decide +kernel
theorem dX10_numbersOf_30 : decode cX10_numbersOf 30 = .ok (.iconst 2, 1) := by decide +kernel
theorem dX10_numbersOf_31 : decode cX10_numbersOf 31 = .ok (.ireturn, 1) := by decide +kernel
theorem dX10_numbersOf_32 : decode cX10_numbersOf 32 = .ok (.iconst 4, 1) := by decide +kernel
theorem dX10_numbersOf_33 : decode cX10_numbersOf 33 = .ok (.ireturn, 1) := by decide +kernel
theorem dX10_readLine_0 : decode cX10_readLine 0 = .ok (.aload_n 0, 1) := by decide +kernel
theorem dX10_readLine_1 : decode cX10_readLine 1 = .ok (.invokevirtual 87, 3) := by decide +kernel
theorem dX10_readLine_4 : decode cX10_readLine 4 = .ok (.istore_n 2, 1) := by decide +kernel
theorem dX10_readLine_5 : decode cX10_readLine 5 = .ok (.aload_n 0, 1) := by decide +kernel
theorem dX10_readLine_6 : decode cX10_readLine 6 = .ok (.getfield 19, 3) := by decide +kernel
theorem dX10_readLine_9 : decode cX10_readLine 9 = .ok (.invokevirtual 90, 3) := by decide +kernel
theorem dX10_readLine_12 : decode cX10_readLine 12 = .ok (.istore_n 3, 1) := by decide +kernel
theorem dX10_readLine_13 : decode cX10_readLine 13 = .ok (.aload_n 0, 1) := by decide +kernel
theorem dX10_readLine_14 : decode cX10_readLine 14 = .ok (.getfield 19, 3) := by decide +kernel
theorem dX10_readLine_17 : decode cX10_readLine 17 = .ok (.iload_n 2, 1) := by decide +kernel
theorem dX10_readLine_18 : decode cX10_readLine 18 = .ok (.iconst (-1), 1) := by decide +kernel
theorem dX10_readLine_19 : decode cX10_readLine 19 = .ok (.if_icmp .eq 7, 3) := by decide +kernel
theorem dX10_readLine_22 : decode cX10_readLine 22 = .ok (.iconst 1, 1) := by decide +kernel
theorem dX10_readLine_23 : decode cX10_readLine 23 = .ok (.goto 4, 3) := by decide +kernel
theorem dX10_readLine_26 : decode cX10_readLine 26 = .ok (.iconst 0, 1) := by decide +kernel
theorem dX10_readLine_27 : decode cX10_readLine 27 = .ok (.invokevirtual 93, 3) := by decide +kernel
theorem dX10_readLine_30 : decode cX10_readLine 30 = .ok (.ifCond .ne 4, 3) := by decide +kernel
theorem dX10_readLine_33 : decode cX10_readLine 33 = .ok (.return_, 1) := by decide +kernel
theorem dX10_readLine_34 : decode cX10_readLine 34 = .ok (.iconst 0, 1) := by decide +kernel
theorem dX10_readLine_35 : decode cX10_readLine 35 = .ok (.istore 4, 2) := by decide +kernel
theorem dX10_readLine_37 : decode cX10_readLine 37 = .ok (.iload 4, 2) := by decide +kernel
theorem dX10_readLine_39 : decode cX10_readLine 39 = .ok (.iload_n 2, 1) := by decide +kernel
theorem dX10_readLine_40 : decode cX10_readLine 40 = .ok (.invokestatic 97, 3) := by decide +kernel
theorem dX10_readLine_43 : decode cX10_readLine 43 = .ok (.if_icmp .ge 61, 3) := by decide +kernel
theorem dX10_readLine_46 : decode cX10_readLine 46 = .ok (.iload 4, 2) := by decide +kernel
theorem dX10_readLine_48 : decode cX10_readLine 48 = .ok (.iconst 5, 1) := by decide +kernel
theorem dX10_readLine_49 : decode cX10_readLine 49 = .ok (.if_icmp .ge 55, 3) := by decide +kernel
theorem dX10_readLine_52 : decode cX10_readLine 52 = .ok (.aload_n 0, 1) := by decide +kernel
theorem dX10_readLine_53 : decode cX10_readLine 53 = .ok (.getfield 25, 3) := by decide +kernel
theorem dX10_readLine_56 : decode cX10_readLine 56 = .ok (.iload 4, 2) := by decide +kernel
theorem dX10_readLine_58 : decode cX10_readLine 58 = .ok (.aload_n 0, 1) := by decide +kernel
theorem dX10_readLine_59 : decode cX10_readLine 59 = .ok (.getfield 19, 3) := by decide +kernel
theorem dX10_readLine_62 : decode cX10_readLine 62 = .ok (.invokevirtual 101, 3) := by decide +kernel
theorem dX10_readLine_65 : decode cX10_readLine 65 = .ok (.iastore, 1) := by decide +kernel
theorem dX10_readLine_66 : decode cX10_readLine 66 = .ok (.aload_n 0, 1) := by decide +kernel
theorem dX10_readLine_67 : decode cX10_readLine 67 = .ok (.getfield 29, 3) := by decide +kernel
theorem dX10_readLine_70 : decode cX10_readLine 70 = .ok (.iload 4, 2) := by decide +kernel
theorem dX10_readLine_72 : decode cX10_readLine 72 = .ok (.aload_n 0, 1) := by decide +kernel
theorem dX10_readLine_73 : decode cX10_readLine 73 = .ok (.getfield 19, 3) := by decide +kernel
theorem dX10_readLine_76 : decode cX10_readLine 76 = .ok (.invokevirtual 90, 3) := by decide +kernel
theorem dX10_readLine_79 : decode cX10_readLine 79 = .ok (.iastore, 1) := by decide +kernel
theorem dX10_readLine_80 : decode cX10_readLine 80 = .ok (.aload_n 0, 1) := by decide +kernel
theorem dX10_readLine_81 : decode cX10_readLine 81 = .ok (.getfield 19, 3) := by decide +kernel
theorem dX10_readLine_84 : decode cX10_readLine 84 = .ok (.aload_n 0, 1) := by decide +kernel
theorem dX10_readLine_85 : decode cX10_readLine 85 = .ok (.getfield 19, 3) := by decide +kernel
theorem dX10_readLine_88 : decode cX10_readLine 88 = .ok (.invokevirtual 104, 3) := by decide +kernel
theorem dX10_readLine_91 : decode cX10_readLine 91 = .ok (.invokevirtual 93, 3) := by decide +kernel
theorem dX10_readLine_94 : decode cX10_readLine 94 = .ok (.ifCond .ne 4, 3) := by decide +kernel
theorem dX10_readLine_97 : decode cX10_readLine 97 = .ok (.return_, 1) := by decide +kernel
theorem dX10_readLine_98 : decode cX10_readLine 98 = .ok (.iinc 4 1, 3) := by decide +kernel
theorem dX10_readLine_101 : decode cX10_readLine 101 = .ok (.goto (-64), 3) := by decide +kernel
theorem dX10_readLine_104 : decode cX10_readLine 104 = .ok (.aload_n 0, 1) := by decide +kernel
theorem dX10_readLine_105 : decode cX10_readLine 105 = .ok (.getfield 19, 3) := by decide +kernel
theorem dX10_readLine_108 : decode cX10_readLine 108 = .ok (.aload_n 0, 1) := by decide +kernel
theorem dX10_readLine_109 : decode cX10_readLine 109 = .ok (.getfield 19, 3) := by decide +kernel
theorem dX10_readLine_112 : decode cX10_readLine 112 = .ok (.invokevirtual 107, 3) := by decide +kernel
theorem dX10_readLine_115 : decode cX10_readLine 115 = .ok (.bipush 59, 2) := by decide +kernel
theorem dX10_readLine_117 : decode cX10_readLine 117 = .ok (.if_icmp .ne 7, 3) := by decide +kernel
theorem dX10_readLine_120 : decode cX10_readLine 120 = .ok (.iconst 1, 1) := by decide +kernel
theorem dX10_readLine_121 : decode cX10_readLine 121 = .ok (.goto 4, 3) := by decide +kernel
theorem dX10_readLine_124 : decode cX10_readLine 124 = .ok (.iconst 0, 1) := by decide +kernel
theorem dX10_readLine_125 : decode cX10_readLine 125 = .ok (.invokevirtual 93, 3) := by decide +kernel
theorem dX10_readLine_128 : decode cX10_readLine 128 = .ok (.ifCond .eq 20, 3) := by decide +kernel
theorem dX10_readLine_131 : decode cX10_readLine 131 = .ok (.aload_n 0, 1) := by decide +kernel
theorem dX10_readLine_132 : decode cX10_readLine 132 = .ok (.getfield 19, 3) := by decide +kernel
theorem dX10_readLine_135 : decode cX10_readLine 135 = .ok (.invokevirtual 68, 3) := by decide +kernel
theorem dX10_readLine_138 : decode cX10_readLine 138 = .ok (.ifCond .eq 10, 3) := by decide +kernel
theorem dX10_readLine_141 : decode cX10_readLine 141 = .ok (.aload_n 0, 1) := by decide +kernel
theorem dX10_readLine_142 : decode cX10_readLine 142 = .ok (.aload_n 1, 1) := by decide +kernel
theorem dX10_readLine_143 : decode cX10_readLine 143 = .ok (.iload_n 2, 1) := by decide +kernel
theorem dX10_readLine_144 : decode cX10_readLine 144 = .ok (.iload_n 3, 1) := by decide +kernel
theorem dX10_readLine_145 : decode cX10_readLine 145 = .ok (.invokevirtual 110, 3) := by decide +kernel
theorem dX10_readLine_148 : decode cX10_readLine 148 = .ok (.return_, 1) := by decide +kernel
theorem dX10_take_0 : decode cX10_take 0 = .ok (.aload_n 1, 1) := by decide +kernel
theorem dX10_take_1 : decode cX10_take 1 = .ok (.iload_n 2, 1) := by decide +kernel
theorem dX10_take_2 : decode cX10_take 2 = .ok (.invokestatic 114, 3) := by decide +kernel
theorem dX10_take_5 : decode cX10_take 5 = .ok (.astore 4, 2) := by decide +kernel
theorem dX10_take_7 : decode cX10_take 7 = .ok (.iload_n 2, 1) := by decide +kernel
theorem dX10_take_8 : decode cX10_take 8 = .ok (.ifCond .ne 22, 3) := by decide +kernel
theorem dX10_take_11 : decode cX10_take 11 = .ok (.aload_n 0, 1) := by decide +kernel
theorem dX10_take_12 : decode cX10_take 12 = .ok (.invokevirtual 118, 3) := by decide +kernel
theorem dX10_take_15 : decode cX10_take 15 = .ok (.ifCond .eq 15, 3) := by decide +kernel
theorem dX10_take_18 : decode cX10_take 18 = .ok (.aload_n 0, 1) := by decide +kernel
theorem dX10_take_19 : decode cX10_take 19 = .ok (.getfield 19, 3) := by decide +kernel
theorem dX10_take_22 : decode cX10_take 22 = .ok (.iconst 3, 1) := by decide +kernel
theorem dX10_take_23 : decode cX10_take 23 = .ok (.iload_n 3, 1) := by decide +kernel
theorem dX10_take_24 : decode cX10_take 24 = .ok (.invokevirtual 121, 3) := by decide +kernel
theorem dX10_take_27 : decode cX10_take 27 = .ok (.goto 42, 3) := by decide +kernel
theorem dX10_take_30 : decode cX10_take 30 = .ok (.aload 4, 2) := by decide +kernel
theorem dX10_take_32 : decode cX10_take 32 = .ok (.invokevirtual 124, 3) := by decide +kernel
theorem dX10_take_35 : decode cX10_take 35 = .ok (.ifCond .eq 15, 3) := by decide +kernel
theorem dX10_take_38 : decode cX10_take 38 = .ok (.aload_n 0, 1) := by decide +kernel
theorem dX10_take_39 : decode cX10_take 39 = .ok (.getfield 19, 3) := by decide +kernel
theorem dX10_take_42 : decode cX10_take 42 = .ok (.iconst 4, 1) := by decide +kernel
theorem dX10_take_43 : decode cX10_take 43 = .ok (.iload_n 3, 1) := by decide +kernel
theorem dX10_take_44 : decode cX10_take 44 = .ok (.invokevirtual 121, 3) := by decide +kernel
theorem dX10_take_47 : decode cX10_take 47 = .ok (.goto 22, 3) := by decide +kernel
theorem dX10_take_50 : decode cX10_take 50 = .ok (.aload_n 0, 1) := by decide +kernel
theorem dX10_take_51 : decode cX10_take 51 = .ok (.iload_n 2, 1) := by decide +kernel
theorem dX10_take_52 : decode cX10_take 52 = .ok (.invokevirtual 127, 3) := by decide +kernel
theorem dX10_take_55 : decode cX10_take 55 = .ok (.ifCond .eq 14, 3) := by decide +kernel
theorem dX10_take_58 : decode cX10_take 58 = .ok (.aload_n 0, 1) := by decide +kernel
theorem dX10_take_59 : decode cX10_take 59 = .ok (.aload 4, 2) := by decide +kernel
theorem dX10_take_61 : decode cX10_take 61 = .ok (.iload_n 2, 1) := by decide +kernel
theorem dX10_take_62 : decode cX10_take 62 = .ok (.aload_n 1, 1) := by decide +kernel
theorem dX10_take_63 : decode cX10_take 63 = .ok (.getfield 131, 3) := by decide +kernel
theorem dX10_take_66 : decode cX10_take 66 = .ok (.invokevirtual 135, 3) := by decide +kernel
theorem dX10_take_69 : decode cX10_take 69 = .ok (.return_, 1) := by decide +kernel
theorem dX10_tableOf_0 : decode cX10_tableOf 0 = .ok (.iload_n 1, 1) := by decide +kernel
theorem dX10_tableOf_1 : decode cX10_tableOf 1 = .ok (.tableswitch 42 0 2 #[27, 32, 37], 27) := by decide +kernel
theorem dX10_tableOf_28 : decode cX10_tableOf 28 = .ok (.aload_n 0, 1) := by decide +kernel
theorem dX10_tableOf_29 : decode cX10_tableOf 29 = .ok (.getfield 32, 3) := by decide +kernel
theorem dX10_tableOf_32 : decode cX10_tableOf 32 = .ok (.areturn, 1) := by decide +kernel
theorem dX10_tableOf_33 : decode cX10_tableOf 33 = .ok (.aload_n 0, 1) := by decide +kernel
theorem dX10_tableOf_34 : decode cX10_tableOf 34 = .ok (.getfield 42, 3) := by decide +kernel
theorem dX10_tableOf_37 : decode cX10_tableOf 37 = .ok (.areturn, 1) := by decide +kernel
theorem dX10_tableOf_38 : decode cX10_tableOf 38 = .ok (.aload_n 0, 1) := by decide +kernel
theorem dX10_tableOf_39 : decode cX10_tableOf 39 = .ok (.getfield 48, 3) := by decide +kernel
theorem dX10_tableOf_42 : decode cX10_tableOf 42 = .ok (.areturn, 1) := by decide +kernel
theorem dX10_tableOf_43 : decode cX10_tableOf 43 = .ok (.aload_n 0, 1) := by decide +kernel
theorem dX10_tableOf_44 : decode cX10_tableOf 44 = .ok (.getfield 45, 3) := by decide +kernel
theorem dX10_tableOf_47 : decode cX10_tableOf 47 = .ok (.areturn, 1) := by decide +kernel
theorem dX10_isCrooked_0 : decode cX10_isCrooked 0 = .ok (.aload_n 0, 1) := by decide +kernel
theorem dX10_isCrooked_1 : decode cX10_isCrooked 1 = .ok (.getfield 25, 3) := by decide +kernel
theorem dX10_isCrooked_4 : decode cX10_isCrooked 4 = .ok (.iconst 0, 1) := by decide +kernel
theorem dX10_isCrooked_5 : decode cX10_isCrooked 5 = .ok (.iaload, 1) := by decide +kernel
theorem dX10_isCrooked_6 : decode cX10_isCrooked 6 = .ok (.aload_n 0, 1) := by decide +kernel
theorem dX10_isCrooked_7 : decode cX10_isCrooked 7 = .ok (.getfield 25, 3) := by decide +kernel
theorem dX10_isCrooked_10 : decode cX10_isCrooked 10 = .ok (.iconst 2, 1) := by decide +kernel
theorem dX10_isCrooked_11 : decode cX10_isCrooked 11 = .ok (.iaload, 1) := by decide +kernel
theorem dX10_isCrooked_12 : decode cX10_isCrooked 12 = .ok (.if_icmp .ne 7, 3) := by decide +kernel
theorem dX10_isCrooked_15 : decode cX10_isCrooked 15 = .ok (.iconst 1, 1) := by decide +kernel
theorem dX10_isCrooked_16 : decode cX10_isCrooked 16 = .ok (.goto 4, 3) := by decide +kernel
theorem dX10_isCrooked_19 : decode cX10_isCrooked 19 = .ok (.iconst 0, 1) := by decide +kernel
theorem dX10_isCrooked_20 : decode cX10_isCrooked 20 = .ok (.istore_n 1, 1) := by decide +kernel
theorem dX10_isCrooked_21 : decode cX10_isCrooked 21 = .ok (.aload_n 0, 1) := by decide +kernel
theorem dX10_isCrooked_22 : decode cX10_isCrooked 22 = .ok (.getfield 25, 3) := by decide +kernel
theorem dX10_isCrooked_25 : decode cX10_isCrooked 25 = .ok (.iconst 1, 1) := by decide +kernel
theorem dX10_isCrooked_26 : decode cX10_isCrooked 26 = .ok (.iaload, 1) := by decide +kernel
theorem dX10_isCrooked_27 : decode cX10_isCrooked 27 = .ok (.aload_n 0, 1) := by decide +kernel
theorem dX10_isCrooked_28 : decode cX10_isCrooked 28 = .ok (.getfield 25, 3) := by decide +kernel
theorem dX10_isCrooked_31 : decode cX10_isCrooked 31 = .ok (.iconst 3, 1) := by decide +kernel
theorem dX10_isCrooked_32 : decode cX10_isCrooked 32 = .ok (.iaload, 1) := by decide +kernel
theorem dX10_isCrooked_33 : decode cX10_isCrooked 33 = .ok (.if_icmp .ne 7, 3) := by decide +kernel
theorem dX10_isCrooked_36 : decode cX10_isCrooked 36 = .ok (.iconst 1, 1) := by decide +kernel
theorem dX10_isCrooked_37 : decode cX10_isCrooked 37 = .ok (.goto 4, 3) := by decide +kernel
theorem dX10_isCrooked_40 : decode cX10_isCrooked 40 = .ok (.iconst 0, 1) := by decide +kernel
theorem dX10_isCrooked_41 : decode cX10_isCrooked 41 = .ok (.istore_n 2, 1) := by decide +kernel
theorem dX10_isCrooked_42 : decode cX10_isCrooked 42 = .ok (.iload_n 1, 1) := by decide +kernel
theorem dX10_isCrooked_43 : decode cX10_isCrooked 43 = .ok (.iload_n 2, 1) := by decide +kernel
theorem dX10_isCrooked_44 : decode cX10_isCrooked 44 = .ok (.if_icmp .ne 7, 3) := by decide +kernel
theorem dX10_isCrooked_47 : decode cX10_isCrooked 47 = .ok (.iconst 1, 1) := by decide +kernel
theorem dX10_isCrooked_48 : decode cX10_isCrooked 48 = .ok (.goto 4, 3) := by decide +kernel
theorem dX10_isCrooked_51 : decode cX10_isCrooked 51 = .ok (.iconst 0, 1) := by decide +kernel
theorem dX10_isCrooked_52 : decode cX10_isCrooked 52 = .ok (.ireturn, 1) := by decide +kernel
theorem dX10_areNumbersFine_0 : decode cX10_areNumbersFine 0 = .ok (.iconst 0, 1) := by decide +kernel
theorem dX10_areNumbersFine_1 : decode cX10_areNumbersFine 1 = .ok (.istore_n 2, 1) := by decide +kernel
theorem dX10_areNumbersFine_2 : decode cX10_areNumbersFine 2 = .ok (.iload_n 2, 1) := by decide +kernel
theorem dX10_areNumbersFine_3 : decode cX10_areNumbersFine 3 = .ok (.iload_n 1, 1) := by decide +kernel
theorem dX10_areNumbersFine_4 : decode cX10_areNumbersFine 4 = .ok (.invokestatic 97, 3) := by decide +kernel
theorem dX10_areNumbersFine_7 : decode cX10_areNumbersFine 7 = .ok (.if_icmp .ge 86, 3) := by decide +kernel
theorem dX10_areNumbersFine_10 : decode cX10_areNumbersFine 10 = .ok (.iload_n 2, 1) := by decide +kernel
theorem dX10_areNumbersFine_11 : decode cX10_areNumbersFine 11 = .ok (.iconst 5, 1) := by decide +kernel
theorem dX10_areNumbersFine_12 : decode cX10_areNumbersFine 12 = .ok (.if_icmp .ge 81, 3) := by decide +kernel
theorem dX10_areNumbersFine_15 : decode cX10_areNumbersFine 15 = .ok (.iload_n 1, 1) := by decide +kernel
theorem dX10_areNumbersFine_16 : decode cX10_areNumbersFine 16 = .ok (.iconst 5, 1) := by decide +kernel
theorem dX10_areNumbersFine_17 : decode cX10_areNumbersFine 17 = .ok (.imul, 1) := by decide +kernel
theorem dX10_areNumbersFine_18 : decode cX10_areNumbersFine 18 = .ok (.iload_n 2, 1) := by decide +kernel
theorem dX10_areNumbersFine_19 : decode cX10_areNumbersFine 19 = .ok (.iadd, 1) := by decide +kernel
theorem dX10_areNumbersFine_20 : decode cX10_areNumbersFine 20 = .ok (.istore_n 3, 1) := by decide +kernel
theorem dX10_areNumbersFine_21 : decode cX10_areNumbersFine 21 = .ok (.iload_n 3, 1) := by decide +kernel
theorem dX10_areNumbersFine_22 : decode cX10_areNumbersFine 22 = .ok (.ifCond .lt 19, 3) := by decide +kernel
theorem dX10_areNumbersFine_25 : decode cX10_areNumbersFine 25 = .ok (.iload_n 3, 1) := by decide +kernel
theorem dX10_areNumbersFine_26 : decode cX10_areNumbersFine 26 = .ok (.getstatic 139, 3) := by decide +kernel
theorem dX10_areNumbersFine_29 : decode cX10_areNumbersFine 29 = .ok (.arraylength, 1) := by decide +kernel
theorem dX10_areNumbersFine_30 : decode cX10_areNumbersFine 30 = .ok (.if_icmp .ge 11, 3) := by decide +kernel
theorem dX10_areNumbersFine_33 : decode cX10_areNumbersFine 33 = .ok (.iload_n 3, 1) := by decide +kernel
theorem dX10_areNumbersFine_34 : decode cX10_areNumbersFine 34 = .ok (.getstatic 142, 3) := by decide +kernel
theorem dX10_areNumbersFine_37 : decode cX10_areNumbersFine 37 = .ok (.arraylength, 1) := by decide +kernel
theorem dX10_areNumbersFine_38 : decode cX10_areNumbersFine 38 = .ok (.if_icmp .lt 5, 3) := by decide +kernel
theorem dX10_areNumbersFine_41 : decode cX10_areNumbersFine 41 = .ok (.iconst 0, 1) := by decide +kernel
theorem dX10_areNumbersFine_42 : decode cX10_areNumbersFine 42 = .ok (.ireturn, 1) := by decide +kernel
theorem dX10_areNumbersFine_43 : decode cX10_areNumbersFine 43 = .ok (.aload_n 0, 1) := by decide +kernel
theorem dX10_areNumbersFine_44 : decode cX10_areNumbersFine 44 = .ok (.getfield 25, 3) := by decide +kernel
theorem dX10_areNumbersFine_47 : decode cX10_areNumbersFine 47 = .ok (.iload_n 2, 1) := by decide +kernel
theorem dX10_areNumbersFine_48 : decode cX10_areNumbersFine 48 = .ok (.iaload, 1) := by decide +kernel
theorem dX10_areNumbersFine_49 : decode cX10_areNumbersFine 49 = .ok (.getstatic 139, 3) := by decide +kernel
theorem dX10_areNumbersFine_52 : decode cX10_areNumbersFine 52 = .ok (.iload_n 3, 1) := by decide +kernel
theorem dX10_areNumbersFine_53 : decode cX10_areNumbersFine 53 = .ok (.iaload, 1) := by decide +kernel
theorem dX10_areNumbersFine_54 : decode cX10_areNumbersFine 54 = .ok (.if_icmp .lt 17, 3) := by decide +kernel
theorem dX10_areNumbersFine_57 : decode cX10_areNumbersFine 57 = .ok (.aload_n 0, 1) := by decide +kernel
theorem dX10_areNumbersFine_58 : decode cX10_areNumbersFine 58 = .ok (.getfield 25, 3) := by decide +kernel
theorem dX10_areNumbersFine_61 : decode cX10_areNumbersFine 61 = .ok (.iload_n 2, 1) := by decide +kernel
theorem dX10_areNumbersFine_62 : decode cX10_areNumbersFine 62 = .ok (.iaload, 1) := by decide +kernel
theorem dX10_areNumbersFine_63 : decode cX10_areNumbersFine 63 = .ok (.getstatic 142, 3) := by decide +kernel
theorem dX10_areNumbersFine_66 : decode cX10_areNumbersFine 66 = .ok (.iload_n 3, 1) := by decide +kernel
theorem dX10_areNumbersFine_67 : decode cX10_areNumbersFine 67 = .ok (.iaload, 1) := by decide +kernel
theorem dX10_areNumbersFine_68 : decode cX10_areNumbersFine 68 = .ok (.if_icmp .le 19, 3) := by decide +kernel
theorem dX10_areNumbersFine_71 : decode cX10_areNumbersFine 71 = .ok (.aload_n 0, 1) := by decide +kernel
theorem dX10_areNumbersFine_72 : decode cX10_areNumbersFine 72 = .ok (.getfield 19, 3) := by decide +kernel
theorem dX10_areNumbersFine_75 : decode cX10_areNumbersFine 75 = .ok (.iconst 2, 1) := by decide +kernel
theorem dX10_areNumbersFine_76 : decode cX10_areNumbersFine 76 = .ok (.aload_n 0, 1) := by decide +kernel
theorem dX10_areNumbersFine_77 : decode cX10_areNumbersFine 77 = .ok (.getfield 29, 3) := by decide +kernel
theorem dX10_areNumbersFine_80 : decode cX10_areNumbersFine 80 = .ok (.iload_n 2, 1) := by decide +kernel
theorem dX10_areNumbersFine_81 : decode cX10_areNumbersFine 81 = .ok (.iaload, 1) := by decide +kernel
theorem dX10_areNumbersFine_82 : decode cX10_areNumbersFine 82 = .ok (.invokevirtual 121, 3) := by decide +kernel
theorem dX10_areNumbersFine_85 : decode cX10_areNumbersFine 85 = .ok (.iconst 0, 1) := by decide +kernel
theorem dX10_areNumbersFine_86 : decode cX10_areNumbersFine 86 = .ok (.ireturn, 1) := by decide +kernel
theorem dX10_areNumbersFine_87 : decode cX10_areNumbersFine 87 = .ok (.iinc 2 1, 3) := by decide +kernel
theorem dX10_areNumbersFine_90 : decode cX10_areNumbersFine 90 = .ok (.goto (-88), 3) := by decide +kernel
theorem dX10_areNumbersFine_93 : decode cX10_areNumbersFine 93 = .ok (.iconst 1, 1) := by decide +kernel
theorem dX10_areNumbersFine_94 : decode cX10_areNumbersFine 94 = .ok (.ireturn, 1) := by decide +kernel
theorem dX10_addTo_0 : decode cX10_addTo 0 = .ok (.aload_n 1, 1) := by decide +kernel
theorem dX10_addTo_1 : decode cX10_addTo 1 = .ok (.invokevirtual 38, 3) := by decide +kernel
theorem dX10_addTo_4 : decode cX10_addTo 4 = .ok (.istore 4, 2) := by decide +kernel
theorem dX10_addTo_6 : decode cX10_addTo 6 = .ok (.aload_n 1, 1) := by decide +kernel
theorem dX10_addTo_7 : decode cX10_addTo 7 = .ok (.invokevirtual 145, 3) := by decide +kernel
theorem dX10_addTo_10 : decode cX10_addTo 10 = .ok (.pop, 1) := by decide +kernel
theorem dX10_addTo_11 : decode cX10_addTo 11 = .ok (.iconst 0, 1) := by decide +kernel
theorem dX10_addTo_12 : decode cX10_addTo 12 = .ok (.istore 5, 2) := by decide +kernel
theorem dX10_addTo_14 : decode cX10_addTo 14 = .ok (.iload 5, 2) := by decide +kernel
theorem dX10_addTo_16 : decode cX10_addTo 16 = .ok (.iload_n 2, 1) := by decide +kernel
theorem dX10_addTo_17 : decode cX10_addTo 17 = .ok (.invokestatic 97, 3) := by decide +kernel
theorem dX10_addTo_20 : decode cX10_addTo 20 = .ok (.if_icmp .ge 30, 3) := by decide +kernel
theorem dX10_addTo_23 : decode cX10_addTo 23 = .ok (.iload 5, 2) := by decide +kernel
theorem dX10_addTo_25 : decode cX10_addTo 25 = .ok (.iconst 5, 1) := by decide +kernel
theorem dX10_addTo_26 : decode cX10_addTo 26 = .ok (.if_icmp .ge 24, 3) := by decide +kernel
theorem dX10_addTo_29 : decode cX10_addTo 29 = .ok (.aload_n 1, 1) := by decide +kernel
theorem dX10_addTo_30 : decode cX10_addTo 30 = .ok (.iload 4, 2) := by decide +kernel
theorem dX10_addTo_32 : decode cX10_addTo 32 = .ok (.iload 5, 2) := by decide +kernel
theorem dX10_addTo_34 : decode cX10_addTo 34 = .ok (.aload_n 0, 1) := by decide +kernel
theorem dX10_addTo_35 : decode cX10_addTo 35 = .ok (.getfield 25, 3) := by decide +kernel
theorem dX10_addTo_38 : decode cX10_addTo 38 = .ok (.iload 5, 2) := by decide +kernel
theorem dX10_addTo_40 : decode cX10_addTo 40 = .ok (.iaload, 1) := by decide +kernel
theorem dX10_addTo_41 : decode cX10_addTo 41 = .ok (.invokevirtual 148, 3) := by decide +kernel
theorem dX10_addTo_44 : decode cX10_addTo 44 = .ok (.iinc 5 1, 3) := by decide +kernel
theorem dX10_addTo_47 : decode cX10_addTo 47 = .ok (.goto (-33), 3) := by decide +kernel
theorem dX10_addTo_50 : decode cX10_addTo 50 = .ok (.iload_n 2, 1) := by decide +kernel
theorem dX10_addTo_51 : decode cX10_addTo 51 = .ok (.ifCond .ne 111, 3) := by decide +kernel
theorem dX10_addTo_54 : decode cX10_addTo 54 = .ok (.aload_n 1, 1) := by decide +kernel
theorem dX10_addTo_55 : decode cX10_addTo 55 = .ok (.iload 4, 2) := by decide +kernel
theorem dX10_addTo_57 : decode cX10_addTo 57 = .ok (.iconst 0, 1) := by decide +kernel
theorem dX10_addTo_58 : decode cX10_addTo 58 = .ok (.aload_n 0, 1) := by decide +kernel
theorem dX10_addTo_59 : decode cX10_addTo 59 = .ok (.getfield 25, 3) := by decide +kernel
theorem dX10_addTo_62 : decode cX10_addTo 62 = .ok (.iconst 0, 1) := by decide +kernel
theorem dX10_addTo_63 : decode cX10_addTo 63 = .ok (.iaload, 1) := by decide +kernel
theorem dX10_addTo_64 : decode cX10_addTo 64 = .ok (.aload_n 0, 1) := by decide +kernel
theorem dX10_addTo_65 : decode cX10_addTo 65 = .ok (.getfield 25, 3) := by decide +kernel
theorem dX10_addTo_68 : decode cX10_addTo 68 = .ok (.iconst 2, 1) := by decide +kernel
theorem dX10_addTo_69 : decode cX10_addTo 69 = .ok (.iaload, 1) := by decide +kernel
theorem dX10_addTo_70 : decode cX10_addTo 70 = .ok (.invokestatic 152, 3) := by decide +kernel
theorem dX10_addTo_73 : decode cX10_addTo 73 = .ok (.invokevirtual 148, 3) := by decide +kernel
theorem dX10_addTo_76 : decode cX10_addTo 76 = .ok (.aload_n 1, 1) := by decide +kernel
theorem dX10_addTo_77 : decode cX10_addTo 77 = .ok (.iload 4, 2) := by decide +kernel
theorem dX10_addTo_79 : decode cX10_addTo 79 = .ok (.iconst 1, 1) := by decide +kernel
theorem dX10_addTo_80 : decode cX10_addTo 80 = .ok (.aload_n 0, 1) := by decide +kernel
theorem dX10_addTo_81 : decode cX10_addTo 81 = .ok (.getfield 25, 3) := by decide +kernel
theorem dX10_addTo_84 : decode cX10_addTo 84 = .ok (.iconst 1, 1) := by decide +kernel
theorem dX10_addTo_85 : decode cX10_addTo 85 = .ok (.iaload, 1) := by decide +kernel
theorem dX10_addTo_86 : decode cX10_addTo 86 = .ok (.aload_n 0, 1) := by decide +kernel
theorem dX10_addTo_87 : decode cX10_addTo 87 = .ok (.getfield 25, 3) := by decide +kernel
theorem dX10_addTo_90 : decode cX10_addTo 90 = .ok (.iconst 3, 1) := by decide +kernel
theorem dX10_addTo_91 : decode cX10_addTo 91 = .ok (.iaload, 1) := by decide +kernel
theorem dX10_addTo_92 : decode cX10_addTo 92 = .ok (.invokestatic 152, 3) := by decide +kernel
theorem dX10_addTo_95 : decode cX10_addTo 95 = .ok (.invokevirtual 148, 3) := by decide +kernel
theorem dX10_addTo_98 : decode cX10_addTo 98 = .ok (.aload_n 1, 1) := by decide +kernel
theorem dX10_addTo_99 : decode cX10_addTo 99 = .ok (.iload 4, 2) := by decide +kernel
theorem dX10_addTo_101 : decode cX10_addTo 101 = .ok (.iconst 2, 1) := by decide +kernel
theorem dX10_addTo_102 : decode cX10_addTo 102 = .ok (.aload_n 0, 1) := by decide +kernel
theorem dX10_addTo_103 : decode cX10_addTo 103 = .ok (.getfield 25, 3) := by decide +kernel
theorem dX10_addTo_106 : decode cX10_addTo 106 = .ok (.iconst 0, 1) := by decide +kernel
theorem dX10_addTo_107 : decode cX10_addTo 107 = .ok (.iaload, 1) := by decide +kernel
theorem dX10_addTo_108 : decode cX10_addTo 108 = .ok (.aload_n 0, 1) := by decide +kernel
theorem dX10_addTo_109 : decode cX10_addTo 109 = .ok (.getfield 25, 3) := by decide +kernel
theorem dX10_addTo_112 : decode cX10_addTo 112 = .ok (.iconst 2, 1) := by decide +kernel
theorem dX10_addTo_113 : decode cX10_addTo 113 = .ok (.iaload, 1) := by decide +kernel
theorem dX10_addTo_114 : decode cX10_addTo 114 = .ok (.invokestatic 158, 3) := by decide +kernel
theorem dX10_addTo_117 : decode cX10_addTo 117 = .ok (.invokevirtual 148, 3) := by decide +kernel
theorem dX10_addTo_120 : decode cX10_addTo 120 = .ok (.aload_n 1, 1) := by decide +kernel
theorem dX10_addTo_121 : decode cX10_addTo 121 = .ok (.iload 4, 2) := by decide +kernel
theorem dX10_addTo_123 : decode cX10_addTo 123 = .ok (.iconst 3, 1) := by decide +kernel
theorem dX10_addTo_124 : decode cX10_addTo 124 = .ok (.aload_n 0, 1) := by decide +kernel
theorem dX10_addTo_125 : decode cX10_addTo 125 = .ok (.getfield 25, 3) := by decide +kernel
theorem dX10_addTo_128 : decode cX10_addTo 128 = .ok (.iconst 1, 1) := by decide +kernel
theorem dX10_addTo_129 : decode cX10_addTo 129 = .ok (.iaload, 1) := by decide +kernel
theorem dX10_addTo_130 : decode cX10_addTo 130 = .ok (.aload_n 0, 1) := by decide +kernel
theorem dX10_addTo_131 : decode cX10_addTo 131 = .ok (.getfield 25, 3) := by decide +kernel
theorem dX10_addTo_134 : decode cX10_addTo 134 = .ok (.iconst 3, 1) := by decide +kernel
theorem dX10_addTo_135 : decode cX10_addTo 135 = .ok (.iaload, 1) := by decide +kernel
theorem dX10_addTo_136 : decode cX10_addTo 136 = .ok (.invokestatic 158, 3) := by decide +kernel
theorem dX10_addTo_139 : decode cX10_addTo 139 = .ok (.invokevirtual 148, 3) := by decide +kernel
theorem dX10_addTo_142 : decode cX10_addTo 142 = .ok (.aload_n 1, 1) := by decide +kernel
theorem dX10_addTo_143 : decode cX10_addTo 143 = .ok (.iload 4, 2) := by decide +kernel
theorem dX10_addTo_145 : decode cX10_addTo 145 = .ok (.iconst 5, 1) := by decide +kernel
theorem dX10_addTo_146 : decode cX10_addTo 146 = .ok (.iload_n 3, 1) := by decide +kernel
theorem dX10_addTo_147 : decode cX10_addTo 147 = .ok (.invokevirtual 148, 3) := by decide +kernel
theorem dX10_addTo_150 : decode cX10_addTo 150 = .ok (.aload_n 1, 1) := by decide +kernel
theorem dX10_addTo_151 : decode cX10_addTo 151 = .ok (.iload 4, 2) := by decide +kernel
theorem dX10_addTo_153 : decode cX10_addTo 153 = .ok (.bipush 6, 2) := by decide +kernel
theorem dX10_addTo_155 : decode cX10_addTo 155 = .ok (.iconst (-1), 1) := by decide +kernel
theorem dX10_addTo_156 : decode cX10_addTo 156 = .ok (.invokevirtual 148, 3) := by decide +kernel
theorem dX10_addTo_159 : decode cX10_addTo 159 = .ok (.goto 42, 3) := by decide +kernel
theorem dX10_addTo_162 : decode cX10_addTo 162 = .ok (.iload_n 2, 1) := by decide +kernel
theorem dX10_addTo_163 : decode cX10_addTo 163 = .ok (.iconst 1, 1) := by decide +kernel
theorem dX10_addTo_164 : decode cX10_addTo 164 = .ok (.if_icmp .ne 37, 3) := by decide +kernel
theorem dX10_addTo_167 : decode cX10_addTo 167 = .ok (.aload_n 1, 1) := by decide +kernel
theorem dX10_addTo_168 : decode cX10_addTo 168 = .ok (.iload 4, 2) := by decide +kernel
theorem dX10_addTo_170 : decode cX10_addTo 170 = .ok (.iconst 4, 1) := by decide +kernel
theorem dX10_addTo_171 : decode cX10_addTo 171 = .ok (.iload_n 3, 1) := by decide +kernel
theorem dX10_addTo_172 : decode cX10_addTo 172 = .ok (.invokevirtual 148, 3) := by decide +kernel
theorem dX10_addTo_175 : decode cX10_addTo 175 = .ok (.aload_n 1, 1) := by decide +kernel
theorem dX10_addTo_176 : decode cX10_addTo 176 = .ok (.iload 4, 2) := by decide +kernel
theorem dX10_addTo_178 : decode cX10_addTo 178 = .ok (.iconst 5, 1) := by decide +kernel
theorem dX10_addTo_179 : decode cX10_addTo 179 = .ok (.iconst (-1), 1) := by decide +kernel
theorem dX10_addTo_180 : decode cX10_addTo 180 = .ok (.invokevirtual 148, 3) := by decide +kernel
theorem dX10_addTo_183 : decode cX10_addTo 183 = .ok (.aload_n 1, 1) := by decide +kernel
theorem dX10_addTo_184 : decode cX10_addTo 184 = .ok (.iload 4, 2) := by decide +kernel
theorem dX10_addTo_186 : decode cX10_addTo 186 = .ok (.bipush 6, 2) := by decide +kernel
theorem dX10_addTo_188 : decode cX10_addTo 188 = .ok (.iconst (-1), 1) := by decide +kernel
theorem dX10_addTo_189 : decode cX10_addTo 189 = .ok (.invokevirtual 148, 3) := by decide +kernel
theorem dX10_addTo_192 : decode cX10_addTo 192 = .ok (.aload_n 1, 1) := by decide +kernel
theorem dX10_addTo_193 : decode cX10_addTo 193 = .ok (.iload 4, 2) := by decide +kernel
theorem dX10_addTo_195 : decode cX10_addTo 195 = .ok (.bipush 7, 2) := by decide +kernel
theorem dX10_addTo_197 : decode cX10_addTo 197 = .ok (.iconst (-1), 1) := by decide +kernel
theorem dX10_addTo_198 : decode cX10_addTo 198 = .ok (.invokevirtual 148, 3) := by decide +kernel
theorem dX10_addTo_201 : decode cX10_addTo 201 = .ok (.return_, 1) := by decide +kernel
theorem dX11_init_0 : decode cX11_init 0 = .ok (.aload_n 0, 1) := by decide +kernel
theorem dX11_init_1 : decode cX11_init 1 = .ok (.invokespecial 1, 3) := by decide +kernel
theorem dX11_init_4 : decode cX11_init 4 = .ok (.aload_n 0, 1) := by decide +kernel
theorem dX11_init_5 : decode cX11_init 5 = .ok (.new 7, 3) := by decide +kernel
theorem dX11_init_8 : decode cX11_init 8 = .ok (.dup, 1) := by decide +kernel
theorem dX11_init_9 : decode cX11_init 9 = .ok (.invokespecial 9, 3) := by decide +kernel
theorem dX11_init_12 : decode cX11_init 12 = .ok (.putfield 10, 3) := by decide +kernel
theorem dX11_init_15 : decode cX11_init 15 = .ok (.aload_n 0, 1) := by decide +kernel
theorem dX11_init_16 : decode cX11_init 16 = .ok (.iconst 3, 1) := by decide +kernel
theorem dX11_init_17 : decode cX11_init 17 = .ok (.anewarray 7, 3) := by decide +kernel
theorem dX11_init_20 : decode cX11_init 20 = .ok (.putfield 16, 3) := by decide +kernel
theorem dX11_init_23 : decode cX11_init 23 = .ok (.aload_n 0, 1) := by decide +kernel
theorem dX11_init_24 : decode cX11_init 24 = .ok (.new 20, 3) := by decide +kernel
theorem dX11_init_27 : decode cX11_init 27 = .ok (.dup, 1) := by decide +kernel
theorem dX11_init_28 : decode cX11_init 28 = .ok (.invokespecial 22, 3) := by decide +kernel
theorem dX11_init_31 : decode cX11_init 31 = .ok (.putfield 23, 3) := by decide +kernel
theorem dX11_init_34 : decode cX11_init 34 = .ok (.aload_n 0, 1) := by decide +kernel
theorem dX11_init_35 : decode cX11_init 35 = .ok (.new 27, 3) := by decide +kernel
theorem dX11_init_38 : decode cX11_init 38 = .ok (.dup, 1) := by decide +kernel
theorem dX11_init_39 : decode cX11_init 39 = .ok (.aload_n 0, 1) := by decide +kernel
theorem dX11_init_40 : decode cX11_init 40 = .ok (.getfield 10, 3) := by decide +kernel
theorem dX11_init_43 : decode cX11_init 43 = .ok (.aload_n 0, 1) := by decide +kernel
theorem dX11_init_44 : decode cX11_init 44 = .ok (.getfield 23, 3) := by decide +kernel
theorem dX11_init_47 : decode cX11_init 47 = .ok (.invokespecial 29, 3) := by decide +kernel
theorem dX11_init_50 : decode cX11_init 50 = .ok (.putfield 32, 3) := by decide +kernel
theorem dX11_init_53 : decode cX11_init 53 = .ok (.aload_n 0, 1) := by decide +kernel
theorem dX11_init_54 : decode cX11_init 54 = .ok (.new 36, 3) := by decide +kernel
theorem dX11_init_57 : decode cX11_init 57 = .ok (.dup, 1) := by decide +kernel
theorem dX11_init_58 : decode cX11_init 58 = .ok (.aload_n 0, 1) := by decide +kernel
theorem dX11_init_59 : decode cX11_init 59 = .ok (.getfield 10, 3) := by decide +kernel
theorem dX11_init_62 : decode cX11_init 62 = .ok (.aload_n 0, 1) := by decide +kernel
theorem dX11_init_63 : decode cX11_init 63 = .ok (.getfield 32, 3) := by decide +kernel
theorem dX11_init_66 : decode cX11_init 66 = .ok (.invokespecial 38, 3) := by decide +kernel
theorem dX11_init_69 : decode cX11_init 69 = .ok (.putfield 41, 3) := by decide +kernel
theorem dX11_init_72 : decode cX11_init 72 = .ok (.aload_n 0, 1) := by decide +kernel
theorem dX11_init_73 : decode cX11_init 73 = .ok (.new 45, 3) := by decide +kernel
theorem dX11_init_76 : decode cX11_init 76 = .ok (.dup, 1) := by decide +kernel
theorem dX11_init_77 : decode cX11_init 77 = .ok (.aload_n 0, 1) := by decide +kernel
theorem dX11_init_78 : decode cX11_init 78 = .ok (.getfield 10, 3) := by decide +kernel
theorem dX11_init_81 : decode cX11_init 81 = .ok (.aload_n 0, 1) := by decide +kernel
theorem dX11_init_82 : decode cX11_init 82 = .ok (.getfield 32, 3) := by decide +kernel
theorem dX11_init_85 : decode cX11_init 85 = .ok (.invokespecial 47, 3) := by decide +kernel
theorem dX11_init_88 : decode cX11_init 88 = .ok (.putfield 48, 3) := by decide +kernel
theorem dX11_init_91 : decode cX11_init 91 = .ok (.aload_n 0, 1) := by decide +kernel
theorem dX11_init_92 : decode cX11_init 92 = .ok (.new 52, 3) := by decide +kernel
theorem dX11_init_95 : decode cX11_init 95 = .ok (.dup, 1) := by decide +kernel
theorem dX11_init_96 : decode cX11_init 96 = .ok (.invokespecial 54, 3) := by decide +kernel
theorem dX11_init_99 : decode cX11_init 99 = .ok (.putfield 55, 3) := by decide +kernel
theorem dX11_init_102 : decode cX11_init 102 = .ok (.aload_n 0, 1) := by decide +kernel
theorem dX11_init_103 : decode cX11_init 103 = .ok (.new 59, 3) := by decide +kernel
theorem dX11_init_106 : decode cX11_init 106 = .ok (.dup, 1) := by decide +kernel
theorem dX11_init_107 : decode cX11_init 107 = .ok (.invokespecial 61, 3) := by decide +kernel
theorem dX11_init_110 : decode cX11_init 110 = .ok (.putfield 62, 3) := by decide +kernel
theorem dX11_init_113 : decode cX11_init 113 = .ok (.return_, 1) := by decide +kernel
theorem dX11_feed_0 : decode cX11_feed 0 = .ok (.aload_n 0, 1) := by decide +kernel
theorem dX11_feed_1 : decode cX11_feed 1 = .ok (.getfield 10, 3) := by decide +kernel
theorem dX11_feed_4 : decode cX11_feed 4 = .ok (.getfield 66, 3) := by decide +kernel
theorem dX11_feed_7 : decode cX11_feed 7 = .ok (.invokevirtual 70, 3) := by decide +kernel
theorem dX11_feed_10 : decode cX11_feed 10 = .ok (.bipush 20, 2) := by decide +kernel
theorem dX11_feed_12 : decode cX11_feed 12 = .ok (.iadd, 1) := by decide +kernel
theorem dX11_feed_13 : decode cX11_feed 13 = .ok (.sipush 500, 3) := by decide +kernel
theorem dX11_feed_16 : decode cX11_feed 16 = .ok (.if_icmp .le 5, 3) := by decide +kernel
theorem dX11_feed_19 : decode cX11_feed 19 = .ok (.iconst (-1), 1) := by decide +kernel
theorem dX11_feed_20 : decode cX11_feed 20 = .ok (.ireturn, 1) := by decide +kernel
theorem dX11_feed_21 : decode cX11_feed 21 = .ok (.aload_n 0, 1) := by decide +kernel
theorem dX11_feed_22 : decode cX11_feed 22 = .ok (.iload_n 1, 1) := by decide +kernel
theorem dX11_feed_23 : decode cX11_feed 23 = .ok (.invokevirtual 76, 3) := by decide +kernel
theorem dX11_feed_26 : decode cX11_feed 26 = .ok (.aload_n 0, 1) := by decide +kernel
theorem dX11_feed_27 : decode cX11_feed 27 = .ok (.iload_n 2, 1) := by decide +kernel
theorem dX11_feed_28 : decode cX11_feed 28 = .ok (.invokevirtual 76, 3) := by decide +kernel
theorem dX11_feed_31 : decode cX11_feed 31 = .ok (.aload_n 0, 1) := by decide +kernel
theorem dX11_feed_32 : decode cX11_feed 32 = .ok (.iload_n 3, 1) := by decide +kernel
theorem dX11_feed_33 : decode cX11_feed 33 = .ok (.invokevirtual 76, 3) := by decide +kernel
theorem dX11_feed_36 : decode cX11_feed 36 = .ok (.aload_n 0, 1) := by decide +kernel
theorem dX11_feed_37 : decode cX11_feed 37 = .ok (.iload 4, 2) := by decide +kernel
theorem dX11_feed_39 : decode cX11_feed 39 = .ok (.invokevirtual 76, 3) := by decide +kernel
theorem dX11_feed_42 : decode cX11_feed 42 = .ok (.aload_n 0, 1) := by decide +kernel
theorem dX11_feed_43 : decode cX11_feed 43 = .ok (.iload 5, 2) := by decide +kernel
theorem dX11_feed_45 : decode cX11_feed 45 = .ok (.invokevirtual 76, 3) := by decide +kernel
theorem dX11_feed_48 : decode cX11_feed 48 = .ok (.aload_n 0, 1) := by decide +kernel
theorem dX11_feed_49 : decode cX11_feed 49 = .ok (.getfield 10, 3) := by decide +kernel
theorem dX11_feed_52 : decode cX11_feed 52 = .ok (.getfield 66, 3) := by decide +kernel
theorem dX11_feed_55 : decode cX11_feed 55 = .ok (.invokevirtual 70, 3) := by decide +kernel
theorem dX11_feed_58 : decode cX11_feed 58 = .ok (.ireturn, 1) := by decide +kernel
theorem dX11_feedOne_0 : decode cX11_feedOne 0 = .ok (.bipush 24, 2) := by decide +kernel
theorem dX11_feedOne_2 : decode cX11_feedOne 2 = .ok (.istore_n 2, 1) := by decide +kernel
theorem dX11_feedOne_3 : decode cX11_feedOne 3 = .ok (.iload_n 2, 1) := by decide +kernel
theorem dX11_feedOne_4 : decode cX11_feedOne 4 = .ok (.ifCond .lt 50, 3) := by decide +kernel
theorem dX11_feedOne_7 : decode cX11_feedOne 7 = .ok (.aload_n 0, 1) := by decide +kernel
theorem dX11_feedOne_8 : decode cX11_feedOne 8 = .ok (.getfield 10, 3) := by decide +kernel
theorem dX11_feedOne_11 : decode cX11_feedOne 11 = .ok (.getfield 66, 3) := by decide +kernel
theorem dX11_feedOne_14 : decode cX11_feedOne 14 = .ok (.invokevirtual 70, 3) := by decide +kernel
theorem dX11_feedOne_17 : decode cX11_feedOne 17 = .ok (.istore_n 3, 1) := by decide +kernel
theorem dX11_feedOne_18 : decode cX11_feedOne 18 = .ok (.aload_n 0, 1) := by decide +kernel
theorem dX11_feedOne_19 : decode cX11_feedOne 19 = .ok (.getfield 10, 3) := by decide +kernel
theorem dX11_feedOne_22 : decode cX11_feedOne 22 = .ok (.getfield 66, 3) := by decide +kernel
theorem dX11_feedOne_25 : decode cX11_feedOne 25 = .ok (.invokevirtual 80, 3) := by decide +kernel
theorem dX11_feedOne_28 : decode cX11_feedOne 28 = .ok (.pop, 1) := by decide +kernel
theorem dX11_feedOne_29 : decode cX11_feedOne 29 = .ok (.aload_n 0, 1) := by decide +kernel
theorem dX11_feedOne_30 : decode cX11_feedOne 30 = .ok (.getfield 10, 3) := by decide +kernel
theorem dX11_feedOne_33 : decode cX11_feedOne 33 = .ok (.getfield 66, 3) := by decide +kernel
theorem dX11_feedOne_36 : decode cX11_feedOne 36 = .ok (.iload_n 3, 1) := by decide +kernel
theorem dX11_feedOne_37 : decode cX11_feedOne 37 = .ok (.iconst 0, 1) := by decide +kernel
theorem dX11_feedOne_38 : decode cX11_feedOne 38 = .ok (.iload_n 1, 1) := by decide +kernel
theorem dX11_feedOne_39 : decode cX11_feedOne 39 = .ok (.iload_n 2, 1) := by decide +kernel
theorem dX11_feedOne_40 : decode cX11_feedOne 40 = .ok (.ishr, 1) := by decide +kernel
theorem dX11_feedOne_41 : decode cX11_feedOne 41 = .ok (.sipush 255, 3) := by decide +kernel
theorem dX11_feedOne_44 : decode cX11_feedOne 44 = .ok (.iand, 1) := by decide +kernel
theorem dX11_feedOne_45 : decode cX11_feedOne 45 = .ok (.invokevirtual 84, 3) := by decide +kernel
theorem dX11_feedOne_48 : decode cX11_feedOne 48 = .ok (.iinc 2 (-8), 3) := by decide +kernel
theorem dX11_feedOne_51 : decode cX11_feedOne 51 = .ok (.goto (-48), 3) := by decide +kernel
theorem dX11_feedOne_54 : decode cX11_feedOne 54 = .ok (.return_, 1) := by decide +kernel
theorem dX11_end_0 : decode cX11_end 0 = .ok (.iload_n 1, 1) := by decide +kernel
theorem dX11_end_1 : decode cX11_end 1 = .ok (.ifCond .lt 17, 3) := by decide +kernel
theorem dX11_end_4 : decode cX11_end 4 = .ok (.iload_n 1, 1) := by decide +kernel
theorem dX11_end_5 : decode cX11_end 5 = .ok (.aload_n 0, 1) := by decide +kernel
theorem dX11_end_6 : decode cX11_end 6 = .ok (.getfield 10, 3) := by decide +kernel
theorem dX11_end_9 : decode cX11_end 9 = .ok (.getfield 66, 3) := by decide +kernel
theorem dX11_end_12 : decode cX11_end 12 = .ok (.invokevirtual 70, 3) := by decide +kernel
theorem dX11_end_15 : decode cX11_end 15 = .ok (.if_icmp .le 5, 3) := by decide +kernel
theorem dX11_end_18 : decode cX11_end 18 = .ok (.iconst (-1), 1) := by decide +kernel
theorem dX11_end_19 : decode cX11_end 19 = .ok (.ireturn, 1) := by decide +kernel
theorem dX11_end_20 : decode cX11_end 20 = .ok (.aload_n 0, 1) := by decide +kernel
theorem dX11_end_21 : decode cX11_end 21 = .ok (.getfield 10, 3) := by decide +kernel
theorem dX11_end_24 : decode cX11_end 24 = .ok (.getfield 66, 3) := by decide +kernel
theorem dX11_end_27 : decode cX11_end 27 = .ok (.iload_n 1, 1) := by decide +kernel
theorem dX11_end_28 : decode cX11_end 28 = .ok (.invokevirtual 88, 3) := by decide +kernel
theorem dX11_end_31 : decode cX11_end 31 = .ok (.iload_n 1, 1) := by decide +kernel
theorem dX11_end_32 : decode cX11_end 32 = .ok (.ireturn, 1) := by decide +kernel
theorem dX11_town_0 : decode cX11_town 0 = .ok (.aload_n 0, 1) := by decide +kernel
theorem dX11_town_1 : decode cX11_town 1 = .ok (.getfield 55, 3) := by decide +kernel
theorem dX11_town_4 : decode cX11_town 4 = .ok (.aload_n 0, 1) := by decide +kernel
theorem dX11_town_5 : decode cX11_town 5 = .ok (.getfield 10, 3) := by decide +kernel
theorem dX11_town_8 : decode cX11_town 8 = .ok (.invokevirtual 91, 3) := by decide +kernel
theorem dX11_town_11 : decode cX11_town 11 = .ok (.istore_n 1, 1) := by decide +kernel
theorem dX11_town_12 : decode cX11_town 12 = .ok (.aload_n 0, 1) := by decide +kernel
theorem dX11_town_13 : decode cX11_town 13 = .ok (.getfield 10, 3) := by decide +kernel
theorem dX11_town_16 : decode cX11_town 16 = .ok (.getfield 66, 3) := by decide +kernel
theorem dX11_town_19 : decode cX11_town 19 = .ok (.iconst 0, 1) := by decide +kernel
theorem dX11_town_20 : decode cX11_town 20 = .ok (.invokevirtual 88, 3) := by decide +kernel
theorem dX11_town_23 : decode cX11_town 23 = .ok (.aload_n 0, 1) := by decide +kernel
theorem dX11_town_24 : decode cX11_town 24 = .ok (.invokevirtual 95, 3) := by decide +kernel
theorem dX11_town_27 : decode cX11_town 27 = .ok (.iload_n 1, 1) := by decide +kernel
theorem dX11_town_28 : decode cX11_town 28 = .ok (.ireturn, 1) := by decide +kernel
theorem dX11_law_0 : decode cX11_law 0 = .ok (.aload_n 0, 1) := by decide +kernel
theorem dX11_law_1 : decode cX11_law 1 = .ok (.getfield 62, 3) := by decide +kernel
theorem dX11_law_4 : decode cX11_law 4 = .ok (.aload_n 0, 1) := by decide +kernel
theorem dX11_law_5 : decode cX11_law 5 = .ok (.getfield 10, 3) := by decide +kernel
theorem dX11_law_8 : decode cX11_law 8 = .ok (.invokevirtual 98, 3) := by decide +kernel
theorem dX11_law_11 : decode cX11_law 11 = .ok (.istore_n 1, 1) := by decide +kernel
theorem dX11_law_12 : decode cX11_law 12 = .ok (.aload_n 0, 1) := by decide +kernel
theorem dX11_law_13 : decode cX11_law 13 = .ok (.getfield 10, 3) := by decide +kernel
theorem dX11_law_16 : decode cX11_law 16 = .ok (.getfield 66, 3) := by decide +kernel
theorem dX11_law_19 : decode cX11_law 19 = .ok (.iconst 0, 1) := by decide +kernel
theorem dX11_law_20 : decode cX11_law 20 = .ok (.invokevirtual 88, 3) := by decide +kernel
theorem dX11_law_23 : decode cX11_law 23 = .ok (.iload_n 1, 1) := by decide +kernel
theorem dX11_law_24 : decode cX11_law 24 = .ok (.ireturn, 1) := by decide +kernel
theorem dX11_fault_0 : decode cX11_fault 0 = .ok (.iload_n 1, 1) := by decide +kernel
theorem dX11_fault_1 : decode cX11_fault 1 = .ok (.lookupswitch 43 #[(0, 27), (1, 35)], 27) := by decide +kernel
theorem dX11_fault_28 : decode cX11_fault 28 = .ok (.aload_n 0, 1) := by decide +kernel
theorem dX11_fault_29 : decode cX11_fault 29 = .ok (.getfield 10, 3) := by decide +kernel
theorem dX11_fault_32 : decode cX11_fault 32 = .ok (.getfield 99, 3) := by decide +kernel
theorem dX11_fault_35 : decode cX11_fault 35 = .ok (.ireturn, 1) := by decide +kernel
theorem dX11_fault_36 : decode cX11_fault 36 = .ok (.aload_n 0, 1) := by decide +kernel
theorem dX11_fault_37 : decode cX11_fault 37 = .ok (.getfield 10, 3) := by decide +kernel
theorem dX11_fault_40 : decode cX11_fault 40 = .ok (.getfield 103, 3) := by decide +kernel
theorem dX11_fault_43 : decode cX11_fault 43 = .ok (.ireturn, 1) := by decide +kernel
theorem dX11_fault_44 : decode cX11_fault 44 = .ok (.iconst (-1), 1) := by decide +kernel
theorem dX11_fault_45 : decode cX11_fault 45 = .ok (.ireturn, 1) := by decide +kernel
theorem dX11_day_0 : decode cX11_day 0 = .ok (.iload_n 1, 1) := by decide +kernel
theorem dX11_day_1 : decode cX11_day 1 = .ok (.aload_n 0, 1) := by decide +kernel
theorem dX11_day_2 : decode cX11_day 2 = .ok (.getfield 10, 3) := by decide +kernel
theorem dX11_day_5 : decode cX11_day 5 = .ok (.getfield 106, 3) := by decide +kernel
theorem dX11_day_8 : decode cX11_day 8 = .ok (.if_icmp .lt 10, 3) := by decide +kernel
theorem dX11_day_11 : decode cX11_day 11 = .ok (.iload_n 1, 1) := by decide +kernel
theorem dX11_day_12 : decode cX11_day 12 = .ok (.sipush 999, 3) := by decide +kernel
theorem dX11_day_15 : decode cX11_day 15 = .ok (.if_icmp .le 5, 3) := by decide +kernel
theorem dX11_day_18 : decode cX11_day 18 = .ok (.iconst 0, 1) := by decide +kernel
theorem dX11_day_19 : decode cX11_day 19 = .ok (.ireturn, 1) := by decide +kernel
theorem dX11_day_20 : decode cX11_day 20 = .ok (.aload_n 0, 1) := by decide +kernel
theorem dX11_day_21 : decode cX11_day 21 = .ok (.getfield 10, 3) := by decide +kernel
theorem dX11_day_24 : decode cX11_day 24 = .ok (.iload_n 1, 1) := by decide +kernel
theorem dX11_day_25 : decode cX11_day 25 = .ok (.putfield 106, 3) := by decide +kernel
theorem dX11_day_28 : decode cX11_day 28 = .ok (.aload_n 0, 1) := by decide +kernel
theorem dX11_day_29 : decode cX11_day 29 = .ok (.invokevirtual 95, 3) := by decide +kernel
theorem dX11_day_32 : decode cX11_day 32 = .ok (.iconst 1, 1) := by decide +kernel
theorem dX11_day_33 : decode cX11_day 33 = .ok (.ireturn, 1) := by decide +kernel
theorem dX11_view_0 : decode cX11_view 0 = .ok (.iload_n 1, 1) := by decide +kernel
theorem dX11_view_1 : decode cX11_view 1 = .ok (.iconst (-1), 1) := by decide +kernel
theorem dX11_view_2 : decode cX11_view 2 = .ok (.if_icmp .lt 14, 3) := by decide +kernel
theorem dX11_view_5 : decode cX11_view 5 = .ok (.iload_n 1, 1) := by decide +kernel
theorem dX11_view_6 : decode cX11_view 6 = .ok (.aload_n 0, 1) := by decide +kernel
theorem dX11_view_7 : decode cX11_view 7 = .ok (.getfield 10, 3) := by decide +kernel
theorem dX11_view_10 : decode cX11_view 10 = .ok (.getfield 106, 3) := by decide +kernel
theorem dX11_view_13 : decode cX11_view 13 = .ok (.if_icmp .le 5, 3) := by decide +kernel
theorem dX11_view_16 : decode cX11_view 16 = .ok (.iconst 0, 1) := by decide +kernel
theorem dX11_view_17 : decode cX11_view 17 = .ok (.ireturn, 1) := by decide +kernel
theorem dX11_view_18 : decode cX11_view 18 = .ok (.aload_n 0, 1) := by decide +kernel
theorem dX11_view_19 : decode cX11_view 19 = .ok (.getfield 10, 3) := by decide +kernel
theorem dX11_view_22 : decode cX11_view 22 = .ok (.iload_n 1, 1) := by decide +kernel
theorem dX11_view_23 : decode cX11_view 23 = .ok (.putfield 109, 3) := by decide +kernel
theorem dX11_view_26 : decode cX11_view 26 = .ok (.aload_n 0, 1) := by decide +kernel
theorem dX11_view_27 : decode cX11_view 27 = .ok (.invokevirtual 95, 3) := by decide +kernel
theorem dX11_view_30 : decode cX11_view 30 = .ok (.iconst 1, 1) := by decide +kernel
theorem dX11_view_31 : decode cX11_view 31 = .ok (.ireturn, 1) := by decide +kernel
theorem dX11_pull_0 : decode cX11_pull 0 = .ok (.iload_n 1, 1) := by decide +kernel
theorem dX11_pull_1 : decode cX11_pull 1 = .ok (.ifCond .eq 13, 3) := by decide +kernel
theorem dX11_pull_4 : decode cX11_pull 4 = .ok (.aload_n 0, 1) := by decide +kernel
theorem dX11_pull_5 : decode cX11_pull 5 = .ok (.getfield 10, 3) := by decide +kernel
theorem dX11_pull_8 : decode cX11_pull 8 = .ok (.getfield 112, 3) := by decide +kernel
theorem dX11_pull_11 : decode cX11_pull 11 = .ok (.goto 10, 3) := by decide +kernel
theorem dX11_pull_14 : decode cX11_pull 14 = .ok (.aload_n 0, 1) := by decide +kernel
theorem dX11_pull_15 : decode cX11_pull 15 = .ok (.getfield 10, 3) := by decide +kernel
theorem dX11_pull_18 : decode cX11_pull 18 = .ok (.getfield 115, 3) := by decide +kernel
theorem dX11_pull_21 : decode cX11_pull 21 = .ok (.astore_n 3, 1) := by decide +kernel
theorem dX11_pull_22 : decode cX11_pull 22 = .ok (.iload_n 1, 1) := by decide +kernel
theorem dX11_pull_23 : decode cX11_pull 23 = .ok (.ifCond .eq 8, 3) := by decide +kernel
theorem dX11_pull_26 : decode cX11_pull 26 = .ok (.bipush 6, 2) := by decide +kernel
theorem dX11_pull_28 : decode cX11_pull 28 = .ok (.goto 4, 3) := by decide +kernel
theorem dX11_pull_31 : decode cX11_pull 31 = .ok (.iconst 5, 1) := by decide +kernel
theorem dX11_pull_32 : decode cX11_pull 32 = .ok (.istore 4, 2) := by decide +kernel
theorem dX11_pull_34 : decode cX11_pull 34 = .ok (.aload_n 3, 1) := by decide +kernel
theorem dX11_pull_35 : decode cX11_pull 35 = .ok (.iload_n 2, 1) := by decide +kernel
theorem dX11_pull_36 : decode cX11_pull 36 = .ok (.invokevirtual 118, 3) := by decide +kernel
theorem dX11_pull_39 : decode cX11_pull 39 = .ok (.ifCond .eq 14, 3) := by decide +kernel
theorem dX11_pull_42 : decode cX11_pull 42 = .ok (.aload_n 3, 1) := by decide +kernel
theorem dX11_pull_43 : decode cX11_pull 43 = .ok (.iload_n 2, 1) := by decide +kernel
theorem dX11_pull_44 : decode cX11_pull 44 = .ok (.iload 4, 2) := by decide +kernel
theorem dX11_pull_46 : decode cX11_pull 46 = .ok (.invokevirtual 122, 3) := by decide +kernel
theorem dX11_pull_49 : decode cX11_pull 49 = .ok (.iconst (-1), 1) := by decide +kernel
theorem dX11_pull_50 : decode cX11_pull 50 = .ok (.if_icmp .eq 5, 3) := by decide +kernel
theorem dX11_pull_53 : decode cX11_pull 53 = .ok (.iconst 0, 1) := by decide +kernel
theorem dX11_pull_54 : decode cX11_pull 54 = .ok (.ireturn, 1) := by decide +kernel
theorem dX11_pull_55 : decode cX11_pull 55 = .ok (.aload_n 3, 1) := by decide +kernel
theorem dX11_pull_56 : decode cX11_pull 56 = .ok (.iload_n 2, 1) := by decide +kernel
theorem dX11_pull_57 : decode cX11_pull 57 = .ok (.iload 4, 2) := by decide +kernel
theorem dX11_pull_59 : decode cX11_pull 59 = .ok (.aload_n 0, 1) := by decide +kernel
theorem dX11_pull_60 : decode cX11_pull 60 = .ok (.getfield 10, 3) := by decide +kernel
theorem dX11_pull_63 : decode cX11_pull 63 = .ok (.getfield 106, 3) := by decide +kernel
theorem dX11_pull_66 : decode cX11_pull 66 = .ok (.invokevirtual 84, 3) := by decide +kernel
theorem dX11_pull_69 : decode cX11_pull 69 = .ok (.aload_n 0, 1) := by decide +kernel
theorem dX11_pull_70 : decode cX11_pull 70 = .ok (.invokevirtual 95, 3) := by decide +kernel
theorem dX11_pull_73 : decode cX11_pull 73 = .ok (.iconst 1, 1) := by decide +kernel
theorem dX11_pull_74 : decode cX11_pull 74 = .ok (.ireturn, 1) := by decide +kernel
theorem dX11_stuff_0 : decode cX11_stuff 0 = .ok (.aload_n 0, 1) := by decide +kernel
theorem dX11_stuff_1 : decode cX11_stuff 1 = .ok (.getfield 10, 3) := by decide +kernel
theorem dX11_stuff_4 : decode cX11_stuff 4 = .ok (.getfield 126, 3) := by decide +kernel
theorem dX11_stuff_7 : decode cX11_stuff 7 = .ok (.iload_n 1, 1) := by decide +kernel
theorem dX11_stuff_8 : decode cX11_stuff 8 = .ok (.invokevirtual 118, 3) := by decide +kernel
theorem dX11_stuff_11 : decode cX11_stuff 11 = .ok (.ifCond .eq 17, 3) := by decide +kernel
theorem dX11_stuff_14 : decode cX11_stuff 14 = .ok (.iload_n 2, 1) := by decide +kernel
theorem dX11_stuff_15 : decode cX11_stuff 15 = .ok (.invokestatic 129, 3) := by decide +kernel
theorem dX11_stuff_18 : decode cX11_stuff 18 = .ok (.ifCond .eq 10, 3) := by decide +kernel
theorem dX11_stuff_21 : decode cX11_stuff 21 = .ok (.iload_n 3, 1) := by decide +kernel
theorem dX11_stuff_22 : decode cX11_stuff 22 = .ok (.invokestatic 129, 3) := by decide +kernel
theorem dX11_stuff_25 : decode cX11_stuff 25 = .ok (.ifCond .ne 5, 3) := by decide +kernel
theorem dX11_stuff_28 : decode cX11_stuff 28 = .ok (.iconst 0, 1) := by decide +kernel
theorem dX11_stuff_29 : decode cX11_stuff 29 = .ok (.ireturn, 1) := by decide +kernel
theorem dX11_stuff_30 : decode cX11_stuff 30 = .ok (.aload_n 0, 1) := by decide +kernel
theorem dX11_stuff_31 : decode cX11_stuff 31 = .ok (.getfield 10, 3) := by decide +kernel
theorem dX11_stuff_34 : decode cX11_stuff 34 = .ok (.getfield 126, 3) := by decide +kernel
theorem dX11_stuff_37 : decode cX11_stuff 37 = .ok (.iload_n 1, 1) := by decide +kernel
theorem dX11_stuff_38 : decode cX11_stuff 38 = .ok (.iconst 0, 1) := by decide +kernel
theorem dX11_stuff_39 : decode cX11_stuff 39 = .ok (.iload_n 2, 1) := by decide +kernel
theorem dX11_stuff_40 : decode cX11_stuff 40 = .ok (.invokevirtual 84, 3) := by decide +kernel
theorem dX11_stuff_43 : decode cX11_stuff 43 = .ok (.aload_n 0, 1) := by decide +kernel
theorem dX11_stuff_44 : decode cX11_stuff 44 = .ok (.getfield 10, 3) := by decide +kernel
theorem dX11_stuff_47 : decode cX11_stuff 47 = .ok (.getfield 126, 3) := by decide +kernel
theorem dX11_stuff_50 : decode cX11_stuff 50 = .ok (.iload_n 1, 1) := by decide +kernel
theorem dX11_stuff_51 : decode cX11_stuff 51 = .ok (.iconst 1, 1) := by decide +kernel
theorem dX11_stuff_52 : decode cX11_stuff 52 = .ok (.iload_n 3, 1) := by decide +kernel
theorem dX11_stuff_53 : decode cX11_stuff 53 = .ok (.invokevirtual 84, 3) := by decide +kernel
theorem dX11_stuff_56 : decode cX11_stuff 56 = .ok (.aload_n 0, 1) := by decide +kernel
theorem dX11_stuff_57 : decode cX11_stuff 57 = .ok (.invokevirtual 95, 3) := by decide +kernel
theorem dX11_stuff_60 : decode cX11_stuff 60 = .ok (.iconst 1, 1) := by decide +kernel
theorem dX11_stuff_61 : decode cX11_stuff 61 = .ok (.ireturn, 1) := by decide +kernel
theorem dX11_isPercent_0 : decode cX11_isPercent 0 = .ok (.iload_n 0, 1) := by decide +kernel
theorem dX11_isPercent_1 : decode cX11_isPercent 1 = .ok (.ifCond .lt 13, 3) := by decide +kernel
theorem dX11_isPercent_4 : decode cX11_isPercent 4 = .ok (.iload_n 0, 1) := by decide +kernel
theorem dX11_isPercent_5 : decode cX11_isPercent 5 = .ok (.bipush 100, 2) := by decide +kernel
theorem dX11_isPercent_7 : decode cX11_isPercent 7 = .ok (.if_icmp .gt 7, 3) := by decide +kernel
theorem dX11_isPercent_10 : decode cX11_isPercent 10 = .ok (.iconst 1, 1) := by decide +kernel
theorem dX11_isPercent_11 : decode cX11_isPercent 11 = .ok (.goto 4, 3) := by decide +kernel
theorem dX11_isPercent_14 : decode cX11_isPercent 14 = .ok (.iconst 0, 1) := by decide +kernel
theorem dX11_isPercent_15 : decode cX11_isPercent 15 = .ok (.ireturn, 1) := by decide +kernel
theorem dX11_set_0 : decode cX11_set 0 = .ok (.iload_n 1, 1) := by decide +kernel
theorem dX11_set_1 : decode cX11_set 1 = .ok (.ifCond .lt 19, 3) := by decide +kernel
theorem dX11_set_4 : decode cX11_set 4 = .ok (.iload_n 1, 1) := by decide +kernel
theorem dX11_set_5 : decode cX11_set 5 = .ok (.getstatic 132, 3) := by decide +kernel
theorem dX11_set_8 : decode cX11_set 8 = .ok (.arraylength, 1) := by decide +kernel
theorem dX11_set_9 : decode cX11_set 9 = .ok (.if_icmp .ge 11, 3) := by decide +kernel
theorem dX11_set_12 : decode cX11_set 12 = .ok (.iload_n 1, 1) := by decide +kernel
theorem dX11_set_13 : decode cX11_set 13 = .ok (.getstatic 136, 3) := by decide +kernel
theorem dX11_set_16 : decode cX11_set 16 = .ok (.arraylength, 1) := by decide +kernel
theorem dX11_set_17 : decode cX11_set 17 = .ok (.if_icmp .lt 5, 3) := by decide +kernel
theorem dX11_set_20 : decode cX11_set 20 = .ok (.iconst 0, 1) := by decide +kernel
theorem dX11_set_21 : decode cX11_set 21 = .ok (.ireturn, 1) := by decide +kernel
theorem dX11_set_22 : decode cX11_set 22 = .ok (.iload_n 2, 1) := by decide +kernel
theorem dX11_set_23 : decode cX11_set 23 = .ok (.getstatic 132, 3) := by decide +kernel
theorem dX11_set_26 : decode cX11_set 26 = .ok (.iload_n 1, 1) := by decide +kernel
theorem dX11_set_27 : decode cX11_set 27 = .ok (.iaload, 1) := by decide +kernel
theorem dX11_set_28 : decode cX11_set 28 = .ok (.if_icmp .lt 12, 3) := by decide +kernel
theorem dX11_set_31 : decode cX11_set 31 = .ok (.iload_n 2, 1) := by decide +kernel
theorem dX11_set_32 : decode cX11_set 32 = .ok (.getstatic 136, 3) := by decide +kernel
theorem dX11_set_35 : decode cX11_set 35 = .ok (.iload_n 1, 1) := by decide +kernel
theorem dX11_set_36 : decode cX11_set 36 = .ok (.iaload, 1) := by decide +kernel
theorem dX11_set_37 : decode cX11_set 37 = .ok (.if_icmp .le 5, 3) := by decide +kernel
theorem dX11_set_40 : decode cX11_set 40 = .ok (.iconst 0, 1) := by decide +kernel
theorem dX11_set_41 : decode cX11_set 41 = .ok (.ireturn, 1) := by decide +kernel
theorem dX11_set_42 : decode cX11_set 42 = .ok (.aload_n 0, 1) := by decide +kernel
theorem dX11_set_43 : decode cX11_set 43 = .ok (.getfield 10, 3) := by decide +kernel
theorem dX11_set_46 : decode cX11_set 46 = .ok (.getfield 139, 3) := by decide +kernel
theorem dX11_set_49 : decode cX11_set 49 = .ok (.iload_n 1, 1) := by decide +kernel
theorem dX11_set_50 : decode cX11_set 50 = .ok (.iconst 0, 1) := by decide +kernel
theorem dX11_set_51 : decode cX11_set 51 = .ok (.iload_n 2, 1) := by decide +kernel
theorem dX11_set_52 : decode cX11_set 52 = .ok (.invokevirtual 84, 3) := by decide +kernel
theorem dX11_set_55 : decode cX11_set 55 = .ok (.iload_n 1, 1) := by decide +kernel
theorem dX11_set_56 : decode cX11_set 56 = .ok (.ifCond .eq 8, 3) := by decide +kernel
theorem dX11_set_59 : decode cX11_set 59 = .ok (.iload_n 1, 1) := by decide +kernel
theorem dX11_set_60 : decode cX11_set 60 = .ok (.iconst 1, 1) := by decide +kernel
theorem dX11_set_61 : decode cX11_set 61 = .ok (.if_icmp .ne 7, 3) := by decide +kernel
theorem dX11_set_64 : decode cX11_set 64 = .ok (.aload_n 0, 1) := by decide +kernel
theorem dX11_set_65 : decode cX11_set 65 = .ok (.invokevirtual 95, 3) := by decide +kernel
theorem dX11_set_68 : decode cX11_set 68 = .ok (.iconst 1, 1) := by decide +kernel
theorem dX11_set_69 : decode cX11_set 69 = .ok (.ireturn, 1) := by decide +kernel
theorem dX11_refresh_0 : decode cX11_refresh 0 = .ok (.aload_n 0, 1) := by decide +kernel
theorem dX11_refresh_1 : decode cX11_refresh 1 = .ok (.getfield 23, 3) := by decide +kernel
theorem dX11_refresh_4 : decode cX11_refresh 4 = .ok (.aload_n 0, 1) := by decide +kernel
theorem dX11_refresh_5 : decode cX11_refresh 5 = .ok (.getfield 10, 3) := by decide +kernel
theorem dX11_refresh_8 : decode cX11_refresh 8 = .ok (.invokevirtual 142, 3) := by decide +kernel
theorem dX11_refresh_11 : decode cX11_refresh 11 = .ok (.aload_n 0, 1) := by decide +kernel
theorem dX11_refresh_12 : decode cX11_refresh 12 = .ok (.getfield 32, 3) := by decide +kernel
theorem dX11_refresh_15 : decode cX11_refresh 15 = .ok (.invokevirtual 146, 3) := by decide +kernel
theorem dX11_refresh_18 : decode cX11_refresh 18 = .ok (.return_, 1) := by decide +kernel
theorem dX11_wall_0 : decode cX11_wall 0 = .ok (.aload_n 0, 1) := by decide +kernel
theorem dX11_wall_1 : decode cX11_wall 1 = .ok (.getfield 10, 3) := by decide +kernel
theorem dX11_wall_4 : decode cX11_wall 4 = .ok (.getfield 112, 3) := by decide +kernel
theorem dX11_wall_7 : decode cX11_wall 7 = .ok (.iload_n 1, 1) := by decide +kernel
theorem dX11_wall_8 : decode cX11_wall 8 = .ok (.invokevirtual 118, 3) := by decide +kernel
theorem dX11_wall_11 : decode cX11_wall 11 = .ok (.ifCond .eq 13, 3) := by decide +kernel
theorem dX11_wall_14 : decode cX11_wall 14 = .ok (.iload_n 2, 1) := by decide +kernel
theorem dX11_wall_15 : decode cX11_wall 15 = .ok (.ifCond .lt 9, 3) := by decide +kernel
theorem dX11_wall_18 : decode cX11_wall 18 = .ok (.iload_n 2, 1) := by decide +kernel
theorem dX11_wall_19 : decode cX11_wall 19 = .ok (.bipush 6, 2) := by decide +kernel
theorem dX11_wall_21 : decode cX11_wall 21 = .ok (.if_icmp .le 6, 3) := by decide +kernel
theorem dX11_wall_24 : decode cX11_wall 24 = .ok (.bipush (-2), 2) := by decide +kernel
theorem dX11_wall_26 : decode cX11_wall 26 = .ok (.ireturn, 1) := by decide +kernel
theorem dX11_wall_27 : decode cX11_wall 27 = .ok (.aload_n 0, 1) := by decide +kernel
theorem dX11_wall_28 : decode cX11_wall 28 = .ok (.getfield 10, 3) := by decide +kernel
theorem dX11_wall_31 : decode cX11_wall 31 = .ok (.getfield 112, 3) := by decide +kernel
theorem dX11_wall_34 : decode cX11_wall 34 = .ok (.iload_n 1, 1) := by decide +kernel
theorem dX11_wall_35 : decode cX11_wall 35 = .ok (.iload_n 2, 1) := by decide +kernel
theorem dX11_wall_36 : decode cX11_wall 36 = .ok (.invokevirtual 122, 3) := by decide +kernel
theorem dX11_wall_39 : decode cX11_wall 39 = .ok (.ireturn, 1) := by decide +kernel
theorem dX11_sender_0 : decode cX11_sender 0 = .ok (.aload_n 0, 1) := by decide +kernel
theorem dX11_sender_1 : decode cX11_sender 1 = .ok (.getfield 10, 3) := by decide +kernel
theorem dX11_sender_4 : decode cX11_sender 4 = .ok (.getfield 115, 3) := by decide +kernel
theorem dX11_sender_7 : decode cX11_sender 7 = .ok (.iload_n 1, 1) := by decide +kernel
theorem dX11_sender_8 : decode cX11_sender 8 = .ok (.invokevirtual 118, 3) := by decide +kernel
theorem dX11_sender_11 : decode cX11_sender 11 = .ok (.ifCond .eq 12, 3) := by decide +kernel
theorem dX11_sender_14 : decode cX11_sender 14 = .ok (.iload_n 2, 1) := by decide +kernel
theorem dX11_sender_15 : decode cX11_sender 15 = .ok (.ifCond .lt 8, 3) := by decide +kernel
theorem dX11_sender_18 : decode cX11_sender 18 = .ok (.iload_n 2, 1) := by decide +kernel
theorem dX11_sender_19 : decode cX11_sender 19 = .ok (.iconst 5, 1) := by decide +kernel
theorem dX11_sender_20 : decode cX11_sender 20 = .ok (.if_icmp .le 6, 3) := by decide +kernel
theorem dX11_sender_23 : decode cX11_sender 23 = .ok (.bipush (-2), 2) := by decide +kernel
theorem dX11_sender_25 : decode cX11_sender 25 = .ok (.ireturn, 1) := by decide +kernel
theorem dX11_sender_26 : decode cX11_sender 26 = .ok (.aload_n 0, 1) := by decide +kernel
theorem dX11_sender_27 : decode cX11_sender 27 = .ok (.getfield 10, 3) := by decide +kernel
theorem dX11_sender_30 : decode cX11_sender 30 = .ok (.getfield 115, 3) := by decide +kernel
theorem dX11_sender_33 : decode cX11_sender 33 = .ok (.iload_n 1, 1) := by decide +kernel
theorem dX11_sender_34 : decode cX11_sender 34 = .ok (.iload_n 2, 1) := by decide +kernel
theorem dX11_sender_35 : decode cX11_sender 35 = .ok (.invokevirtual 122, 3) := by decide +kernel
theorem dX11_sender_38 : decode cX11_sender 38 = .ok (.ireturn, 1) := by decide +kernel
theorem dX11_isPoint_0 : decode cX11_isPoint 0 = .ok (.iload_n 0, 1) := by decide +kernel
theorem dX11_isPoint_1 : decode cX11_isPoint 1 = .ok (.ifCond .lt 23, 3) := by decide +kernel
theorem dX11_isPoint_4 : decode cX11_isPoint 4 = .ok (.iload_n 0, 1) := by decide +kernel
theorem dX11_isPoint_5 : decode cX11_isPoint 5 = .ok (.bipush 21, 2) := by decide +kernel
theorem dX11_isPoint_7 : decode cX11_isPoint 7 = .ok (.if_icmp .ge 17, 3) := by decide +kernel
theorem dX11_isPoint_10 : decode cX11_isPoint 10 = .ok (.iload_n 1, 1) := by decide +kernel
theorem dX11_isPoint_11 : decode cX11_isPoint 11 = .ok (.ifCond .lt 13, 3) := by decide +kernel
theorem dX11_isPoint_14 : decode cX11_isPoint 14 = .ok (.iload_n 1, 1) := by decide +kernel
theorem dX11_isPoint_15 : decode cX11_isPoint 15 = .ok (.bipush 21, 2) := by decide +kernel
theorem dX11_isPoint_17 : decode cX11_isPoint 17 = .ok (.if_icmp .ge 7, 3) := by decide +kernel
theorem dX11_isPoint_20 : decode cX11_isPoint 20 = .ok (.iconst 1, 1) := by decide +kernel
theorem dX11_isPoint_21 : decode cX11_isPoint 21 = .ok (.goto 4, 3) := by decide +kernel
theorem dX11_isPoint_24 : decode cX11_isPoint 24 = .ok (.iconst 0, 1) := by decide +kernel
theorem dX11_isPoint_25 : decode cX11_isPoint 25 = .ok (.ireturn, 1) := by decide +kernel
theorem dX11_sees_0 : decode cX11_sees 0 = .ok (.aload_n 0, 1) := by decide +kernel
theorem dX11_sees_1 : decode cX11_sees 1 = .ok (.getfield 32, 3) := by decide +kernel
theorem dX11_sees_4 : decode cX11_sees 4 = .ok (.iload_n 1, 1) := by decide +kernel
theorem dX11_sees_5 : decode cX11_sees 5 = .ok (.iload_n 2, 1) := by decide +kernel
theorem dX11_sees_6 : decode cX11_sees 6 = .ok (.iload_n 3, 1) := by decide +kernel
theorem dX11_sees_7 : decode cX11_sees 7 = .ok (.invokevirtual 149, 3) := by decide +kernel
theorem dX11_sees_10 : decode cX11_sees 10 = .ok (.ifCond .eq 17, 3) := by decide +kernel
theorem dX11_sees_13 : decode cX11_sees 13 = .ok (.aload_n 0, 1) := by decide +kernel
theorem dX11_sees_14 : decode cX11_sees 14 = .ok (.getfield 23, 3) := by decide +kernel
theorem dX11_sees_17 : decode cX11_sees 17 = .ok (.invokevirtual 153, 3) := by decide +kernel
theorem dX11_sees_20 : decode cX11_sees 20 = .ok (.ifCond .eq 7, 3) := by decide +kernel
theorem dX11_sees_23 : decode cX11_sees 23 = .ok (.iconst 1, 1) := by decide +kernel
theorem dX11_sees_24 : decode cX11_sees 24 = .ok (.goto 4, 3) := by decide +kernel
theorem dX11_sees_27 : decode cX11_sees 27 = .ok (.iconst 0, 1) := by decide +kernel
theorem dX11_sees_28 : decode cX11_sees 28 = .ok (.ireturn, 1) := by decide +kernel
theorem dX11_ways_0 : decode cX11_ways 0 = .ok (.aload_n 0, 1) := by decide +kernel
theorem dX11_ways_1 : decode cX11_ways 1 = .ok (.getfield 32, 3) := by decide +kernel
theorem dX11_ways_4 : decode cX11_ways 4 = .ok (.iload_n 1, 1) := by decide +kernel
theorem dX11_ways_5 : decode cX11_ways 5 = .ok (.iload_n 2, 1) := by decide +kernel
theorem dX11_ways_6 : decode cX11_ways 6 = .ok (.iload_n 3, 1) := by decide +kernel
theorem dX11_ways_7 : decode cX11_ways 7 = .ok (.invokevirtual 149, 3) := by decide +kernel
theorem dX11_ways_10 : decode cX11_ways 10 = .ok (.ifCond .eq 13, 3) := by decide +kernel
theorem dX11_ways_13 : decode cX11_ways 13 = .ok (.aload_n 0, 1) := by decide +kernel
theorem dX11_ways_14 : decode cX11_ways 14 = .ok (.getfield 23, 3) := by decide +kernel
theorem dX11_ways_17 : decode cX11_ways 17 = .ok (.invokevirtual 156, 3) := by decide +kernel
theorem dX11_ways_20 : decode cX11_ways 20 = .ok (.goto 4, 3) := by decide +kernel
theorem dX11_ways_23 : decode cX11_ways 23 = .ok (.iconst (-1), 1) := by decide +kernel
theorem dX11_ways_24 : decode cX11_ways 24 = .ok (.ireturn, 1) := by decide +kernel
theorem dX11_way_0 : decode cX11_way 0 = .ok (.aload_n 0, 1) := by decide +kernel
theorem dX11_way_1 : decode cX11_way 1 = .ok (.getfield 32, 3) := by decide +kernel
theorem dX11_way_4 : decode cX11_way 4 = .ok (.iload_n 1, 1) := by decide +kernel
theorem dX11_way_5 : decode cX11_way 5 = .ok (.iload_n 2, 1) := by decide +kernel
theorem dX11_way_6 : decode cX11_way 6 = .ok (.iload_n 3, 1) := by decide +kernel
theorem dX11_way_7 : decode cX11_way 7 = .ok (.invokevirtual 149, 3) := by decide +kernel
theorem dX11_way_10 : decode cX11_way 10 = .ok (.ifCond .eq 20, 3) := by decide +kernel
theorem dX11_way_13 : decode cX11_way 13 = .ok (.iload 4, 2) := by decide +kernel
theorem dX11_way_15 : decode cX11_way 15 = .ok (.ifCond .lt 15, 3) := by decide +kernel
theorem dX11_way_18 : decode cX11_way 18 = .ok (.iload 4, 2) := by decide +kernel
theorem dX11_way_20 : decode cX11_way 20 = .ok (.aload_n 0, 1) := by decide +kernel
theorem dX11_way_21 : decode cX11_way 21 = .ok (.getfield 23, 3) := by decide +kernel
theorem dX11_way_24 : decode cX11_way 24 = .ok (.invokevirtual 156, 3) := by decide +kernel
theorem dX11_way_27 : decode cX11_way 27 = .ok (.if_icmp .lt 6, 3) := by decide +kernel
theorem dX11_way_30 : decode cX11_way 30 = .ok (.bipush (-2), 2) := by decide +kernel
theorem dX11_way_32 : decode cX11_way 32 = .ok (.ireturn, 1) := by decide +kernel
theorem dX11_way_33 : decode cX11_way 33 = .ok (.iload 5, 2) := by decide +kernel
theorem dX11_way_35 : decode cX11_way 35 = .ok (.bipush 6, 2) := by decide +kernel
theorem dX11_way_37 : decode cX11_way 37 = .ok (.if_icmp .ne 13, 3) := by decide +kernel
theorem dX11_way_40 : decode cX11_way 40 = .ok (.aload_n 0, 1) := by decide +kernel
theorem dX11_way_41 : decode cX11_way 41 = .ok (.getfield 23, 3) := by decide +kernel
theorem dX11_way_44 : decode cX11_way 44 = .ok (.iload 4, 2) := by decide +kernel
theorem dX11_way_46 : decode cX11_way 46 = .ok (.invokevirtual 157, 3) := by decide +kernel
theorem dX11_way_49 : decode cX11_way 49 = .ok (.ireturn, 1) := by decide +kernel
theorem dX11_way_50 : decode cX11_way 50 = .ok (.iload 5, 2) := by decide +kernel
theorem dX11_way_52 : decode cX11_way 52 = .ok (.ifCond .lt 23, 3) := by decide +kernel
theorem dX11_way_55 : decode cX11_way 55 = .ok (.iload 5, 2) := by decide +kernel
theorem dX11_way_57 : decode cX11_way 57 = .ok (.iconst 5, 1) := by decide +kernel
theorem dX11_way_58 : decode cX11_way 58 = .ok (.if_icmp .gt 17, 3) := by decide +kernel
theorem dX11_way_61 : decode cX11_way 61 = .ok (.aload_n 0, 1) := by decide +kernel
theorem dX11_way_62 : decode cX11_way 62 = .ok (.getfield 23, 3) := by decide +kernel
theorem dX11_way_65 : decode cX11_way 65 = .ok (.iload 4, 2) := by decide +kernel
theorem dX11_way_67 : decode cX11_way 67 = .ok (.iload 5, 2) := by decide +kernel
theorem dX11_way_69 : decode cX11_way 69 = .ok (.invokevirtual 161, 3) := by decide +kernel
theorem dX11_way_72 : decode cX11_way 72 = .ok (.goto 5, 3) := by decide +kernel
theorem dX11_way_75 : decode cX11_way 75 = .ok (.bipush (-2), 2) := by decide +kernel
theorem dX11_way_77 : decode cX11_way 77 = .ok (.ireturn, 1) := by decide +kernel
theorem dX11_compare_0 : decode cX11_compare 0 = .ok (.aload_n 0, 1) := by decide +kernel
theorem dX11_compare_1 : decode cX11_compare 1 = .ok (.getfield 32, 3) := by decide +kernel
theorem dX11_compare_4 : decode cX11_compare 4 = .ok (.iload_n 1, 1) := by decide +kernel
theorem dX11_compare_5 : decode cX11_compare 5 = .ok (.iload 5, 2) := by decide +kernel
theorem dX11_compare_7 : decode cX11_compare 7 = .ok (.iload 6, 2) := by decide +kernel
theorem dX11_compare_9 : decode cX11_compare 9 = .ok (.invokevirtual 149, 3) := by decide +kernel
theorem dX11_compare_12 : decode cX11_compare 12 = .ok (.ifCond .eq 18, 3) := by decide +kernel
theorem dX11_compare_15 : decode cX11_compare 15 = .ok (.iload_n 2, 1) := by decide +kernel
theorem dX11_compare_16 : decode cX11_compare 16 = .ok (.ifCond .lt 14, 3) := by decide +kernel
theorem dX11_compare_19 : decode cX11_compare 19 = .ok (.iload_n 2, 1) := by decide +kernel
theorem dX11_compare_20 : decode cX11_compare 20 = .ok (.aload_n 0, 1) := by decide +kernel
theorem dX11_compare_21 : decode cX11_compare 21 = .ok (.getfield 23, 3) := by decide +kernel
theorem dX11_compare_24 : decode cX11_compare 24 = .ok (.invokevirtual 156, 3) := by decide +kernel
theorem dX11_compare_27 : decode cX11_compare 27 = .ok (.if_icmp .lt 6, 3) := by decide +kernel
theorem dX11_compare_30 : decode cX11_compare 30 = .ok (.bipush (-2), 2) := by decide +kernel
theorem dX11_compare_32 : decode cX11_compare 32 = .ok (.ireturn, 1) := by decide +kernel
theorem dX11_compare_33 : decode cX11_compare 33 = .ok (.aload_n 0, 1) := by decide +kernel
theorem dX11_compare_34 : decode cX11_compare 34 = .ok (.getfield 23, 3) := by decide +kernel
theorem dX11_compare_37 : decode cX11_compare 37 = .ok (.iload_n 2, 1) := by decide +kernel
theorem dX11_compare_38 : decode cX11_compare 38 = .ok (.iconst 3, 1) := by decide +kernel
theorem dX11_compare_39 : decode cX11_compare 39 = .ok (.invokevirtual 161, 3) := by decide +kernel
theorem dX11_compare_42 : decode cX11_compare 42 = .ok (.istore 7, 2) := by decide +kernel
theorem dX11_compare_44 : decode cX11_compare 44 = .ok (.aload_n 0, 1) := by decide +kernel
theorem dX11_compare_45 : decode cX11_compare 45 = .ok (.getfield 23, 3) := by decide +kernel
theorem dX11_compare_48 : decode cX11_compare 48 = .ok (.iload_n 2, 1) := by decide +kernel
theorem dX11_compare_49 : decode cX11_compare 49 = .ok (.iconst 4, 1) := by decide +kernel
theorem dX11_compare_50 : decode cX11_compare 50 = .ok (.invokevirtual 161, 3) := by decide +kernel
theorem dX11_compare_53 : decode cX11_compare 53 = .ok (.istore 8, 2) := by decide +kernel
theorem dX11_compare_55 : decode cX11_compare 55 = .ok (.aload_n 0, 1) := by decide +kernel
theorem dX11_compare_56 : decode cX11_compare 56 = .ok (.getfield 32, 3) := by decide +kernel
theorem dX11_compare_59 : decode cX11_compare 59 = .ok (.iload_n 3, 1) := by decide +kernel
theorem dX11_compare_60 : decode cX11_compare 60 = .ok (.iload 5, 2) := by decide +kernel
theorem dX11_compare_62 : decode cX11_compare 62 = .ok (.iload 6, 2) := by decide +kernel
theorem dX11_compare_64 : decode cX11_compare 64 = .ok (.invokevirtual 149, 3) := by decide +kernel
theorem dX11_compare_67 : decode cX11_compare 67 = .ok (.ifCond .eq 20, 3) := by decide +kernel
theorem dX11_compare_70 : decode cX11_compare 70 = .ok (.iload 4, 2) := by decide +kernel
theorem dX11_compare_72 : decode cX11_compare 72 = .ok (.ifCond .lt 15, 3) := by decide +kernel
theorem dX11_compare_75 : decode cX11_compare 75 = .ok (.iload 4, 2) := by decide +kernel
theorem dX11_compare_77 : decode cX11_compare 77 = .ok (.aload_n 0, 1) := by decide +kernel
theorem dX11_compare_78 : decode cX11_compare 78 = .ok (.getfield 23, 3) := by decide +kernel
theorem dX11_compare_81 : decode cX11_compare 81 = .ok (.invokevirtual 156, 3) := by decide +kernel
theorem dX11_compare_84 : decode cX11_compare 84 = .ok (.if_icmp .lt 6, 3) := by decide +kernel
theorem dX11_compare_87 : decode cX11_compare 87 = .ok (.bipush (-2), 2) := by decide +kernel
theorem dX11_compare_89 : decode cX11_compare 89 = .ok (.ireturn, 1) := by decide +kernel
theorem dX11_compare_90 : decode cX11_compare 90 = .ok (.iload 7, 2) := by decide +kernel
theorem dX11_compare_92 : decode cX11_compare 92 = .ok (.i2l, 1) := by decide +kernel
theorem dX11_compare_93 : decode cX11_compare 93 = .ok (.iload 8, 2) := by decide +kernel
theorem dX11_compare_95 : decode cX11_compare 95 = .ok (.i2l, 1) := by decide +kernel
theorem dX11_compare_96 : decode cX11_compare 96 = .ok (.aload_n 0, 1) := by decide +kernel
theorem dX11_compare_97 : decode cX11_compare 97 = .ok (.getfield 23, 3) := by decide +kernel
theorem dX11_compare_100 : decode cX11_compare 100 = .ok (.iload 4, 2) := by decide +kernel
theorem dX11_compare_102 : decode cX11_compare 102 = .ok (.iconst 3, 1) := by decide +kernel
theorem dX11_compare_103 : decode cX11_compare 103 = .ok (.invokevirtual 161, 3) := by decide +kernel
theorem dX11_compare_106 : decode cX11_compare 106 = .ok (.i2l, 1) := by decide +kernel
theorem dX11_compare_107 : decode cX11_compare 107 = .ok (.aload_n 0, 1) := by decide +kernel
theorem dX11_compare_108 : decode cX11_compare 108 = .ok (.getfield 23, 3) := by decide +kernel
theorem dX11_compare_111 : decode cX11_compare 111 = .ok (.iload 4, 2) := by decide +kernel
theorem dX11_compare_113 : decode cX11_compare 113 = .ok (.iconst 4, 1) := by decide +kernel
theorem dX11_compare_114 : decode cX11_compare 114 = .ok (.invokevirtual 161, 3) := by decide +kernel
theorem dX11_compare_117 : decode cX11_compare 117 = .ok (.i2l, 1) := by decide +kernel
theorem dX11_compare_118 : decode cX11_compare 118 = .ok (.invokestatic 164, 3) := by decide +kernel
theorem dX11_compare_121 : decode cX11_compare 121 = .ok (.ireturn, 1) := by decide +kernel
theorem dX11_signal_0 : decode cX11_signal 0 = .ok (.aload_n 0, 1) := by decide +kernel
theorem dX11_signal_1 : decode cX11_signal 1 = .ok (.getfield 32, 3) := by decide +kernel
theorem dX11_signal_4 : decode cX11_signal 4 = .ok (.iload_n 1, 1) := by decide +kernel
theorem dX11_signal_5 : decode cX11_signal 5 = .ok (.iload_n 2, 1) := by decide +kernel
theorem dX11_signal_6 : decode cX11_signal 6 = .ok (.iload_n 3, 1) := by decide +kernel
theorem dX11_signal_7 : decode cX11_signal 7 = .ok (.invokevirtual 168, 3) := by decide +kernel
theorem dX11_signal_10 : decode cX11_signal 10 = .ok (.ireturn, 1) := by decide +kernel
theorem dX11_heard_0 : decode cX11_heard 0 = .ok (.iload_n 1, 1) := by decide +kernel
theorem dX11_heard_1 : decode cX11_heard 1 = .ok (.iload_n 2, 1) := by decide +kernel
theorem dX11_heard_2 : decode cX11_heard 2 = .ok (.invokestatic 172, 3) := by decide +kernel
theorem dX11_heard_5 : decode cX11_heard 5 = .ok (.ifCond .ne 5, 3) := by decide +kernel
theorem dX11_heard_8 : decode cX11_heard 8 = .ok (.iconst (-1), 1) := by decide +kernel
theorem dX11_heard_9 : decode cX11_heard 9 = .ok (.ireturn, 1) := by decide +kernel
theorem dX11_heard_10 : decode cX11_heard 10 = .ok (.aload_n 0, 1) := by decide +kernel
theorem dX11_heard_11 : decode cX11_heard 11 = .ok (.getfield 32, 3) := by decide +kernel
theorem dX11_heard_14 : decode cX11_heard 14 = .ok (.iload_n 1, 1) := by decide +kernel
theorem dX11_heard_15 : decode cX11_heard 15 = .ok (.iload_n 2, 1) := by decide +kernel
theorem dX11_heard_16 : decode cX11_heard 16 = .ok (.invokevirtual 176, 3) := by decide +kernel
theorem dX11_heard_19 : decode cX11_heard 19 = .ok (.aload_n 0, 1) := by decide +kernel
theorem dX11_heard_20 : decode cX11_heard 20 = .ok (.getfield 32, 3) := by decide +kernel
theorem dX11_heard_23 : decode cX11_heard 23 = .ok (.invokevirtual 180, 3) := by decide +kernel
theorem dX11_heard_26 : decode cX11_heard 26 = .ok (.ireturn, 1) := by decide +kernel
theorem dX11_best_0 : decode cX11_best 0 = .ok (.iload_n 1, 1) := by decide +kernel
theorem dX11_best_1 : decode cX11_best 1 = .ok (.iload_n 2, 1) := by decide +kernel
theorem dX11_best_2 : decode cX11_best 2 = .ok (.invokestatic 172, 3) := by decide +kernel
theorem dX11_best_5 : decode cX11_best 5 = .ok (.ifCond .ne 5, 3) := by decide +kernel
theorem dX11_best_8 : decode cX11_best 8 = .ok (.iconst (-1), 1) := by decide +kernel
theorem dX11_best_9 : decode cX11_best 9 = .ok (.ireturn, 1) := by decide +kernel
theorem dX11_best_10 : decode cX11_best 10 = .ok (.aload_n 0, 1) := by decide +kernel
theorem dX11_best_11 : decode cX11_best 11 = .ok (.getfield 32, 3) := by decide +kernel
theorem dX11_best_14 : decode cX11_best 14 = .ok (.iload_n 1, 1) := by decide +kernel
theorem dX11_best_15 : decode cX11_best 15 = .ok (.iload_n 2, 1) := by decide +kernel
theorem dX11_best_16 : decode cX11_best 16 = .ok (.invokevirtual 176, 3) := by decide +kernel
theorem dX11_best_19 : decode cX11_best 19 = .ok (.aload_n 0, 1) := by decide +kernel
theorem dX11_best_20 : decode cX11_best 20 = .ok (.getfield 32, 3) := by decide +kernel
theorem dX11_best_23 : decode cX11_best 23 = .ok (.invokevirtual 183, 3) := by decide +kernel
theorem dX11_best_26 : decode cX11_best 26 = .ok (.ireturn, 1) := by decide +kernel
theorem dX11_step_0 : decode cX11_step 0 = .ok (.aload_n 0, 1) := by decide +kernel
theorem dX11_step_1 : decode cX11_step 1 = .ok (.getfield 10, 3) := by decide +kernel
theorem dX11_step_4 : decode cX11_step 4 = .ok (.getfield 186, 3) := by decide +kernel
theorem dX11_step_7 : decode cX11_step 7 = .ok (.invokevirtual 70, 3) := by decide +kernel
theorem dX11_step_10 : decode cX11_step 10 = .ok (.istore_n 3, 1) := by decide +kernel
theorem dX11_step_11 : decode cX11_step 11 = .ok (.iload_n 1, 1) := by decide +kernel
theorem dX11_step_12 : decode cX11_step 12 = .ok (.iload_n 2, 1) := by decide +kernel
theorem dX11_step_13 : decode cX11_step 13 = .ok (.invokestatic 172, 3) := by decide +kernel
theorem dX11_step_16 : decode cX11_step 16 = .ok (.ifCond .eq 16, 3) := by decide +kernel
theorem dX11_step_19 : decode cX11_step 19 = .ok (.aload_n 0, 1) := by decide +kernel
theorem dX11_step_20 : decode cX11_step 20 = .ok (.getfield 10, 3) := by decide +kernel
theorem dX11_step_23 : decode cX11_step 23 = .ok (.getfield 186, 3) := by decide +kernel
theorem dX11_step_26 : decode cX11_step 26 = .ok (.invokevirtual 80, 3) := by decide +kernel
theorem dX11_step_29 : decode cX11_step 29 = .ok (.ifCond .ne 5, 3) := by decide +kernel
theorem dX11_step_32 : decode cX11_step 32 = .ok (.iconst (-1), 1) := by decide +kernel
theorem dX11_step_33 : decode cX11_step 33 = .ok (.ireturn, 1) := by decide +kernel
theorem dX11_step_34 : decode cX11_step 34 = .ok (.aload_n 0, 1) := by decide +kernel
theorem dX11_step_35 : decode cX11_step 35 = .ok (.getfield 10, 3) := by decide +kernel
theorem dX11_step_38 : decode cX11_step 38 = .ok (.getfield 186, 3) := by decide +kernel
theorem dX11_step_41 : decode cX11_step 41 = .ok (.iload_n 3, 1) := by decide +kernel
theorem dX11_step_42 : decode cX11_step 42 = .ok (.iconst 0, 1) := by decide +kernel
theorem dX11_step_43 : decode cX11_step 43 = .ok (.iload_n 1, 1) := by decide +kernel
theorem dX11_step_44 : decode cX11_step 44 = .ok (.invokevirtual 84, 3) := by decide +kernel
theorem dX11_step_47 : decode cX11_step 47 = .ok (.aload_n 0, 1) := by decide +kernel
theorem dX11_step_48 : decode cX11_step 48 = .ok (.getfield 10, 3) := by decide +kernel
theorem dX11_step_51 : decode cX11_step 51 = .ok (.getfield 186, 3) := by decide +kernel
theorem dX11_step_54 : decode cX11_step 54 = .ok (.iload_n 3, 1) := by decide +kernel
theorem dX11_step_55 : decode cX11_step 55 = .ok (.iconst 1, 1) := by decide +kernel
theorem dX11_step_56 : decode cX11_step 56 = .ok (.iload_n 2, 1) := by decide +kernel
theorem dX11_step_57 : decode cX11_step 57 = .ok (.invokevirtual 84, 3) := by decide +kernel
theorem dX11_step_60 : decode cX11_step 60 = .ok (.aload_n 0, 1) := by decide +kernel
theorem dX11_step_61 : decode cX11_step 61 = .ok (.getfield 10, 3) := by decide +kernel
theorem dX11_step_64 : decode cX11_step 64 = .ok (.getfield 186, 3) := by decide +kernel
theorem dX11_step_67 : decode cX11_step 67 = .ok (.invokevirtual 70, 3) := by decide +kernel
theorem dX11_step_70 : decode cX11_step 70 = .ok (.ireturn, 1) := by decide +kernel
theorem dX11_unwalk_0 : decode cX11_unwalk 0 = .ok (.aload_n 0, 1) := by decide +kernel
theorem dX11_unwalk_1 : decode cX11_unwalk 1 = .ok (.getfield 10, 3) := by decide +kernel
theorem dX11_unwalk_4 : decode cX11_unwalk 4 = .ok (.getfield 186, 3) := by decide +kernel
theorem dX11_unwalk_7 : decode cX11_unwalk 7 = .ok (.iconst 0, 1) := by decide +kernel
theorem dX11_unwalk_8 : decode cX11_unwalk 8 = .ok (.invokevirtual 88, 3) := by decide +kernel
theorem dX11_unwalk_11 : decode cX11_unwalk 11 = .ok (.return_, 1) := by decide +kernel
theorem dX11_served_0 : decode cX11_served 0 = .ok (.aload_n 0, 1) := by decide +kernel
theorem dX11_served_1 : decode cX11_served 1 = .ok (.getfield 10, 3) := by decide +kernel
theorem dX11_served_4 : decode cX11_served 4 = .ok (.getfield 186, 3) := by decide +kernel
theorem dX11_served_7 : decode cX11_served 7 = .ok (.iload_n 1, 1) := by decide +kernel
theorem dX11_served_8 : decode cX11_served 8 = .ok (.invokevirtual 118, 3) := by decide +kernel
theorem dX11_served_11 : decode cX11_served 11 = .ok (.ifCond .ne 5, 3) := by decide +kernel
theorem dX11_served_14 : decode cX11_served 14 = .ok (.iconst (-1), 1) := by decide +kernel
theorem dX11_served_15 : decode cX11_served 15 = .ok (.ireturn, 1) := by decide +kernel
theorem dX11_served_16 : decode cX11_served 16 = .ok (.aload_n 0, 1) := by decide +kernel
theorem dX11_served_17 : decode cX11_served 17 = .ok (.getfield 32, 3) := by decide +kernel
theorem dX11_served_20 : decode cX11_served 20 = .ok (.invokevirtual 189, 3) := by decide +kernel
theorem dX11_served_23 : decode cX11_served 23 = .ok (.aload_n 0, 1) := by decide +kernel
theorem dX11_served_24 : decode cX11_served 24 = .ok (.getfield 32, 3) := by decide +kernel
theorem dX11_served_27 : decode cX11_served 27 = .ok (.iload_n 1, 1) := by decide +kernel
theorem dX11_served_28 : decode cX11_served 28 = .ok (.invokevirtual 192, 3) := by decide +kernel
theorem dX11_served_31 : decode cX11_served 31 = .ok (.ireturn, 1) := by decide +kernel
theorem dX11_walk_0 : decode cX11_walk 0 = .ok (.iload_n 1, 1) := by decide +kernel
theorem dX11_walk_1 : decode cX11_walk 1 = .ok (.tableswitch 68 0 2 #[27, 38, 53], 27) := by decide +kernel
theorem dX11_walk_28 : decode cX11_walk 28 = .ok (.aload_n 0, 1) := by decide +kernel
theorem dX11_walk_29 : decode cX11_walk 29 = .ok (.getfield 10, 3) := by decide +kernel
theorem dX11_walk_32 : decode cX11_walk 32 = .ok (.getfield 186, 3) := by decide +kernel
theorem dX11_walk_35 : decode cX11_walk 35 = .ok (.invokevirtual 70, 3) := by decide +kernel
theorem dX11_walk_38 : decode cX11_walk 38 = .ok (.ireturn, 1) := by decide +kernel
theorem dX11_walk_39 : decode cX11_walk 39 = .ok (.aload_n 0, 1) := by decide +kernel
theorem dX11_walk_40 : decode cX11_walk 40 = .ok (.getfield 32, 3) := by decide +kernel
theorem dX11_walk_43 : decode cX11_walk 43 = .ok (.invokevirtual 189, 3) := by decide +kernel
theorem dX11_walk_46 : decode cX11_walk 46 = .ok (.aload_n 0, 1) := by decide +kernel
theorem dX11_walk_47 : decode cX11_walk 47 = .ok (.getfield 32, 3) := by decide +kernel
theorem dX11_walk_50 : decode cX11_walk 50 = .ok (.invokevirtual 195, 3) := by decide +kernel
theorem dX11_walk_53 : decode cX11_walk 53 = .ok (.ireturn, 1) := by decide +kernel
theorem dX11_walk_54 : decode cX11_walk 54 = .ok (.aload_n 0, 1) := by decide +kernel
theorem dX11_walk_55 : decode cX11_walk 55 = .ok (.getfield 32, 3) := by decide +kernel
theorem dX11_walk_58 : decode cX11_walk 58 = .ok (.invokevirtual 189, 3) := by decide +kernel
theorem dX11_walk_61 : decode cX11_walk 61 = .ok (.aload_n 0, 1) := by decide +kernel
theorem dX11_walk_62 : decode cX11_walk 62 = .ok (.getfield 32, 3) := by decide +kernel
theorem dX11_walk_65 : decode cX11_walk 65 = .ok (.invokevirtual 198, 3) := by decide +kernel
theorem dX11_walk_68 : decode cX11_walk 68 = .ok (.ireturn, 1) := by decide +kernel
theorem dX11_walk_69 : decode cX11_walk 69 = .ok (.iconst (-1), 1) := by decide +kernel
theorem dX11_walk_70 : decode cX11_walk 70 = .ok (.ireturn, 1) := by decide +kernel
theorem dX11_cover_0 : decode cX11_cover 0 = .ok (.aload_n 0, 1) := by decide +kernel
theorem dX11_cover_1 : decode cX11_cover 1 = .ok (.getfield 41, 3) := by decide +kernel
theorem dX11_cover_4 : decode cX11_cover 4 = .ok (.invokevirtual 201, 3) := by decide +kernel
theorem dX11_cover_7 : decode cX11_cover 7 = .ok (.iload_n 1, 1) := by decide +kernel
theorem dX11_cover_8 : decode cX11_cover 8 = .ok (.tableswitch 52 0 2 #[28, 36, 44], 28) := by decide +kernel
theorem dX11_cover_36 : decode cX11_cover 36 = .ok (.aload_n 0, 1) := by decide +kernel
theorem dX11_cover_37 : decode cX11_cover 37 = .ok (.getfield 41, 3) := by decide +kernel
theorem dX11_cover_40 : decode cX11_cover 40 = .ok (.getfield 204, 3) := by decide +kernel
theorem dX11_cover_43 : decode cX11_cover 43 = .ok (.ireturn, 1) := by decide +kernel
theorem dX11_cover_44 : decode cX11_cover 44 = .ok (.aload_n 0, 1) := by decide +kernel
theorem dX11_cover_45 : decode cX11_cover 45 = .ok (.getfield 41, 3) := by decide +kernel
theorem dX11_cover_48 : decode cX11_cover 48 = .ok (.getfield 207, 3) := by decide +kernel
theorem dX11_cover_51 : decode cX11_cover 51 = .ok (.ireturn, 1) := by decide +kernel
theorem dX11_cover_52 : decode cX11_cover 52 = .ok (.aload_n 0, 1) := by decide +kernel
theorem dX11_cover_53 : decode cX11_cover 53 = .ok (.getfield 41, 3) := by decide +kernel
theorem dX11_cover_56 : decode cX11_cover 56 = .ok (.getfield 210, 3) := by decide +kernel
theorem dX11_cover_59 : decode cX11_cover 59 = .ok (.ireturn, 1) := by decide +kernel
theorem dX11_cover_60 : decode cX11_cover 60 = .ok (.iconst (-1), 1) := by decide +kernel
theorem dX11_cover_61 : decode cX11_cover 61 = .ok (.ireturn, 1) := by decide +kernel
theorem dX11_serves_0 : decode cX11_serves 0 = .ok (.aload_n 0, 1) := by decide +kernel
theorem dX11_serves_1 : decode cX11_serves 1 = .ok (.getfield 32, 3) := by decide +kernel
theorem dX11_serves_4 : decode cX11_serves 4 = .ok (.iload_n 1, 1) := by decide +kernel
theorem dX11_serves_5 : decode cX11_serves 5 = .ok (.iload_n 2, 1) := by decide +kernel
theorem dX11_serves_6 : decode cX11_serves 6 = .ok (.invokevirtual 213, 3) := by decide +kernel
theorem dX11_serves_9 : decode cX11_serves 9 = .ok (.ireturn, 1) := by decide +kernel
theorem dX11_clash_0 : decode cX11_clash 0 = .ok (.iload_n 1, 1) := by decide +kernel
theorem dX11_clash_1 : decode cX11_clash 1 = .ok (.iload_n 2, 1) := by decide +kernel
theorem dX11_clash_2 : decode cX11_clash 2 = .ok (.if_icmp .eq 25, 3) := by decide +kernel
theorem dX11_clash_5 : decode cX11_clash 5 = .ok (.aload_n 0, 1) := by decide +kernel
theorem dX11_clash_6 : decode cX11_clash 6 = .ok (.getfield 10, 3) := by decide +kernel
theorem dX11_clash_9 : decode cX11_clash 9 = .ok (.iload_n 1, 1) := by decide +kernel
theorem dX11_clash_10 : decode cX11_clash 10 = .ok (.invokevirtual 216, 3) := by decide +kernel
theorem dX11_clash_13 : decode cX11_clash 13 = .ok (.ifCond .eq 14, 3) := by decide +kernel
theorem dX11_clash_16 : decode cX11_clash 16 = .ok (.aload_n 0, 1) := by decide +kernel
theorem dX11_clash_17 : decode cX11_clash 17 = .ok (.getfield 10, 3) := by decide +kernel
theorem dX11_clash_20 : decode cX11_clash 20 = .ok (.iload_n 2, 1) := by decide +kernel
theorem dX11_clash_21 : decode cX11_clash 21 = .ok (.invokevirtual 216, 3) := by decide +kernel
theorem dX11_clash_24 : decode cX11_clash 24 = .ok (.ifCond .ne 5, 3) := by decide +kernel
theorem dX11_clash_27 : decode cX11_clash 27 = .ok (.iconst 0, 1) := by decide +kernel
theorem dX11_clash_28 : decode cX11_clash 28 = .ok (.ireturn, 1) := by decide +kernel
theorem dX11_clash_29 : decode cX11_clash 29 = .ok (.aload_n 0, 1) := by decide +kernel
theorem dX11_clash_30 : decode cX11_clash 30 = .ok (.getfield 41, 3) := by decide +kernel
theorem dX11_clash_33 : decode cX11_clash 33 = .ok (.invokevirtual 219, 3) := by decide +kernel
theorem dX11_clash_36 : decode cX11_clash 36 = .ok (.aload_n 0, 1) := by decide +kernel
theorem dX11_clash_37 : decode cX11_clash 37 = .ok (.getfield 41, 3) := by decide +kernel
theorem dX11_clash_40 : decode cX11_clash 40 = .ok (.iload_n 1, 1) := by decide +kernel
theorem dX11_clash_41 : decode cX11_clash 41 = .ok (.iload_n 2, 1) := by decide +kernel
theorem dX11_clash_42 : decode cX11_clash 42 = .ok (.invokevirtual 222, 3) := by decide +kernel
theorem dX11_clash_45 : decode cX11_clash 45 = .ok (.ireturn, 1) := by decide +kernel
theorem dX11_colour_0 : decode cX11_colour 0 = .ok (.aload_n 0, 1) := by decide +kernel
theorem dX11_colour_1 : decode cX11_colour 1 = .ok (.getfield 10, 3) := by decide +kernel
theorem dX11_colour_4 : decode cX11_colour 4 = .ok (.iload_n 1, 1) := by decide +kernel
theorem dX11_colour_5 : decode cX11_colour 5 = .ok (.invokevirtual 216, 3) := by decide +kernel
theorem dX11_colour_8 : decode cX11_colour 8 = .ok (.ifCond .ne 5, 3) := by decide +kernel
theorem dX11_colour_11 : decode cX11_colour 11 = .ok (.iconst (-1), 1) := by decide +kernel
theorem dX11_colour_12 : decode cX11_colour 12 = .ok (.ireturn, 1) := by decide +kernel
theorem dX11_colour_13 : decode cX11_colour 13 = .ok (.aload_n 0, 1) := by decide +kernel
theorem dX11_colour_14 : decode cX11_colour 14 = .ok (.getfield 41, 3) := by decide +kernel
theorem dX11_colour_17 : decode cX11_colour 17 = .ok (.invokevirtual 225, 3) := by decide +kernel
theorem dX11_colour_20 : decode cX11_colour 20 = .ok (.aload_n 0, 1) := by decide +kernel
theorem dX11_colour_21 : decode cX11_colour 21 = .ok (.getfield 41, 3) := by decide +kernel
theorem dX11_colour_24 : decode cX11_colour 24 = .ok (.iload_n 1, 1) := by decide +kernel
theorem dX11_colour_25 : decode cX11_colour 25 = .ok (.invokevirtual 228, 3) := by decide +kernel
theorem dX11_colour_28 : decode cX11_colour 28 = .ok (.ireturn, 1) := by decide +kernel
theorem dX11_span_0 : decode cX11_span 0 = .ok (.aload_n 0, 1) := by decide +kernel
theorem dX11_span_1 : decode cX11_span 1 = .ok (.getfield 10, 3) := by decide +kernel
theorem dX11_span_4 : decode cX11_span 4 = .ok (.getfield 115, 3) := by decide +kernel
theorem dX11_span_7 : decode cX11_span 7 = .ok (.iload_n 1, 1) := by decide +kernel
theorem dX11_span_8 : decode cX11_span 8 = .ok (.invokevirtual 118, 3) := by decide +kernel
theorem dX11_span_11 : decode cX11_span 11 = .ok (.ifCond .ne 5, 3) := by decide +kernel
theorem dX11_span_14 : decode cX11_span 14 = .ok (.iconst 0, 1) := by decide +kernel
theorem dX11_span_15 : decode cX11_span 15 = .ok (.ireturn, 1) := by decide +kernel
theorem dX11_span_16 : decode cX11_span 16 = .ok (.iload_n 2, 1) := by decide +kernel
theorem dX11_span_17 : decode cX11_span 17 = .ok (.iconst (-1), 1) := by decide +kernel
theorem dX11_span_18 : decode cX11_span 18 = .ok (.if_icmp .eq 20, 3) := by decide +kernel
theorem dX11_span_21 : decode cX11_span 21 = .ok (.iload_n 2, 1) := by decide +kernel
theorem dX11_span_22 : decode cX11_span 22 = .ok (.ifCond .lt 14, 3) := by decide +kernel
theorem dX11_span_25 : decode cX11_span 25 = .ok (.iload_n 2, 1) := by decide +kernel
theorem dX11_span_26 : decode cX11_span 26 = .ok (.iload_n 3, 1) := by decide +kernel
theorem dX11_span_27 : decode cX11_span 27 = .ok (.if_icmp .gt 9, 3) := by decide +kernel
theorem dX11_span_30 : decode cX11_span 30 = .ok (.iload_n 3, 1) := by decide +kernel
theorem dX11_span_31 : decode cX11_span 31 = .ok (.ldc 231, 2) := by decide +kernel
theorem dX11_span_33 : decode cX11_span 33 = .ok (.if_icmp .le 5, 3) := by decide +kernel
theorem dX11_span_36 : decode cX11_span 36 = .ok (.iconst 0, 1) := by decide +kernel
theorem dX11_span_37 : decode cX11_span 37 = .ok (.ireturn, 1) := by decide +kernel
theorem dX11_span_38 : decode cX11_span 38 = .ok (.aload_n 0, 1) := by decide +kernel
theorem dX11_span_39 : decode cX11_span 39 = .ok (.getfield 10, 3) := by decide +kernel
theorem dX11_span_42 : decode cX11_span 42 = .ok (.getfield 115, 3) := by decide +kernel
theorem dX11_span_45 : decode cX11_span 45 = .ok (.iload_n 1, 1) := by decide +kernel
theorem dX11_span_46 : decode cX11_span 46 = .ok (.bipush 6, 2) := by decide +kernel
theorem dX11_span_48 : decode cX11_span 48 = .ok (.iload_n 2, 1) := by decide +kernel
theorem dX11_span_49 : decode cX11_span 49 = .ok (.invokevirtual 84, 3) := by decide +kernel
theorem dX11_span_52 : decode cX11_span 52 = .ok (.aload_n 0, 1) := by decide +kernel
theorem dX11_span_53 : decode cX11_span 53 = .ok (.getfield 10, 3) := by decide +kernel
theorem dX11_span_56 : decode cX11_span 56 = .ok (.getfield 115, 3) := by decide +kernel
theorem dX11_span_59 : decode cX11_span 59 = .ok (.iload_n 1, 1) := by decide +kernel
theorem dX11_span_60 : decode cX11_span 60 = .ok (.bipush 7, 2) := by decide +kernel
theorem dX11_span_62 : decode cX11_span 62 = .ok (.iload_n 3, 1) := by decide +kernel
theorem dX11_span_63 : decode cX11_span 63 = .ok (.invokevirtual 84, 3) := by decide +kernel
theorem dX11_span_66 : decode cX11_span 66 = .ok (.iconst 1, 1) := by decide +kernel
theorem dX11_span_67 : decode cX11_span 67 = .ok (.ireturn, 1) := by decide +kernel
theorem dX11_places_0 : decode cX11_places 0 = .ok (.iconst 0, 1) := by decide +kernel
theorem dX11_places_1 : decode cX11_places 1 = .ok (.istore_n 1, 1) := by decide +kernel
theorem dX11_places_2 : decode cX11_places 2 = .ok (.iconst 0, 1) := by decide +kernel
theorem dX11_places_3 : decode cX11_places 3 = .ok (.istore_n 2, 1) := by decide +kernel
theorem dX11_places_4 : decode cX11_places 4 = .ok (.iload_n 2, 1) := by decide +kernel
theorem dX11_places_5 : decode cX11_places 5 = .ok (.sipush 441, 3) := by decide +kernel
theorem dX11_places_8 : decode cX11_places 8 = .ok (.if_icmp .ge 30, 3) := by decide +kernel
theorem dX11_places_11 : decode cX11_places 11 = .ok (.aload_n 0, 1) := by decide +kernel
theorem dX11_places_12 : decode cX11_places 12 = .ok (.getfield 32, 3) := by decide +kernel
theorem dX11_places_15 : decode cX11_places 15 = .ok (.iload_n 2, 1) := by decide +kernel
theorem dX11_places_16 : decode cX11_places 16 = .ok (.bipush 21, 2) := by decide +kernel
theorem dX11_places_18 : decode cX11_places 18 = .ok (.irem, 1) := by decide +kernel
theorem dX11_places_19 : decode cX11_places 19 = .ok (.iload_n 2, 1) := by decide +kernel
theorem dX11_places_20 : decode cX11_places 20 = .ok (.bipush 21, 2) := by decide +kernel
theorem dX11_places_22 : decode cX11_places 22 = .ok (.idiv, 1) := by decide +kernel
theorem dX11_places_23 : decode cX11_places 23 = .ok (.invokevirtual 232, 3) := by decide +kernel
theorem dX11_places_26 : decode cX11_places 26 = .ok (.ifCond .eq 6, 3) := by decide +kernel
theorem dX11_places_29 : decode cX11_places 29 = .ok (.iinc 1 1, 3) := by decide +kernel
theorem dX11_places_32 : decode cX11_places 32 = .ok (.iinc 2 1, 3) := by decide +kernel
theorem dX11_places_35 : decode cX11_places 35 = .ok (.goto (-31), 3) := by decide +kernel
theorem dX11_places_38 : decode cX11_places 38 = .ok (.iload_n 1, 1) := by decide +kernel
theorem dX11_places_39 : decode cX11_places 39 = .ok (.ireturn, 1) := by decide +kernel
theorem dX11_place_0 : decode cX11_place 0 = .ok (.iconst 0, 1) := by decide +kernel
theorem dX11_place_1 : decode cX11_place 1 = .ok (.istore_n 2, 1) := by decide +kernel
theorem dX11_place_2 : decode cX11_place 2 = .ok (.iconst 0, 1) := by decide +kernel
theorem dX11_place_3 : decode cX11_place 3 = .ok (.istore_n 3, 1) := by decide +kernel
theorem dX11_place_4 : decode cX11_place 4 = .ok (.iload_n 3, 1) := by decide +kernel
theorem dX11_place_5 : decode cX11_place 5 = .ok (.sipush 441, 3) := by decide +kernel
theorem dX11_place_8 : decode cX11_place 8 = .ok (.if_icmp .ge 52, 3) := by decide +kernel
theorem dX11_place_11 : decode cX11_place 11 = .ok (.iload_n 1, 1) := by decide +kernel
theorem dX11_place_12 : decode cX11_place 12 = .ok (.ifCond .lt 48, 3) := by decide +kernel
theorem dX11_place_15 : decode cX11_place 15 = .ok (.aload_n 0, 1) := by decide +kernel
theorem dX11_place_16 : decode cX11_place 16 = .ok (.getfield 32, 3) := by decide +kernel
theorem dX11_place_19 : decode cX11_place 19 = .ok (.iload_n 3, 1) := by decide +kernel
theorem dX11_place_20 : decode cX11_place 20 = .ok (.bipush 21, 2) := by decide +kernel
theorem dX11_place_22 : decode cX11_place 22 = .ok (.irem, 1) := by decide +kernel
theorem dX11_place_23 : decode cX11_place 23 = .ok (.iload_n 3, 1) := by decide +kernel
theorem dX11_place_24 : decode cX11_place 24 = .ok (.bipush 21, 2) := by decide +kernel
theorem dX11_place_26 : decode cX11_place 26 = .ok (.idiv, 1) := by decide +kernel
theorem dX11_place_27 : decode cX11_place 27 = .ok (.invokevirtual 232, 3) := by decide +kernel
theorem dX11_place_30 : decode cX11_place 30 = .ok (.ifCond .eq 24, 3) := by decide +kernel
theorem dX11_place_33 : decode cX11_place 33 = .ok (.iload_n 2, 1) := by decide +kernel
theorem dX11_place_34 : decode cX11_place 34 = .ok (.iload_n 1, 1) := by decide +kernel
theorem dX11_place_35 : decode cX11_place 35 = .ok (.if_icmp .ne 16, 3) := by decide +kernel
theorem dX11_place_38 : decode cX11_place 38 = .ok (.iload_n 3, 1) := by decide +kernel
theorem dX11_place_39 : decode cX11_place 39 = .ok (.bipush 21, 2) := by decide +kernel
theorem dX11_place_41 : decode cX11_place 41 = .ok (.idiv, 1) := by decide +kernel
theorem dX11_place_42 : decode cX11_place 42 = .ok (.bipush 100, 2) := by decide +kernel
theorem dX11_place_44 : decode cX11_place 44 = .ok (.imul, 1) := by decide +kernel
theorem dX11_place_45 : decode cX11_place 45 = .ok (.iload_n 3, 1) := by decide +kernel
theorem dX11_place_46 : decode cX11_place 46 = .ok (.bipush 21, 2) := by decide +kernel
theorem dX11_place_48 : decode cX11_place 48 = .ok (.irem, 1) := by decide +kernel
theorem dX11_place_49 : decode cX11_place 49 = .ok (.iadd, 1) := by decide +kernel
theorem dX11_place_50 : decode cX11_place 50 = .ok (.ireturn, 1) := by decide +kernel
theorem dX11_place_51 : decode cX11_place 51 = .ok (.iinc 2 1, 3) := by decide +kernel
theorem dX11_place_54 : decode cX11_place 54 = .ok (.iinc 3 1, 3) := by decide +kernel
theorem dX11_place_57 : decode cX11_place 57 = .ok (.goto (-53), 3) := by decide +kernel
theorem dX11_place_60 : decode cX11_place 60 = .ok (.iconst (-1), 1) := by decide +kernel
theorem dX11_place_61 : decode cX11_place 61 = .ok (.ireturn, 1) := by decide +kernel
theorem dX11_echo_0 : decode cX11_echo 0 = .ok (.aload_n 0, 1) := by decide +kernel
theorem dX11_echo_1 : decode cX11_echo 1 = .ok (.getfield 10, 3) := by decide +kernel
theorem dX11_echo_4 : decode cX11_echo 4 = .ok (.iload_n 1, 1) := by decide +kernel
theorem dX11_echo_5 : decode cX11_echo 5 = .ok (.invokevirtual 216, 3) := by decide +kernel
theorem dX11_echo_8 : decode cX11_echo 8 = .ok (.ifCond .eq 16, 3) := by decide +kernel
theorem dX11_echo_11 : decode cX11_echo 11 = .ok (.iload_n 2, 1) := by decide +kernel
theorem dX11_echo_12 : decode cX11_echo 12 = .ok (.iload_n 3, 1) := by decide +kernel
theorem dX11_echo_13 : decode cX11_echo 13 = .ok (.invokestatic 172, 3) := by decide +kernel
theorem dX11_echo_16 : decode cX11_echo 16 = .ok (.ifCond .eq 8, 3) := by decide +kernel
theorem dX11_echo_19 : decode cX11_echo 19 = .ok (.iload 5, 2) := by decide +kernel
theorem dX11_echo_21 : decode cX11_echo 21 = .ok (.ifCond .ge 5, 3) := by decide +kernel
theorem dX11_echo_24 : decode cX11_echo 24 = .ok (.iconst (-1), 1) := by decide +kernel
theorem dX11_echo_25 : decode cX11_echo 25 = .ok (.ireturn, 1) := by decide +kernel
theorem dX11_echo_26 : decode cX11_echo 26 = .ok (.aload_n 0, 1) := by decide +kernel
theorem dX11_echo_27 : decode cX11_echo 27 = .ok (.getfield 10, 3) := by decide +kernel
theorem dX11_echo_30 : decode cX11_echo 30 = .ok (.getfield 115, 3) := by decide +kernel
theorem dX11_echo_33 : decode cX11_echo 33 = .ok (.iload_n 1, 1) := by decide +kernel
theorem dX11_echo_34 : decode cX11_echo 34 = .ok (.iconst 0, 1) := by decide +kernel
theorem dX11_echo_35 : decode cX11_echo 35 = .ok (.invokevirtual 122, 3) := by decide +kernel
theorem dX11_echo_38 : decode cX11_echo 38 = .ok (.istore 6, 2) := by decide +kernel
theorem dX11_echo_40 : decode cX11_echo 40 = .ok (.aload_n 0, 1) := by decide +kernel
theorem dX11_echo_41 : decode cX11_echo 41 = .ok (.getfield 10, 3) := by decide +kernel
theorem dX11_echo_44 : decode cX11_echo 44 = .ok (.getfield 115, 3) := by decide +kernel
theorem dX11_echo_47 : decode cX11_echo 47 = .ok (.iload_n 1, 1) := by decide +kernel
theorem dX11_echo_48 : decode cX11_echo 48 = .ok (.iconst 1, 1) := by decide +kernel
theorem dX11_echo_49 : decode cX11_echo 49 = .ok (.invokevirtual 122, 3) := by decide +kernel
theorem dX11_echo_52 : decode cX11_echo 52 = .ok (.istore 7, 2) := by decide +kernel
theorem dX11_echo_54 : decode cX11_echo 54 = .ok (.iconst 0, 1) := by decide +kernel
theorem dX11_echo_55 : decode cX11_echo 55 = .ok (.istore 8, 2) := by decide +kernel
theorem dX11_echo_57 : decode cX11_echo 57 = .ok (.iconst 0, 1) := by decide +kernel
theorem dX11_echo_58 : decode cX11_echo 58 = .ok (.istore 9, 2) := by decide +kernel
theorem dX11_echo_60 : decode cX11_echo 60 = .ok (.iload 9, 2) := by decide +kernel
theorem dX11_echo_62 : decode cX11_echo 62 = .ok (.bipush 42, 2) := by decide +kernel
theorem dX11_echo_64 : decode cX11_echo 64 = .ok (.if_icmp .ge 111, 3) := by decide +kernel
theorem dX11_echo_67 : decode cX11_echo 67 = .ok (.iload 9, 2) := by decide +kernel
theorem dX11_echo_69 : decode cX11_echo 69 = .ok (.bipush 21, 2) := by decide +kernel
theorem dX11_echo_71 : decode cX11_echo 71 = .ok (.if_icmp .ge 7, 3) := by decide +kernel
theorem dX11_echo_74 : decode cX11_echo 74 = .ok (.iconst 1, 1) := by decide +kernel
theorem dX11_echo_75 : decode cX11_echo 75 = .ok (.goto 4, 3) := by decide +kernel
theorem dX11_echo_78 : decode cX11_echo 78 = .ok (.iconst 0, 1) := by decide +kernel
theorem dX11_echo_79 : decode cX11_echo 79 = .ok (.istore 10, 2) := by decide +kernel
theorem dX11_echo_81 : decode cX11_echo 81 = .ok (.iload 9, 2) := by decide +kernel
theorem dX11_echo_83 : decode cX11_echo 83 = .ok (.bipush 21, 2) := by decide +kernel
theorem dX11_echo_85 : decode cX11_echo 85 = .ok (.irem, 1) := by decide +kernel
theorem dX11_echo_86 : decode cX11_echo 86 = .ok (.istore 11, 2) := by decide +kernel
theorem dX11_echo_88 : decode cX11_echo 88 = .ok (.iload 10, 2) := by decide +kernel
theorem dX11_echo_90 : decode cX11_echo 90 = .ok (.ifCond .eq 20, 3) := by decide +kernel
theorem dX11_echo_93 : decode cX11_echo 93 = .ok (.iload 11, 2) := by decide +kernel
theorem dX11_echo_95 : decode cX11_echo 95 = .ok (.iload 6, 2) := by decide +kernel
theorem dX11_echo_97 : decode cX11_echo 97 = .ok (.iload_n 2, 1) := by decide +kernel
theorem dX11_echo_98 : decode cX11_echo 98 = .ok (.iload 7, 2) := by decide +kernel
theorem dX11_echo_100 : decode cX11_echo 100 = .ok (.iload_n 3, 1) := by decide +kernel
theorem dX11_echo_101 : decode cX11_echo 101 = .ok (.isub, 1) := by decide +kernel
theorem dX11_echo_102 : decode cX11_echo 102 = .ok (.iload 4, 2) := by decide +kernel
theorem dX11_echo_104 : decode cX11_echo 104 = .ok (.invokestatic 235, 3) := by decide +kernel
theorem dX11_echo_107 : decode cX11_echo 107 = .ok (.goto 17, 3) := by decide +kernel
theorem dX11_echo_110 : decode cX11_echo 110 = .ok (.iload 11, 2) := by decide +kernel
theorem dX11_echo_112 : decode cX11_echo 112 = .ok (.iload 7, 2) := by decide +kernel
theorem dX11_echo_114 : decode cX11_echo 114 = .ok (.iload_n 3, 1) := by decide +kernel
theorem dX11_echo_115 : decode cX11_echo 115 = .ok (.iload 6, 2) := by decide +kernel
theorem dX11_echo_117 : decode cX11_echo 117 = .ok (.iload_n 2, 1) := by decide +kernel
theorem dX11_echo_118 : decode cX11_echo 118 = .ok (.isub, 1) := by decide +kernel
theorem dX11_echo_119 : decode cX11_echo 119 = .ok (.iload 4, 2) := by decide +kernel
theorem dX11_echo_121 : decode cX11_echo 121 = .ok (.invokestatic 235, 3) := by decide +kernel
theorem dX11_echo_124 : decode cX11_echo 124 = .ok (.istore 12, 2) := by decide +kernel
theorem dX11_echo_126 : decode cX11_echo 126 = .ok (.iload 12, 2) := by decide +kernel
theorem dX11_echo_128 : decode cX11_echo 128 = .ok (.ifCond .eq 26, 3) := by decide +kernel
theorem dX11_echo_131 : decode cX11_echo 131 = .ok (.iload 8, 2) := by decide +kernel
theorem dX11_echo_133 : decode cX11_echo 133 = .ok (.iload 5, 2) := by decide +kernel
theorem dX11_echo_135 : decode cX11_echo 135 = .ok (.if_icmp .ne 19, 3) := by decide +kernel
theorem dX11_echo_138 : decode cX11_echo 138 = .ok (.iload 10, 2) := by decide +kernel
theorem dX11_echo_140 : decode cX11_echo 140 = .ok (.ifCond .eq 8, 3) := by decide +kernel
theorem dX11_echo_143 : decode cX11_echo 143 = .ok (.iload 11, 2) := by decide +kernel
theorem dX11_echo_145 : decode cX11_echo 145 = .ok (.goto 8, 3) := by decide +kernel
theorem dX11_echo_148 : decode cX11_echo 148 = .ok (.bipush 100, 2) := by decide +kernel
theorem dX11_echo_150 : decode cX11_echo 150 = .ok (.iload 11, 2) := by decide +kernel
theorem dX11_echo_152 : decode cX11_echo 152 = .ok (.iadd, 1) := by decide +kernel
theorem dX11_echo_153 : decode cX11_echo 153 = .ok (.ireturn, 1) := by decide +kernel
theorem dX11_echo_154 : decode cX11_echo 154 = .ok (.iload 8, 2) := by decide +kernel
theorem dX11_echo_156 : decode cX11_echo 156 = .ok (.iload 12, 2) := by decide +kernel
theorem dX11_echo_158 : decode cX11_echo 158 = .ok (.ifCond .eq 7, 3) := by decide +kernel
theorem dX11_echo_161 : decode cX11_echo 161 = .ok (.iconst 1, 1) := by decide +kernel
theorem dX11_echo_162 : decode cX11_echo 162 = .ok (.goto 4, 3) := by decide +kernel
theorem dX11_echo_165 : decode cX11_echo 165 = .ok (.iconst 0, 1) := by decide +kernel
theorem dX11_echo_166 : decode cX11_echo 166 = .ok (.iadd, 1) := by decide +kernel
theorem dX11_echo_167 : decode cX11_echo 167 = .ok (.istore 8, 2) := by decide +kernel
theorem dX11_echo_169 : decode cX11_echo 169 = .ok (.iinc 9 1, 3) := by decide +kernel
theorem dX11_echo_172 : decode cX11_echo 172 = .ok (.goto (-112), 3) := by decide +kernel
theorem dX11_echo_175 : decode cX11_echo 175 = .ok (.iconst (-1), 1) := by decide +kernel
theorem dX11_echo_176 : decode cX11_echo 176 = .ok (.ireturn, 1) := by decide +kernel
theorem dX11_echoesAt_0 : decode cX11_echoesAt 0 = .ok (.iload_n 1, 1) := by decide +kernel
theorem dX11_echoesAt_1 : decode cX11_echoesAt 1 = .ok (.iload_n 0, 1) := by decide +kernel
theorem dX11_echoesAt_2 : decode cX11_echoesAt 2 = .ok (.isub, 1) := by decide +kernel
theorem dX11_echoesAt_3 : decode cX11_echoesAt 3 = .ok (.iload_n 2, 1) := by decide +kernel
theorem dX11_echoesAt_4 : decode cX11_echoesAt 4 = .ok (.iadd, 1) := by decide +kernel
theorem dX11_echoesAt_5 : decode cX11_echoesAt 5 = .ok (.iload_n 0, 1) := by decide +kernel
theorem dX11_echoesAt_6 : decode cX11_echoesAt 6 = .ok (.isub, 1) := by decide +kernel
theorem dX11_echoesAt_7 : decode cX11_echoesAt 7 = .ok (.istore 5, 2) := by decide +kernel
theorem dX11_echoesAt_9 : decode cX11_echoesAt 9 = .ok (.iload_n 1, 1) := by decide +kernel
theorem dX11_echoesAt_10 : decode cX11_echoesAt 10 = .ok (.iload_n 0, 1) := by decide +kernel
theorem dX11_echoesAt_11 : decode cX11_echoesAt 11 = .ok (.isub, 1) := by decide +kernel
theorem dX11_echoesAt_12 : decode cX11_echoesAt 12 = .ok (.iload_n 2, 1) := by decide +kernel
theorem dX11_echoesAt_13 : decode cX11_echoesAt 13 = .ok (.iload_n 0, 1) := by decide +kernel
theorem dX11_echoesAt_14 : decode cX11_echoesAt 14 = .ok (.isub, 1) := by decide +kernel
theorem dX11_echoesAt_15 : decode cX11_echoesAt 15 = .ok (.imul, 1) := by decide +kernel
theorem dX11_echoesAt_16 : decode cX11_echoesAt 16 = .ok (.ifCond .le 21, 3) := by decide +kernel
theorem dX11_echoesAt_19 : decode cX11_echoesAt 19 = .ok (.iload 5, 2) := by decide +kernel
theorem dX11_echoesAt_21 : decode cX11_echoesAt 21 = .ok (.iload 5, 2) := by decide +kernel
theorem dX11_echoesAt_23 : decode cX11_echoesAt 23 = .ok (.imul, 1) := by decide +kernel
theorem dX11_echoesAt_24 : decode cX11_echoesAt 24 = .ok (.iload_n 3, 1) := by decide +kernel
theorem dX11_echoesAt_25 : decode cX11_echoesAt 25 = .ok (.iload_n 3, 1) := by decide +kernel
theorem dX11_echoesAt_26 : decode cX11_echoesAt 26 = .ok (.imul, 1) := by decide +kernel
theorem dX11_echoesAt_27 : decode cX11_echoesAt 27 = .ok (.iadd, 1) := by decide +kernel
theorem dX11_echoesAt_28 : decode cX11_echoesAt 28 = .ok (.iload 4, 2) := by decide +kernel
theorem dX11_echoesAt_30 : decode cX11_echoesAt 30 = .ok (.if_icmp .ne 7, 3) := by decide +kernel
theorem dX11_echoesAt_33 : decode cX11_echoesAt 33 = .ok (.iconst 1, 1) := by decide +kernel
theorem dX11_echoesAt_34 : decode cX11_echoesAt 34 = .ok (.goto 4, 3) := by decide +kernel
theorem dX11_echoesAt_37 : decode cX11_echoesAt 37 = .ok (.iconst 0, 1) := by decide +kernel
theorem dX11_echoesAt_38 : decode cX11_echoesAt 38 = .ok (.ireturn, 1) := by decide +kernel
theorem dX11_why_0 : decode cX11_why 0 = .ok (.aload_n 0, 1) := by decide +kernel
theorem dX11_why_1 : decode cX11_why 1 = .ok (.getfield 10, 3) := by decide +kernel
theorem dX11_why_4 : decode cX11_why 4 = .ok (.iload_n 1, 1) := by decide +kernel
theorem dX11_why_5 : decode cX11_why 5 = .ok (.invokevirtual 216, 3) := by decide +kernel
theorem dX11_why_8 : decode cX11_why 8 = .ok (.ifCond .eq 13, 3) := by decide +kernel
theorem dX11_why_11 : decode cX11_why 11 = .ok (.iload_n 2, 1) := by decide +kernel
theorem dX11_why_12 : decode cX11_why 12 = .ok (.ifCond .lt 9, 3) := by decide +kernel
theorem dX11_why_15 : decode cX11_why 15 = .ok (.iload_n 2, 1) := by decide +kernel
theorem dX11_why_16 : decode cX11_why 16 = .ok (.bipush 24, 2) := by decide +kernel
theorem dX11_why_18 : decode cX11_why 18 = .ok (.if_icmp .lt 5, 3) := by decide +kernel
theorem dX11_why_21 : decode cX11_why 21 = .ok (.iconst (-1), 1) := by decide +kernel
theorem dX11_why_22 : decode cX11_why 22 = .ok (.ireturn, 1) := by decide +kernel
theorem dX11_why_23 : decode cX11_why 23 = .ok (.aload_n 0, 1) := by decide +kernel
theorem dX11_why_24 : decode cX11_why 24 = .ok (.getfield 48, 3) := by decide +kernel
theorem dX11_why_27 : decode cX11_why 27 = .ok (.invokevirtual 239, 3) := by decide +kernel
theorem dX11_why_30 : decode cX11_why 30 = .ok (.aload_n 0, 1) := by decide +kernel
theorem dX11_why_31 : decode cX11_why 31 = .ok (.getfield 48, 3) := by decide +kernel
theorem dX11_why_34 : decode cX11_why 34 = .ok (.iload_n 1, 1) := by decide +kernel
theorem dX11_why_35 : decode cX11_why 35 = .ok (.iload_n 2, 1) := by decide +kernel
theorem dX11_why_36 : decode cX11_why 36 = .ok (.invokevirtual 242, 3) := by decide +kernel
theorem dX11_why_39 : decode cX11_why 39 = .ok (.ireturn, 1) := by decide +kernel
theorem dX11_breach_0 : decode cX11_breach 0 = .ok (.aload_n 0, 1) := by decide +kernel
theorem dX11_breach_1 : decode cX11_breach 1 = .ok (.getfield 48, 3) := by decide +kernel
theorem dX11_breach_4 : decode cX11_breach 4 = .ok (.invokevirtual 245, 3) := by decide +kernel
theorem dX11_breach_7 : decode cX11_breach 7 = .ok (.iload_n 1, 1) := by decide +kernel
theorem dX11_breach_8 : decode cX11_breach 8 = .ok (.lookupswitch 44 #[(0, 28), (1, 36)], 28) := by decide +kernel
theorem dX11_breach_36 : decode cX11_breach 36 = .ok (.aload_n 0, 1) := by decide +kernel
theorem dX11_breach_37 : decode cX11_breach 37 = .ok (.getfield 48, 3) := by decide +kernel
theorem dX11_breach_40 : decode cX11_breach 40 = .ok (.getfield 248, 3) := by decide +kernel
theorem dX11_breach_43 : decode cX11_breach 43 = .ok (.ireturn, 1) := by decide +kernel
theorem dX11_breach_44 : decode cX11_breach 44 = .ok (.aload_n 0, 1) := by decide +kernel
theorem dX11_breach_45 : decode cX11_breach 45 = .ok (.getfield 48, 3) := by decide +kernel
theorem dX11_breach_48 : decode cX11_breach 48 = .ok (.getfield 251, 3) := by decide +kernel
theorem dX11_breach_51 : decode cX11_breach 51 = .ok (.ireturn, 1) := by decide +kernel
theorem dX11_breach_52 : decode cX11_breach 52 = .ok (.iconst (-1), 1) := by decide +kernel
theorem dX11_breach_53 : decode cX11_breach 53 = .ok (.ireturn, 1) := by decide +kernel
theorem dX11_count_0 : decode cX11_count 0 = .ok (.iload_n 1, 1) := by decide +kernel
theorem dX11_count_1 : decode cX11_count 1 = .ok (.tableswitch 157 0 9 #[55, 63, 71, 82, 93, 104, 115, 123, 131, 142], 55) := by decide +kernel
theorem dX11_count_56 : decode cX11_count 56 = .ok (.aload_n 0, 1) := by decide +kernel
theorem dX11_count_57 : decode cX11_count 57 = .ok (.getfield 10, 3) := by decide +kernel
theorem dX11_count_60 : decode cX11_count 60 = .ok (.invokevirtual 254, 3) := by decide +kernel
theorem dX11_count_63 : decode cX11_count 63 = .ok (.ireturn, 1) := by decide +kernel
theorem dX11_count_64 : decode cX11_count 64 = .ok (.aload_n 0, 1) := by decide +kernel
theorem dX11_count_65 : decode cX11_count 65 = .ok (.getfield 10, 3) := by decide +kernel
theorem dX11_count_68 : decode cX11_count 68 = .ok (.invokevirtual 257, 3) := by decide +kernel
theorem dX11_count_71 : decode cX11_count 71 = .ok (.ireturn, 1) := by decide +kernel
theorem dX11_count_72 : decode cX11_count 72 = .ok (.aload_n 0, 1) := by decide +kernel
theorem dX11_count_73 : decode cX11_count 73 = .ok (.getfield 10, 3) := by decide +kernel
theorem dX11_count_76 : decode cX11_count 76 = .ok (.getfield 112, 3) := by decide +kernel
theorem dX11_count_79 : decode cX11_count 79 = .ok (.invokevirtual 70, 3) := by decide +kernel
theorem dX11_count_82 : decode cX11_count 82 = .ok (.ireturn, 1) := by decide +kernel
theorem dX11_count_83 : decode cX11_count 83 = .ok (.aload_n 0, 1) := by decide +kernel
theorem dX11_count_84 : decode cX11_count 84 = .ok (.getfield 10, 3) := by decide +kernel
theorem dX11_count_87 : decode cX11_count 87 = .ok (.getfield 115, 3) := by decide +kernel
theorem dX11_count_90 : decode cX11_count 90 = .ok (.invokevirtual 70, 3) := by decide +kernel
theorem dX11_count_93 : decode cX11_count 93 = .ok (.ireturn, 1) := by decide +kernel
theorem dX11_count_94 : decode cX11_count 94 = .ok (.aload_n 0, 1) := by decide +kernel
theorem dX11_count_95 : decode cX11_count 95 = .ok (.getfield 10, 3) := by decide +kernel
theorem dX11_count_98 : decode cX11_count 98 = .ok (.getfield 260, 3) := by decide +kernel
theorem dX11_count_101 : decode cX11_count 101 = .ok (.invokevirtual 70, 3) := by decide +kernel
theorem dX11_count_104 : decode cX11_count 104 = .ok (.ireturn, 1) := by decide +kernel
theorem dX11_count_105 : decode cX11_count 105 = .ok (.aload_n 0, 1) := by decide +kernel
theorem dX11_count_106 : decode cX11_count 106 = .ok (.getfield 10, 3) := by decide +kernel
theorem dX11_count_109 : decode cX11_count 109 = .ok (.getfield 263, 3) := by decide +kernel
theorem dX11_count_112 : decode cX11_count 112 = .ok (.invokevirtual 70, 3) := by decide +kernel
theorem dX11_count_115 : decode cX11_count 115 = .ok (.ireturn, 1) := by decide +kernel
theorem dX11_count_116 : decode cX11_count 116 = .ok (.aload_n 0, 1) := by decide +kernel
theorem dX11_count_117 : decode cX11_count 117 = .ok (.getfield 10, 3) := by decide +kernel
theorem dX11_count_120 : decode cX11_count 120 = .ok (.getfield 106, 3) := by decide +kernel
theorem dX11_count_123 : decode cX11_count 123 = .ok (.ireturn, 1) := by decide +kernel
theorem dX11_count_124 : decode cX11_count 124 = .ok (.aload_n 0, 1) := by decide +kernel
theorem dX11_count_125 : decode cX11_count 125 = .ok (.getfield 10, 3) := by decide +kernel
theorem dX11_count_128 : decode cX11_count 128 = .ok (.getfield 109, 3) := by decide +kernel
theorem dX11_count_131 : decode cX11_count 131 = .ok (.ireturn, 1) := by decide +kernel
theorem dX11_count_132 : decode cX11_count 132 = .ok (.aload_n 0, 1) := by decide +kernel
theorem dX11_count_133 : decode cX11_count 133 = .ok (.getfield 10, 3) := by decide +kernel
theorem dX11_count_136 : decode cX11_count 136 = .ok (.getfield 266, 3) := by decide +kernel
theorem dX11_count_139 : decode cX11_count 139 = .ok (.invokevirtual 70, 3) := by decide +kernel
theorem dX11_count_142 : decode cX11_count 142 = .ok (.ireturn, 1) := by decide +kernel
theorem dX11_count_143 : decode cX11_count 143 = .ok (.aload_n 0, 1) := by decide +kernel
theorem dX11_count_144 : decode cX11_count 144 = .ok (.getfield 41, 3) := by decide +kernel
theorem dX11_count_147 : decode cX11_count 147 = .ok (.invokevirtual 225, 3) := by decide +kernel
theorem dX11_count_150 : decode cX11_count 150 = .ok (.aload_n 0, 1) := by decide +kernel
theorem dX11_count_151 : decode cX11_count 151 = .ok (.getfield 41, 3) := by decide +kernel
theorem dX11_count_154 : decode cX11_count 154 = .ok (.getfield 269, 3) := by decide +kernel
theorem dX11_count_157 : decode cX11_count 157 = .ok (.ireturn, 1) := by decide +kernel
theorem dX11_count_158 : decode cX11_count 158 = .ok (.bipush (-2), 2) := by decide +kernel
theorem dX11_count_160 : decode cX11_count 160 = .ok (.ireturn, 1) := by decide +kernel
theorem dX11_image_0 : decode cX11_image 0 = .ok (.iload_n 1, 1) := by decide +kernel
theorem dX11_image_1 : decode cX11_image 1 = .ok (.ifCond .lt 12, 3) := by decide +kernel
theorem dX11_image_4 : decode cX11_image 4 = .ok (.iload_n 1, 1) := by decide +kernel
theorem dX11_image_5 : decode cX11_image 5 = .ok (.aload_n 0, 1) := by decide +kernel
theorem dX11_image_6 : decode cX11_image 6 = .ok (.getfield 16, 3) := by decide +kernel
theorem dX11_image_9 : decode cX11_image 9 = .ok (.arraylength, 1) := by decide +kernel
theorem dX11_image_10 : decode cX11_image 10 = .ok (.if_icmp .lt 5, 3) := by decide +kernel
theorem dX11_image_13 : decode cX11_image 13 = .ok (.iconst 0, 1) := by decide +kernel
theorem dX11_image_14 : decode cX11_image 14 = .ok (.ireturn, 1) := by decide +kernel
theorem dX11_image_15 : decode cX11_image 15 = .ok (.aload_n 0, 1) := by decide +kernel
theorem dX11_image_16 : decode cX11_image 16 = .ok (.getfield 16, 3) := by decide +kernel
theorem dX11_image_19 : decode cX11_image 19 = .ok (.iload_n 1, 1) := by decide +kernel
theorem dX11_image_20 : decode cX11_image 20 = .ok (.aaload, 1) := by decide +kernel
theorem dX11_image_21 : decode cX11_image 21 = .ok (.astore_n 2, 1) := by decide +kernel
theorem dX11_image_22 : decode cX11_image 22 = .ok (.aload_n 2, 1) := by decide +kernel
theorem dX11_image_23 : decode cX11_image 23 = .ok (.ifnonnull 18, 3) := by decide +kernel
theorem dX11_image_26 : decode cX11_image 26 = .ok (.new 7, 3) := by decide +kernel
theorem dX11_image_29 : decode cX11_image 29 = .ok (.dup, 1) := by decide +kernel
theorem dX11_image_30 : decode cX11_image 30 = .ok (.invokespecial 9, 3) := by decide +kernel
theorem dX11_image_33 : decode cX11_image 33 = .ok (.astore_n 2, 1) := by decide +kernel
theorem dX11_image_34 : decode cX11_image 34 = .ok (.aload_n 0, 1) := by decide +kernel
theorem dX11_image_35 : decode cX11_image 35 = .ok (.getfield 16, 3) := by decide +kernel
theorem dX11_image_38 : decode cX11_image 38 = .ok (.iload_n 1, 1) := by decide +kernel
theorem dX11_image_39 : decode cX11_image 39 = .ok (.aload_n 2, 1) := by decide +kernel
theorem dX11_image_40 : decode cX11_image 40 = .ok (.aastore, 1) := by decide +kernel
theorem dX11_image_41 : decode cX11_image 41 = .ok (.aload_n 2, 1) := by decide +kernel
theorem dX11_image_42 : decode cX11_image 42 = .ok (.aload_n 0, 1) := by decide +kernel
theorem dX11_image_43 : decode cX11_image 43 = .ok (.getfield 10, 3) := by decide +kernel
theorem dX11_image_46 : decode cX11_image 46 = .ok (.invokevirtual 272, 3) := by decide +kernel
theorem dX11_image_49 : decode cX11_image 49 = .ok (.iconst 1, 1) := by decide +kernel
theorem dX11_image_50 : decode cX11_image 50 = .ok (.ireturn, 1) := by decide +kernel
theorem dX11_again_0 : decode cX11_again 0 = .ok (.iload_n 1, 1) := by decide +kernel
theorem dX11_again_1 : decode cX11_again 1 = .ok (.ifCond .lt 21, 3) := by decide +kernel
theorem dX11_again_4 : decode cX11_again 4 = .ok (.iload_n 1, 1) := by decide +kernel
theorem dX11_again_5 : decode cX11_again 5 = .ok (.aload_n 0, 1) := by decide +kernel
theorem dX11_again_6 : decode cX11_again 6 = .ok (.getfield 16, 3) := by decide +kernel
theorem dX11_again_9 : decode cX11_again 9 = .ok (.arraylength, 1) := by decide +kernel
theorem dX11_again_10 : decode cX11_again 10 = .ok (.if_icmp .ge 12, 3) := by decide +kernel
theorem dX11_again_13 : decode cX11_again 13 = .ok (.aload_n 0, 1) := by decide +kernel
theorem dX11_again_14 : decode cX11_again 14 = .ok (.getfield 16, 3) := by decide +kernel
theorem dX11_again_17 : decode cX11_again 17 = .ok (.iload_n 1, 1) := by decide +kernel
theorem dX11_again_18 : decode cX11_again 18 = .ok (.aaload, 1) := by decide +kernel
theorem dX11_again_19 : decode cX11_again 19 = .ok (.goto 4, 3) := by decide +kernel
theorem dX11_again_22 : decode cX11_again 22 = .ok (.aconst_null, 1) := by decide +kernel
theorem dX11_again_23 : decode cX11_again 23 = .ok (.astore_n 2, 1) := by decide +kernel
theorem dX11_again_24 : decode cX11_again 24 = .ok (.aload_n 2, 1) := by decide +kernel
theorem dX11_again_25 : decode cX11_again 25 = .ok (.ifnonnull 5, 3) := by decide +kernel
theorem dX11_again_28 : decode cX11_again 28 = .ok (.iconst 0, 1) := by decide +kernel
theorem dX11_again_29 : decode cX11_again 29 = .ok (.ireturn, 1) := by decide +kernel
theorem dX11_again_30 : decode cX11_again 30 = .ok (.aload_n 0, 1) := by decide +kernel
theorem dX11_again_31 : decode cX11_again 31 = .ok (.getfield 10, 3) := by decide +kernel
theorem dX11_again_34 : decode cX11_again 34 = .ok (.aload_n 2, 1) := by decide +kernel
theorem dX11_again_35 : decode cX11_again 35 = .ok (.invokevirtual 272, 3) := by decide +kernel
theorem dX11_again_38 : decode cX11_again 38 = .ok (.aload_n 0, 1) := by decide +kernel
theorem dX11_again_39 : decode cX11_again 39 = .ok (.invokevirtual 95, 3) := by decide +kernel
theorem dX11_again_42 : decode cX11_again 42 = .ok (.iconst 1, 1) := by decide +kernel
theorem dX11_again_43 : decode cX11_again 43 = .ok (.ireturn, 1) := by decide +kernel
