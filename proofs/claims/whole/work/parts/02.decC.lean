theorem dX0_isUnder_0 : decode cX0_isUnder 0 = .ok (.iload_n 0, 1) := by decide +kernel
theorem dX0_isUnder_1 : decode cX0_isUnder 1 = .ok (.istore_n 2, 1) := by decide +kernel
theorem dX0_isUnder_2 : decode cX0_isUnder 2 = .ok (.iconst 0, 1) := by decide +kernel
theorem dX0_isUnder_3 : decode cX0_isUnder 3 = .ok (.istore_n 3, 1) := by decide +kernel
theorem dX0_isUnder_4 : decode cX0_isUnder 4 = .ok (.iload_n 3, 1) := by decide +kernel
theorem dX0_isUnder_5 : decode cX0_isUnder 5 = .ok (.bipush 6, 2) := by decide +kernel
theorem dX0_isUnder_7 : decode cX0_isUnder 7 = .ok (.if_icmp .ge 29, 3) := by decide +kernel
theorem dX0_isUnder_10 : decode cX0_isUnder 10 = .ok (.iload_n 2, 1) := by decide +kernel
theorem dX0_isUnder_11 : decode cX0_isUnder 11 = .ok (.invokestatic 9, 3) := by decide +kernel
theorem dX0_isUnder_14 : decode cX0_isUnder 14 = .ok (.ifCond .eq 22, 3) := by decide +kernel
theorem dX0_isUnder_17 : decode cX0_isUnder 17 = .ok (.iload_n 2, 1) := by decide +kernel
theorem dX0_isUnder_18 : decode cX0_isUnder 18 = .ok (.iload_n 1, 1) := by decide +kernel
theorem dX0_isUnder_19 : decode cX0_isUnder 19 = .ok (.if_icmp .ne 5, 3) := by decide +kernel
theorem dX0_isUnder_22 : decode cX0_isUnder 22 = .ok (.iconst 1, 1) := by decide +kernel
theorem dX0_isUnder_23 : decode cX0_isUnder 23 = .ok (.ireturn, 1) := by decide +kernel
theorem dX0_isUnder_24 : decode cX0_isUnder 24 = .ok (.getstatic 13, 3) := by decide +kernel
theorem dX0_isUnder_27 : decode cX0_isUnder 27 = .ok (.iload_n 2, 1) := by decide +kernel
theorem dX0_isUnder_28 : decode cX0_isUnder 28 = .ok (.iaload, 1) := by decide +kernel
theorem dX0_isUnder_29 : decode cX0_isUnder 29 = .ok (.istore_n 2, 1) := by decide +kernel
theorem dX0_isUnder_30 : decode cX0_isUnder 30 = .ok (.iinc 3 1, 3) := by decide +kernel
theorem dX0_isUnder_33 : decode cX0_isUnder 33 = .ok (.goto (-29), 3) := by decide +kernel
theorem dX0_isUnder_36 : decode cX0_isUnder 36 = .ok (.iconst 0, 1) := by decide +kernel
theorem dX0_isUnder_37 : decode cX0_isUnder 37 = .ok (.ireturn, 1) := by decide +kernel
theorem dX0_cellsOf_0 : decode cX0_cellsOf 0 = .ok (.iload_n 1, 1) := by decide +kernel
theorem dX0_cellsOf_1 : decode cX0_cellsOf 1 = .ok (.bipush 6, 2) := by decide +kernel
theorem dX0_cellsOf_3 : decode cX0_cellsOf 3 = .ok (.idiv, 1) := by decide +kernel
theorem dX0_cellsOf_4 : decode cX0_cellsOf 4 = .ok (.istore_n 2, 1) := by decide +kernel
theorem dX0_cellsOf_5 : decode cX0_cellsOf 5 = .ok (.iload_n 1, 1) := by decide +kernel
theorem dX0_cellsOf_6 : decode cX0_cellsOf 6 = .ok (.bipush 6, 2) := by decide +kernel
theorem dX0_cellsOf_8 : decode cX0_cellsOf 8 = .ok (.irem, 1) := by decide +kernel
theorem dX0_cellsOf_9 : decode cX0_cellsOf 9 = .ok (.istore_n 3, 1) := by decide +kernel
theorem dX0_cellsOf_10 : decode cX0_cellsOf 10 = .ok (.iload_n 0, 1) := by decide +kernel
theorem dX0_cellsOf_11 : decode cX0_cellsOf 11 = .ok (.tableswitch 72 2 5 #[35, 29, 41, 55], 29) := by decide +kernel
theorem dX0_cellsOf_40 : decode cX0_cellsOf 40 = .ok (.iload_n 2, 1) := by decide +kernel
theorem dX0_cellsOf_41 : decode cX0_cellsOf 41 = .ok (.iload_n 3, 1) := by decide +kernel
theorem dX0_cellsOf_42 : decode cX0_cellsOf 42 = .ok (.invokestatic 19, 3) := by decide +kernel
theorem dX0_cellsOf_45 : decode cX0_cellsOf 45 = .ok (.lreturn, 1) := by decide +kernel
theorem dX0_cellsOf_46 : decode cX0_cellsOf 46 = .ok (.iload_n 2, 1) := by decide +kernel
theorem dX0_cellsOf_47 : decode cX0_cellsOf 47 = .ok (.iload_n 3, 1) := by decide +kernel
theorem dX0_cellsOf_48 : decode cX0_cellsOf 48 = .ok (.invokestatic 23, 3) := by decide +kernel
theorem dX0_cellsOf_51 : decode cX0_cellsOf 51 = .ok (.lreturn, 1) := by decide +kernel
theorem dX0_cellsOf_52 : decode cX0_cellsOf 52 = .ok (.iload_n 2, 1) := by decide +kernel
theorem dX0_cellsOf_53 : decode cX0_cellsOf 53 = .ok (.iload_n 3, 1) := by decide +kernel
theorem dX0_cellsOf_54 : decode cX0_cellsOf 54 = .ok (.invokestatic 23, 3) := by decide +kernel
theorem dX0_cellsOf_57 : decode cX0_cellsOf 57 = .ok (.iload_n 2, 1) := by decide +kernel
theorem dX0_cellsOf_58 : decode cX0_cellsOf 58 = .ok (.iconst 1, 1) := by decide +kernel
theorem dX0_cellsOf_59 : decode cX0_cellsOf 59 = .ok (.iadd, 1) := by decide +kernel
theorem dX0_cellsOf_60 : decode cX0_cellsOf 60 = .ok (.iconst 5, 1) := by decide +kernel
theorem dX0_cellsOf_61 : decode cX0_cellsOf 61 = .ok (.invokestatic 26, 3) := by decide +kernel
theorem dX0_cellsOf_64 : decode cX0_cellsOf 64 = .ok (.lor, 1) := by decide +kernel
theorem dX0_cellsOf_65 : decode cX0_cellsOf 65 = .ok (.lreturn, 1) := by decide +kernel
theorem dX0_cellsOf_66 : decode cX0_cellsOf 66 = .ok (.iconst 0, 1) := by decide +kernel
theorem dX0_cellsOf_67 : decode cX0_cellsOf 67 = .ok (.iload_n 3, 1) := by decide +kernel
theorem dX0_cellsOf_68 : decode cX0_cellsOf 68 = .ok (.invokestatic 26, 3) := by decide +kernel
theorem dX0_cellsOf_71 : decode cX0_cellsOf 71 = .ok (.iconst 0, 1) := by decide +kernel
theorem dX0_cellsOf_72 : decode cX0_cellsOf 72 = .ok (.iload_n 3, 1) := by decide +kernel
theorem dX0_cellsOf_73 : decode cX0_cellsOf 73 = .ok (.iconst 3, 1) := by decide +kernel
theorem dX0_cellsOf_74 : decode cX0_cellsOf 74 = .ok (.iadd, 1) := by decide +kernel
theorem dX0_cellsOf_75 : decode cX0_cellsOf 75 = .ok (.bipush 6, 2) := by decide +kernel
theorem dX0_cellsOf_77 : decode cX0_cellsOf 77 = .ok (.irem, 1) := by decide +kernel
theorem dX0_cellsOf_78 : decode cX0_cellsOf 78 = .ok (.invokestatic 26, 3) := by decide +kernel
theorem dX0_cellsOf_81 : decode cX0_cellsOf 81 = .ok (.lor, 1) := by decide +kernel
theorem dX0_cellsOf_82 : decode cX0_cellsOf 82 = .ok (.lreturn, 1) := by decide +kernel
theorem dX0_cellsOf_83 : decode cX0_cellsOf 83 = .ok (.iload_n 2, 1) := by decide +kernel
theorem dX0_cellsOf_84 : decode cX0_cellsOf 84 = .ok (.iload_n 3, 1) := by decide +kernel
theorem dX0_cellsOf_85 : decode cX0_cellsOf 85 = .ok (.invokestatic 26, 3) := by decide +kernel
theorem dX0_cellsOf_88 : decode cX0_cellsOf 88 = .ok (.lreturn, 1) := by decide +kernel
theorem dX0_has_0 : decode cX0_has 0 = .ok (.lload_n 0, 1) := by decide +kernel
theorem dX0_has_1 : decode cX0_has 1 = .ok (.iload_n 2, 1) := by decide +kernel
theorem dX0_has_2 : decode cX0_has 2 = .ok (.lushr, 1) := by decide +kernel
theorem dX0_has_3 : decode cX0_has 3 = .ok (.lconst 1, 1) := by decide +kernel
theorem dX0_has_4 : decode cX0_has 4 = .ok (.land, 1) := by decide +kernel
theorem dX0_has_5 : decode cX0_has 5 = .ok (.lconst 0, 1) := by decide +kernel
theorem dX0_has_6 : decode cX0_has 6 = .ok (.lcmp, 1) := by decide +kernel
theorem dX0_has_7 : decode cX0_has 7 = .ok (.ifCond .eq 7, 3) := by decide +kernel
theorem dX0_has_10 : decode cX0_has 10 = .ok (.iconst 1, 1) := by decide +kernel
theorem dX0_has_11 : decode cX0_has 11 = .ok (.goto 4, 3) := by decide +kernel
theorem dX0_has_14 : decode cX0_has 14 = .ok (.iconst 0, 1) := by decide +kernel
theorem dX0_has_15 : decode cX0_has 15 = .ok (.ireturn, 1) := by decide +kernel
theorem dX0_columnsIn_0 : decode cX0_columnsIn 0 = .ok (.lload_n 0, 1) := by decide +kernel
theorem dX0_columnsIn_1 : decode cX0_columnsIn 1 = .ok (.iload_n 2, 1) := by decide +kernel
theorem dX0_columnsIn_2 : decode cX0_columnsIn 2 = .ok (.bipush 6, 2) := by decide +kernel
theorem dX0_columnsIn_4 : decode cX0_columnsIn 4 = .ok (.imul, 1) := by decide +kernel
theorem dX0_columnsIn_5 : decode cX0_columnsIn 5 = .ok (.lushr, 1) := by decide +kernel
theorem dX0_columnsIn_6 : decode cX0_columnsIn 6 = .ok (.ldc2_w 29, 3) := by decide +kernel
theorem dX0_columnsIn_9 : decode cX0_columnsIn 9 = .ok (.land, 1) := by decide +kernel
theorem dX0_columnsIn_10 : decode cX0_columnsIn 10 = .ok (.l2i, 1) := by decide +kernel
theorem dX0_columnsIn_11 : decode cX0_columnsIn 11 = .ok (.ireturn, 1) := by decide +kernel
theorem dX0_cellsTold_0 : decode cX0_cellsTold 0 = .ok (.iload_n 0, 1) := by decide +kernel
theorem dX0_cellsTold_1 : decode cX0_cellsTold 1 = .ok (.iconst 2, 1) := by decide +kernel
theorem dX0_cellsTold_2 : decode cX0_cellsTold 2 = .ok (.if_icmp .eq 8, 3) := by decide +kernel
theorem dX0_cellsTold_5 : decode cX0_cellsTold 5 = .ok (.iload_n 0, 1) := by decide +kernel
theorem dX0_cellsTold_6 : decode cX0_cellsTold 6 = .ok (.iconst 4, 1) := by decide +kernel
theorem dX0_cellsTold_7 : decode cX0_cellsTold 7 = .ok (.if_icmp .ne 7, 3) := by decide +kernel
theorem dX0_cellsTold_10 : decode cX0_cellsTold 10 = .ok (.iconst 1, 1) := by decide +kernel
theorem dX0_cellsTold_11 : decode cX0_cellsTold 11 = .ok (.goto 4, 3) := by decide +kernel
theorem dX0_cellsTold_14 : decode cX0_cellsTold 14 = .ok (.iconst 0, 1) := by decide +kernel
theorem dX0_cellsTold_15 : decode cX0_cellsTold 15 = .ok (.istore 5, 2) := by decide +kernel
theorem dX0_cellsTold_17 : decode cX0_cellsTold 17 = .ok (.iload_n 2, 1) := by decide +kernel
theorem dX0_cellsTold_18 : decode cX0_cellsTold 18 = .ok (.tableswitch 86 0 2 #[26, 47, 75], 26) := by decide +kernel
theorem dX0_cellsTold_44 : decode cX0_cellsTold 44 = .ok (.iload_n 0, 1) := by decide +kernel
theorem dX0_cellsTold_45 : decode cX0_cellsTold 45 = .ok (.iconst 5, 1) := by decide +kernel
theorem dX0_cellsTold_46 : decode cX0_cellsTold 46 = .ok (.if_icmp .eq 13, 3) := by decide +kernel
theorem dX0_cellsTold_49 : decode cX0_cellsTold 49 = .ok (.iload 5, 2) := by decide +kernel
theorem dX0_cellsTold_51 : decode cX0_cellsTold 51 = .ok (.ifCond .eq 12, 3) := by decide +kernel
theorem dX0_cellsTold_54 : decode cX0_cellsTold 54 = .ok (.iload_n 1, 1) := by decide +kernel
theorem dX0_cellsTold_55 : decode cX0_cellsTold 55 = .ok (.iconst 3, 1) := by decide +kernel
theorem dX0_cellsTold_56 : decode cX0_cellsTold 56 = .ok (.if_icmp .gt 7, 3) := by decide +kernel
theorem dX0_cellsTold_59 : decode cX0_cellsTold 59 = .ok (.lload_n 3, 1) := by decide +kernel
theorem dX0_cellsTold_60 : decode cX0_cellsTold 60 = .ok (.goto 4, 3) := by decide +kernel
theorem dX0_cellsTold_63 : decode cX0_cellsTold 63 = .ok (.lconst 0, 1) := by decide +kernel
theorem dX0_cellsTold_64 : decode cX0_cellsTold 64 = .ok (.lreturn, 1) := by decide +kernel
theorem dX0_cellsTold_65 : decode cX0_cellsTold 65 = .ok (.iload_n 0, 1) := by decide +kernel
theorem dX0_cellsTold_66 : decode cX0_cellsTold 66 = .ok (.iconst 5, 1) := by decide +kernel
theorem dX0_cellsTold_67 : decode cX0_cellsTold 67 = .ok (.if_icmp .ne 9, 3) := by decide +kernel
theorem dX0_cellsTold_70 : decode cX0_cellsTold 70 = .ok (.lload_n 3, 1) := by decide +kernel
theorem dX0_cellsTold_71 : decode cX0_cellsTold 71 = .ok (.ldc2_w 31, 3) := by decide +kernel
theorem dX0_cellsTold_74 : decode cX0_cellsTold 74 = .ok (.land, 1) := by decide +kernel
theorem dX0_cellsTold_75 : decode cX0_cellsTold 75 = .ok (.lreturn, 1) := by decide +kernel
theorem dX0_cellsTold_76 : decode cX0_cellsTold 76 = .ok (.iload 5, 2) := by decide +kernel
theorem dX0_cellsTold_78 : decode cX0_cellsTold 78 = .ok (.ifCond .eq 13, 3) := by decide +kernel
theorem dX0_cellsTold_81 : decode cX0_cellsTold 81 = .ok (.iload_n 1, 1) := by decide +kernel
theorem dX0_cellsTold_82 : decode cX0_cellsTold 82 = .ok (.bipush 6, 2) := by decide +kernel
theorem dX0_cellsTold_84 : decode cX0_cellsTold 84 = .ok (.if_icmp .le 7, 3) := by decide +kernel
theorem dX0_cellsTold_87 : decode cX0_cellsTold 87 = .ok (.lconst 0, 1) := by decide +kernel
theorem dX0_cellsTold_88 : decode cX0_cellsTold 88 = .ok (.goto 4, 3) := by decide +kernel
theorem dX0_cellsTold_91 : decode cX0_cellsTold 91 = .ok (.lload_n 3, 1) := by decide +kernel
theorem dX0_cellsTold_92 : decode cX0_cellsTold 92 = .ok (.lreturn, 1) := by decide +kernel
theorem dX0_cellsTold_93 : decode cX0_cellsTold 93 = .ok (.iload 5, 2) := by decide +kernel
theorem dX0_cellsTold_95 : decode cX0_cellsTold 95 = .ok (.ifCond .eq 7, 3) := by decide +kernel
theorem dX0_cellsTold_98 : decode cX0_cellsTold 98 = .ok (.lload_n 3, 1) := by decide +kernel
theorem dX0_cellsTold_99 : decode cX0_cellsTold 99 = .ok (.goto 4, 3) := by decide +kernel
theorem dX0_cellsTold_102 : decode cX0_cellsTold 102 = .ok (.lconst 0, 1) := by decide +kernel
theorem dX0_cellsTold_103 : decode cX0_cellsTold 103 = .ok (.lreturn, 1) := by decide +kernel
theorem dX0_cellsTold_104 : decode cX0_cellsTold 104 = .ok (.lload_n 3, 1) := by decide +kernel
theorem dX0_cellsTold_105 : decode cX0_cellsTold 105 = .ok (.lreturn, 1) := by decide +kernel
theorem dX0_hurtOf_0 : decode cX0_hurtOf 0 = .ok (.iload_n 0, 1) := by decide +kernel
theorem dX0_hurtOf_1 : decode cX0_hurtOf 1 = .ok (.tableswitch 61 1 5 #[35, 45, 39, 50, 59], 35) := by decide +kernel
theorem dX0_hurtOf_36 : decode cX0_hurtOf 36 = .ok (.iconst 2, 1) := by decide +kernel
theorem dX0_hurtOf_37 : decode cX0_hurtOf 37 = .ok (.iload_n 1, 1) := by decide +kernel
theorem dX0_hurtOf_38 : decode cX0_hurtOf 38 = .ok (.imul, 1) := by decide +kernel
theorem dX0_hurtOf_39 : decode cX0_hurtOf 39 = .ok (.ireturn, 1) := by decide +kernel
theorem dX0_hurtOf_40 : decode cX0_hurtOf 40 = .ok (.iconst 2, 1) := by decide +kernel
theorem dX0_hurtOf_41 : decode cX0_hurtOf 41 = .ok (.iload_n 1, 1) := by decide +kernel
theorem dX0_hurtOf_42 : decode cX0_hurtOf 42 = .ok (.imul, 1) := by decide +kernel
theorem dX0_hurtOf_43 : decode cX0_hurtOf 43 = .ok (.iconst 1, 1) := by decide +kernel
theorem dX0_hurtOf_44 : decode cX0_hurtOf 44 = .ok (.iadd, 1) := by decide +kernel
theorem dX0_hurtOf_45 : decode cX0_hurtOf 45 = .ok (.ireturn, 1) := by decide +kernel
theorem dX0_hurtOf_46 : decode cX0_hurtOf 46 = .ok (.iload_n 1, 1) := by decide +kernel
theorem dX0_hurtOf_47 : decode cX0_hurtOf 47 = .ok (.bipush 9, 2) := by decide +kernel
theorem dX0_hurtOf_49 : decode cX0_hurtOf 49 = .ok (.iadd, 1) := by decide +kernel
theorem dX0_hurtOf_50 : decode cX0_hurtOf 50 = .ok (.ireturn, 1) := by decide +kernel
theorem dX0_hurtOf_51 : decode cX0_hurtOf 51 = .ok (.iconst 0, 1) := by decide +kernel
theorem dX0_hurtOf_52 : decode cX0_hurtOf 52 = .ok (.iload_n 1, 1) := by decide +kernel
theorem dX0_hurtOf_53 : decode cX0_hurtOf 53 = .ok (.bipush 7, 2) := by decide +kernel
theorem dX0_hurtOf_55 : decode cX0_hurtOf 55 = .ok (.iadd, 1) := by decide +kernel
theorem dX0_hurtOf_56 : decode cX0_hurtOf 56 = .ok (.invokestatic 33, 3) := by decide +kernel
theorem dX0_hurtOf_59 : decode cX0_hurtOf 59 = .ok (.ireturn, 1) := by decide +kernel
theorem dX0_hurtOf_60 : decode cX0_hurtOf 60 = .ok (.iconst 1, 1) := by decide +kernel
theorem dX0_hurtOf_61 : decode cX0_hurtOf 61 = .ok (.ireturn, 1) := by decide +kernel
theorem dX0_hurtOf_62 : decode cX0_hurtOf 62 = .ok (.iload_n 1, 1) := by decide +kernel
theorem dX0_hurtOf_63 : decode cX0_hurtOf 63 = .ok (.ireturn, 1) := by decide +kernel
theorem dX0_worthOf_0 : decode cX0_worthOf 0 = .ok (.iload_n 0, 1) := by decide +kernel
theorem dX0_worthOf_1 : decode cX0_worthOf 1 = .ok (.tableswitch 59 1 5 #[35, 47, 40, 52, 57], 35) := by decide +kernel
theorem dX0_worthOf_36 : decode cX0_worthOf 36 = .ok (.iload_n 1, 1) := by decide +kernel
theorem dX0_worthOf_37 : decode cX0_worthOf 37 = .ok (.bipush 9, 2) := by decide +kernel
theorem dX0_worthOf_39 : decode cX0_worthOf 39 = .ok (.iadd, 1) := by decide +kernel
theorem dX0_worthOf_40 : decode cX0_worthOf 40 = .ok (.ireturn, 1) := by decide +kernel
theorem dX0_worthOf_41 : decode cX0_worthOf 41 = .ok (.iconst 2, 1) := by decide +kernel
theorem dX0_worthOf_42 : decode cX0_worthOf 42 = .ok (.iload_n 1, 1) := by decide +kernel
theorem dX0_worthOf_43 : decode cX0_worthOf 43 = .ok (.bipush 9, 2) := by decide +kernel
theorem dX0_worthOf_45 : decode cX0_worthOf 45 = .ok (.iadd, 1) := by decide +kernel
theorem dX0_worthOf_46 : decode cX0_worthOf 46 = .ok (.imul, 1) := by decide +kernel
theorem dX0_worthOf_47 : decode cX0_worthOf 47 = .ok (.ireturn, 1) := by decide +kernel
theorem dX0_worthOf_48 : decode cX0_worthOf 48 = .ok (.bipush 99, 2) := by decide +kernel
theorem dX0_worthOf_50 : decode cX0_worthOf 50 = .ok (.iload_n 1, 1) := by decide +kernel
theorem dX0_worthOf_51 : decode cX0_worthOf 51 = .ok (.isub, 1) := by decide +kernel
theorem dX0_worthOf_52 : decode cX0_worthOf 52 = .ok (.ireturn, 1) := by decide +kernel
theorem dX0_worthOf_53 : decode cX0_worthOf 53 = .ok (.bipush 94, 2) := by decide +kernel
theorem dX0_worthOf_55 : decode cX0_worthOf 55 = .ok (.iload_n 1, 1) := by decide +kernel
theorem dX0_worthOf_56 : decode cX0_worthOf 56 = .ok (.isub, 1) := by decide +kernel
theorem dX0_worthOf_57 : decode cX0_worthOf 57 = .ok (.ireturn, 1) := by decide +kernel
theorem dX0_worthOf_58 : decode cX0_worthOf 58 = .ok (.iconst 2, 1) := by decide +kernel
theorem dX0_worthOf_59 : decode cX0_worthOf 59 = .ok (.ireturn, 1) := by decide +kernel
theorem dX0_worthOf_60 : decode cX0_worthOf 60 = .ok (.iload_n 1, 1) := by decide +kernel
theorem dX0_worthOf_61 : decode cX0_worthOf 61 = .ok (.ireturn, 1) := by decide +kernel
theorem dX0_upwards_0 : decode cX0_upwards 0 = .ok (.lconst 0, 1) := by decide +kernel
theorem dX0_upwards_1 : decode cX0_upwards 1 = .ok (.lstore_n 2, 1) := by decide +kernel
theorem dX0_upwards_2 : decode cX0_upwards 2 = .ok (.iload_n 0, 1) := by decide +kernel
theorem dX0_upwards_3 : decode cX0_upwards 3 = .ok (.istore 4, 2) := by decide +kernel
theorem dX0_upwards_5 : decode cX0_upwards 5 = .ok (.iload 4, 2) := by decide +kernel
theorem dX0_upwards_7 : decode cX0_upwards 7 = .ok (.bipush 6, 2) := by decide +kernel
theorem dX0_upwards_9 : decode cX0_upwards 9 = .ok (.if_icmp .ge 21, 3) := by decide +kernel
theorem dX0_upwards_12 : decode cX0_upwards 12 = .ok (.lload_n 2, 1) := by decide +kernel
theorem dX0_upwards_13 : decode cX0_upwards 13 = .ok (.lconst 1, 1) := by decide +kernel
theorem dX0_upwards_14 : decode cX0_upwards 14 = .ok (.iload 4, 2) := by decide +kernel
theorem dX0_upwards_16 : decode cX0_upwards 16 = .ok (.bipush 6, 2) := by decide +kernel
theorem dX0_upwards_18 : decode cX0_upwards 18 = .ok (.imul, 1) := by decide +kernel
theorem dX0_upwards_19 : decode cX0_upwards 19 = .ok (.iload_n 1, 1) := by decide +kernel
theorem dX0_upwards_20 : decode cX0_upwards 20 = .ok (.iadd, 1) := by decide +kernel
theorem dX0_upwards_21 : decode cX0_upwards 21 = .ok (.lshl, 1) := by decide +kernel
theorem dX0_upwards_22 : decode cX0_upwards 22 = .ok (.lor, 1) := by decide +kernel
theorem dX0_upwards_23 : decode cX0_upwards 23 = .ok (.lstore_n 2, 1) := by decide +kernel
theorem dX0_upwards_24 : decode cX0_upwards 24 = .ok (.iinc 4 1, 3) := by decide +kernel
theorem dX0_upwards_27 : decode cX0_upwards 27 = .ok (.goto (-22), 3) := by decide +kernel
theorem dX0_upwards_30 : decode cX0_upwards 30 = .ok (.lload_n 2, 1) := by decide +kernel
theorem dX0_upwards_31 : decode cX0_upwards 31 = .ok (.lreturn, 1) := by decide +kernel
theorem dX0_along_0 : decode cX0_along 0 = .ok (.lconst 0, 1) := by decide +kernel
theorem dX0_along_1 : decode cX0_along 1 = .ok (.lstore_n 2, 1) := by decide +kernel
theorem dX0_along_2 : decode cX0_along 2 = .ok (.iload_n 1, 1) := by decide +kernel
theorem dX0_along_3 : decode cX0_along 3 = .ok (.istore 4, 2) := by decide +kernel
theorem dX0_along_5 : decode cX0_along 5 = .ok (.iload 4, 2) := by decide +kernel
theorem dX0_along_7 : decode cX0_along 7 = .ok (.bipush 6, 2) := by decide +kernel
theorem dX0_along_9 : decode cX0_along 9 = .ok (.if_icmp .ge 21, 3) := by decide +kernel
theorem dX0_along_12 : decode cX0_along 12 = .ok (.lload_n 2, 1) := by decide +kernel
theorem dX0_along_13 : decode cX0_along 13 = .ok (.lconst 1, 1) := by decide +kernel
theorem dX0_along_14 : decode cX0_along 14 = .ok (.iload_n 0, 1) := by decide +kernel
theorem dX0_along_15 : decode cX0_along 15 = .ok (.bipush 6, 2) := by decide +kernel
theorem dX0_along_17 : decode cX0_along 17 = .ok (.imul, 1) := by decide +kernel
theorem dX0_along_18 : decode cX0_along 18 = .ok (.iload 4, 2) := by decide +kernel
theorem dX0_along_20 : decode cX0_along 20 = .ok (.iadd, 1) := by decide +kernel
theorem dX0_along_21 : decode cX0_along 21 = .ok (.lshl, 1) := by decide +kernel
theorem dX0_along_22 : decode cX0_along 22 = .ok (.lor, 1) := by decide +kernel
theorem dX0_along_23 : decode cX0_along 23 = .ok (.lstore_n 2, 1) := by decide +kernel
theorem dX0_along_24 : decode cX0_along 24 = .ok (.iinc 4 1, 3) := by decide +kernel
theorem dX0_along_27 : decode cX0_along 27 = .ok (.goto (-22), 3) := by decide +kernel
theorem dX0_along_30 : decode cX0_along 30 = .ok (.lload_n 2, 1) := by decide +kernel
theorem dX0_along_31 : decode cX0_along 31 = .ok (.lreturn, 1) := by decide +kernel
theorem dX0_slanted_0 : decode cX0_slanted 0 = .ok (.lconst 0, 1) := by decide +kernel
theorem dX0_slanted_1 : decode cX0_slanted 1 = .ok (.lstore_n 2, 1) := by decide +kernel
theorem dX0_slanted_2 : decode cX0_slanted 2 = .ok (.iload_n 0, 1) := by decide +kernel
theorem dX0_slanted_3 : decode cX0_slanted 3 = .ok (.istore 4, 2) := by decide +kernel
theorem dX0_slanted_5 : decode cX0_slanted 5 = .ok (.iload 4, 2) := by decide +kernel
theorem dX0_slanted_7 : decode cX0_slanted 7 = .ok (.bipush 6, 2) := by decide +kernel
theorem dX0_slanted_9 : decode cX0_slanted 9 = .ok (.if_icmp .ge 30, 3) := by decide +kernel
theorem dX0_slanted_12 : decode cX0_slanted 12 = .ok (.lload_n 2, 1) := by decide +kernel
theorem dX0_slanted_13 : decode cX0_slanted 13 = .ok (.lconst 1, 1) := by decide +kernel
theorem dX0_slanted_14 : decode cX0_slanted 14 = .ok (.iload 4, 2) := by decide +kernel
theorem dX0_slanted_16 : decode cX0_slanted 16 = .ok (.bipush 6, 2) := by decide +kernel
theorem dX0_slanted_18 : decode cX0_slanted 18 = .ok (.imul, 1) := by decide +kernel
theorem dX0_slanted_19 : decode cX0_slanted 19 = .ok (.iconst 5, 1) := by decide +kernel
theorem dX0_slanted_20 : decode cX0_slanted 20 = .ok (.iload_n 1, 1) := by decide +kernel
theorem dX0_slanted_21 : decode cX0_slanted 21 = .ok (.iload 4, 2) := by decide +kernel
theorem dX0_slanted_23 : decode cX0_slanted 23 = .ok (.iadd, 1) := by decide +kernel
theorem dX0_slanted_24 : decode cX0_slanted 24 = .ok (.iload_n 0, 1) := by decide +kernel
theorem dX0_slanted_25 : decode cX0_slanted 25 = .ok (.isub, 1) := by decide +kernel
theorem dX0_slanted_26 : decode cX0_slanted 26 = .ok (.invokestatic 39, 3) := by decide +kernel
theorem dX0_slanted_29 : decode cX0_slanted 29 = .ok (.iadd, 1) := by decide +kernel
theorem dX0_slanted_30 : decode cX0_slanted 30 = .ok (.lshl, 1) := by decide +kernel
theorem dX0_slanted_31 : decode cX0_slanted 31 = .ok (.lor, 1) := by decide +kernel
theorem dX0_slanted_32 : decode cX0_slanted 32 = .ok (.lstore_n 2, 1) := by decide +kernel
theorem dX0_slanted_33 : decode cX0_slanted 33 = .ok (.iinc 4 1, 3) := by decide +kernel
theorem dX0_slanted_36 : decode cX0_slanted 36 = .ok (.goto (-31), 3) := by decide +kernel
theorem dX0_slanted_39 : decode cX0_slanted 39 = .ok (.lload_n 2, 1) := by decide +kernel
theorem dX0_slanted_40 : decode cX0_slanted 40 = .ok (.lreturn, 1) := by decide +kernel
theorem dX1_init_0 : decode cX1_init 0 = .ok (.aload_n 0, 1) := by decide +kernel
theorem dX1_init_1 : decode cX1_init 1 = .ok (.invokespecial 3, 3) := by decide +kernel
theorem dX1_init_4 : decode cX1_init 4 = .ok (.aload_n 0, 1) := by decide +kernel
theorem dX1_init_5 : decode cX1_init 5 = .ok (.bipush 24, 2) := by decide +kernel
theorem dX1_init_7 : decode cX1_init 7 = .ok (.newarray .int, 2) := by decide +kernel
theorem dX1_init_9 : decode cX1_init 9 = .ok (.putfield 9, 3) := by decide +kernel
theorem dX1_init_12 : decode cX1_init 12 = .ok (.aload_n 0, 1) := by decide +kernel
theorem dX1_init_13 : decode cX1_init 13 = .ok (.bipush 24, 2) := by decide +kernel
theorem dX1_init_15 : decode cX1_init 15 = .ok (.newarray .long, 2) := by decide +kernel
theorem dX1_init_17 : decode cX1_init 17 = .ok (.putfield 15, 3) := by decide +kernel
theorem dX1_init_20 : decode cX1_init 20 = .ok (.aload_n 0, 1) := by decide +kernel
theorem dX1_init_21 : decode cX1_init 21 = .ok (.bipush 10, 2) := by decide +kernel
theorem dX1_init_23 : decode cX1_init 23 = .ok (.newarray .long, 2) := by decide +kernel
theorem dX1_init_25 : decode cX1_init 25 = .ok (.putfield 19, 3) := by decide +kernel
theorem dX1_init_28 : decode cX1_init 28 = .ok (.aload_n 0, 1) := by decide +kernel
theorem dX1_init_29 : decode cX1_init 29 = .ok (.bipush 10, 2) := by decide +kernel
theorem dX1_init_31 : decode cX1_init 31 = .ok (.newarray .long, 2) := by decide +kernel
theorem dX1_init_33 : decode cX1_init 33 = .ok (.putfield 22, 3) := by decide +kernel
theorem dX1_init_36 : decode cX1_init 36 = .ok (.return_, 1) := by decide +kernel
theorem dX1_wish_0 : decode cX1_wish 0 = .ok (.aload_n 0, 1) := by decide +kernel
theorem dX1_wish_1 : decode cX1_wish 1 = .ok (.iconst 0, 1) := by decide +kernel
theorem dX1_wish_2 : decode cX1_wish 2 = .ok (.putfield 25, 3) := by decide +kernel
theorem dX1_wish_5 : decode cX1_wish 5 = .ok (.iconst 0, 1) := by decide +kernel
theorem dX1_wish_6 : decode cX1_wish 6 = .ok (.istore_n 2, 1) := by decide +kernel
theorem dX1_wish_7 : decode cX1_wish 7 = .ok (.iload_n 2, 1) := by decide +kernel
theorem dX1_wish_8 : decode cX1_wish 8 = .ok (.aload_n 1, 1) := by decide +kernel
theorem dX1_wish_9 : decode cX1_wish 9 = .ok (.getfield 29, 3) := by decide +kernel
theorem dX1_wish_12 : decode cX1_wish 12 = .ok (.if_icmp .ge 55, 3) := by decide +kernel
theorem dX1_wish_15 : decode cX1_wish 15 = .ok (.aload_n 0, 1) := by decide +kernel
theorem dX1_wish_16 : decode cX1_wish 16 = .ok (.getfield 25, 3) := by decide +kernel
theorem dX1_wish_19 : decode cX1_wish 19 = .ok (.bipush 24, 2) := by decide +kernel
theorem dX1_wish_21 : decode cX1_wish 21 = .ok (.if_icmp .ge 46, 3) := by decide +kernel
theorem dX1_wish_24 : decode cX1_wish 24 = .ok (.aload_n 1, 1) := by decide +kernel
theorem dX1_wish_25 : decode cX1_wish 25 = .ok (.getfield 34, 3) := by decide +kernel
theorem dX1_wish_28 : decode cX1_wish 28 = .ok (.iload_n 2, 1) := by decide +kernel
theorem dX1_wish_29 : decode cX1_wish 29 = .ok (.iaload, 1) := by decide +kernel
theorem dX1_wish_30 : decode cX1_wish 30 = .ok (.invokestatic 37, 3) := by decide +kernel
theorem dX1_wish_33 : decode cX1_wish 33 = .ok (.ifCond .eq 28, 3) := by decide +kernel
theorem dX1_wish_36 : decode cX1_wish 36 = .ok (.aload_n 0, 1) := by decide +kernel
theorem dX1_wish_37 : decode cX1_wish 37 = .ok (.getfield 9, 3) := by decide +kernel
theorem dX1_wish_40 : decode cX1_wish 40 = .ok (.aload_n 0, 1) := by decide +kernel
theorem dX1_wish_41 : decode cX1_wish 41 = .ok (.getfield 25, 3) := by decide +kernel
theorem dX1_wish_44 : decode cX1_wish 44 = .ok (.aload_n 1, 1) := by decide +kernel
theorem dX1_wish_45 : decode cX1_wish 45 = .ok (.getfield 34, 3) := by decide +kernel
theorem dX1_wish_48 : decode cX1_wish 48 = .ok (.iload_n 2, 1) := by decide +kernel
theorem dX1_wish_49 : decode cX1_wish 49 = .ok (.iaload, 1) := by decide +kernel
theorem dX1_wish_50 : decode cX1_wish 50 = .ok (.iastore, 1) := by decide +kernel
theorem dX1_wish_51 : decode cX1_wish 51 = .ok (.aload_n 0, 1) := by decide +kernel
theorem dX1_wish_52 : decode cX1_wish 52 = .ok (.dup, 1) := by decide +kernel
theorem dX1_wish_53 : decode cX1_wish 53 = .ok (.getfield 25, 3) := by decide +kernel
theorem dX1_wish_56 : decode cX1_wish 56 = .ok (.iconst 1, 1) := by decide +kernel
theorem dX1_wish_57 : decode cX1_wish 57 = .ok (.iadd, 1) := by decide +kernel
theorem dX1_wish_58 : decode cX1_wish 58 = .ok (.putfield 25, 3) := by decide +kernel
theorem dX1_wish_61 : decode cX1_wish 61 = .ok (.iinc 2 1, 3) := by decide +kernel
theorem dX1_wish_64 : decode cX1_wish 64 = .ok (.goto (-57), 3) := by decide +kernel
theorem dX1_wish_67 : decode cX1_wish 67 = .ok (.return_, 1) := by decide +kernel
theorem dX1_weigh_0 : decode cX1_weigh 0 = .ok (.aload_n 0, 1) := by decide +kernel
theorem dX1_weigh_1 : decode cX1_weigh 1 = .ok (.aload_n 1, 1) := by decide +kernel
theorem dX1_weigh_2 : decode cX1_weigh 2 = .ok (.invokevirtual 41, 3) := by decide +kernel
theorem dX1_weigh_5 : decode cX1_weigh 5 = .ok (.putfield 47, 3) := by decide +kernel
theorem dX1_weigh_8 : decode cX1_weigh 8 = .ok (.iconst 0, 1) := by decide +kernel
theorem dX1_weigh_9 : decode cX1_weigh 9 = .ok (.istore_n 3, 1) := by decide +kernel
theorem dX1_weigh_10 : decode cX1_weigh 10 = .ok (.iload_n 3, 1) := by decide +kernel
theorem dX1_weigh_11 : decode cX1_weigh 11 = .ok (.aload_n 1, 1) := by decide +kernel
theorem dX1_weigh_12 : decode cX1_weigh 12 = .ok (.getfield 51, 3) := by decide +kernel
theorem dX1_weigh_15 : decode cX1_weigh 15 = .ok (.if_icmp .ge 21, 3) := by decide +kernel
theorem dX1_weigh_18 : decode cX1_weigh 18 = .ok (.aload_n 0, 1) := by decide +kernel
theorem dX1_weigh_19 : decode cX1_weigh 19 = .ok (.getfield 19, 3) := by decide +kernel
theorem dX1_weigh_22 : decode cX1_weigh 22 = .ok (.iload_n 3, 1) := by decide +kernel
theorem dX1_weigh_23 : decode cX1_weigh 23 = .ok (.aload_n 1, 1) := by decide +kernel
theorem dX1_weigh_24 : decode cX1_weigh 24 = .ok (.iload_n 3, 1) := by decide +kernel
theorem dX1_weigh_25 : decode cX1_weigh 25 = .ok (.iload_n 2, 1) := by decide +kernel
theorem dX1_weigh_26 : decode cX1_weigh 26 = .ok (.invokevirtual 54, 3) := by decide +kernel
theorem dX1_weigh_29 : decode cX1_weigh 29 = .ok (.lastore, 1) := by decide +kernel
theorem dX1_weigh_30 : decode cX1_weigh 30 = .ok (.iinc 3 1, 3) := by decide +kernel
theorem dX1_weigh_33 : decode cX1_weigh 33 = .ok (.goto (-23), 3) := by decide +kernel
theorem dX1_weigh_36 : decode cX1_weigh 36 = .ok (.aload_n 0, 1) := by decide +kernel
theorem dX1_weigh_37 : decode cX1_weigh 37 = .ok (.iconst 0, 1) := by decide +kernel
theorem dX1_weigh_38 : decode cX1_weigh 38 = .ok (.putfield 58, 3) := by decide +kernel
theorem dX1_weigh_41 : decode cX1_weigh 41 = .ok (.iconst 0, 1) := by decide +kernel
theorem dX1_weigh_42 : decode cX1_weigh 42 = .ok (.istore_n 3, 1) := by decide +kernel
theorem dX1_weigh_43 : decode cX1_weigh 43 = .ok (.iload_n 3, 1) := by decide +kernel
theorem dX1_weigh_44 : decode cX1_weigh 44 = .ok (.aload_n 0, 1) := by decide +kernel
theorem dX1_weigh_45 : decode cX1_weigh 45 = .ok (.getfield 25, 3) := by decide +kernel
theorem dX1_weigh_48 : decode cX1_weigh 48 = .ok (.if_icmp .ge 60, 3) := by decide +kernel
theorem dX1_weigh_51 : decode cX1_weigh 51 = .ok (.aload_n 0, 1) := by decide +kernel
theorem dX1_weigh_52 : decode cX1_weigh 52 = .ok (.getfield 15, 3) := by decide +kernel
theorem dX1_weigh_55 : decode cX1_weigh 55 = .ok (.iload_n 3, 1) := by decide +kernel
theorem dX1_weigh_56 : decode cX1_weigh 56 = .ok (.aload_n 1, 1) := by decide +kernel
theorem dX1_weigh_57 : decode cX1_weigh 57 = .ok (.aload_n 0, 1) := by decide +kernel
theorem dX1_weigh_58 : decode cX1_weigh 58 = .ok (.getfield 19, 3) := by decide +kernel
theorem dX1_weigh_61 : decode cX1_weigh 61 = .ok (.aload_n 0, 1) := by decide +kernel
theorem dX1_weigh_62 : decode cX1_weigh 62 = .ok (.getfield 9, 3) := by decide +kernel
theorem dX1_weigh_65 : decode cX1_weigh 65 = .ok (.iload_n 3, 1) := by decide +kernel
theorem dX1_weigh_66 : decode cX1_weigh 66 = .ok (.iaload, 1) := by decide +kernel
theorem dX1_weigh_67 : decode cX1_weigh 67 = .ok (.invokestatic 61, 3) := by decide +kernel
theorem dX1_weigh_70 : decode cX1_weigh 70 = .ok (.lastore, 1) := by decide +kernel
theorem dX1_weigh_71 : decode cX1_weigh 71 = .ok (.aload_n 0, 1) := by decide +kernel
theorem dX1_weigh_72 : decode cX1_weigh 72 = .ok (.aload_n 0, 1) := by decide +kernel
theorem dX1_weigh_73 : decode cX1_weigh 73 = .ok (.getfield 15, 3) := by decide +kernel
theorem dX1_weigh_76 : decode cX1_weigh 76 = .ok (.iload_n 3, 1) := by decide +kernel
theorem dX1_weigh_77 : decode cX1_weigh 77 = .ok (.laload, 1) := by decide +kernel
theorem dX1_weigh_78 : decode cX1_weigh 78 = .ok (.aload_n 0, 1) := by decide +kernel
theorem dX1_weigh_79 : decode cX1_weigh 79 = .ok (.getfield 15, 3) := by decide +kernel
theorem dX1_weigh_82 : decode cX1_weigh 82 = .ok (.aload_n 0, 1) := by decide +kernel
theorem dX1_weigh_83 : decode cX1_weigh 83 = .ok (.getfield 58, 3) := by decide +kernel
theorem dX1_weigh_86 : decode cX1_weigh 86 = .ok (.laload, 1) := by decide +kernel
theorem dX1_weigh_87 : decode cX1_weigh 87 = .ok (.lcmp, 1) := by decide +kernel
theorem dX1_weigh_88 : decode cX1_weigh 88 = .ok (.ifCond .ge 7, 3) := by decide +kernel
theorem dX1_weigh_91 : decode cX1_weigh 91 = .ok (.iload_n 3, 1) := by decide +kernel
theorem dX1_weigh_92 : decode cX1_weigh 92 = .ok (.goto 7, 3) := by decide +kernel
theorem dX1_weigh_95 : decode cX1_weigh 95 = .ok (.aload_n 0, 1) := by decide +kernel
theorem dX1_weigh_96 : decode cX1_weigh 96 = .ok (.getfield 58, 3) := by decide +kernel
theorem dX1_weigh_99 : decode cX1_weigh 99 = .ok (.putfield 58, 3) := by decide +kernel
theorem dX1_weigh_102 : decode cX1_weigh 102 = .ok (.iinc 3 1, 3) := by decide +kernel
theorem dX1_weigh_105 : decode cX1_weigh 105 = .ok (.goto (-62), 3) := by decide +kernel
theorem dX1_weigh_108 : decode cX1_weigh 108 = .ok (.return_, 1) := by decide +kernel
theorem dX1_bestCell_0 : decode cX1_bestCell 0 = .ok (.aload_n 0, 1) := by decide +kernel
theorem dX1_bestCell_1 : decode cX1_bestCell 1 = .ok (.getfield 9, 3) := by decide +kernel
theorem dX1_bestCell_4 : decode cX1_bestCell 4 = .ok (.aload_n 0, 1) := by decide +kernel
theorem dX1_bestCell_5 : decode cX1_bestCell 5 = .ok (.getfield 58, 3) := by decide +kernel
theorem dX1_bestCell_8 : decode cX1_bestCell 8 = .ok (.iaload, 1) := by decide +kernel
theorem dX1_bestCell_9 : decode cX1_bestCell 9 = .ok (.ireturn, 1) := by decide +kernel
theorem dX1_leastLoss_0 : decode cX1_leastLoss 0 = .ok (.aload_n 0, 1) := by decide +kernel
theorem dX1_leastLoss_1 : decode cX1_leastLoss 1 = .ok (.getfield 15, 3) := by decide +kernel
theorem dX1_leastLoss_4 : decode cX1_leastLoss 4 = .ok (.aload_n 0, 1) := by decide +kernel
theorem dX1_leastLoss_5 : decode cX1_leastLoss 5 = .ok (.getfield 58, 3) := by decide +kernel
theorem dX1_leastLoss_8 : decode cX1_leastLoss 8 = .ok (.laload, 1) := by decide +kernel
theorem dX1_leastLoss_9 : decode cX1_leastLoss 9 = .ok (.lreturn, 1) := by decide +kernel
theorem dX1_learnBy_0 : decode cX1_learnBy 0 = .ok (.aload_n 0, 1) := by decide +kernel
theorem dX1_learnBy_1 : decode cX1_learnBy 1 = .ok (.getfield 47, 3) := by decide +kernel
theorem dX1_learnBy_4 : decode cX1_learnBy 4 = .ok (.lconst 0, 1) := by decide +kernel
theorem dX1_learnBy_5 : decode cX1_learnBy 5 = .ok (.lcmp, 1) := by decide +kernel
theorem dX1_learnBy_6 : decode cX1_learnBy 6 = .ok (.ifCond .le 13, 3) := by decide +kernel
theorem dX1_learnBy_9 : decode cX1_learnBy 9 = .ok (.aload_n 0, 1) := by decide +kernel
theorem dX1_learnBy_10 : decode cX1_learnBy 10 = .ok (.aload_n 1, 1) := by decide +kernel
theorem dX1_learnBy_11 : decode cX1_learnBy 11 = .ok (.iload_n 2, 1) := by decide +kernel
theorem dX1_learnBy_12 : decode cX1_learnBy 12 = .ok (.iload_n 3, 1) := by decide +kernel
theorem dX1_learnBy_13 : decode cX1_learnBy 13 = .ok (.invokevirtual 65, 3) := by decide +kernel
theorem dX1_learnBy_16 : decode cX1_learnBy 16 = .ok (.ifCond .ne 5, 3) := by decide +kernel
theorem dX1_learnBy_19 : decode cX1_learnBy 19 = .ok (.iconst 0, 1) := by decide +kernel
theorem dX1_learnBy_20 : decode cX1_learnBy 20 = .ok (.ireturn, 1) := by decide +kernel
theorem dX1_learnBy_21 : decode cX1_learnBy 21 = .ok (.lconst 0, 1) := by decide +kernel
theorem dX1_learnBy_22 : decode cX1_learnBy 22 = .ok (.lstore 4, 2) := by decide +kernel
theorem dX1_learnBy_24 : decode cX1_learnBy 24 = .ok (.lconst 0, 1) := by decide +kernel
theorem dX1_learnBy_25 : decode cX1_learnBy 25 = .ok (.lstore 6, 2) := by decide +kernel
theorem dX1_learnBy_27 : decode cX1_learnBy 27 = .ok (.iconst 0, 1) := by decide +kernel
theorem dX1_learnBy_28 : decode cX1_learnBy 28 = .ok (.istore 8, 2) := by decide +kernel
theorem dX1_learnBy_30 : decode cX1_learnBy 30 = .ok (.iload 8, 2) := by decide +kernel
theorem dX1_learnBy_32 : decode cX1_learnBy 32 = .ok (.aload_n 0, 1) := by decide +kernel
theorem dX1_learnBy_33 : decode cX1_learnBy 33 = .ok (.getfield 25, 3) := by decide +kernel
theorem dX1_learnBy_36 : decode cX1_learnBy 36 = .ok (.if_icmp .ge 80, 3) := by decide +kernel
theorem dX1_learnBy_39 : decode cX1_learnBy 39 = .ok (.aload_n 1, 1) := by decide +kernel
theorem dX1_learnBy_40 : decode cX1_learnBy 40 = .ok (.aload_n 0, 1) := by decide +kernel
theorem dX1_learnBy_41 : decode cX1_learnBy 41 = .ok (.getfield 22, 3) := by decide +kernel
theorem dX1_learnBy_44 : decode cX1_learnBy 44 = .ok (.aload_n 0, 1) := by decide +kernel
theorem dX1_learnBy_45 : decode cX1_learnBy 45 = .ok (.getfield 9, 3) := by decide +kernel
theorem dX1_learnBy_48 : decode cX1_learnBy 48 = .ok (.iload 8, 2) := by decide +kernel
theorem dX1_learnBy_50 : decode cX1_learnBy 50 = .ok (.iaload, 1) := by decide +kernel
theorem dX1_learnBy_51 : decode cX1_learnBy 51 = .ok (.invokestatic 61, 3) := by decide +kernel
theorem dX1_learnBy_54 : decode cX1_learnBy 54 = .ok (.lstore 9, 2) := by decide +kernel
theorem dX1_learnBy_56 : decode cX1_learnBy 56 = .ok (.ldc2_w 69, 3) := by decide +kernel
theorem dX1_learnBy_59 : decode cX1_learnBy 59 = .ok (.aload_n 0, 1) := by decide +kernel
theorem dX1_learnBy_60 : decode cX1_learnBy 60 = .ok (.getfield 15, 3) := by decide +kernel
theorem dX1_learnBy_63 : decode cX1_learnBy 63 = .ok (.iload 8, 2) := by decide +kernel
theorem dX1_learnBy_65 : decode cX1_learnBy 65 = .ok (.laload, 1) := by decide +kernel
theorem dX1_learnBy_66 : decode cX1_learnBy 66 = .ok (.lmul, 1) := by decide +kernel
theorem dX1_learnBy_67 : decode cX1_learnBy 67 = .ok (.lload 9, 2) := by decide +kernel
theorem dX1_learnBy_69 : decode cX1_learnBy 69 = .ok (.lsub, 1) := by decide +kernel
theorem dX1_learnBy_70 : decode cX1_learnBy 70 = .ok (.lstore 11, 2) := by decide +kernel
theorem dX1_learnBy_72 : decode cX1_learnBy 72 = .ok (.iload 8, 2) := by decide +kernel
theorem dX1_learnBy_74 : decode cX1_learnBy 74 = .ok (.ifCond .ne 8, 3) := by decide +kernel
theorem dX1_learnBy_77 : decode cX1_learnBy 77 = .ok (.lload 9, 2) := by decide +kernel
theorem dX1_learnBy_79 : decode cX1_learnBy 79 = .ok (.goto 10, 3) := by decide +kernel
theorem dX1_learnBy_82 : decode cX1_learnBy 82 = .ok (.lload 4, 2) := by decide +kernel
theorem dX1_learnBy_84 : decode cX1_learnBy 84 = .ok (.lload 9, 2) := by decide +kernel
theorem dX1_learnBy_86 : decode cX1_learnBy 86 = .ok (.invokestatic 71, 3) := by decide +kernel
theorem dX1_learnBy_89 : decode cX1_learnBy 89 = .ok (.lstore 4, 2) := by decide +kernel
theorem dX1_learnBy_91 : decode cX1_learnBy 91 = .ok (.iload 8, 2) := by decide +kernel
theorem dX1_learnBy_93 : decode cX1_learnBy 93 = .ok (.ifCond .ne 8, 3) := by decide +kernel
theorem dX1_learnBy_96 : decode cX1_learnBy 96 = .ok (.lload 11, 2) := by decide +kernel
theorem dX1_learnBy_98 : decode cX1_learnBy 98 = .ok (.goto 10, 3) := by decide +kernel
theorem dX1_learnBy_101 : decode cX1_learnBy 101 = .ok (.lload 6, 2) := by decide +kernel
theorem dX1_learnBy_103 : decode cX1_learnBy 103 = .ok (.lload 11, 2) := by decide +kernel
theorem dX1_learnBy_105 : decode cX1_learnBy 105 = .ok (.invokestatic 71, 3) := by decide +kernel
theorem dX1_learnBy_108 : decode cX1_learnBy 108 = .ok (.lstore 6, 2) := by decide +kernel
theorem dX1_learnBy_110 : decode cX1_learnBy 110 = .ok (.iinc 8 1, 3) := by decide +kernel
theorem dX1_learnBy_113 : decode cX1_learnBy 113 = .ok (.goto (-83), 3) := by decide +kernel
theorem dX1_learnBy_116 : decode cX1_learnBy 116 = .ok (.ldc2_w 77, 3) := by decide +kernel
theorem dX1_learnBy_119 : decode cX1_learnBy 119 = .ok (.ldc2_w 69, 3) := by decide +kernel
theorem dX1_learnBy_122 : decode cX1_learnBy 122 = .ok (.aload_n 0, 1) := by decide +kernel
theorem dX1_learnBy_123 : decode cX1_learnBy 123 = .ok (.invokevirtual 79, 3) := by decide +kernel
theorem dX1_learnBy_126 : decode cX1_learnBy 126 = .ok (.lmul, 1) := by decide +kernel
theorem dX1_learnBy_127 : decode cX1_learnBy 127 = .ok (.lload 4, 2) := by decide +kernel
theorem dX1_learnBy_129 : decode cX1_learnBy 129 = .ok (.lsub, 1) := by decide +kernel
theorem dX1_learnBy_130 : decode cX1_learnBy 130 = .ok (.lload 6, 2) := by decide +kernel
theorem dX1_learnBy_132 : decode cX1_learnBy 132 = .ok (.lsub, 1) := by decide +kernel
theorem dX1_learnBy_133 : decode cX1_learnBy 133 = .ok (.lmul, 1) := by decide +kernel
theorem dX1_learnBy_134 : decode cX1_learnBy 134 = .ok (.ldc2_w 69, 3) := by decide +kernel
theorem dX1_learnBy_137 : decode cX1_learnBy 137 = .ok (.aload_n 0, 1) := by decide +kernel
theorem dX1_learnBy_138 : decode cX1_learnBy 138 = .ok (.getfield 47, 3) := by decide +kernel
theorem dX1_learnBy_141 : decode cX1_learnBy 141 = .ok (.lmul, 1) := by decide +kernel
theorem dX1_learnBy_142 : decode cX1_learnBy 142 = .ok (.ldiv, 1) := by decide +kernel
theorem dX1_learnBy_143 : decode cX1_learnBy 143 = .ok (.l2i, 1) := by decide +kernel
theorem dX1_learnBy_144 : decode cX1_learnBy 144 = .ok (.ireturn, 1) := by decide +kernel
theorem dX1_shareOut_0 : decode cX1_shareOut 0 = .ok (.iconst 0, 1) := by decide +kernel
theorem dX1_shareOut_1 : decode cX1_shareOut 1 = .ok (.istore 4, 2) := by decide +kernel
theorem dX1_shareOut_3 : decode cX1_shareOut 3 = .ok (.iconst 0, 1) := by decide +kernel
theorem dX1_shareOut_4 : decode cX1_shareOut 4 = .ok (.istore 5, 2) := by decide +kernel
theorem dX1_shareOut_6 : decode cX1_shareOut 6 = .ok (.iload 5, 2) := by decide +kernel
theorem dX1_shareOut_8 : decode cX1_shareOut 8 = .ok (.aload_n 1, 1) := by decide +kernel
theorem dX1_shareOut_9 : decode cX1_shareOut 9 = .ok (.getfield 51, 3) := by decide +kernel
theorem dX1_shareOut_12 : decode cX1_shareOut 12 = .ok (.if_icmp .ge 58, 3) := by decide +kernel
theorem dX1_shareOut_15 : decode cX1_shareOut 15 = .ok (.aload_n 1, 1) := by decide +kernel
theorem dX1_shareOut_16 : decode cX1_shareOut 16 = .ok (.iload 5, 2) := by decide +kernel
theorem dX1_shareOut_18 : decode cX1_shareOut 18 = .ok (.iload_n 2, 1) := by decide +kernel
theorem dX1_shareOut_19 : decode cX1_shareOut 19 = .ok (.iload_n 3, 1) := by decide +kernel
theorem dX1_shareOut_20 : decode cX1_shareOut 20 = .ok (.invokevirtual 82, 3) := by decide +kernel
theorem dX1_shareOut_23 : decode cX1_shareOut 23 = .ok (.istore 6, 2) := by decide +kernel
theorem dX1_shareOut_25 : decode cX1_shareOut 25 = .ok (.iload 4, 2) := by decide +kernel
theorem dX1_shareOut_27 : decode cX1_shareOut 27 = .ok (.iload 6, 2) := by decide +kernel
theorem dX1_shareOut_29 : decode cX1_shareOut 29 = .ok (.iadd, 1) := by decide +kernel
theorem dX1_shareOut_30 : decode cX1_shareOut 30 = .ok (.istore 4, 2) := by decide +kernel
theorem dX1_shareOut_32 : decode cX1_shareOut 32 = .ok (.aload_n 0, 1) := by decide +kernel
theorem dX1_shareOut_33 : decode cX1_shareOut 33 = .ok (.getfield 22, 3) := by decide +kernel
theorem dX1_shareOut_36 : decode cX1_shareOut 36 = .ok (.iload 5, 2) := by decide +kernel
theorem dX1_shareOut_38 : decode cX1_shareOut 38 = .ok (.aload_n 0, 1) := by decide +kernel
theorem dX1_shareOut_39 : decode cX1_shareOut 39 = .ok (.getfield 19, 3) := by decide +kernel
theorem dX1_shareOut_42 : decode cX1_shareOut 42 = .ok (.iload 5, 2) := by decide +kernel
theorem dX1_shareOut_44 : decode cX1_shareOut 44 = .ok (.laload, 1) := by decide +kernel
theorem dX1_shareOut_45 : decode cX1_shareOut 45 = .ok (.aload_n 1, 1) := by decide +kernel
theorem dX1_shareOut_46 : decode cX1_shareOut 46 = .ok (.iload_n 2, 1) := by decide +kernel
theorem dX1_shareOut_47 : decode cX1_shareOut 47 = .ok (.iload 6, 2) := by decide +kernel
theorem dX1_shareOut_49 : decode cX1_shareOut 49 = .ok (.iconst 1, 1) := by decide +kernel
theorem dX1_shareOut_50 : decode cX1_shareOut 50 = .ok (.if_icmp .ne 7, 3) := by decide +kernel
theorem dX1_shareOut_53 : decode cX1_shareOut 53 = .ok (.iconst 1, 1) := by decide +kernel
theorem dX1_shareOut_54 : decode cX1_shareOut 54 = .ok (.goto 4, 3) := by decide +kernel
theorem dX1_shareOut_57 : decode cX1_shareOut 57 = .ok (.iconst 0, 1) := by decide +kernel
theorem dX1_shareOut_58 : decode cX1_shareOut 58 = .ok (.invokevirtual 86, 3) := by decide +kernel
theorem dX1_shareOut_61 : decode cX1_shareOut 61 = .ok (.i2l, 1) := by decide +kernel
theorem dX1_shareOut_62 : decode cX1_shareOut 62 = .ok (.lmul, 1) := by decide +kernel
theorem dX1_shareOut_63 : decode cX1_shareOut 63 = .ok (.lastore, 1) := by decide +kernel
theorem dX1_shareOut_64 : decode cX1_shareOut 64 = .ok (.iinc 5 1, 3) := by decide +kernel
theorem dX1_shareOut_67 : decode cX1_shareOut 67 = .ok (.goto (-61), 3) := by decide +kernel
theorem dX1_shareOut_70 : decode cX1_shareOut 70 = .ok (.iload 4, 2) := by decide +kernel
theorem dX1_shareOut_72 : decode cX1_shareOut 72 = .ok (.ifCond .le 16, 3) := by decide +kernel
theorem dX1_shareOut_75 : decode cX1_shareOut 75 = .ok (.iload 4, 2) := by decide +kernel
theorem dX1_shareOut_77 : decode cX1_shareOut 77 = .ok (.aload_n 1, 1) := by decide +kernel
theorem dX1_shareOut_78 : decode cX1_shareOut 78 = .ok (.getfield 51, 3) := by decide +kernel
theorem dX1_shareOut_81 : decode cX1_shareOut 81 = .ok (.if_icmp .ge 7, 3) := by decide +kernel
theorem dX1_shareOut_84 : decode cX1_shareOut 84 = .ok (.iconst 1, 1) := by decide +kernel
theorem dX1_shareOut_85 : decode cX1_shareOut 85 = .ok (.goto 4, 3) := by decide +kernel
theorem dX1_shareOut_88 : decode cX1_shareOut 88 = .ok (.iconst 0, 1) := by decide +kernel
theorem dX1_shareOut_89 : decode cX1_shareOut 89 = .ok (.ireturn, 1) := by decide +kernel
theorem dX1_findWorthiest_0 : decode cX1_findWorthiest 0 = .ok (.aload_n 0, 1) := by decide +kernel
theorem dX1_findWorthiest_1 : decode cX1_findWorthiest 1 = .ok (.iconst (-1), 1) := by decide +kernel
theorem dX1_findWorthiest_2 : decode cX1_findWorthiest 2 = .ok (.putfield 90, 3) := by decide +kernel
theorem dX1_findWorthiest_5 : decode cX1_findWorthiest 5 = .ok (.iconst 0, 1) := by decide +kernel
theorem dX1_findWorthiest_6 : decode cX1_findWorthiest 6 = .ok (.istore_n 2, 1) := by decide +kernel
theorem dX1_findWorthiest_7 : decode cX1_findWorthiest 7 = .ok (.iload_n 2, 1) := by decide +kernel
theorem dX1_findWorthiest_8 : decode cX1_findWorthiest 8 = .ok (.iconst 4, 1) := by decide +kernel
theorem dX1_findWorthiest_9 : decode cX1_findWorthiest 9 = .ok (.if_icmp .ge 57, 3) := by decide +kernel
theorem dX1_findWorthiest_12 : decode cX1_findWorthiest 12 = .ok (.iconst 0, 1) := by decide +kernel
theorem dX1_findWorthiest_13 : decode cX1_findWorthiest 13 = .ok (.istore_n 3, 1) := by decide +kernel
theorem dX1_findWorthiest_14 : decode cX1_findWorthiest 14 = .ok (.iload_n 3, 1) := by decide +kernel
theorem dX1_findWorthiest_15 : decode cX1_findWorthiest 15 = .ok (.bipush 36, 2) := by decide +kernel
theorem dX1_findWorthiest_17 : decode cX1_findWorthiest 17 = .ok (.if_icmp .ge 43, 3) := by decide +kernel
theorem dX1_findWorthiest_20 : decode cX1_findWorthiest 20 = .ok (.aload_n 0, 1) := by decide +kernel
theorem dX1_findWorthiest_21 : decode cX1_findWorthiest 21 = .ok (.aload_n 1, 1) := by decide +kernel
theorem dX1_findWorthiest_22 : decode cX1_findWorthiest 22 = .ok (.iload_n 2, 1) := by decide +kernel
theorem dX1_findWorthiest_23 : decode cX1_findWorthiest 23 = .ok (.iload_n 3, 1) := by decide +kernel
theorem dX1_findWorthiest_24 : decode cX1_findWorthiest 24 = .ok (.invokevirtual 93, 3) := by decide +kernel
theorem dX1_findWorthiest_27 : decode cX1_findWorthiest 27 = .ok (.istore 4, 2) := by decide +kernel
theorem dX1_findWorthiest_29 : decode cX1_findWorthiest 29 = .ok (.iload 4, 2) := by decide +kernel
theorem dX1_findWorthiest_31 : decode cX1_findWorthiest 31 = .ok (.aload_n 0, 1) := by decide +kernel
theorem dX1_findWorthiest_32 : decode cX1_findWorthiest 32 = .ok (.getfield 90, 3) := by decide +kernel
theorem dX1_findWorthiest_35 : decode cX1_findWorthiest 35 = .ok (.if_icmp .le 19, 3) := by decide +kernel
theorem dX1_findWorthiest_38 : decode cX1_findWorthiest 38 = .ok (.aload_n 0, 1) := by decide +kernel
theorem dX1_findWorthiest_39 : decode cX1_findWorthiest 39 = .ok (.iload_n 2, 1) := by decide +kernel
theorem dX1_findWorthiest_40 : decode cX1_findWorthiest 40 = .ok (.putfield 97, 3) := by decide +kernel
theorem dX1_findWorthiest_43 : decode cX1_findWorthiest 43 = .ok (.aload_n 0, 1) := by decide +kernel
theorem dX1_findWorthiest_44 : decode cX1_findWorthiest 44 = .ok (.iload_n 3, 1) := by decide +kernel
theorem dX1_findWorthiest_45 : decode cX1_findWorthiest 45 = .ok (.putfield 100, 3) := by decide +kernel
theorem dX1_findWorthiest_48 : decode cX1_findWorthiest 48 = .ok (.aload_n 0, 1) := by decide +kernel
theorem dX1_findWorthiest_49 : decode cX1_findWorthiest 49 = .ok (.iload 4, 2) := by decide +kernel
theorem dX1_findWorthiest_51 : decode cX1_findWorthiest 51 = .ok (.putfield 90, 3) := by decide +kernel
theorem dX1_findWorthiest_54 : decode cX1_findWorthiest 54 = .ok (.iinc 3 1, 3) := by decide +kernel
theorem dX1_findWorthiest_57 : decode cX1_findWorthiest 57 = .ok (.goto (-43), 3) := by decide +kernel
theorem dX1_findWorthiest_60 : decode cX1_findWorthiest 60 = .ok (.iinc 2 1, 3) := by decide +kernel
theorem dX1_findWorthiest_63 : decode cX1_findWorthiest 63 = .ok (.goto (-56), 3) := by decide +kernel
theorem dX1_findWorthiest_66 : decode cX1_findWorthiest 66 = .ok (.return_, 1) := by decide +kernel
theorem dX1_lossOf_0 : decode cX1_lossOf 0 = .ok (.lconst 0, 1) := by decide +kernel
theorem dX1_lossOf_1 : decode cX1_lossOf 1 = .ok (.lstore_n 3, 1) := by decide +kernel
theorem dX1_lossOf_2 : decode cX1_lossOf 2 = .ok (.iconst 0, 1) := by decide +kernel
theorem dX1_lossOf_3 : decode cX1_lossOf 3 = .ok (.istore 5, 2) := by decide +kernel
theorem dX1_lossOf_5 : decode cX1_lossOf 5 = .ok (.iload 5, 2) := by decide +kernel
theorem dX1_lossOf_7 : decode cX1_lossOf 7 = .ok (.aload_n 0, 1) := by decide +kernel
theorem dX1_lossOf_8 : decode cX1_lossOf 8 = .ok (.getfield 51, 3) := by decide +kernel
theorem dX1_lossOf_11 : decode cX1_lossOf 11 = .ok (.if_icmp .ge 30, 3) := by decide +kernel
theorem dX1_lossOf_14 : decode cX1_lossOf 14 = .ok (.aload_n 0, 1) := by decide +kernel
theorem dX1_lossOf_15 : decode cX1_lossOf 15 = .ok (.getfield 103, 3) := by decide +kernel
theorem dX1_lossOf_18 : decode cX1_lossOf 18 = .ok (.iload 5, 2) := by decide +kernel
theorem dX1_lossOf_20 : decode cX1_lossOf 20 = .ok (.laload, 1) := by decide +kernel
theorem dX1_lossOf_21 : decode cX1_lossOf 21 = .ok (.iload_n 2, 1) := by decide +kernel
theorem dX1_lossOf_22 : decode cX1_lossOf 22 = .ok (.invokestatic 106, 3) := by decide +kernel
theorem dX1_lossOf_25 : decode cX1_lossOf 25 = .ok (.ifCond .eq 10, 3) := by decide +kernel
theorem dX1_lossOf_28 : decode cX1_lossOf 28 = .ok (.lload_n 3, 1) := by decide +kernel
theorem dX1_lossOf_29 : decode cX1_lossOf 29 = .ok (.aload_n 1, 1) := by decide +kernel
theorem dX1_lossOf_30 : decode cX1_lossOf 30 = .ok (.iload 5, 2) := by decide +kernel
theorem dX1_lossOf_32 : decode cX1_lossOf 32 = .ok (.laload, 1) := by decide +kernel
theorem dX1_lossOf_33 : decode cX1_lossOf 33 = .ok (.ladd, 1) := by decide +kernel
theorem dX1_lossOf_34 : decode cX1_lossOf 34 = .ok (.lstore_n 3, 1) := by decide +kernel
theorem dX1_lossOf_35 : decode cX1_lossOf 35 = .ok (.iinc 5 1, 3) := by decide +kernel
theorem dX1_lossOf_38 : decode cX1_lossOf 38 = .ok (.goto (-33), 3) := by decide +kernel
theorem dX1_lossOf_41 : decode cX1_lossOf 41 = .ok (.lload_n 3, 1) := by decide +kernel
theorem dX1_lossOf_42 : decode cX1_lossOf 42 = .ok (.lreturn, 1) := by decide +kernel
theorem dX2_init_0 : decode cX2_init 0 = .ok (.aload_n 0, 1) := by decide +kernel
theorem dX2_init_1 : decode cX2_init 1 = .ok (.invokespecial 3, 3) := by decide +kernel
theorem dX2_init_4 : decode cX2_init 4 = .ok (.aload_n 0, 1) := by decide +kernel
theorem dX2_init_5 : decode cX2_init 5 = .ok (.bipush 24, 2) := by decide +kernel
theorem dX2_init_7 : decode cX2_init 7 = .ok (.newarray .int, 2) := by decide +kernel
theorem dX2_init_9 : decode cX2_init 9 = .ok (.putfield 9, 3) := by decide +kernel
theorem dX2_init_12 : decode cX2_init 12 = .ok (.aload_n 0, 1) := by decide +kernel
theorem dX2_init_13 : decode cX2_init 13 = .ok (.iconst (-1), 1) := by decide +kernel
theorem dX2_init_14 : decode cX2_init 14 = .ok (.putfield 15, 3) := by decide +kernel
theorem dX2_init_17 : decode cX2_init 17 = .ok (.return_, 1) := by decide +kernel
theorem dX2_isMissing_0 : decode cX2_isMissing 0 = .ok (.aload_n 0, 1) := by decide +kernel
theorem dX2_isMissing_1 : decode cX2_isMissing 1 = .ok (.getfield 15, 3) := by decide +kernel
theorem dX2_isMissing_4 : decode cX2_isMissing 4 = .ok (.iconst (-1), 1) := by decide +kernel
theorem dX2_isMissing_5 : decode cX2_isMissing 5 = .ok (.if_icmp .ne 7, 3) := by decide +kernel
theorem dX2_isMissing_8 : decode cX2_isMissing 8 = .ok (.iconst 1, 1) := by decide +kernel
theorem dX2_isMissing_9 : decode cX2_isMissing 9 = .ok (.goto 4, 3) := by decide +kernel
theorem dX2_isMissing_12 : decode cX2_isMissing 12 = .ok (.iconst 0, 1) := by decide +kernel
theorem dX2_isMissing_13 : decode cX2_isMissing 13 = .ok (.ireturn, 1) := by decide +kernel
theorem dX2_hasPlace_0 : decode cX2_hasPlace 0 = .ok (.iload_n 1, 1) := by decide +kernel
theorem dX2_hasPlace_1 : decode cX2_hasPlace 1 = .ok (.iconst 0, 1) := by decide +kernel
theorem dX2_hasPlace_2 : decode cX2_hasPlace 2 = .ok (.aload_n 0, 1) := by decide +kernel
theorem dX2_hasPlace_3 : decode cX2_hasPlace 3 = .ok (.getfield 19, 3) := by decide +kernel
theorem dX2_hasPlace_6 : decode cX2_hasPlace 6 = .ok (.iconst 1, 1) := by decide +kernel
theorem dX2_hasPlace_7 : decode cX2_hasPlace 7 = .ok (.isub, 1) := by decide +kernel
theorem dX2_hasPlace_8 : decode cX2_hasPlace 8 = .ok (.invokestatic 22, 3) := by decide +kernel
theorem dX2_hasPlace_11 : decode cX2_hasPlace 11 = .ok (.ireturn, 1) := by decide +kernel
theorem dX2_hasPlaces_0 : decode cX2_hasPlaces 0 = .ok (.iload_n 2, 1) := by decide +kernel
theorem dX2_hasPlaces_1 : decode cX2_hasPlaces 1 = .ok (.ifCond .lt 21, 3) := by decide +kernel
theorem dX2_hasPlaces_4 : decode cX2_hasPlaces 4 = .ok (.iload_n 1, 1) := by decide +kernel
theorem dX2_hasPlaces_5 : decode cX2_hasPlaces 5 = .ok (.ifCond .lt 17, 3) := by decide +kernel
theorem dX2_hasPlaces_8 : decode cX2_hasPlaces 8 = .ok (.iload_n 1, 1) := by decide +kernel
theorem dX2_hasPlaces_9 : decode cX2_hasPlaces 9 = .ok (.aload_n 0, 1) := by decide +kernel
theorem dX2_hasPlaces_10 : decode cX2_hasPlaces 10 = .ok (.getfield 19, 3) := by decide +kernel
theorem dX2_hasPlaces_13 : decode cX2_hasPlaces 13 = .ok (.iload_n 2, 1) := by decide +kernel
theorem dX2_hasPlaces_14 : decode cX2_hasPlaces 14 = .ok (.isub, 1) := by decide +kernel
theorem dX2_hasPlaces_15 : decode cX2_hasPlaces 15 = .ok (.if_icmp .gt 7, 3) := by decide +kernel
theorem dX2_hasPlaces_18 : decode cX2_hasPlaces 18 = .ok (.iconst 1, 1) := by decide +kernel
theorem dX2_hasPlaces_19 : decode cX2_hasPlaces 19 = .ok (.goto 4, 3) := by decide +kernel
theorem dX2_hasPlaces_22 : decode cX2_hasPlaces 22 = .ok (.iconst 0, 1) := by decide +kernel
theorem dX2_hasPlaces_23 : decode cX2_hasPlaces 23 = .ok (.ireturn, 1) := by decide +kernel
theorem dX2_isNumber_0 : decode cX2_isNumber 0 = .ok (.aload_n 0, 1) := by decide +kernel
theorem dX2_isNumber_1 : decode cX2_isNumber 1 = .ok (.getfield 9, 3) := by decide +kernel
theorem dX2_isNumber_4 : decode cX2_isNumber 4 = .ok (.iload_n 1, 1) := by decide +kernel
theorem dX2_isNumber_5 : decode cX2_isNumber 5 = .ok (.iaload, 1) := by decide +kernel
theorem dX2_isNumber_6 : decode cX2_isNumber 6 = .ok (.ldc 26, 2) := by decide +kernel
theorem dX2_isNumber_8 : decode cX2_isNumber 8 = .ok (.if_icmp .eq 7, 3) := by decide +kernel
theorem dX2_isNumber_11 : decode cX2_isNumber 11 = .ok (.iconst 1, 1) := by decide +kernel
theorem dX2_isNumber_12 : decode cX2_isNumber 12 = .ok (.goto 4, 3) := by decide +kernel
theorem dX2_isNumber_15 : decode cX2_isNumber 15 = .ok (.iconst 0, 1) := by decide +kernel
theorem dX2_isNumber_16 : decode cX2_isNumber 16 = .ok (.ireturn, 1) := by decide +kernel
theorem dX2_renew_0 : decode cX2_renew 0 = .ok (.aload_n 0, 1) := by decide +kernel
theorem dX2_renew_1 : decode cX2_renew 1 = .ok (.iload_n 1, 1) := by decide +kernel
theorem dX2_renew_2 : decode cX2_renew 2 = .ok (.putfield 15, 3) := by decide +kernel
theorem dX2_renew_5 : decode cX2_renew 5 = .ok (.aload_n 0, 1) := by decide +kernel
theorem dX2_renew_6 : decode cX2_renew 6 = .ok (.iload_n 2, 1) := by decide +kernel
theorem dX2_renew_7 : decode cX2_renew 7 = .ok (.putfield 19, 3) := by decide +kernel
theorem dX2_renew_10 : decode cX2_renew 10 = .ok (.aload_n 0, 1) := by decide +kernel
theorem dX2_renew_11 : decode cX2_renew 11 = .ok (.getfield 9, 3) := by decide +kernel
theorem dX2_renew_14 : decode cX2_renew 14 = .ok (.iconst 0, 1) := by decide +kernel
theorem dX2_renew_15 : decode cX2_renew 15 = .ok (.invokestatic 27, 3) := by decide +kernel
theorem dX2_renew_18 : decode cX2_renew 18 = .ok (.return_, 1) := by decide +kernel
theorem dX2_takeFrom_0 : decode cX2_takeFrom 0 = .ok (.aload_n 0, 1) := by decide +kernel
theorem dX2_takeFrom_1 : decode cX2_takeFrom 1 = .ok (.aload_n 1, 1) := by decide +kernel
theorem dX2_takeFrom_2 : decode cX2_takeFrom 2 = .ok (.getfield 15, 3) := by decide +kernel
theorem dX2_takeFrom_5 : decode cX2_takeFrom 5 = .ok (.putfield 15, 3) := by decide +kernel
theorem dX2_takeFrom_8 : decode cX2_takeFrom 8 = .ok (.aload_n 0, 1) := by decide +kernel
theorem dX2_takeFrom_9 : decode cX2_takeFrom 9 = .ok (.aload_n 1, 1) := by decide +kernel
theorem dX2_takeFrom_10 : decode cX2_takeFrom 10 = .ok (.getfield 19, 3) := by decide +kernel
theorem dX2_takeFrom_13 : decode cX2_takeFrom 13 = .ok (.putfield 19, 3) := by decide +kernel
theorem dX2_takeFrom_16 : decode cX2_takeFrom 16 = .ok (.aload_n 1, 1) := by decide +kernel
theorem dX2_takeFrom_17 : decode cX2_takeFrom 17 = .ok (.getfield 9, 3) := by decide +kernel
theorem dX2_takeFrom_20 : decode cX2_takeFrom 20 = .ok (.iconst 0, 1) := by decide +kernel
theorem dX2_takeFrom_21 : decode cX2_takeFrom 21 = .ok (.aload_n 0, 1) := by decide +kernel
theorem dX2_takeFrom_22 : decode cX2_takeFrom 22 = .ok (.getfield 9, 3) := by decide +kernel
theorem dX2_takeFrom_25 : decode cX2_takeFrom 25 = .ok (.iconst 0, 1) := by decide +kernel
theorem dX2_takeFrom_26 : decode cX2_takeFrom 26 = .ok (.bipush 24, 2) := by decide +kernel
theorem dX2_takeFrom_28 : decode cX2_takeFrom 28 = .ok (.invokestatic 33, 3) := by decide +kernel
theorem dX2_takeFrom_31 : decode cX2_takeFrom 31 = .ok (.return_, 1) := by decide +kernel
theorem dX2_placesOn_0 : decode cX2_placesOn 0 = .ok (.iconst 0, 1) := by decide +kernel
theorem dX2_placesOn_1 : decode cX2_placesOn 1 = .ok (.istore_n 3, 1) := by decide +kernel
theorem dX2_placesOn_2 : decode cX2_placesOn 2 = .ok (.iconst 0, 1) := by decide +kernel
theorem dX2_placesOn_3 : decode cX2_placesOn 3 = .ok (.istore 4, 2) := by decide +kernel
theorem dX2_placesOn_5 : decode cX2_placesOn 5 = .ok (.iload 4, 2) := by decide +kernel
theorem dX2_placesOn_7 : decode cX2_placesOn 7 = .ok (.aload_n 0, 1) := by decide +kernel
theorem dX2_placesOn_8 : decode cX2_placesOn 8 = .ok (.getfield 19, 3) := by decide +kernel
theorem dX2_placesOn_11 : decode cX2_placesOn 11 = .ok (.if_icmp .ge 39, 3) := by decide +kernel
theorem dX2_placesOn_14 : decode cX2_placesOn 14 = .ok (.aload_n 0, 1) := by decide +kernel
theorem dX2_placesOn_15 : decode cX2_placesOn 15 = .ok (.getfield 9, 3) := by decide +kernel
theorem dX2_placesOn_18 : decode cX2_placesOn 18 = .ok (.iload 4, 2) := by decide +kernel
theorem dX2_placesOn_20 : decode cX2_placesOn 20 = .ok (.iaload, 1) := by decide +kernel
theorem dX2_placesOn_21 : decode cX2_placesOn 21 = .ok (.invokestatic 39, 3) := by decide +kernel
theorem dX2_placesOn_24 : decode cX2_placesOn 24 = .ok (.ifCond .eq 20, 3) := by decide +kernel
theorem dX2_placesOn_27 : decode cX2_placesOn 27 = .ok (.lload_n 1, 1) := by decide +kernel
theorem dX2_placesOn_28 : decode cX2_placesOn 28 = .ok (.aload_n 0, 1) := by decide +kernel
theorem dX2_placesOn_29 : decode cX2_placesOn 29 = .ok (.getfield 9, 3) := by decide +kernel
theorem dX2_placesOn_32 : decode cX2_placesOn 32 = .ok (.iload 4, 2) := by decide +kernel
theorem dX2_placesOn_34 : decode cX2_placesOn 34 = .ok (.iaload, 1) := by decide +kernel
theorem dX2_placesOn_35 : decode cX2_placesOn 35 = .ok (.invokestatic 43, 3) := by decide +kernel
theorem dX2_placesOn_38 : decode cX2_placesOn 38 = .ok (.ifCond .eq 6, 3) := by decide +kernel
theorem dX2_placesOn_41 : decode cX2_placesOn 41 = .ok (.iinc 3 1, 3) := by decide +kernel
theorem dX2_placesOn_44 : decode cX2_placesOn 44 = .ok (.iinc 4 1, 3) := by decide +kernel
theorem dX2_placesOn_47 : decode cX2_placesOn 47 = .ok (.goto (-42), 3) := by decide +kernel
theorem dX2_placesOn_50 : decode cX2_placesOn 50 = .ok (.iload_n 3, 1) := by decide +kernel
theorem dX2_placesOn_51 : decode cX2_placesOn 51 = .ok (.ireturn, 1) := by decide +kernel
theorem dX3_init_0 : decode cX3_init 0 = .ok (.aload_n 0, 1) := by decide +kernel
theorem dX3_init_1 : decode cX3_init 1 = .ok (.invokespecial 1, 3) := by decide +kernel
theorem dX3_init_4 : decode cX3_init 4 = .ok (.aload_n 0, 1) := by decide +kernel
theorem dX3_init_5 : decode cX3_init 5 = .ok (.new 7, 3) := by decide +kernel
theorem dX3_init_8 : decode cX3_init 8 = .ok (.dup, 1) := by decide +kernel
theorem dX3_init_9 : decode cX3_init 9 = .ok (.invokespecial 9, 3) := by decide +kernel
theorem dX3_init_12 : decode cX3_init 12 = .ok (.putfield 10, 3) := by decide +kernel
theorem dX3_init_15 : decode cX3_init 15 = .ok (.aload_n 0, 1) := by decide +kernel
theorem dX3_init_16 : decode cX3_init 16 = .ok (.iconst 0, 1) := by decide +kernel
theorem dX3_init_17 : decode cX3_init 17 = .ok (.putfield 16, 3) := by decide +kernel
theorem dX3_init_20 : decode cX3_init 20 = .ok (.return_, 1) := by decide +kernel
theorem dX4_init_0 : decode cX4_init 0 = .ok (.aload_n 0, 1) := by decide +kernel
theorem dX4_init_1 : decode cX4_init 1 = .ok (.invokespecial 3, 3) := by decide +kernel
theorem dX4_init_4 : decode cX4_init 4 = .ok (.aload_n 0, 1) := by decide +kernel
theorem dX4_init_5 : decode cX4_init 5 = .ok (.bipush 96, 2) := by decide +kernel
theorem dX4_init_7 : decode cX4_init 7 = .ok (.newarray .int, 2) := by decide +kernel
theorem dX4_init_9 : decode cX4_init 9 = .ok (.putfield 9, 3) := by decide +kernel
theorem dX4_init_12 : decode cX4_init 12 = .ok (.aload_n 0, 1) := by decide +kernel
theorem dX4_init_13 : decode cX4_init 13 = .ok (.bipush 96, 2) := by decide +kernel
theorem dX4_init_15 : decode cX4_init 15 = .ok (.newarray .int, 2) := by decide +kernel
theorem dX4_init_17 : decode cX4_init 17 = .ok (.putfield 15, 3) := by decide +kernel
theorem dX4_init_20 : decode cX4_init 20 = .ok (.return_, 1) := by decide +kernel
theorem dX4_addBytes_0 : decode cX4_addBytes 0 = .ok (.bipush 24, 2) := by decide +kernel
theorem dX4_addBytes_2 : decode cX4_addBytes 2 = .ok (.istore_n 2, 1) := by decide +kernel
theorem dX4_addBytes_3 : decode cX4_addBytes 3 = .ok (.iload_n 2, 1) := by decide +kernel
theorem dX4_addBytes_4 : decode cX4_addBytes 4 = .ok (.ifCond .lt 44, 3) := by decide +kernel
theorem dX4_addBytes_7 : decode cX4_addBytes 7 = .ok (.aload_n 0, 1) := by decide +kernel
theorem dX4_addBytes_8 : decode cX4_addBytes 8 = .ok (.getfield 18, 3) := by decide +kernel
theorem dX4_addBytes_11 : decode cX4_addBytes 11 = .ok (.bipush 96, 2) := by decide +kernel
theorem dX4_addBytes_13 : decode cX4_addBytes 13 = .ok (.if_icmp .ge 35, 3) := by decide +kernel
theorem dX4_addBytes_16 : decode cX4_addBytes 16 = .ok (.aload_n 0, 1) := by decide +kernel
theorem dX4_addBytes_17 : decode cX4_addBytes 17 = .ok (.getfield 9, 3) := by decide +kernel
theorem dX4_addBytes_20 : decode cX4_addBytes 20 = .ok (.aload_n 0, 1) := by decide +kernel
theorem dX4_addBytes_21 : decode cX4_addBytes 21 = .ok (.getfield 18, 3) := by decide +kernel
theorem dX4_addBytes_24 : decode cX4_addBytes 24 = .ok (.iload_n 1, 1) := by decide +kernel
theorem dX4_addBytes_25 : decode cX4_addBytes 25 = .ok (.iload_n 2, 1) := by decide +kernel
theorem dX4_addBytes_26 : decode cX4_addBytes 26 = .ok (.iushr, 1) := by decide +kernel
theorem dX4_addBytes_27 : decode cX4_addBytes 27 = .ok (.sipush 255, 3) := by decide +kernel
theorem dX4_addBytes_30 : decode cX4_addBytes 30 = .ok (.iand, 1) := by decide +kernel
theorem dX4_addBytes_31 : decode cX4_addBytes 31 = .ok (.iastore, 1) := by decide +kernel
theorem dX4_addBytes_32 : decode cX4_addBytes 32 = .ok (.aload_n 0, 1) := by decide +kernel
theorem dX4_addBytes_33 : decode cX4_addBytes 33 = .ok (.dup, 1) := by decide +kernel
theorem dX4_addBytes_34 : decode cX4_addBytes 34 = .ok (.getfield 18, 3) := by decide +kernel
theorem dX4_addBytes_37 : decode cX4_addBytes 37 = .ok (.iconst 1, 1) := by decide +kernel
theorem dX4_addBytes_38 : decode cX4_addBytes 38 = .ok (.iadd, 1) := by decide +kernel
theorem dX4_addBytes_39 : decode cX4_addBytes 39 = .ok (.putfield 18, 3) := by decide +kernel
theorem dX4_addBytes_42 : decode cX4_addBytes 42 = .ok (.iinc 2 (-8), 3) := by decide +kernel
theorem dX4_addBytes_45 : decode cX4_addBytes 45 = .ok (.goto (-42), 3) := by decide +kernel
theorem dX4_addBytes_48 : decode cX4_addBytes 48 = .ok (.return_, 1) := by decide +kernel
theorem dX4_findFault_0 : decode cX4_findFault 0 = .ok (.aload_n 0, 1) := by decide +kernel
theorem dX4_findFault_1 : decode cX4_findFault 1 = .ok (.iconst 0, 1) := by decide +kernel
theorem dX4_findFault_2 : decode cX4_findFault 2 = .ok (.putfield 22, 3) := by decide +kernel
theorem dX4_findFault_5 : decode cX4_findFault 5 = .ok (.aload_n 0, 1) := by decide +kernel
theorem dX4_findFault_6 : decode cX4_findFault 6 = .ok (.iconst 0, 1) := by decide +kernel
theorem dX4_findFault_7 : decode cX4_findFault 7 = .ok (.putfield 25, 3) := by decide +kernel
theorem dX4_findFault_10 : decode cX4_findFault 10 = .ok (.aload_n 0, 1) := by decide +kernel
theorem dX4_findFault_11 : decode cX4_findFault 11 = .ok (.iconst (-1), 1) := by decide +kernel
theorem dX4_findFault_12 : decode cX4_findFault 12 = .ok (.putfield 28, 3) := by decide +kernel
theorem dX4_findFault_15 : decode cX4_findFault 15 = .ok (.aload_n 0, 1) := by decide +kernel
theorem dX4_findFault_16 : decode cX4_findFault 16 = .ok (.iconst 0, 1) := by decide +kernel
theorem dX4_findFault_17 : decode cX4_findFault 17 = .ok (.putfield 31, 3) := by decide +kernel
theorem dX4_findFault_20 : decode cX4_findFault 20 = .ok (.aload_n 0, 1) := by decide +kernel
theorem dX4_findFault_21 : decode cX4_findFault 21 = .ok (.iconst 0, 1) := by decide +kernel
theorem dX4_findFault_22 : decode cX4_findFault 22 = .ok (.putfield 34, 3) := by decide +kernel
theorem dX4_findFault_25 : decode cX4_findFault 25 = .ok (.aload_n 0, 1) := by decide +kernel
theorem dX4_findFault_26 : decode cX4_findFault 26 = .ok (.invokevirtual 37, 3) := by decide +kernel
theorem dX4_findFault_29 : decode cX4_findFault 29 = .ok (.aload_n 0, 1) := by decide +kernel
theorem dX4_findFault_30 : decode cX4_findFault 30 = .ok (.aload_n 0, 1) := by decide +kernel
theorem dX4_findFault_31 : decode cX4_findFault 31 = .ok (.invokevirtual 40, 3) := by decide +kernel
theorem dX4_findFault_34 : decode cX4_findFault 34 = .ok (.putfield 44, 3) := by decide +kernel
theorem dX4_findFault_37 : decode cX4_findFault 37 = .ok (.aload_n 0, 1) := by decide +kernel
theorem dX4_findFault_38 : decode cX4_findFault 38 = .ok (.getfield 44, 3) := by decide +kernel
theorem dX4_findFault_41 : decode cX4_findFault 41 = .ok (.ifCond .ge 12, 3) := by decide +kernel
theorem dX4_findFault_44 : decode cX4_findFault 44 = .ok (.aload_n 0, 1) := by decide +kernel
theorem dX4_findFault_45 : decode cX4_findFault 45 = .ok (.invokevirtual 47, 3) := by decide +kernel
theorem dX4_findFault_48 : decode cX4_findFault 48 = .ok (.aload_n 0, 1) := by decide +kernel
theorem dX4_findFault_49 : decode cX4_findFault 49 = .ok (.getfield 28, 3) := by decide +kernel
theorem dX4_findFault_52 : decode cX4_findFault 52 = .ok (.ireturn, 1) := by decide +kernel
theorem dX4_findFault_53 : decode cX4_findFault 53 = .ok (.aload_n 0, 1) := by decide +kernel
theorem dX4_findFault_54 : decode cX4_findFault 54 = .ok (.invokevirtual 37, 3) := by decide +kernel
theorem dX4_findFault_57 : decode cX4_findFault 57 = .ok (.aload_n 0, 1) := by decide +kernel
theorem dX4_findFault_58 : decode cX4_findFault 58 = .ok (.iconst 0, 1) := by decide +kernel
theorem dX4_findFault_59 : decode cX4_findFault 59 = .ok (.iconst 0, 1) := by decide +kernel
theorem dX4_findFault_60 : decode cX4_findFault 60 = .ok (.iconst 0, 1) := by decide +kernel
theorem dX4_findFault_61 : decode cX4_findFault 61 = .ok (.invokevirtual 50, 3) := by decide +kernel
theorem dX4_findFault_64 : decode cX4_findFault 64 = .ok (.aload_n 0, 1) := by decide +kernel
theorem dX4_findFault_65 : decode cX4_findFault 65 = .ok (.getfield 25, 3) := by decide +kernel
theorem dX4_findFault_68 : decode cX4_findFault 68 = .ok (.ifCond .eq 7, 3) := by decide +kernel
theorem dX4_findFault_71 : decode cX4_findFault 71 = .ok (.aload_n 0, 1) := by decide +kernel
theorem dX4_findFault_72 : decode cX4_findFault 72 = .ok (.invokevirtual 47, 3) := by decide +kernel
theorem dX4_findFault_75 : decode cX4_findFault 75 = .ok (.aload_n 0, 1) := by decide +kernel
theorem dX4_findFault_76 : decode cX4_findFault 76 = .ok (.getfield 28, 3) := by decide +kernel
theorem dX4_findFault_79 : decode cX4_findFault 79 = .ok (.ireturn, 1) := by decide +kernel
theorem dX4_toText_0 : decode cX4_toText 0 = .ok (.new 54, 3) := by decide +kernel
theorem dX4_toText_3 : decode cX4_toText 3 = .ok (.dup, 1) := by decide +kernel
theorem dX4_toText_4 : decode cX4_toText 4 = .ok (.aload_n 0, 1) := by decide +kernel
theorem dX4_toText_5 : decode cX4_toText 5 = .ok (.getfield 44, 3) := by decide +kernel
theorem dX4_toText_8 : decode cX4_toText 8 = .ok (.aload_n 0, 1) := by decide +kernel
theorem dX4_toText_9 : decode cX4_toText 9 = .ok (.getfield 34, 3) := by decide +kernel
theorem dX4_toText_12 : decode cX4_toText 12 = .ok (.aload_n 0, 1) := by decide +kernel
theorem dX4_toText_13 : decode cX4_toText 13 = .ok (.getfield 15, 3) := by decide +kernel
theorem dX4_toText_16 : decode cX4_toText 16 = .ok (.aload_n 0, 1) := by decide +kernel
theorem dX4_toText_17 : decode cX4_toText 17 = .ok (.getfield 31, 3) := by decide +kernel
theorem dX4_toText_20 : decode cX4_toText 20 = .ok (.invokestatic 56, 3) := by decide +kernel
theorem dX4_toText_23 : decode cX4_toText 23 = .ok (.invokespecial 62, 3) := by decide +kernel
theorem dX4_toText_26 : decode cX4_toText 26 = .ok (.areturn, 1) := by decide +kernel
theorem dX4_advance_0 : decode cX4_advance 0 = .ok (.aload_n 0, 1) := by decide +kernel
theorem dX4_advance_1 : decode cX4_advance 1 = .ok (.invokevirtual 65, 3) := by decide +kernel
theorem dX4_advance_4 : decode cX4_advance 4 = .ok (.istore_n 1, 1) := by decide +kernel
theorem dX4_advance_5 : decode cX4_advance 5 = .ok (.aload_n 0, 1) := by decide +kernel
theorem dX4_advance_6 : decode cX4_advance 6 = .ok (.getfield 22, 3) := by decide +kernel
theorem dX4_advance_9 : decode cX4_advance 9 = .ok (.istore_n 2, 1) := by decide +kernel
theorem dX4_advance_10 : decode cX4_advance 10 = .ok (.aload_n 0, 1) := by decide +kernel
theorem dX4_advance_11 : decode cX4_advance 11 = .ok (.aload_n 0, 1) := by decide +kernel
theorem dX4_advance_12 : decode cX4_advance 12 = .ok (.getfield 22, 3) := by decide +kernel
theorem dX4_advance_15 : decode cX4_advance 15 = .ok (.putfield 69, 3) := by decide +kernel
theorem dX4_advance_18 : decode cX4_advance 18 = .ok (.aload_n 0, 1) := by decide +kernel
theorem dX4_advance_19 : decode cX4_advance 19 = .ok (.getfield 69, 3) := by decide +kernel
theorem dX4_advance_22 : decode cX4_advance 22 = .ok (.aload_n 0, 1) := by decide +kernel
theorem dX4_advance_23 : decode cX4_advance 23 = .ok (.getfield 18, 3) := by decide +kernel
theorem dX4_advance_26 : decode cX4_advance 26 = .ok (.if_icmp .ge 30, 3) := by decide +kernel
theorem dX4_advance_29 : decode cX4_advance 29 = .ok (.aload_n 0, 1) := by decide +kernel
theorem dX4_advance_30 : decode cX4_advance 30 = .ok (.getfield 9, 3) := by decide +kernel
theorem dX4_advance_33 : decode cX4_advance 33 = .ok (.aload_n 0, 1) := by decide +kernel
theorem dX4_advance_34 : decode cX4_advance 34 = .ok (.getfield 69, 3) := by decide +kernel
theorem dX4_advance_37 : decode cX4_advance 37 = .ok (.iaload, 1) := by decide +kernel
theorem dX4_advance_38 : decode cX4_advance 38 = .ok (.bipush 32, 2) := by decide +kernel
theorem dX4_advance_40 : decode cX4_advance 40 = .ok (.if_icmp .ne 16, 3) := by decide +kernel
theorem dX4_advance_43 : decode cX4_advance 43 = .ok (.aload_n 0, 1) := by decide +kernel
theorem dX4_advance_44 : decode cX4_advance 44 = .ok (.dup, 1) := by decide +kernel
theorem dX4_advance_45 : decode cX4_advance 45 = .ok (.getfield 69, 3) := by decide +kernel
theorem dX4_advance_48 : decode cX4_advance 48 = .ok (.iconst 1, 1) := by decide +kernel
theorem dX4_advance_49 : decode cX4_advance 49 = .ok (.iadd, 1) := by decide +kernel
theorem dX4_advance_50 : decode cX4_advance 50 = .ok (.putfield 69, 3) := by decide +kernel
theorem dX4_advance_53 : decode cX4_advance 53 = .ok (.goto (-35), 3) := by decide +kernel
theorem dX4_advance_56 : decode cX4_advance 56 = .ok (.aload_n 0, 1) := by decide +kernel
theorem dX4_advance_57 : decode cX4_advance 57 = .ok (.aload_n 0, 1) := by decide +kernel
theorem dX4_advance_58 : decode cX4_advance 58 = .ok (.aload_n 0, 1) := by decide +kernel
theorem dX4_advance_59 : decode cX4_advance 59 = .ok (.getfield 69, 3) := by decide +kernel
theorem dX4_advance_62 : decode cX4_advance 62 = .ok (.invokevirtual 72, 3) := by decide +kernel
theorem dX4_advance_65 : decode cX4_advance 65 = .ok (.putfield 25, 3) := by decide +kernel
theorem dX4_advance_68 : decode cX4_advance 68 = .ok (.aload_n 0, 1) := by decide +kernel
theorem dX4_advance_69 : decode cX4_advance 69 = .ok (.aload_n 0, 1) := by decide +kernel
theorem dX4_advance_70 : decode cX4_advance 70 = .ok (.getfield 18, 3) := by decide +kernel
theorem dX4_advance_73 : decode cX4_advance 73 = .ok (.aload_n 0, 1) := by decide +kernel
theorem dX4_advance_74 : decode cX4_advance 74 = .ok (.getfield 69, 3) := by decide +kernel
theorem dX4_advance_77 : decode cX4_advance 77 = .ok (.iconst 1, 1) := by decide +kernel
theorem dX4_advance_78 : decode cX4_advance 78 = .ok (.iadd, 1) := by decide +kernel
theorem dX4_advance_79 : decode cX4_advance 79 = .ok (.invokestatic 76, 3) := by decide +kernel
theorem dX4_advance_82 : decode cX4_advance 82 = .ok (.putfield 22, 3) := by decide +kernel
theorem dX4_advance_85 : decode cX4_advance 85 = .ok (.aload_n 0, 1) := by decide +kernel
theorem dX4_advance_86 : decode cX4_advance 86 = .ok (.getfield 22, 3) := by decide +kernel
theorem dX4_advance_89 : decode cX4_advance 89 = .ok (.aload_n 0, 1) := by decide +kernel
theorem dX4_advance_90 : decode cX4_advance 90 = .ok (.getfield 18, 3) := by decide +kernel
theorem dX4_advance_93 : decode cX4_advance 93 = .ok (.if_icmp .ge 38, 3) := by decide +kernel
theorem dX4_advance_96 : decode cX4_advance 96 = .ok (.aload_n 0, 1) := by decide +kernel
theorem dX4_advance_97 : decode cX4_advance 97 = .ok (.invokevirtual 65, 3) := by decide +kernel
theorem dX4_advance_100 : decode cX4_advance 100 = .ok (.ifCond .eq 31, 3) := by decide +kernel
theorem dX4_advance_103 : decode cX4_advance 103 = .ok (.aload_n 0, 1) := by decide +kernel
theorem dX4_advance_104 : decode cX4_advance 104 = .ok (.aload_n 0, 1) := by decide +kernel
theorem dX4_advance_105 : decode cX4_advance 105 = .ok (.getfield 22, 3) := by decide +kernel
theorem dX4_advance_108 : decode cX4_advance 108 = .ok (.invokevirtual 72, 3) := by decide +kernel
theorem dX4_advance_111 : decode cX4_advance 111 = .ok (.aload_n 0, 1) := by decide +kernel
theorem dX4_advance_112 : decode cX4_advance 112 = .ok (.getfield 25, 3) := by decide +kernel
theorem dX4_advance_115 : decode cX4_advance 115 = .ok (.if_icmp .ne 16, 3) := by decide +kernel
theorem dX4_advance_118 : decode cX4_advance 118 = .ok (.aload_n 0, 1) := by decide +kernel
theorem dX4_advance_119 : decode cX4_advance 119 = .ok (.dup, 1) := by decide +kernel
theorem dX4_advance_120 : decode cX4_advance 120 = .ok (.getfield 22, 3) := by decide +kernel
theorem dX4_advance_123 : decode cX4_advance 123 = .ok (.iconst 1, 1) := by decide +kernel
theorem dX4_advance_124 : decode cX4_advance 124 = .ok (.iadd, 1) := by decide +kernel
theorem dX4_advance_125 : decode cX4_advance 125 = .ok (.putfield 22, 3) := by decide +kernel
theorem dX4_advance_128 : decode cX4_advance 128 = .ok (.goto (-43), 3) := by decide +kernel
theorem dX4_advance_131 : decode cX4_advance 131 = .ok (.iload_n 1, 1) := by decide +kernel
theorem dX4_advance_132 : decode cX4_advance 132 = .ok (.ifCond .eq 22, 3) := by decide +kernel
theorem dX4_advance_135 : decode cX4_advance 135 = .ok (.aload_n 0, 1) := by decide +kernel
theorem dX4_advance_136 : decode cX4_advance 136 = .ok (.invokevirtual 65, 3) := by decide +kernel
theorem dX4_advance_139 : decode cX4_advance 139 = .ok (.ifCond .eq 15, 3) := by decide +kernel
theorem dX4_advance_142 : decode cX4_advance 142 = .ok (.aload_n 0, 1) := by decide +kernel
theorem dX4_advance_143 : decode cX4_advance 143 = .ok (.getfield 69, 3) := by decide +kernel
theorem dX4_advance_146 : decode cX4_advance 146 = .ok (.iload_n 2, 1) := by decide +kernel
theorem dX4_advance_147 : decode cX4_advance 147 = .ok (.if_icmp .ne 7, 3) := by decide +kernel
theorem dX4_advance_150 : decode cX4_advance 150 = .ok (.aload_n 0, 1) := by decide +kernel
theorem dX4_advance_151 : decode cX4_advance 151 = .ok (.invokevirtual 47, 3) := by decide +kernel
theorem dX4_advance_154 : decode cX4_advance 154 = .ok (.return_, 1) := by decide +kernel
theorem dX4_isWord_0 : decode cX4_isWord 0 = .ok (.aload_n 0, 1) := by decide +kernel
theorem dX4_isWord_1 : decode cX4_isWord 1 = .ok (.getfield 25, 3) := by decide +kernel
theorem dX4_isWord_4 : decode cX4_isWord 4 = .ok (.iconst 1, 1) := by decide +kernel
theorem dX4_isWord_5 : decode cX4_isWord 5 = .ok (.if_icmp .eq 11, 3) := by decide +kernel
theorem dX4_isWord_8 : decode cX4_isWord 8 = .ok (.aload_n 0, 1) := by decide +kernel
theorem dX4_isWord_9 : decode cX4_isWord 9 = .ok (.getfield 25, 3) := by decide +kernel
theorem dX4_isWord_12 : decode cX4_isWord 12 = .ok (.iconst 2, 1) := by decide +kernel
theorem dX4_isWord_13 : decode cX4_isWord 13 = .ok (.if_icmp .ne 7, 3) := by decide +kernel
theorem dX4_isWord_16 : decode cX4_isWord 16 = .ok (.iconst 1, 1) := by decide +kernel
theorem dX4_isWord_17 : decode cX4_isWord 17 = .ok (.goto 4, 3) := by decide +kernel
theorem dX4_isWord_20 : decode cX4_isWord 20 = .ok (.iconst 0, 1) := by decide +kernel
theorem dX4_isWord_21 : decode cX4_isWord 21 = .ok (.ireturn, 1) := by decide +kernel
theorem dX4_sortAt_0 : decode cX4_sortAt 0 = .ok (.iload_n 1, 1) := by decide +kernel
theorem dX4_sortAt_1 : decode cX4_sortAt 1 = .ok (.aload_n 0, 1) := by decide +kernel
theorem dX4_sortAt_2 : decode cX4_sortAt 2 = .ok (.getfield 18, 3) := by decide +kernel
theorem dX4_sortAt_5 : decode cX4_sortAt 5 = .ok (.if_icmp .lt 5, 3) := by decide +kernel
theorem dX4_sortAt_8 : decode cX4_sortAt 8 = .ok (.iconst 0, 1) := by decide +kernel
theorem dX4_sortAt_9 : decode cX4_sortAt 9 = .ok (.ireturn, 1) := by decide +kernel
theorem dX4_sortAt_10 : decode cX4_sortAt 10 = .ok (.aload_n 0, 1) := by decide +kernel
theorem dX4_sortAt_11 : decode cX4_sortAt 11 = .ok (.getfield 9, 3) := by decide +kernel
theorem dX4_sortAt_14 : decode cX4_sortAt 14 = .ok (.iload_n 1, 1) := by decide +kernel
theorem dX4_sortAt_15 : decode cX4_sortAt 15 = .ok (.iaload, 1) := by decide +kernel
theorem dX4_sortAt_16 : decode cX4_sortAt 16 = .ok (.istore_n 2, 1) := by decide +kernel
theorem dX4_sortAt_17 : decode cX4_sortAt 17 = .ok (.iload_n 2, 1) := by decide +kernel
theorem dX4_sortAt_18 : decode cX4_sortAt 18 = .ok (.bipush 97, 2) := by decide +kernel
theorem dX4_sortAt_20 : decode cX4_sortAt 20 = .ok (.if_icmp .lt 11, 3) := by decide +kernel
theorem dX4_sortAt_23 : decode cX4_sortAt 23 = .ok (.iload_n 2, 1) := by decide +kernel
theorem dX4_sortAt_24 : decode cX4_sortAt 24 = .ok (.bipush 122, 2) := by decide +kernel
theorem dX4_sortAt_26 : decode cX4_sortAt 26 = .ok (.if_icmp .gt 5, 3) := by decide +kernel
theorem dX4_sortAt_29 : decode cX4_sortAt 29 = .ok (.iconst 1, 1) := by decide +kernel
theorem dX4_sortAt_30 : decode cX4_sortAt 30 = .ok (.ireturn, 1) := by decide +kernel
theorem dX4_sortAt_31 : decode cX4_sortAt 31 = .ok (.iload_n 2, 1) := by decide +kernel
theorem dX4_sortAt_32 : decode cX4_sortAt 32 = .ok (.bipush 48, 2) := by decide +kernel
theorem dX4_sortAt_34 : decode cX4_sortAt 34 = .ok (.if_icmp .lt 13, 3) := by decide +kernel
theorem dX4_sortAt_37 : decode cX4_sortAt 37 = .ok (.iload_n 2, 1) := by decide +kernel
theorem dX4_sortAt_38 : decode cX4_sortAt 38 = .ok (.bipush 57, 2) := by decide +kernel
theorem dX4_sortAt_40 : decode cX4_sortAt 40 = .ok (.if_icmp .gt 7, 3) := by decide +kernel
theorem dX4_sortAt_43 : decode cX4_sortAt 43 = .ok (.iconst 2, 1) := by decide +kernel
theorem dX4_sortAt_44 : decode cX4_sortAt 44 = .ok (.goto 4, 3) := by decide +kernel
theorem dX4_sortAt_47 : decode cX4_sortAt 47 = .ok (.iconst 3, 1) := by decide +kernel
theorem dX4_sortAt_48 : decode cX4_sortAt 48 = .ok (.ireturn, 1) := by decide +kernel
theorem dX4_blame_0 : decode cX4_blame 0 = .ok (.aload_n 0, 1) := by decide +kernel
theorem dX4_blame_1 : decode cX4_blame 1 = .ok (.getfield 28, 3) := by decide +kernel
theorem dX4_blame_4 : decode cX4_blame 4 = .ok (.ifCond .ge 11, 3) := by decide +kernel
theorem dX4_blame_7 : decode cX4_blame 7 = .ok (.aload_n 0, 1) := by decide +kernel
theorem dX4_blame_8 : decode cX4_blame 8 = .ok (.aload_n 0, 1) := by decide +kernel
theorem dX4_blame_9 : decode cX4_blame 9 = .ok (.getfield 69, 3) := by decide +kernel
theorem dX4_blame_12 : decode cX4_blame 12 = .ok (.putfield 28, 3) := by decide +kernel
theorem dX4_blame_15 : decode cX4_blame 15 = .ok (.return_, 1) := by decide +kernel
theorem dX4_keyHere_0 : decode cX4_keyHere 0 = .ok (.aload_n 0, 1) := by decide +kernel
theorem dX4_keyHere_1 : decode cX4_keyHere 1 = .ok (.ldc 82, 2) := by decide +kernel
theorem dX4_keyHere_3 : decode cX4_keyHere 3 = .ok (.invokevirtual 84, 3) := by decide +kernel
theorem dX4_keyHere_6 : decode cX4_keyHere 6 = .ok (.ifCond .eq 5, 3) := by decide +kernel
theorem dX4_keyHere_9 : decode cX4_keyHere 9 = .ok (.iconst 0, 1) := by decide +kernel
theorem dX4_keyHere_10 : decode cX4_keyHere 10 = .ok (.ireturn, 1) := by decide +kernel
theorem dX4_keyHere_11 : decode cX4_keyHere 11 = .ok (.aload_n 0, 1) := by decide +kernel
theorem dX4_keyHere_12 : decode cX4_keyHere 12 = .ok (.ldc 88, 2) := by decide +kernel
theorem dX4_keyHere_14 : decode cX4_keyHere 14 = .ok (.invokevirtual 84, 3) := by decide +kernel
theorem dX4_keyHere_17 : decode cX4_keyHere 17 = .ok (.ifCond .eq 5, 3) := by decide +kernel
theorem dX4_keyHere_20 : decode cX4_keyHere 20 = .ok (.iconst 1, 1) := by decide +kernel
theorem dX4_keyHere_21 : decode cX4_keyHere 21 = .ok (.ireturn, 1) := by decide +kernel
theorem dX4_keyHere_22 : decode cX4_keyHere 22 = .ok (.aload_n 0, 1) := by decide +kernel
theorem dX4_keyHere_23 : decode cX4_keyHere 23 = .ok (.ldc 90, 2) := by decide +kernel
theorem dX4_keyHere_25 : decode cX4_keyHere 25 = .ok (.invokevirtual 84, 3) := by decide +kernel
theorem dX4_keyHere_28 : decode cX4_keyHere 28 = .ok (.ifCond .eq 7, 3) := by decide +kernel
theorem dX4_keyHere_31 : decode cX4_keyHere 31 = .ok (.iconst 2, 1) := by decide +kernel
theorem dX4_keyHere_32 : decode cX4_keyHere 32 = .ok (.goto 4, 3) := by decide +kernel
theorem dX4_keyHere_35 : decode cX4_keyHere 35 = .ok (.iconst (-1), 1) := by decide +kernel
theorem dX4_keyHere_36 : decode cX4_keyHere 36 = .ok (.ireturn, 1) := by decide +kernel
theorem dX4_wordIs_0 : decode cX4_wordIs 0 = .ok (.aload_n 0, 1) := by decide +kernel
theorem dX4_wordIs_1 : decode cX4_wordIs 1 = .ok (.getfield 25, 3) := by decide +kernel
theorem dX4_wordIs_4 : decode cX4_wordIs 4 = .ok (.iconst 1, 1) := by decide +kernel
theorem dX4_wordIs_5 : decode cX4_wordIs 5 = .ok (.if_icmp .ne 19, 3) := by decide +kernel
theorem dX4_wordIs_8 : decode cX4_wordIs 8 = .ok (.aload_n 0, 1) := by decide +kernel
theorem dX4_wordIs_9 : decode cX4_wordIs 9 = .ok (.getfield 22, 3) := by decide +kernel
theorem dX4_wordIs_12 : decode cX4_wordIs 12 = .ok (.aload_n 0, 1) := by decide +kernel
theorem dX4_wordIs_13 : decode cX4_wordIs 13 = .ok (.getfield 69, 3) := by decide +kernel
theorem dX4_wordIs_16 : decode cX4_wordIs 16 = .ok (.isub, 1) := by decide +kernel
theorem dX4_wordIs_17 : decode cX4_wordIs 17 = .ok (.aload_n 1, 1) := by decide +kernel
theorem dX4_wordIs_18 : decode cX4_wordIs 18 = .ok (.invokevirtual 92, 3) := by decide +kernel
theorem dX4_wordIs_21 : decode cX4_wordIs 21 = .ok (.if_icmp .eq 5, 3) := by decide +kernel
theorem dX4_wordIs_24 : decode cX4_wordIs 24 = .ok (.iconst 0, 1) := by decide +kernel
theorem dX4_wordIs_25 : decode cX4_wordIs 25 = .ok (.ireturn, 1) := by decide +kernel
theorem dX4_wordIs_26 : decode cX4_wordIs 26 = .ok (.iconst 0, 1) := by decide +kernel
theorem dX4_wordIs_27 : decode cX4_wordIs 27 = .ok (.istore_n 2, 1) := by decide +kernel
theorem dX4_wordIs_28 : decode cX4_wordIs 28 = .ok (.iload_n 2, 1) := by decide +kernel
theorem dX4_wordIs_29 : decode cX4_wordIs 29 = .ok (.aload_n 1, 1) := by decide +kernel
theorem dX4_wordIs_30 : decode cX4_wordIs 30 = .ok (.invokevirtual 92, 3) := by decide +kernel
theorem dX4_wordIs_33 : decode cX4_wordIs 33 = .ok (.if_icmp .ge 30, 3) := by decide +kernel
theorem dX4_wordIs_36 : decode cX4_wordIs 36 = .ok (.aload_n 0, 1) := by decide +kernel
theorem dX4_wordIs_37 : decode cX4_wordIs 37 = .ok (.getfield 9, 3) := by decide +kernel
theorem dX4_wordIs_40 : decode cX4_wordIs 40 = .ok (.aload_n 0, 1) := by decide +kernel
theorem dX4_wordIs_41 : decode cX4_wordIs 41 = .ok (.getfield 69, 3) := by decide +kernel
theorem dX4_wordIs_44 : decode cX4_wordIs 44 = .ok (.iload_n 2, 1) := by decide +kernel
theorem dX4_wordIs_45 : decode cX4_wordIs 45 = .ok (.iadd, 1) := by decide +kernel
theorem dX4_wordIs_46 : decode cX4_wordIs 46 = .ok (.iaload, 1) := by decide +kernel
theorem dX4_wordIs_47 : decode cX4_wordIs 47 = .ok (.aload_n 1, 1) := by decide +kernel
theorem dX4_wordIs_48 : decode cX4_wordIs 48 = .ok (.iload_n 2, 1) := by decide +kernel
theorem dX4_wordIs_49 : decode cX4_wordIs 49 = .ok (.invokevirtual 96, 3) := by decide +kernel
theorem dX4_wordIs_52 : decode cX4_wordIs 52 = .ok (.if_icmp .eq 5, 3) := by decide +kernel
theorem dX4_wordIs_55 : decode cX4_wordIs 55 = .ok (.iconst 0, 1) := by decide +kernel
theorem dX4_wordIs_56 : decode cX4_wordIs 56 = .ok (.ireturn, 1) := by decide +kernel
theorem dX4_wordIs_57 : decode cX4_wordIs 57 = .ok (.iinc 2 1, 3) := by decide +kernel
theorem dX4_wordIs_60 : decode cX4_wordIs 60 = .ok (.goto (-32), 3) := by decide +kernel
theorem dX4_wordIs_63 : decode cX4_wordIs 63 = .ok (.iconst 1, 1) := by decide +kernel
theorem dX4_wordIs_64 : decode cX4_wordIs 64 = .ok (.ireturn, 1) := by decide +kernel
theorem dX4_signIs_0 : decode cX4_signIs 0 = .ok (.aload_n 0, 1) := by decide +kernel
theorem dX4_signIs_1 : decode cX4_signIs 1 = .ok (.getfield 25, 3) := by decide +kernel
theorem dX4_signIs_4 : decode cX4_signIs 4 = .ok (.iconst 3, 1) := by decide +kernel
theorem dX4_signIs_5 : decode cX4_signIs 5 = .ok (.if_icmp .ne 31, 3) := by decide +kernel
theorem dX4_signIs_8 : decode cX4_signIs 8 = .ok (.aload_n 0, 1) := by decide +kernel
theorem dX4_signIs_9 : decode cX4_signIs 9 = .ok (.getfield 69, 3) := by decide +kernel
theorem dX4_signIs_12 : decode cX4_signIs 12 = .ok (.aload_n 0, 1) := by decide +kernel
theorem dX4_signIs_13 : decode cX4_signIs 13 = .ok (.getfield 18, 3) := by decide +kernel
theorem dX4_signIs_16 : decode cX4_signIs 16 = .ok (.if_icmp .ge 20, 3) := by decide +kernel
theorem dX4_signIs_19 : decode cX4_signIs 19 = .ok (.aload_n 0, 1) := by decide +kernel
theorem dX4_signIs_20 : decode cX4_signIs 20 = .ok (.getfield 9, 3) := by decide +kernel
theorem dX4_signIs_23 : decode cX4_signIs 23 = .ok (.aload_n 0, 1) := by decide +kernel
theorem dX4_signIs_24 : decode cX4_signIs 24 = .ok (.getfield 69, 3) := by decide +kernel
theorem dX4_signIs_27 : decode cX4_signIs 27 = .ok (.iaload, 1) := by decide +kernel
theorem dX4_signIs_28 : decode cX4_signIs 28 = .ok (.iload_n 1, 1) := by decide +kernel
theorem dX4_signIs_29 : decode cX4_signIs 29 = .ok (.if_icmp .ne 7, 3) := by decide +kernel
theorem dX4_signIs_32 : decode cX4_signIs 32 = .ok (.iconst 1, 1) := by decide +kernel
theorem dX4_signIs_33 : decode cX4_signIs 33 = .ok (.goto 4, 3) := by decide +kernel
theorem dX4_signIs_36 : decode cX4_signIs 36 = .ok (.iconst 0, 1) := by decide +kernel
theorem dX4_signIs_37 : decode cX4_signIs 37 = .ok (.ireturn, 1) := by decide +kernel
theorem dX4_join_0 : decode cX4_join 0 = .ok (.iload_n 1, 1) := by decide +kernel
theorem dX4_join_1 : decode cX4_join 1 = .ok (.iconst 4, 1) := by decide +kernel
theorem dX4_join_2 : decode cX4_join 2 = .ok (.if_icmp .le 10, 3) := by decide +kernel
theorem dX4_join_5 : decode cX4_join 5 = .ok (.aload_n 0, 1) := by decide +kernel
theorem dX4_join_6 : decode cX4_join 6 = .ok (.iload_n 2, 1) := by decide +kernel
theorem dX4_join_7 : decode cX4_join 7 = .ok (.iload_n 3, 1) := by decide +kernel
theorem dX4_join_8 : decode cX4_join 8 = .ok (.invokevirtual 100, 3) := by decide +kernel
theorem dX4_join_11 : decode cX4_join 11 = .ok (.return_, 1) := by decide +kernel
theorem dX4_join_12 : decode cX4_join 12 = .ok (.aload_n 0, 1) := by decide +kernel
theorem dX4_join_13 : decode cX4_join 13 = .ok (.iload_n 1, 1) := by decide +kernel
theorem dX4_join_14 : decode cX4_join 14 = .ok (.iconst 1, 1) := by decide +kernel
theorem dX4_join_15 : decode cX4_join 15 = .ok (.iadd, 1) := by decide +kernel
theorem dX4_join_16 : decode cX4_join 16 = .ok (.iload_n 2, 1) := by decide +kernel
theorem dX4_join_17 : decode cX4_join 17 = .ok (.iload_n 3, 1) := by decide +kernel
theorem dX4_join_18 : decode cX4_join 18 = .ok (.invokevirtual 50, 3) := by decide +kernel
theorem dX4_join_21 : decode cX4_join 21 = .ok (.iload_n 1, 1) := by decide +kernel
theorem dX4_join_22 : decode cX4_join 22 = .ok (.iconst 2, 1) := by decide +kernel
theorem dX4_join_23 : decode cX4_join 23 = .ok (.if_icmp .ne 7, 3) := by decide +kernel
theorem dX4_join_26 : decode cX4_join 26 = .ok (.iconst 1, 1) := by decide +kernel
theorem dX4_join_27 : decode cX4_join 27 = .ok (.goto 5, 3) := by decide +kernel
theorem dX4_join_30 : decode cX4_join 30 = .ok (.bipush 96, 2) := by decide +kernel
theorem dX4_join_32 : decode cX4_join 32 = .ok (.istore 4, 2) := by decide +kernel
theorem dX4_join_34 : decode cX4_join 34 = .ok (.iconst 0, 1) := by decide +kernel
theorem dX4_join_35 : decode cX4_join 35 = .ok (.istore 5, 2) := by decide +kernel
theorem dX4_join_37 : decode cX4_join 37 = .ok (.iload 5, 2) := by decide +kernel
theorem dX4_join_39 : decode cX4_join 39 = .ok (.iload 4, 2) := by decide +kernel
theorem dX4_join_41 : decode cX4_join 41 = .ok (.if_icmp .ge 55, 3) := by decide +kernel
theorem dX4_join_44 : decode cX4_join 44 = .ok (.aload_n 0, 1) := by decide +kernel
theorem dX4_join_45 : decode cX4_join 45 = .ok (.getfield 28, 3) := by decide +kernel
theorem dX4_join_48 : decode cX4_join 48 = .ok (.ifCond .ge 48, 3) := by decide +kernel
theorem dX4_join_51 : decode cX4_join 51 = .ok (.aload_n 0, 1) := by decide +kernel
theorem dX4_join_52 : decode cX4_join 52 = .ok (.iload_n 1, 1) := by decide +kernel
theorem dX4_join_53 : decode cX4_join 53 = .ok (.invokevirtual 104, 3) := by decide +kernel
theorem dX4_join_56 : decode cX4_join 56 = .ok (.ifCond .eq 40, 3) := by decide +kernel
theorem dX4_join_59 : decode cX4_join 59 = .ok (.aload_n 0, 1) := by decide +kernel
theorem dX4_join_60 : decode cX4_join 60 = .ok (.getfield 9, 3) := by decide +kernel
theorem dX4_join_63 : decode cX4_join 63 = .ok (.aload_n 0, 1) := by decide +kernel
theorem dX4_join_64 : decode cX4_join 64 = .ok (.getfield 69, 3) := by decide +kernel
theorem dX4_join_67 : decode cX4_join 67 = .ok (.iaload, 1) := by decide +kernel
theorem dX4_join_68 : decode cX4_join 68 = .ok (.istore 6, 2) := by decide +kernel
theorem dX4_join_70 : decode cX4_join 70 = .ok (.aload_n 0, 1) := by decide +kernel
theorem dX4_join_71 : decode cX4_join 71 = .ok (.invokevirtual 37, 3) := by decide +kernel
theorem dX4_join_74 : decode cX4_join 74 = .ok (.aload_n 0, 1) := by decide +kernel
theorem dX4_join_75 : decode cX4_join 75 = .ok (.iload_n 1, 1) := by decide +kernel
theorem dX4_join_76 : decode cX4_join 76 = .ok (.iconst 1, 1) := by decide +kernel
theorem dX4_join_77 : decode cX4_join 77 = .ok (.iadd, 1) := by decide +kernel
theorem dX4_join_78 : decode cX4_join 78 = .ok (.iload_n 2, 1) := by decide +kernel
theorem dX4_join_79 : decode cX4_join 79 = .ok (.iload_n 3, 1) := by decide +kernel
theorem dX4_join_80 : decode cX4_join 80 = .ok (.invokevirtual 50, 3) := by decide +kernel
theorem dX4_join_83 : decode cX4_join 83 = .ok (.aload_n 0, 1) := by decide +kernel
theorem dX4_join_84 : decode cX4_join 84 = .ok (.iload 6, 2) := by decide +kernel
theorem dX4_join_86 : decode cX4_join 86 = .ok (.ineg, 1) := by decide +kernel
theorem dX4_join_87 : decode cX4_join 87 = .ok (.invokevirtual 108, 3) := by decide +kernel
theorem dX4_join_90 : decode cX4_join 90 = .ok (.iinc 5 1, 3) := by decide +kernel
theorem dX4_join_93 : decode cX4_join 93 = .ok (.goto (-56), 3) := by decide +kernel
theorem dX4_join_96 : decode cX4_join 96 = .ok (.return_, 1) := by decide +kernel
theorem dX4_joinsAt_0 : decode cX4_joinsAt 0 = .ok (.iload_n 1, 1) := by decide +kernel
theorem dX4_joinsAt_1 : decode cX4_joinsAt 1 = .ok (.tableswitch 102 0 3 #[31, 38, 45, 78], 31) := by decide +kernel
theorem dX4_joinsAt_32 : decode cX4_joinsAt 32 = .ok (.aload_n 0, 1) := by decide +kernel
theorem dX4_joinsAt_33 : decode cX4_joinsAt 33 = .ok (.bipush 124, 2) := by decide +kernel
theorem dX4_joinsAt_35 : decode cX4_joinsAt 35 = .ok (.invokevirtual 112, 3) := by decide +kernel
theorem dX4_joinsAt_38 : decode cX4_joinsAt 38 = .ok (.ireturn, 1) := by decide +kernel
theorem dX4_joinsAt_39 : decode cX4_joinsAt 39 = .ok (.aload_n 0, 1) := by decide +kernel
theorem dX4_joinsAt_40 : decode cX4_joinsAt 40 = .ok (.bipush 38, 2) := by decide +kernel
theorem dX4_joinsAt_42 : decode cX4_joinsAt 42 = .ok (.invokevirtual 112, 3) := by decide +kernel
theorem dX4_joinsAt_45 : decode cX4_joinsAt 45 = .ok (.ireturn, 1) := by decide +kernel
theorem dX4_joinsAt_46 : decode cX4_joinsAt 46 = .ok (.aload_n 0, 1) := by decide +kernel
theorem dX4_joinsAt_47 : decode cX4_joinsAt 47 = .ok (.bipush 60, 2) := by decide +kernel
theorem dX4_joinsAt_49 : decode cX4_joinsAt 49 = .ok (.invokevirtual 112, 3) := by decide +kernel
theorem dX4_joinsAt_52 : decode cX4_joinsAt 52 = .ok (.ifCond .ne 21, 3) := by decide +kernel
theorem dX4_joinsAt_55 : decode cX4_joinsAt 55 = .ok (.aload_n 0, 1) := by decide +kernel
theorem dX4_joinsAt_56 : decode cX4_joinsAt 56 = .ok (.bipush 61, 2) := by decide +kernel
theorem dX4_joinsAt_58 : decode cX4_joinsAt 58 = .ok (.invokevirtual 112, 3) := by decide +kernel
theorem dX4_joinsAt_61 : decode cX4_joinsAt 61 = .ok (.ifCond .ne 12, 3) := by decide +kernel
theorem dX4_joinsAt_64 : decode cX4_joinsAt 64 = .ok (.aload_n 0, 1) := by decide +kernel
theorem dX4_joinsAt_65 : decode cX4_joinsAt 65 = .ok (.bipush 62, 2) := by decide +kernel
theorem dX4_joinsAt_67 : decode cX4_joinsAt 67 = .ok (.invokevirtual 112, 3) := by decide +kernel
theorem dX4_joinsAt_70 : decode cX4_joinsAt 70 = .ok (.ifCond .eq 7, 3) := by decide +kernel
theorem dX4_joinsAt_73 : decode cX4_joinsAt 73 = .ok (.iconst 1, 1) := by decide +kernel
theorem dX4_joinsAt_74 : decode cX4_joinsAt 74 = .ok (.goto 4, 3) := by decide +kernel
theorem dX4_joinsAt_77 : decode cX4_joinsAt 77 = .ok (.iconst 0, 1) := by decide +kernel
theorem dX4_joinsAt_78 : decode cX4_joinsAt 78 = .ok (.ireturn, 1) := by decide +kernel
theorem dX4_joinsAt_79 : decode cX4_joinsAt 79 = .ok (.aload_n 0, 1) := by decide +kernel
theorem dX4_joinsAt_80 : decode cX4_joinsAt 80 = .ok (.bipush 43, 2) := by decide +kernel
theorem dX4_joinsAt_82 : decode cX4_joinsAt 82 = .ok (.invokevirtual 112, 3) := by decide +kernel
theorem dX4_joinsAt_85 : decode cX4_joinsAt 85 = .ok (.ifCond .ne 12, 3) := by decide +kernel
theorem dX4_joinsAt_88 : decode cX4_joinsAt 88 = .ok (.aload_n 0, 1) := by decide +kernel
theorem dX4_joinsAt_89 : decode cX4_joinsAt 89 = .ok (.bipush 45, 2) := by decide +kernel
theorem dX4_joinsAt_91 : decode cX4_joinsAt 91 = .ok (.invokevirtual 112, 3) := by decide +kernel
theorem dX4_joinsAt_94 : decode cX4_joinsAt 94 = .ok (.ifCond .eq 7, 3) := by decide +kernel
theorem dX4_joinsAt_97 : decode cX4_joinsAt 97 = .ok (.iconst 1, 1) := by decide +kernel
theorem dX4_joinsAt_98 : decode cX4_joinsAt 98 = .ok (.goto 4, 3) := by decide +kernel
theorem dX4_joinsAt_101 : decode cX4_joinsAt 101 = .ok (.iconst 0, 1) := by decide +kernel
theorem dX4_joinsAt_102 : decode cX4_joinsAt 102 = .ok (.ireturn, 1) := by decide +kernel
theorem dX4_joinsAt_103 : decode cX4_joinsAt 103 = .ok (.aload_n 0, 1) := by decide +kernel
theorem dX4_joinsAt_104 : decode cX4_joinsAt 104 = .ok (.bipush 42, 2) := by decide +kernel
theorem dX4_joinsAt_106 : decode cX4_joinsAt 106 = .ok (.invokevirtual 112, 3) := by decide +kernel
theorem dX4_joinsAt_109 : decode cX4_joinsAt 109 = .ok (.ifCond .ne 12, 3) := by decide +kernel
theorem dX4_joinsAt_112 : decode cX4_joinsAt 112 = .ok (.aload_n 0, 1) := by decide +kernel
theorem dX4_joinsAt_113 : decode cX4_joinsAt 113 = .ok (.bipush 47, 2) := by decide +kernel
theorem dX4_joinsAt_115 : decode cX4_joinsAt 115 = .ok (.invokevirtual 112, 3) := by decide +kernel
theorem dX4_joinsAt_118 : decode cX4_joinsAt 118 = .ok (.ifCond .eq 7, 3) := by decide +kernel
theorem dX4_joinsAt_121 : decode cX4_joinsAt 121 = .ok (.iconst 1, 1) := by decide +kernel
theorem dX4_joinsAt_122 : decode cX4_joinsAt 122 = .ok (.goto 4, 3) := by decide +kernel
theorem dX4_joinsAt_125 : decode cX4_joinsAt 125 = .ok (.iconst 0, 1) := by decide +kernel
theorem dX4_joinsAt_126 : decode cX4_joinsAt 126 = .ok (.ireturn, 1) := by decide +kernel
theorem dX4_readPiece_0 : decode cX4_readPiece 0 = .ok (.aload_n 0, 1) := by decide +kernel
theorem dX4_readPiece_1 : decode cX4_readPiece 1 = .ok (.getfield 28, 3) := by decide +kernel
theorem dX4_readPiece_4 : decode cX4_readPiece 4 = .ok (.ifCond .lt 4, 3) := by decide +kernel
theorem dX4_readPiece_7 : decode cX4_readPiece 7 = .ok (.return_, 1) := by decide +kernel
theorem dX4_readPiece_8 : decode cX4_readPiece 8 = .ok (.aload_n 0, 1) := by decide +kernel
theorem dX4_readPiece_9 : decode cX4_readPiece 9 = .ok (.getfield 25, 3) := by decide +kernel
theorem dX4_readPiece_12 : decode cX4_readPiece 12 = .ok (.iconst 2, 1) := by decide +kernel
theorem dX4_readPiece_13 : decode cX4_readPiece 13 = .ok (.if_icmp .ne 10, 3) := by decide +kernel
theorem dX4_readPiece_16 : decode cX4_readPiece 16 = .ok (.aload_n 0, 1) := by decide +kernel
theorem dX4_readPiece_17 : decode cX4_readPiece 17 = .ok (.invokevirtual 116, 3) := by decide +kernel
theorem dX4_readPiece_20 : decode cX4_readPiece 20 = .ok (.goto 93, 3) := by decide +kernel
theorem dX4_readPiece_23 : decode cX4_readPiece 23 = .ok (.aload_n 0, 1) := by decide +kernel
theorem dX4_readPiece_24 : decode cX4_readPiece 24 = .ok (.getfield 25, 3) := by decide +kernel
theorem dX4_readPiece_27 : decode cX4_readPiece 27 = .ok (.iconst 1, 1) := by decide +kernel
theorem dX4_readPiece_28 : decode cX4_readPiece 28 = .ok (.if_icmp .ne 10, 3) := by decide +kernel
theorem dX4_readPiece_31 : decode cX4_readPiece 31 = .ok (.aload_n 0, 1) := by decide +kernel
theorem dX4_readPiece_32 : decode cX4_readPiece 32 = .ok (.invokevirtual 119, 3) := by decide +kernel
theorem dX4_readPiece_35 : decode cX4_readPiece 35 = .ok (.goto 78, 3) := by decide +kernel
theorem dX4_readPiece_38 : decode cX4_readPiece 38 = .ok (.aload_n 0, 1) := by decide +kernel
theorem dX4_readPiece_39 : decode cX4_readPiece 39 = .ok (.bipush 33, 2) := by decide +kernel
theorem dX4_readPiece_41 : decode cX4_readPiece 41 = .ok (.invokevirtual 112, 3) := by decide +kernel
theorem dX4_readPiece_44 : decode cX4_readPiece 44 = .ok (.ifCond .eq 30, 3) := by decide +kernel
theorem dX4_readPiece_47 : decode cX4_readPiece 47 = .ok (.iload_n 2, 1) := by decide +kernel
theorem dX4_readPiece_48 : decode cX4_readPiece 48 = .ok (.bipush 8, 2) := by decide +kernel
theorem dX4_readPiece_50 : decode cX4_readPiece 50 = .ok (.if_icmp .ge 24, 3) := by decide +kernel
theorem dX4_readPiece_53 : decode cX4_readPiece 53 = .ok (.aload_n 0, 1) := by decide +kernel
theorem dX4_readPiece_54 : decode cX4_readPiece 54 = .ok (.invokevirtual 37, 3) := by decide +kernel
theorem dX4_readPiece_57 : decode cX4_readPiece 57 = .ok (.aload_n 0, 1) := by decide +kernel
theorem dX4_readPiece_58 : decode cX4_readPiece 58 = .ok (.iload_n 1, 1) := by decide +kernel
theorem dX4_readPiece_59 : decode cX4_readPiece 59 = .ok (.iload_n 2, 1) := by decide +kernel
theorem dX4_readPiece_60 : decode cX4_readPiece 60 = .ok (.iconst 1, 1) := by decide +kernel
theorem dX4_readPiece_61 : decode cX4_readPiece 61 = .ok (.iadd, 1) := by decide +kernel
theorem dX4_readPiece_62 : decode cX4_readPiece 62 = .ok (.invokevirtual 100, 3) := by decide +kernel
theorem dX4_readPiece_65 : decode cX4_readPiece 65 = .ok (.aload_n 0, 1) := by decide +kernel
theorem dX4_readPiece_66 : decode cX4_readPiece 66 = .ok (.bipush (-33), 2) := by decide +kernel
theorem dX4_readPiece_68 : decode cX4_readPiece 68 = .ok (.invokevirtual 108, 3) := by decide +kernel
theorem dX4_readPiece_71 : decode cX4_readPiece 71 = .ok (.goto 42, 3) := by decide +kernel
theorem dX4_readPiece_74 : decode cX4_readPiece 74 = .ok (.aload_n 0, 1) := by decide +kernel
theorem dX4_readPiece_75 : decode cX4_readPiece 75 = .ok (.bipush 40, 2) := by decide +kernel
theorem dX4_readPiece_77 : decode cX4_readPiece 77 = .ok (.invokevirtual 112, 3) := by decide +kernel
theorem dX4_readPiece_80 : decode cX4_readPiece 80 = .ok (.ifCond .eq 29, 3) := by decide +kernel
theorem dX4_readPiece_83 : decode cX4_readPiece 83 = .ok (.iload_n 1, 1) := by decide +kernel
theorem dX4_readPiece_84 : decode cX4_readPiece 84 = .ok (.bipush 8, 2) := by decide +kernel
theorem dX4_readPiece_86 : decode cX4_readPiece 86 = .ok (.if_icmp .ge 23, 3) := by decide +kernel
theorem dX4_readPiece_89 : decode cX4_readPiece 89 = .ok (.aload_n 0, 1) := by decide +kernel
theorem dX4_readPiece_90 : decode cX4_readPiece 90 = .ok (.invokevirtual 37, 3) := by decide +kernel
theorem dX4_readPiece_93 : decode cX4_readPiece 93 = .ok (.aload_n 0, 1) := by decide +kernel
theorem dX4_readPiece_94 : decode cX4_readPiece 94 = .ok (.iconst 0, 1) := by decide +kernel
theorem dX4_readPiece_95 : decode cX4_readPiece 95 = .ok (.iload_n 1, 1) := by decide +kernel
theorem dX4_readPiece_96 : decode cX4_readPiece 96 = .ok (.iconst 1, 1) := by decide +kernel
theorem dX4_readPiece_97 : decode cX4_readPiece 97 = .ok (.iadd, 1) := by decide +kernel
theorem dX4_readPiece_98 : decode cX4_readPiece 98 = .ok (.iload_n 2, 1) := by decide +kernel
theorem dX4_readPiece_99 : decode cX4_readPiece 99 = .ok (.invokevirtual 50, 3) := by decide +kernel
theorem dX4_readPiece_102 : decode cX4_readPiece 102 = .ok (.aload_n 0, 1) := by decide +kernel
theorem dX4_readPiece_103 : decode cX4_readPiece 103 = .ok (.invokevirtual 122, 3) := by decide +kernel
theorem dX4_readPiece_106 : decode cX4_readPiece 106 = .ok (.goto 7, 3) := by decide +kernel
theorem dX4_readPiece_109 : decode cX4_readPiece 109 = .ok (.aload_n 0, 1) := by decide +kernel
theorem dX4_readPiece_110 : decode cX4_readPiece 110 = .ok (.invokevirtual 47, 3) := by decide +kernel
theorem dX4_readPiece_113 : decode cX4_readPiece 113 = .ok (.return_, 1) := by decide +kernel
theorem dX4_closeBracket_0 : decode cX4_closeBracket 0 = .ok (.aload_n 0, 1) := by decide +kernel
theorem dX4_closeBracket_1 : decode cX4_closeBracket 1 = .ok (.bipush 41, 2) := by decide +kernel
theorem dX4_closeBracket_3 : decode cX4_closeBracket 3 = .ok (.invokevirtual 112, 3) := by decide +kernel
theorem dX4_closeBracket_6 : decode cX4_closeBracket 6 = .ok (.ifCond .eq 17, 3) := by decide +kernel
theorem dX4_closeBracket_9 : decode cX4_closeBracket 9 = .ok (.aload_n 0, 1) := by decide +kernel
theorem dX4_closeBracket_10 : decode cX4_closeBracket 10 = .ok (.getfield 28, 3) := by decide +kernel
theorem dX4_closeBracket_13 : decode cX4_closeBracket 13 = .ok (.ifCond .ge 14, 3) := by decide +kernel
theorem dX4_closeBracket_16 : decode cX4_closeBracket 16 = .ok (.aload_n 0, 1) := by decide +kernel
theorem dX4_closeBracket_17 : decode cX4_closeBracket 17 = .ok (.invokevirtual 37, 3) := by decide +kernel
theorem dX4_closeBracket_20 : decode cX4_closeBracket 20 = .ok (.goto 7, 3) := by decide +kernel
theorem dX4_closeBracket_23 : decode cX4_closeBracket 23 = .ok (.aload_n 0, 1) := by decide +kernel
theorem dX4_closeBracket_24 : decode cX4_closeBracket 24 = .ok (.invokevirtual 47, 3) := by decide +kernel
theorem dX4_closeBracket_27 : decode cX4_closeBracket 27 = .ok (.return_, 1) := by decide +kernel
theorem dX4_readNumber_0 : decode cX4_readNumber 0 = .ok (.aload_n 0, 1) := by decide +kernel
theorem dX4_readNumber_1 : decode cX4_readNumber 1 = .ok (.getfield 22, 3) := by decide +kernel
theorem dX4_readNumber_4 : decode cX4_readNumber 4 = .ok (.aload_n 0, 1) := by decide +kernel
theorem dX4_readNumber_5 : decode cX4_readNumber 5 = .ok (.getfield 69, 3) := by decide +kernel
theorem dX4_readNumber_8 : decode cX4_readNumber 8 = .ok (.isub, 1) := by decide +kernel
theorem dX4_readNumber_9 : decode cX4_readNumber 9 = .ok (.iconst 4, 1) := by decide +kernel
theorem dX4_readNumber_10 : decode cX4_readNumber 10 = .ok (.if_icmp .le 8, 3) := by decide +kernel
theorem dX4_readNumber_13 : decode cX4_readNumber 13 = .ok (.aload_n 0, 1) := by decide +kernel
theorem dX4_readNumber_14 : decode cX4_readNumber 14 = .ok (.invokevirtual 47, 3) := by decide +kernel
theorem dX4_readNumber_17 : decode cX4_readNumber 17 = .ok (.return_, 1) := by decide +kernel
theorem dX4_readNumber_18 : decode cX4_readNumber 18 = .ok (.iconst 0, 1) := by decide +kernel
theorem dX4_readNumber_19 : decode cX4_readNumber 19 = .ok (.istore_n 1, 1) := by decide +kernel
theorem dX4_readNumber_20 : decode cX4_readNumber 20 = .ok (.aload_n 0, 1) := by decide +kernel
theorem dX4_readNumber_21 : decode cX4_readNumber 21 = .ok (.getfield 69, 3) := by decide +kernel
theorem dX4_readNumber_24 : decode cX4_readNumber 24 = .ok (.istore_n 2, 1) := by decide +kernel
theorem dX4_readNumber_25 : decode cX4_readNumber 25 = .ok (.iload_n 2, 1) := by decide +kernel
theorem dX4_readNumber_26 : decode cX4_readNumber 26 = .ok (.aload_n 0, 1) := by decide +kernel
theorem dX4_readNumber_27 : decode cX4_readNumber 27 = .ok (.getfield 22, 3) := by decide +kernel
theorem dX4_readNumber_30 : decode cX4_readNumber 30 = .ok (.if_icmp .ge 24, 3) := by decide +kernel
theorem dX4_readNumber_33 : decode cX4_readNumber 33 = .ok (.iload_n 1, 1) := by decide +kernel
theorem dX4_readNumber_34 : decode cX4_readNumber 34 = .ok (.bipush 10, 2) := by decide +kernel
theorem dX4_readNumber_36 : decode cX4_readNumber 36 = .ok (.imul, 1) := by decide +kernel
theorem dX4_readNumber_37 : decode cX4_readNumber 37 = .ok (.aload_n 0, 1) := by decide +kernel
theorem dX4_readNumber_38 : decode cX4_readNumber 38 = .ok (.getfield 9, 3) := by decide +kernel
theorem dX4_readNumber_41 : decode cX4_readNumber 41 = .ok (.iload_n 2, 1) := by decide +kernel
theorem dX4_readNumber_42 : decode cX4_readNumber 42 = .ok (.iaload, 1) := by decide +kernel
theorem dX4_readNumber_43 : decode cX4_readNumber 43 = .ok (.iadd, 1) := by decide +kernel
theorem dX4_readNumber_44 : decode cX4_readNumber 44 = .ok (.bipush 48, 2) := by decide +kernel
theorem dX4_readNumber_46 : decode cX4_readNumber 46 = .ok (.isub, 1) := by decide +kernel
theorem dX4_readNumber_47 : decode cX4_readNumber 47 = .ok (.istore_n 1, 1) := by decide +kernel
theorem dX4_readNumber_48 : decode cX4_readNumber 48 = .ok (.iinc 2 1, 3) := by decide +kernel
theorem dX4_readNumber_51 : decode cX4_readNumber 51 = .ok (.goto (-26), 3) := by decide +kernel
theorem dX4_readNumber_54 : decode cX4_readNumber 54 = .ok (.aload_n 0, 1) := by decide +kernel
theorem dX4_readNumber_55 : decode cX4_readNumber 55 = .ok (.iload_n 1, 1) := by decide +kernel
theorem dX4_readNumber_56 : decode cX4_readNumber 56 = .ok (.invokevirtual 125, 3) := by decide +kernel
theorem dX4_readNumber_59 : decode cX4_readNumber 59 = .ok (.return_, 1) := by decide +kernel
theorem dX4_readName_0 : decode cX4_readName 0 = .ok (.aload_n 0, 1) := by decide +kernel
theorem dX4_readName_1 : decode cX4_readName 1 = .ok (.getfield 22, 3) := by decide +kernel
theorem dX4_readName_4 : decode cX4_readName 4 = .ok (.aload_n 0, 1) := by decide +kernel
theorem dX4_readName_5 : decode cX4_readName 5 = .ok (.getfield 69, 3) := by decide +kernel
theorem dX4_readName_8 : decode cX4_readName 8 = .ok (.isub, 1) := by decide +kernel
theorem dX4_readName_9 : decode cX4_readName 9 = .ok (.iconst 1, 1) := by decide +kernel
theorem dX4_readName_10 : decode cX4_readName 10 = .ok (.if_icmp .ne 23, 3) := by decide +kernel
theorem dX4_readName_13 : decode cX4_readName 13 = .ok (.aload_n 0, 1) := by decide +kernel
theorem dX4_readName_14 : decode cX4_readName 14 = .ok (.invokevirtual 128, 3) := by decide +kernel
theorem dX4_readName_17 : decode cX4_readName 17 = .ok (.aload_n 0, 1) := by decide +kernel
theorem dX4_readName_18 : decode cX4_readName 18 = .ok (.getfield 9, 3) := by decide +kernel
theorem dX4_readName_21 : decode cX4_readName 21 = .ok (.aload_n 0, 1) := by decide +kernel
theorem dX4_readName_22 : decode cX4_readName 22 = .ok (.getfield 69, 3) := by decide +kernel
theorem dX4_readName_25 : decode cX4_readName 25 = .ok (.iaload, 1) := by decide +kernel
theorem dX4_readName_26 : decode cX4_readName 26 = .ok (.i2c, 1) := by decide +kernel
theorem dX4_readName_27 : decode cX4_readName 27 = .ok (.invokevirtual 132, 3) := by decide +kernel
theorem dX4_readName_30 : decode cX4_readName 30 = .ok (.goto 4, 3) := by decide +kernel
theorem dX4_readName_33 : decode cX4_readName 33 = .ok (.iconst (-1), 1) := by decide +kernel
theorem dX4_readName_34 : decode cX4_readName 34 = .ok (.istore_n 1, 1) := by decide +kernel
theorem dX4_readName_35 : decode cX4_readName 35 = .ok (.iload_n 1, 1) := by decide +kernel
theorem dX4_readName_36 : decode cX4_readName 36 = .ok (.ifCond .ge 8, 3) := by decide +kernel
theorem dX4_readName_39 : decode cX4_readName 39 = .ok (.aload_n 0, 1) := by decide +kernel
theorem dX4_readName_40 : decode cX4_readName 40 = .ok (.invokevirtual 47, 3) := by decide +kernel
theorem dX4_readName_43 : decode cX4_readName 43 = .ok (.return_, 1) := by decide +kernel
theorem dX4_readName_44 : decode cX4_readName 44 = .ok (.aload_n 0, 1) := by decide +kernel
theorem dX4_readName_45 : decode cX4_readName 45 = .ok (.bipush (-3), 2) := by decide +kernel
theorem dX4_readName_47 : decode cX4_readName 47 = .ok (.iload_n 1, 1) := by decide +kernel
theorem dX4_readName_48 : decode cX4_readName 48 = .ok (.iadd, 1) := by decide +kernel
theorem dX4_readName_49 : decode cX4_readName 49 = .ok (.invokevirtual 125, 3) := by decide +kernel
theorem dX4_readName_52 : decode cX4_readName 52 = .ok (.return_, 1) := by decide +kernel
theorem dX4_names_0 : decode cX4_names 0 = .ok (.aload_n 0, 1) := by decide +kernel
theorem dX4_names_1 : decode cX4_names 1 = .ok (.getfield 44, 3) := by decide +kernel
theorem dX4_names_4 : decode cX4_names 4 = .ok (.ifCond .ne 6, 3) := by decide +kernel
theorem dX4_names_7 : decode cX4_names 7 = .ok (.ldc 135, 2) := by decide +kernel
theorem dX4_names_9 : decode cX4_names 9 = .ok (.areturn, 1) := by decide +kernel
theorem dX4_names_10 : decode cX4_names 10 = .ok (.aload_n 0, 1) := by decide +kernel
theorem dX4_names_11 : decode cX4_names 11 = .ok (.getfield 44, 3) := by decide +kernel
theorem dX4_names_14 : decode cX4_names 14 = .ok (.iconst 1, 1) := by decide +kernel
theorem dX4_names_15 : decode cX4_names 15 = .ok (.if_icmp .ne 8, 3) := by decide +kernel
theorem dX4_names_18 : decode cX4_names 18 = .ok (.ldc 137, 2) := by decide +kernel
theorem dX4_names_20 : decode cX4_names 20 = .ok (.goto 5, 3) := by decide +kernel
theorem dX4_names_23 : decode cX4_names 23 = .ok (.ldc 139, 2) := by decide +kernel
theorem dX4_names_25 : decode cX4_names 25 = .ok (.areturn, 1) := by decide +kernel
theorem dX4_writeAtom_0 : decode cX4_writeAtom 0 = .ok (.aload_n 0, 1) := by decide +kernel
theorem dX4_writeAtom_1 : decode cX4_writeAtom 1 = .ok (.dup, 1) := by decide +kernel
theorem dX4_writeAtom_2 : decode cX4_writeAtom 2 = .ok (.getfield 34, 3) := by decide +kernel
theorem dX4_writeAtom_5 : decode cX4_writeAtom 5 = .ok (.iconst 1, 1) := by decide +kernel
theorem dX4_writeAtom_6 : decode cX4_writeAtom 6 = .ok (.iadd, 1) := by decide +kernel
theorem dX4_writeAtom_7 : decode cX4_writeAtom 7 = .ok (.putfield 34, 3) := by decide +kernel
theorem dX4_writeAtom_10 : decode cX4_writeAtom 10 = .ok (.aload_n 0, 1) := by decide +kernel
theorem dX4_writeAtom_11 : decode cX4_writeAtom 11 = .ok (.iload_n 1, 1) := by decide +kernel
theorem dX4_writeAtom_12 : decode cX4_writeAtom 12 = .ok (.invokevirtual 108, 3) := by decide +kernel
theorem dX4_writeAtom_15 : decode cX4_writeAtom 15 = .ok (.aload_n 0, 1) := by decide +kernel
theorem dX4_writeAtom_16 : decode cX4_writeAtom 16 = .ok (.invokevirtual 37, 3) := by decide +kernel
theorem dX4_writeAtom_19 : decode cX4_writeAtom 19 = .ok (.return_, 1) := by decide +kernel
theorem dX4_write_0 : decode cX4_write 0 = .ok (.aload_n 0, 1) := by decide +kernel
theorem dX4_write_1 : decode cX4_write 1 = .ok (.getfield 31, 3) := by decide +kernel
theorem dX4_write_4 : decode cX4_write 4 = .ok (.aload_n 0, 1) := by decide +kernel
theorem dX4_write_5 : decode cX4_write 5 = .ok (.getfield 15, 3) := by decide +kernel
theorem dX4_write_8 : decode cX4_write 8 = .ok (.arraylength, 1) := by decide +kernel
theorem dX4_write_9 : decode cX4_write 9 = .ok (.if_icmp .ge 23, 3) := by decide +kernel
theorem dX4_write_12 : decode cX4_write 12 = .ok (.aload_n 0, 1) := by decide +kernel
theorem dX4_write_13 : decode cX4_write 13 = .ok (.getfield 15, 3) := by decide +kernel
theorem dX4_write_16 : decode cX4_write 16 = .ok (.aload_n 0, 1) := by decide +kernel
theorem dX4_write_17 : decode cX4_write 17 = .ok (.getfield 31, 3) := by decide +kernel
theorem dX4_write_20 : decode cX4_write 20 = .ok (.iload_n 1, 1) := by decide +kernel
theorem dX4_write_21 : decode cX4_write 21 = .ok (.iastore, 1) := by decide +kernel
theorem dX4_write_22 : decode cX4_write 22 = .ok (.aload_n 0, 1) := by decide +kernel
theorem dX4_write_23 : decode cX4_write 23 = .ok (.dup, 1) := by decide +kernel
theorem dX4_write_24 : decode cX4_write 24 = .ok (.getfield 31, 3) := by decide +kernel
theorem dX4_write_27 : decode cX4_write 27 = .ok (.iconst 1, 1) := by decide +kernel
theorem dX4_write_28 : decode cX4_write 28 = .ok (.iadd, 1) := by decide +kernel
theorem dX4_write_29 : decode cX4_write 29 = .ok (.putfield 31, 3) := by decide +kernel
theorem dX4_write_32 : decode cX4_write 32 = .ok (.return_, 1) := by decide +kernel
theorem dX5_init_0 : decode cX5_init 0 = .ok (.aload_n 0, 1) := by decide +kernel
theorem dX5_init_1 : decode cX5_init 1 = .ok (.invokespecial 1, 3) := by decide +kernel
theorem dX5_init_4 : decode cX5_init 4 = .ok (.aload_n 0, 1) := by decide +kernel
theorem dX5_init_5 : decode cX5_init 5 = .ok (.iload_n 1, 1) := by decide +kernel
theorem dX5_init_6 : decode cX5_init 6 = .ok (.putfield 7, 3) := by decide +kernel
theorem dX5_init_9 : decode cX5_init 9 = .ok (.aload_n 0, 1) := by decide +kernel
theorem dX5_init_10 : decode cX5_init 10 = .ok (.iload_n 2, 1) := by decide +kernel
theorem dX5_init_11 : decode cX5_init 11 = .ok (.putfield 13, 3) := by decide +kernel
theorem dX5_init_14 : decode cX5_init 14 = .ok (.aload_n 0, 1) := by decide +kernel
theorem dX5_init_15 : decode cX5_init 15 = .ok (.aload_n 3, 1) := by decide +kernel
theorem dX5_init_16 : decode cX5_init 16 = .ok (.putfield 16, 3) := by decide +kernel
theorem dX5_init_19 : decode cX5_init 19 = .ok (.aload_n 0, 1) := by decide +kernel
theorem dX5_init_20 : decode cX5_init 20 = .ok (.aload_n 3, 1) := by decide +kernel
theorem dX5_init_21 : decode cX5_init 21 = .ok (.arraylength, 1) := by decide +kernel
theorem dX5_init_22 : decode cX5_init 22 = .ok (.newarray .int, 2) := by decide +kernel
theorem dX5_init_24 : decode cX5_init 24 = .ok (.putfield 20, 3) := by decide +kernel
theorem dX5_init_27 : decode cX5_init 27 = .ok (.return_, 1) := by decide +kernel
theorem dX5_valueOf_0 : decode cX5_valueOf 0 = .ok (.iconst 0, 1) := by decide +kernel
theorem dX5_valueOf_1 : decode cX5_valueOf 1 = .ok (.istore 4, 2) := by decide +kernel
theorem dX5_valueOf_3 : decode cX5_valueOf 3 = .ok (.iconst 0, 1) := by decide +kernel
theorem dX5_valueOf_4 : decode cX5_valueOf 4 = .ok (.istore 5, 2) := by decide +kernel
theorem dX5_valueOf_6 : decode cX5_valueOf 6 = .ok (.iload 5, 2) := by decide +kernel
theorem dX5_valueOf_8 : decode cX5_valueOf 8 = .ok (.aload_n 0, 1) := by decide +kernel
theorem dX5_valueOf_9 : decode cX5_valueOf 9 = .ok (.getfield 16, 3) := by decide +kernel
theorem dX5_valueOf_12 : decode cX5_valueOf 12 = .ok (.arraylength, 1) := by decide +kernel
theorem dX5_valueOf_13 : decode cX5_valueOf 13 = .ok (.if_icmp .ge 150, 3) := by decide +kernel
theorem dX5_valueOf_16 : decode cX5_valueOf 16 = .ok (.aload_n 0, 1) := by decide +kernel
theorem dX5_valueOf_17 : decode cX5_valueOf 17 = .ok (.getfield 16, 3) := by decide +kernel
theorem dX5_valueOf_20 : decode cX5_valueOf 20 = .ok (.iload 5, 2) := by decide +kernel
theorem dX5_valueOf_22 : decode cX5_valueOf 22 = .ok (.iaload, 1) := by decide +kernel
theorem dX5_valueOf_23 : decode cX5_valueOf 23 = .ok (.istore 6, 2) := by decide +kernel
theorem dX5_valueOf_25 : decode cX5_valueOf 25 = .ok (.iload 6, 2) := by decide +kernel
theorem dX5_valueOf_27 : decode cX5_valueOf 27 = .ok (.bipush (-3), 2) := by decide +kernel
theorem dX5_valueOf_29 : decode cX5_valueOf 29 = .ok (.if_icmp .lt 47, 3) := by decide +kernel
theorem dX5_valueOf_32 : decode cX5_valueOf 32 = .ok (.iload 4, 2) := by decide +kernel
theorem dX5_valueOf_34 : decode cX5_valueOf 34 = .ok (.aload_n 0, 1) := by decide +kernel
theorem dX5_valueOf_35 : decode cX5_valueOf 35 = .ok (.getfield 20, 3) := by decide +kernel
theorem dX5_valueOf_38 : decode cX5_valueOf 38 = .ok (.arraylength, 1) := by decide +kernel
theorem dX5_valueOf_39 : decode cX5_valueOf 39 = .ok (.if_icmp .ge 118, 3) := by decide +kernel
theorem dX5_valueOf_42 : decode cX5_valueOf 42 = .ok (.aload_n 0, 1) := by decide +kernel
theorem dX5_valueOf_43 : decode cX5_valueOf 43 = .ok (.getfield 20, 3) := by decide +kernel
theorem dX5_valueOf_46 : decode cX5_valueOf 46 = .ok (.iload 4, 2) := by decide +kernel
theorem dX5_valueOf_48 : decode cX5_valueOf 48 = .ok (.iload 6, 2) := by decide +kernel
theorem dX5_valueOf_50 : decode cX5_valueOf 50 = .ok (.ifCond .lt 8, 3) := by decide +kernel
theorem dX5_valueOf_53 : decode cX5_valueOf 53 = .ok (.iload 6, 2) := by decide +kernel
theorem dX5_valueOf_55 : decode cX5_valueOf 55 = .ok (.goto 14, 3) := by decide +kernel
theorem dX5_valueOf_58 : decode cX5_valueOf 58 = .ok (.iload 6, 2) := by decide +kernel
theorem dX5_valueOf_60 : decode cX5_valueOf 60 = .ok (.bipush (-3), 2) := by decide +kernel
theorem dX5_valueOf_62 : decode cX5_valueOf 62 = .ok (.isub, 1) := by decide +kernel
theorem dX5_valueOf_63 : decode cX5_valueOf 63 = .ok (.iload_n 1, 1) := by decide +kernel
theorem dX5_valueOf_64 : decode cX5_valueOf 64 = .ok (.iload_n 2, 1) := by decide +kernel
theorem dX5_valueOf_65 : decode cX5_valueOf 65 = .ok (.iload_n 3, 1) := by decide +kernel
theorem dX5_valueOf_66 : decode cX5_valueOf 66 = .ok (.invokestatic 23, 3) := by decide +kernel
theorem dX5_valueOf_69 : decode cX5_valueOf 69 = .ok (.iastore, 1) := by decide +kernel
theorem dX5_valueOf_70 : decode cX5_valueOf 70 = .ok (.iinc 4 1, 3) := by decide +kernel
theorem dX5_valueOf_73 : decode cX5_valueOf 73 = .ok (.goto 84, 3) := by decide +kernel
theorem dX5_valueOf_76 : decode cX5_valueOf 76 = .ok (.iload 6, 2) := by decide +kernel
theorem dX5_valueOf_78 : decode cX5_valueOf 78 = .ok (.bipush (-33), 2) := by decide +kernel
theorem dX5_valueOf_80 : decode cX5_valueOf 80 = .ok (.if_icmp .ne 37, 3) := by decide +kernel
theorem dX5_valueOf_83 : decode cX5_valueOf 83 = .ok (.iload 4, 2) := by decide +kernel
theorem dX5_valueOf_85 : decode cX5_valueOf 85 = .ok (.ifCond .le 72, 3) := by decide +kernel
theorem dX5_valueOf_88 : decode cX5_valueOf 88 = .ok (.aload_n 0, 1) := by decide +kernel
theorem dX5_valueOf_89 : decode cX5_valueOf 89 = .ok (.getfield 20, 3) := by decide +kernel
theorem dX5_valueOf_92 : decode cX5_valueOf 92 = .ok (.iload 4, 2) := by decide +kernel
theorem dX5_valueOf_94 : decode cX5_valueOf 94 = .ok (.iconst 1, 1) := by decide +kernel
theorem dX5_valueOf_95 : decode cX5_valueOf 95 = .ok (.isub, 1) := by decide +kernel
theorem dX5_valueOf_96 : decode cX5_valueOf 96 = .ok (.aload_n 0, 1) := by decide +kernel
theorem dX5_valueOf_97 : decode cX5_valueOf 97 = .ok (.getfield 20, 3) := by decide +kernel
theorem dX5_valueOf_100 : decode cX5_valueOf 100 = .ok (.iload 4, 2) := by decide +kernel
theorem dX5_valueOf_102 : decode cX5_valueOf 102 = .ok (.iconst 1, 1) := by decide +kernel
theorem dX5_valueOf_103 : decode cX5_valueOf 103 = .ok (.isub, 1) := by decide +kernel
theorem dX5_valueOf_104 : decode cX5_valueOf 104 = .ok (.iaload, 1) := by decide +kernel
theorem dX5_valueOf_105 : decode cX5_valueOf 105 = .ok (.ifCond .ne 7, 3) := by decide +kernel
theorem dX5_valueOf_108 : decode cX5_valueOf 108 = .ok (.iconst 1, 1) := by decide +kernel
theorem dX5_valueOf_109 : decode cX5_valueOf 109 = .ok (.goto 4, 3) := by decide +kernel
theorem dX5_valueOf_112 : decode cX5_valueOf 112 = .ok (.iconst 0, 1) := by decide +kernel
theorem dX5_valueOf_113 : decode cX5_valueOf 113 = .ok (.iastore, 1) := by decide +kernel
theorem dX5_valueOf_114 : decode cX5_valueOf 114 = .ok (.goto 43, 3) := by decide +kernel
theorem dX5_valueOf_117 : decode cX5_valueOf 117 = .ok (.iload 4, 2) := by decide +kernel
theorem dX5_valueOf_119 : decode cX5_valueOf 119 = .ok (.iconst 1, 1) := by decide +kernel
theorem dX5_valueOf_120 : decode cX5_valueOf 120 = .ok (.if_icmp .le 37, 3) := by decide +kernel
theorem dX5_valueOf_123 : decode cX5_valueOf 123 = .ok (.iinc 4 (-1), 3) := by decide +kernel
theorem dX5_valueOf_126 : decode cX5_valueOf 126 = .ok (.aload_n 0, 1) := by decide +kernel
theorem dX5_valueOf_127 : decode cX5_valueOf 127 = .ok (.getfield 20, 3) := by decide +kernel
theorem dX5_valueOf_130 : decode cX5_valueOf 130 = .ok (.iload 4, 2) := by decide +kernel
theorem dX5_valueOf_132 : decode cX5_valueOf 132 = .ok (.iconst 1, 1) := by decide +kernel
theorem dX5_valueOf_133 : decode cX5_valueOf 133 = .ok (.isub, 1) := by decide +kernel
theorem dX5_valueOf_134 : decode cX5_valueOf 134 = .ok (.iload 6, 2) := by decide +kernel
theorem dX5_valueOf_136 : decode cX5_valueOf 136 = .ok (.ineg, 1) := by decide +kernel
theorem dX5_valueOf_137 : decode cX5_valueOf 137 = .ok (.aload_n 0, 1) := by decide +kernel
theorem dX5_valueOf_138 : decode cX5_valueOf 138 = .ok (.getfield 20, 3) := by decide +kernel
theorem dX5_valueOf_141 : decode cX5_valueOf 141 = .ok (.iload 4, 2) := by decide +kernel
theorem dX5_valueOf_143 : decode cX5_valueOf 143 = .ok (.iconst 1, 1) := by decide +kernel
theorem dX5_valueOf_144 : decode cX5_valueOf 144 = .ok (.isub, 1) := by decide +kernel
theorem dX5_valueOf_145 : decode cX5_valueOf 145 = .ok (.iaload, 1) := by decide +kernel
theorem dX5_valueOf_146 : decode cX5_valueOf 146 = .ok (.aload_n 0, 1) := by decide +kernel
theorem dX5_valueOf_147 : decode cX5_valueOf 147 = .ok (.getfield 20, 3) := by decide +kernel
theorem dX5_valueOf_150 : decode cX5_valueOf 150 = .ok (.iload 4, 2) := by decide +kernel
theorem dX5_valueOf_152 : decode cX5_valueOf 152 = .ok (.iaload, 1) := by decide +kernel
theorem dX5_valueOf_153 : decode cX5_valueOf 153 = .ok (.invokestatic 27, 3) := by decide +kernel
theorem dX5_valueOf_156 : decode cX5_valueOf 156 = .ok (.iastore, 1) := by decide +kernel
theorem dX5_valueOf_157 : decode cX5_valueOf 157 = .ok (.iinc 5 1, 3) := by decide +kernel
theorem dX5_valueOf_160 : decode cX5_valueOf 160 = .ok (.goto (-154), 3) := by decide +kernel
theorem dX5_valueOf_163 : decode cX5_valueOf 163 = .ok (.iload 4, 2) := by decide +kernel
theorem dX5_valueOf_165 : decode cX5_valueOf 165 = .ok (.ifCond .le 12, 3) := by decide +kernel
theorem dX5_valueOf_168 : decode cX5_valueOf 168 = .ok (.aload_n 0, 1) := by decide +kernel
theorem dX5_valueOf_169 : decode cX5_valueOf 169 = .ok (.getfield 20, 3) := by decide +kernel
theorem dX5_valueOf_172 : decode cX5_valueOf 172 = .ok (.iconst 0, 1) := by decide +kernel
theorem dX5_valueOf_173 : decode cX5_valueOf 173 = .ok (.iaload, 1) := by decide +kernel
theorem dX5_valueOf_174 : decode cX5_valueOf 174 = .ok (.goto 4, 3) := by decide +kernel
theorem dX5_valueOf_177 : decode cX5_valueOf 177 = .ok (.iconst 0, 1) := by decide +kernel
theorem dX5_valueOf_178 : decode cX5_valueOf 178 = .ok (.ireturn, 1) := by decide +kernel
theorem dX5_named_0 : decode cX5_named 0 = .ok (.iload_n 0, 1) := by decide +kernel
theorem dX5_named_1 : decode cX5_named 1 = .ok (.ifCond .ne 5, 3) := by decide +kernel
theorem dX5_named_4 : decode cX5_named 4 = .ok (.iload_n 1, 1) := by decide +kernel
theorem dX5_named_5 : decode cX5_named 5 = .ok (.ireturn, 1) := by decide +kernel
theorem dX5_named_6 : decode cX5_named 6 = .ok (.iload_n 0, 1) := by decide +kernel
theorem dX5_named_7 : decode cX5_named 7 = .ok (.iconst 1, 1) := by decide +kernel
theorem dX5_named_8 : decode cX5_named 8 = .ok (.if_icmp .ne 7, 3) := by decide +kernel
theorem dX5_named_11 : decode cX5_named 11 = .ok (.iload_n 2, 1) := by decide +kernel
theorem dX5_named_12 : decode cX5_named 12 = .ok (.goto 4, 3) := by decide +kernel
theorem dX5_named_15 : decode cX5_named 15 = .ok (.iload_n 3, 1) := by decide +kernel
theorem dX5_named_16 : decode cX5_named 16 = .ok (.ireturn, 1) := by decide +kernel
theorem dX5_joined_0 : decode cX5_joined 0 = .ok (.iload_n 0, 1) := by decide +kernel
theorem dX5_joined_1 : decode cX5_joined 1 = .ok (.lookupswitch 148 #[(38, 89), (42, 144), (43, 136), (45, 140), (60, 103), (61, 114), (62, 125), (124, 75)], 75) := by decide +kernel
theorem dX5_joined_76 : decode cX5_joined 76 = .ok (.iload_n 1, 1) := by decide +kernel
theorem dX5_joined_77 : decode cX5_joined 77 = .ok (.ifCond .ne 7, 3) := by decide +kernel
theorem dX5_joined_80 : decode cX5_joined 80 = .ok (.iload_n 2, 1) := by decide +kernel
theorem dX5_joined_81 : decode cX5_joined 81 = .ok (.ifCond .eq 7, 3) := by decide +kernel
theorem dX5_joined_84 : decode cX5_joined 84 = .ok (.iconst 1, 1) := by decide +kernel
theorem dX5_joined_85 : decode cX5_joined 85 = .ok (.goto 4, 3) := by decide +kernel
theorem dX5_joined_88 : decode cX5_joined 88 = .ok (.iconst 0, 1) := by decide +kernel
theorem dX5_joined_89 : decode cX5_joined 89 = .ok (.ireturn, 1) := by decide +kernel
theorem dX5_joined_90 : decode cX5_joined 90 = .ok (.iload_n 1, 1) := by decide +kernel
theorem dX5_joined_91 : decode cX5_joined 91 = .ok (.ifCond .eq 11, 3) := by decide +kernel
theorem dX5_joined_94 : decode cX5_joined 94 = .ok (.iload_n 2, 1) := by decide +kernel
theorem dX5_joined_95 : decode cX5_joined 95 = .ok (.ifCond .eq 7, 3) := by decide +kernel
theorem dX5_joined_98 : decode cX5_joined 98 = .ok (.iconst 1, 1) := by decide +kernel
theorem dX5_joined_99 : decode cX5_joined 99 = .ok (.goto 4, 3) := by decide +kernel
theorem dX5_joined_102 : decode cX5_joined 102 = .ok (.iconst 0, 1) := by decide +kernel
theorem dX5_joined_103 : decode cX5_joined 103 = .ok (.ireturn, 1) := by decide +kernel
theorem dX5_joined_104 : decode cX5_joined 104 = .ok (.iload_n 1, 1) := by decide +kernel
theorem dX5_joined_105 : decode cX5_joined 105 = .ok (.iload_n 2, 1) := by decide +kernel
theorem dX5_joined_106 : decode cX5_joined 106 = .ok (.if_icmp .ge 7, 3) := by decide +kernel
theorem dX5_joined_109 : decode cX5_joined 109 = .ok (.iconst 1, 1) := by decide +kernel
theorem dX5_joined_110 : decode cX5_joined 110 = .ok (.goto 4, 3) := by decide +kernel
theorem dX5_joined_113 : decode cX5_joined 113 = .ok (.iconst 0, 1) := by decide +kernel
theorem dX5_joined_114 : decode cX5_joined 114 = .ok (.ireturn, 1) := by decide +kernel
theorem dX5_joined_115 : decode cX5_joined 115 = .ok (.iload_n 1, 1) := by decide +kernel
theorem dX5_joined_116 : decode cX5_joined 116 = .ok (.iload_n 2, 1) := by decide +kernel
theorem dX5_joined_117 : decode cX5_joined 117 = .ok (.if_icmp .ne 7, 3) := by decide +kernel
theorem dX5_joined_120 : decode cX5_joined 120 = .ok (.iconst 1, 1) := by decide +kernel
theorem dX5_joined_121 : decode cX5_joined 121 = .ok (.goto 4, 3) := by decide +kernel
theorem dX5_joined_124 : decode cX5_joined 124 = .ok (.iconst 0, 1) := by decide +kernel
theorem dX5_joined_125 : decode cX5_joined 125 = .ok (.ireturn, 1) := by decide +kernel
theorem dX5_joined_126 : decode cX5_joined 126 = .ok (.iload_n 1, 1) := by decide +kernel
theorem dX5_joined_127 : decode cX5_joined 127 = .ok (.iload_n 2, 1) := by decide +kernel
theorem dX5_joined_128 : decode cX5_joined 128 = .ok (.if_icmp .le 7, 3) := by decide +kernel
theorem dX5_joined_131 : decode cX5_joined 131 = .ok (.iconst 1, 1) := by decide +kernel
theorem dX5_joined_132 : decode cX5_joined 132 = .ok (.goto 4, 3) := by decide +kernel
theorem dX5_joined_135 : decode cX5_joined 135 = .ok (.iconst 0, 1) := by decide +kernel
theorem dX5_joined_136 : decode cX5_joined 136 = .ok (.ireturn, 1) := by decide +kernel
theorem dX5_joined_137 : decode cX5_joined 137 = .ok (.iload_n 1, 1) := by decide +kernel
theorem dX5_joined_138 : decode cX5_joined 138 = .ok (.iload_n 2, 1) := by decide +kernel
theorem dX5_joined_139 : decode cX5_joined 139 = .ok (.iadd, 1) := by decide +kernel
theorem dX5_joined_140 : decode cX5_joined 140 = .ok (.ireturn, 1) := by decide +kernel
theorem dX5_joined_141 : decode cX5_joined 141 = .ok (.iload_n 1, 1) := by decide +kernel
theorem dX5_joined_142 : decode cX5_joined 142 = .ok (.iload_n 2, 1) := by decide +kernel
theorem dX5_joined_143 : decode cX5_joined 143 = .ok (.isub, 1) := by decide +kernel
theorem dX5_joined_144 : decode cX5_joined 144 = .ok (.ireturn, 1) := by decide +kernel
theorem dX5_joined_145 : decode cX5_joined 145 = .ok (.iload_n 1, 1) := by decide +kernel
theorem dX5_joined_146 : decode cX5_joined 146 = .ok (.iload_n 2, 1) := by decide +kernel
theorem dX5_joined_147 : decode cX5_joined 147 = .ok (.imul, 1) := by decide +kernel
theorem dX5_joined_148 : decode cX5_joined 148 = .ok (.ireturn, 1) := by decide +kernel
theorem dX5_joined_149 : decode cX5_joined 149 = .ok (.iload_n 2, 1) := by decide +kernel
theorem dX5_joined_150 : decode cX5_joined 150 = .ok (.ifCond .ne 7, 3) := by decide +kernel
theorem dX5_joined_153 : decode cX5_joined 153 = .ok (.iconst 0, 1) := by decide +kernel
theorem dX5_joined_154 : decode cX5_joined 154 = .ok (.goto 6, 3) := by decide +kernel
theorem dX5_joined_157 : decode cX5_joined 157 = .ok (.iload_n 1, 1) := by decide +kernel
theorem dX5_joined_158 : decode cX5_joined 158 = .ok (.iload_n 2, 1) := by decide +kernel
theorem dX5_joined_159 : decode cX5_joined 159 = .ok (.idiv, 1) := by decide +kernel
theorem dX5_joined_160 : decode cX5_joined 160 = .ok (.ireturn, 1) := by decide +kernel
theorem dX6_init_0 : decode cX6_init 0 = .ok (.aload_n 0, 1) := by decide +kernel
theorem dX6_init_1 : decode cX6_init 1 = .ok (.invokespecial 3, 3) := by decide +kernel
theorem dX6_init_4 : decode cX6_init 4 = .ok (.aload_n 0, 1) := by decide +kernel
theorem dX6_init_5 : decode cX6_init 5 = .ok (.bipush 10, 2) := by decide +kernel
theorem dX6_init_7 : decode cX6_init 7 = .ok (.newarray .int, 2) := by decide +kernel
theorem dX6_init_9 : decode cX6_init 9 = .ok (.putfield 9, 3) := by decide +kernel
theorem dX6_init_12 : decode cX6_init 12 = .ok (.aload_n 0, 1) := by decide +kernel
theorem dX6_init_13 : decode cX6_init 13 = .ok (.bipush 10, 2) := by decide +kernel
theorem dX6_init_15 : decode cX6_init 15 = .ok (.newarray .int, 2) := by decide +kernel
theorem dX6_init_17 : decode cX6_init 17 = .ok (.putfield 15, 3) := by decide +kernel
theorem dX6_init_20 : decode cX6_init 20 = .ok (.aload_n 0, 1) := by decide +kernel
theorem dX6_init_21 : decode cX6_init 21 = .ok (.bipush 10, 2) := by decide +kernel
theorem dX6_init_23 : decode cX6_init 23 = .ok (.newarray .int, 2) := by decide +kernel
theorem dX6_init_25 : decode cX6_init 25 = .ok (.putfield 18, 3) := by decide +kernel
theorem dX6_init_28 : decode cX6_init 28 = .ok (.aload_n 0, 1) := by decide +kernel
theorem dX6_init_29 : decode cX6_init 29 = .ok (.bipush 10, 2) := by decide +kernel
theorem dX6_init_31 : decode cX6_init 31 = .ok (.newarray .int, 2) := by decide +kernel
theorem dX6_init_33 : decode cX6_init 33 = .ok (.putfield 21, 3) := by decide +kernel
theorem dX6_init_36 : decode cX6_init 36 = .ok (.aload_n 0, 1) := by decide +kernel
theorem dX6_init_37 : decode cX6_init 37 = .ok (.bipush 10, 2) := by decide +kernel
theorem dX6_init_39 : decode cX6_init 39 = .ok (.newarray .int, 2) := by decide +kernel
theorem dX6_init_41 : decode cX6_init 41 = .ok (.putfield 24, 3) := by decide +kernel
theorem dX6_init_44 : decode cX6_init 44 = .ok (.aload_n 0, 1) := by decide +kernel
theorem dX6_init_45 : decode cX6_init 45 = .ok (.bipush 10, 2) := by decide +kernel
theorem dX6_init_47 : decode cX6_init 47 = .ok (.newarray .long, 2) := by decide +kernel
theorem dX6_init_49 : decode cX6_init 49 = .ok (.putfield 27, 3) := by decide +kernel
theorem dX6_init_52 : decode cX6_init 52 = .ok (.aload_n 0, 1) := by decide +kernel
theorem dX6_init_53 : decode cX6_init 53 = .ok (.bipush 7, 2) := by decide +kernel
theorem dX6_init_55 : decode cX6_init 55 = .ok (.newarray .int, 2) := by decide +kernel
theorem dX6_init_57 : decode cX6_init 57 = .ok (.putfield 31, 3) := by decide +kernel
theorem dX6_init_60 : decode cX6_init 60 = .ok (.aload_n 0, 1) := by decide +kernel
theorem dX6_init_61 : decode cX6_init 61 = .ok (.bipush 14, 2) := by decide +kernel
theorem dX6_init_63 : decode cX6_init 63 = .ok (.anewarray 34, 3) := by decide +kernel
theorem dX6_init_66 : decode cX6_init 66 = .ok (.putfield 36, 3) := by decide +kernel
theorem dX6_init_69 : decode cX6_init 69 = .ok (.aload_n 0, 1) := by decide +kernel
theorem dX6_init_70 : decode cX6_init 70 = .ok (.iconst 3, 1) := by decide +kernel
theorem dX6_init_71 : decode cX6_init 71 = .ok (.newarray .int, 2) := by decide +kernel
theorem dX6_init_73 : decode cX6_init 73 = .ok (.dup, 1) := by decide +kernel
theorem dX6_init_74 : decode cX6_init 74 = .ok (.iconst 0, 1) := by decide +kernel
theorem dX6_init_75 : decode cX6_init 75 = .ok (.iconst (-1), 1) := by decide +kernel
theorem dX6_init_76 : decode cX6_init 76 = .ok (.iastore, 1) := by decide +kernel
theorem dX6_init_77 : decode cX6_init 77 = .ok (.dup, 1) := by decide +kernel
theorem dX6_init_78 : decode cX6_init 78 = .ok (.iconst 1, 1) := by decide +kernel
theorem dX6_init_79 : decode cX6_init 79 = .ok (.iconst (-1), 1) := by decide +kernel
theorem dX6_init_80 : decode cX6_init 80 = .ok (.iastore, 1) := by decide +kernel
theorem dX6_init_81 : decode cX6_init 81 = .ok (.dup, 1) := by decide +kernel
theorem dX6_init_82 : decode cX6_init 82 = .ok (.iconst 2, 1) := by decide +kernel
theorem dX6_init_83 : decode cX6_init 83 = .ok (.iconst (-1), 1) := by decide +kernel
theorem dX6_init_84 : decode cX6_init 84 = .ok (.iastore, 1) := by decide +kernel
theorem dX6_init_85 : decode cX6_init 85 = .ok (.putfield 40, 3) := by decide +kernel
theorem dX6_init_88 : decode cX6_init 88 = .ok (.aload_n 0, 1) := by decide +kernel
theorem dX6_init_89 : decode cX6_init 89 = .ok (.iconst (-1), 1) := by decide +kernel
theorem dX6_init_90 : decode cX6_init 90 = .ok (.putfield 43, 3) := by decide +kernel
theorem dX6_init_93 : decode cX6_init 93 = .ok (.aload_n 0, 1) := by decide +kernel
theorem dX6_init_94 : decode cX6_init 94 = .ok (.bipush 10, 2) := by decide +kernel
theorem dX6_init_96 : decode cX6_init 96 = .ok (.putfield 47, 3) := by decide +kernel
theorem dX6_init_99 : decode cX6_init 99 = .ok (.aload_n 0, 1) := by decide +kernel
theorem dX6_init_100 : decode cX6_init 100 = .ok (.iconst 1, 1) := by decide +kernel
theorem dX6_init_101 : decode cX6_init 101 = .ok (.putfield 50, 3) := by decide +kernel
theorem dX6_init_104 : decode cX6_init 104 = .ok (.aload_n 0, 1) := by decide +kernel
theorem dX6_init_105 : decode cX6_init 105 = .ok (.iconst 1, 1) := by decide +kernel
theorem dX6_init_106 : decode cX6_init 106 = .ok (.putfield 53, 3) := by decide +kernel
theorem dX6_init_109 : decode cX6_init 109 = .ok (.return_, 1) := by decide +kernel
theorem dX6_takeFrom_0 : decode cX6_takeFrom 0 = .ok (.aload_n 1, 1) := by decide +kernel
theorem dX6_takeFrom_1 : decode cX6_takeFrom 1 = .ok (.getfield 9, 3) := by decide +kernel
theorem dX6_takeFrom_4 : decode cX6_takeFrom 4 = .ok (.iconst 0, 1) := by decide +kernel
theorem dX6_takeFrom_5 : decode cX6_takeFrom 5 = .ok (.aload_n 0, 1) := by decide +kernel
theorem dX6_takeFrom_6 : decode cX6_takeFrom 6 = .ok (.getfield 9, 3) := by decide +kernel
theorem dX6_takeFrom_9 : decode cX6_takeFrom 9 = .ok (.iconst 0, 1) := by decide +kernel
theorem dX6_takeFrom_10 : decode cX6_takeFrom 10 = .ok (.bipush 10, 2) := by decide +kernel
theorem dX6_takeFrom_12 : decode cX6_takeFrom 12 = .ok (.invokestatic 56, 3) := by decide +kernel
theorem dX6_takeFrom_15 : decode cX6_takeFrom 15 = .ok (.aload_n 1, 1) := by decide +kernel
theorem dX6_takeFrom_16 : decode cX6_takeFrom 16 = .ok (.getfield 15, 3) := by decide +kernel
theorem dX6_takeFrom_19 : decode cX6_takeFrom 19 = .ok (.iconst 0, 1) := by decide +kernel
theorem dX6_takeFrom_20 : decode cX6_takeFrom 20 = .ok (.aload_n 0, 1) := by decide +kernel
theorem dX6_takeFrom_21 : decode cX6_takeFrom 21 = .ok (.getfield 15, 3) := by decide +kernel
theorem dX6_takeFrom_24 : decode cX6_takeFrom 24 = .ok (.iconst 0, 1) := by decide +kernel
theorem dX6_takeFrom_25 : decode cX6_takeFrom 25 = .ok (.bipush 10, 2) := by decide +kernel
theorem dX6_takeFrom_27 : decode cX6_takeFrom 27 = .ok (.invokestatic 56, 3) := by decide +kernel
theorem dX6_takeFrom_30 : decode cX6_takeFrom 30 = .ok (.aload_n 1, 1) := by decide +kernel
theorem dX6_takeFrom_31 : decode cX6_takeFrom 31 = .ok (.getfield 18, 3) := by decide +kernel
theorem dX6_takeFrom_34 : decode cX6_takeFrom 34 = .ok (.iconst 0, 1) := by decide +kernel
theorem dX6_takeFrom_35 : decode cX6_takeFrom 35 = .ok (.aload_n 0, 1) := by decide +kernel
theorem dX6_takeFrom_36 : decode cX6_takeFrom 36 = .ok (.getfield 18, 3) := by decide +kernel
theorem dX6_takeFrom_39 : decode cX6_takeFrom 39 = .ok (.iconst 0, 1) := by decide +kernel
theorem dX6_takeFrom_40 : decode cX6_takeFrom 40 = .ok (.bipush 10, 2) := by decide +kernel
theorem dX6_takeFrom_42 : decode cX6_takeFrom 42 = .ok (.invokestatic 56, 3) := by decide +kernel
theorem dX6_takeFrom_45 : decode cX6_takeFrom 45 = .ok (.aload_n 1, 1) := by decide +kernel
theorem dX6_takeFrom_46 : decode cX6_takeFrom 46 = .ok (.getfield 21, 3) := by decide +kernel
theorem dX6_takeFrom_49 : decode cX6_takeFrom 49 = .ok (.iconst 0, 1) := by decide +kernel
theorem dX6_takeFrom_50 : decode cX6_takeFrom 50 = .ok (.aload_n 0, 1) := by decide +kernel
theorem dX6_takeFrom_51 : decode cX6_takeFrom 51 = .ok (.getfield 21, 3) := by decide +kernel
theorem dX6_takeFrom_54 : decode cX6_takeFrom 54 = .ok (.iconst 0, 1) := by decide +kernel
theorem dX6_takeFrom_55 : decode cX6_takeFrom 55 = .ok (.bipush 10, 2) := by decide +kernel
theorem dX6_takeFrom_57 : decode cX6_takeFrom 57 = .ok (.invokestatic 56, 3) := by decide +kernel
theorem dX6_takeFrom_60 : decode cX6_takeFrom 60 = .ok (.aload_n 1, 1) := by decide +kernel
theorem dX6_takeFrom_61 : decode cX6_takeFrom 61 = .ok (.getfield 24, 3) := by decide +kernel
theorem dX6_takeFrom_64 : decode cX6_takeFrom 64 = .ok (.iconst 0, 1) := by decide +kernel
theorem dX6_takeFrom_65 : decode cX6_takeFrom 65 = .ok (.aload_n 0, 1) := by decide +kernel
theorem dX6_takeFrom_66 : decode cX6_takeFrom 66 = .ok (.getfield 24, 3) := by decide +kernel
theorem dX6_takeFrom_69 : decode cX6_takeFrom 69 = .ok (.iconst 0, 1) := by decide +kernel
theorem dX6_takeFrom_70 : decode cX6_takeFrom 70 = .ok (.bipush 10, 2) := by decide +kernel
theorem dX6_takeFrom_72 : decode cX6_takeFrom 72 = .ok (.invokestatic 56, 3) := by decide +kernel
theorem dX6_takeFrom_75 : decode cX6_takeFrom 75 = .ok (.aload_n 1, 1) := by decide +kernel
theorem dX6_takeFrom_76 : decode cX6_takeFrom 76 = .ok (.getfield 27, 3) := by decide +kernel
theorem dX6_takeFrom_79 : decode cX6_takeFrom 79 = .ok (.iconst 0, 1) := by decide +kernel
theorem dX6_takeFrom_80 : decode cX6_takeFrom 80 = .ok (.aload_n 0, 1) := by decide +kernel
theorem dX6_takeFrom_81 : decode cX6_takeFrom 81 = .ok (.getfield 27, 3) := by decide +kernel
theorem dX6_takeFrom_84 : decode cX6_takeFrom 84 = .ok (.iconst 0, 1) := by decide +kernel
theorem dX6_takeFrom_85 : decode cX6_takeFrom 85 = .ok (.bipush 10, 2) := by decide +kernel
theorem dX6_takeFrom_87 : decode cX6_takeFrom 87 = .ok (.invokestatic 56, 3) := by decide +kernel
theorem dX6_takeFrom_90 : decode cX6_takeFrom 90 = .ok (.aload_n 1, 1) := by decide +kernel
theorem dX6_takeFrom_91 : decode cX6_takeFrom 91 = .ok (.getfield 31, 3) := by decide +kernel
theorem dX6_takeFrom_94 : decode cX6_takeFrom 94 = .ok (.iconst 0, 1) := by decide +kernel
theorem dX6_takeFrom_95 : decode cX6_takeFrom 95 = .ok (.aload_n 0, 1) := by decide +kernel
theorem dX6_takeFrom_96 : decode cX6_takeFrom 96 = .ok (.getfield 31, 3) := by decide +kernel
theorem dX6_takeFrom_99 : decode cX6_takeFrom 99 = .ok (.iconst 0, 1) := by decide +kernel
theorem dX6_takeFrom_100 : decode cX6_takeFrom 100 = .ok (.bipush 7, 2) := by decide +kernel
theorem dX6_takeFrom_102 : decode cX6_takeFrom 102 = .ok (.invokestatic 56, 3) := by decide +kernel
theorem dX6_takeFrom_105 : decode cX6_takeFrom 105 = .ok (.aload_n 1, 1) := by decide +kernel
theorem dX6_takeFrom_106 : decode cX6_takeFrom 106 = .ok (.getfield 40, 3) := by decide +kernel
theorem dX6_takeFrom_109 : decode cX6_takeFrom 109 = .ok (.iconst 0, 1) := by decide +kernel
theorem dX6_takeFrom_110 : decode cX6_takeFrom 110 = .ok (.aload_n 0, 1) := by decide +kernel
theorem dX6_takeFrom_111 : decode cX6_takeFrom 111 = .ok (.getfield 40, 3) := by decide +kernel
theorem dX6_takeFrom_114 : decode cX6_takeFrom 114 = .ok (.iconst 0, 1) := by decide +kernel
theorem dX6_takeFrom_115 : decode cX6_takeFrom 115 = .ok (.iconst 3, 1) := by decide +kernel
theorem dX6_takeFrom_116 : decode cX6_takeFrom 116 = .ok (.invokestatic 56, 3) := by decide +kernel
theorem dX6_takeFrom_119 : decode cX6_takeFrom 119 = .ok (.iconst 0, 1) := by decide +kernel
theorem dX6_takeFrom_120 : decode cX6_takeFrom 120 = .ok (.istore_n 2, 1) := by decide +kernel
theorem dX6_takeFrom_121 : decode cX6_takeFrom 121 = .ok (.iload_n 2, 1) := by decide +kernel
theorem dX6_takeFrom_122 : decode cX6_takeFrom 122 = .ok (.bipush 14, 2) := by decide +kernel
theorem dX6_takeFrom_124 : decode cX6_takeFrom 124 = .ok (.if_icmp .ge 21, 3) := by decide +kernel
theorem dX6_takeFrom_127 : decode cX6_takeFrom 127 = .ok (.aload_n 0, 1) := by decide +kernel
theorem dX6_takeFrom_128 : decode cX6_takeFrom 128 = .ok (.getfield 36, 3) := by decide +kernel
theorem dX6_takeFrom_131 : decode cX6_takeFrom 131 = .ok (.iload_n 2, 1) := by decide +kernel
theorem dX6_takeFrom_132 : decode cX6_takeFrom 132 = .ok (.aload_n 1, 1) := by decide +kernel
theorem dX6_takeFrom_133 : decode cX6_takeFrom 133 = .ok (.getfield 36, 3) := by decide +kernel
theorem dX6_takeFrom_136 : decode cX6_takeFrom 136 = .ok (.iload_n 2, 1) := by decide +kernel
theorem dX6_takeFrom_137 : decode cX6_takeFrom 137 = .ok (.aaload, 1) := by decide +kernel
theorem dX6_takeFrom_138 : decode cX6_takeFrom 138 = .ok (.aastore, 1) := by decide +kernel
theorem dX6_takeFrom_139 : decode cX6_takeFrom 139 = .ok (.iinc 2 1, 3) := by decide +kernel
theorem dX6_takeFrom_142 : decode cX6_takeFrom 142 = .ok (.goto (-21), 3) := by decide +kernel
theorem dX6_takeFrom_145 : decode cX6_takeFrom 145 = .ok (.aload_n 0, 1) := by decide +kernel
theorem dX6_takeFrom_146 : decode cX6_takeFrom 146 = .ok (.aload_n 1, 1) := by decide +kernel
theorem dX6_takeFrom_147 : decode cX6_takeFrom 147 = .ok (.getfield 62, 3) := by decide +kernel
theorem dX6_takeFrom_150 : decode cX6_takeFrom 150 = .ok (.putfield 62, 3) := by decide +kernel
theorem dX6_takeFrom_153 : decode cX6_takeFrom 153 = .ok (.aload_n 0, 1) := by decide +kernel
theorem dX6_takeFrom_154 : decode cX6_takeFrom 154 = .ok (.aload_n 1, 1) := by decide +kernel
theorem dX6_takeFrom_155 : decode cX6_takeFrom 155 = .ok (.getfield 43, 3) := by decide +kernel
theorem dX6_takeFrom_158 : decode cX6_takeFrom 158 = .ok (.putfield 43, 3) := by decide +kernel
theorem dX6_takeFrom_161 : decode cX6_takeFrom 161 = .ok (.aload_n 0, 1) := by decide +kernel
theorem dX6_takeFrom_162 : decode cX6_takeFrom 162 = .ok (.aload_n 1, 1) := by decide +kernel
theorem dX6_takeFrom_163 : decode cX6_takeFrom 163 = .ok (.getfield 47, 3) := by decide +kernel
theorem dX6_takeFrom_166 : decode cX6_takeFrom 166 = .ok (.putfield 47, 3) := by decide +kernel
theorem dX6_takeFrom_169 : decode cX6_takeFrom 169 = .ok (.aload_n 0, 1) := by decide +kernel
theorem dX6_takeFrom_170 : decode cX6_takeFrom 170 = .ok (.aload_n 1, 1) := by decide +kernel
theorem dX6_takeFrom_171 : decode cX6_takeFrom 171 = .ok (.getfield 50, 3) := by decide +kernel
theorem dX6_takeFrom_174 : decode cX6_takeFrom 174 = .ok (.putfield 50, 3) := by decide +kernel
theorem dX6_takeFrom_177 : decode cX6_takeFrom 177 = .ok (.aload_n 0, 1) := by decide +kernel
theorem dX6_takeFrom_178 : decode cX6_takeFrom 178 = .ok (.aload_n 1, 1) := by decide +kernel
theorem dX6_takeFrom_179 : decode cX6_takeFrom 179 = .ok (.getfield 65, 3) := by decide +kernel
theorem dX6_takeFrom_182 : decode cX6_takeFrom 182 = .ok (.putfield 65, 3) := by decide +kernel
theorem dX6_takeFrom_185 : decode cX6_takeFrom 185 = .ok (.aload_n 0, 1) := by decide +kernel
theorem dX6_takeFrom_186 : decode cX6_takeFrom 186 = .ok (.aload_n 1, 1) := by decide +kernel
theorem dX6_takeFrom_187 : decode cX6_takeFrom 187 = .ok (.getfield 53, 3) := by decide +kernel
theorem dX6_takeFrom_190 : decode cX6_takeFrom 190 = .ok (.putfield 53, 3) := by decide +kernel
theorem dX6_takeFrom_193 : decode cX6_takeFrom 193 = .ok (.aload_n 0, 1) := by decide +kernel
theorem dX6_takeFrom_194 : decode cX6_takeFrom 194 = .ok (.aload_n 1, 1) := by decide +kernel
theorem dX6_takeFrom_195 : decode cX6_takeFrom 195 = .ok (.getfield 68, 3) := by decide +kernel
theorem dX6_takeFrom_198 : decode cX6_takeFrom 198 = .ok (.putfield 68, 3) := by decide +kernel
theorem dX6_takeFrom_201 : decode cX6_takeFrom 201 = .ok (.return_, 1) := by decide +kernel
theorem dX6_isRun_0 : decode cX6_isRun 0 = .ok (.iload_n 1, 1) := by decide +kernel
theorem dX6_isRun_1 : decode cX6_isRun 1 = .ok (.iconst 0, 1) := by decide +kernel
theorem dX6_isRun_2 : decode cX6_isRun 2 = .ok (.aload_n 0, 1) := by decide +kernel
theorem dX6_isRun_3 : decode cX6_isRun 3 = .ok (.getfield 62, 3) := by decide +kernel
theorem dX6_isRun_6 : decode cX6_isRun 6 = .ok (.iconst 1, 1) := by decide +kernel
theorem dX6_isRun_7 : decode cX6_isRun 7 = .ok (.isub, 1) := by decide +kernel
theorem dX6_isRun_8 : decode cX6_isRun 8 = .ok (.invokestatic 71, 3) := by decide +kernel
theorem dX6_isRun_11 : decode cX6_isRun 11 = .ok (.ireturn, 1) := by decide +kernel
theorem dX6_isBuilt_0 : decode cX6_isBuilt 0 = .ok (.aload_n 0, 1) := by decide +kernel
theorem dX6_isBuilt_1 : decode cX6_isBuilt 1 = .ok (.aload_n 0, 1) := by decide +kernel
theorem dX6_isBuilt_2 : decode cX6_isBuilt 2 = .ok (.getfield 43, 3) := by decide +kernel
theorem dX6_isBuilt_5 : decode cX6_isBuilt 5 = .ok (.invokevirtual 75, 3) := by decide +kernel
theorem dX6_isBuilt_8 : decode cX6_isBuilt 8 = .ok (.ireturn, 1) := by decide +kernel
theorem dX6_addRun_0 : decode cX6_addRun 0 = .ok (.aload_n 0, 1) := by decide +kernel
theorem dX6_addRun_1 : decode cX6_addRun 1 = .ok (.getfield 62, 3) := by decide +kernel
theorem dX6_addRun_4 : decode cX6_addRun 4 = .ok (.bipush 10, 2) := by decide +kernel
theorem dX6_addRun_6 : decode cX6_addRun 6 = .ok (.if_icmp .lt 4, 3) := by decide +kernel
theorem dX6_addRun_9 : decode cX6_addRun 9 = .ok (.return_, 1) := by decide +kernel
theorem dX6_addRun_10 : decode cX6_addRun 10 = .ok (.aload_n 0, 1) := by decide +kernel
theorem dX6_addRun_11 : decode cX6_addRun 11 = .ok (.getfield 18, 3) := by decide +kernel
theorem dX6_addRun_14 : decode cX6_addRun 14 = .ok (.aload_n 0, 1) := by decide +kernel
theorem dX6_addRun_15 : decode cX6_addRun 15 = .ok (.getfield 62, 3) := by decide +kernel
theorem dX6_addRun_18 : decode cX6_addRun 18 = .ok (.iload_n 3, 1) := by decide +kernel
theorem dX6_addRun_19 : decode cX6_addRun 19 = .ok (.iastore, 1) := by decide +kernel
theorem dX6_addRun_20 : decode cX6_addRun 20 = .ok (.aload_n 0, 1) := by decide +kernel
theorem dX6_addRun_21 : decode cX6_addRun 21 = .ok (.getfield 21, 3) := by decide +kernel
theorem dX6_addRun_24 : decode cX6_addRun 24 = .ok (.aload_n 0, 1) := by decide +kernel
theorem dX6_addRun_25 : decode cX6_addRun 25 = .ok (.getfield 62, 3) := by decide +kernel
theorem dX6_addRun_28 : decode cX6_addRun 28 = .ok (.iload 4, 2) := by decide +kernel
theorem dX6_addRun_30 : decode cX6_addRun 30 = .ok (.iastore, 1) := by decide +kernel
theorem dX6_addRun_31 : decode cX6_addRun 31 = .ok (.aload_n 0, 1) := by decide +kernel
theorem dX6_addRun_32 : decode cX6_addRun 32 = .ok (.getfield 24, 3) := by decide +kernel
theorem dX6_addRun_35 : decode cX6_addRun 35 = .ok (.aload_n 0, 1) := by decide +kernel
theorem dX6_addRun_36 : decode cX6_addRun 36 = .ok (.getfield 62, 3) := by decide +kernel
theorem dX6_addRun_39 : decode cX6_addRun 39 = .ok (.iload_n 3, 1) := by decide +kernel
theorem dX6_addRun_40 : decode cX6_addRun 40 = .ok (.sipush 1000, 3) := by decide +kernel
theorem dX6_addRun_43 : decode cX6_addRun 43 = .ok (.imul, 1) := by decide +kernel
theorem dX6_addRun_44 : decode cX6_addRun 44 = .ok (.iastore, 1) := by decide +kernel
theorem dX6_addRun_45 : decode cX6_addRun 45 = .ok (.aload_n 0, 1) := by decide +kernel
theorem dX6_addRun_46 : decode cX6_addRun 46 = .ok (.aload_n 0, 1) := by decide +kernel
theorem dX6_addRun_47 : decode cX6_addRun 47 = .ok (.getfield 62, 3) := by decide +kernel
theorem dX6_addRun_50 : decode cX6_addRun 50 = .ok (.iload_n 1, 1) := by decide +kernel
theorem dX6_addRun_51 : decode cX6_addRun 51 = .ok (.iload_n 2, 1) := by decide +kernel
theorem dX6_addRun_52 : decode cX6_addRun 52 = .ok (.invokevirtual 79, 3) := by decide +kernel
theorem dX6_addRun_55 : decode cX6_addRun 55 = .ok (.aload_n 0, 1) := by decide +kernel
theorem dX6_addRun_56 : decode cX6_addRun 56 = .ok (.dup, 1) := by decide +kernel
theorem dX6_addRun_57 : decode cX6_addRun 57 = .ok (.getfield 62, 3) := by decide +kernel
theorem dX6_addRun_60 : decode cX6_addRun 60 = .ok (.iconst 1, 1) := by decide +kernel
theorem dX6_addRun_61 : decode cX6_addRun 61 = .ok (.iadd, 1) := by decide +kernel
theorem dX6_addRun_62 : decode cX6_addRun 62 = .ok (.putfield 62, 3) := by decide +kernel
theorem dX6_addRun_65 : decode cX6_addRun 65 = .ok (.return_, 1) := by decide +kernel
theorem dX6_shape_0 : decode cX6_shape 0 = .ok (.aload_n 0, 1) := by decide +kernel
theorem dX6_shape_1 : decode cX6_shape 1 = .ok (.getfield 9, 3) := by decide +kernel
theorem dX6_shape_4 : decode cX6_shape 4 = .ok (.iload_n 1, 1) := by decide +kernel
theorem dX6_shape_5 : decode cX6_shape 5 = .ok (.iload_n 2, 1) := by decide +kernel
theorem dX6_shape_6 : decode cX6_shape 6 = .ok (.iastore, 1) := by decide +kernel
theorem dX6_shape_7 : decode cX6_shape 7 = .ok (.aload_n 0, 1) := by decide +kernel
theorem dX6_shape_8 : decode cX6_shape 8 = .ok (.getfield 15, 3) := by decide +kernel
theorem dX6_shape_11 : decode cX6_shape 11 = .ok (.iload_n 1, 1) := by decide +kernel
theorem dX6_shape_12 : decode cX6_shape 12 = .ok (.iload_n 3, 1) := by decide +kernel
theorem dX6_shape_13 : decode cX6_shape 13 = .ok (.iastore, 1) := by decide +kernel
theorem dX6_shape_14 : decode cX6_shape 14 = .ok (.aload_n 0, 1) := by decide +kernel
theorem dX6_shape_15 : decode cX6_shape 15 = .ok (.getfield 27, 3) := by decide +kernel
theorem dX6_shape_18 : decode cX6_shape 18 = .ok (.iload_n 1, 1) := by decide +kernel
theorem dX6_shape_19 : decode cX6_shape 19 = .ok (.iload_n 2, 1) := by decide +kernel
theorem dX6_shape_20 : decode cX6_shape 20 = .ok (.iload_n 3, 1) := by decide +kernel
theorem dX6_shape_21 : decode cX6_shape 21 = .ok (.invokestatic 83, 3) := by decide +kernel
theorem dX6_shape_24 : decode cX6_shape 24 = .ok (.lastore, 1) := by decide +kernel
theorem dX6_shape_25 : decode cX6_shape 25 = .ok (.return_, 1) := by decide +kernel
theorem dX6_drawRun_0 : decode cX6_drawRun 0 = .ok (.aload_n 0, 1) := by decide +kernel
theorem dX6_drawRun_1 : decode cX6_drawRun 1 = .ok (.invokevirtual 89, 3) := by decide +kernel
theorem dX6_drawRun_4 : decode cX6_drawRun 4 = .ok (.bipush 6, 2) := by decide +kernel
theorem dX6_drawRun_6 : decode cX6_drawRun 6 = .ok (.irem, 1) := by decide +kernel
theorem dX6_drawRun_7 : decode cX6_drawRun 7 = .ok (.istore_n 1, 1) := by decide +kernel
theorem dX6_drawRun_8 : decode cX6_drawRun 8 = .ok (.aload_n 0, 1) := by decide +kernel
theorem dX6_drawRun_9 : decode cX6_drawRun 9 = .ok (.invokevirtual 89, 3) := by decide +kernel
theorem dX6_drawRun_12 : decode cX6_drawRun 12 = .ok (.bipush 36, 2) := by decide +kernel
theorem dX6_drawRun_14 : decode cX6_drawRun 14 = .ok (.irem, 1) := by decide +kernel
theorem dX6_drawRun_15 : decode cX6_drawRun 15 = .ok (.istore_n 2, 1) := by decide +kernel
theorem dX6_drawRun_16 : decode cX6_drawRun 16 = .ok (.iconst 1, 1) := by decide +kernel
theorem dX6_drawRun_17 : decode cX6_drawRun 17 = .ok (.aload_n 0, 1) := by decide +kernel
theorem dX6_drawRun_18 : decode cX6_drawRun 18 = .ok (.invokevirtual 89, 3) := by decide +kernel
theorem dX6_drawRun_21 : decode cX6_drawRun 21 = .ok (.bipush 40, 2) := by decide +kernel
theorem dX6_drawRun_23 : decode cX6_drawRun 23 = .ok (.irem, 1) := by decide +kernel
theorem dX6_drawRun_24 : decode cX6_drawRun 24 = .ok (.iadd, 1) := by decide +kernel
theorem dX6_drawRun_25 : decode cX6_drawRun 25 = .ok (.istore_n 3, 1) := by decide +kernel
theorem dX6_drawRun_26 : decode cX6_drawRun 26 = .ok (.aload_n 0, 1) := by decide +kernel
theorem dX6_drawRun_27 : decode cX6_drawRun 27 = .ok (.iload_n 1, 1) := by decide +kernel
theorem dX6_drawRun_28 : decode cX6_drawRun 28 = .ok (.iload_n 2, 1) := by decide +kernel
theorem dX6_drawRun_29 : decode cX6_drawRun 29 = .ok (.iload_n 3, 1) := by decide +kernel
theorem dX6_drawRun_30 : decode cX6_drawRun 30 = .ok (.iconst 1, 1) := by decide +kernel
theorem dX6_drawRun_31 : decode cX6_drawRun 31 = .ok (.aload_n 0, 1) := by decide +kernel
theorem dX6_drawRun_32 : decode cX6_drawRun 32 = .ok (.invokevirtual 89, 3) := by decide +kernel
theorem dX6_drawRun_35 : decode cX6_drawRun 35 = .ok (.bipush 9, 2) := by decide +kernel
theorem dX6_drawRun_37 : decode cX6_drawRun 37 = .ok (.irem, 1) := by decide +kernel
theorem dX6_drawRun_38 : decode cX6_drawRun 38 = .ok (.iadd, 1) := by decide +kernel
theorem dX6_drawRun_39 : decode cX6_drawRun 39 = .ok (.invokevirtual 93, 3) := by decide +kernel
theorem dX6_drawRun_42 : decode cX6_drawRun 42 = .ok (.return_, 1) := by decide +kernel
theorem dX6_draw_0 : decode cX6_draw 0 = .ok (.aload_n 0, 1) := by decide +kernel
theorem dX6_draw_1 : decode cX6_draw 1 = .ok (.aload_n 0, 1) := by decide +kernel
theorem dX6_draw_2 : decode cX6_draw 2 = .ok (.getfield 53, 3) := by decide +kernel
theorem dX6_draw_5 : decode cX6_draw 5 = .ok (.ldc 97, 2) := by decide +kernel
theorem dX6_draw_7 : decode cX6_draw 7 = .ok (.imul, 1) := by decide +kernel
theorem dX6_draw_8 : decode cX6_draw 8 = .ok (.sipush 12345, 3) := by decide +kernel
theorem dX6_draw_11 : decode cX6_draw 11 = .ok (.iadd, 1) := by decide +kernel
theorem dX6_draw_12 : decode cX6_draw 12 = .ok (.putfield 53, 3) := by decide +kernel
theorem dX6_draw_15 : decode cX6_draw 15 = .ok (.aload_n 0, 1) := by decide +kernel
theorem dX6_draw_16 : decode cX6_draw 16 = .ok (.getfield 53, 3) := by decide +kernel
theorem dX6_draw_19 : decode cX6_draw 19 = .ok (.bipush 8, 2) := by decide +kernel
theorem dX6_draw_21 : decode cX6_draw 21 = .ok (.iushr, 1) := by decide +kernel
theorem dX6_draw_22 : decode cX6_draw 22 = .ok (.ireturn, 1) := by decide +kernel
theorem dX6_chooseTrue_0 : decode cX6_chooseTrue 0 = .ok (.iconst 0, 1) := by decide +kernel
theorem dX6_chooseTrue_1 : decode cX6_chooseTrue 1 = .ok (.istore_n 1, 1) := by decide +kernel
theorem dX6_chooseTrue_2 : decode cX6_chooseTrue 2 = .ok (.iconst 0, 1) := by decide +kernel
theorem dX6_chooseTrue_3 : decode cX6_chooseTrue 3 = .ok (.istore_n 2, 1) := by decide +kernel
theorem dX6_chooseTrue_4 : decode cX6_chooseTrue 4 = .ok (.iload_n 2, 1) := by decide +kernel
theorem dX6_chooseTrue_5 : decode cX6_chooseTrue 5 = .ok (.aload_n 0, 1) := by decide +kernel
theorem dX6_chooseTrue_6 : decode cX6_chooseTrue 6 = .ok (.getfield 62, 3) := by decide +kernel
theorem dX6_chooseTrue_9 : decode cX6_chooseTrue 9 = .ok (.if_icmp .ge 18, 3) := by decide +kernel
theorem dX6_chooseTrue_12 : decode cX6_chooseTrue 12 = .ok (.iload_n 1, 1) := by decide +kernel
theorem dX6_chooseTrue_13 : decode cX6_chooseTrue 13 = .ok (.aload_n 0, 1) := by decide +kernel
theorem dX6_chooseTrue_14 : decode cX6_chooseTrue 14 = .ok (.getfield 18, 3) := by decide +kernel
theorem dX6_chooseTrue_17 : decode cX6_chooseTrue 17 = .ok (.iload_n 2, 1) := by decide +kernel
theorem dX6_chooseTrue_18 : decode cX6_chooseTrue 18 = .ok (.iaload, 1) := by decide +kernel
theorem dX6_chooseTrue_19 : decode cX6_chooseTrue 19 = .ok (.iadd, 1) := by decide +kernel
theorem dX6_chooseTrue_20 : decode cX6_chooseTrue 20 = .ok (.istore_n 1, 1) := by decide +kernel
theorem dX6_chooseTrue_21 : decode cX6_chooseTrue 21 = .ok (.iinc 2 1, 3) := by decide +kernel
theorem dX6_chooseTrue_24 : decode cX6_chooseTrue 24 = .ok (.goto (-20), 3) := by decide +kernel
theorem dX6_chooseTrue_27 : decode cX6_chooseTrue 27 = .ok (.iload_n 1, 1) := by decide +kernel
theorem dX6_chooseTrue_28 : decode cX6_chooseTrue 28 = .ok (.ifCond .gt 4, 3) := by decide +kernel
theorem dX6_chooseTrue_31 : decode cX6_chooseTrue 31 = .ok (.return_, 1) := by decide +kernel
theorem dX6_chooseTrue_32 : decode cX6_chooseTrue 32 = .ok (.aload_n 0, 1) := by decide +kernel
theorem dX6_chooseTrue_33 : decode cX6_chooseTrue 33 = .ok (.invokevirtual 89, 3) := by decide +kernel
theorem dX6_chooseTrue_36 : decode cX6_chooseTrue 36 = .ok (.iload_n 1, 1) := by decide +kernel
theorem dX6_chooseTrue_37 : decode cX6_chooseTrue 37 = .ok (.irem, 1) := by decide +kernel
theorem dX6_chooseTrue_38 : decode cX6_chooseTrue 38 = .ok (.istore_n 2, 1) := by decide +kernel
theorem dX6_chooseTrue_39 : decode cX6_chooseTrue 39 = .ok (.iconst 0, 1) := by decide +kernel
theorem dX6_chooseTrue_40 : decode cX6_chooseTrue 40 = .ok (.istore_n 3, 1) := by decide +kernel
theorem dX6_chooseTrue_41 : decode cX6_chooseTrue 41 = .ok (.iload_n 3, 1) := by decide +kernel
theorem dX6_chooseTrue_42 : decode cX6_chooseTrue 42 = .ok (.aload_n 0, 1) := by decide +kernel
theorem dX6_chooseTrue_43 : decode cX6_chooseTrue 43 = .ok (.getfield 62, 3) := by decide +kernel
theorem dX6_chooseTrue_46 : decode cX6_chooseTrue 46 = .ok (.if_icmp .ge 28, 3) := by decide +kernel
theorem dX6_chooseTrue_49 : decode cX6_chooseTrue 49 = .ok (.iload_n 2, 1) := by decide +kernel
theorem dX6_chooseTrue_50 : decode cX6_chooseTrue 50 = .ok (.aload_n 0, 1) := by decide +kernel
theorem dX6_chooseTrue_51 : decode cX6_chooseTrue 51 = .ok (.getfield 18, 3) := by decide +kernel
theorem dX6_chooseTrue_54 : decode cX6_chooseTrue 54 = .ok (.iload_n 3, 1) := by decide +kernel
theorem dX6_chooseTrue_55 : decode cX6_chooseTrue 55 = .ok (.iaload, 1) := by decide +kernel
theorem dX6_chooseTrue_56 : decode cX6_chooseTrue 56 = .ok (.isub, 1) := by decide +kernel
theorem dX6_chooseTrue_57 : decode cX6_chooseTrue 57 = .ok (.istore_n 2, 1) := by decide +kernel
theorem dX6_chooseTrue_58 : decode cX6_chooseTrue 58 = .ok (.iload_n 2, 1) := by decide +kernel
theorem dX6_chooseTrue_59 : decode cX6_chooseTrue 59 = .ok (.ifCond .ge 9, 3) := by decide +kernel
theorem dX6_chooseTrue_62 : decode cX6_chooseTrue 62 = .ok (.aload_n 0, 1) := by decide +kernel
theorem dX6_chooseTrue_63 : decode cX6_chooseTrue 63 = .ok (.iload_n 3, 1) := by decide +kernel
theorem dX6_chooseTrue_64 : decode cX6_chooseTrue 64 = .ok (.putfield 43, 3) := by decide +kernel
theorem dX6_chooseTrue_67 : decode cX6_chooseTrue 67 = .ok (.return_, 1) := by decide +kernel
theorem dX6_chooseTrue_68 : decode cX6_chooseTrue 68 = .ok (.iinc 3 1, 3) := by decide +kernel
theorem dX6_chooseTrue_71 : decode cX6_chooseTrue 71 = .ok (.goto (-30), 3) := by decide +kernel
theorem dX6_chooseTrue_74 : decode cX6_chooseTrue 74 = .ok (.return_, 1) := by decide +kernel
theorem dX6_wouldTell_0 : decode cX6_wouldTell 0 = .ok (.aload_n 0, 1) := by decide +kernel
theorem dX6_wouldTell_1 : decode cX6_wouldTell 1 = .ok (.getfield 9, 3) := by decide +kernel
theorem dX6_wouldTell_4 : decode cX6_wouldTell 4 = .ok (.iload_n 1, 1) := by decide +kernel
theorem dX6_wouldTell_5 : decode cX6_wouldTell 5 = .ok (.iaload, 1) := by decide +kernel
theorem dX6_wouldTell_6 : decode cX6_wouldTell 6 = .ok (.aload_n 0, 1) := by decide +kernel
theorem dX6_wouldTell_7 : decode cX6_wouldTell 7 = .ok (.getfield 21, 3) := by decide +kernel
theorem dX6_wouldTell_10 : decode cX6_wouldTell 10 = .ok (.iload_n 1, 1) := by decide +kernel
theorem dX6_wouldTell_11 : decode cX6_wouldTell 11 = .ok (.iaload, 1) := by decide +kernel
theorem dX6_wouldTell_12 : decode cX6_wouldTell 12 = .ok (.iload_n 2, 1) := by decide +kernel
theorem dX6_wouldTell_13 : decode cX6_wouldTell 13 = .ok (.aload_n 0, 1) := by decide +kernel
theorem dX6_wouldTell_14 : decode cX6_wouldTell 14 = .ok (.getfield 27, 3) := by decide +kernel
theorem dX6_wouldTell_17 : decode cX6_wouldTell 17 = .ok (.iload_n 1, 1) := by decide +kernel
theorem dX6_wouldTell_18 : decode cX6_wouldTell 18 = .ok (.laload, 1) := by decide +kernel
theorem dX6_wouldTell_19 : decode cX6_wouldTell 19 = .ok (.invokestatic 98, 3) := by decide +kernel
theorem dX6_wouldTell_22 : decode cX6_wouldTell 22 = .ok (.iload_n 3, 1) := by decide +kernel
theorem dX6_wouldTell_23 : decode cX6_wouldTell 23 = .ok (.invokestatic 102, 3) := by decide +kernel
theorem dX6_wouldTell_26 : decode cX6_wouldTell 26 = .ok (.ifCond .eq 7, 3) := by decide +kernel
theorem dX6_wouldTell_29 : decode cX6_wouldTell 29 = .ok (.iconst 1, 1) := by decide +kernel
theorem dX6_wouldTell_30 : decode cX6_wouldTell 30 = .ok (.goto 4, 3) := by decide +kernel
theorem dX6_wouldTell_33 : decode cX6_wouldTell 33 = .ok (.iconst 0, 1) := by decide +kernel
theorem dX6_wouldTell_34 : decode cX6_wouldTell 34 = .ok (.ireturn, 1) := by decide +kernel
theorem dX6_testAt_0 : decode cX6_testAt 0 = .ok (.aload_n 0, 1) := by decide +kernel
theorem dX6_testAt_1 : decode cX6_testAt 1 = .ok (.aload_n 0, 1) := by decide +kernel
theorem dX6_testAt_2 : decode cX6_testAt 2 = .ok (.getfield 43, 3) := by decide +kernel
theorem dX6_testAt_5 : decode cX6_testAt 5 = .ok (.iload_n 1, 1) := by decide +kernel
theorem dX6_testAt_6 : decode cX6_testAt 6 = .ok (.iload_n 2, 1) := by decide +kernel
theorem dX6_testAt_7 : decode cX6_testAt 7 = .ok (.invokevirtual 106, 3) := by decide +kernel
theorem dX6_testAt_10 : decode cX6_testAt 10 = .ok (.istore_n 3, 1) := by decide +kernel
theorem dX6_testAt_11 : decode cX6_testAt 11 = .ok (.iload_n 1, 1) := by decide +kernel
theorem dX6_testAt_12 : decode cX6_testAt 12 = .ok (.iconst 3, 1) := by decide +kernel
theorem dX6_testAt_13 : decode cX6_testAt 13 = .ok (.if_icmp .eq 31, 3) := by decide +kernel
theorem dX6_testAt_16 : decode cX6_testAt 16 = .ok (.aload_n 0, 1) := by decide +kernel
theorem dX6_testAt_17 : decode cX6_testAt 17 = .ok (.invokevirtual 89, 3) := by decide +kernel
theorem dX6_testAt_20 : decode cX6_testAt 20 = .ok (.bipush 100, 2) := by decide +kernel
theorem dX6_testAt_22 : decode cX6_testAt 22 = .ok (.irem, 1) := by decide +kernel
theorem dX6_testAt_23 : decode cX6_testAt 23 = .ok (.aload_n 0, 1) := by decide +kernel
theorem dX6_testAt_24 : decode cX6_testAt 24 = .ok (.getfield 47, 3) := by decide +kernel
theorem dX6_testAt_27 : decode cX6_testAt 27 = .ok (.if_icmp .ge 17, 3) := by decide +kernel
theorem dX6_testAt_30 : decode cX6_testAt 30 = .ok (.iconst 1, 1) := by decide +kernel
theorem dX6_testAt_31 : decode cX6_testAt 31 = .ok (.iload_n 3, 1) := by decide +kernel
theorem dX6_testAt_32 : decode cX6_testAt 32 = .ok (.isub, 1) := by decide +kernel
theorem dX6_testAt_33 : decode cX6_testAt 33 = .ok (.istore_n 3, 1) := by decide +kernel
theorem dX6_testAt_34 : decode cX6_testAt 34 = .ok (.aload_n 0, 1) := by decide +kernel
theorem dX6_testAt_35 : decode cX6_testAt 35 = .ok (.getfield 31, 3) := by decide +kernel
theorem dX6_testAt_38 : decode cX6_testAt 38 = .ok (.iconst 4, 1) := by decide +kernel
theorem dX6_testAt_39 : decode cX6_testAt 39 = .ok (.dup2, 1) := by decide +kernel
theorem dX6_testAt_40 : decode cX6_testAt 40 = .ok (.iaload, 1) := by decide +kernel
theorem dX6_testAt_41 : decode cX6_testAt 41 = .ok (.iconst 1, 1) := by decide +kernel
theorem dX6_testAt_42 : decode cX6_testAt 42 = .ok (.iadd, 1) := by decide +kernel
theorem dX6_testAt_43 : decode cX6_testAt 43 = .ok (.iastore, 1) := by decide +kernel
theorem dX6_testAt_44 : decode cX6_testAt 44 = .ok (.aload_n 0, 1) := by decide +kernel
theorem dX6_testAt_45 : decode cX6_testAt 45 = .ok (.getfield 31, 3) := by decide +kernel
theorem dX6_testAt_48 : decode cX6_testAt 48 = .ok (.iconst 3, 1) := by decide +kernel
theorem dX6_testAt_49 : decode cX6_testAt 49 = .ok (.dup2, 1) := by decide +kernel
theorem dX6_testAt_50 : decode cX6_testAt 50 = .ok (.iaload, 1) := by decide +kernel
theorem dX6_testAt_51 : decode cX6_testAt 51 = .ok (.iconst 1, 1) := by decide +kernel
theorem dX6_testAt_52 : decode cX6_testAt 52 = .ok (.iadd, 1) := by decide +kernel
theorem dX6_testAt_53 : decode cX6_testAt 53 = .ok (.iastore, 1) := by decide +kernel
theorem dX6_testAt_54 : decode cX6_testAt 54 = .ok (.aload_n 0, 1) := by decide +kernel
theorem dX6_testAt_55 : decode cX6_testAt 55 = .ok (.getfield 31, 3) := by decide +kernel
theorem dX6_testAt_58 : decode cX6_testAt 58 = .ok (.iconst 5, 1) := by decide +kernel
theorem dX6_testAt_59 : decode cX6_testAt 59 = .ok (.dup2, 1) := by decide +kernel
theorem dX6_testAt_60 : decode cX6_testAt 60 = .ok (.iaload, 1) := by decide +kernel
theorem dX6_testAt_61 : decode cX6_testAt 61 = .ok (.getstatic 110, 3) := by decide +kernel
theorem dX6_testAt_64 : decode cX6_testAt 64 = .ok (.iload_n 1, 1) := by decide +kernel
theorem dX6_testAt_65 : decode cX6_testAt 65 = .ok (.iaload, 1) := by decide +kernel
theorem dX6_testAt_66 : decode cX6_testAt 66 = .ok (.iadd, 1) := by decide +kernel
theorem dX6_testAt_67 : decode cX6_testAt 67 = .ok (.iastore, 1) := by decide +kernel
theorem dX6_testAt_68 : decode cX6_testAt 68 = .ok (.aload_n 0, 1) := by decide +kernel
theorem dX6_testAt_69 : decode cX6_testAt 69 = .ok (.iload_n 1, 1) := by decide +kernel
theorem dX6_testAt_70 : decode cX6_testAt 70 = .ok (.iload_n 2, 1) := by decide +kernel
theorem dX6_testAt_71 : decode cX6_testAt 71 = .ok (.iload_n 3, 1) := by decide +kernel
theorem dX6_testAt_72 : decode cX6_testAt 72 = .ok (.invokevirtual 113, 3) := by decide +kernel
theorem dX6_testAt_75 : decode cX6_testAt 75 = .ok (.iload_n 3, 1) := by decide +kernel
theorem dX6_testAt_76 : decode cX6_testAt 76 = .ok (.ireturn, 1) := by decide +kernel
theorem dX6_ofHundred_0 : decode cX6_ofHundred 0 = .ok (.iload_n 1, 1) := by decide +kernel
theorem dX6_ofHundred_1 : decode cX6_ofHundred 1 = .ok (.iconst 3, 1) := by decide +kernel
theorem dX6_ofHundred_2 : decode cX6_ofHundred 2 = .ok (.if_icmp .ne 7, 3) := by decide +kernel
theorem dX6_ofHundred_5 : decode cX6_ofHundred 5 = .ok (.iconst 0, 1) := by decide +kernel
theorem dX6_ofHundred_6 : decode cX6_ofHundred 6 = .ok (.goto 7, 3) := by decide +kernel
theorem dX6_ofHundred_9 : decode cX6_ofHundred 9 = .ok (.aload_n 0, 1) := by decide +kernel
theorem dX6_ofHundred_10 : decode cX6_ofHundred 10 = .ok (.getfield 47, 3) := by decide +kernel
theorem dX6_ofHundred_13 : decode cX6_ofHundred 13 = .ok (.istore_n 3, 1) := by decide +kernel
theorem dX6_ofHundred_14 : decode cX6_ofHundred 14 = .ok (.iload_n 2, 1) := by decide +kernel
theorem dX6_ofHundred_15 : decode cX6_ofHundred 15 = .ok (.ifCond .eq 10, 3) := by decide +kernel
theorem dX6_ofHundred_18 : decode cX6_ofHundred 18 = .ok (.bipush 100, 2) := by decide +kernel
theorem dX6_ofHundred_20 : decode cX6_ofHundred 20 = .ok (.iload_n 3, 1) := by decide +kernel
theorem dX6_ofHundred_21 : decode cX6_ofHundred 21 = .ok (.isub, 1) := by decide +kernel
theorem dX6_ofHundred_22 : decode cX6_ofHundred 22 = .ok (.goto 4, 3) := by decide +kernel
theorem dX6_ofHundred_25 : decode cX6_ofHundred 25 = .ok (.iload_n 3, 1) := by decide +kernel
theorem dX6_ofHundred_26 : decode cX6_ofHundred 26 = .ok (.ireturn, 1) := by decide +kernel
theorem dX6_changeOdds_0 : decode cX6_changeOdds 0 = .ok (.iconst 0, 1) := by decide +kernel
theorem dX6_changeOdds_1 : decode cX6_changeOdds 1 = .ok (.istore 4, 2) := by decide +kernel
theorem dX6_changeOdds_3 : decode cX6_changeOdds 3 = .ok (.iconst 0, 1) := by decide +kernel
theorem dX6_changeOdds_4 : decode cX6_changeOdds 4 = .ok (.istore 5, 2) := by decide +kernel
theorem dX6_changeOdds_6 : decode cX6_changeOdds 6 = .ok (.iload 5, 2) := by decide +kernel
theorem dX6_changeOdds_8 : decode cX6_changeOdds 8 = .ok (.aload_n 0, 1) := by decide +kernel
theorem dX6_changeOdds_9 : decode cX6_changeOdds 9 = .ok (.getfield 62, 3) := by decide +kernel
theorem dX6_changeOdds_12 : decode cX6_changeOdds 12 = .ok (.if_icmp .ge 61, 3) := by decide +kernel
theorem dX6_changeOdds_15 : decode cX6_changeOdds 15 = .ok (.aload_n 0, 1) := by decide +kernel
theorem dX6_changeOdds_16 : decode cX6_changeOdds 16 = .ok (.getfield 24, 3) := by decide +kernel
theorem dX6_changeOdds_19 : decode cX6_changeOdds 19 = .ok (.iload 5, 2) := by decide +kernel
theorem dX6_changeOdds_21 : decode cX6_changeOdds 21 = .ok (.aload_n 0, 1) := by decide +kernel
theorem dX6_changeOdds_22 : decode cX6_changeOdds 22 = .ok (.getfield 24, 3) := by decide +kernel
theorem dX6_changeOdds_25 : decode cX6_changeOdds 25 = .ok (.iload 5, 2) := by decide +kernel
theorem dX6_changeOdds_27 : decode cX6_changeOdds 27 = .ok (.iaload, 1) := by decide +kernel
theorem dX6_changeOdds_28 : decode cX6_changeOdds 28 = .ok (.aload_n 0, 1) := by decide +kernel
theorem dX6_changeOdds_29 : decode cX6_changeOdds 29 = .ok (.iload_n 1, 1) := by decide +kernel
theorem dX6_changeOdds_30 : decode cX6_changeOdds 30 = .ok (.aload_n 0, 1) := by decide +kernel
theorem dX6_changeOdds_31 : decode cX6_changeOdds 31 = .ok (.iload 5, 2) := by decide +kernel
theorem dX6_changeOdds_33 : decode cX6_changeOdds 33 = .ok (.iload_n 1, 1) := by decide +kernel
theorem dX6_changeOdds_34 : decode cX6_changeOdds 34 = .ok (.iload_n 2, 1) := by decide +kernel
theorem dX6_changeOdds_35 : decode cX6_changeOdds 35 = .ok (.invokevirtual 106, 3) := by decide +kernel
theorem dX6_changeOdds_38 : decode cX6_changeOdds 38 = .ok (.iload_n 3, 1) := by decide +kernel
theorem dX6_changeOdds_39 : decode cX6_changeOdds 39 = .ok (.if_icmp .ne 7, 3) := by decide +kernel
theorem dX6_changeOdds_42 : decode cX6_changeOdds 42 = .ok (.iconst 1, 1) := by decide +kernel
theorem dX6_changeOdds_43 : decode cX6_changeOdds 43 = .ok (.goto 4, 3) := by decide +kernel
theorem dX6_changeOdds_46 : decode cX6_changeOdds 46 = .ok (.iconst 0, 1) := by decide +kernel
theorem dX6_changeOdds_47 : decode cX6_changeOdds 47 = .ok (.invokevirtual 116, 3) := by decide +kernel
theorem dX6_changeOdds_50 : decode cX6_changeOdds 50 = .ok (.imul, 1) := by decide +kernel
theorem dX6_changeOdds_51 : decode cX6_changeOdds 51 = .ok (.bipush 100, 2) := by decide +kernel
theorem dX6_changeOdds_53 : decode cX6_changeOdds 53 = .ok (.idiv, 1) := by decide +kernel
theorem dX6_changeOdds_54 : decode cX6_changeOdds 54 = .ok (.iastore, 1) := by decide +kernel
theorem dX6_changeOdds_55 : decode cX6_changeOdds 55 = .ok (.iload 4, 2) := by decide +kernel
theorem dX6_changeOdds_57 : decode cX6_changeOdds 57 = .ok (.aload_n 0, 1) := by decide +kernel
theorem dX6_changeOdds_58 : decode cX6_changeOdds 58 = .ok (.getfield 24, 3) := by decide +kernel
theorem dX6_changeOdds_61 : decode cX6_changeOdds 61 = .ok (.iload 5, 2) := by decide +kernel
theorem dX6_changeOdds_63 : decode cX6_changeOdds 63 = .ok (.iaload, 1) := by decide +kernel
theorem dX6_changeOdds_64 : decode cX6_changeOdds 64 = .ok (.iadd, 1) := by decide +kernel
theorem dX6_changeOdds_65 : decode cX6_changeOdds 65 = .ok (.istore 4, 2) := by decide +kernel
theorem dX6_changeOdds_67 : decode cX6_changeOdds 67 = .ok (.iinc 5 1, 3) := by decide +kernel
theorem dX6_changeOdds_70 : decode cX6_changeOdds 70 = .ok (.goto (-64), 3) := by decide +kernel
theorem dX6_changeOdds_73 : decode cX6_changeOdds 73 = .ok (.iload 4, 2) := by decide +kernel
theorem dX6_changeOdds_75 : decode cX6_changeOdds 75 = .ok (.ifCond .ne 7, 3) := by decide +kernel
theorem dX6_changeOdds_78 : decode cX6_changeOdds 78 = .ok (.aload_n 0, 1) := by decide +kernel
theorem dX6_changeOdds_79 : decode cX6_changeOdds 79 = .ok (.invokevirtual 120, 3) := by decide +kernel
theorem dX6_changeOdds_82 : decode cX6_changeOdds 82 = .ok (.return_, 1) := by decide +kernel
theorem dX6_forget_0 : decode cX6_forget 0 = .ok (.iconst 0, 1) := by decide +kernel
theorem dX6_forget_1 : decode cX6_forget 1 = .ok (.istore_n 1, 1) := by decide +kernel
theorem dX6_forget_2 : decode cX6_forget 2 = .ok (.iload_n 1, 1) := by decide +kernel
theorem dX6_forget_3 : decode cX6_forget 3 = .ok (.aload_n 0, 1) := by decide +kernel
theorem dX6_forget_4 : decode cX6_forget 4 = .ok (.getfield 62, 3) := by decide +kernel
theorem dX6_forget_7 : decode cX6_forget 7 = .ok (.if_icmp .ge 25, 3) := by decide +kernel
theorem dX6_forget_10 : decode cX6_forget 10 = .ok (.aload_n 0, 1) := by decide +kernel
theorem dX6_forget_11 : decode cX6_forget 11 = .ok (.getfield 24, 3) := by decide +kernel
theorem dX6_forget_14 : decode cX6_forget 14 = .ok (.iload_n 1, 1) := by decide +kernel
theorem dX6_forget_15 : decode cX6_forget 15 = .ok (.aload_n 0, 1) := by decide +kernel
theorem dX6_forget_16 : decode cX6_forget 16 = .ok (.getfield 18, 3) := by decide +kernel
theorem dX6_forget_19 : decode cX6_forget 19 = .ok (.iload_n 1, 1) := by decide +kernel
theorem dX6_forget_20 : decode cX6_forget 20 = .ok (.iaload, 1) := by decide +kernel
theorem dX6_forget_21 : decode cX6_forget 21 = .ok (.sipush 1000, 3) := by decide +kernel
theorem dX6_forget_24 : decode cX6_forget 24 = .ok (.imul, 1) := by decide +kernel
theorem dX6_forget_25 : decode cX6_forget 25 = .ok (.iastore, 1) := by decide +kernel
theorem dX6_forget_26 : decode cX6_forget 26 = .ok (.iinc 1 1, 3) := by decide +kernel
theorem dX6_forget_29 : decode cX6_forget 29 = .ok (.goto (-27), 3) := by decide +kernel
theorem dX6_forget_32 : decode cX6_forget 32 = .ok (.aload_n 0, 1) := by decide +kernel
theorem dX6_forget_33 : decode cX6_forget 33 = .ok (.getfield 31, 3) := by decide +kernel
theorem dX6_forget_36 : decode cX6_forget 36 = .ok (.bipush 6, 2) := by decide +kernel
theorem dX6_forget_38 : decode cX6_forget 38 = .ok (.dup2, 1) := by decide +kernel
theorem dX6_forget_39 : decode cX6_forget 39 = .ok (.iaload, 1) := by decide +kernel
theorem dX6_forget_40 : decode cX6_forget 40 = .ok (.iconst 1, 1) := by decide +kernel
theorem dX6_forget_41 : decode cX6_forget 41 = .ok (.iadd, 1) := by decide +kernel
theorem dX6_forget_42 : decode cX6_forget 42 = .ok (.iastore, 1) := by decide +kernel
theorem dX6_forget_43 : decode cX6_forget 43 = .ok (.return_, 1) := by decide +kernel
theorem dX6_drillAt_0 : decode cX6_drillAt 0 = .ok (.aload_n 0, 1) := by decide +kernel
theorem dX6_drillAt_1 : decode cX6_drillAt 1 = .ok (.getfield 31, 3) := by decide +kernel
theorem dX6_drillAt_4 : decode cX6_drillAt 4 = .ok (.iconst 2, 1) := by decide +kernel
theorem dX6_drillAt_5 : decode cX6_drillAt 5 = .ok (.dup2, 1) := by decide +kernel
theorem dX6_drillAt_6 : decode cX6_drillAt 6 = .ok (.iaload, 1) := by decide +kernel
theorem dX6_drillAt_7 : decode cX6_drillAt 7 = .ok (.iconst 1, 1) := by decide +kernel
theorem dX6_drillAt_8 : decode cX6_drillAt 8 = .ok (.iadd, 1) := by decide +kernel
theorem dX6_drillAt_9 : decode cX6_drillAt 9 = .ok (.iastore, 1) := by decide +kernel
theorem dX6_drillAt_10 : decode cX6_drillAt 10 = .ok (.aload_n 0, 1) := by decide +kernel
theorem dX6_drillAt_11 : decode cX6_drillAt 11 = .ok (.getfield 27, 3) := by decide +kernel
theorem dX6_drillAt_14 : decode cX6_drillAt 14 = .ok (.aload_n 0, 1) := by decide +kernel
theorem dX6_drillAt_15 : decode cX6_drillAt 15 = .ok (.getfield 43, 3) := by decide +kernel
theorem dX6_drillAt_18 : decode cX6_drillAt 18 = .ok (.laload, 1) := by decide +kernel
theorem dX6_drillAt_19 : decode cX6_drillAt 19 = .ok (.iload_n 1, 1) := by decide +kernel
theorem dX6_drillAt_20 : decode cX6_drillAt 20 = .ok (.invokestatic 102, 3) := by decide +kernel
theorem dX6_drillAt_23 : decode cX6_drillAt 23 = .ok (.ifCond .eq 16, 3) := by decide +kernel
theorem dX6_drillAt_26 : decode cX6_drillAt 26 = .ok (.aload_n 0, 1) := by decide +kernel
theorem dX6_drillAt_27 : decode cX6_drillAt 27 = .ok (.getfield 21, 3) := by decide +kernel
theorem dX6_drillAt_30 : decode cX6_drillAt 30 = .ok (.aload_n 0, 1) := by decide +kernel
theorem dX6_drillAt_31 : decode cX6_drillAt 31 = .ok (.getfield 43, 3) := by decide +kernel
theorem dX6_drillAt_34 : decode cX6_drillAt 34 = .ok (.iaload, 1) := by decide +kernel
theorem dX6_drillAt_35 : decode cX6_drillAt 35 = .ok (.iload_n 2, 1) := by decide +kernel
theorem dX6_drillAt_36 : decode cX6_drillAt 36 = .ok (.if_icmp .le 5, 3) := by decide +kernel
theorem dX6_drillAt_39 : decode cX6_drillAt 39 = .ok (.iconst 0, 1) := by decide +kernel
theorem dX6_drillAt_40 : decode cX6_drillAt 40 = .ok (.ireturn, 1) := by decide +kernel
theorem dX6_drillAt_41 : decode cX6_drillAt 41 = .ok (.aload_n 0, 1) := by decide +kernel
theorem dX6_drillAt_42 : decode cX6_drillAt 42 = .ok (.aload_n 0, 1) := by decide +kernel
theorem dX6_drillAt_43 : decode cX6_drillAt 43 = .ok (.getfield 43, 3) := by decide +kernel
theorem dX6_drillAt_46 : decode cX6_drillAt 46 = .ok (.invokevirtual 123, 3) := by decide +kernel
theorem dX6_drillAt_49 : decode cX6_drillAt 49 = .ok (.istore_n 3, 1) := by decide +kernel
theorem dX6_drillAt_50 : decode cX6_drillAt 50 = .ok (.aload_n 0, 1) := by decide +kernel
theorem dX6_drillAt_51 : decode cX6_drillAt 51 = .ok (.getfield 31, 3) := by decide +kernel
theorem dX6_drillAt_54 : decode cX6_drillAt 54 = .ok (.iconst 1, 1) := by decide +kernel
theorem dX6_drillAt_55 : decode cX6_drillAt 55 = .ok (.dup2, 1) := by decide +kernel
theorem dX6_drillAt_56 : decode cX6_drillAt 56 = .ok (.iaload, 1) := by decide +kernel
theorem dX6_drillAt_57 : decode cX6_drillAt 57 = .ok (.iconst 1, 1) := by decide +kernel
theorem dX6_drillAt_58 : decode cX6_drillAt 58 = .ok (.iadd, 1) := by decide +kernel
theorem dX6_drillAt_59 : decode cX6_drillAt 59 = .ok (.iastore, 1) := by decide +kernel
theorem dX6_drillAt_60 : decode cX6_drillAt 60 = .ok (.aload_n 0, 1) := by decide +kernel
theorem dX6_drillAt_61 : decode cX6_drillAt 61 = .ok (.getfield 31, 3) := by decide +kernel
theorem dX6_drillAt_64 : decode cX6_drillAt 64 = .ok (.iconst 0, 1) := by decide +kernel
theorem dX6_drillAt_65 : decode cX6_drillAt 65 = .ok (.dup2, 1) := by decide +kernel
theorem dX6_drillAt_66 : decode cX6_drillAt 66 = .ok (.iaload, 1) := by decide +kernel
theorem dX6_drillAt_67 : decode cX6_drillAt 67 = .ok (.iload_n 3, 1) := by decide +kernel
theorem dX6_drillAt_68 : decode cX6_drillAt 68 = .ok (.iadd, 1) := by decide +kernel
theorem dX6_drillAt_69 : decode cX6_drillAt 69 = .ok (.iastore, 1) := by decide +kernel
theorem dX6_drillAt_70 : decode cX6_drillAt 70 = .ok (.iload_n 3, 1) := by decide +kernel
theorem dX6_drillAt_71 : decode cX6_drillAt 71 = .ok (.ireturn, 1) := by decide +kernel
theorem dX6_goOn_0 : decode cX6_goOn 0 = .ok (.iconst 0, 1) := by decide +kernel
theorem dX6_goOn_1 : decode cX6_goOn 1 = .ok (.istore_n 2, 1) := by decide +kernel
theorem dX6_goOn_2 : decode cX6_goOn 2 = .ok (.iload_n 2, 1) := by decide +kernel
theorem dX6_goOn_3 : decode cX6_goOn 3 = .ok (.iload_n 1, 1) := by decide +kernel
theorem dX6_goOn_4 : decode cX6_goOn 4 = .ok (.if_icmp .ge 13, 3) := by decide +kernel
theorem dX6_goOn_7 : decode cX6_goOn 7 = .ok (.aload_n 0, 1) := by decide +kernel
theorem dX6_goOn_8 : decode cX6_goOn 8 = .ok (.invokevirtual 127, 3) := by decide +kernel
theorem dX6_goOn_11 : decode cX6_goOn 11 = .ok (.iinc 2 1, 3) := by decide +kernel
theorem dX6_goOn_14 : decode cX6_goOn 14 = .ok (.goto (-12), 3) := by decide +kernel
theorem dX6_goOn_17 : decode cX6_goOn 17 = .ok (.return_, 1) := by decide +kernel
theorem dX6_takeStep_0 : decode cX6_takeStep 0 = .ok (.aload_n 0, 1) := by decide +kernel
theorem dX6_takeStep_1 : decode cX6_takeStep 1 = .ok (.getfield 62, 3) := by decide +kernel
theorem dX6_takeStep_4 : decode cX6_takeStep 4 = .ok (.ifCond .le 37, 3) := by decide +kernel
theorem dX6_takeStep_7 : decode cX6_takeStep 7 = .ok (.aload_n 0, 1) := by decide +kernel
theorem dX6_takeStep_8 : decode cX6_takeStep 8 = .ok (.invokevirtual 130, 3) := by decide +kernel
theorem dX6_takeStep_11 : decode cX6_takeStep 11 = .ok (.ifCond .eq 26, 3) := by decide +kernel
theorem dX6_takeStep_14 : decode cX6_takeStep 14 = .ok (.aload_n 0, 1) := by decide +kernel
theorem dX6_takeStep_15 : decode cX6_takeStep 15 = .ok (.invokevirtual 89, 3) := by decide +kernel
theorem dX6_takeStep_18 : decode cX6_takeStep 18 = .ok (.iconst 4, 1) := by decide +kernel
theorem dX6_takeStep_19 : decode cX6_takeStep 19 = .ok (.irem, 1) := by decide +kernel
theorem dX6_takeStep_20 : decode cX6_takeStep 20 = .ok (.istore_n 1, 1) := by decide +kernel
theorem dX6_takeStep_21 : decode cX6_takeStep 21 = .ok (.aload_n 0, 1) := by decide +kernel
theorem dX6_takeStep_22 : decode cX6_takeStep 22 = .ok (.iload_n 1, 1) := by decide +kernel
theorem dX6_takeStep_23 : decode cX6_takeStep 23 = .ok (.aload_n 0, 1) := by decide +kernel
theorem dX6_takeStep_24 : decode cX6_takeStep 24 = .ok (.invokevirtual 89, 3) := by decide +kernel
theorem dX6_takeStep_27 : decode cX6_takeStep 27 = .ok (.bipush 36, 2) := by decide +kernel
theorem dX6_takeStep_29 : decode cX6_takeStep 29 = .ok (.irem, 1) := by decide +kernel
theorem dX6_takeStep_30 : decode cX6_takeStep 30 = .ok (.invokevirtual 134, 3) := by decide +kernel
theorem dX6_takeStep_33 : decode cX6_takeStep 33 = .ok (.pop, 1) := by decide +kernel
theorem dX6_takeStep_34 : decode cX6_takeStep 34 = .ok (.goto 7, 3) := by decide +kernel
theorem dX6_takeStep_37 : decode cX6_takeStep 37 = .ok (.aload_n 0, 1) := by decide +kernel
theorem dX6_takeStep_38 : decode cX6_takeStep 38 = .ok (.invokevirtual 138, 3) := by decide +kernel
theorem dX6_takeStep_41 : decode cX6_takeStep 41 = .ok (.aload_n 0, 1) := by decide +kernel
theorem dX6_takeStep_42 : decode cX6_takeStep 42 = .ok (.dup, 1) := by decide +kernel
theorem dX6_takeStep_43 : decode cX6_takeStep 43 = .ok (.getfield 65, 3) := by decide +kernel
theorem dX6_takeStep_46 : decode cX6_takeStep 46 = .ok (.iconst 1, 1) := by decide +kernel
theorem dX6_takeStep_47 : decode cX6_takeStep 47 = .ok (.iadd, 1) := by decide +kernel
theorem dX6_takeStep_48 : decode cX6_takeStep 48 = .ok (.putfield 65, 3) := by decide +kernel
theorem dX6_takeStep_51 : decode cX6_takeStep 51 = .ok (.return_, 1) := by decide +kernel
theorem dX6_likeliest_0 : decode cX6_likeliest 0 = .ok (.iconst (-1), 1) := by decide +kernel
theorem dX6_likeliest_1 : decode cX6_likeliest 1 = .ok (.istore_n 1, 1) := by decide +kernel
theorem dX6_likeliest_2 : decode cX6_likeliest 2 = .ok (.iconst 0, 1) := by decide +kernel
theorem dX6_likeliest_3 : decode cX6_likeliest 3 = .ok (.istore_n 2, 1) := by decide +kernel
theorem dX6_likeliest_4 : decode cX6_likeliest 4 = .ok (.iload_n 2, 1) := by decide +kernel
theorem dX6_likeliest_5 : decode cX6_likeliest 5 = .ok (.aload_n 0, 1) := by decide +kernel
theorem dX6_likeliest_6 : decode cX6_likeliest 6 = .ok (.getfield 62, 3) := by decide +kernel
theorem dX6_likeliest_9 : decode cX6_likeliest 9 = .ok (.if_icmp .ge 30, 3) := by decide +kernel
theorem dX6_likeliest_12 : decode cX6_likeliest 12 = .ok (.iload_n 1, 1) := by decide +kernel
theorem dX6_likeliest_13 : decode cX6_likeliest 13 = .ok (.ifCond .lt 18, 3) := by decide +kernel
theorem dX6_likeliest_16 : decode cX6_likeliest 16 = .ok (.aload_n 0, 1) := by decide +kernel
theorem dX6_likeliest_17 : decode cX6_likeliest 17 = .ok (.getfield 24, 3) := by decide +kernel
theorem dX6_likeliest_20 : decode cX6_likeliest 20 = .ok (.iload_n 2, 1) := by decide +kernel
theorem dX6_likeliest_21 : decode cX6_likeliest 21 = .ok (.iaload, 1) := by decide +kernel
theorem dX6_likeliest_22 : decode cX6_likeliest 22 = .ok (.aload_n 0, 1) := by decide +kernel
theorem dX6_likeliest_23 : decode cX6_likeliest 23 = .ok (.getfield 24, 3) := by decide +kernel
theorem dX6_likeliest_26 : decode cX6_likeliest 26 = .ok (.iload_n 1, 1) := by decide +kernel
theorem dX6_likeliest_27 : decode cX6_likeliest 27 = .ok (.iaload, 1) := by decide +kernel
theorem dX6_likeliest_28 : decode cX6_likeliest 28 = .ok (.if_icmp .le 5, 3) := by decide +kernel
theorem dX6_likeliest_31 : decode cX6_likeliest 31 = .ok (.iload_n 2, 1) := by decide +kernel
theorem dX6_likeliest_32 : decode cX6_likeliest 32 = .ok (.istore_n 1, 1) := by decide +kernel
theorem dX6_likeliest_33 : decode cX6_likeliest 33 = .ok (.iinc 2 1, 3) := by decide +kernel
theorem dX6_likeliest_36 : decode cX6_likeliest 36 = .ok (.goto (-32), 3) := by decide +kernel
theorem dX6_likeliest_39 : decode cX6_likeliest 39 = .ok (.iload_n 1, 1) := by decide +kernel
theorem dX6_likeliest_40 : decode cX6_likeliest 40 = .ok (.ireturn, 1) := by decide +kernel
theorem dX6_isKnown_0 : decode cX6_isKnown 0 = .ok (.aload_n 0, 1) := by decide +kernel
theorem dX6_isKnown_1 : decode cX6_isKnown 1 = .ok (.invokevirtual 130, 3) := by decide +kernel
theorem dX6_isKnown_4 : decode cX6_isKnown 4 = .ok (.ifCond .eq 33, 3) := by decide +kernel
theorem dX6_isKnown_7 : decode cX6_isKnown 7 = .ok (.ldc2_w 141, 3) := by decide +kernel
theorem dX6_isKnown_10 : decode cX6_isKnown 10 = .ok (.aload_n 0, 1) := by decide +kernel
theorem dX6_isKnown_11 : decode cX6_isKnown 11 = .ok (.invokevirtual 143, 3) := by decide +kernel
theorem dX6_isKnown_14 : decode cX6_isKnown 14 = .ok (.lmul, 1) := by decide +kernel
theorem dX6_isKnown_15 : decode cX6_isKnown 15 = .ok (.ldc2_w 147, 3) := by decide +kernel
theorem dX6_isKnown_18 : decode cX6_isKnown 18 = .ok (.aload_n 0, 1) := by decide +kernel
theorem dX6_isKnown_19 : decode cX6_isKnown 19 = .ok (.getfield 24, 3) := by decide +kernel
theorem dX6_isKnown_22 : decode cX6_isKnown 22 = .ok (.aload_n 0, 1) := by decide +kernel
theorem dX6_isKnown_23 : decode cX6_isKnown 23 = .ok (.getfield 43, 3) := by decide +kernel
theorem dX6_isKnown_26 : decode cX6_isKnown 26 = .ok (.iaload, 1) := by decide +kernel
theorem dX6_isKnown_27 : decode cX6_isKnown 27 = .ok (.i2l, 1) := by decide +kernel
theorem dX6_isKnown_28 : decode cX6_isKnown 28 = .ok (.lmul, 1) := by decide +kernel
theorem dX6_isKnown_29 : decode cX6_isKnown 29 = .ok (.lcmp, 1) := by decide +kernel
theorem dX6_isKnown_30 : decode cX6_isKnown 30 = .ok (.ifCond .gt 7, 3) := by decide +kernel
theorem dX6_isKnown_33 : decode cX6_isKnown 33 = .ok (.iconst 1, 1) := by decide +kernel
theorem dX6_isKnown_34 : decode cX6_isKnown 34 = .ok (.goto 4, 3) := by decide +kernel
theorem dX6_isKnown_37 : decode cX6_isKnown 37 = .ok (.iconst 0, 1) := by decide +kernel
theorem dX6_isKnown_38 : decode cX6_isKnown 38 = .ok (.ireturn, 1) := by decide +kernel
theorem dX6_allOdds_0 : decode cX6_allOdds 0 = .ok (.lconst 0, 1) := by decide +kernel
theorem dX6_allOdds_1 : decode cX6_allOdds 1 = .ok (.lstore_n 1, 1) := by decide +kernel
theorem dX6_allOdds_2 : decode cX6_allOdds 2 = .ok (.iconst 0, 1) := by decide +kernel
theorem dX6_allOdds_3 : decode cX6_allOdds 3 = .ok (.istore_n 3, 1) := by decide +kernel
theorem dX6_allOdds_4 : decode cX6_allOdds 4 = .ok (.iload_n 3, 1) := by decide +kernel
theorem dX6_allOdds_5 : decode cX6_allOdds 5 = .ok (.aload_n 0, 1) := by decide +kernel
theorem dX6_allOdds_6 : decode cX6_allOdds 6 = .ok (.getfield 62, 3) := by decide +kernel
theorem dX6_allOdds_9 : decode cX6_allOdds 9 = .ok (.if_icmp .ge 19, 3) := by decide +kernel
theorem dX6_allOdds_12 : decode cX6_allOdds 12 = .ok (.lload_n 1, 1) := by decide +kernel
theorem dX6_allOdds_13 : decode cX6_allOdds 13 = .ok (.aload_n 0, 1) := by decide +kernel
theorem dX6_allOdds_14 : decode cX6_allOdds 14 = .ok (.getfield 24, 3) := by decide +kernel
theorem dX6_allOdds_17 : decode cX6_allOdds 17 = .ok (.iload_n 3, 1) := by decide +kernel
theorem dX6_allOdds_18 : decode cX6_allOdds 18 = .ok (.iaload, 1) := by decide +kernel
theorem dX6_allOdds_19 : decode cX6_allOdds 19 = .ok (.i2l, 1) := by decide +kernel
theorem dX6_allOdds_20 : decode cX6_allOdds 20 = .ok (.ladd, 1) := by decide +kernel
theorem dX6_allOdds_21 : decode cX6_allOdds 21 = .ok (.lstore_n 1, 1) := by decide +kernel
theorem dX6_allOdds_22 : decode cX6_allOdds 22 = .ok (.iinc 3 1, 3) := by decide +kernel
theorem dX6_allOdds_25 : decode cX6_allOdds 25 = .ok (.goto (-21), 3) := by decide +kernel
theorem dX6_allOdds_28 : decode cX6_allOdds 28 = .ok (.lload_n 1, 1) := by decide +kernel
theorem dX6_allOdds_29 : decode cX6_allOdds 29 = .ok (.lreturn, 1) := by decide +kernel
theorem dX6_ofThousand_0 : decode cX6_ofThousand 0 = .ok (.aload_n 0, 1) := by decide +kernel
theorem dX6_ofThousand_1 : decode cX6_ofThousand 1 = .ok (.invokevirtual 143, 3) := by decide +kernel
theorem dX6_ofThousand_4 : decode cX6_ofThousand 4 = .ok (.lstore_n 3, 1) := by decide +kernel
theorem dX6_ofThousand_5 : decode cX6_ofThousand 5 = .ok (.lload_n 3, 1) := by decide +kernel
theorem dX6_ofThousand_6 : decode cX6_ofThousand 6 = .ok (.lconst 0, 1) := by decide +kernel
theorem dX6_ofThousand_7 : decode cX6_ofThousand 7 = .ok (.lcmp, 1) := by decide +kernel
theorem dX6_ofThousand_8 : decode cX6_ofThousand 8 = .ok (.ifCond .gt 7, 3) := by decide +kernel
theorem dX6_ofThousand_11 : decode cX6_ofThousand 11 = .ok (.iconst 0, 1) := by decide +kernel
theorem dX6_ofThousand_12 : decode cX6_ofThousand 12 = .ok (.goto 11, 3) := by decide +kernel
theorem dX6_ofThousand_15 : decode cX6_ofThousand 15 = .ok (.ldc2_w 147, 3) := by decide +kernel
theorem dX6_ofThousand_18 : decode cX6_ofThousand 18 = .ok (.lload_n 1, 1) := by decide +kernel
theorem dX6_ofThousand_19 : decode cX6_ofThousand 19 = .ok (.lmul, 1) := by decide +kernel
theorem dX6_ofThousand_20 : decode cX6_ofThousand 20 = .ok (.lload_n 3, 1) := by decide +kernel
theorem dX6_ofThousand_21 : decode cX6_ofThousand 21 = .ok (.ldiv, 1) := by decide +kernel
theorem dX6_ofThousand_22 : decode cX6_ofThousand 22 = .ok (.l2i, 1) := by decide +kernel
theorem dX6_ofThousand_23 : decode cX6_ofThousand 23 = .ok (.ireturn, 1) := by decide +kernel
theorem dX6_oddsAt_0 : decode cX6_oddsAt 0 = .ok (.lconst 0, 1) := by decide +kernel
theorem dX6_oddsAt_1 : decode cX6_oddsAt 1 = .ok (.lstore_n 2, 1) := by decide +kernel
theorem dX6_oddsAt_2 : decode cX6_oddsAt 2 = .ok (.iconst 0, 1) := by decide +kernel
theorem dX6_oddsAt_3 : decode cX6_oddsAt 3 = .ok (.istore 4, 2) := by decide +kernel
theorem dX6_oddsAt_5 : decode cX6_oddsAt 5 = .ok (.iload 4, 2) := by decide +kernel
theorem dX6_oddsAt_7 : decode cX6_oddsAt 7 = .ok (.aload_n 0, 1) := by decide +kernel
theorem dX6_oddsAt_8 : decode cX6_oddsAt 8 = .ok (.getfield 62, 3) := by decide +kernel
theorem dX6_oddsAt_11 : decode cX6_oddsAt 11 = .ok (.if_icmp .ge 38, 3) := by decide +kernel
theorem dX6_oddsAt_14 : decode cX6_oddsAt 14 = .ok (.lload_n 2, 1) := by decide +kernel
theorem dX6_oddsAt_15 : decode cX6_oddsAt 15 = .ok (.aload_n 0, 1) := by decide +kernel
theorem dX6_oddsAt_16 : decode cX6_oddsAt 16 = .ok (.getfield 27, 3) := by decide +kernel
theorem dX6_oddsAt_19 : decode cX6_oddsAt 19 = .ok (.iload 4, 2) := by decide +kernel
theorem dX6_oddsAt_21 : decode cX6_oddsAt 21 = .ok (.laload, 1) := by decide +kernel
theorem dX6_oddsAt_22 : decode cX6_oddsAt 22 = .ok (.iload_n 1, 1) := by decide +kernel
theorem dX6_oddsAt_23 : decode cX6_oddsAt 23 = .ok (.invokestatic 102, 3) := by decide +kernel
theorem dX6_oddsAt_26 : decode cX6_oddsAt 26 = .ok (.ifCond .eq 14, 3) := by decide +kernel
theorem dX6_oddsAt_29 : decode cX6_oddsAt 29 = .ok (.aload_n 0, 1) := by decide +kernel
theorem dX6_oddsAt_30 : decode cX6_oddsAt 30 = .ok (.getfield 24, 3) := by decide +kernel
theorem dX6_oddsAt_33 : decode cX6_oddsAt 33 = .ok (.iload 4, 2) := by decide +kernel
theorem dX6_oddsAt_35 : decode cX6_oddsAt 35 = .ok (.iaload, 1) := by decide +kernel
theorem dX6_oddsAt_36 : decode cX6_oddsAt 36 = .ok (.i2l, 1) := by decide +kernel
theorem dX6_oddsAt_37 : decode cX6_oddsAt 37 = .ok (.goto 4, 3) := by decide +kernel
theorem dX6_oddsAt_40 : decode cX6_oddsAt 40 = .ok (.lconst 0, 1) := by decide +kernel
theorem dX6_oddsAt_41 : decode cX6_oddsAt 41 = .ok (.ladd, 1) := by decide +kernel
theorem dX6_oddsAt_42 : decode cX6_oddsAt 42 = .ok (.lstore_n 2, 1) := by decide +kernel
theorem dX6_oddsAt_43 : decode cX6_oddsAt 43 = .ok (.iinc 4 1, 3) := by decide +kernel
theorem dX6_oddsAt_46 : decode cX6_oddsAt 46 = .ok (.goto (-41), 3) := by decide +kernel
theorem dX6_oddsAt_49 : decode cX6_oddsAt 49 = .ok (.lload_n 2, 1) := by decide +kernel
theorem dX6_oddsAt_50 : decode cX6_oddsAt 50 = .ok (.lreturn, 1) := by decide +kernel
theorem dX6_lossAt_0 : decode cX6_lossAt 0 = .ok (.lconst 0, 1) := by decide +kernel
theorem dX6_lossAt_1 : decode cX6_lossAt 1 = .ok (.lstore_n 3, 1) := by decide +kernel
theorem dX6_lossAt_2 : decode cX6_lossAt 2 = .ok (.iconst 0, 1) := by decide +kernel
theorem dX6_lossAt_3 : decode cX6_lossAt 3 = .ok (.istore 5, 2) := by decide +kernel
theorem dX6_lossAt_5 : decode cX6_lossAt 5 = .ok (.iload 5, 2) := by decide +kernel
theorem dX6_lossAt_7 : decode cX6_lossAt 7 = .ok (.aload_n 0, 1) := by decide +kernel
theorem dX6_lossAt_8 : decode cX6_lossAt 8 = .ok (.getfield 62, 3) := by decide +kernel
theorem dX6_lossAt_11 : decode cX6_lossAt 11 = .ok (.if_icmp .ge 37, 3) := by decide +kernel
theorem dX6_lossAt_14 : decode cX6_lossAt 14 = .ok (.lload_n 3, 1) := by decide +kernel
theorem dX6_lossAt_15 : decode cX6_lossAt 15 = .ok (.aload_n 0, 1) := by decide +kernel
theorem dX6_lossAt_16 : decode cX6_lossAt 16 = .ok (.getfield 27, 3) := by decide +kernel
theorem dX6_lossAt_19 : decode cX6_lossAt 19 = .ok (.iload 5, 2) := by decide +kernel
theorem dX6_lossAt_21 : decode cX6_lossAt 21 = .ok (.laload, 1) := by decide +kernel
theorem dX6_lossAt_22 : decode cX6_lossAt 22 = .ok (.iload_n 1, 1) := by decide +kernel
theorem dX6_lossAt_23 : decode cX6_lossAt 23 = .ok (.invokestatic 102, 3) := by decide +kernel
theorem dX6_lossAt_26 : decode cX6_lossAt 26 = .ok (.ifCond .eq 13, 3) := by decide +kernel
theorem dX6_lossAt_29 : decode cX6_lossAt 29 = .ok (.aload_n 0, 1) := by decide +kernel
theorem dX6_lossAt_30 : decode cX6_lossAt 30 = .ok (.iload 5, 2) := by decide +kernel
theorem dX6_lossAt_32 : decode cX6_lossAt 32 = .ok (.iload_n 2, 1) := by decide +kernel
theorem dX6_lossAt_33 : decode cX6_lossAt 33 = .ok (.invokevirtual 149, 3) := by decide +kernel
theorem dX6_lossAt_36 : decode cX6_lossAt 36 = .ok (.goto 4, 3) := by decide +kernel
theorem dX6_lossAt_39 : decode cX6_lossAt 39 = .ok (.lconst 0, 1) := by decide +kernel
theorem dX6_lossAt_40 : decode cX6_lossAt 40 = .ok (.ladd, 1) := by decide +kernel
theorem dX6_lossAt_41 : decode cX6_lossAt 41 = .ok (.lstore_n 3, 1) := by decide +kernel
theorem dX6_lossAt_42 : decode cX6_lossAt 42 = .ok (.iinc 5 1, 3) := by decide +kernel
theorem dX6_lossAt_45 : decode cX6_lossAt 45 = .ok (.goto (-40), 3) := by decide +kernel
theorem dX6_lossAt_48 : decode cX6_lossAt 48 = .ok (.lload_n 3, 1) := by decide +kernel
theorem dX6_lossAt_49 : decode cX6_lossAt 49 = .ok (.lreturn, 1) := by decide +kernel
theorem dX6_lossBy_0 : decode cX6_lossBy 0 = .ok (.aload_n 0, 1) := by decide +kernel
theorem dX6_lossBy_1 : decode cX6_lossBy 1 = .ok (.getfield 21, 3) := by decide +kernel
theorem dX6_lossBy_4 : decode cX6_lossBy 4 = .ok (.iload_n 1, 1) := by decide +kernel
theorem dX6_lossBy_5 : decode cX6_lossBy 5 = .ok (.iaload, 1) := by decide +kernel
theorem dX6_lossBy_6 : decode cX6_lossBy 6 = .ok (.iload_n 2, 1) := by decide +kernel
theorem dX6_lossBy_7 : decode cX6_lossBy 7 = .ok (.if_icmp .gt 20, 3) := by decide +kernel
theorem dX6_lossBy_10 : decode cX6_lossBy 10 = .ok (.aload_n 0, 1) := by decide +kernel
theorem dX6_lossBy_11 : decode cX6_lossBy 11 = .ok (.getfield 24, 3) := by decide +kernel
theorem dX6_lossBy_14 : decode cX6_lossBy 14 = .ok (.iload_n 1, 1) := by decide +kernel
theorem dX6_lossBy_15 : decode cX6_lossBy 15 = .ok (.iaload, 1) := by decide +kernel
theorem dX6_lossBy_16 : decode cX6_lossBy 16 = .ok (.i2l, 1) := by decide +kernel
theorem dX6_lossBy_17 : decode cX6_lossBy 17 = .ok (.aload_n 0, 1) := by decide +kernel
theorem dX6_lossBy_18 : decode cX6_lossBy 18 = .ok (.iload_n 1, 1) := by decide +kernel
theorem dX6_lossBy_19 : decode cX6_lossBy 19 = .ok (.invokevirtual 123, 3) := by decide +kernel
theorem dX6_lossBy_22 : decode cX6_lossBy 22 = .ok (.i2l, 1) := by decide +kernel
theorem dX6_lossBy_23 : decode cX6_lossBy 23 = .ok (.lmul, 1) := by decide +kernel
theorem dX6_lossBy_24 : decode cX6_lossBy 24 = .ok (.goto 4, 3) := by decide +kernel
theorem dX6_lossBy_27 : decode cX6_lossBy 27 = .ok (.lconst 0, 1) := by decide +kernel
theorem dX6_lossBy_28 : decode cX6_lossBy 28 = .ok (.lreturn, 1) := by decide +kernel
theorem dX6_hurtOf_0 : decode cX6_hurtOf 0 = .ok (.aload_n 0, 1) := by decide +kernel
theorem dX6_hurtOf_1 : decode cX6_hurtOf 1 = .ok (.aload_n 0, 1) := by decide +kernel
theorem dX6_hurtOf_2 : decode cX6_hurtOf 2 = .ok (.getfield 21, 3) := by decide +kernel
theorem dX6_hurtOf_5 : decode cX6_hurtOf 5 = .ok (.iload_n 1, 1) := by decide +kernel
theorem dX6_hurtOf_6 : decode cX6_hurtOf 6 = .ok (.iaload, 1) := by decide +kernel
theorem dX6_hurtOf_7 : decode cX6_hurtOf 7 = .ok (.iconst 0, 1) := by decide +kernel
theorem dX6_hurtOf_8 : decode cX6_hurtOf 8 = .ok (.aload_n 0, 1) := by decide +kernel
theorem dX6_hurtOf_9 : decode cX6_hurtOf 9 = .ok (.getfield 21, 3) := by decide +kernel
theorem dX6_hurtOf_12 : decode cX6_hurtOf 12 = .ok (.iload_n 1, 1) := by decide +kernel
theorem dX6_hurtOf_13 : decode cX6_hurtOf 13 = .ok (.iaload, 1) := by decide +kernel
theorem dX6_hurtOf_14 : decode cX6_hurtOf 14 = .ok (.aload_n 0, 1) := by decide +kernel
theorem dX6_hurtOf_15 : decode cX6_hurtOf 15 = .ok (.getfield 50, 3) := by decide +kernel
theorem dX6_hurtOf_18 : decode cX6_hurtOf 18 = .ok (.aload_n 0, 1) := by decide +kernel
theorem dX6_hurtOf_19 : decode cX6_hurtOf 19 = .ok (.getfield 18, 3) := by decide +kernel
theorem dX6_hurtOf_22 : decode cX6_hurtOf 22 = .ok (.iload_n 1, 1) := by decide +kernel
theorem dX6_hurtOf_23 : decode cX6_hurtOf 23 = .ok (.iaload, 1) := by decide +kernel
theorem dX6_hurtOf_24 : decode cX6_hurtOf 24 = .ok (.invokevirtual 152, 3) := by decide +kernel
theorem dX6_hurtOf_27 : decode cX6_hurtOf 27 = .ok (.istore_n 2, 1) := by decide +kernel
theorem dX6_hurtOf_28 : decode cX6_hurtOf 28 = .ok (.aload_n 0, 1) := by decide +kernel
theorem dX6_hurtOf_29 : decode cX6_hurtOf 29 = .ok (.getfield 9, 3) := by decide +kernel
theorem dX6_hurtOf_32 : decode cX6_hurtOf 32 = .ok (.iload_n 1, 1) := by decide +kernel
theorem dX6_hurtOf_33 : decode cX6_hurtOf 33 = .ok (.iaload, 1) := by decide +kernel
theorem dX6_hurtOf_34 : decode cX6_hurtOf 34 = .ok (.iload_n 2, 1) := by decide +kernel
theorem dX6_hurtOf_35 : decode cX6_hurtOf 35 = .ok (.iconst 0, 1) := by decide +kernel
theorem dX6_hurtOf_36 : decode cX6_hurtOf 36 = .ok (.bipush 99, 2) := by decide +kernel
theorem dX6_hurtOf_38 : decode cX6_hurtOf 38 = .ok (.invokestatic 156, 3) := by decide +kernel
theorem dX6_hurtOf_41 : decode cX6_hurtOf 41 = .ok (.invokestatic 159, 3) := by decide +kernel
theorem dX6_hurtOf_44 : decode cX6_hurtOf 44 = .ok (.ireturn, 1) := by decide +kernel
theorem dX6_lawOr_0 : decode cX6_lawOr 0 = .ok (.aload_n 0, 1) := by decide +kernel
theorem dX6_lawOr_1 : decode cX6_lawOr 1 = .ok (.getfield 40, 3) := by decide +kernel
theorem dX6_lawOr_4 : decode cX6_lawOr 4 = .ok (.iload_n 2, 1) := by decide +kernel
theorem dX6_lawOr_5 : decode cX6_lawOr 5 = .ok (.iaload, 1) := by decide +kernel
theorem dX6_lawOr_6 : decode cX6_lawOr 6 = .ok (.istore 6, 2) := by decide +kernel
theorem dX6_lawOr_8 : decode cX6_lawOr 8 = .ok (.iload 6, 2) := by decide +kernel
theorem dX6_lawOr_10 : decode cX6_lawOr 10 = .ok (.iconst 0, 1) := by decide +kernel
theorem dX6_lawOr_11 : decode cX6_lawOr 11 = .ok (.aload_n 0, 1) := by decide +kernel
theorem dX6_lawOr_12 : decode cX6_lawOr 12 = .ok (.getfield 68, 3) := by decide +kernel
theorem dX6_lawOr_15 : decode cX6_lawOr 15 = .ok (.iconst 1, 1) := by decide +kernel
theorem dX6_lawOr_16 : decode cX6_lawOr 16 = .ok (.isub, 1) := by decide +kernel
theorem dX6_lawOr_17 : decode cX6_lawOr 17 = .ok (.invokestatic 71, 3) := by decide +kernel
theorem dX6_lawOr_20 : decode cX6_lawOr 20 = .ok (.ifCond .eq 13, 3) := by decide +kernel
theorem dX6_lawOr_23 : decode cX6_lawOr 23 = .ok (.aload_n 0, 1) := by decide +kernel
theorem dX6_lawOr_24 : decode cX6_lawOr 24 = .ok (.getfield 36, 3) := by decide +kernel
theorem dX6_lawOr_27 : decode cX6_lawOr 27 = .ok (.iload 6, 2) := by decide +kernel
theorem dX6_lawOr_29 : decode cX6_lawOr 29 = .ok (.aaload, 1) := by decide +kernel
theorem dX6_lawOr_30 : decode cX6_lawOr 30 = .ok (.ifnonnull 5, 3) := by decide +kernel
theorem dX6_lawOr_33 : decode cX6_lawOr 33 = .ok (.iload_n 1, 1) := by decide +kernel
theorem dX6_lawOr_34 : decode cX6_lawOr 34 = .ok (.ireturn, 1) := by decide +kernel
theorem dX6_lawOr_35 : decode cX6_lawOr 35 = .ok (.aload_n 0, 1) := by decide +kernel
theorem dX6_lawOr_36 : decode cX6_lawOr 36 = .ok (.getfield 36, 3) := by decide +kernel
theorem dX6_lawOr_39 : decode cX6_lawOr 39 = .ok (.iload 6, 2) := by decide +kernel
theorem dX6_lawOr_41 : decode cX6_lawOr 41 = .ok (.aaload, 1) := by decide +kernel
theorem dX6_lawOr_42 : decode cX6_lawOr 42 = .ok (.iload_n 3, 1) := by decide +kernel
theorem dX6_lawOr_43 : decode cX6_lawOr 43 = .ok (.iload 4, 2) := by decide +kernel
theorem dX6_lawOr_45 : decode cX6_lawOr 45 = .ok (.iload 5, 2) := by decide +kernel
theorem dX6_lawOr_47 : decode cX6_lawOr 47 = .ok (.invokevirtual 161, 3) := by decide +kernel
theorem dX6_lawOr_50 : decode cX6_lawOr 50 = .ok (.ireturn, 1) := by decide +kernel
theorem dX6_addText_0 : decode cX6_addText 0 = .ok (.aload_n 0, 1) := by decide +kernel
theorem dX6_addText_1 : decode cX6_addText 1 = .ok (.getfield 68, 3) := by decide +kernel
theorem dX6_addText_4 : decode cX6_addText 4 = .ok (.bipush 14, 2) := by decide +kernel
theorem dX6_addText_6 : decode cX6_addText 6 = .ok (.if_icmp .lt 4, 3) := by decide +kernel
theorem dX6_addText_9 : decode cX6_addText 9 = .ok (.return_, 1) := by decide +kernel
theorem dX6_addText_10 : decode cX6_addText 10 = .ok (.aload_n 0, 1) := by decide +kernel
theorem dX6_addText_11 : decode cX6_addText 11 = .ok (.getfield 36, 3) := by decide +kernel
theorem dX6_addText_14 : decode cX6_addText 14 = .ok (.aload_n 0, 1) := by decide +kernel
theorem dX6_addText_15 : decode cX6_addText 15 = .ok (.getfield 68, 3) := by decide +kernel
theorem dX6_addText_18 : decode cX6_addText 18 = .ok (.aload_n 1, 1) := by decide +kernel
theorem dX6_addText_19 : decode cX6_addText 19 = .ok (.aastore, 1) := by decide +kernel
theorem dX6_addText_20 : decode cX6_addText 20 = .ok (.aload_n 0, 1) := by decide +kernel
theorem dX6_addText_21 : decode cX6_addText 21 = .ok (.getfield 40, 3) := by decide +kernel
theorem dX6_addText_24 : decode cX6_addText 24 = .ok (.aload_n 1, 1) := by decide +kernel
theorem dX6_addText_25 : decode cX6_addText 25 = .ok (.getfield 164, 3) := by decide +kernel
theorem dX6_addText_28 : decode cX6_addText 28 = .ok (.aload_n 0, 1) := by decide +kernel
theorem dX6_addText_29 : decode cX6_addText 29 = .ok (.getfield 68, 3) := by decide +kernel
theorem dX6_addText_32 : decode cX6_addText 32 = .ok (.iastore, 1) := by decide +kernel
theorem dX6_addText_33 : decode cX6_addText 33 = .ok (.aload_n 0, 1) := by decide +kernel
theorem dX6_addText_34 : decode cX6_addText 34 = .ok (.dup, 1) := by decide +kernel
theorem dX6_addText_35 : decode cX6_addText 35 = .ok (.getfield 68, 3) := by decide +kernel
theorem dX6_addText_38 : decode cX6_addText 38 = .ok (.iconst 1, 1) := by decide +kernel
theorem dX6_addText_39 : decode cX6_addText 39 = .ok (.iadd, 1) := by decide +kernel
theorem dX6_addText_40 : decode cX6_addText 40 = .ok (.putfield 68, 3) := by decide +kernel
theorem dX6_addText_43 : decode cX6_addText 43 = .ok (.return_, 1) := by decide +kernel
theorem dX7_init_0 : decode cX7_init 0 = .ok (.aload_n 0, 1) := by decide +kernel
theorem dX7_init_1 : decode cX7_init 1 = .ok (.invokespecial 1, 3) := by decide +kernel
theorem dX7_init_4 : decode cX7_init 4 = .ok (.aload_n 0, 1) := by decide +kernel
theorem dX7_init_5 : decode cX7_init 5 = .ok (.new 7, 3) := by decide +kernel
theorem dX7_init_8 : decode cX7_init 8 = .ok (.dup, 1) := by decide +kernel
theorem dX7_init_9 : decode cX7_init 9 = .ok (.invokespecial 9, 3) := by decide +kernel
theorem dX7_init_12 : decode cX7_init 12 = .ok (.putfield 10, 3) := by decide +kernel
theorem dX7_init_15 : decode cX7_init 15 = .ok (.aload_n 0, 1) := by decide +kernel
theorem dX7_init_16 : decode cX7_init 16 = .ok (.new 7, 3) := by decide +kernel
theorem dX7_init_19 : decode cX7_init 19 = .ok (.dup, 1) := by decide +kernel
theorem dX7_init_20 : decode cX7_init 20 = .ok (.invokespecial 9, 3) := by decide +kernel
theorem dX7_init_23 : decode cX7_init 23 = .ok (.putfield 16, 3) := by decide +kernel
theorem dX7_init_26 : decode cX7_init 26 = .ok (.aload_n 0, 1) := by decide +kernel
theorem dX7_init_27 : decode cX7_init 27 = .ok (.new 7, 3) := by decide +kernel
theorem dX7_init_30 : decode cX7_init 30 = .ok (.dup, 1) := by decide +kernel
theorem dX7_init_31 : decode cX7_init 31 = .ok (.invokespecial 9, 3) := by decide +kernel
theorem dX7_init_34 : decode cX7_init 34 = .ok (.putfield 19, 3) := by decide +kernel
theorem dX7_init_37 : decode cX7_init 37 = .ok (.aload_n 0, 1) := by decide +kernel
theorem dX7_init_38 : decode cX7_init 38 = .ok (.new 22, 3) := by decide +kernel
theorem dX7_init_41 : decode cX7_init 41 = .ok (.dup, 1) := by decide +kernel
theorem dX7_init_42 : decode cX7_init 42 = .ok (.invokespecial 24, 3) := by decide +kernel
theorem dX7_init_45 : decode cX7_init 45 = .ok (.putfield 25, 3) := by decide +kernel
theorem dX7_init_48 : decode cX7_init 48 = .ok (.aload_n 0, 1) := by decide +kernel
theorem dX7_init_49 : decode cX7_init 49 = .ok (.new 29, 3) := by decide +kernel
theorem dX7_init_52 : decode cX7_init 52 = .ok (.dup, 1) := by decide +kernel
theorem dX7_init_53 : decode cX7_init 53 = .ok (.invokespecial 31, 3) := by decide +kernel
theorem dX7_init_56 : decode cX7_init 56 = .ok (.putfield 32, 3) := by decide +kernel
theorem dX7_init_59 : decode cX7_init 59 = .ok (.aload_n 0, 1) := by decide +kernel
theorem dX7_init_60 : decode cX7_init 60 = .ok (.iconst 4, 1) := by decide +kernel
theorem dX7_init_61 : decode cX7_init 61 = .ok (.anewarray 36, 3) := by decide +kernel
theorem dX7_init_64 : decode cX7_init 64 = .ok (.putfield 38, 3) := by decide +kernel
theorem dX7_init_67 : decode cX7_init 67 = .ok (.aload_n 0, 1) := by decide +kernel
theorem dX7_init_68 : decode cX7_init 68 = .ok (.iconst 5, 1) := by decide +kernel
theorem dX7_init_69 : decode cX7_init 69 = .ok (.anewarray 42, 3) := by decide +kernel
theorem dX7_init_72 : decode cX7_init 72 = .ok (.putfield 44, 3) := by decide +kernel
theorem dX7_init_75 : decode cX7_init 75 = .ok (.aload_n 0, 1) := by decide +kernel
theorem dX7_init_76 : decode cX7_init 76 = .ok (.bipush 60, 2) := by decide +kernel
theorem dX7_init_78 : decode cX7_init 78 = .ok (.newarray .int, 2) := by decide +kernel
theorem dX7_init_80 : decode cX7_init 80 = .ok (.putfield 48, 3) := by decide +kernel
theorem dX7_init_83 : decode cX7_init 83 = .ok (.iconst 0, 1) := by decide +kernel
theorem dX7_init_84 : decode cX7_init 84 = .ok (.istore_n 1, 1) := by decide +kernel
theorem dX7_init_85 : decode cX7_init 85 = .ok (.iload_n 1, 1) := by decide +kernel
theorem dX7_init_86 : decode cX7_init 86 = .ok (.iconst 4, 1) := by decide +kernel
theorem dX7_init_87 : decode cX7_init 87 = .ok (.if_icmp .ge 22, 3) := by decide +kernel
theorem dX7_init_90 : decode cX7_init 90 = .ok (.aload_n 0, 1) := by decide +kernel
theorem dX7_init_91 : decode cX7_init 91 = .ok (.getfield 38, 3) := by decide +kernel
theorem dX7_init_94 : decode cX7_init 94 = .ok (.iload_n 1, 1) := by decide +kernel
theorem dX7_init_95 : decode cX7_init 95 = .ok (.new 36, 3) := by decide +kernel
theorem dX7_init_98 : decode cX7_init 98 = .ok (.dup, 1) := by decide +kernel
theorem dX7_init_99 : decode cX7_init 99 = .ok (.invokespecial 52, 3) := by decide +kernel
theorem dX7_init_102 : decode cX7_init 102 = .ok (.aastore, 1) := by decide +kernel
theorem dX7_init_103 : decode cX7_init 103 = .ok (.iinc 1 1, 3) := by decide +kernel
theorem dX7_init_106 : decode cX7_init 106 = .ok (.goto (-21), 3) := by decide +kernel
theorem dX7_init_109 : decode cX7_init 109 = .ok (.iconst 0, 1) := by decide +kernel
theorem dX7_init_110 : decode cX7_init 110 = .ok (.istore_n 1, 1) := by decide +kernel
theorem dX7_init_111 : decode cX7_init 111 = .ok (.iload_n 1, 1) := by decide +kernel
theorem dX7_init_112 : decode cX7_init 112 = .ok (.iconst 5, 1) := by decide +kernel
theorem dX7_init_113 : decode cX7_init 113 = .ok (.if_icmp .ge 22, 3) := by decide +kernel
theorem dX7_init_116 : decode cX7_init 116 = .ok (.aload_n 0, 1) := by decide +kernel
theorem dX7_init_117 : decode cX7_init 117 = .ok (.getfield 44, 3) := by decide +kernel
theorem dX7_init_120 : decode cX7_init 120 = .ok (.iload_n 1, 1) := by decide +kernel
theorem dX7_init_121 : decode cX7_init 121 = .ok (.new 42, 3) := by decide +kernel
theorem dX7_init_124 : decode cX7_init 124 = .ok (.dup, 1) := by decide +kernel
theorem dX7_init_125 : decode cX7_init 125 = .ok (.invokespecial 53, 3) := by decide +kernel
theorem dX7_init_128 : decode cX7_init 128 = .ok (.aastore, 1) := by decide +kernel
theorem dX7_init_129 : decode cX7_init 129 = .ok (.iinc 1 1, 3) := by decide +kernel
theorem dX7_init_132 : decode cX7_init 132 = .ok (.goto (-21), 3) := by decide +kernel
theorem dX7_init_135 : decode cX7_init 135 = .ok (.return_, 1) := by decide +kernel
theorem dX7_run_0 : decode cX7_run 0 = .ok (.iload_n 1, 1) := by decide +kernel
theorem dX7_run_1 : decode cX7_run 1 = .ok (.invokestatic 54, 3) := by decide +kernel
theorem dX7_run_4 : decode cX7_run 4 = .ok (.ifCond .eq 28, 3) := by decide +kernel
theorem dX7_run_7 : decode cX7_run 7 = .ok (.iload_n 2, 1) := by decide +kernel
theorem dX7_run_8 : decode cX7_run 8 = .ok (.invokestatic 58, 3) := by decide +kernel
theorem dX7_run_11 : decode cX7_run 11 = .ok (.ifCond .eq 21, 3) := by decide +kernel
theorem dX7_run_14 : decode cX7_run 14 = .ok (.iload_n 3, 1) := by decide +kernel
theorem dX7_run_15 : decode cX7_run 15 = .ok (.iconst 1, 1) := by decide +kernel
theorem dX7_run_16 : decode cX7_run 16 = .ok (.bipush 99, 2) := by decide +kernel
theorem dX7_run_18 : decode cX7_run 18 = .ok (.invokestatic 61, 3) := by decide +kernel
theorem dX7_run_21 : decode cX7_run 21 = .ok (.ifCond .eq 11, 3) := by decide +kernel
theorem dX7_run_24 : decode cX7_run 24 = .ok (.iload 4, 2) := by decide +kernel
theorem dX7_run_26 : decode cX7_run 26 = .ok (.invokestatic 65, 3) := by decide +kernel
theorem dX7_run_29 : decode cX7_run 29 = .ok (.ifCond .ne 6, 3) := by decide +kernel
theorem dX7_run_32 : decode cX7_run 32 = .ok (.ldc 68, 2) := by decide +kernel
theorem dX7_run_34 : decode cX7_run 34 = .ok (.ireturn, 1) := by decide +kernel
theorem dX7_run_35 : decode cX7_run 35 = .ok (.aload_n 0, 1) := by decide +kernel
theorem dX7_run_36 : decode cX7_run 36 = .ok (.getfield 10, 3) := by decide +kernel
theorem dX7_run_39 : decode cX7_run 39 = .ok (.getfield 69, 3) := by decide +kernel
theorem dX7_run_42 : decode cX7_run 42 = .ok (.bipush 10, 2) := by decide +kernel
theorem dX7_run_44 : decode cX7_run 44 = .ok (.if_icmp .lt 6, 3) := by decide +kernel
theorem dX7_run_47 : decode cX7_run 47 = .ok (.ldc 73, 2) := by decide +kernel
theorem dX7_run_49 : decode cX7_run 49 = .ok (.ireturn, 1) := by decide +kernel
theorem dX7_run_50 : decode cX7_run 50 = .ok (.aload_n 0, 1) := by decide +kernel
theorem dX7_run_51 : decode cX7_run 51 = .ok (.getfield 10, 3) := by decide +kernel
theorem dX7_run_54 : decode cX7_run 54 = .ok (.iload_n 1, 1) := by decide +kernel
theorem dX7_run_55 : decode cX7_run 55 = .ok (.iload_n 2, 1) := by decide +kernel
theorem dX7_run_56 : decode cX7_run 56 = .ok (.iload_n 3, 1) := by decide +kernel
theorem dX7_run_57 : decode cX7_run 57 = .ok (.iload 4, 2) := by decide +kernel
theorem dX7_run_59 : decode cX7_run 59 = .ok (.invokevirtual 74, 3) := by decide +kernel
theorem dX7_run_62 : decode cX7_run 62 = .ok (.aload_n 0, 1) := by decide +kernel
theorem dX7_run_63 : decode cX7_run 63 = .ok (.getfield 10, 3) := by decide +kernel
theorem dX7_run_66 : decode cX7_run 66 = .ok (.getfield 69, 3) := by decide +kernel
theorem dX7_run_69 : decode cX7_run 69 = .ok (.iconst 1, 1) := by decide +kernel
theorem dX7_run_70 : decode cX7_run 70 = .ok (.isub, 1) := by decide +kernel
theorem dX7_run_71 : decode cX7_run 71 = .ok (.ireturn, 1) := by decide +kernel
theorem dX7_told_0 : decode cX7_told 0 = .ok (.aload_n 0, 1) := by decide +kernel
theorem dX7_told_1 : decode cX7_told 1 = .ok (.getfield 10, 3) := by decide +kernel
theorem dX7_told_4 : decode cX7_told 4 = .ok (.iload_n 1, 1) := by decide +kernel
theorem dX7_told_5 : decode cX7_told 5 = .ok (.invokevirtual 78, 3) := by decide +kernel
theorem dX7_told_8 : decode cX7_told 8 = .ok (.ifCond .ne 6, 3) := by decide +kernel
theorem dX7_told_11 : decode cX7_told 11 = .ok (.ldc 68, 2) := by decide +kernel
theorem dX7_told_13 : decode cX7_told 13 = .ok (.ireturn, 1) := by decide +kernel
theorem dX7_told_14 : decode cX7_told 14 = .ok (.iload_n 2, 1) := by decide +kernel
theorem dX7_told_15 : decode cX7_told 15 = .ok (.tableswitch 139 0 7 #[45, 55, 65, 75, 85, 95, 104, 117], 45) := by decide +kernel
theorem dX7_told_60 : decode cX7_told 60 = .ok (.aload_n 0, 1) := by decide +kernel
theorem dX7_told_61 : decode cX7_told 61 = .ok (.getfield 10, 3) := by decide +kernel
theorem dX7_told_64 : decode cX7_told 64 = .ok (.getfield 81, 3) := by decide +kernel
theorem dX7_told_67 : decode cX7_told 67 = .ok (.iload_n 1, 1) := by decide +kernel
theorem dX7_told_68 : decode cX7_told 68 = .ok (.iaload, 1) := by decide +kernel
theorem dX7_told_69 : decode cX7_told 69 = .ok (.ireturn, 1) := by decide +kernel
theorem dX7_told_70 : decode cX7_told 70 = .ok (.aload_n 0, 1) := by decide +kernel
theorem dX7_told_71 : decode cX7_told 71 = .ok (.getfield 10, 3) := by decide +kernel
theorem dX7_told_74 : decode cX7_told 74 = .ok (.getfield 84, 3) := by decide +kernel
theorem dX7_told_77 : decode cX7_told 77 = .ok (.iload_n 1, 1) := by decide +kernel
theorem dX7_told_78 : decode cX7_told 78 = .ok (.iaload, 1) := by decide +kernel
theorem dX7_told_79 : decode cX7_told 79 = .ok (.ireturn, 1) := by decide +kernel
theorem dX7_told_80 : decode cX7_told 80 = .ok (.aload_n 0, 1) := by decide +kernel
theorem dX7_told_81 : decode cX7_told 81 = .ok (.getfield 10, 3) := by decide +kernel
theorem dX7_told_84 : decode cX7_told 84 = .ok (.getfield 87, 3) := by decide +kernel
theorem dX7_told_87 : decode cX7_told 87 = .ok (.iload_n 1, 1) := by decide +kernel
theorem dX7_told_88 : decode cX7_told 88 = .ok (.iaload, 1) := by decide +kernel
theorem dX7_told_89 : decode cX7_told 89 = .ok (.ireturn, 1) := by decide +kernel
theorem dX7_told_90 : decode cX7_told 90 = .ok (.aload_n 0, 1) := by decide +kernel
theorem dX7_told_91 : decode cX7_told 91 = .ok (.getfield 10, 3) := by decide +kernel
theorem dX7_told_94 : decode cX7_told 94 = .ok (.getfield 90, 3) := by decide +kernel
theorem dX7_told_97 : decode cX7_told 97 = .ok (.iload_n 1, 1) := by decide +kernel
theorem dX7_told_98 : decode cX7_told 98 = .ok (.iaload, 1) := by decide +kernel
theorem dX7_told_99 : decode cX7_told 99 = .ok (.ireturn, 1) := by decide +kernel
theorem dX7_told_100 : decode cX7_told 100 = .ok (.aload_n 0, 1) := by decide +kernel
theorem dX7_told_101 : decode cX7_told 101 = .ok (.getfield 10, 3) := by decide +kernel
theorem dX7_told_104 : decode cX7_told 104 = .ok (.getfield 93, 3) := by decide +kernel
theorem dX7_told_107 : decode cX7_told 107 = .ok (.iload_n 1, 1) := by decide +kernel
theorem dX7_told_108 : decode cX7_told 108 = .ok (.iaload, 1) := by decide +kernel
theorem dX7_told_109 : decode cX7_told 109 = .ok (.ireturn, 1) := by decide +kernel
theorem dX7_told_110 : decode cX7_told 110 = .ok (.aload_n 0, 1) := by decide +kernel
theorem dX7_told_111 : decode cX7_told 111 = .ok (.getfield 10, 3) := by decide +kernel
theorem dX7_told_114 : decode cX7_told 114 = .ok (.iload_n 1, 1) := by decide +kernel
theorem dX7_told_115 : decode cX7_told 115 = .ok (.invokevirtual 96, 3) := by decide +kernel
theorem dX7_told_118 : decode cX7_told 118 = .ok (.ireturn, 1) := by decide +kernel
theorem dX7_told_119 : decode cX7_told 119 = .ok (.aload_n 0, 1) := by decide +kernel
theorem dX7_told_120 : decode cX7_told 120 = .ok (.getfield 10, 3) := by decide +kernel
theorem dX7_told_123 : decode cX7_told 123 = .ok (.getfield 100, 3) := by decide +kernel
theorem dX7_told_126 : decode cX7_told 126 = .ok (.iload_n 1, 1) := by decide +kernel
theorem dX7_told_127 : decode cX7_told 127 = .ok (.laload, 1) := by decide +kernel
theorem dX7_told_128 : decode cX7_told 128 = .ok (.invokestatic 104, 3) := by decide +kernel
theorem dX7_told_131 : decode cX7_told 131 = .ok (.ireturn, 1) := by decide +kernel
theorem dX7_told_132 : decode cX7_told 132 = .ok (.aload_n 0, 1) := by decide +kernel
theorem dX7_told_133 : decode cX7_told 133 = .ok (.getfield 10, 3) := by decide +kernel
theorem dX7_told_136 : decode cX7_told 136 = .ok (.getfield 81, 3) := by decide +kernel
theorem dX7_told_139 : decode cX7_told 139 = .ok (.iload_n 1, 1) := by decide +kernel
theorem dX7_told_140 : decode cX7_told 140 = .ok (.iaload, 1) := by decide +kernel
theorem dX7_told_141 : decode cX7_told 141 = .ok (.aload_n 0, 1) := by decide +kernel
theorem dX7_told_142 : decode cX7_told 142 = .ok (.getfield 10, 3) := by decide +kernel
theorem dX7_told_145 : decode cX7_told 145 = .ok (.getfield 90, 3) := by decide +kernel
theorem dX7_told_148 : decode cX7_told 148 = .ok (.iload_n 1, 1) := by decide +kernel
theorem dX7_told_149 : decode cX7_told 149 = .ok (.iaload, 1) := by decide +kernel
theorem dX7_told_150 : decode cX7_told 150 = .ok (.invokestatic 110, 3) := by decide +kernel
theorem dX7_told_153 : decode cX7_told 153 = .ok (.ireturn, 1) := by decide +kernel
theorem dX7_told_154 : decode cX7_told 154 = .ok (.ldc 68, 2) := by decide +kernel
theorem dX7_told_156 : decode cX7_told 156 = .ok (.ireturn, 1) := by decide +kernel
theorem dX7_as_0 : decode cX7_as 0 = .ok (.aload_n 0, 1) := by decide +kernel
theorem dX7_as_1 : decode cX7_as 1 = .ok (.getfield 10, 3) := by decide +kernel
theorem dX7_as_4 : decode cX7_as 4 = .ok (.iload_n 1, 1) := by decide +kernel
theorem dX7_as_5 : decode cX7_as 5 = .ok (.invokevirtual 78, 3) := by decide +kernel
theorem dX7_as_8 : decode cX7_as 8 = .ok (.ifCond .eq 10, 3) := by decide +kernel
theorem dX7_as_11 : decode cX7_as 11 = .ok (.iload_n 2, 1) := by decide +kernel
theorem dX7_as_12 : decode cX7_as 12 = .ok (.invokestatic 54, 3) := by decide +kernel
theorem dX7_as_15 : decode cX7_as 15 = .ok (.ifCond .ne 6, 3) := by decide +kernel
theorem dX7_as_18 : decode cX7_as 18 = .ok (.ldc 68, 2) := by decide +kernel
theorem dX7_as_20 : decode cX7_as 20 = .ok (.ireturn, 1) := by decide +kernel
theorem dX7_as_21 : decode cX7_as 21 = .ok (.aload_n 0, 1) := by decide +kernel
theorem dX7_as_22 : decode cX7_as 22 = .ok (.getfield 10, 3) := by decide +kernel
theorem dX7_as_25 : decode cX7_as 25 = .ok (.getfield 81, 3) := by decide +kernel
theorem dX7_as_28 : decode cX7_as 28 = .ok (.iload_n 1, 1) := by decide +kernel
theorem dX7_as_29 : decode cX7_as 29 = .ok (.iaload, 1) := by decide +kernel
theorem dX7_as_30 : decode cX7_as 30 = .ok (.iload_n 2, 1) := by decide +kernel
theorem dX7_as_31 : decode cX7_as 31 = .ok (.invokestatic 116, 3) := by decide +kernel
theorem dX7_as_34 : decode cX7_as 34 = .ok (.ifCond .eq 15, 3) := by decide +kernel
theorem dX7_as_37 : decode cX7_as 37 = .ok (.aload_n 0, 1) := by decide +kernel
theorem dX7_as_38 : decode cX7_as 38 = .ok (.getfield 10, 3) := by decide +kernel
theorem dX7_as_41 : decode cX7_as 41 = .ok (.getfield 90, 3) := by decide +kernel
theorem dX7_as_44 : decode cX7_as 44 = .ok (.iload_n 1, 1) := by decide +kernel
theorem dX7_as_45 : decode cX7_as 45 = .ok (.iaload, 1) := by decide +kernel
theorem dX7_as_46 : decode cX7_as 46 = .ok (.goto 5, 3) := by decide +kernel
theorem dX7_as_49 : decode cX7_as 49 = .ok (.ldc 120, 2) := by decide +kernel
theorem dX7_as_51 : decode cX7_as 51 = .ok (.ireturn, 1) := by decide +kernel
theorem dX7_turns_0 : decode cX7_turns 0 = .ok (.aload_n 0, 1) := by decide +kernel
theorem dX7_turns_1 : decode cX7_turns 1 = .ok (.getfield 10, 3) := by decide +kernel
theorem dX7_turns_4 : decode cX7_turns 4 = .ok (.iload_n 1, 1) := by decide +kernel
theorem dX7_turns_5 : decode cX7_turns 5 = .ok (.invokevirtual 78, 3) := by decide +kernel
theorem dX7_turns_8 : decode cX7_turns 8 = .ok (.ifCond .eq 10, 3) := by decide +kernel
theorem dX7_turns_11 : decode cX7_turns 11 = .ok (.iload_n 2, 1) := by decide +kernel
theorem dX7_turns_12 : decode cX7_turns 12 = .ok (.invokestatic 54, 3) := by decide +kernel
theorem dX7_turns_15 : decode cX7_turns 15 = .ok (.ifCond .ne 6, 3) := by decide +kernel
theorem dX7_turns_18 : decode cX7_turns 18 = .ok (.ldc 68, 2) := by decide +kernel
theorem dX7_turns_20 : decode cX7_turns 20 = .ok (.ireturn, 1) := by decide +kernel
theorem dX7_turns_21 : decode cX7_turns 21 = .ok (.aload_n 0, 1) := by decide +kernel
theorem dX7_turns_22 : decode cX7_turns 22 = .ok (.getfield 10, 3) := by decide +kernel
theorem dX7_turns_25 : decode cX7_turns 25 = .ok (.getfield 81, 3) := by decide +kernel
theorem dX7_turns_28 : decode cX7_turns 28 = .ok (.iload_n 1, 1) := by decide +kernel
theorem dX7_turns_29 : decode cX7_turns 29 = .ok (.iaload, 1) := by decide +kernel
theorem dX7_turns_30 : decode cX7_turns 30 = .ok (.istore_n 3, 1) := by decide +kernel
theorem dX7_turns_31 : decode cX7_turns 31 = .ok (.aload_n 0, 1) := by decide +kernel
theorem dX7_turns_32 : decode cX7_turns 32 = .ok (.getfield 10, 3) := by decide +kernel
theorem dX7_turns_35 : decode cX7_turns 35 = .ok (.iload_n 1, 1) := by decide +kernel
theorem dX7_turns_36 : decode cX7_turns 36 = .ok (.iload_n 2, 1) := by decide +kernel
theorem dX7_turns_37 : decode cX7_turns 37 = .ok (.aload_n 0, 1) := by decide +kernel
theorem dX7_turns_38 : decode cX7_turns 38 = .ok (.getfield 10, 3) := by decide +kernel
theorem dX7_turns_41 : decode cX7_turns 41 = .ok (.getfield 84, 3) := by decide +kernel
theorem dX7_turns_44 : decode cX7_turns 44 = .ok (.iload_n 1, 1) := by decide +kernel
theorem dX7_turns_45 : decode cX7_turns 45 = .ok (.iaload, 1) := by decide +kernel
theorem dX7_turns_46 : decode cX7_turns 46 = .ok (.invokevirtual 121, 3) := by decide +kernel
theorem dX7_turns_49 : decode cX7_turns 49 = .ok (.iload_n 3, 1) := by decide +kernel
theorem dX7_turns_50 : decode cX7_turns 50 = .ok (.ireturn, 1) := by decide +kernel
theorem dX7_set_0 : decode cX7_set 0 = .ok (.aload_n 0, 1) := by decide +kernel
theorem dX7_set_1 : decode cX7_set 1 = .ok (.getfield 10, 3) := by decide +kernel
theorem dX7_set_4 : decode cX7_set 4 = .ok (.iload_n 1, 1) := by decide +kernel
theorem dX7_set_5 : decode cX7_set 5 = .ok (.invokevirtual 78, 3) := by decide +kernel
theorem dX7_set_8 : decode cX7_set 8 = .ok (.ifCond .ne 6, 3) := by decide +kernel
theorem dX7_set_11 : decode cX7_set 11 = .ok (.ldc 68, 2) := by decide +kernel
theorem dX7_set_13 : decode cX7_set 13 = .ok (.ireturn, 1) := by decide +kernel
theorem dX7_set_14 : decode cX7_set 14 = .ok (.iload_n 2, 1) := by decide +kernel
theorem dX7_set_15 : decode cX7_set 15 = .ok (.tableswitch 85 1 3 #[25, 32, 60], 25) := by decide +kernel
theorem dX7_set_40 : decode cX7_set 40 = .ok (.aload_n 0, 1) := by decide +kernel
theorem dX7_set_41 : decode cX7_set 41 = .ok (.iload_n 1, 1) := by decide +kernel
theorem dX7_set_42 : decode cX7_set 42 = .ok (.iload_n 3, 1) := by decide +kernel
theorem dX7_set_43 : decode cX7_set 43 = .ok (.invokevirtual 125, 3) := by decide +kernel
theorem dX7_set_46 : decode cX7_set 46 = .ok (.ireturn, 1) := by decide +kernel
theorem dX7_set_47 : decode cX7_set 47 = .ok (.iload_n 3, 1) := by decide +kernel
theorem dX7_set_48 : decode cX7_set 48 = .ok (.iconst 1, 1) := by decide +kernel
theorem dX7_set_49 : decode cX7_set 49 = .ok (.bipush 99, 2) := by decide +kernel
theorem dX7_set_51 : decode cX7_set 51 = .ok (.invokestatic 61, 3) := by decide +kernel
theorem dX7_set_54 : decode cX7_set 54 = .ok (.ifCond .eq 18, 3) := by decide +kernel
theorem dX7_set_57 : decode cX7_set 57 = .ok (.aload_n 0, 1) := by decide +kernel
theorem dX7_set_58 : decode cX7_set 58 = .ok (.getfield 10, 3) := by decide +kernel
theorem dX7_set_61 : decode cX7_set 61 = .ok (.getfield 87, 3) := by decide +kernel
theorem dX7_set_64 : decode cX7_set 64 = .ok (.iload_n 1, 1) := by decide +kernel
theorem dX7_set_65 : decode cX7_set 65 = .ok (.iload_n 3, 1) := by decide +kernel
theorem dX7_set_66 : decode cX7_set 66 = .ok (.invokestatic 128, 3) := by decide +kernel
theorem dX7_set_69 : decode cX7_set 69 = .ok (.goto 5, 3) := by decide +kernel
theorem dX7_set_72 : decode cX7_set 72 = .ok (.ldc 68, 2) := by decide +kernel
theorem dX7_set_74 : decode cX7_set 74 = .ok (.ireturn, 1) := by decide +kernel
theorem dX7_set_75 : decode cX7_set 75 = .ok (.iload_n 3, 1) := by decide +kernel
theorem dX7_set_76 : decode cX7_set 76 = .ok (.invokestatic 65, 3) := by decide +kernel
theorem dX7_set_79 : decode cX7_set 79 = .ok (.ifCond .eq 18, 3) := by decide +kernel
theorem dX7_set_82 : decode cX7_set 82 = .ok (.aload_n 0, 1) := by decide +kernel
theorem dX7_set_83 : decode cX7_set 83 = .ok (.getfield 10, 3) := by decide +kernel
theorem dX7_set_86 : decode cX7_set 86 = .ok (.getfield 90, 3) := by decide +kernel
theorem dX7_set_89 : decode cX7_set 89 = .ok (.iload_n 1, 1) := by decide +kernel
theorem dX7_set_90 : decode cX7_set 90 = .ok (.iload_n 3, 1) := by decide +kernel
theorem dX7_set_91 : decode cX7_set 91 = .ok (.invokestatic 128, 3) := by decide +kernel
theorem dX7_set_94 : decode cX7_set 94 = .ok (.goto 5, 3) := by decide +kernel
theorem dX7_set_97 : decode cX7_set 97 = .ok (.ldc 68, 2) := by decide +kernel
theorem dX7_set_99 : decode cX7_set 99 = .ok (.ireturn, 1) := by decide +kernel
theorem dX7_set_100 : decode cX7_set 100 = .ok (.ldc 68, 2) := by decide +kernel
theorem dX7_set_102 : decode cX7_set 102 = .ok (.ireturn, 1) := by decide +kernel
theorem dX7_passes_0 : decode cX7_passes 0 = .ok (.aload_n 0, 1) := by decide +kernel
theorem dX7_passes_1 : decode cX7_passes 1 = .ok (.getfield 10, 3) := by decide +kernel
theorem dX7_passes_4 : decode cX7_passes 4 = .ok (.iload_n 1, 1) := by decide +kernel
theorem dX7_passes_5 : decode cX7_passes 5 = .ok (.invokevirtual 78, 3) := by decide +kernel
theorem dX7_passes_8 : decode cX7_passes 8 = .ok (.ifCond .eq 12, 3) := by decide +kernel
theorem dX7_passes_11 : decode cX7_passes 11 = .ok (.iload_n 2, 1) := by decide +kernel
theorem dX7_passes_12 : decode cX7_passes 12 = .ok (.iconst 0, 1) := by decide +kernel
theorem dX7_passes_13 : decode cX7_passes 13 = .ok (.iconst 5, 1) := by decide +kernel
theorem dX7_passes_14 : decode cX7_passes 14 = .ok (.invokestatic 61, 3) := by decide +kernel
theorem dX7_passes_17 : decode cX7_passes 17 = .ok (.ifCond .ne 6, 3) := by decide +kernel
theorem dX7_passes_20 : decode cX7_passes 20 = .ok (.ldc 68, 2) := by decide +kernel
theorem dX7_passes_22 : decode cX7_passes 22 = .ok (.ireturn, 1) := by decide +kernel
theorem dX7_passes_23 : decode cX7_passes 23 = .ok (.aload_n 0, 1) := by decide +kernel
theorem dX7_passes_24 : decode cX7_passes 24 = .ok (.getfield 10, 3) := by decide +kernel
theorem dX7_passes_27 : decode cX7_passes 27 = .ok (.getfield 100, 3) := by decide +kernel
theorem dX7_passes_30 : decode cX7_passes 30 = .ok (.iload_n 1, 1) := by decide +kernel
theorem dX7_passes_31 : decode cX7_passes 31 = .ok (.laload, 1) := by decide +kernel
theorem dX7_passes_32 : decode cX7_passes 32 = .ok (.iload_n 2, 1) := by decide +kernel
theorem dX7_passes_33 : decode cX7_passes 33 = .ok (.invokestatic 132, 3) := by decide +kernel
theorem dX7_passes_36 : decode cX7_passes 36 = .ok (.ireturn, 1) := by decide +kernel
theorem dX7_tells_0 : decode cX7_tells 0 = .ok (.aload_n 0, 1) := by decide +kernel
theorem dX7_tells_1 : decode cX7_tells 1 = .ok (.getfield 10, 3) := by decide +kernel
theorem dX7_tells_4 : decode cX7_tells 4 = .ok (.iload_n 1, 1) := by decide +kernel
theorem dX7_tells_5 : decode cX7_tells 5 = .ok (.invokevirtual 78, 3) := by decide +kernel
theorem dX7_tells_8 : decode cX7_tells 8 = .ok (.ifCond .eq 17, 3) := by decide +kernel
theorem dX7_tells_11 : decode cX7_tells 11 = .ok (.iload_n 2, 1) := by decide +kernel
theorem dX7_tells_12 : decode cX7_tells 12 = .ok (.invokestatic 136, 3) := by decide +kernel
theorem dX7_tells_15 : decode cX7_tells 15 = .ok (.ifCond .eq 10, 3) := by decide +kernel
theorem dX7_tells_18 : decode cX7_tells 18 = .ok (.iload_n 3, 1) := by decide +kernel
theorem dX7_tells_19 : decode cX7_tells 19 = .ok (.invokestatic 58, 3) := by decide +kernel
theorem dX7_tells_22 : decode cX7_tells 22 = .ok (.ifCond .ne 6, 3) := by decide +kernel
theorem dX7_tells_25 : decode cX7_tells 25 = .ok (.ldc 68, 2) := by decide +kernel
theorem dX7_tells_27 : decode cX7_tells 27 = .ok (.ireturn, 1) := by decide +kernel
theorem dX7_tells_28 : decode cX7_tells 28 = .ok (.aload_n 0, 1) := by decide +kernel
theorem dX7_tells_29 : decode cX7_tells 29 = .ok (.getfield 10, 3) := by decide +kernel
theorem dX7_tells_32 : decode cX7_tells 32 = .ok (.iload_n 1, 1) := by decide +kernel
theorem dX7_tells_33 : decode cX7_tells 33 = .ok (.iload_n 2, 1) := by decide +kernel
theorem dX7_tells_34 : decode cX7_tells 34 = .ok (.iload_n 3, 1) := by decide +kernel
theorem dX7_tells_35 : decode cX7_tells 35 = .ok (.invokevirtual 139, 3) := by decide +kernel
theorem dX7_tells_38 : decode cX7_tells 38 = .ok (.ireturn, 1) := by decide +kernel
theorem dX7_deal_0 : decode cX7_deal 0 = .ok (.iload_n 1, 1) := by decide +kernel
theorem dX7_deal_1 : decode cX7_deal 1 = .ok (.iconst 1, 1) := by decide +kernel
theorem dX7_deal_2 : decode cX7_deal 2 = .ok (.bipush 10, 2) := by decide +kernel
theorem dX7_deal_4 : decode cX7_deal 4 = .ok (.invokestatic 61, 3) := by decide +kernel
theorem dX7_deal_7 : decode cX7_deal 7 = .ok (.ifCond .ne 6, 3) := by decide +kernel
theorem dX7_deal_10 : decode cX7_deal 10 = .ok (.ldc 68, 2) := by decide +kernel
theorem dX7_deal_12 : decode cX7_deal 12 = .ok (.ireturn, 1) := by decide +kernel
theorem dX7_deal_13 : decode cX7_deal 13 = .ok (.iload_n 1, 1) := by decide +kernel
theorem dX7_deal_14 : decode cX7_deal 14 = .ok (.bipush 10, 2) := by decide +kernel
theorem dX7_deal_16 : decode cX7_deal 16 = .ok (.aload_n 0, 1) := by decide +kernel
theorem dX7_deal_17 : decode cX7_deal 17 = .ok (.getfield 10, 3) := by decide +kernel
theorem dX7_deal_20 : decode cX7_deal 20 = .ok (.getfield 69, 3) := by decide +kernel
theorem dX7_deal_23 : decode cX7_deal 23 = .ok (.isub, 1) := by decide +kernel
theorem dX7_deal_24 : decode cX7_deal 24 = .ok (.invokestatic 143, 3) := by decide +kernel
theorem dX7_deal_27 : decode cX7_deal 27 = .ok (.istore_n 2, 1) := by decide +kernel
theorem dX7_deal_28 : decode cX7_deal 28 = .ok (.iconst 0, 1) := by decide +kernel
theorem dX7_deal_29 : decode cX7_deal 29 = .ok (.istore_n 3, 1) := by decide +kernel
theorem dX7_deal_30 : decode cX7_deal 30 = .ok (.iload_n 3, 1) := by decide +kernel
theorem dX7_deal_31 : decode cX7_deal 31 = .ok (.iload_n 2, 1) := by decide +kernel
theorem dX7_deal_32 : decode cX7_deal 32 = .ok (.if_icmp .ge 16, 3) := by decide +kernel
theorem dX7_deal_35 : decode cX7_deal 35 = .ok (.aload_n 0, 1) := by decide +kernel
theorem dX7_deal_36 : decode cX7_deal 36 = .ok (.getfield 10, 3) := by decide +kernel
theorem dX7_deal_39 : decode cX7_deal 39 = .ok (.invokevirtual 148, 3) := by decide +kernel
theorem dX7_deal_42 : decode cX7_deal 42 = .ok (.iinc 3 1, 3) := by decide +kernel
theorem dX7_deal_45 : decode cX7_deal 45 = .ok (.goto (-15), 3) := by decide +kernel
theorem dX7_deal_48 : decode cX7_deal 48 = .ok (.iload_n 2, 1) := by decide +kernel
theorem dX7_deal_49 : decode cX7_deal 49 = .ok (.ireturn, 1) := by decide +kernel
theorem dX7_seed_0 : decode cX7_seed 0 = .ok (.aload_n 0, 1) := by decide +kernel
theorem dX7_seed_1 : decode cX7_seed 1 = .ok (.getfield 10, 3) := by decide +kernel
theorem dX7_seed_4 : decode cX7_seed 4 = .ok (.getfield 151, 3) := by decide +kernel
theorem dX7_seed_7 : decode cX7_seed 7 = .ok (.istore_n 2, 1) := by decide +kernel
theorem dX7_seed_8 : decode cX7_seed 8 = .ok (.aload_n 0, 1) := by decide +kernel
theorem dX7_seed_9 : decode cX7_seed 9 = .ok (.getfield 10, 3) := by decide +kernel
theorem dX7_seed_12 : decode cX7_seed 12 = .ok (.iload_n 1, 1) := by decide +kernel
theorem dX7_seed_13 : decode cX7_seed 13 = .ok (.putfield 151, 3) := by decide +kernel
theorem dX7_seed_16 : decode cX7_seed 16 = .ok (.iload_n 2, 1) := by decide +kernel
theorem dX7_seed_17 : decode cX7_seed 17 = .ok (.ireturn, 1) := by decide +kernel
theorem dX7_rule_0 : decode cX7_rule 0 = .ok (.iload_n 1, 1) := by decide +kernel
theorem dX7_rule_1 : decode cX7_rule 1 = .ok (.ifCond .ne 32, 3) := by decide +kernel
theorem dX7_rule_4 : decode cX7_rule 4 = .ok (.iload_n 2, 1) := by decide +kernel
theorem dX7_rule_5 : decode cX7_rule 5 = .ok (.iconst 0, 1) := by decide +kernel
theorem dX7_rule_6 : decode cX7_rule 6 = .ok (.bipush 49, 2) := by decide +kernel
theorem dX7_rule_8 : decode cX7_rule 8 = .ok (.invokestatic 61, 3) := by decide +kernel
theorem dX7_rule_11 : decode cX7_rule 11 = .ok (.ifCond .eq 22, 3) := by decide +kernel
theorem dX7_rule_14 : decode cX7_rule 14 = .ok (.aload_n 0, 1) := by decide +kernel
theorem dX7_rule_15 : decode cX7_rule 15 = .ok (.getfield 10, 3) := by decide +kernel
theorem dX7_rule_18 : decode cX7_rule 18 = .ok (.getfield 154, 3) := by decide +kernel
theorem dX7_rule_21 : decode cX7_rule 21 = .ok (.istore_n 3, 1) := by decide +kernel
theorem dX7_rule_22 : decode cX7_rule 22 = .ok (.aload_n 0, 1) := by decide +kernel
theorem dX7_rule_23 : decode cX7_rule 23 = .ok (.getfield 10, 3) := by decide +kernel
theorem dX7_rule_26 : decode cX7_rule 26 = .ok (.iload_n 2, 1) := by decide +kernel
theorem dX7_rule_27 : decode cX7_rule 27 = .ok (.putfield 154, 3) := by decide +kernel
theorem dX7_rule_30 : decode cX7_rule 30 = .ok (.goto 39, 3) := by decide +kernel
theorem dX7_rule_33 : decode cX7_rule 33 = .ok (.iload_n 1, 1) := by decide +kernel
theorem dX7_rule_34 : decode cX7_rule 34 = .ok (.iconst 1, 1) := by decide +kernel
theorem dX7_rule_35 : decode cX7_rule 35 = .ok (.if_icmp .ne 31, 3) := by decide +kernel
theorem dX7_rule_38 : decode cX7_rule 38 = .ok (.iload_n 2, 1) := by decide +kernel
theorem dX7_rule_39 : decode cX7_rule 39 = .ok (.iconst 0, 1) := by decide +kernel
theorem dX7_rule_40 : decode cX7_rule 40 = .ok (.iconst 1, 1) := by decide +kernel
theorem dX7_rule_41 : decode cX7_rule 41 = .ok (.invokestatic 61, 3) := by decide +kernel
theorem dX7_rule_44 : decode cX7_rule 44 = .ok (.ifCond .eq 22, 3) := by decide +kernel
theorem dX7_rule_47 : decode cX7_rule 47 = .ok (.aload_n 0, 1) := by decide +kernel
theorem dX7_rule_48 : decode cX7_rule 48 = .ok (.getfield 10, 3) := by decide +kernel
theorem dX7_rule_51 : decode cX7_rule 51 = .ok (.getfield 157, 3) := by decide +kernel
theorem dX7_rule_54 : decode cX7_rule 54 = .ok (.istore_n 3, 1) := by decide +kernel
theorem dX7_rule_55 : decode cX7_rule 55 = .ok (.aload_n 0, 1) := by decide +kernel
theorem dX7_rule_56 : decode cX7_rule 56 = .ok (.getfield 10, 3) := by decide +kernel
theorem dX7_rule_59 : decode cX7_rule 59 = .ok (.iload_n 2, 1) := by decide +kernel
theorem dX7_rule_60 : decode cX7_rule 60 = .ok (.putfield 157, 3) := by decide +kernel
theorem dX7_rule_63 : decode cX7_rule 63 = .ok (.goto 6, 3) := by decide +kernel
theorem dX7_rule_66 : decode cX7_rule 66 = .ok (.ldc 68, 2) := by decide +kernel
theorem dX7_rule_68 : decode cX7_rule 68 = .ok (.istore_n 3, 1) := by decide +kernel
theorem dX7_rule_69 : decode cX7_rule 69 = .ok (.iload_n 3, 1) := by decide +kernel
theorem dX7_rule_70 : decode cX7_rule 70 = .ok (.ireturn, 1) := by decide +kernel
theorem dX7_build_0 : decode cX7_build 0 = .ok (.aload_n 0, 1) := by decide +kernel
theorem dX7_build_1 : decode cX7_build 1 = .ok (.getfield 10, 3) := by decide +kernel
theorem dX7_build_4 : decode cX7_build 4 = .ok (.getfield 69, 3) := by decide +kernel
theorem dX7_build_7 : decode cX7_build 7 = .ok (.ifCond .ne 6, 3) := by decide +kernel
theorem dX7_build_10 : decode cX7_build 10 = .ok (.ldc 160, 2) := by decide +kernel
theorem dX7_build_12 : decode cX7_build 12 = .ok (.ireturn, 1) := by decide +kernel
theorem dX7_build_13 : decode cX7_build 13 = .ok (.aload_n 0, 1) := by decide +kernel
theorem dX7_build_14 : decode cX7_build 14 = .ok (.getfield 10, 3) := by decide +kernel
theorem dX7_build_17 : decode cX7_build 17 = .ok (.invokevirtual 161, 3) := by decide +kernel
theorem dX7_build_20 : decode cX7_build 20 = .ok (.aload_n 0, 1) := by decide +kernel
theorem dX7_build_21 : decode cX7_build 21 = .ok (.getfield 10, 3) := by decide +kernel
theorem dX7_build_24 : decode cX7_build 24 = .ok (.getfield 69, 3) := by decide +kernel
theorem dX7_build_27 : decode cX7_build 27 = .ok (.ireturn, 1) := by decide +kernel
theorem dX7_probe_0 : decode cX7_probe 0 = .ok (.iload_n 1, 1) := by decide +kernel
theorem dX7_probe_1 : decode cX7_probe 1 = .ok (.invokestatic 136, 3) := by decide +kernel
theorem dX7_probe_4 : decode cX7_probe 4 = .ok (.ifCond .eq 10, 3) := by decide +kernel
theorem dX7_probe_7 : decode cX7_probe 7 = .ok (.iload_n 2, 1) := by decide +kernel
theorem dX7_probe_8 : decode cX7_probe 8 = .ok (.invokestatic 58, 3) := by decide +kernel
theorem dX7_probe_11 : decode cX7_probe 11 = .ok (.ifCond .ne 6, 3) := by decide +kernel
theorem dX7_probe_14 : decode cX7_probe 14 = .ok (.ldc 68, 2) := by decide +kernel
theorem dX7_probe_16 : decode cX7_probe 16 = .ok (.ireturn, 1) := by decide +kernel
theorem dX7_probe_17 : decode cX7_probe 17 = .ok (.aload_n 0, 1) := by decide +kernel
theorem dX7_probe_18 : decode cX7_probe 18 = .ok (.getfield 10, 3) := by decide +kernel
theorem dX7_probe_21 : decode cX7_probe 21 = .ok (.invokevirtual 164, 3) := by decide +kernel
theorem dX7_probe_24 : decode cX7_probe 24 = .ok (.ifCond .eq 15, 3) := by decide +kernel
theorem dX7_probe_27 : decode cX7_probe 27 = .ok (.aload_n 0, 1) := by decide +kernel
theorem dX7_probe_28 : decode cX7_probe 28 = .ok (.getfield 10, 3) := by decide +kernel
theorem dX7_probe_31 : decode cX7_probe 31 = .ok (.iload_n 1, 1) := by decide +kernel
theorem dX7_probe_32 : decode cX7_probe 32 = .ok (.iload_n 2, 1) := by decide +kernel
theorem dX7_probe_33 : decode cX7_probe 33 = .ok (.invokevirtual 168, 3) := by decide +kernel
theorem dX7_probe_36 : decode cX7_probe 36 = .ok (.goto 5, 3) := by decide +kernel
theorem dX7_probe_39 : decode cX7_probe 39 = .ok (.ldc 160, 2) := by decide +kernel
theorem dX7_probe_41 : decode cX7_probe 41 = .ok (.ireturn, 1) := by decide +kernel
theorem dX7_drill_0 : decode cX7_drill 0 = .ok (.iload_n 1, 1) := by decide +kernel
theorem dX7_drill_1 : decode cX7_drill 1 = .ok (.invokestatic 58, 3) := by decide +kernel
theorem dX7_drill_4 : decode cX7_drill 4 = .ok (.ifCond .eq 10, 3) := by decide +kernel
theorem dX7_drill_7 : decode cX7_drill 7 = .ok (.iload_n 2, 1) := by decide +kernel
theorem dX7_drill_8 : decode cX7_drill 8 = .ok (.invokestatic 65, 3) := by decide +kernel
theorem dX7_drill_11 : decode cX7_drill 11 = .ok (.ifCond .ne 6, 3) := by decide +kernel
theorem dX7_drill_14 : decode cX7_drill 14 = .ok (.ldc 68, 2) := by decide +kernel
theorem dX7_drill_16 : decode cX7_drill 16 = .ok (.ireturn, 1) := by decide +kernel
theorem dX7_drill_17 : decode cX7_drill 17 = .ok (.aload_n 0, 1) := by decide +kernel
theorem dX7_drill_18 : decode cX7_drill 18 = .ok (.getfield 10, 3) := by decide +kernel
theorem dX7_drill_21 : decode cX7_drill 21 = .ok (.invokevirtual 164, 3) := by decide +kernel
theorem dX7_drill_24 : decode cX7_drill 24 = .ok (.ifCond .eq 15, 3) := by decide +kernel
theorem dX7_drill_27 : decode cX7_drill 27 = .ok (.aload_n 0, 1) := by decide +kernel
theorem dX7_drill_28 : decode cX7_drill 28 = .ok (.getfield 10, 3) := by decide +kernel
theorem dX7_drill_31 : decode cX7_drill 31 = .ok (.iload_n 1, 1) := by decide +kernel
theorem dX7_drill_32 : decode cX7_drill 32 = .ok (.iload_n 2, 1) := by decide +kernel
theorem dX7_drill_33 : decode cX7_drill 33 = .ok (.invokevirtual 171, 3) := by decide +kernel
theorem dX7_drill_36 : decode cX7_drill 36 = .ok (.goto 5, 3) := by decide +kernel
theorem dX7_drill_39 : decode cX7_drill 39 = .ok (.ldc 160, 2) := by decide +kernel
theorem dX7_drill_41 : decode cX7_drill 41 = .ok (.ireturn, 1) := by decide +kernel
theorem dX7_steps_0 : decode cX7_steps 0 = .ok (.iload_n 1, 1) := by decide +kernel
theorem dX7_steps_1 : decode cX7_steps 1 = .ok (.iconst 1, 1) := by decide +kernel
theorem dX7_steps_2 : decode cX7_steps 2 = .ok (.bipush 100, 2) := by decide +kernel
theorem dX7_steps_4 : decode cX7_steps 4 = .ok (.invokestatic 61, 3) := by decide +kernel
theorem dX7_steps_7 : decode cX7_steps 7 = .ok (.ifCond .ne 6, 3) := by decide +kernel
theorem dX7_steps_10 : decode cX7_steps 10 = .ok (.ldc 68, 2) := by decide +kernel
theorem dX7_steps_12 : decode cX7_steps 12 = .ok (.ireturn, 1) := by decide +kernel
theorem dX7_steps_13 : decode cX7_steps 13 = .ok (.aload_n 0, 1) := by decide +kernel
theorem dX7_steps_14 : decode cX7_steps 14 = .ok (.getfield 10, 3) := by decide +kernel
theorem dX7_steps_17 : decode cX7_steps 17 = .ok (.getfield 174, 3) := by decide +kernel
theorem dX7_steps_20 : decode cX7_steps 20 = .ok (.iconst 4, 1) := by decide +kernel
theorem dX7_steps_21 : decode cX7_steps 21 = .ok (.iaload, 1) := by decide +kernel
theorem dX7_steps_22 : decode cX7_steps 22 = .ok (.istore_n 2, 1) := by decide +kernel
theorem dX7_steps_23 : decode cX7_steps 23 = .ok (.aload_n 0, 1) := by decide +kernel
theorem dX7_steps_24 : decode cX7_steps 24 = .ok (.getfield 10, 3) := by decide +kernel
theorem dX7_steps_27 : decode cX7_steps 27 = .ok (.iload_n 1, 1) := by decide +kernel
theorem dX7_steps_28 : decode cX7_steps 28 = .ok (.sipush 9999, 3) := by decide +kernel
theorem dX7_steps_31 : decode cX7_steps 31 = .ok (.aload_n 0, 1) := by decide +kernel
theorem dX7_steps_32 : decode cX7_steps 32 = .ok (.getfield 10, 3) := by decide +kernel
theorem dX7_steps_35 : decode cX7_steps 35 = .ok (.getfield 177, 3) := by decide +kernel
theorem dX7_steps_38 : decode cX7_steps 38 = .ok (.isub, 1) := by decide +kernel
theorem dX7_steps_39 : decode cX7_steps 39 = .ok (.invokestatic 143, 3) := by decide +kernel
theorem dX7_steps_42 : decode cX7_steps 42 = .ok (.invokevirtual 180, 3) := by decide +kernel
theorem dX7_steps_45 : decode cX7_steps 45 = .ok (.aload_n 0, 1) := by decide +kernel
theorem dX7_steps_46 : decode cX7_steps 46 = .ok (.getfield 10, 3) := by decide +kernel
theorem dX7_steps_49 : decode cX7_steps 49 = .ok (.getfield 174, 3) := by decide +kernel
theorem dX7_steps_52 : decode cX7_steps 52 = .ok (.iconst 4, 1) := by decide +kernel
theorem dX7_steps_53 : decode cX7_steps 53 = .ok (.iaload, 1) := by decide +kernel
theorem dX7_steps_54 : decode cX7_steps 54 = .ok (.iload_n 2, 1) := by decide +kernel
theorem dX7_steps_55 : decode cX7_steps 55 = .ok (.isub, 1) := by decide +kernel
theorem dX7_steps_56 : decode cX7_steps 56 = .ok (.ireturn, 1) := by decide +kernel
theorem dX7_house_0 : decode cX7_house 0 = .ok (.iload_n 1, 1) := by decide +kernel
theorem dX7_house_1 : decode cX7_house 1 = .ok (.iconst 0, 1) := by decide +kernel
theorem dX7_house_2 : decode cX7_house 2 = .ok (.bipush 6, 2) := by decide +kernel
theorem dX7_house_4 : decode cX7_house 4 = .ok (.invokestatic 61, 3) := by decide +kernel
theorem dX7_house_7 : decode cX7_house 7 = .ok (.ifCond .eq 13, 3) := by decide +kernel
theorem dX7_house_10 : decode cX7_house 10 = .ok (.aload_n 0, 1) := by decide +kernel
theorem dX7_house_11 : decode cX7_house 11 = .ok (.getfield 10, 3) := by decide +kernel
theorem dX7_house_14 : decode cX7_house 14 = .ok (.getfield 174, 3) := by decide +kernel
theorem dX7_house_17 : decode cX7_house 17 = .ok (.iload_n 1, 1) := by decide +kernel
theorem dX7_house_18 : decode cX7_house 18 = .ok (.iaload, 1) := by decide +kernel
theorem dX7_house_19 : decode cX7_house 19 = .ok (.ireturn, 1) := by decide +kernel
theorem dX7_house_20 : decode cX7_house 20 = .ok (.iload_n 1, 1) := by decide +kernel
theorem dX7_house_21 : decode cX7_house 21 = .ok (.tableswitch 82 7 9 #[27, 43, 66], 27) := by decide +kernel
theorem dX7_house_48 : decode cX7_house 48 = .ok (.aload_n 0, 1) := by decide +kernel
theorem dX7_house_49 : decode cX7_house 49 = .ok (.getfield 10, 3) := by decide +kernel
theorem dX7_house_52 : decode cX7_house 52 = .ok (.invokevirtual 164, 3) := by decide +kernel
theorem dX7_house_55 : decode cX7_house 55 = .ok (.ifCond .eq 7, 3) := by decide +kernel
theorem dX7_house_58 : decode cX7_house 58 = .ok (.iconst 1, 1) := by decide +kernel
theorem dX7_house_59 : decode cX7_house 59 = .ok (.goto 4, 3) := by decide +kernel
theorem dX7_house_62 : decode cX7_house 62 = .ok (.iconst 0, 1) := by decide +kernel
theorem dX7_house_63 : decode cX7_house 63 = .ok (.ireturn, 1) := by decide +kernel
theorem dX7_house_64 : decode cX7_house 64 = .ok (.aload_n 0, 1) := by decide +kernel
theorem dX7_house_65 : decode cX7_house 65 = .ok (.getfield 10, 3) := by decide +kernel
theorem dX7_house_68 : decode cX7_house 68 = .ok (.getfield 69, 3) := by decide +kernel
theorem dX7_house_71 : decode cX7_house 71 = .ok (.ifCond .ne 8, 3) := by decide +kernel
theorem dX7_house_74 : decode cX7_house 74 = .ok (.ldc 184, 2) := by decide +kernel
theorem dX7_house_76 : decode cX7_house 76 = .ok (.goto 10, 3) := by decide +kernel
theorem dX7_house_79 : decode cX7_house 79 = .ok (.aload_n 0, 1) := by decide +kernel
theorem dX7_house_80 : decode cX7_house 80 = .ok (.getfield 10, 3) := by decide +kernel
theorem dX7_house_83 : decode cX7_house 83 = .ok (.invokevirtual 185, 3) := by decide +kernel
theorem dX7_house_86 : decode cX7_house 86 = .ok (.ireturn, 1) := by decide +kernel
theorem dX7_house_87 : decode cX7_house 87 = .ok (.aload_n 0, 1) := by decide +kernel
theorem dX7_house_88 : decode cX7_house 88 = .ok (.getfield 10, 3) := by decide +kernel
theorem dX7_house_91 : decode cX7_house 91 = .ok (.invokevirtual 189, 3) := by decide +kernel
theorem dX7_house_94 : decode cX7_house 94 = .ok (.ifCond .eq 7, 3) := by decide +kernel
theorem dX7_house_97 : decode cX7_house 97 = .ok (.iconst 1, 1) := by decide +kernel
theorem dX7_house_98 : decode cX7_house 98 = .ok (.goto 4, 3) := by decide +kernel
theorem dX7_house_101 : decode cX7_house 101 = .ok (.iconst 0, 1) := by decide +kernel
theorem dX7_house_102 : decode cX7_house 102 = .ok (.ireturn, 1) := by decide +kernel
theorem dX7_house_103 : decode cX7_house 103 = .ok (.ldc 68, 2) := by decide +kernel
theorem dX7_house_105 : decode cX7_house 105 = .ok (.ireturn, 1) := by decide +kernel
theorem dX7_chance_0 : decode cX7_chance 0 = .ok (.iload_n 1, 1) := by decide +kernel
theorem dX7_chance_1 : decode cX7_chance 1 = .ok (.invokestatic 58, 3) := by decide +kernel
theorem dX7_chance_4 : decode cX7_chance 4 = .ok (.ifCond .ne 6, 3) := by decide +kernel
theorem dX7_chance_7 : decode cX7_chance 7 = .ok (.ldc 68, 2) := by decide +kernel
theorem dX7_chance_9 : decode cX7_chance 9 = .ok (.ireturn, 1) := by decide +kernel
theorem dX7_chance_10 : decode cX7_chance 10 = .ok (.aload_n 0, 1) := by decide +kernel
theorem dX7_chance_11 : decode cX7_chance 11 = .ok (.getfield 10, 3) := by decide +kernel
theorem dX7_chance_14 : decode cX7_chance 14 = .ok (.getfield 69, 3) := by decide +kernel
theorem dX7_chance_17 : decode cX7_chance 17 = .ok (.ifCond .ne 8, 3) := by decide +kernel
theorem dX7_chance_20 : decode cX7_chance 20 = .ok (.ldc 184, 2) := by decide +kernel
theorem dX7_chance_22 : decode cX7_chance 22 = .ok (.goto 18, 3) := by decide +kernel
theorem dX7_chance_25 : decode cX7_chance 25 = .ok (.aload_n 0, 1) := by decide +kernel
theorem dX7_chance_26 : decode cX7_chance 26 = .ok (.getfield 10, 3) := by decide +kernel
theorem dX7_chance_29 : decode cX7_chance 29 = .ok (.aload_n 0, 1) := by decide +kernel
theorem dX7_chance_30 : decode cX7_chance 30 = .ok (.getfield 10, 3) := by decide +kernel
theorem dX7_chance_33 : decode cX7_chance 33 = .ok (.iload_n 1, 1) := by decide +kernel
theorem dX7_chance_34 : decode cX7_chance 34 = .ok (.invokevirtual 192, 3) := by decide +kernel
theorem dX7_chance_37 : decode cX7_chance 37 = .ok (.invokevirtual 196, 3) := by decide +kernel
theorem dX7_chance_40 : decode cX7_chance 40 = .ok (.ireturn, 1) := by decide +kernel
theorem dX7_risk_0 : decode cX7_risk 0 = .ok (.iload_n 1, 1) := by decide +kernel
theorem dX7_risk_1 : decode cX7_risk 1 = .ok (.invokestatic 58, 3) := by decide +kernel
theorem dX7_risk_4 : decode cX7_risk 4 = .ok (.ifCond .eq 10, 3) := by decide +kernel
theorem dX7_risk_7 : decode cX7_risk 7 = .ok (.iload_n 2, 1) := by decide +kernel
theorem dX7_risk_8 : decode cX7_risk 8 = .ok (.invokestatic 65, 3) := by decide +kernel
theorem dX7_risk_11 : decode cX7_risk 11 = .ok (.ifCond .ne 6, 3) := by decide +kernel
theorem dX7_risk_14 : decode cX7_risk 14 = .ok (.ldc 68, 2) := by decide +kernel
theorem dX7_risk_16 : decode cX7_risk 16 = .ok (.ireturn, 1) := by decide +kernel
theorem dX7_risk_17 : decode cX7_risk 17 = .ok (.aload_n 0, 1) := by decide +kernel
theorem dX7_risk_18 : decode cX7_risk 18 = .ok (.getfield 10, 3) := by decide +kernel
theorem dX7_risk_21 : decode cX7_risk 21 = .ok (.getfield 69, 3) := by decide +kernel
theorem dX7_risk_24 : decode cX7_risk 24 = .ok (.ifCond .ne 8, 3) := by decide +kernel
theorem dX7_risk_27 : decode cX7_risk 27 = .ok (.ldc 184, 2) := by decide +kernel
theorem dX7_risk_29 : decode cX7_risk 29 = .ok (.goto 19, 3) := by decide +kernel
theorem dX7_risk_32 : decode cX7_risk 32 = .ok (.aload_n 0, 1) := by decide +kernel
theorem dX7_risk_33 : decode cX7_risk 33 = .ok (.getfield 10, 3) := by decide +kernel
theorem dX7_risk_36 : decode cX7_risk 36 = .ok (.aload_n 0, 1) := by decide +kernel
theorem dX7_risk_37 : decode cX7_risk 37 = .ok (.getfield 10, 3) := by decide +kernel
theorem dX7_risk_40 : decode cX7_risk 40 = .ok (.iload_n 1, 1) := by decide +kernel
theorem dX7_risk_41 : decode cX7_risk 41 = .ok (.iload_n 2, 1) := by decide +kernel
theorem dX7_risk_42 : decode cX7_risk 42 = .ok (.invokevirtual 199, 3) := by decide +kernel
theorem dX7_risk_45 : decode cX7_risk 45 = .ok (.invokevirtual 196, 3) := by decide +kernel
theorem dX7_risk_48 : decode cX7_risk 48 = .ok (.ireturn, 1) := by decide +kernel
theorem dX7_where_0 : decode cX7_where 0 = .ok (.iload_n 1, 1) := by decide +kernel
theorem dX7_where_1 : decode cX7_where 1 = .ok (.invokestatic 203, 3) := by decide +kernel
theorem dX7_where_4 : decode cX7_where 4 = .ok (.ifCond .eq 19, 3) := by decide +kernel
theorem dX7_where_7 : decode cX7_where 7 = .ok (.iload_n 2, 1) := by decide +kernel
theorem dX7_where_8 : decode cX7_where 8 = .ok (.invokestatic 65, 3) := by decide +kernel
theorem dX7_where_11 : decode cX7_where 11 = .ok (.ifCond .eq 12, 3) := by decide +kernel
theorem dX7_where_14 : decode cX7_where 14 = .ok (.iload_n 3, 1) := by decide +kernel
theorem dX7_where_15 : decode cX7_where 15 = .ok (.iconst 0, 1) := by decide +kernel
theorem dX7_where_16 : decode cX7_where 16 = .ok (.iconst 1, 1) := by decide +kernel
theorem dX7_where_17 : decode cX7_where 17 = .ok (.invokestatic 61, 3) := by decide +kernel
theorem dX7_where_20 : decode cX7_where 20 = .ok (.ifCond .ne 6, 3) := by decide +kernel
theorem dX7_where_23 : decode cX7_where 23 = .ok (.ldc 68, 2) := by decide +kernel
theorem dX7_where_25 : decode cX7_where 25 = .ok (.ireturn, 1) := by decide +kernel
theorem dX7_where_26 : decode cX7_where 26 = .ok (.aload_n 0, 1) := by decide +kernel
theorem dX7_where_27 : decode cX7_where 27 = .ok (.iload_n 1, 1) := by decide +kernel
theorem dX7_where_28 : decode cX7_where 28 = .ok (.iload_n 2, 1) := by decide +kernel
theorem dX7_where_29 : decode cX7_where 29 = .ok (.invokevirtual 206, 3) := by decide +kernel
theorem dX7_where_32 : decode cX7_where 32 = .ok (.istore 4, 2) := by decide +kernel
theorem dX7_where_34 : decode cX7_where 34 = .ok (.iload 4, 2) := by decide +kernel
theorem dX7_where_36 : decode cX7_where 36 = .ok (.ifCond .eq 6, 3) := by decide +kernel
theorem dX7_where_39 : decode cX7_where 39 = .ok (.iload 4, 2) := by decide +kernel
theorem dX7_where_41 : decode cX7_where 41 = .ok (.ireturn, 1) := by decide +kernel
theorem dX7_where_42 : decode cX7_where 42 = .ok (.iload_n 3, 1) := by decide +kernel
theorem dX7_where_43 : decode cX7_where 43 = .ok (.ifCond .ne 13, 3) := by decide +kernel
theorem dX7_where_46 : decode cX7_where 46 = .ok (.aload_n 0, 1) := by decide +kernel
theorem dX7_where_47 : decode cX7_where 47 = .ok (.getfield 25, 3) := by decide +kernel
theorem dX7_where_50 : decode cX7_where 50 = .ok (.invokevirtual 209, 3) := by decide +kernel
theorem dX7_where_53 : decode cX7_where 53 = .ok (.goto 17, 3) := by decide +kernel
theorem dX7_where_56 : decode cX7_where 56 = .ok (.aload_n 0, 1) := by decide +kernel
theorem dX7_where_57 : decode cX7_where 57 = .ok (.getfield 10, 3) := by decide +kernel
theorem dX7_where_60 : decode cX7_where 60 = .ok (.aload_n 0, 1) := by decide +kernel
theorem dX7_where_61 : decode cX7_where 61 = .ok (.getfield 25, 3) := by decide +kernel
theorem dX7_where_64 : decode cX7_where 64 = .ok (.invokevirtual 212, 3) := by decide +kernel
theorem dX7_where_67 : decode cX7_where 67 = .ok (.invokevirtual 196, 3) := by decide +kernel
theorem dX7_where_70 : decode cX7_where 70 = .ok (.ireturn, 1) := by decide +kernel
theorem dX7_safe_0 : decode cX7_safe 0 = .ok (.iload_n 1, 1) := by decide +kernel
theorem dX7_safe_1 : decode cX7_safe 1 = .ok (.invokestatic 58, 3) := by decide +kernel
theorem dX7_safe_4 : decode cX7_safe 4 = .ok (.ifCond .eq 13, 3) := by decide +kernel
theorem dX7_safe_7 : decode cX7_safe 7 = .ok (.iload_n 2, 1) := by decide +kernel
theorem dX7_safe_8 : decode cX7_safe 8 = .ok (.iconst 0, 1) := by decide +kernel
theorem dX7_safe_9 : decode cX7_safe 9 = .ok (.ldc 216, 2) := by decide +kernel
theorem dX7_safe_11 : decode cX7_safe 11 = .ok (.invokestatic 61, 3) := by decide +kernel
theorem dX7_safe_14 : decode cX7_safe 14 = .ok (.ifCond .ne 6, 3) := by decide +kernel
theorem dX7_safe_17 : decode cX7_safe 17 = .ok (.ldc 68, 2) := by decide +kernel
theorem dX7_safe_19 : decode cX7_safe 19 = .ok (.ireturn, 1) := by decide +kernel
theorem dX7_safe_20 : decode cX7_safe 20 = .ok (.aload_n 0, 1) := by decide +kernel
theorem dX7_safe_21 : decode cX7_safe 21 = .ok (.getfield 10, 3) := by decide +kernel
theorem dX7_safe_24 : decode cX7_safe 24 = .ok (.getfield 69, 3) := by decide +kernel
theorem dX7_safe_27 : decode cX7_safe 27 = .ok (.ifCond .ne 6, 3) := by decide +kernel
theorem dX7_safe_30 : decode cX7_safe 30 = .ok (.ldc 184, 2) := by decide +kernel
theorem dX7_safe_32 : decode cX7_safe 32 = .ok (.ireturn, 1) := by decide +kernel
theorem dX7_safe_33 : decode cX7_safe 33 = .ok (.bipush 9, 2) := by decide +kernel
theorem dX7_safe_35 : decode cX7_safe 35 = .ok (.istore_n 3, 1) := by decide +kernel
theorem dX7_safe_36 : decode cX7_safe 36 = .ok (.iload_n 3, 1) := by decide +kernel
theorem dX7_safe_37 : decode cX7_safe 37 = .ok (.ifCond .le 31, 3) := by decide +kernel
theorem dX7_safe_40 : decode cX7_safe 40 = .ok (.aload_n 0, 1) := by decide +kernel
theorem dX7_safe_41 : decode cX7_safe 41 = .ok (.getfield 10, 3) := by decide +kernel
theorem dX7_safe_44 : decode cX7_safe 44 = .ok (.aload_n 0, 1) := by decide +kernel
theorem dX7_safe_45 : decode cX7_safe 45 = .ok (.getfield 10, 3) := by decide +kernel
theorem dX7_safe_48 : decode cX7_safe 48 = .ok (.iload_n 1, 1) := by decide +kernel
theorem dX7_safe_49 : decode cX7_safe 49 = .ok (.iload_n 3, 1) := by decide +kernel
theorem dX7_safe_50 : decode cX7_safe 50 = .ok (.invokevirtual 199, 3) := by decide +kernel
theorem dX7_safe_53 : decode cX7_safe 53 = .ok (.invokevirtual 196, 3) := by decide +kernel
theorem dX7_safe_56 : decode cX7_safe 56 = .ok (.iload_n 2, 1) := by decide +kernel
theorem dX7_safe_57 : decode cX7_safe 57 = .ok (.if_icmp .gt 5, 3) := by decide +kernel
theorem dX7_safe_60 : decode cX7_safe 60 = .ok (.iload_n 3, 1) := by decide +kernel
theorem dX7_safe_61 : decode cX7_safe 61 = .ok (.ireturn, 1) := by decide +kernel
theorem dX7_safe_62 : decode cX7_safe 62 = .ok (.iinc 3 (-1), 3) := by decide +kernel
theorem dX7_safe_65 : decode cX7_safe 65 = .ok (.goto (-29), 3) := by decide +kernel
theorem dX7_safe_68 : decode cX7_safe 68 = .ok (.iconst 0, 1) := by decide +kernel
theorem dX7_safe_69 : decode cX7_safe 69 = .ok (.ireturn, 1) := by decide +kernel
theorem dX7_learn_0 : decode cX7_learn 0 = .ok (.iload_n 1, 1) := by decide +kernel
theorem dX7_learn_1 : decode cX7_learn 1 = .ok (.invokestatic 136, 3) := by decide +kernel
theorem dX7_learn_4 : decode cX7_learn 4 = .ok (.ifCond .eq 25, 3) := by decide +kernel
theorem dX7_learn_7 : decode cX7_learn 7 = .ok (.iload_n 2, 1) := by decide +kernel
theorem dX7_learn_8 : decode cX7_learn 8 = .ok (.invokestatic 58, 3) := by decide +kernel
theorem dX7_learn_11 : decode cX7_learn 11 = .ok (.ifCond .eq 18, 3) := by decide +kernel
theorem dX7_learn_14 : decode cX7_learn 14 = .ok (.iload_n 3, 1) := by decide +kernel
theorem dX7_learn_15 : decode cX7_learn 15 = .ok (.invokestatic 203, 3) := by decide +kernel
theorem dX7_learn_18 : decode cX7_learn 18 = .ok (.ifCond .eq 11, 3) := by decide +kernel
theorem dX7_learn_21 : decode cX7_learn 21 = .ok (.iload 4, 2) := by decide +kernel
theorem dX7_learn_23 : decode cX7_learn 23 = .ok (.invokestatic 65, 3) := by decide +kernel
theorem dX7_learn_26 : decode cX7_learn 26 = .ok (.ifCond .ne 6, 3) := by decide +kernel
theorem dX7_learn_29 : decode cX7_learn 29 = .ok (.ldc 68, 2) := by decide +kernel
theorem dX7_learn_31 : decode cX7_learn 31 = .ok (.ireturn, 1) := by decide +kernel
theorem dX7_learn_32 : decode cX7_learn 32 = .ok (.aload_n 0, 1) := by decide +kernel
theorem dX7_learn_33 : decode cX7_learn 33 = .ok (.iload_n 3, 1) := by decide +kernel
theorem dX7_learn_34 : decode cX7_learn 34 = .ok (.iload 4, 2) := by decide +kernel
theorem dX7_learn_36 : decode cX7_learn 36 = .ok (.invokevirtual 206, 3) := by decide +kernel
theorem dX7_learn_39 : decode cX7_learn 39 = .ok (.istore 5, 2) := by decide +kernel
theorem dX7_learn_41 : decode cX7_learn 41 = .ok (.iload 5, 2) := by decide +kernel
theorem dX7_learn_43 : decode cX7_learn 43 = .ok (.ifCond .eq 8, 3) := by decide +kernel
theorem dX7_learn_46 : decode cX7_learn 46 = .ok (.iload 5, 2) := by decide +kernel
theorem dX7_learn_48 : decode cX7_learn 48 = .ok (.goto 16, 3) := by decide +kernel
theorem dX7_learn_51 : decode cX7_learn 51 = .ok (.aload_n 0, 1) := by decide +kernel
theorem dX7_learn_52 : decode cX7_learn 52 = .ok (.getfield 25, 3) := by decide +kernel
theorem dX7_learn_55 : decode cX7_learn 55 = .ok (.aload_n 0, 1) := by decide +kernel
theorem dX7_learn_56 : decode cX7_learn 56 = .ok (.getfield 10, 3) := by decide +kernel
theorem dX7_learn_59 : decode cX7_learn 59 = .ok (.iload_n 1, 1) := by decide +kernel
theorem dX7_learn_60 : decode cX7_learn 60 = .ok (.iload_n 2, 1) := by decide +kernel
theorem dX7_learn_61 : decode cX7_learn 61 = .ok (.invokevirtual 217, 3) := by decide +kernel
theorem dX7_learn_64 : decode cX7_learn 64 = .ok (.ireturn, 1) := by decide +kernel
theorem dX7_worthiest_0 : decode cX7_worthiest 0 = .ok (.iload_n 1, 1) := by decide +kernel
theorem dX7_worthiest_1 : decode cX7_worthiest 1 = .ok (.invokestatic 203, 3) := by decide +kernel
theorem dX7_worthiest_4 : decode cX7_worthiest 4 = .ok (.ifCond .eq 19, 3) := by decide +kernel
theorem dX7_worthiest_7 : decode cX7_worthiest 7 = .ok (.iload_n 2, 1) := by decide +kernel
theorem dX7_worthiest_8 : decode cX7_worthiest 8 = .ok (.invokestatic 65, 3) := by decide +kernel
theorem dX7_worthiest_11 : decode cX7_worthiest 11 = .ok (.ifCond .eq 12, 3) := by decide +kernel
theorem dX7_worthiest_14 : decode cX7_worthiest 14 = .ok (.iload_n 3, 1) := by decide +kernel
theorem dX7_worthiest_15 : decode cX7_worthiest 15 = .ok (.iconst 0, 1) := by decide +kernel
theorem dX7_worthiest_16 : decode cX7_worthiest 16 = .ok (.iconst 2, 1) := by decide +kernel
theorem dX7_worthiest_17 : decode cX7_worthiest 17 = .ok (.invokestatic 61, 3) := by decide +kernel
theorem dX7_worthiest_20 : decode cX7_worthiest 20 = .ok (.ifCond .ne 6, 3) := by decide +kernel
theorem dX7_worthiest_23 : decode cX7_worthiest 23 = .ok (.ldc 68, 2) := by decide +kernel
theorem dX7_worthiest_25 : decode cX7_worthiest 25 = .ok (.ireturn, 1) := by decide +kernel
theorem dX7_worthiest_26 : decode cX7_worthiest 26 = .ok (.aload_n 0, 1) := by decide +kernel
theorem dX7_worthiest_27 : decode cX7_worthiest 27 = .ok (.iload_n 1, 1) := by decide +kernel
theorem dX7_worthiest_28 : decode cX7_worthiest 28 = .ok (.iload_n 2, 1) := by decide +kernel
theorem dX7_worthiest_29 : decode cX7_worthiest 29 = .ok (.invokevirtual 206, 3) := by decide +kernel
theorem dX7_worthiest_32 : decode cX7_worthiest 32 = .ok (.istore 4, 2) := by decide +kernel
theorem dX7_worthiest_34 : decode cX7_worthiest 34 = .ok (.iload 4, 2) := by decide +kernel
theorem dX7_worthiest_36 : decode cX7_worthiest 36 = .ok (.ifCond .eq 6, 3) := by decide +kernel
theorem dX7_worthiest_39 : decode cX7_worthiest 39 = .ok (.iload 4, 2) := by decide +kernel
theorem dX7_worthiest_41 : decode cX7_worthiest 41 = .ok (.ireturn, 1) := by decide +kernel
theorem dX7_worthiest_42 : decode cX7_worthiest 42 = .ok (.aload_n 0, 1) := by decide +kernel
theorem dX7_worthiest_43 : decode cX7_worthiest 43 = .ok (.getfield 25, 3) := by decide +kernel
theorem dX7_worthiest_46 : decode cX7_worthiest 46 = .ok (.aload_n 0, 1) := by decide +kernel
theorem dX7_worthiest_47 : decode cX7_worthiest 47 = .ok (.getfield 10, 3) := by decide +kernel
theorem dX7_worthiest_50 : decode cX7_worthiest 50 = .ok (.invokevirtual 221, 3) := by decide +kernel
theorem dX7_worthiest_53 : decode cX7_worthiest 53 = .ok (.iload_n 3, 1) := by decide +kernel
theorem dX7_worthiest_54 : decode cX7_worthiest 54 = .ok (.lookupswitch 42 #[(0, 26), (1, 34)], 26) := by decide +kernel
theorem dX7_worthiest_80 : decode cX7_worthiest 80 = .ok (.aload_n 0, 1) := by decide +kernel
theorem dX7_worthiest_81 : decode cX7_worthiest 81 = .ok (.getfield 25, 3) := by decide +kernel
theorem dX7_worthiest_84 : decode cX7_worthiest 84 = .ok (.getfield 225, 3) := by decide +kernel
theorem dX7_worthiest_87 : decode cX7_worthiest 87 = .ok (.ireturn, 1) := by decide +kernel
theorem dX7_worthiest_88 : decode cX7_worthiest 88 = .ok (.aload_n 0, 1) := by decide +kernel
theorem dX7_worthiest_89 : decode cX7_worthiest 89 = .ok (.getfield 25, 3) := by decide +kernel
theorem dX7_worthiest_92 : decode cX7_worthiest 92 = .ok (.getfield 228, 3) := by decide +kernel
theorem dX7_worthiest_95 : decode cX7_worthiest 95 = .ok (.ireturn, 1) := by decide +kernel
theorem dX7_worthiest_96 : decode cX7_worthiest 96 = .ok (.aload_n 0, 1) := by decide +kernel
theorem dX7_worthiest_97 : decode cX7_worthiest 97 = .ok (.getfield 25, 3) := by decide +kernel
theorem dX7_worthiest_100 : decode cX7_worthiest 100 = .ok (.getfield 231, 3) := by decide +kernel
theorem dX7_worthiest_103 : decode cX7_worthiest 103 = .ok (.ireturn, 1) := by decide +kernel
theorem dX7_fits_0 : decode cX7_fits 0 = .ok (.iload_n 1, 1) := by decide +kernel
theorem dX7_fits_1 : decode cX7_fits 1 = .ok (.invokestatic 203, 3) := by decide +kernel
theorem dX7_fits_4 : decode cX7_fits 4 = .ok (.ifCond .eq 12, 3) := by decide +kernel
theorem dX7_fits_7 : decode cX7_fits 7 = .ok (.iload_n 2, 1) := by decide +kernel
theorem dX7_fits_8 : decode cX7_fits 8 = .ok (.iconst 0, 1) := by decide +kernel
theorem dX7_fits_9 : decode cX7_fits 9 = .ok (.iconst 1, 1) := by decide +kernel
theorem dX7_fits_10 : decode cX7_fits 10 = .ok (.invokestatic 61, 3) := by decide +kernel
theorem dX7_fits_13 : decode cX7_fits 13 = .ok (.ifCond .ne 6, 3) := by decide +kernel
theorem dX7_fits_16 : decode cX7_fits 16 = .ok (.ldc 68, 2) := by decide +kernel
theorem dX7_fits_18 : decode cX7_fits 18 = .ok (.ireturn, 1) := by decide +kernel
theorem dX7_fits_19 : decode cX7_fits 19 = .ok (.aload_n 0, 1) := by decide +kernel
theorem dX7_fits_20 : decode cX7_fits 20 = .ok (.getfield 38, 3) := by decide +kernel
theorem dX7_fits_23 : decode cX7_fits 23 = .ok (.iload_n 1, 1) := by decide +kernel
theorem dX7_fits_24 : decode cX7_fits 24 = .ok (.aaload, 1) := by decide +kernel
theorem dX7_fits_25 : decode cX7_fits 25 = .ok (.invokevirtual 234, 3) := by decide +kernel
theorem dX7_fits_28 : decode cX7_fits 28 = .ok (.ifCond .eq 6, 3) := by decide +kernel
theorem dX7_fits_31 : decode cX7_fits 31 = .ok (.ldc 237, 2) := by decide +kernel
theorem dX7_fits_33 : decode cX7_fits 33 = .ok (.ireturn, 1) := by decide +kernel
theorem dX7_fits_34 : decode cX7_fits 34 = .ok (.aload_n 0, 1) := by decide +kernel
theorem dX7_fits_35 : decode cX7_fits 35 = .ok (.getfield 10, 3) := by decide +kernel
theorem dX7_fits_38 : decode cX7_fits 38 = .ok (.getfield 69, 3) := by decide +kernel
theorem dX7_fits_41 : decode cX7_fits 41 = .ok (.ifCond .ne 6, 3) := by decide +kernel
theorem dX7_fits_44 : decode cX7_fits 44 = .ok (.ldc 184, 2) := by decide +kernel
theorem dX7_fits_46 : decode cX7_fits 46 = .ok (.ireturn, 1) := by decide +kernel
theorem dX7_fits_47 : decode cX7_fits 47 = .ok (.iconst 0, 1) := by decide +kernel
theorem dX7_fits_48 : decode cX7_fits 48 = .ok (.istore_n 3, 1) := by decide +kernel
theorem dX7_fits_49 : decode cX7_fits 49 = .ok (.aload_n 0, 1) := by decide +kernel
theorem dX7_fits_50 : decode cX7_fits 50 = .ok (.getfield 38, 3) := by decide +kernel
theorem dX7_fits_53 : decode cX7_fits 53 = .ok (.iload_n 1, 1) := by decide +kernel
theorem dX7_fits_54 : decode cX7_fits 54 = .ok (.aaload, 1) := by decide +kernel
theorem dX7_fits_55 : decode cX7_fits 55 = .ok (.aload_n 0, 1) := by decide +kernel
theorem dX7_fits_56 : decode cX7_fits 56 = .ok (.getfield 10, 3) := by decide +kernel
theorem dX7_fits_59 : decode cX7_fits 59 = .ok (.getfield 100, 3) := by decide +kernel
theorem dX7_fits_62 : decode cX7_fits 62 = .ok (.iconst 0, 1) := by decide +kernel
theorem dX7_fits_63 : decode cX7_fits 63 = .ok (.laload, 1) := by decide +kernel
theorem dX7_fits_64 : decode cX7_fits 64 = .ok (.invokevirtual 238, 3) := by decide +kernel
theorem dX7_fits_67 : decode cX7_fits 67 = .ok (.istore 4, 2) := by decide +kernel
theorem dX7_fits_69 : decode cX7_fits 69 = .ok (.iconst 1, 1) := by decide +kernel
theorem dX7_fits_70 : decode cX7_fits 70 = .ok (.istore 5, 2) := by decide +kernel
theorem dX7_fits_72 : decode cX7_fits 72 = .ok (.iload 5, 2) := by decide +kernel
theorem dX7_fits_74 : decode cX7_fits 74 = .ok (.aload_n 0, 1) := by decide +kernel
theorem dX7_fits_75 : decode cX7_fits 75 = .ok (.getfield 10, 3) := by decide +kernel
theorem dX7_fits_78 : decode cX7_fits 78 = .ok (.getfield 69, 3) := by decide +kernel
theorem dX7_fits_81 : decode cX7_fits 81 = .ok (.if_icmp .ge 44, 3) := by decide +kernel
theorem dX7_fits_84 : decode cX7_fits 84 = .ok (.aload_n 0, 1) := by decide +kernel
theorem dX7_fits_85 : decode cX7_fits 85 = .ok (.getfield 38, 3) := by decide +kernel
theorem dX7_fits_88 : decode cX7_fits 88 = .ok (.iload_n 1, 1) := by decide +kernel
theorem dX7_fits_89 : decode cX7_fits 89 = .ok (.aaload, 1) := by decide +kernel
theorem dX7_fits_90 : decode cX7_fits 90 = .ok (.aload_n 0, 1) := by decide +kernel
theorem dX7_fits_91 : decode cX7_fits 91 = .ok (.getfield 10, 3) := by decide +kernel
theorem dX7_fits_94 : decode cX7_fits 94 = .ok (.getfield 100, 3) := by decide +kernel
theorem dX7_fits_97 : decode cX7_fits 97 = .ok (.iload 5, 2) := by decide +kernel
theorem dX7_fits_99 : decode cX7_fits 99 = .ok (.laload, 1) := by decide +kernel
theorem dX7_fits_100 : decode cX7_fits 100 = .ok (.invokevirtual 238, 3) := by decide +kernel
theorem dX7_fits_103 : decode cX7_fits 103 = .ok (.istore 6, 2) := by decide +kernel
theorem dX7_fits_105 : decode cX7_fits 105 = .ok (.iload 6, 2) := by decide +kernel
theorem dX7_fits_107 : decode cX7_fits 107 = .ok (.iload 4, 2) := by decide +kernel
theorem dX7_fits_109 : decode cX7_fits 109 = .ok (.if_icmp .le 10, 3) := by decide +kernel
theorem dX7_fits_112 : decode cX7_fits 112 = .ok (.iload 5, 2) := by decide +kernel
theorem dX7_fits_114 : decode cX7_fits 114 = .ok (.istore_n 3, 1) := by decide +kernel
theorem dX7_fits_115 : decode cX7_fits 115 = .ok (.iload 6, 2) := by decide +kernel
theorem dX7_fits_117 : decode cX7_fits 117 = .ok (.istore 4, 2) := by decide +kernel
theorem dX7_fits_119 : decode cX7_fits 119 = .ok (.iinc 5 1, 3) := by decide +kernel
theorem dX7_fits_122 : decode cX7_fits 122 = .ok (.goto (-50), 3) := by decide +kernel
theorem dX7_fits_125 : decode cX7_fits 125 = .ok (.iload_n 2, 1) := by decide +kernel
theorem dX7_fits_126 : decode cX7_fits 126 = .ok (.ifCond .ne 7, 3) := by decide +kernel
theorem dX7_fits_129 : decode cX7_fits 129 = .ok (.iload_n 3, 1) := by decide +kernel
theorem dX7_fits_130 : decode cX7_fits 130 = .ok (.goto 5, 3) := by decide +kernel
theorem dX7_fits_133 : decode cX7_fits 133 = .ok (.iload 4, 2) := by decide +kernel
theorem dX7_fits_135 : decode cX7_fits 135 = .ok (.ireturn, 1) := by decide +kernel
theorem dX7_behind_0 : decode cX7_behind 0 = .ok (.iload_n 1, 1) := by decide +kernel
theorem dX7_behind_1 : decode cX7_behind 1 = .ok (.iconst 0, 1) := by decide +kernel
theorem dX7_behind_2 : decode cX7_behind 2 = .ok (.bipush 100, 2) := by decide +kernel
theorem dX7_behind_4 : decode cX7_behind 4 = .ok (.invokestatic 61, 3) := by decide +kernel
theorem dX7_behind_7 : decode cX7_behind 7 = .ok (.ifCond .eq 25, 3) := by decide +kernel
theorem dX7_behind_10 : decode cX7_behind 10 = .ok (.iload_n 2, 1) := by decide +kernel
theorem dX7_behind_11 : decode cX7_behind 11 = .ok (.ifCond .lt 21, 3) := by decide +kernel
theorem dX7_behind_14 : decode cX7_behind 14 = .ok (.iload_n 2, 1) := by decide +kernel
theorem dX7_behind_15 : decode cX7_behind 15 = .ok (.iconst 3, 1) := by decide +kernel
theorem dX7_behind_16 : decode cX7_behind 16 = .ok (.if_icmp .lt 19, 3) := by decide +kernel
theorem dX7_behind_19 : decode cX7_behind 19 = .ok (.aload_n 0, 1) := by decide +kernel
theorem dX7_behind_20 : decode cX7_behind 20 = .ok (.getfield 10, 3) := by decide +kernel
theorem dX7_behind_23 : decode cX7_behind 23 = .ok (.iload_n 2, 1) := by decide +kernel
theorem dX7_behind_24 : decode cX7_behind 24 = .ok (.iconst 3, 1) := by decide +kernel
theorem dX7_behind_25 : decode cX7_behind 25 = .ok (.isub, 1) := by decide +kernel
theorem dX7_behind_26 : decode cX7_behind 26 = .ok (.invokevirtual 78, 3) := by decide +kernel
theorem dX7_behind_29 : decode cX7_behind 29 = .ok (.ifCond .ne 6, 3) := by decide +kernel
theorem dX7_behind_32 : decode cX7_behind 32 = .ok (.ldc 68, 2) := by decide +kernel
theorem dX7_behind_34 : decode cX7_behind 34 = .ok (.ireturn, 1) := by decide +kernel
theorem dX7_behind_35 : decode cX7_behind 35 = .ok (.iload_n 2, 1) := by decide +kernel
theorem dX7_behind_36 : decode cX7_behind 36 = .ok (.iconst 2, 1) := by decide +kernel
theorem dX7_behind_37 : decode cX7_behind 37 = .ok (.if_icmp .ne 16, 3) := by decide +kernel
theorem dX7_behind_40 : decode cX7_behind 40 = .ok (.aload_n 0, 1) := by decide +kernel
theorem dX7_behind_41 : decode cX7_behind 41 = .ok (.getfield 10, 3) := by decide +kernel
theorem dX7_behind_44 : decode cX7_behind 44 = .ok (.getfield 69, 3) := by decide +kernel
theorem dX7_behind_47 : decode cX7_behind 47 = .ok (.ifCond .ne 6, 3) := by decide +kernel
theorem dX7_behind_50 : decode cX7_behind 50 = .ok (.ldc 184, 2) := by decide +kernel
theorem dX7_behind_52 : decode cX7_behind 52 = .ok (.ireturn, 1) := by decide +kernel
theorem dX7_behind_53 : decode cX7_behind 53 = .ok (.aload_n 0, 1) := by decide +kernel
theorem dX7_behind_54 : decode cX7_behind 54 = .ok (.getfield 19, 3) := by decide +kernel
theorem dX7_behind_57 : decode cX7_behind 57 = .ok (.aload_n 0, 1) := by decide +kernel
theorem dX7_behind_58 : decode cX7_behind 58 = .ok (.getfield 10, 3) := by decide +kernel
theorem dX7_behind_61 : decode cX7_behind 61 = .ok (.invokevirtual 241, 3) := by decide +kernel
theorem dX7_behind_64 : decode cX7_behind 64 = .ok (.aload_n 0, 1) := by decide +kernel
theorem dX7_behind_65 : decode cX7_behind 65 = .ok (.getfield 19, 3) := by decide +kernel
theorem dX7_behind_68 : decode cX7_behind 68 = .ok (.iload_n 1, 1) := by decide +kernel
theorem dX7_behind_69 : decode cX7_behind 69 = .ok (.invokevirtual 180, 3) := by decide +kernel
theorem dX7_behind_72 : decode cX7_behind 72 = .ok (.iload_n 2, 1) := by decide +kernel
theorem dX7_behind_73 : decode cX7_behind 73 = .ok (.tableswitch 55 0 2 #[27, 37, 47], 27) := by decide +kernel
theorem dX7_behind_100 : decode cX7_behind 100 = .ok (.aload_n 0, 1) := by decide +kernel
theorem dX7_behind_101 : decode cX7_behind 101 = .ok (.getfield 19, 3) := by decide +kernel
theorem dX7_behind_104 : decode cX7_behind 104 = .ok (.getfield 174, 3) := by decide +kernel
theorem dX7_behind_107 : decode cX7_behind 107 = .ok (.iconst 5, 1) := by decide +kernel
theorem dX7_behind_108 : decode cX7_behind 108 = .ok (.iaload, 1) := by decide +kernel
theorem dX7_behind_109 : decode cX7_behind 109 = .ok (.ireturn, 1) := by decide +kernel
theorem dX7_behind_110 : decode cX7_behind 110 = .ok (.aload_n 0, 1) := by decide +kernel
theorem dX7_behind_111 : decode cX7_behind 111 = .ok (.getfield 19, 3) := by decide +kernel
theorem dX7_behind_114 : decode cX7_behind 114 = .ok (.getfield 174, 3) := by decide +kernel
theorem dX7_behind_117 : decode cX7_behind 117 = .ok (.iconst 4, 1) := by decide +kernel
theorem dX7_behind_118 : decode cX7_behind 118 = .ok (.iaload, 1) := by decide +kernel
theorem dX7_behind_119 : decode cX7_behind 119 = .ok (.ireturn, 1) := by decide +kernel
theorem dX7_behind_120 : decode cX7_behind 120 = .ok (.aload_n 0, 1) := by decide +kernel
theorem dX7_behind_121 : decode cX7_behind 121 = .ok (.getfield 19, 3) := by decide +kernel
theorem dX7_behind_124 : decode cX7_behind 124 = .ok (.invokevirtual 185, 3) := by decide +kernel
theorem dX7_behind_127 : decode cX7_behind 127 = .ok (.ireturn, 1) := by decide +kernel
theorem dX7_behind_128 : decode cX7_behind 128 = .ok (.aload_n 0, 1) := by decide +kernel
theorem dX7_behind_129 : decode cX7_behind 129 = .ok (.getfield 19, 3) := by decide +kernel
theorem dX7_behind_132 : decode cX7_behind 132 = .ok (.getfield 93, 3) := by decide +kernel
theorem dX7_behind_135 : decode cX7_behind 135 = .ok (.iload_n 2, 1) := by decide +kernel
theorem dX7_behind_136 : decode cX7_behind 136 = .ok (.iconst 3, 1) := by decide +kernel
theorem dX7_behind_137 : decode cX7_behind 137 = .ok (.isub, 1) := by decide +kernel
theorem dX7_behind_138 : decode cX7_behind 138 = .ok (.iaload, 1) := by decide +kernel
theorem dX7_behind_139 : decode cX7_behind 139 = .ok (.ireturn, 1) := by decide +kernel
theorem dX7_when_0 : decode cX7_when 0 = .ok (.aload_n 0, 1) := by decide +kernel
theorem dX7_when_1 : decode cX7_when 1 = .ok (.getfield 19, 3) := by decide +kernel
theorem dX7_when_4 : decode cX7_when 4 = .ok (.aload_n 0, 1) := by decide +kernel
theorem dX7_when_5 : decode cX7_when 5 = .ok (.getfield 10, 3) := by decide +kernel
theorem dX7_when_8 : decode cX7_when 8 = .ok (.invokevirtual 241, 3) := by decide +kernel
theorem dX7_when_11 : decode cX7_when 11 = .ok (.iconst 0, 1) := by decide +kernel
theorem dX7_when_12 : decode cX7_when 12 = .ok (.istore_n 1, 1) := by decide +kernel
theorem dX7_when_13 : decode cX7_when 13 = .ok (.iload_n 1, 1) := by decide +kernel
theorem dX7_when_14 : decode cX7_when 14 = .ok (.bipush 100, 2) := by decide +kernel
theorem dX7_when_16 : decode cX7_when 16 = .ok (.if_icmp .gt 28, 3) := by decide +kernel
theorem dX7_when_19 : decode cX7_when 19 = .ok (.aload_n 0, 1) := by decide +kernel
theorem dX7_when_20 : decode cX7_when 20 = .ok (.getfield 19, 3) := by decide +kernel
theorem dX7_when_23 : decode cX7_when 23 = .ok (.invokevirtual 189, 3) := by decide +kernel
theorem dX7_when_26 : decode cX7_when 26 = .ok (.ifCond .eq 5, 3) := by decide +kernel
theorem dX7_when_29 : decode cX7_when 29 = .ok (.iload_n 1, 1) := by decide +kernel
theorem dX7_when_30 : decode cX7_when 30 = .ok (.ireturn, 1) := by decide +kernel
theorem dX7_when_31 : decode cX7_when 31 = .ok (.aload_n 0, 1) := by decide +kernel
theorem dX7_when_32 : decode cX7_when 32 = .ok (.getfield 19, 3) := by decide +kernel
theorem dX7_when_35 : decode cX7_when 35 = .ok (.invokevirtual 244, 3) := by decide +kernel
theorem dX7_when_38 : decode cX7_when 38 = .ok (.iinc 1 1, 3) := by decide +kernel
theorem dX7_when_41 : decode cX7_when 41 = .ok (.goto (-28), 3) := by decide +kernel
theorem dX7_when_44 : decode cX7_when 44 = .ok (.ldc 184, 2) := by decide +kernel
theorem dX7_when_46 : decode cX7_when 46 = .ok (.ireturn, 1) := by decide +kernel
theorem dX7_slipped_0 : decode cX7_slipped 0 = .ok (.iload_n 1, 1) := by decide +kernel
theorem dX7_slipped_1 : decode cX7_slipped 1 = .ok (.iconst 1, 1) := by decide +kernel
theorem dX7_slipped_2 : decode cX7_slipped 2 = .ok (.bipush 30, 2) := by decide +kernel
theorem dX7_slipped_4 : decode cX7_slipped 4 = .ok (.invokestatic 61, 3) := by decide +kernel
theorem dX7_slipped_7 : decode cX7_slipped 7 = .ok (.ifCond .eq 12, 3) := by decide +kernel
theorem dX7_slipped_10 : decode cX7_slipped 10 = .ok (.iload_n 2, 1) := by decide +kernel
theorem dX7_slipped_11 : decode cX7_slipped 11 = .ok (.iconst 0, 1) := by decide +kernel
theorem dX7_slipped_12 : decode cX7_slipped 12 = .ok (.iconst 1, 1) := by decide +kernel
theorem dX7_slipped_13 : decode cX7_slipped 13 = .ok (.invokestatic 61, 3) := by decide +kernel
theorem dX7_slipped_16 : decode cX7_slipped 16 = .ok (.ifCond .ne 6, 3) := by decide +kernel
theorem dX7_slipped_19 : decode cX7_slipped 19 = .ok (.ldc 68, 2) := by decide +kernel
theorem dX7_slipped_21 : decode cX7_slipped 21 = .ok (.ireturn, 1) := by decide +kernel
theorem dX7_slipped_22 : decode cX7_slipped 22 = .ok (.aload_n 0, 1) := by decide +kernel
theorem dX7_slipped_23 : decode cX7_slipped 23 = .ok (.getfield 10, 3) := by decide +kernel
theorem dX7_slipped_26 : decode cX7_slipped 26 = .ok (.invokevirtual 164, 3) := by decide +kernel
theorem dX7_slipped_29 : decode cX7_slipped 29 = .ok (.ifCond .ne 6, 3) := by decide +kernel
theorem dX7_slipped_32 : decode cX7_slipped 32 = .ok (.ldc 160, 2) := by decide +kernel
theorem dX7_slipped_34 : decode cX7_slipped 34 = .ok (.ireturn, 1) := by decide +kernel
theorem dX7_slipped_35 : decode cX7_slipped 35 = .ok (.iconst 0, 1) := by decide +kernel
theorem dX7_slipped_36 : decode cX7_slipped 36 = .ok (.istore_n 3, 1) := by decide +kernel
theorem dX7_slipped_37 : decode cX7_slipped 37 = .ok (.iconst (-1), 1) := by decide +kernel
theorem dX7_slipped_38 : decode cX7_slipped 38 = .ok (.istore 4, 2) := by decide +kernel
theorem dX7_slipped_40 : decode cX7_slipped 40 = .ok (.iconst 0, 1) := by decide +kernel
theorem dX7_slipped_41 : decode cX7_slipped 41 = .ok (.istore 5, 2) := by decide +kernel
theorem dX7_slipped_43 : decode cX7_slipped 43 = .ok (.iload 5, 2) := by decide +kernel
theorem dX7_slipped_45 : decode cX7_slipped 45 = .ok (.bipush 49, 2) := by decide +kernel
theorem dX7_slipped_47 : decode cX7_slipped 47 = .ok (.if_icmp .gt 32, 3) := by decide +kernel
theorem dX7_slipped_50 : decode cX7_slipped 50 = .ok (.aload_n 0, 1) := by decide +kernel
theorem dX7_slipped_51 : decode cX7_slipped 51 = .ok (.iload_n 1, 1) := by decide +kernel
theorem dX7_slipped_52 : decode cX7_slipped 52 = .ok (.iload 5, 2) := by decide +kernel
theorem dX7_slipped_54 : decode cX7_slipped 54 = .ok (.invokevirtual 247, 3) := by decide +kernel
theorem dX7_slipped_57 : decode cX7_slipped 57 = .ok (.istore 6, 2) := by decide +kernel
theorem dX7_slipped_59 : decode cX7_slipped 59 = .ok (.iload 6, 2) := by decide +kernel
theorem dX7_slipped_61 : decode cX7_slipped 61 = .ok (.iload 4, 2) := by decide +kernel
theorem dX7_slipped_63 : decode cX7_slipped 63 = .ok (.if_icmp .le 10, 3) := by decide +kernel
theorem dX7_slipped_66 : decode cX7_slipped 66 = .ok (.iload 5, 2) := by decide +kernel
theorem dX7_slipped_68 : decode cX7_slipped 68 = .ok (.istore_n 3, 1) := by decide +kernel
theorem dX7_slipped_69 : decode cX7_slipped 69 = .ok (.iload 6, 2) := by decide +kernel
theorem dX7_slipped_71 : decode cX7_slipped 71 = .ok (.istore 4, 2) := by decide +kernel
theorem dX7_slipped_73 : decode cX7_slipped 73 = .ok (.iinc 5 1, 3) := by decide +kernel
theorem dX7_slipped_76 : decode cX7_slipped 76 = .ok (.goto (-33), 3) := by decide +kernel
theorem dX7_slipped_79 : decode cX7_slipped 79 = .ok (.iload_n 2, 1) := by decide +kernel
theorem dX7_slipped_80 : decode cX7_slipped 80 = .ok (.ifCond .ne 7, 3) := by decide +kernel
theorem dX7_slipped_83 : decode cX7_slipped 83 = .ok (.iload_n 3, 1) := by decide +kernel
theorem dX7_slipped_84 : decode cX7_slipped 84 = .ok (.goto 5, 3) := by decide +kernel
theorem dX7_slipped_87 : decode cX7_slipped 87 = .ok (.iload 4, 2) := by decide +kernel
theorem dX7_slipped_89 : decode cX7_slipped 89 = .ok (.ireturn, 1) := by decide +kernel
theorem dX7_fee_0 : decode cX7_fee 0 = .ok (.aload_n 0, 1) := by decide +kernel
theorem dX7_fee_1 : decode cX7_fee 1 = .ok (.getfield 10, 3) := by decide +kernel
theorem dX7_fee_4 : decode cX7_fee 4 = .ok (.aload_n 0, 1) := by decide +kernel
theorem dX7_fee_5 : decode cX7_fee 5 = .ok (.getfield 10, 3) := by decide +kernel
theorem dX7_fee_8 : decode cX7_fee 8 = .ok (.getfield 174, 3) := by decide +kernel
theorem dX7_fee_11 : decode cX7_fee 11 = .ok (.iconst 0, 1) := by decide +kernel
theorem dX7_fee_12 : decode cX7_fee 12 = .ok (.iaload, 1) := by decide +kernel
theorem dX7_fee_13 : decode cX7_fee 13 = .ok (.iconst 1, 1) := by decide +kernel
theorem dX7_fee_14 : decode cX7_fee 14 = .ok (.aload_n 0, 1) := by decide +kernel
theorem dX7_fee_15 : decode cX7_fee 15 = .ok (.getfield 10, 3) := by decide +kernel
theorem dX7_fee_18 : decode cX7_fee 18 = .ok (.getfield 174, 3) := by decide +kernel
theorem dX7_fee_21 : decode cX7_fee 21 = .ok (.iconst 0, 1) := by decide +kernel
theorem dX7_fee_22 : decode cX7_fee 22 = .ok (.iaload, 1) := by decide +kernel
theorem dX7_fee_23 : decode cX7_fee 23 = .ok (.aload_n 0, 1) := by decide +kernel
theorem dX7_fee_24 : decode cX7_fee 24 = .ok (.getfield 10, 3) := by decide +kernel
theorem dX7_fee_27 : decode cX7_fee 27 = .ok (.getfield 174, 3) := by decide +kernel
theorem dX7_fee_30 : decode cX7_fee 30 = .ok (.iconst 3, 1) := by decide +kernel
theorem dX7_fee_31 : decode cX7_fee 31 = .ok (.iaload, 1) := by decide +kernel
theorem dX7_fee_32 : decode cX7_fee 32 = .ok (.iconst 0, 1) := by decide +kernel
theorem dX7_fee_33 : decode cX7_fee 33 = .ok (.invokevirtual 250, 3) := by decide +kernel
theorem dX7_fee_36 : decode cX7_fee 36 = .ok (.ireturn, 1) := by decide +kernel
theorem dX7_fine_0 : decode cX7_fine 0 = .ok (.aload_n 0, 1) := by decide +kernel
theorem dX7_fine_1 : decode cX7_fine 1 = .ok (.getfield 10, 3) := by decide +kernel
theorem dX7_fine_4 : decode cX7_fine 4 = .ok (.iload_n 1, 1) := by decide +kernel
theorem dX7_fine_5 : decode cX7_fine 5 = .ok (.invokevirtual 78, 3) := by decide +kernel
theorem dX7_fine_8 : decode cX7_fine 8 = .ok (.ifCond .ne 6, 3) := by decide +kernel
theorem dX7_fine_11 : decode cX7_fine 11 = .ok (.ldc 68, 2) := by decide +kernel
theorem dX7_fine_13 : decode cX7_fine 13 = .ok (.ireturn, 1) := by decide +kernel
theorem dX7_fine_14 : decode cX7_fine 14 = .ok (.aload_n 0, 1) := by decide +kernel
theorem dX7_fine_15 : decode cX7_fine 15 = .ok (.getfield 10, 3) := by decide +kernel
theorem dX7_fine_18 : decode cX7_fine 18 = .ok (.aload_n 0, 1) := by decide +kernel
theorem dX7_fine_19 : decode cX7_fine 19 = .ok (.getfield 10, 3) := by decide +kernel
theorem dX7_fine_22 : decode cX7_fine 22 = .ok (.getfield 93, 3) := by decide +kernel
theorem dX7_fine_25 : decode cX7_fine 25 = .ok (.iload_n 1, 1) := by decide +kernel
theorem dX7_fine_26 : decode cX7_fine 26 = .ok (.iaload, 1) := by decide +kernel
theorem dX7_fine_27 : decode cX7_fine 27 = .ok (.iconst 2, 1) := by decide +kernel
theorem dX7_fine_28 : decode cX7_fine 28 = .ok (.aload_n 0, 1) := by decide +kernel
theorem dX7_fine_29 : decode cX7_fine 29 = .ok (.getfield 10, 3) := by decide +kernel
theorem dX7_fine_32 : decode cX7_fine 32 = .ok (.getfield 93, 3) := by decide +kernel
theorem dX7_fine_35 : decode cX7_fine 35 = .ok (.iload_n 1, 1) := by decide +kernel
theorem dX7_fine_36 : decode cX7_fine 36 = .ok (.iaload, 1) := by decide +kernel
theorem dX7_fine_37 : decode cX7_fine 37 = .ok (.aload_n 0, 1) := by decide +kernel
theorem dX7_fine_38 : decode cX7_fine 38 = .ok (.getfield 10, 3) := by decide +kernel
theorem dX7_fine_41 : decode cX7_fine 41 = .ok (.getfield 90, 3) := by decide +kernel
theorem dX7_fine_44 : decode cX7_fine 44 = .ok (.iload_n 1, 1) := by decide +kernel
theorem dX7_fine_45 : decode cX7_fine 45 = .ok (.iaload, 1) := by decide +kernel
theorem dX7_fine_46 : decode cX7_fine 46 = .ok (.iconst 0, 1) := by decide +kernel
theorem dX7_fine_47 : decode cX7_fine 47 = .ok (.invokevirtual 250, 3) := by decide +kernel
theorem dX7_fine_50 : decode cX7_fine 50 = .ok (.ireturn, 1) := by decide +kernel
theorem dX7_feed_0 : decode cX7_feed 0 = .ok (.aload_n 0, 1) := by decide +kernel
theorem dX7_feed_1 : decode cX7_feed 1 = .ok (.getfield 32, 3) := by decide +kernel
theorem dX7_feed_4 : decode cX7_feed 4 = .ok (.getfield 254, 3) := by decide +kernel
theorem dX7_feed_7 : decode cX7_feed 7 = .ok (.bipush 84, 2) := by decide +kernel
theorem dX7_feed_9 : decode cX7_feed 9 = .ok (.if_icmp .le 6, 3) := by decide +kernel
theorem dX7_feed_12 : decode cX7_feed 12 = .ok (.ldc 73, 2) := by decide +kernel
theorem dX7_feed_14 : decode cX7_feed 14 = .ok (.ireturn, 1) := by decide +kernel
theorem dX7_feed_15 : decode cX7_feed 15 = .ok (.aload_n 0, 1) := by decide +kernel
theorem dX7_feed_16 : decode cX7_feed 16 = .ok (.getfield 32, 3) := by decide +kernel
theorem dX7_feed_19 : decode cX7_feed 19 = .ok (.iload_n 1, 1) := by decide +kernel
theorem dX7_feed_20 : decode cX7_feed 20 = .ok (.invokevirtual 257, 3) := by decide +kernel
theorem dX7_feed_23 : decode cX7_feed 23 = .ok (.aload_n 0, 1) := by decide +kernel
theorem dX7_feed_24 : decode cX7_feed 24 = .ok (.getfield 32, 3) := by decide +kernel
theorem dX7_feed_27 : decode cX7_feed 27 = .ok (.iload_n 2, 1) := by decide +kernel
theorem dX7_feed_28 : decode cX7_feed 28 = .ok (.invokevirtual 257, 3) := by decide +kernel
theorem dX7_feed_31 : decode cX7_feed 31 = .ok (.aload_n 0, 1) := by decide +kernel
theorem dX7_feed_32 : decode cX7_feed 32 = .ok (.getfield 32, 3) := by decide +kernel
theorem dX7_feed_35 : decode cX7_feed 35 = .ok (.iload_n 3, 1) := by decide +kernel
theorem dX7_feed_36 : decode cX7_feed 36 = .ok (.invokevirtual 257, 3) := by decide +kernel
theorem dX7_feed_39 : decode cX7_feed 39 = .ok (.aload_n 0, 1) := by decide +kernel
theorem dX7_feed_40 : decode cX7_feed 40 = .ok (.getfield 32, 3) := by decide +kernel
theorem dX7_feed_43 : decode cX7_feed 43 = .ok (.getfield 254, 3) := by decide +kernel
theorem dX7_feed_46 : decode cX7_feed 46 = .ok (.ireturn, 1) := by decide +kernel
theorem dX7_trim_0 : decode cX7_trim 0 = .ok (.iload_n 1, 1) := by decide +kernel
theorem dX7_trim_1 : decode cX7_trim 1 = .ok (.iconst 0, 1) := by decide +kernel
theorem dX7_trim_2 : decode cX7_trim 2 = .ok (.aload_n 0, 1) := by decide +kernel
theorem dX7_trim_3 : decode cX7_trim 3 = .ok (.getfield 32, 3) := by decide +kernel
theorem dX7_trim_6 : decode cX7_trim 6 = .ok (.getfield 254, 3) := by decide +kernel
theorem dX7_trim_9 : decode cX7_trim 9 = .ok (.invokestatic 61, 3) := by decide +kernel
theorem dX7_trim_12 : decode cX7_trim 12 = .ok (.ifCond .ne 6, 3) := by decide +kernel
theorem dX7_trim_15 : decode cX7_trim 15 = .ok (.ldc 68, 2) := by decide +kernel
theorem dX7_trim_17 : decode cX7_trim 17 = .ok (.ireturn, 1) := by decide +kernel
theorem dX7_trim_18 : decode cX7_trim 18 = .ok (.aload_n 0, 1) := by decide +kernel
theorem dX7_trim_19 : decode cX7_trim 19 = .ok (.getfield 32, 3) := by decide +kernel
theorem dX7_trim_22 : decode cX7_trim 22 = .ok (.iload_n 1, 1) := by decide +kernel
theorem dX7_trim_23 : decode cX7_trim 23 = .ok (.putfield 254, 3) := by decide +kernel
theorem dX7_trim_26 : decode cX7_trim 26 = .ok (.iload_n 1, 1) := by decide +kernel
theorem dX7_trim_27 : decode cX7_trim 27 = .ok (.ireturn, 1) := by decide +kernel
theorem dX7_text_0 : decode cX7_text 0 = .ok (.aload_n 0, 1) := by decide +kernel
theorem dX7_text_1 : decode cX7_text 1 = .ok (.getfield 32, 3) := by decide +kernel
theorem dX7_text_4 : decode cX7_text 4 = .ok (.invokevirtual 260, 3) := by decide +kernel
theorem dX7_text_7 : decode cX7_text 7 = .ok (.istore_n 1, 1) := by decide +kernel
theorem dX7_text_8 : decode cX7_text 8 = .ok (.aload_n 0, 1) := by decide +kernel
theorem dX7_text_9 : decode cX7_text 9 = .ok (.getfield 32, 3) := by decide +kernel
theorem dX7_text_12 : decode cX7_text 12 = .ok (.iconst 0, 1) := by decide +kernel
theorem dX7_text_13 : decode cX7_text 13 = .ok (.putfield 254, 3) := by decide +kernel
theorem dX7_text_16 : decode cX7_text 16 = .ok (.iload_n 1, 1) := by decide +kernel
theorem dX7_text_17 : decode cX7_text 17 = .ok (.ifCond .lt 8, 3) := by decide +kernel
theorem dX7_text_20 : decode cX7_text 20 = .ok (.bipush (-100), 2) := by decide +kernel
theorem dX7_text_22 : decode cX7_text 22 = .ok (.iload_n 1, 1) := by decide +kernel
theorem dX7_text_23 : decode cX7_text 23 = .ok (.isub, 1) := by decide +kernel
theorem dX7_text_24 : decode cX7_text 24 = .ok (.ireturn, 1) := by decide +kernel
theorem dX7_text_25 : decode cX7_text 25 = .ok (.aload_n 0, 1) := by decide +kernel
theorem dX7_text_26 : decode cX7_text 26 = .ok (.getfield 10, 3) := by decide +kernel
theorem dX7_text_29 : decode cX7_text 29 = .ok (.getfield 263, 3) := by decide +kernel
theorem dX7_text_32 : decode cX7_text 32 = .ok (.bipush 14, 2) := by decide +kernel
theorem dX7_text_34 : decode cX7_text 34 = .ok (.if_icmp .lt 6, 3) := by decide +kernel
theorem dX7_text_37 : decode cX7_text 37 = .ok (.ldc 73, 2) := by decide +kernel
theorem dX7_text_39 : decode cX7_text 39 = .ok (.ireturn, 1) := by decide +kernel
theorem dX7_text_40 : decode cX7_text 40 = .ok (.aload_n 0, 1) := by decide +kernel
theorem dX7_text_41 : decode cX7_text 41 = .ok (.getfield 10, 3) := by decide +kernel
theorem dX7_text_44 : decode cX7_text 44 = .ok (.aload_n 0, 1) := by decide +kernel
theorem dX7_text_45 : decode cX7_text 45 = .ok (.getfield 32, 3) := by decide +kernel
theorem dX7_text_48 : decode cX7_text 48 = .ok (.invokevirtual 266, 3) := by decide +kernel
theorem dX7_text_51 : decode cX7_text 51 = .ok (.invokevirtual 270, 3) := by decide +kernel
theorem dX7_text_54 : decode cX7_text 54 = .ok (.aload_n 0, 1) := by decide +kernel
theorem dX7_text_55 : decode cX7_text 55 = .ok (.getfield 10, 3) := by decide +kernel
theorem dX7_text_58 : decode cX7_text 58 = .ok (.getfield 263, 3) := by decide +kernel
theorem dX7_text_61 : decode cX7_text 61 = .ok (.iconst 1, 1) := by decide +kernel
theorem dX7_text_62 : decode cX7_text 62 = .ok (.isub, 1) := by decide +kernel
theorem dX7_text_63 : decode cX7_text 63 = .ok (.ireturn, 1) := by decide +kernel
theorem dX7_textTold_0 : decode cX7_textTold 0 = .ok (.iload_n 1, 1) := by decide +kernel
theorem dX7_textTold_1 : decode cX7_textTold 1 = .ok (.iconst 0, 1) := by decide +kernel
theorem dX7_textTold_2 : decode cX7_textTold 2 = .ok (.aload_n 0, 1) := by decide +kernel
theorem dX7_textTold_3 : decode cX7_textTold 3 = .ok (.getfield 10, 3) := by decide +kernel
theorem dX7_textTold_6 : decode cX7_textTold 6 = .ok (.getfield 263, 3) := by decide +kernel
theorem dX7_textTold_9 : decode cX7_textTold 9 = .ok (.iconst 1, 1) := by decide +kernel
theorem dX7_textTold_10 : decode cX7_textTold 10 = .ok (.isub, 1) := by decide +kernel
theorem dX7_textTold_11 : decode cX7_textTold 11 = .ok (.invokestatic 61, 3) := by decide +kernel
theorem dX7_textTold_14 : decode cX7_textTold 14 = .ok (.ifCond .eq 12, 3) := by decide +kernel
theorem dX7_textTold_17 : decode cX7_textTold 17 = .ok (.iload_n 2, 1) := by decide +kernel
theorem dX7_textTold_18 : decode cX7_textTold 18 = .ok (.iconst 0, 1) := by decide +kernel
theorem dX7_textTold_19 : decode cX7_textTold 19 = .ok (.iconst 1, 1) := by decide +kernel
theorem dX7_textTold_20 : decode cX7_textTold 20 = .ok (.invokestatic 61, 3) := by decide +kernel
theorem dX7_textTold_23 : decode cX7_textTold 23 = .ok (.ifCond .ne 6, 3) := by decide +kernel
theorem dX7_textTold_26 : decode cX7_textTold 26 = .ok (.ldc 68, 2) := by decide +kernel
theorem dX7_textTold_28 : decode cX7_textTold 28 = .ok (.ireturn, 1) := by decide +kernel
theorem dX7_textTold_29 : decode cX7_textTold 29 = .ok (.aload_n 0, 1) := by decide +kernel
theorem dX7_textTold_30 : decode cX7_textTold 30 = .ok (.getfield 10, 3) := by decide +kernel
theorem dX7_textTold_33 : decode cX7_textTold 33 = .ok (.getfield 274, 3) := by decide +kernel
theorem dX7_textTold_36 : decode cX7_textTold 36 = .ok (.iload_n 1, 1) := by decide +kernel
theorem dX7_textTold_37 : decode cX7_textTold 37 = .ok (.aaload, 1) := by decide +kernel
theorem dX7_textTold_38 : decode cX7_textTold 38 = .ok (.astore_n 3, 1) := by decide +kernel
theorem dX7_textTold_39 : decode cX7_textTold 39 = .ok (.aload_n 3, 1) := by decide +kernel
theorem dX7_textTold_40 : decode cX7_textTold 40 = .ok (.ifnonnull 6, 3) := by decide +kernel
theorem dX7_textTold_43 : decode cX7_textTold 43 = .ok (.ldc 68, 2) := by decide +kernel
theorem dX7_textTold_45 : decode cX7_textTold 45 = .ok (.ireturn, 1) := by decide +kernel
theorem dX7_textTold_46 : decode cX7_textTold 46 = .ok (.iload_n 2, 1) := by decide +kernel
theorem dX7_textTold_47 : decode cX7_textTold 47 = .ok (.ifCond .ne 10, 3) := by decide +kernel
theorem dX7_textTold_50 : decode cX7_textTold 50 = .ok (.aload_n 3, 1) := by decide +kernel
theorem dX7_textTold_51 : decode cX7_textTold 51 = .ok (.getfield 278, 3) := by decide +kernel
theorem dX7_textTold_54 : decode cX7_textTold 54 = .ok (.goto 7, 3) := by decide +kernel
theorem dX7_textTold_57 : decode cX7_textTold 57 = .ok (.aload_n 3, 1) := by decide +kernel
theorem dX7_textTold_58 : decode cX7_textTold 58 = .ok (.getfield 283, 3) := by decide +kernel
theorem dX7_textTold_61 : decode cX7_textTold 61 = .ok (.ireturn, 1) := by decide +kernel
theorem dX7_why_0 : decode cX7_why 0 = .ok (.iload_n 1, 1) := by decide +kernel
theorem dX7_why_1 : decode cX7_why 1 = .ok (.iconst 0, 1) := by decide +kernel
theorem dX7_why_2 : decode cX7_why 2 = .ok (.iconst 2, 1) := by decide +kernel
theorem dX7_why_3 : decode cX7_why 3 = .ok (.invokestatic 61, 3) := by decide +kernel
theorem dX7_why_6 : decode cX7_why 6 = .ok (.ifCond .ne 6, 3) := by decide +kernel
theorem dX7_why_9 : decode cX7_why 9 = .ok (.ldc 68, 2) := by decide +kernel
theorem dX7_why_11 : decode cX7_why 11 = .ok (.ireturn, 1) := by decide +kernel
theorem dX7_why_12 : decode cX7_why 12 = .ok (.aload_n 0, 1) := by decide +kernel
theorem dX7_why_13 : decode cX7_why 13 = .ok (.getfield 10, 3) := by decide +kernel
theorem dX7_why_16 : decode cX7_why 16 = .ok (.getfield 286, 3) := by decide +kernel
theorem dX7_why_19 : decode cX7_why 19 = .ok (.iload_n 1, 1) := by decide +kernel
theorem dX7_why_20 : decode cX7_why 20 = .ok (.iaload, 1) := by decide +kernel
theorem dX7_why_21 : decode cX7_why 21 = .ok (.ifCond .ge 8, 3) := by decide +kernel
theorem dX7_why_24 : decode cX7_why 24 = .ok (.ldc 184, 2) := by decide +kernel
theorem dX7_why_26 : decode cX7_why 26 = .ok (.goto 12, 3) := by decide +kernel
theorem dX7_why_29 : decode cX7_why 29 = .ok (.aload_n 0, 1) := by decide +kernel
theorem dX7_why_30 : decode cX7_why 30 = .ok (.getfield 10, 3) := by decide +kernel
theorem dX7_why_33 : decode cX7_why 33 = .ok (.getfield 286, 3) := by decide +kernel
theorem dX7_why_36 : decode cX7_why 36 = .ok (.iload_n 1, 1) := by decide +kernel
theorem dX7_why_37 : decode cX7_why 37 = .ok (.iaload, 1) := by decide +kernel
theorem dX7_why_38 : decode cX7_why 38 = .ok (.ireturn, 1) := by decide +kernel
theorem dX7_sheet_0 : decode cX7_sheet 0 = .ok (.iload_n 1, 1) := by decide +kernel
theorem dX7_sheet_1 : decode cX7_sheet 1 = .ok (.invokestatic 203, 3) := by decide +kernel
theorem dX7_sheet_4 : decode cX7_sheet 4 = .ok (.ifCond .eq 12, 3) := by decide +kernel
theorem dX7_sheet_7 : decode cX7_sheet 7 = .ok (.iload_n 2, 1) := by decide +kernel
theorem dX7_sheet_8 : decode cX7_sheet 8 = .ok (.iconst (-1), 1) := by decide +kernel
theorem dX7_sheet_9 : decode cX7_sheet 9 = .ok (.iconst 1, 1) := by decide +kernel
theorem dX7_sheet_10 : decode cX7_sheet 10 = .ok (.invokestatic 61, 3) := by decide +kernel
theorem dX7_sheet_13 : decode cX7_sheet 13 = .ok (.ifCond .ne 6, 3) := by decide +kernel
theorem dX7_sheet_16 : decode cX7_sheet 16 = .ok (.ldc 68, 2) := by decide +kernel
theorem dX7_sheet_18 : decode cX7_sheet 18 = .ok (.ireturn, 1) := by decide +kernel
theorem dX7_sheet_19 : decode cX7_sheet 19 = .ok (.iload_n 2, 1) := by decide +kernel
theorem dX7_sheet_20 : decode cX7_sheet 20 = .ok (.iconst (-1), 1) := by decide +kernel
theorem dX7_sheet_21 : decode cX7_sheet 21 = .ok (.if_icmp .ne 16, 3) := by decide +kernel
theorem dX7_sheet_24 : decode cX7_sheet 24 = .ok (.aload_n 0, 1) := by decide +kernel
theorem dX7_sheet_25 : decode cX7_sheet 25 = .ok (.getfield 38, 3) := by decide +kernel
theorem dX7_sheet_28 : decode cX7_sheet 28 = .ok (.iload_n 1, 1) := by decide +kernel
theorem dX7_sheet_29 : decode cX7_sheet 29 = .ok (.aaload, 1) := by decide +kernel
theorem dX7_sheet_30 : decode cX7_sheet 30 = .ok (.iload_n 2, 1) := by decide +kernel
theorem dX7_sheet_31 : decode cX7_sheet 31 = .ok (.iconst 0, 1) := by decide +kernel
theorem dX7_sheet_32 : decode cX7_sheet 32 = .ok (.invokevirtual 289, 3) := by decide +kernel
theorem dX7_sheet_35 : decode cX7_sheet 35 = .ok (.iconst 0, 1) := by decide +kernel
theorem dX7_sheet_36 : decode cX7_sheet 36 = .ok (.ireturn, 1) := by decide +kernel
theorem dX7_sheet_37 : decode cX7_sheet 37 = .ok (.iload_n 3, 1) := by decide +kernel
theorem dX7_sheet_38 : decode cX7_sheet 38 = .ok (.bipush 24, 2) := by decide +kernel
theorem dX7_sheet_40 : decode cX7_sheet 40 = .ok (.if_icmp .le 6, 3) := by decide +kernel
theorem dX7_sheet_43 : decode cX7_sheet 43 = .ok (.ldc 68, 2) := by decide +kernel
theorem dX7_sheet_45 : decode cX7_sheet 45 = .ok (.ireturn, 1) := by decide +kernel
theorem dX7_sheet_46 : decode cX7_sheet 46 = .ok (.iload_n 3, 1) := by decide +kernel
theorem dX7_sheet_47 : decode cX7_sheet 47 = .ok (.ifCond .ge 7, 3) := by decide +kernel
theorem dX7_sheet_50 : decode cX7_sheet 50 = .ok (.ldc_w 293, 3) := by decide +kernel
theorem dX7_sheet_53 : decode cX7_sheet 53 = .ok (.ireturn, 1) := by decide +kernel
theorem dX7_sheet_54 : decode cX7_sheet 54 = .ok (.aload_n 0, 1) := by decide +kernel
theorem dX7_sheet_55 : decode cX7_sheet 55 = .ok (.getfield 38, 3) := by decide +kernel
theorem dX7_sheet_58 : decode cX7_sheet 58 = .ok (.iload_n 1, 1) := by decide +kernel
theorem dX7_sheet_59 : decode cX7_sheet 59 = .ok (.aaload, 1) := by decide +kernel
theorem dX7_sheet_60 : decode cX7_sheet 60 = .ok (.iload_n 2, 1) := by decide +kernel
theorem dX7_sheet_61 : decode cX7_sheet 61 = .ok (.iload_n 3, 1) := by decide +kernel
theorem dX7_sheet_62 : decode cX7_sheet 62 = .ok (.invokevirtual 289, 3) := by decide +kernel
theorem dX7_sheet_65 : decode cX7_sheet 65 = .ok (.iload_n 3, 1) := by decide +kernel
theorem dX7_sheet_66 : decode cX7_sheet 66 = .ok (.ireturn, 1) := by decide +kernel
theorem dX7_mark_0 : decode cX7_mark 0 = .ok (.iload_n 1, 1) := by decide +kernel
theorem dX7_mark_1 : decode cX7_mark 1 = .ok (.invokestatic 203, 3) := by decide +kernel
theorem dX7_mark_4 : decode cX7_mark 4 = .ok (.ifCond .ne 6, 3) := by decide +kernel
theorem dX7_mark_7 : decode cX7_mark 7 = .ok (.ldc 68, 2) := by decide +kernel
theorem dX7_mark_9 : decode cX7_mark 9 = .ok (.ireturn, 1) := by decide +kernel
theorem dX7_mark_10 : decode cX7_mark 10 = .ok (.aload_n 0, 1) := by decide +kernel
theorem dX7_mark_11 : decode cX7_mark 11 = .ok (.getfield 38, 3) := by decide +kernel
theorem dX7_mark_14 : decode cX7_mark 14 = .ok (.iload_n 1, 1) := by decide +kernel
theorem dX7_mark_15 : decode cX7_mark 15 = .ok (.aaload, 1) := by decide +kernel
theorem dX7_mark_16 : decode cX7_mark 16 = .ok (.astore 4, 2) := by decide +kernel
theorem dX7_mark_18 : decode cX7_mark 18 = .ok (.aload 4, 2) := by decide +kernel
theorem dX7_mark_20 : decode cX7_mark 20 = .ok (.invokevirtual 234, 3) := by decide +kernel
theorem dX7_mark_23 : decode cX7_mark 23 = .ok (.ifCond .eq 6, 3) := by decide +kernel
theorem dX7_mark_26 : decode cX7_mark 26 = .ok (.ldc 237, 2) := by decide +kernel
theorem dX7_mark_28 : decode cX7_mark 28 = .ok (.ireturn, 1) := by decide +kernel
theorem dX7_mark_29 : decode cX7_mark 29 = .ok (.aload 4, 2) := by decide +kernel
theorem dX7_mark_31 : decode cX7_mark 31 = .ok (.iload_n 2, 1) := by decide +kernel
theorem dX7_mark_32 : decode cX7_mark 32 = .ok (.invokevirtual 294, 3) := by decide +kernel
theorem dX7_mark_35 : decode cX7_mark 35 = .ok (.ifCond .ne 7, 3) := by decide +kernel
theorem dX7_mark_38 : decode cX7_mark 38 = .ok (.ldc_w 297, 3) := by decide +kernel
theorem dX7_mark_41 : decode cX7_mark 41 = .ok (.ireturn, 1) := by decide +kernel
theorem dX7_mark_42 : decode cX7_mark 42 = .ok (.aload 4, 2) := by decide +kernel
theorem dX7_mark_44 : decode cX7_mark 44 = .ok (.getfield 298, 3) := by decide +kernel
theorem dX7_mark_47 : decode cX7_mark 47 = .ok (.ifCond .ne 23, 3) := by decide +kernel
theorem dX7_mark_50 : decode cX7_mark 50 = .ok (.iload_n 3, 1) := by decide +kernel
theorem dX7_mark_51 : decode cX7_mark 51 = .ok (.ldc 184, 2) := by decide +kernel
theorem dX7_mark_53 : decode cX7_mark 53 = .ok (.if_icmp .ne 6, 3) := by decide +kernel
theorem dX7_mark_56 : decode cX7_mark 56 = .ok (.ldc 120, 2) := by decide +kernel
theorem dX7_mark_58 : decode cX7_mark 58 = .ok (.ireturn, 1) := by decide +kernel
theorem dX7_mark_59 : decode cX7_mark 59 = .ok (.aload 4, 2) := by decide +kernel
theorem dX7_mark_61 : decode cX7_mark 61 = .ok (.getfield 301, 3) := by decide +kernel
theorem dX7_mark_64 : decode cX7_mark 64 = .ok (.iload_n 2, 1) := by decide +kernel
theorem dX7_mark_65 : decode cX7_mark 65 = .ok (.iload_n 3, 1) := by decide +kernel
theorem dX7_mark_66 : decode cX7_mark 66 = .ok (.i2s, 1) := by decide +kernel
theorem dX7_mark_67 : decode cX7_mark 67 = .ok (.iastore, 1) := by decide +kernel
theorem dX7_mark_68 : decode cX7_mark 68 = .ok (.iconst 1, 1) := by decide +kernel
theorem dX7_mark_69 : decode cX7_mark 69 = .ok (.ireturn, 1) := by decide +kernel
theorem dX7_mark_70 : decode cX7_mark 70 = .ok (.iload_n 3, 1) := by decide +kernel
theorem dX7_mark_71 : decode cX7_mark 71 = .ok (.ldc 184, 2) := by decide +kernel
theorem dX7_mark_73 : decode cX7_mark 73 = .ok (.if_icmp .eq 18, 3) := by decide +kernel
theorem dX7_mark_76 : decode cX7_mark 76 = .ok (.iload_n 3, 1) := by decide +kernel
theorem dX7_mark_77 : decode cX7_mark 77 = .ok (.ldc_w 304, 3) := by decide +kernel
theorem dX7_mark_80 : decode cX7_mark 80 = .ok (.ldc 216, 2) := by decide +kernel
theorem dX7_mark_82 : decode cX7_mark 82 = .ok (.invokestatic 61, 3) := by decide +kernel
theorem dX7_mark_85 : decode cX7_mark 85 = .ok (.ifCond .ne 6, 3) := by decide +kernel
theorem dX7_mark_88 : decode cX7_mark 88 = .ok (.ldc 68, 2) := by decide +kernel
theorem dX7_mark_90 : decode cX7_mark 90 = .ok (.ireturn, 1) := by decide +kernel
theorem dX7_mark_91 : decode cX7_mark 91 = .ok (.aload 4, 2) := by decide +kernel
theorem dX7_mark_93 : decode cX7_mark 93 = .ok (.getfield 301, 3) := by decide +kernel
theorem dX7_mark_96 : decode cX7_mark 96 = .ok (.iload_n 2, 1) := by decide +kernel
theorem dX7_mark_97 : decode cX7_mark 97 = .ok (.iload_n 3, 1) := by decide +kernel
theorem dX7_mark_98 : decode cX7_mark 98 = .ok (.iastore, 1) := by decide +kernel
theorem dX7_mark_99 : decode cX7_mark 99 = .ok (.iconst 1, 1) := by decide +kernel
theorem dX7_mark_100 : decode cX7_mark 100 = .ok (.ireturn, 1) := by decide +kernel
theorem dX7_pour_0 : decode cX7_pour 0 = .ok (.iload_n 1, 1) := by decide +kernel
theorem dX7_pour_1 : decode cX7_pour 1 = .ok (.invokestatic 203, 3) := by decide +kernel
theorem dX7_pour_4 : decode cX7_pour 4 = .ok (.ifCond .ne 6, 3) := by decide +kernel
theorem dX7_pour_7 : decode cX7_pour 7 = .ok (.ldc 68, 2) := by decide +kernel
theorem dX7_pour_9 : decode cX7_pour 9 = .ok (.ireturn, 1) := by decide +kernel
theorem dX7_pour_10 : decode cX7_pour 10 = .ok (.aload_n 0, 1) := by decide +kernel
theorem dX7_pour_11 : decode cX7_pour 11 = .ok (.getfield 38, 3) := by decide +kernel
theorem dX7_pour_14 : decode cX7_pour 14 = .ok (.iload_n 1, 1) := by decide +kernel
theorem dX7_pour_15 : decode cX7_pour 15 = .ok (.aaload, 1) := by decide +kernel
theorem dX7_pour_16 : decode cX7_pour 16 = .ok (.astore_n 2, 1) := by decide +kernel
theorem dX7_pour_17 : decode cX7_pour 17 = .ok (.aload_n 2, 1) := by decide +kernel
theorem dX7_pour_18 : decode cX7_pour 18 = .ok (.invokevirtual 234, 3) := by decide +kernel
theorem dX7_pour_21 : decode cX7_pour 21 = .ok (.ifCond .eq 6, 3) := by decide +kernel
theorem dX7_pour_24 : decode cX7_pour 24 = .ok (.ldc 237, 2) := by decide +kernel
theorem dX7_pour_26 : decode cX7_pour 26 = .ok (.ireturn, 1) := by decide +kernel
theorem dX7_pour_27 : decode cX7_pour 27 = .ok (.iconst 0, 1) := by decide +kernel
theorem dX7_pour_28 : decode cX7_pour 28 = .ok (.istore_n 3, 1) := by decide +kernel
theorem dX7_pour_29 : decode cX7_pour 29 = .ok (.iconst 0, 1) := by decide +kernel
theorem dX7_pour_30 : decode cX7_pour 30 = .ok (.istore 4, 2) := by decide +kernel
theorem dX7_pour_32 : decode cX7_pour 32 = .ok (.iload 4, 2) := by decide +kernel
theorem dX7_pour_34 : decode cX7_pour 34 = .ok (.aload_n 0, 1) := by decide +kernel
theorem dX7_pour_35 : decode cX7_pour 35 = .ok (.getfield 10, 3) := by decide +kernel
theorem dX7_pour_38 : decode cX7_pour 38 = .ok (.getfield 69, 3) := by decide +kernel
theorem dX7_pour_41 : decode cX7_pour 41 = .ok (.if_icmp .ge 69, 3) := by decide +kernel
theorem dX7_pour_44 : decode cX7_pour 44 = .ok (.iload 4, 2) := by decide +kernel
theorem dX7_pour_46 : decode cX7_pour 46 = .ok (.aload_n 2, 1) := by decide +kernel
theorem dX7_pour_47 : decode cX7_pour 47 = .ok (.getfield 305, 3) := by decide +kernel
theorem dX7_pour_50 : decode cX7_pour 50 = .ok (.if_icmp .ge 60, 3) := by decide +kernel
theorem dX7_pour_53 : decode cX7_pour 53 = .ok (.aload_n 2, 1) := by decide +kernel
theorem dX7_pour_54 : decode cX7_pour 54 = .ok (.iload 4, 2) := by decide +kernel
theorem dX7_pour_56 : decode cX7_pour 56 = .ok (.invokevirtual 308, 3) := by decide +kernel
theorem dX7_pour_59 : decode cX7_pour 59 = .ok (.ifCond .eq 45, 3) := by decide +kernel
theorem dX7_pour_62 : decode cX7_pour 62 = .ok (.aload_n 2, 1) := by decide +kernel
theorem dX7_pour_63 : decode cX7_pour 63 = .ok (.getfield 301, 3) := by decide +kernel
theorem dX7_pour_66 : decode cX7_pour 66 = .ok (.iload 4, 2) := by decide +kernel
theorem dX7_pour_68 : decode cX7_pour 68 = .ok (.iaload, 1) := by decide +kernel
theorem dX7_pour_69 : decode cX7_pour 69 = .ok (.iconst 1, 1) := by decide +kernel
theorem dX7_pour_70 : decode cX7_pour 70 = .ok (.bipush 99, 2) := by decide +kernel
theorem dX7_pour_72 : decode cX7_pour 72 = .ok (.invokestatic 311, 3) := by decide +kernel
theorem dX7_pour_75 : decode cX7_pour 75 = .ok (.istore 5, 2) := by decide +kernel
theorem dX7_pour_77 : decode cX7_pour 77 = .ok (.iload_n 3, 1) := by decide +kernel
theorem dX7_pour_78 : decode cX7_pour 78 = .ok (.aload_n 0, 1) := by decide +kernel
theorem dX7_pour_79 : decode cX7_pour 79 = .ok (.getfield 10, 3) := by decide +kernel
theorem dX7_pour_82 : decode cX7_pour 82 = .ok (.getfield 87, 3) := by decide +kernel
theorem dX7_pour_85 : decode cX7_pour 85 = .ok (.iload 4, 2) := by decide +kernel
theorem dX7_pour_87 : decode cX7_pour 87 = .ok (.iload 5, 2) := by decide +kernel
theorem dX7_pour_89 : decode cX7_pour 89 = .ok (.invokestatic 128, 3) := by decide +kernel
theorem dX7_pour_92 : decode cX7_pour 92 = .ok (.iload 5, 2) := by decide +kernel
theorem dX7_pour_94 : decode cX7_pour 94 = .ok (.if_icmp .ne 7, 3) := by decide +kernel
theorem dX7_pour_97 : decode cX7_pour 97 = .ok (.iconst 0, 1) := by decide +kernel
theorem dX7_pour_98 : decode cX7_pour 98 = .ok (.goto 4, 3) := by decide +kernel
theorem dX7_pour_101 : decode cX7_pour 101 = .ok (.iconst 1, 1) := by decide +kernel
theorem dX7_pour_102 : decode cX7_pour 102 = .ok (.iadd, 1) := by decide +kernel
theorem dX7_pour_103 : decode cX7_pour 103 = .ok (.istore_n 3, 1) := by decide +kernel
theorem dX7_pour_104 : decode cX7_pour 104 = .ok (.iinc 4 1, 3) := by decide +kernel
theorem dX7_pour_107 : decode cX7_pour 107 = .ok (.goto (-75), 3) := by decide +kernel
theorem dX7_pour_110 : decode cX7_pour 110 = .ok (.iload_n 3, 1) := by decide +kernel
theorem dX7_pour_111 : decode cX7_pour 111 = .ok (.ireturn, 1) := by decide +kernel
theorem dX7_reads_0 : decode cX7_reads 0 = .ok (.iload_n 1, 1) := by decide +kernel
theorem dX7_reads_1 : decode cX7_reads 1 = .ok (.invokestatic 203, 3) := by decide +kernel
theorem dX7_reads_4 : decode cX7_reads 4 = .ok (.ifCond .ne 6, 3) := by decide +kernel
theorem dX7_reads_7 : decode cX7_reads 7 = .ok (.ldc 68, 2) := by decide +kernel
theorem dX7_reads_9 : decode cX7_reads 9 = .ok (.ireturn, 1) := by decide +kernel
theorem dX7_reads_10 : decode cX7_reads 10 = .ok (.aload_n 0, 1) := by decide +kernel
theorem dX7_reads_11 : decode cX7_reads 11 = .ok (.getfield 38, 3) := by decide +kernel
theorem dX7_reads_14 : decode cX7_reads 14 = .ok (.iload_n 1, 1) := by decide +kernel
theorem dX7_reads_15 : decode cX7_reads 15 = .ok (.aaload, 1) := by decide +kernel
theorem dX7_reads_16 : decode cX7_reads 16 = .ok (.astore_n 2, 1) := by decide +kernel
theorem dX7_reads_17 : decode cX7_reads 17 = .ok (.aload_n 2, 1) := by decide +kernel
theorem dX7_reads_18 : decode cX7_reads 18 = .ok (.invokevirtual 234, 3) := by decide +kernel
theorem dX7_reads_21 : decode cX7_reads 21 = .ok (.ifCond .eq 6, 3) := by decide +kernel
theorem dX7_reads_24 : decode cX7_reads 24 = .ok (.ldc 237, 2) := by decide +kernel
theorem dX7_reads_26 : decode cX7_reads 26 = .ok (.ireturn, 1) := by decide +kernel
theorem dX7_reads_27 : decode cX7_reads 27 = .ok (.iconst 0, 1) := by decide +kernel
theorem dX7_reads_28 : decode cX7_reads 28 = .ok (.istore_n 3, 1) := by decide +kernel
theorem dX7_reads_29 : decode cX7_reads 29 = .ok (.iload_n 3, 1) := by decide +kernel
theorem dX7_reads_30 : decode cX7_reads 30 = .ok (.aload_n 2, 1) := by decide +kernel
theorem dX7_reads_31 : decode cX7_reads 31 = .ok (.getfield 305, 3) := by decide +kernel
theorem dX7_reads_34 : decode cX7_reads 34 = .ok (.if_icmp .ge 48, 3) := by decide +kernel
theorem dX7_reads_37 : decode cX7_reads 37 = .ok (.aload_n 2, 1) := by decide +kernel
theorem dX7_reads_38 : decode cX7_reads 38 = .ok (.iload_n 3, 1) := by decide +kernel
theorem dX7_reads_39 : decode cX7_reads 39 = .ok (.invokevirtual 308, 3) := by decide +kernel
theorem dX7_reads_42 : decode cX7_reads 42 = .ok (.ifCond .eq 34, 3) := by decide +kernel
theorem dX7_reads_45 : decode cX7_reads 45 = .ok (.aload_n 0, 1) := by decide +kernel
theorem dX7_reads_46 : decode cX7_reads 46 = .ok (.getfield 10, 3) := by decide +kernel
theorem dX7_reads_49 : decode cX7_reads 49 = .ok (.iload_n 3, 1) := by decide +kernel
theorem dX7_reads_50 : decode cX7_reads 50 = .ok (.invokevirtual 78, 3) := by decide +kernel
theorem dX7_reads_53 : decode cX7_reads 53 = .ok (.ifCond .eq 21, 3) := by decide +kernel
theorem dX7_reads_56 : decode cX7_reads 56 = .ok (.aload_n 2, 1) := by decide +kernel
theorem dX7_reads_57 : decode cX7_reads 57 = .ok (.getfield 301, 3) := by decide +kernel
theorem dX7_reads_60 : decode cX7_reads 60 = .ok (.iload_n 3, 1) := by decide +kernel
theorem dX7_reads_61 : decode cX7_reads 61 = .ok (.iaload, 1) := by decide +kernel
theorem dX7_reads_62 : decode cX7_reads 62 = .ok (.aload_n 0, 1) := by decide +kernel
theorem dX7_reads_63 : decode cX7_reads 63 = .ok (.getfield 10, 3) := by decide +kernel
theorem dX7_reads_66 : decode cX7_reads 66 = .ok (.getfield 90, 3) := by decide +kernel
theorem dX7_reads_69 : decode cX7_reads 69 = .ok (.iload_n 3, 1) := by decide +kernel
theorem dX7_reads_70 : decode cX7_reads 70 = .ok (.iaload, 1) := by decide +kernel
theorem dX7_reads_71 : decode cX7_reads 71 = .ok (.if_icmp .eq 5, 3) := by decide +kernel
theorem dX7_reads_74 : decode cX7_reads 74 = .ok (.iload_n 3, 1) := by decide +kernel
theorem dX7_reads_75 : decode cX7_reads 75 = .ok (.ireturn, 1) := by decide +kernel
theorem dX7_reads_76 : decode cX7_reads 76 = .ok (.iinc 3 1, 3) := by decide +kernel
theorem dX7_reads_79 : decode cX7_reads 79 = .ok (.goto (-50), 3) := by decide +kernel
theorem dX7_reads_82 : decode cX7_reads 82 = .ok (.ldc 184, 2) := by decide +kernel
theorem dX7_reads_84 : decode cX7_reads 84 = .ok (.ireturn, 1) := by decide +kernel
theorem dX7_copy_0 : decode cX7_copy 0 = .ok (.iload_n 1, 1) := by decide +kernel
theorem dX7_copy_1 : decode cX7_copy 1 = .ok (.invokestatic 203, 3) := by decide +kernel
theorem dX7_copy_4 : decode cX7_copy 4 = .ok (.ifCond .eq 10, 3) := by decide +kernel
theorem dX7_copy_7 : decode cX7_copy 7 = .ok (.iload_n 3, 1) := by decide +kernel
theorem dX7_copy_8 : decode cX7_copy 8 = .ok (.invokestatic 203, 3) := by decide +kernel
theorem dX7_copy_11 : decode cX7_copy 11 = .ok (.ifCond .ne 6, 3) := by decide +kernel
theorem dX7_copy_14 : decode cX7_copy 14 = .ok (.ldc 68, 2) := by decide +kernel
theorem dX7_copy_16 : decode cX7_copy 16 = .ok (.ireturn, 1) := by decide +kernel
theorem dX7_copy_17 : decode cX7_copy 17 = .ok (.aload_n 0, 1) := by decide +kernel
theorem dX7_copy_18 : decode cX7_copy 18 = .ok (.getfield 38, 3) := by decide +kernel
theorem dX7_copy_21 : decode cX7_copy 21 = .ok (.iload_n 1, 1) := by decide +kernel
theorem dX7_copy_22 : decode cX7_copy 22 = .ok (.aaload, 1) := by decide +kernel
theorem dX7_copy_23 : decode cX7_copy 23 = .ok (.astore 6, 2) := by decide +kernel
theorem dX7_copy_25 : decode cX7_copy 25 = .ok (.aload_n 0, 1) := by decide +kernel
theorem dX7_copy_26 : decode cX7_copy 26 = .ok (.getfield 38, 3) := by decide +kernel
theorem dX7_copy_29 : decode cX7_copy 29 = .ok (.iload_n 3, 1) := by decide +kernel
theorem dX7_copy_30 : decode cX7_copy 30 = .ok (.aaload, 1) := by decide +kernel
theorem dX7_copy_31 : decode cX7_copy 31 = .ok (.astore 7, 2) := by decide +kernel
theorem dX7_copy_33 : decode cX7_copy 33 = .ok (.aload 6, 2) := by decide +kernel
theorem dX7_copy_35 : decode cX7_copy 35 = .ok (.invokevirtual 234, 3) := by decide +kernel
theorem dX7_copy_38 : decode cX7_copy 38 = .ok (.ifCond .ne 11, 3) := by decide +kernel
theorem dX7_copy_41 : decode cX7_copy 41 = .ok (.aload 7, 2) := by decide +kernel
theorem dX7_copy_43 : decode cX7_copy 43 = .ok (.invokevirtual 234, 3) := by decide +kernel
theorem dX7_copy_46 : decode cX7_copy 46 = .ok (.ifCond .eq 6, 3) := by decide +kernel
theorem dX7_copy_49 : decode cX7_copy 49 = .ok (.ldc 237, 2) := by decide +kernel
theorem dX7_copy_51 : decode cX7_copy 51 = .ok (.ireturn, 1) := by decide +kernel
theorem dX7_copy_52 : decode cX7_copy 52 = .ok (.aload 6, 2) := by decide +kernel
theorem dX7_copy_54 : decode cX7_copy 54 = .ok (.getfield 298, 3) := by decide +kernel
theorem dX7_copy_57 : decode cX7_copy 57 = .ok (.aload 7, 2) := by decide +kernel
theorem dX7_copy_59 : decode cX7_copy 59 = .ok (.getfield 298, 3) := by decide +kernel
theorem dX7_copy_62 : decode cX7_copy 62 = .ok (.if_icmp .eq 6, 3) := by decide +kernel
theorem dX7_copy_65 : decode cX7_copy 65 = .ok (.ldc 120, 2) := by decide +kernel
theorem dX7_copy_67 : decode cX7_copy 67 = .ok (.ireturn, 1) := by decide +kernel
theorem dX7_copy_68 : decode cX7_copy 68 = .ok (.aload 6, 2) := by decide +kernel
theorem dX7_copy_70 : decode cX7_copy 70 = .ok (.iload_n 2, 1) := by decide +kernel
theorem dX7_copy_71 : decode cX7_copy 71 = .ok (.iload 5, 2) := by decide +kernel
theorem dX7_copy_73 : decode cX7_copy 73 = .ok (.invokevirtual 314, 3) := by decide +kernel
theorem dX7_copy_76 : decode cX7_copy 76 = .ok (.ifCond .eq 15, 3) := by decide +kernel
theorem dX7_copy_79 : decode cX7_copy 79 = .ok (.aload 7, 2) := by decide +kernel
theorem dX7_copy_81 : decode cX7_copy 81 = .ok (.iload 4, 2) := by decide +kernel
theorem dX7_copy_83 : decode cX7_copy 83 = .ok (.iload 5, 2) := by decide +kernel
theorem dX7_copy_85 : decode cX7_copy 85 = .ok (.invokevirtual 314, 3) := by decide +kernel
theorem dX7_copy_88 : decode cX7_copy 88 = .ok (.ifCond .ne 7, 3) := by decide +kernel
theorem dX7_copy_91 : decode cX7_copy 91 = .ok (.ldc_w 297, 3) := by decide +kernel
theorem dX7_copy_94 : decode cX7_copy 94 = .ok (.ireturn, 1) := by decide +kernel
theorem dX7_copy_95 : decode cX7_copy 95 = .ok (.aload 6, 2) := by decide +kernel
theorem dX7_copy_97 : decode cX7_copy 97 = .ok (.getfield 301, 3) := by decide +kernel
theorem dX7_copy_100 : decode cX7_copy 100 = .ok (.iload_n 2, 1) := by decide +kernel
theorem dX7_copy_101 : decode cX7_copy 101 = .ok (.aload 7, 2) := by decide +kernel
theorem dX7_copy_103 : decode cX7_copy 103 = .ok (.getfield 301, 3) := by decide +kernel
theorem dX7_copy_106 : decode cX7_copy 106 = .ok (.iload 4, 2) := by decide +kernel
theorem dX7_copy_108 : decode cX7_copy 108 = .ok (.iload 5, 2) := by decide +kernel
theorem dX7_copy_110 : decode cX7_copy 110 = .ok (.invokestatic 317, 3) := by decide +kernel
theorem dX7_copy_113 : decode cX7_copy 113 = .ok (.iload 5, 2) := by decide +kernel
theorem dX7_copy_115 : decode cX7_copy 115 = .ok (.ireturn, 1) := by decide +kernel
theorem dX7_lay_0 : decode cX7_lay 0 = .ok (.iload_n 1, 1) := by decide +kernel
theorem dX7_lay_1 : decode cX7_lay 1 = .ok (.invokestatic 323, 3) := by decide +kernel
theorem dX7_lay_4 : decode cX7_lay 4 = .ok (.ifCond .eq 12, 3) := by decide +kernel
theorem dX7_lay_7 : decode cX7_lay 7 = .ok (.iload_n 2, 1) := by decide +kernel
theorem dX7_lay_8 : decode cX7_lay 8 = .ok (.iconst 0, 1) := by decide +kernel
theorem dX7_lay_9 : decode cX7_lay 9 = .ok (.iconst 3, 1) := by decide +kernel
theorem dX7_lay_10 : decode cX7_lay 10 = .ok (.invokestatic 61, 3) := by decide +kernel
theorem dX7_lay_13 : decode cX7_lay 13 = .ok (.ifCond .ne 6, 3) := by decide +kernel
theorem dX7_lay_16 : decode cX7_lay 16 = .ok (.ldc 68, 2) := by decide +kernel
theorem dX7_lay_18 : decode cX7_lay 18 = .ok (.ireturn, 1) := by decide +kernel
theorem dX7_lay_19 : decode cX7_lay 19 = .ok (.iload_n 2, 1) := by decide +kernel
theorem dX7_lay_20 : decode cX7_lay 20 = .ok (.iconst 1, 1) := by decide +kernel
theorem dX7_lay_21 : decode cX7_lay 21 = .ok (.if_icmp .ne 14, 3) := by decide +kernel
theorem dX7_lay_24 : decode cX7_lay 24 = .ok (.aload_n 0, 1) := by decide +kernel
theorem dX7_lay_25 : decode cX7_lay 25 = .ok (.getfield 10, 3) := by decide +kernel
theorem dX7_lay_28 : decode cX7_lay 28 = .ok (.iload_n 3, 1) := by decide +kernel
theorem dX7_lay_29 : decode cX7_lay 29 = .ok (.invokevirtual 78, 3) := by decide +kernel
theorem dX7_lay_32 : decode cX7_lay 32 = .ok (.ifCond .eq 15, 3) := by decide +kernel
theorem dX7_lay_35 : decode cX7_lay 35 = .ok (.iload_n 2, 1) := by decide +kernel
theorem dX7_lay_36 : decode cX7_lay 36 = .ok (.iconst 2, 1) := by decide +kernel
theorem dX7_lay_37 : decode cX7_lay 37 = .ok (.if_icmp .ne 13, 3) := by decide +kernel
theorem dX7_lay_40 : decode cX7_lay 40 = .ok (.iload_n 3, 1) := by decide +kernel
theorem dX7_lay_41 : decode cX7_lay 41 = .ok (.invokestatic 203, 3) := by decide +kernel
theorem dX7_lay_44 : decode cX7_lay 44 = .ok (.ifCond .ne 6, 3) := by decide +kernel
theorem dX7_lay_47 : decode cX7_lay 47 = .ok (.ldc 68, 2) := by decide +kernel
theorem dX7_lay_49 : decode cX7_lay 49 = .ok (.ireturn, 1) := by decide +kernel
theorem dX7_lay_50 : decode cX7_lay 50 = .ok (.iload_n 2, 1) := by decide +kernel
theorem dX7_lay_51 : decode cX7_lay 51 = .ok (.iconst 2, 1) := by decide +kernel
theorem dX7_lay_52 : decode cX7_lay 52 = .ok (.if_icmp .ne 18, 3) := by decide +kernel
theorem dX7_lay_55 : decode cX7_lay 55 = .ok (.aload_n 0, 1) := by decide +kernel
theorem dX7_lay_56 : decode cX7_lay 56 = .ok (.getfield 38, 3) := by decide +kernel
theorem dX7_lay_59 : decode cX7_lay 59 = .ok (.iload_n 3, 1) := by decide +kernel
theorem dX7_lay_60 : decode cX7_lay 60 = .ok (.aaload, 1) := by decide +kernel
theorem dX7_lay_61 : decode cX7_lay 61 = .ok (.invokevirtual 234, 3) := by decide +kernel
theorem dX7_lay_64 : decode cX7_lay 64 = .ok (.ifCond .eq 6, 3) := by decide +kernel
theorem dX7_lay_67 : decode cX7_lay 67 = .ok (.ldc 237, 2) := by decide +kernel
theorem dX7_lay_69 : decode cX7_lay 69 = .ok (.ireturn, 1) := by decide +kernel
theorem dX7_lay_70 : decode cX7_lay 70 = .ok (.aload_n 0, 1) := by decide +kernel
theorem dX7_lay_71 : decode cX7_lay 71 = .ok (.getfield 44, 3) := by decide +kernel
theorem dX7_lay_74 : decode cX7_lay 74 = .ok (.iload_n 1, 1) := by decide +kernel
theorem dX7_lay_75 : decode cX7_lay 75 = .ok (.aaload, 1) := by decide +kernel
theorem dX7_lay_76 : decode cX7_lay 76 = .ok (.astore 4, 2) := by decide +kernel
theorem dX7_lay_78 : decode cX7_lay 78 = .ok (.aload 4, 2) := by decide +kernel
theorem dX7_lay_80 : decode cX7_lay 80 = .ok (.getfield 326, 3) := by decide +kernel
theorem dX7_lay_83 : decode cX7_lay 83 = .ok (.istore 5, 2) := by decide +kernel
theorem dX7_lay_85 : decode cX7_lay 85 = .ok (.aload 4, 2) := by decide +kernel
theorem dX7_lay_87 : decode cX7_lay 87 = .ok (.iload_n 2, 1) := by decide +kernel
theorem dX7_lay_88 : decode cX7_lay 88 = .ok (.putfield 326, 3) := by decide +kernel
theorem dX7_lay_91 : decode cX7_lay 91 = .ok (.iload_n 2, 1) := by decide +kernel
theorem dX7_lay_92 : decode cX7_lay 92 = .ok (.iconst 1, 1) := by decide +kernel
theorem dX7_lay_93 : decode cX7_lay 93 = .ok (.if_icmp .ne 34, 3) := by decide +kernel
theorem dX7_lay_96 : decode cX7_lay 96 = .ok (.aload 4, 2) := by decide +kernel
theorem dX7_lay_98 : decode cX7_lay 98 = .ok (.aload_n 0, 1) := by decide +kernel
theorem dX7_lay_99 : decode cX7_lay 99 = .ok (.getfield 10, 3) := by decide +kernel
theorem dX7_lay_102 : decode cX7_lay 102 = .ok (.getfield 81, 3) := by decide +kernel
theorem dX7_lay_105 : decode cX7_lay 105 = .ok (.iload_n 3, 1) := by decide +kernel
theorem dX7_lay_106 : decode cX7_lay 106 = .ok (.iaload, 1) := by decide +kernel
theorem dX7_lay_107 : decode cX7_lay 107 = .ok (.putfield 329, 3) := by decide +kernel
theorem dX7_lay_110 : decode cX7_lay 110 = .ok (.aload 4, 2) := by decide +kernel
theorem dX7_lay_112 : decode cX7_lay 112 = .ok (.aload_n 0, 1) := by decide +kernel
theorem dX7_lay_113 : decode cX7_lay 113 = .ok (.getfield 10, 3) := by decide +kernel
theorem dX7_lay_116 : decode cX7_lay 116 = .ok (.getfield 90, 3) := by decide +kernel
theorem dX7_lay_119 : decode cX7_lay 119 = .ok (.iload_n 3, 1) := by decide +kernel
theorem dX7_lay_120 : decode cX7_lay 120 = .ok (.iaload, 1) := by decide +kernel
theorem dX7_lay_121 : decode cX7_lay 121 = .ok (.putfield 332, 3) := by decide +kernel
theorem dX7_lay_124 : decode cX7_lay 124 = .ok (.goto 31, 3) := by decide +kernel
theorem dX7_lay_127 : decode cX7_lay 127 = .ok (.iload_n 2, 1) := by decide +kernel
theorem dX7_lay_128 : decode cX7_lay 128 = .ok (.iconst 2, 1) := by decide +kernel
theorem dX7_lay_129 : decode cX7_lay 129 = .ok (.if_icmp .ne 20, 3) := by decide +kernel
theorem dX7_lay_132 : decode cX7_lay 132 = .ok (.aload 4, 2) := by decide +kernel
theorem dX7_lay_134 : decode cX7_lay 134 = .ok (.getfield 334, 3) := by decide +kernel
theorem dX7_lay_137 : decode cX7_lay 137 = .ok (.aload_n 0, 1) := by decide +kernel
theorem dX7_lay_138 : decode cX7_lay 138 = .ok (.getfield 38, 3) := by decide +kernel
theorem dX7_lay_141 : decode cX7_lay 141 = .ok (.iload_n 3, 1) := by decide +kernel
theorem dX7_lay_142 : decode cX7_lay 142 = .ok (.aaload, 1) := by decide +kernel
theorem dX7_lay_143 : decode cX7_lay 143 = .ok (.invokevirtual 338, 3) := by decide +kernel
theorem dX7_lay_146 : decode cX7_lay 146 = .ok (.goto 9, 3) := by decide +kernel
theorem dX7_lay_149 : decode cX7_lay 149 = .ok (.aload 4, 2) := by decide +kernel
theorem dX7_lay_151 : decode cX7_lay 151 = .ok (.iload_n 3, 1) := by decide +kernel
theorem dX7_lay_152 : decode cX7_lay 152 = .ok (.putfield 341, 3) := by decide +kernel
theorem dX7_lay_155 : decode cX7_lay 155 = .ok (.iload 5, 2) := by decide +kernel
theorem dX7_lay_157 : decode cX7_lay 157 = .ok (.ireturn, 1) := by decide +kernel
theorem dX7_ask_0 : decode cX7_ask 0 = .ok (.iload_n 1, 1) := by decide +kernel
theorem dX7_ask_1 : decode cX7_ask 1 = .ok (.invokestatic 323, 3) := by decide +kernel
theorem dX7_ask_4 : decode cX7_ask 4 = .ok (.ifCond .eq 10, 3) := by decide +kernel
theorem dX7_ask_7 : decode cX7_ask 7 = .ok (.iload_n 2, 1) := by decide +kernel
theorem dX7_ask_8 : decode cX7_ask 8 = .ok (.invokestatic 54, 3) := by decide +kernel
theorem dX7_ask_11 : decode cX7_ask 11 = .ok (.ifCond .ne 6, 3) := by decide +kernel
theorem dX7_ask_14 : decode cX7_ask 14 = .ok (.ldc 68, 2) := by decide +kernel
theorem dX7_ask_16 : decode cX7_ask 16 = .ok (.ireturn, 1) := by decide +kernel
theorem dX7_ask_17 : decode cX7_ask 17 = .ok (.aload_n 0, 1) := by decide +kernel
theorem dX7_ask_18 : decode cX7_ask 18 = .ok (.getfield 44, 3) := by decide +kernel
theorem dX7_ask_21 : decode cX7_ask 21 = .ok (.iload_n 1, 1) := by decide +kernel
theorem dX7_ask_22 : decode cX7_ask 22 = .ok (.aaload, 1) := by decide +kernel
theorem dX7_ask_23 : decode cX7_ask 23 = .ok (.astore_n 3, 1) := by decide +kernel
theorem dX7_ask_24 : decode cX7_ask 24 = .ok (.aload_n 3, 1) := by decide +kernel
theorem dX7_ask_25 : decode cX7_ask 25 = .ok (.getfield 326, 3) := by decide +kernel
theorem dX7_ask_28 : decode cX7_ask 28 = .ok (.ifCond .ne 6, 3) := by decide +kernel
theorem dX7_ask_31 : decode cX7_ask 31 = .ok (.ldc 237, 2) := by decide +kernel
theorem dX7_ask_33 : decode cX7_ask 33 = .ok (.ireturn, 1) := by decide +kernel
theorem dX7_ask_34 : decode cX7_ask 34 = .ok (.aload_n 3, 1) := by decide +kernel
theorem dX7_ask_35 : decode cX7_ask 35 = .ok (.getfield 326, 3) := by decide +kernel
theorem dX7_ask_38 : decode cX7_ask 38 = .ok (.iconst 1, 1) := by decide +kernel
theorem dX7_ask_39 : decode cX7_ask 39 = .ok (.if_icmp .ne 14, 3) := by decide +kernel
theorem dX7_ask_42 : decode cX7_ask 42 = .ok (.aload_n 3, 1) := by decide +kernel
theorem dX7_ask_43 : decode cX7_ask 43 = .ok (.getfield 329, 3) := by decide +kernel
theorem dX7_ask_46 : decode cX7_ask 46 = .ok (.iload_n 2, 1) := by decide +kernel
theorem dX7_ask_47 : decode cX7_ask 47 = .ok (.invokestatic 116, 3) := by decide +kernel
theorem dX7_ask_50 : decode cX7_ask 50 = .ok (.ifCond .ne 6, 3) := by decide +kernel
theorem dX7_ask_53 : decode cX7_ask 53 = .ok (.ldc 120, 2) := by decide +kernel
theorem dX7_ask_55 : decode cX7_ask 55 = .ok (.ireturn, 1) := by decide +kernel
theorem dX7_ask_56 : decode cX7_ask 56 = .ok (.aload_n 3, 1) := by decide +kernel
theorem dX7_ask_57 : decode cX7_ask 57 = .ok (.getfield 329, 3) := by decide +kernel
theorem dX7_ask_60 : decode cX7_ask 60 = .ok (.aload_n 3, 1) := by decide +kernel
theorem dX7_ask_61 : decode cX7_ask 61 = .ok (.getfield 332, 3) := by decide +kernel
theorem dX7_ask_64 : decode cX7_ask 64 = .ok (.invokestatic 110, 3) := by decide +kernel
theorem dX7_ask_67 : decode cX7_ask 67 = .ok (.ireturn, 1) := by decide +kernel
theorem dX7_item_0 : decode cX7_item 0 = .ok (.iload_n 1, 1) := by decide +kernel
theorem dX7_item_1 : decode cX7_item 1 = .ok (.invokestatic 323, 3) := by decide +kernel
theorem dX7_item_4 : decode cX7_item 4 = .ok (.ifCond .ne 6, 3) := by decide +kernel
theorem dX7_item_7 : decode cX7_item 7 = .ok (.ldc 68, 2) := by decide +kernel
theorem dX7_item_9 : decode cX7_item 9 = .ok (.ireturn, 1) := by decide +kernel
theorem dX7_item_10 : decode cX7_item 10 = .ok (.aload_n 0, 1) := by decide +kernel
theorem dX7_item_11 : decode cX7_item 11 = .ok (.getfield 44, 3) := by decide +kernel
theorem dX7_item_14 : decode cX7_item 14 = .ok (.iload_n 1, 1) := by decide +kernel
theorem dX7_item_15 : decode cX7_item 15 = .ok (.aaload, 1) := by decide +kernel
theorem dX7_item_16 : decode cX7_item 16 = .ok (.astore_n 3, 1) := by decide +kernel
theorem dX7_item_17 : decode cX7_item 17 = .ok (.aload_n 3, 1) := by decide +kernel
theorem dX7_item_18 : decode cX7_item 18 = .ok (.getfield 326, 3) := by decide +kernel
theorem dX7_item_21 : decode cX7_item 21 = .ok (.ifCond .ne 6, 3) := by decide +kernel
theorem dX7_item_24 : decode cX7_item 24 = .ok (.ldc 237, 2) := by decide +kernel
theorem dX7_item_26 : decode cX7_item 26 = .ok (.ireturn, 1) := by decide +kernel
theorem dX7_item_27 : decode cX7_item 27 = .ok (.aload_n 3, 1) := by decide +kernel
theorem dX7_item_28 : decode cX7_item 28 = .ok (.getfield 326, 3) := by decide +kernel
theorem dX7_item_31 : decode cX7_item 31 = .ok (.iconst 2, 1) := by decide +kernel
theorem dX7_item_32 : decode cX7_item 32 = .ok (.if_icmp .eq 6, 3) := by decide +kernel
theorem dX7_item_35 : decode cX7_item 35 = .ok (.ldc 120, 2) := by decide +kernel
theorem dX7_item_37 : decode cX7_item 37 = .ok (.ireturn, 1) := by decide +kernel
theorem dX7_item_38 : decode cX7_item 38 = .ok (.aload_n 3, 1) := by decide +kernel
theorem dX7_item_39 : decode cX7_item 39 = .ok (.getfield 334, 3) := by decide +kernel
theorem dX7_item_42 : decode cX7_item 42 = .ok (.iload_n 2, 1) := by decide +kernel
theorem dX7_item_43 : decode cX7_item 43 = .ok (.invokevirtual 294, 3) := by decide +kernel
theorem dX7_item_46 : decode cX7_item 46 = .ok (.ifCond .ne 7, 3) := by decide +kernel
theorem dX7_item_49 : decode cX7_item 49 = .ok (.ldc_w 297, 3) := by decide +kernel
theorem dX7_item_52 : decode cX7_item 52 = .ok (.ireturn, 1) := by decide +kernel
theorem dX7_item_53 : decode cX7_item 53 = .ok (.aload_n 3, 1) := by decide +kernel
theorem dX7_item_54 : decode cX7_item 54 = .ok (.getfield 334, 3) := by decide +kernel
theorem dX7_item_57 : decode cX7_item 57 = .ok (.iload_n 2, 1) := by decide +kernel
theorem dX7_item_58 : decode cX7_item 58 = .ok (.invokevirtual 308, 3) := by decide +kernel
theorem dX7_item_61 : decode cX7_item 61 = .ok (.ifCond .eq 15, 3) := by decide +kernel
theorem dX7_item_64 : decode cX7_item 64 = .ok (.aload_n 3, 1) := by decide +kernel
theorem dX7_item_65 : decode cX7_item 65 = .ok (.getfield 334, 3) := by decide +kernel
theorem dX7_item_68 : decode cX7_item 68 = .ok (.getfield 301, 3) := by decide +kernel
theorem dX7_item_71 : decode cX7_item 71 = .ok (.iload_n 2, 1) := by decide +kernel
theorem dX7_item_72 : decode cX7_item 72 = .ok (.iaload, 1) := by decide +kernel
theorem dX7_item_73 : decode cX7_item 73 = .ok (.goto 5, 3) := by decide +kernel
theorem dX7_item_76 : decode cX7_item 76 = .ok (.ldc 120, 2) := by decide +kernel
theorem dX7_item_78 : decode cX7_item 78 = .ok (.ireturn, 1) := by decide +kernel
theorem dX7_rest_0 : decode cX7_rest 0 = .ok (.iload_n 1, 1) := by decide +kernel
theorem dX7_rest_1 : decode cX7_rest 1 = .ok (.invokestatic 323, 3) := by decide +kernel
theorem dX7_rest_4 : decode cX7_rest 4 = .ok (.ifCond .ne 6, 3) := by decide +kernel
theorem dX7_rest_7 : decode cX7_rest 7 = .ok (.ldc 68, 2) := by decide +kernel
theorem dX7_rest_9 : decode cX7_rest 9 = .ok (.ireturn, 1) := by decide +kernel
theorem dX7_rest_10 : decode cX7_rest 10 = .ok (.aload_n 0, 1) := by decide +kernel
theorem dX7_rest_11 : decode cX7_rest 11 = .ok (.getfield 44, 3) := by decide +kernel
theorem dX7_rest_14 : decode cX7_rest 14 = .ok (.iload_n 1, 1) := by decide +kernel
theorem dX7_rest_15 : decode cX7_rest 15 = .ok (.aaload, 1) := by decide +kernel
theorem dX7_rest_16 : decode cX7_rest 16 = .ok (.astore_n 3, 1) := by decide +kernel
theorem dX7_rest_17 : decode cX7_rest 17 = .ok (.aload_n 3, 1) := by decide +kernel
theorem dX7_rest_18 : decode cX7_rest 18 = .ok (.getfield 326, 3) := by decide +kernel
theorem dX7_rest_21 : decode cX7_rest 21 = .ok (.ifCond .ne 6, 3) := by decide +kernel
theorem dX7_rest_24 : decode cX7_rest 24 = .ok (.ldc 237, 2) := by decide +kernel
theorem dX7_rest_26 : decode cX7_rest 26 = .ok (.ireturn, 1) := by decide +kernel
theorem dX7_rest_27 : decode cX7_rest 27 = .ok (.aload_n 3, 1) := by decide +kernel
theorem dX7_rest_28 : decode cX7_rest 28 = .ok (.getfield 326, 3) := by decide +kernel
theorem dX7_rest_31 : decode cX7_rest 31 = .ok (.iconst 3, 1) := by decide +kernel
theorem dX7_rest_32 : decode cX7_rest 32 = .ok (.if_icmp .eq 6, 3) := by decide +kernel
theorem dX7_rest_35 : decode cX7_rest 35 = .ok (.ldc 120, 2) := by decide +kernel
theorem dX7_rest_37 : decode cX7_rest 37 = .ok (.ireturn, 1) := by decide +kernel
theorem dX7_rest_38 : decode cX7_rest 38 = .ok (.iload_n 2, 1) := by decide +kernel
theorem dX7_rest_39 : decode cX7_rest 39 = .ok (.ifCond .ne 8, 3) := by decide +kernel
theorem dX7_rest_42 : decode cX7_rest 42 = .ok (.ldc 160, 2) := by decide +kernel
theorem dX7_rest_44 : decode cX7_rest 44 = .ok (.goto 9, 3) := by decide +kernel
theorem dX7_rest_47 : decode cX7_rest 47 = .ok (.aload_n 3, 1) := by decide +kernel
theorem dX7_rest_48 : decode cX7_rest 48 = .ok (.getfield 341, 3) := by decide +kernel
theorem dX7_rest_51 : decode cX7_rest 51 = .ok (.iload_n 2, 1) := by decide +kernel
theorem dX7_rest_52 : decode cX7_rest 52 = .ok (.irem, 1) := by decide +kernel
theorem dX7_rest_53 : decode cX7_rest 53 = .ok (.ireturn, 1) := by decide +kernel
theorem dX7_tell_0 : decode cX7_tell 0 = .ok (.aload_n 0, 1) := by decide +kernel
theorem dX7_tell_1 : decode cX7_tell 1 = .ok (.getfield 344, 3) := by decide +kernel
theorem dX7_tell_4 : decode cX7_tell 4 = .ok (.bipush 60, 2) := by decide +kernel
theorem dX7_tell_6 : decode cX7_tell 6 = .ok (.if_icmp .lt 6, 3) := by decide +kernel
theorem dX7_tell_9 : decode cX7_tell 9 = .ok (.ldc 73, 2) := by decide +kernel
theorem dX7_tell_11 : decode cX7_tell 11 = .ok (.ireturn, 1) := by decide +kernel
theorem dX7_tell_12 : decode cX7_tell 12 = .ok (.aload_n 0, 1) := by decide +kernel
theorem dX7_tell_13 : decode cX7_tell 13 = .ok (.getfield 48, 3) := by decide +kernel
theorem dX7_tell_16 : decode cX7_tell 16 = .ok (.aload_n 0, 1) := by decide +kernel
theorem dX7_tell_17 : decode cX7_tell 17 = .ok (.getfield 344, 3) := by decide +kernel
theorem dX7_tell_20 : decode cX7_tell 20 = .ok (.iload_n 1, 1) := by decide +kernel
theorem dX7_tell_21 : decode cX7_tell 21 = .ok (.iastore, 1) := by decide +kernel
theorem dX7_tell_22 : decode cX7_tell 22 = .ok (.aload_n 0, 1) := by decide +kernel
theorem dX7_tell_23 : decode cX7_tell 23 = .ok (.dup, 1) := by decide +kernel
theorem dX7_tell_24 : decode cX7_tell 24 = .ok (.getfield 344, 3) := by decide +kernel
theorem dX7_tell_27 : decode cX7_tell 27 = .ok (.iconst 1, 1) := by decide +kernel
theorem dX7_tell_28 : decode cX7_tell 28 = .ok (.iadd, 1) := by decide +kernel
theorem dX7_tell_29 : decode cX7_tell 29 = .ok (.putfield 344, 3) := by decide +kernel
theorem dX7_tell_32 : decode cX7_tell 32 = .ok (.aload_n 0, 1) := by decide +kernel
theorem dX7_tell_33 : decode cX7_tell 33 = .ok (.getfield 344, 3) := by decide +kernel
theorem dX7_tell_36 : decode cX7_tell 36 = .ok (.ireturn, 1) := by decide +kernel
theorem dX7_check_0 : decode cX7_check 0 = .ok (.aload_n 0, 1) := by decide +kernel
theorem dX7_check_1 : decode cX7_check 1 = .ok (.getfield 344, 3) := by decide +kernel
theorem dX7_check_4 : decode cX7_check 4 = .ok (.istore_n 2, 1) := by decide +kernel
theorem dX7_check_5 : decode cX7_check 5 = .ok (.aload_n 0, 1) := by decide +kernel
theorem dX7_check_6 : decode cX7_check 6 = .ok (.iconst 0, 1) := by decide +kernel
theorem dX7_check_7 : decode cX7_check 7 = .ok (.putfield 344, 3) := by decide +kernel
theorem dX7_check_10 : decode cX7_check 10 = .ok (.iload_n 1, 1) := by decide +kernel
theorem dX7_check_11 : decode cX7_check 11 = .ok (.iconst 1, 1) := by decide +kernel
theorem dX7_check_12 : decode cX7_check 12 = .ok (.bipush 30, 2) := by decide +kernel
theorem dX7_check_14 : decode cX7_check 14 = .ok (.invokestatic 61, 3) := by decide +kernel
theorem dX7_check_17 : decode cX7_check 17 = .ok (.ifCond .ne 6, 3) := by decide +kernel
theorem dX7_check_20 : decode cX7_check 20 = .ok (.ldc 68, 2) := by decide +kernel
theorem dX7_check_22 : decode cX7_check 22 = .ok (.ireturn, 1) := by decide +kernel
theorem dX7_check_23 : decode cX7_check 23 = .ok (.aload_n 0, 1) := by decide +kernel
theorem dX7_check_24 : decode cX7_check 24 = .ok (.getfield 347, 3) := by decide +kernel
theorem dX7_check_27 : decode cX7_check 27 = .ok (.ifCond .ne 6, 3) := by decide +kernel
theorem dX7_check_30 : decode cX7_check 30 = .ok (.ldc 160, 2) := by decide +kernel
theorem dX7_check_32 : decode cX7_check 32 = .ok (.ireturn, 1) := by decide +kernel
theorem dX7_check_33 : decode cX7_check 33 = .ok (.aload_n 0, 1) := by decide +kernel
theorem dX7_check_34 : decode cX7_check 34 = .ok (.getfield 19, 3) := by decide +kernel
theorem dX7_check_37 : decode cX7_check 37 = .ok (.aload_n 0, 1) := by decide +kernel
theorem dX7_check_38 : decode cX7_check 38 = .ok (.getfield 16, 3) := by decide +kernel
theorem dX7_check_41 : decode cX7_check 41 = .ok (.invokevirtual 241, 3) := by decide +kernel
theorem dX7_check_44 : decode cX7_check 44 = .ok (.iconst 2, 1) := by decide +kernel
theorem dX7_check_45 : decode cX7_check 45 = .ok (.iload_n 1, 1) := by decide +kernel
theorem dX7_check_46 : decode cX7_check 46 = .ok (.sipush 9999, 3) := by decide +kernel
theorem dX7_check_49 : decode cX7_check 49 = .ok (.aload_n 0, 1) := by decide +kernel
theorem dX7_check_50 : decode cX7_check 50 = .ok (.getfield 16, 3) := by decide +kernel
theorem dX7_check_53 : decode cX7_check 53 = .ok (.getfield 177, 3) := by decide +kernel
theorem dX7_check_56 : decode cX7_check 56 = .ok (.isub, 1) := by decide +kernel
theorem dX7_check_57 : decode cX7_check 57 = .ok (.invokestatic 143, 3) := by decide +kernel
theorem dX7_check_60 : decode cX7_check 60 = .ok (.imul, 1) := by decide +kernel
theorem dX7_check_61 : decode cX7_check 61 = .ok (.istore_n 3, 1) := by decide +kernel
theorem dX7_check_62 : decode cX7_check 62 = .ok (.iconst 0, 1) := by decide +kernel
theorem dX7_check_63 : decode cX7_check 63 = .ok (.istore 4, 2) := by decide +kernel
theorem dX7_check_65 : decode cX7_check 65 = .ok (.iload 4, 2) := by decide +kernel
theorem dX7_check_67 : decode cX7_check 67 = .ok (.iload_n 3, 1) := by decide +kernel
theorem dX7_check_68 : decode cX7_check 68 = .ok (.if_icmp .ge 74, 3) := by decide +kernel
theorem dX7_check_71 : decode cX7_check 71 = .ok (.iload 4, 2) := by decide +kernel
theorem dX7_check_73 : decode cX7_check 73 = .ok (.iconst 2, 1) := by decide +kernel
theorem dX7_check_74 : decode cX7_check 74 = .ok (.irem, 1) := by decide +kernel
theorem dX7_check_75 : decode cX7_check 75 = .ok (.ifCond .ne 10, 3) := by decide +kernel
theorem dX7_check_78 : decode cX7_check 78 = .ok (.aload_n 0, 1) := by decide +kernel
theorem dX7_check_79 : decode cX7_check 79 = .ok (.getfield 19, 3) := by decide +kernel
theorem dX7_check_82 : decode cX7_check 82 = .ok (.invokevirtual 244, 3) := by decide +kernel
theorem dX7_check_85 : decode cX7_check 85 = .ok (.iload 4, 2) := by decide +kernel
theorem dX7_check_87 : decode cX7_check 87 = .ok (.iconst 2, 1) := by decide +kernel
theorem dX7_check_88 : decode cX7_check 88 = .ok (.irem, 1) := by decide +kernel
theorem dX7_check_89 : decode cX7_check 89 = .ok (.ifCond .ne 15, 3) := by decide +kernel
theorem dX7_check_92 : decode cX7_check 92 = .ok (.aload_n 0, 1) := by decide +kernel
theorem dX7_check_93 : decode cX7_check 93 = .ok (.getfield 19, 3) := by decide +kernel
theorem dX7_check_96 : decode cX7_check 96 = .ok (.getfield 174, 3) := by decide +kernel
theorem dX7_check_99 : decode cX7_check 99 = .ok (.iconst 5, 1) := by decide +kernel
theorem dX7_check_100 : decode cX7_check 100 = .ok (.iaload, 1) := by decide +kernel
theorem dX7_check_101 : decode cX7_check 101 = .ok (.goto 10, 3) := by decide +kernel
theorem dX7_check_104 : decode cX7_check 104 = .ok (.aload_n 0, 1) := by decide +kernel
theorem dX7_check_105 : decode cX7_check 105 = .ok (.getfield 19, 3) := by decide +kernel
theorem dX7_check_108 : decode cX7_check 108 = .ok (.invokevirtual 185, 3) := by decide +kernel
theorem dX7_check_111 : decode cX7_check 111 = .ok (.istore 5, 2) := by decide +kernel
theorem dX7_check_113 : decode cX7_check 113 = .ok (.iload 4, 2) := by decide +kernel
theorem dX7_check_115 : decode cX7_check 115 = .ok (.iload_n 2, 1) := by decide +kernel
theorem dX7_check_116 : decode cX7_check 116 = .ok (.if_icmp .ge 15, 3) := by decide +kernel
theorem dX7_check_119 : decode cX7_check 119 = .ok (.aload_n 0, 1) := by decide +kernel
theorem dX7_check_120 : decode cX7_check 120 = .ok (.getfield 48, 3) := by decide +kernel
theorem dX7_check_123 : decode cX7_check 123 = .ok (.iload 4, 2) := by decide +kernel
theorem dX7_check_125 : decode cX7_check 125 = .ok (.iaload, 1) := by decide +kernel
theorem dX7_check_126 : decode cX7_check 126 = .ok (.iload 5, 2) := by decide +kernel
theorem dX7_check_128 : decode cX7_check 128 = .ok (.if_icmp .eq 8, 3) := by decide +kernel
theorem dX7_check_131 : decode cX7_check 131 = .ok (.iconst 1, 1) := by decide +kernel
theorem dX7_check_132 : decode cX7_check 132 = .ok (.iload 4, 2) := by decide +kernel
theorem dX7_check_134 : decode cX7_check 134 = .ok (.iadd, 1) := by decide +kernel
theorem dX7_check_135 : decode cX7_check 135 = .ok (.ireturn, 1) := by decide +kernel
theorem dX7_check_136 : decode cX7_check 136 = .ok (.iinc 4 1, 3) := by decide +kernel
theorem dX7_check_139 : decode cX7_check 139 = .ok (.goto (-74), 3) := by decide +kernel
theorem dX7_check_142 : decode cX7_check 142 = .ok (.iload_n 2, 1) := by decide +kernel
theorem dX7_check_143 : decode cX7_check 143 = .ok (.iload_n 3, 1) := by decide +kernel
theorem dX7_check_144 : decode cX7_check 144 = .ok (.if_icmp .ne 7, 3) := by decide +kernel
theorem dX7_check_147 : decode cX7_check 147 = .ok (.iconst 0, 1) := by decide +kernel
theorem dX7_check_148 : decode cX7_check 148 = .ok (.goto 6, 3) := by decide +kernel
theorem dX7_check_151 : decode cX7_check 151 = .ok (.iconst 1, 1) := by decide +kernel
theorem dX7_check_152 : decode cX7_check 152 = .ok (.iload_n 3, 1) := by decide +kernel
theorem dX7_check_153 : decode cX7_check 153 = .ok (.iadd, 1) := by decide +kernel
theorem dX7_check_154 : decode cX7_check 154 = .ok (.ireturn, 1) := by decide +kernel
theorem dX7_keep_0 : decode cX7_keep 0 = .ok (.aload_n 0, 1) := by decide +kernel
theorem dX7_keep_1 : decode cX7_keep 1 = .ok (.getfield 16, 3) := by decide +kernel
theorem dX7_keep_4 : decode cX7_keep 4 = .ok (.aload_n 0, 1) := by decide +kernel
theorem dX7_keep_5 : decode cX7_keep 5 = .ok (.getfield 10, 3) := by decide +kernel
theorem dX7_keep_8 : decode cX7_keep 8 = .ok (.invokevirtual 241, 3) := by decide +kernel
theorem dX7_keep_11 : decode cX7_keep 11 = .ok (.aload_n 0, 1) := by decide +kernel
theorem dX7_keep_12 : decode cX7_keep 12 = .ok (.iconst 1, 1) := by decide +kernel
theorem dX7_keep_13 : decode cX7_keep 13 = .ok (.putfield 347, 3) := by decide +kernel
theorem dX7_keep_16 : decode cX7_keep 16 = .ok (.aload_n 0, 1) := by decide +kernel
theorem dX7_keep_17 : decode cX7_keep 17 = .ok (.getfield 10, 3) := by decide +kernel
theorem dX7_keep_20 : decode cX7_keep 20 = .ok (.getfield 69, 3) := by decide +kernel
theorem dX7_keep_23 : decode cX7_keep 23 = .ok (.ireturn, 1) := by decide +kernel
theorem dX7_back_0 : decode cX7_back 0 = .ok (.aload_n 0, 1) := by decide +kernel
theorem dX7_back_1 : decode cX7_back 1 = .ok (.getfield 347, 3) := by decide +kernel
theorem dX7_back_4 : decode cX7_back 4 = .ok (.ifCond .ne 6, 3) := by decide +kernel
theorem dX7_back_7 : decode cX7_back 7 = .ok (.ldc 160, 2) := by decide +kernel
theorem dX7_back_9 : decode cX7_back 9 = .ok (.ireturn, 1) := by decide +kernel
theorem dX7_back_10 : decode cX7_back 10 = .ok (.aload_n 0, 1) := by decide +kernel
theorem dX7_back_11 : decode cX7_back 11 = .ok (.getfield 10, 3) := by decide +kernel
theorem dX7_back_14 : decode cX7_back 14 = .ok (.aload_n 0, 1) := by decide +kernel
theorem dX7_back_15 : decode cX7_back 15 = .ok (.getfield 16, 3) := by decide +kernel
theorem dX7_back_18 : decode cX7_back 18 = .ok (.invokevirtual 241, 3) := by decide +kernel
theorem dX7_back_21 : decode cX7_back 21 = .ok (.aload_n 0, 1) := by decide +kernel
theorem dX7_back_22 : decode cX7_back 22 = .ok (.getfield 10, 3) := by decide +kernel
theorem dX7_back_25 : decode cX7_back 25 = .ok (.getfield 69, 3) := by decide +kernel
theorem dX7_back_28 : decode cX7_back 28 = .ok (.ireturn, 1) := by decide +kernel
theorem dX7_count_0 : decode cX7_count 0 = .ok (.iload_n 1, 1) := by decide +kernel
theorem dX7_count_1 : decode cX7_count 1 = .ok (.tableswitch 108 0 7 #[47, 55, 63, 71, 79, 87, 92, 100], 47) := by decide +kernel
theorem dX7_count_48 : decode cX7_count 48 = .ok (.aload_n 0, 1) := by decide +kernel
theorem dX7_count_49 : decode cX7_count 49 = .ok (.getfield 10, 3) := by decide +kernel
theorem dX7_count_52 : decode cX7_count 52 = .ok (.getfield 69, 3) := by decide +kernel
theorem dX7_count_55 : decode cX7_count 55 = .ok (.ireturn, 1) := by decide +kernel
theorem dX7_count_56 : decode cX7_count 56 = .ok (.aload_n 0, 1) := by decide +kernel
theorem dX7_count_57 : decode cX7_count 57 = .ok (.getfield 10, 3) := by decide +kernel
theorem dX7_count_60 : decode cX7_count 60 = .ok (.getfield 177, 3) := by decide +kernel
theorem dX7_count_63 : decode cX7_count 63 = .ok (.ireturn, 1) := by decide +kernel
theorem dX7_count_64 : decode cX7_count 64 = .ok (.aload_n 0, 1) := by decide +kernel
theorem dX7_count_65 : decode cX7_count 65 = .ok (.getfield 10, 3) := by decide +kernel
theorem dX7_count_68 : decode cX7_count 68 = .ok (.getfield 154, 3) := by decide +kernel
theorem dX7_count_71 : decode cX7_count 71 = .ok (.ireturn, 1) := by decide +kernel
theorem dX7_count_72 : decode cX7_count 72 = .ok (.aload_n 0, 1) := by decide +kernel
theorem dX7_count_73 : decode cX7_count 73 = .ok (.getfield 10, 3) := by decide +kernel
theorem dX7_count_76 : decode cX7_count 76 = .ok (.getfield 157, 3) := by decide +kernel
theorem dX7_count_79 : decode cX7_count 79 = .ok (.ireturn, 1) := by decide +kernel
theorem dX7_count_80 : decode cX7_count 80 = .ok (.aload_n 0, 1) := by decide +kernel
theorem dX7_count_81 : decode cX7_count 81 = .ok (.getfield 10, 3) := by decide +kernel
theorem dX7_count_84 : decode cX7_count 84 = .ok (.getfield 263, 3) := by decide +kernel
theorem dX7_count_87 : decode cX7_count 87 = .ok (.ireturn, 1) := by decide +kernel
theorem dX7_count_88 : decode cX7_count 88 = .ok (.aload_n 0, 1) := by decide +kernel
theorem dX7_count_89 : decode cX7_count 89 = .ok (.getfield 344, 3) := by decide +kernel
theorem dX7_count_92 : decode cX7_count 92 = .ok (.ireturn, 1) := by decide +kernel
theorem dX7_count_93 : decode cX7_count 93 = .ok (.aload_n 0, 1) := by decide +kernel
theorem dX7_count_94 : decode cX7_count 94 = .ok (.getfield 32, 3) := by decide +kernel
theorem dX7_count_97 : decode cX7_count 97 = .ok (.getfield 254, 3) := by decide +kernel
theorem dX7_count_100 : decode cX7_count 100 = .ok (.ireturn, 1) := by decide +kernel
theorem dX7_count_101 : decode cX7_count 101 = .ok (.aload_n 0, 1) := by decide +kernel
theorem dX7_count_102 : decode cX7_count 102 = .ok (.getfield 10, 3) := by decide +kernel
theorem dX7_count_105 : decode cX7_count 105 = .ok (.getfield 151, 3) := by decide +kernel
theorem dX7_count_108 : decode cX7_count 108 = .ok (.ireturn, 1) := by decide +kernel
theorem dX7_count_109 : decode cX7_count 109 = .ok (.ldc 68, 2) := by decide +kernel
theorem dX7_count_111 : decode cX7_count 111 = .ok (.ireturn, 1) := by decide +kernel
theorem dX7_within_0 : decode cX7_within 0 = .ok (.iload_n 0, 1) := by decide +kernel
theorem dX7_within_1 : decode cX7_within 1 = .ok (.iload_n 1, 1) := by decide +kernel
theorem dX7_within_2 : decode cX7_within 2 = .ok (.if_icmp .lt 12, 3) := by decide +kernel
theorem dX7_within_5 : decode cX7_within 5 = .ok (.iload_n 0, 1) := by decide +kernel
theorem dX7_within_6 : decode cX7_within 6 = .ok (.iload_n 2, 1) := by decide +kernel
theorem dX7_within_7 : decode cX7_within 7 = .ok (.if_icmp .gt 7, 3) := by decide +kernel
theorem dX7_within_10 : decode cX7_within 10 = .ok (.iconst 1, 1) := by decide +kernel
theorem dX7_within_11 : decode cX7_within 11 = .ok (.goto 4, 3) := by decide +kernel
theorem dX7_within_14 : decode cX7_within 14 = .ok (.iconst 0, 1) := by decide +kernel
theorem dX7_within_15 : decode cX7_within 15 = .ok (.ireturn, 1) := by decide +kernel
theorem dX7_isCell_0 : decode cX7_isCell 0 = .ok (.iload_n 0, 1) := by decide +kernel
theorem dX7_isCell_1 : decode cX7_isCell 1 = .ok (.iconst 0, 1) := by decide +kernel
theorem dX7_isCell_2 : decode cX7_isCell 2 = .ok (.bipush 35, 2) := by decide +kernel
theorem dX7_isCell_4 : decode cX7_isCell 4 = .ok (.invokestatic 61, 3) := by decide +kernel
theorem dX7_isCell_7 : decode cX7_isCell 7 = .ok (.ireturn, 1) := by decide +kernel
theorem dX7_isDepth_0 : decode cX7_isDepth 0 = .ok (.iload_n 0, 1) := by decide +kernel
theorem dX7_isDepth_1 : decode cX7_isDepth 1 = .ok (.iconst 1, 1) := by decide +kernel
theorem dX7_isDepth_2 : decode cX7_isDepth 2 = .ok (.bipush 9, 2) := by decide +kernel
theorem dX7_isDepth_4 : decode cX7_isDepth 4 = .ok (.invokestatic 61, 3) := by decide +kernel
theorem dX7_isDepth_7 : decode cX7_isDepth 7 = .ok (.ireturn, 1) := by decide +kernel
theorem dX7_isKind_0 : decode cX7_isKind 0 = .ok (.iload_n 0, 1) := by decide +kernel
theorem dX7_isKind_1 : decode cX7_isKind 1 = .ok (.iconst 0, 1) := by decide +kernel
theorem dX7_isKind_2 : decode cX7_isKind 2 = .ok (.iconst 5, 1) := by decide +kernel
theorem dX7_isKind_3 : decode cX7_isKind 3 = .ok (.invokestatic 61, 3) := by decide +kernel
theorem dX7_isKind_6 : decode cX7_isKind 6 = .ok (.ireturn, 1) := by decide +kernel
theorem dX7_isSort_0 : decode cX7_isSort 0 = .ok (.iload_n 0, 1) := by decide +kernel
theorem dX7_isSort_1 : decode cX7_isSort 1 = .ok (.iconst 0, 1) := by decide +kernel
theorem dX7_isSort_2 : decode cX7_isSort 2 = .ok (.iconst 3, 1) := by decide +kernel
theorem dX7_isSort_3 : decode cX7_isSort 3 = .ok (.invokestatic 61, 3) := by decide +kernel
theorem dX7_isSort_6 : decode cX7_isSort 6 = .ok (.ireturn, 1) := by decide +kernel
theorem dX7_isSheet_0 : decode cX7_isSheet 0 = .ok (.iload_n 0, 1) := by decide +kernel
theorem dX7_isSheet_1 : decode cX7_isSheet 1 = .ok (.iconst 0, 1) := by decide +kernel
theorem dX7_isSheet_2 : decode cX7_isSheet 2 = .ok (.iconst 3, 1) := by decide +kernel
theorem dX7_isSheet_3 : decode cX7_isSheet 3 = .ok (.invokestatic 61, 3) := by decide +kernel
theorem dX7_isSheet_6 : decode cX7_isSheet 6 = .ok (.ireturn, 1) := by decide +kernel
theorem dX7_isSlot_0 : decode cX7_isSlot 0 = .ok (.iload_n 0, 1) := by decide +kernel
theorem dX7_isSlot_1 : decode cX7_isSlot 1 = .ok (.iconst 0, 1) := by decide +kernel
theorem dX7_isSlot_2 : decode cX7_isSlot 2 = .ok (.iconst 4, 1) := by decide +kernel
theorem dX7_isSlot_3 : decode cX7_isSlot 3 = .ok (.invokestatic 61, 3) := by decide +kernel
theorem dX7_isSlot_6 : decode cX7_isSlot 6 = .ok (.ireturn, 1) := by decide +kernel
theorem dX7_held_0 : decode cX7_held 0 = .ok (.iload_n 1, 1) := by decide +kernel
theorem dX7_held_1 : decode cX7_held 1 = .ok (.iload_n 2, 1) := by decide +kernel
theorem dX7_held_2 : decode cX7_held 2 = .ok (.iload_n 0, 1) := by decide +kernel
theorem dX7_held_3 : decode cX7_held 3 = .ok (.invokestatic 143, 3) := by decide +kernel
theorem dX7_held_6 : decode cX7_held 6 = .ok (.invokestatic 351, 3) := by decide +kernel
theorem dX7_held_9 : decode cX7_held 9 = .ok (.ireturn, 1) := by decide +kernel
theorem dX7_exchange_0 : decode cX7_exchange 0 = .ok (.aload_n 0, 1) := by decide +kernel
theorem dX7_exchange_1 : decode cX7_exchange 1 = .ok (.iload_n 1, 1) := by decide +kernel
theorem dX7_exchange_2 : decode cX7_exchange 2 = .ok (.iaload, 1) := by decide +kernel
theorem dX7_exchange_3 : decode cX7_exchange 3 = .ok (.istore_n 3, 1) := by decide +kernel
theorem dX7_exchange_4 : decode cX7_exchange 4 = .ok (.aload_n 0, 1) := by decide +kernel
theorem dX7_exchange_5 : decode cX7_exchange 5 = .ok (.iload_n 1, 1) := by decide +kernel
theorem dX7_exchange_6 : decode cX7_exchange 6 = .ok (.iload_n 2, 1) := by decide +kernel
theorem dX7_exchange_7 : decode cX7_exchange 7 = .ok (.iastore, 1) := by decide +kernel
theorem dX7_exchange_8 : decode cX7_exchange 8 = .ok (.iload_n 3, 1) := by decide +kernel
theorem dX7_exchange_9 : decode cX7_exchange 9 = .ok (.ireturn, 1) := by decide +kernel
theorem dX7_setCell_0 : decode cX7_setCell 0 = .ok (.iload_n 2, 1) := by decide +kernel
theorem dX7_setCell_1 : decode cX7_setCell 1 = .ok (.invokestatic 58, 3) := by decide +kernel
theorem dX7_setCell_4 : decode cX7_setCell 4 = .ok (.ifCond .ne 6, 3) := by decide +kernel
theorem dX7_setCell_7 : decode cX7_setCell 7 = .ok (.ldc 68, 2) := by decide +kernel
theorem dX7_setCell_9 : decode cX7_setCell 9 = .ok (.ireturn, 1) := by decide +kernel
theorem dX7_setCell_10 : decode cX7_setCell 10 = .ok (.aload_n 0, 1) := by decide +kernel
theorem dX7_setCell_11 : decode cX7_setCell 11 = .ok (.getfield 10, 3) := by decide +kernel
theorem dX7_setCell_14 : decode cX7_setCell 14 = .ok (.getfield 84, 3) := by decide +kernel
theorem dX7_setCell_17 : decode cX7_setCell 17 = .ok (.iload_n 1, 1) := by decide +kernel
theorem dX7_setCell_18 : decode cX7_setCell 18 = .ok (.iaload, 1) := by decide +kernel
theorem dX7_setCell_19 : decode cX7_setCell 19 = .ok (.istore_n 3, 1) := by decide +kernel
theorem dX7_setCell_20 : decode cX7_setCell 20 = .ok (.aload_n 0, 1) := by decide +kernel
theorem dX7_setCell_21 : decode cX7_setCell 21 = .ok (.getfield 10, 3) := by decide +kernel
theorem dX7_setCell_24 : decode cX7_setCell 24 = .ok (.iload_n 1, 1) := by decide +kernel
theorem dX7_setCell_25 : decode cX7_setCell 25 = .ok (.aload_n 0, 1) := by decide +kernel
theorem dX7_setCell_26 : decode cX7_setCell 26 = .ok (.getfield 10, 3) := by decide +kernel
theorem dX7_setCell_29 : decode cX7_setCell 29 = .ok (.getfield 81, 3) := by decide +kernel
theorem dX7_setCell_32 : decode cX7_setCell 32 = .ok (.iload_n 1, 1) := by decide +kernel
theorem dX7_setCell_33 : decode cX7_setCell 33 = .ok (.iaload, 1) := by decide +kernel
theorem dX7_setCell_34 : decode cX7_setCell 34 = .ok (.iload_n 2, 1) := by decide +kernel
theorem dX7_setCell_35 : decode cX7_setCell 35 = .ok (.invokevirtual 121, 3) := by decide +kernel
theorem dX7_setCell_38 : decode cX7_setCell 38 = .ok (.iload_n 3, 1) := by decide +kernel
theorem dX7_setCell_39 : decode cX7_setCell 39 = .ok (.ireturn, 1) := by decide +kernel
theorem dX7_makePlan_0 : decode cX7_makePlan 0 = .ok (.aload_n 0, 1) := by decide +kernel
theorem dX7_makePlan_1 : decode cX7_makePlan 1 = .ok (.getfield 38, 3) := by decide +kernel
theorem dX7_makePlan_4 : decode cX7_makePlan 4 = .ok (.iload_n 1, 1) := by decide +kernel
theorem dX7_makePlan_5 : decode cX7_makePlan 5 = .ok (.aaload, 1) := by decide +kernel
theorem dX7_makePlan_6 : decode cX7_makePlan 6 = .ok (.astore_n 3, 1) := by decide +kernel
theorem dX7_makePlan_7 : decode cX7_makePlan 7 = .ok (.aload_n 3, 1) := by decide +kernel
theorem dX7_makePlan_8 : decode cX7_makePlan 8 = .ok (.invokevirtual 234, 3) := by decide +kernel
theorem dX7_makePlan_11 : decode cX7_makePlan 11 = .ok (.ifCond .eq 6, 3) := by decide +kernel
theorem dX7_makePlan_14 : decode cX7_makePlan 14 = .ok (.ldc 237, 2) := by decide +kernel
theorem dX7_makePlan_16 : decode cX7_makePlan 16 = .ok (.ireturn, 1) := by decide +kernel
theorem dX7_makePlan_17 : decode cX7_makePlan 17 = .ok (.aload_n 0, 1) := by decide +kernel
theorem dX7_makePlan_18 : decode cX7_makePlan 18 = .ok (.getfield 10, 3) := by decide +kernel
theorem dX7_makePlan_21 : decode cX7_makePlan 21 = .ok (.getfield 69, 3) := by decide +kernel
theorem dX7_makePlan_24 : decode cX7_makePlan 24 = .ok (.ifCond .ne 6, 3) := by decide +kernel
theorem dX7_makePlan_27 : decode cX7_makePlan 27 = .ok (.ldc 184, 2) := by decide +kernel
theorem dX7_makePlan_29 : decode cX7_makePlan 29 = .ok (.ireturn, 1) := by decide +kernel
theorem dX7_makePlan_30 : decode cX7_makePlan 30 = .ok (.aload_n 0, 1) := by decide +kernel
theorem dX7_makePlan_31 : decode cX7_makePlan 31 = .ok (.getfield 25, 3) := by decide +kernel
theorem dX7_makePlan_34 : decode cX7_makePlan 34 = .ok (.aload_n 3, 1) := by decide +kernel
theorem dX7_makePlan_35 : decode cX7_makePlan 35 = .ok (.invokevirtual 354, 3) := by decide +kernel
theorem dX7_makePlan_38 : decode cX7_makePlan 38 = .ok (.aload_n 0, 1) := by decide +kernel
theorem dX7_makePlan_39 : decode cX7_makePlan 39 = .ok (.getfield 25, 3) := by decide +kernel
theorem dX7_makePlan_42 : decode cX7_makePlan 42 = .ok (.getfield 357, 3) := by decide +kernel
theorem dX7_makePlan_45 : decode cX7_makePlan 45 = .ok (.ifCond .ne 6, 3) := by decide +kernel
theorem dX7_makePlan_48 : decode cX7_makePlan 48 = .ok (.ldc 184, 2) := by decide +kernel
theorem dX7_makePlan_50 : decode cX7_makePlan 50 = .ok (.ireturn, 1) := by decide +kernel
theorem dX7_makePlan_51 : decode cX7_makePlan 51 = .ok (.aload_n 0, 1) := by decide +kernel
theorem dX7_makePlan_52 : decode cX7_makePlan 52 = .ok (.getfield 25, 3) := by decide +kernel
theorem dX7_makePlan_55 : decode cX7_makePlan 55 = .ok (.aload_n 0, 1) := by decide +kernel
theorem dX7_makePlan_56 : decode cX7_makePlan 56 = .ok (.getfield 10, 3) := by decide +kernel
theorem dX7_makePlan_59 : decode cX7_makePlan 59 = .ok (.iload_n 2, 1) := by decide +kernel
theorem dX7_makePlan_60 : decode cX7_makePlan 60 = .ok (.invokevirtual 360, 3) := by decide +kernel
theorem dX7_makePlan_63 : decode cX7_makePlan 63 = .ok (.iconst 0, 1) := by decide +kernel
theorem dX7_makePlan_64 : decode cX7_makePlan 64 = .ok (.ireturn, 1) := by decide +kernel
theorem dX7_trueShareBehind_0 : decode cX7_trueShareBehind 0 = .ok (.aload_n 0, 1) := by decide +kernel
theorem dX7_trueShareBehind_1 : decode cX7_trueShareBehind 1 = .ok (.getfield 19, 3) := by decide +kernel
theorem dX7_trueShareBehind_4 : decode cX7_trueShareBehind 4 = .ok (.aload_n 0, 1) := by decide +kernel
theorem dX7_trueShareBehind_5 : decode cX7_trueShareBehind 5 = .ok (.getfield 10, 3) := by decide +kernel
theorem dX7_trueShareBehind_8 : decode cX7_trueShareBehind 8 = .ok (.invokevirtual 241, 3) := by decide +kernel
theorem dX7_trueShareBehind_11 : decode cX7_trueShareBehind 11 = .ok (.aload_n 0, 1) := by decide +kernel
theorem dX7_trueShareBehind_12 : decode cX7_trueShareBehind 12 = .ok (.getfield 19, 3) := by decide +kernel
theorem dX7_trueShareBehind_15 : decode cX7_trueShareBehind 15 = .ok (.iload_n 2, 1) := by decide +kernel
theorem dX7_trueShareBehind_16 : decode cX7_trueShareBehind 16 = .ok (.putfield 154, 3) := by decide +kernel
theorem dX7_trueShareBehind_19 : decode cX7_trueShareBehind 19 = .ok (.aload_n 0, 1) := by decide +kernel
theorem dX7_trueShareBehind_20 : decode cX7_trueShareBehind 20 = .ok (.getfield 19, 3) := by decide +kernel
theorem dX7_trueShareBehind_23 : decode cX7_trueShareBehind 23 = .ok (.iload_n 1, 1) := by decide +kernel
theorem dX7_trueShareBehind_24 : decode cX7_trueShareBehind 24 = .ok (.invokevirtual 180, 3) := by decide +kernel
theorem dX7_trueShareBehind_27 : decode cX7_trueShareBehind 27 = .ok (.aload_n 0, 1) := by decide +kernel
theorem dX7_trueShareBehind_28 : decode cX7_trueShareBehind 28 = .ok (.getfield 19, 3) := by decide +kernel
theorem dX7_trueShareBehind_31 : decode cX7_trueShareBehind 31 = .ok (.invokevirtual 164, 3) := by decide +kernel
theorem dX7_trueShareBehind_34 : decode cX7_trueShareBehind 34 = .ok (.ifCond .eq 29, 3) := by decide +kernel
theorem dX7_trueShareBehind_37 : decode cX7_trueShareBehind 37 = .ok (.aload_n 0, 1) := by decide +kernel
theorem dX7_trueShareBehind_38 : decode cX7_trueShareBehind 38 = .ok (.getfield 19, 3) := by decide +kernel
theorem dX7_trueShareBehind_41 : decode cX7_trueShareBehind 41 = .ok (.aload_n 0, 1) := by decide +kernel
theorem dX7_trueShareBehind_42 : decode cX7_trueShareBehind 42 = .ok (.getfield 19, 3) := by decide +kernel
theorem dX7_trueShareBehind_45 : decode cX7_trueShareBehind 45 = .ok (.getfield 93, 3) := by decide +kernel
theorem dX7_trueShareBehind_48 : decode cX7_trueShareBehind 48 = .ok (.aload_n 0, 1) := by decide +kernel
theorem dX7_trueShareBehind_49 : decode cX7_trueShareBehind 49 = .ok (.getfield 19, 3) := by decide +kernel
theorem dX7_trueShareBehind_52 : decode cX7_trueShareBehind 52 = .ok (.getfield 364, 3) := by decide +kernel
theorem dX7_trueShareBehind_55 : decode cX7_trueShareBehind 55 = .ok (.iaload, 1) := by decide +kernel
theorem dX7_trueShareBehind_56 : decode cX7_trueShareBehind 56 = .ok (.i2l, 1) := by decide +kernel
theorem dX7_trueShareBehind_57 : decode cX7_trueShareBehind 57 = .ok (.invokevirtual 196, 3) := by decide +kernel
theorem dX7_trueShareBehind_60 : decode cX7_trueShareBehind 60 = .ok (.goto 4, 3) := by decide +kernel
theorem dX7_trueShareBehind_63 : decode cX7_trueShareBehind 63 = .ok (.iconst 0, 1) := by decide +kernel
theorem dX7_trueShareBehind_64 : decode cX7_trueShareBehind 64 = .ok (.ireturn, 1) := by decide +kernel
theorem dJ11_isValidCodePoint_9a6ad_0 : decode cJ11_isValidCodePoint_9a6ad 0 = .ok (.iload_n 0, 1) := by decide +kernel
theorem dJ11_isValidCodePoint_9a6ad_1 : decode cJ11_isValidCodePoint_9a6ad 1 = .ok (.bipush 16, 2) := by decide +kernel
theorem dJ11_isValidCodePoint_9a6ad_3 : decode cJ11_isValidCodePoint_9a6ad 3 = .ok (.iushr, 1) := by decide +kernel
theorem dJ11_isValidCodePoint_9a6ad_4 : decode cJ11_isValidCodePoint_9a6ad 4 = .ok (.istore_n 1, 1) := by decide +kernel
theorem dJ11_isValidCodePoint_9a6ad_5 : decode cJ11_isValidCodePoint_9a6ad 5 = .ok (.iload_n 1, 1) := by decide +kernel
theorem dJ11_isValidCodePoint_9a6ad_6 : decode cJ11_isValidCodePoint_9a6ad 6 = .ok (.bipush 17, 2) := by decide +kernel
theorem dJ11_isValidCodePoint_9a6ad_8 : decode cJ11_isValidCodePoint_9a6ad 8 = .ok (.if_icmp .ge 7, 3) := by decide +kernel
theorem dJ11_isValidCodePoint_9a6ad_11 : decode cJ11_isValidCodePoint_9a6ad 11 = .ok (.iconst 1, 1) := by decide +kernel
theorem dJ11_isValidCodePoint_9a6ad_12 : decode cJ11_isValidCodePoint_9a6ad 12 = .ok (.goto 4, 3) := by decide +kernel
theorem dJ11_isValidCodePoint_9a6ad_15 : decode cJ11_isValidCodePoint_9a6ad 15 = .ok (.iconst 0, 1) := by decide +kernel
theorem dJ11_isValidCodePoint_9a6ad_16 : decode cJ11_isValidCodePoint_9a6ad 16 = .ok (.ireturn, 1) := by decide +kernel
theorem dJ11_highSurrogate_5068e_0 : decode cJ11_highSurrogate_5068e 0 = .ok (.iload_n 0, 1) := by decide +kernel
theorem dJ11_highSurrogate_5068e_1 : decode cJ11_highSurrogate_5068e 1 = .ok (.bipush 10, 2) := by decide +kernel
theorem dJ11_highSurrogate_5068e_3 : decode cJ11_highSurrogate_5068e 3 = .ok (.iushr, 1) := by decide +kernel
theorem dJ11_highSurrogate_5068e_4 : decode cJ11_highSurrogate_5068e 4 = .ok (.ldc 110, 2) := by decide +kernel
theorem dJ11_highSurrogate_5068e_6 : decode cJ11_highSurrogate_5068e 6 = .ok (.iadd, 1) := by decide +kernel
theorem dJ11_highSurrogate_5068e_7 : decode cJ11_highSurrogate_5068e 7 = .ok (.i2c, 1) := by decide +kernel
theorem dJ11_highSurrogate_5068e_8 : decode cJ11_highSurrogate_5068e 8 = .ok (.ireturn, 1) := by decide +kernel
theorem dJ11_lowSurrogate_5068e_0 : decode cJ11_lowSurrogate_5068e 0 = .ok (.iload_n 0, 1) := by decide +kernel
theorem dJ11_lowSurrogate_5068e_1 : decode cJ11_lowSurrogate_5068e 1 = .ok (.sipush 1023, 3) := by decide +kernel
theorem dJ11_lowSurrogate_5068e_4 : decode cJ11_lowSurrogate_5068e 4 = .ok (.iand, 1) := by decide +kernel
theorem dJ11_lowSurrogate_5068e_5 : decode cJ11_lowSurrogate_5068e 5 = .ok (.ldc 76, 2) := by decide +kernel
theorem dJ11_lowSurrogate_5068e_7 : decode cJ11_lowSurrogate_5068e 7 = .ok (.iadd, 1) := by decide +kernel
theorem dJ11_lowSurrogate_5068e_8 : decode cJ11_lowSurrogate_5068e 8 = .ok (.i2c, 1) := by decide +kernel
theorem dJ11_lowSurrogate_5068e_9 : decode cJ11_lowSurrogate_5068e 9 = .ok (.ireturn, 1) := by decide +kernel
theorem dJ13_bitCount_95d88_0 : decode cJ13_bitCount_95d88 0 = .ok (.lload_n 0, 1) := by decide +kernel
theorem dJ13_bitCount_95d88_1 : decode cJ13_bitCount_95d88 1 = .ok (.lload_n 0, 1) := by decide +kernel
theorem dJ13_bitCount_95d88_2 : decode cJ13_bitCount_95d88 2 = .ok (.iconst 1, 1) := by decide +kernel
theorem dJ13_bitCount_95d88_3 : decode cJ13_bitCount_95d88 3 = .ok (.lushr, 1) := by decide +kernel
theorem dJ13_bitCount_95d88_4 : decode cJ13_bitCount_95d88 4 = .ok (.ldc2_w 314, 3) := by decide +kernel
theorem dJ13_bitCount_95d88_7 : decode cJ13_bitCount_95d88 7 = .ok (.land, 1) := by decide +kernel
theorem dJ13_bitCount_95d88_8 : decode cJ13_bitCount_95d88 8 = .ok (.lsub, 1) := by decide +kernel
theorem dJ13_bitCount_95d88_9 : decode cJ13_bitCount_95d88 9 = .ok (.lstore_n 0, 1) := by decide +kernel
theorem dJ13_bitCount_95d88_10 : decode cJ13_bitCount_95d88 10 = .ok (.lload_n 0, 1) := by decide +kernel
theorem dJ13_bitCount_95d88_11 : decode cJ13_bitCount_95d88 11 = .ok (.ldc2_w 316, 3) := by decide +kernel
theorem dJ13_bitCount_95d88_14 : decode cJ13_bitCount_95d88 14 = .ok (.land, 1) := by decide +kernel
theorem dJ13_bitCount_95d88_15 : decode cJ13_bitCount_95d88 15 = .ok (.lload_n 0, 1) := by decide +kernel
theorem dJ13_bitCount_95d88_16 : decode cJ13_bitCount_95d88 16 = .ok (.iconst 2, 1) := by decide +kernel
theorem dJ13_bitCount_95d88_17 : decode cJ13_bitCount_95d88 17 = .ok (.lushr, 1) := by decide +kernel
theorem dJ13_bitCount_95d88_18 : decode cJ13_bitCount_95d88 18 = .ok (.ldc2_w 316, 3) := by decide +kernel
theorem dJ13_bitCount_95d88_21 : decode cJ13_bitCount_95d88 21 = .ok (.land, 1) := by decide +kernel
theorem dJ13_bitCount_95d88_22 : decode cJ13_bitCount_95d88 22 = .ok (.ladd, 1) := by decide +kernel
theorem dJ13_bitCount_95d88_23 : decode cJ13_bitCount_95d88 23 = .ok (.lstore_n 0, 1) := by decide +kernel
theorem dJ13_bitCount_95d88_24 : decode cJ13_bitCount_95d88 24 = .ok (.lload_n 0, 1) := by decide +kernel
theorem dJ13_bitCount_95d88_25 : decode cJ13_bitCount_95d88 25 = .ok (.lload_n 0, 1) := by decide +kernel
theorem dJ13_bitCount_95d88_26 : decode cJ13_bitCount_95d88 26 = .ok (.iconst 4, 1) := by decide +kernel
theorem dJ13_bitCount_95d88_27 : decode cJ13_bitCount_95d88 27 = .ok (.lushr, 1) := by decide +kernel
theorem dJ13_bitCount_95d88_28 : decode cJ13_bitCount_95d88 28 = .ok (.ladd, 1) := by decide +kernel
theorem dJ13_bitCount_95d88_29 : decode cJ13_bitCount_95d88 29 = .ok (.ldc2_w 318, 3) := by decide +kernel
theorem dJ13_bitCount_95d88_32 : decode cJ13_bitCount_95d88 32 = .ok (.land, 1) := by decide +kernel
theorem dJ13_bitCount_95d88_33 : decode cJ13_bitCount_95d88 33 = .ok (.lstore_n 0, 1) := by decide +kernel
theorem dJ13_bitCount_95d88_34 : decode cJ13_bitCount_95d88 34 = .ok (.lload_n 0, 1) := by decide +kernel
theorem dJ13_bitCount_95d88_35 : decode cJ13_bitCount_95d88 35 = .ok (.lload_n 0, 1) := by decide +kernel
theorem dJ13_bitCount_95d88_36 : decode cJ13_bitCount_95d88 36 = .ok (.bipush 8, 2) := by decide +kernel
theorem dJ13_bitCount_95d88_38 : decode cJ13_bitCount_95d88 38 = .ok (.lushr, 1) := by decide +kernel
theorem dJ13_bitCount_95d88_39 : decode cJ13_bitCount_95d88 39 = .ok (.ladd, 1) := by decide +kernel
theorem dJ13_bitCount_95d88_40 : decode cJ13_bitCount_95d88 40 = .ok (.lstore_n 0, 1) := by decide +kernel
theorem dJ13_bitCount_95d88_41 : decode cJ13_bitCount_95d88 41 = .ok (.lload_n 0, 1) := by decide +kernel
theorem dJ13_bitCount_95d88_42 : decode cJ13_bitCount_95d88 42 = .ok (.lload_n 0, 1) := by decide +kernel
theorem dJ13_bitCount_95d88_43 : decode cJ13_bitCount_95d88 43 = .ok (.bipush 16, 2) := by decide +kernel
theorem dJ13_bitCount_95d88_45 : decode cJ13_bitCount_95d88 45 = .ok (.lushr, 1) := by decide +kernel
theorem dJ13_bitCount_95d88_46 : decode cJ13_bitCount_95d88 46 = .ok (.ladd, 1) := by decide +kernel
theorem dJ13_bitCount_95d88_47 : decode cJ13_bitCount_95d88 47 = .ok (.lstore_n 0, 1) := by decide +kernel
theorem dJ13_bitCount_95d88_48 : decode cJ13_bitCount_95d88 48 = .ok (.lload_n 0, 1) := by decide +kernel
theorem dJ13_bitCount_95d88_49 : decode cJ13_bitCount_95d88 49 = .ok (.lload_n 0, 1) := by decide +kernel
theorem dJ13_bitCount_95d88_50 : decode cJ13_bitCount_95d88 50 = .ok (.bipush 32, 2) := by decide +kernel
theorem dJ13_bitCount_95d88_52 : decode cJ13_bitCount_95d88 52 = .ok (.lushr, 1) := by decide +kernel
theorem dJ13_bitCount_95d88_53 : decode cJ13_bitCount_95d88 53 = .ok (.ladd, 1) := by decide +kernel
theorem dJ13_bitCount_95d88_54 : decode cJ13_bitCount_95d88 54 = .ok (.lstore_n 0, 1) := by decide +kernel
theorem dJ13_bitCount_95d88_55 : decode cJ13_bitCount_95d88 55 = .ok (.lload_n 0, 1) := by decide +kernel
theorem dJ13_bitCount_95d88_56 : decode cJ13_bitCount_95d88 56 = .ok (.l2i, 1) := by decide +kernel
theorem dJ13_bitCount_95d88_57 : decode cJ13_bitCount_95d88 57 = .ok (.bipush 127, 2) := by decide +kernel
theorem dJ13_bitCount_95d88_59 : decode cJ13_bitCount_95d88 59 = .ok (.iand, 1) := by decide +kernel
theorem dJ13_bitCount_95d88_60 : decode cJ13_bitCount_95d88 60 = .ok (.ireturn, 1) := by decide +kernel
theorem dJ9_max_7cf53_0 : decode cJ9_max_7cf53 0 = .ok (.iload_n 0, 1) := by decide +kernel
theorem dJ9_max_7cf53_1 : decode cJ9_max_7cf53 1 = .ok (.iload_n 1, 1) := by decide +kernel
theorem dJ9_max_7cf53_2 : decode cJ9_max_7cf53 2 = .ok (.if_icmp .lt 7, 3) := by decide +kernel
theorem dJ9_max_7cf53_5 : decode cJ9_max_7cf53 5 = .ok (.iload_n 0, 1) := by decide +kernel
theorem dJ9_max_7cf53_6 : decode cJ9_max_7cf53 6 = .ok (.goto 4, 3) := by decide +kernel
theorem dJ9_max_7cf53_9 : decode cJ9_max_7cf53 9 = .ok (.iload_n 1, 1) := by decide +kernel
theorem dJ9_max_7cf53_10 : decode cJ9_max_7cf53 10 = .ok (.ireturn, 1) := by decide +kernel
theorem dJ9_min_7cf53_0 : decode cJ9_min_7cf53 0 = .ok (.iload_n 0, 1) := by decide +kernel
theorem dJ9_min_7cf53_1 : decode cJ9_min_7cf53 1 = .ok (.iload_n 1, 1) := by decide +kernel
theorem dJ9_min_7cf53_2 : decode cJ9_min_7cf53 2 = .ok (.if_icmp .gt 7, 3) := by decide +kernel
theorem dJ9_min_7cf53_5 : decode cJ9_min_7cf53 5 = .ok (.iload_n 0, 1) := by decide +kernel
theorem dJ9_min_7cf53_6 : decode cJ9_min_7cf53 6 = .ok (.goto 4, 3) := by decide +kernel
theorem dJ9_min_7cf53_9 : decode cJ9_min_7cf53 9 = .ok (.iload_n 1, 1) := by decide +kernel
theorem dJ9_min_7cf53_10 : decode cJ9_min_7cf53 10 = .ok (.ireturn, 1) := by decide +kernel
theorem dJ9_min_f86c9_0 : decode cJ9_min_f86c9 0 = .ok (.lload_n 0, 1) := by decide +kernel
theorem dJ9_min_f86c9_1 : decode cJ9_min_f86c9 1 = .ok (.lload_n 2, 1) := by decide +kernel
theorem dJ9_min_f86c9_2 : decode cJ9_min_f86c9 2 = .ok (.lcmp, 1) := by decide +kernel
theorem dJ9_min_f86c9_3 : decode cJ9_min_f86c9 3 = .ok (.ifCond .gt 7, 3) := by decide +kernel
theorem dJ9_min_f86c9_6 : decode cJ9_min_f86c9 6 = .ok (.lload_n 0, 1) := by decide +kernel
theorem dJ9_min_f86c9_7 : decode cJ9_min_f86c9 7 = .ok (.goto 4, 3) := by decide +kernel
theorem dJ9_min_f86c9_10 : decode cJ9_min_f86c9 10 = .ok (.lload_n 2, 1) := by decide +kernel
theorem dJ9_min_f86c9_11 : decode cJ9_min_f86c9 11 = .ok (.lreturn, 1) := by decide +kernel
theorem dJ0_length_8abf5_0 : decode cJ0_length_8abf5 0 = .ok (.aload_n 0, 1) := by decide +kernel
theorem dJ0_length_8abf5_1 : decode cJ0_length_8abf5 1 = .ok (.getfield 9, 3) := by decide +kernel
theorem dJ0_length_8abf5_4 : decode cJ0_length_8abf5 4 = .ok (.arraylength, 1) := by decide +kernel
theorem dJ0_length_8abf5_5 : decode cJ0_length_8abf5 5 = .ok (.aload_n 0, 1) := by decide +kernel
theorem dJ0_length_8abf5_6 : decode cJ0_length_8abf5 6 = .ok (.invokevirtual 335, 3) := by decide +kernel
theorem dJ0_length_8abf5_9 : decode cJ0_length_8abf5 9 = .ok (.ishr, 1) := by decide +kernel
theorem dJ0_length_8abf5_10 : decode cJ0_length_8abf5 10 = .ok (.ireturn, 1) := by decide +kernel
theorem dJ0_charAt_5068e_0 : decode cJ0_charAt_5068e 0 = .ok (.aload_n 0, 1) := by decide +kernel
theorem dJ0_charAt_5068e_1 : decode cJ0_charAt_5068e 1 = .ok (.invokevirtual 492, 3) := by decide +kernel
theorem dJ0_charAt_5068e_4 : decode cJ0_charAt_5068e 4 = .ok (.ifCond .eq 12, 3) := by decide +kernel
theorem dJ0_charAt_5068e_7 : decode cJ0_charAt_5068e 7 = .ok (.aload_n 0, 1) := by decide +kernel
theorem dJ0_charAt_5068e_8 : decode cJ0_charAt_5068e 8 = .ok (.getfield 9, 3) := by decide +kernel
theorem dJ0_charAt_5068e_11 : decode cJ0_charAt_5068e 11 = .ok (.iload_n 1, 1) := by decide +kernel
theorem dJ0_charAt_5068e_12 : decode cJ0_charAt_5068e 12 = .ok (.invokestatic 495, 3) := by decide +kernel
theorem dJ0_charAt_5068e_15 : decode cJ0_charAt_5068e 15 = .ok (.ireturn, 1) := by decide +kernel
theorem dJ0_charAt_5068e_16 : decode cJ0_charAt_5068e 16 = .ok (.aload_n 0, 1) := by decide +kernel
theorem dJ0_charAt_5068e_17 : decode cJ0_charAt_5068e 17 = .ok (.getfield 9, 3) := by decide +kernel
theorem dJ0_charAt_5068e_20 : decode cJ0_charAt_5068e 20 = .ok (.iload_n 1, 1) := by decide +kernel
theorem dJ0_charAt_5068e_21 : decode cJ0_charAt_5068e 21 = .ok (.invokestatic 498, 3) := by decide +kernel
theorem dJ0_charAt_5068e_24 : decode cJ0_charAt_5068e 24 = .ok (.ireturn, 1) := by decide +kernel
theorem dJ0_indexOf_0f7a4_0 : decode cJ0_indexOf_0f7a4 0 = .ok (.aload_n 0, 1) := by decide +kernel
theorem dJ0_indexOf_0f7a4_1 : decode cJ0_indexOf_0f7a4 1 = .ok (.iload_n 1, 1) := by decide +kernel
theorem dJ0_indexOf_0f7a4_2 : decode cJ0_indexOf_0f7a4 2 = .ok (.iconst 0, 1) := by decide +kernel
theorem dJ0_indexOf_0f7a4_3 : decode cJ0_indexOf_0f7a4 3 = .ok (.invokevirtual 633, 3) := by decide +kernel
theorem dJ0_indexOf_0f7a4_6 : decode cJ0_indexOf_0f7a4 6 = .ok (.ireturn, 1) := by decide +kernel
theorem dJ0_indexOf_7cf53_0 : decode cJ0_indexOf_7cf53 0 = .ok (.aload_n 0, 1) := by decide +kernel
theorem dJ0_indexOf_7cf53_1 : decode cJ0_indexOf_7cf53 1 = .ok (.invokevirtual 492, 3) := by decide +kernel
theorem dJ0_indexOf_7cf53_4 : decode cJ0_indexOf_7cf53 4 = .ok (.ifCond .eq 19, 3) := by decide +kernel
theorem dJ0_indexOf_7cf53_7 : decode cJ0_indexOf_7cf53 7 = .ok (.aload_n 0, 1) := by decide +kernel
theorem dJ0_indexOf_7cf53_8 : decode cJ0_indexOf_7cf53 8 = .ok (.getfield 9, 3) := by decide +kernel
theorem dJ0_indexOf_7cf53_11 : decode cJ0_indexOf_7cf53 11 = .ok (.iload_n 1, 1) := by decide +kernel
theorem dJ0_indexOf_7cf53_12 : decode cJ0_indexOf_7cf53 12 = .ok (.iload_n 2, 1) := by decide +kernel
theorem dJ0_indexOf_7cf53_13 : decode cJ0_indexOf_7cf53 13 = .ok (.aload_n 0, 1) := by decide +kernel
theorem dJ0_indexOf_7cf53_14 : decode cJ0_indexOf_7cf53 14 = .ok (.invokevirtual 505, 3) := by decide +kernel
theorem dJ0_indexOf_7cf53_17 : decode cJ0_indexOf_7cf53 17 = .ok (.invokestatic 637, 3) := by decide +kernel
theorem dJ0_indexOf_7cf53_20 : decode cJ0_indexOf_7cf53 20 = .ok (.goto 16, 3) := by decide +kernel
theorem dJ0_indexOf_7cf53_23 : decode cJ0_indexOf_7cf53 23 = .ok (.aload_n 0, 1) := by decide +kernel
theorem dJ0_indexOf_7cf53_24 : decode cJ0_indexOf_7cf53 24 = .ok (.getfield 9, 3) := by decide +kernel
theorem dJ0_indexOf_7cf53_27 : decode cJ0_indexOf_7cf53 27 = .ok (.iload_n 1, 1) := by decide +kernel
theorem dJ0_indexOf_7cf53_28 : decode cJ0_indexOf_7cf53 28 = .ok (.iload_n 2, 1) := by decide +kernel
theorem dJ0_indexOf_7cf53_29 : decode cJ0_indexOf_7cf53 29 = .ok (.aload_n 0, 1) := by decide +kernel
theorem dJ0_indexOf_7cf53_30 : decode cJ0_indexOf_7cf53 30 = .ok (.invokevirtual 505, 3) := by decide +kernel
theorem dJ0_indexOf_7cf53_33 : decode cJ0_indexOf_7cf53 33 = .ok (.invokestatic 640, 3) := by decide +kernel
theorem dJ0_indexOf_7cf53_36 : decode cJ0_indexOf_7cf53 36 = .ok (.ireturn, 1) := by decide +kernel
theorem dJ0_coder_7d493_0 : decode cJ0_coder_7d493 0 = .ok (.getstatic 38, 3) := by decide +kernel
theorem dJ0_coder_7d493_3 : decode cJ0_coder_7d493 3 = .ok (.ifCond .eq 10, 3) := by decide +kernel
theorem dJ0_coder_7d493_6 : decode cJ0_coder_7d493 6 = .ok (.aload_n 0, 1) := by decide +kernel
theorem dJ0_coder_7d493_7 : decode cJ0_coder_7d493 7 = .ok (.getfield 15, 3) := by decide +kernel
theorem dJ0_coder_7d493_10 : decode cJ0_coder_7d493 10 = .ok (.goto 4, 3) := by decide +kernel
theorem dJ0_coder_7d493_13 : decode cJ0_coder_7d493 13 = .ok (.iconst 1, 1) := by decide +kernel
theorem dJ0_coder_7d493_14 : decode cJ0_coder_7d493 14 = .ok (.ireturn, 1) := by decide +kernel
theorem dJ0_isLatin1_aae02_0 : decode cJ0_isLatin1_aae02 0 = .ok (.getstatic 38, 3) := by decide +kernel
theorem dJ0_isLatin1_aae02_3 : decode cJ0_isLatin1_aae02 3 = .ok (.ifCond .eq 14, 3) := by decide +kernel
theorem dJ0_isLatin1_aae02_6 : decode cJ0_isLatin1_aae02 6 = .ok (.aload_n 0, 1) := by decide +kernel
theorem dJ0_isLatin1_aae02_7 : decode cJ0_isLatin1_aae02 7 = .ok (.getfield 15, 3) := by decide +kernel
theorem dJ0_isLatin1_aae02_10 : decode cJ0_isLatin1_aae02 10 = .ok (.ifCond .ne 7, 3) := by decide +kernel
theorem dJ0_isLatin1_aae02_13 : decode cJ0_isLatin1_aae02 13 = .ok (.iconst 1, 1) := by decide +kernel
theorem dJ0_isLatin1_aae02_14 : decode cJ0_isLatin1_aae02 14 = .ok (.goto 4, 3) := by decide +kernel
theorem dJ0_isLatin1_aae02_17 : decode cJ0_isLatin1_aae02 17 = .ok (.iconst 0, 1) := by decide +kernel
theorem dJ0_isLatin1_aae02_18 : decode cJ0_isLatin1_aae02 18 = .ok (.ireturn, 1) := by decide +kernel
theorem dJ0_checkIndex_df160_0 : decode cJ0_checkIndex_df160 0 = .ok (.iload_n 0, 1) := by decide +kernel
theorem dJ0_checkIndex_df160_1 : decode cJ0_checkIndex_df160 1 = .ok (.iload_n 1, 1) := by decide +kernel
theorem dJ0_checkIndex_df160_2 : decode cJ0_checkIndex_df160 2 = .ok (.getstatic 1053, 3) := by decide +kernel
theorem dJ0_checkIndex_df160_5 : decode cJ0_checkIndex_df160 5 = .ok (.invokestatic 1059, 3) := by decide +kernel
theorem dJ0_checkIndex_df160_8 : decode cJ0_checkIndex_df160 8 = .ok (.pop, 1) := by decide +kernel
theorem dJ0_checkIndex_df160_9 : decode cJ0_checkIndex_df160 9 = .ok (.return_, 1) := by decide +kernel
theorem dJ0_checkBoundsBeginEnd_23922_0 : decode cJ0_checkBoundsBeginEnd_23922 0 = .ok (.iload_n 0, 1) := by decide +kernel
theorem dJ0_checkBoundsBeginEnd_23922_1 : decode cJ0_checkBoundsBeginEnd_23922 1 = .ok (.iload_n 1, 1) := by decide +kernel
theorem dJ0_checkBoundsBeginEnd_23922_2 : decode cJ0_checkBoundsBeginEnd_23922 2 = .ok (.iload_n 2, 1) := by decide +kernel
theorem dJ0_checkBoundsBeginEnd_23922_3 : decode cJ0_checkBoundsBeginEnd_23922 3 = .ok (.getstatic 1053, 3) := by decide +kernel
theorem dJ0_checkBoundsBeginEnd_23922_6 : decode cJ0_checkBoundsBeginEnd_23922 6 = .ok (.invokestatic 1062, 3) := by decide +kernel
theorem dJ0_checkBoundsBeginEnd_23922_9 : decode cJ0_checkBoundsBeginEnd_23922 9 = .ok (.pop, 1) := by decide +kernel
theorem dJ0_checkBoundsBeginEnd_23922_10 : decode cJ0_checkBoundsBeginEnd_23922 10 = .ok (.return_, 1) := by decide +kernel
theorem dJ1_charAt_3b067_0 : decode cJ1_charAt_3b067 0 = .ok (.iload_n 1, 1) := by decide +kernel
theorem dJ1_charAt_3b067_1 : decode cJ1_charAt_3b067 1 = .ok (.aload_n 0, 1) := by decide +kernel
theorem dJ1_charAt_3b067_2 : decode cJ1_charAt_3b067 2 = .ok (.arraylength, 1) := by decide +kernel
theorem dJ1_charAt_3b067_3 : decode cJ1_charAt_3b067 3 = .ok (.invokestatic 9, 3) := by decide +kernel
theorem dJ1_charAt_3b067_6 : decode cJ1_charAt_3b067 6 = .ok (.aload_n 0, 1) := by decide +kernel
theorem dJ1_charAt_3b067_7 : decode cJ1_charAt_3b067 7 = .ok (.iload_n 1, 1) := by decide +kernel
theorem dJ1_charAt_3b067_8 : decode cJ1_charAt_3b067 8 = .ok (.baload, 1) := by decide +kernel
theorem dJ1_charAt_3b067_9 : decode cJ1_charAt_3b067 9 = .ok (.sipush 255, 3) := by decide +kernel
theorem dJ1_charAt_3b067_12 : decode cJ1_charAt_3b067 12 = .ok (.iand, 1) := by decide +kernel
theorem dJ1_charAt_3b067_13 : decode cJ1_charAt_3b067 13 = .ok (.i2c, 1) := by decide +kernel
theorem dJ1_charAt_3b067_14 : decode cJ1_charAt_3b067 14 = .ok (.ireturn, 1) := by decide +kernel
theorem dJ1_canEncode_9a6ad_0 : decode cJ1_canEncode_9a6ad 0 = .ok (.iload_n 0, 1) := by decide +kernel
theorem dJ1_canEncode_9a6ad_1 : decode cJ1_canEncode_9a6ad 1 = .ok (.ifCond .lt 14, 3) := by decide +kernel
theorem dJ1_canEncode_9a6ad_4 : decode cJ1_canEncode_9a6ad 4 = .ok (.iload_n 0, 1) := by decide +kernel
theorem dJ1_canEncode_9a6ad_5 : decode cJ1_canEncode_9a6ad 5 = .ok (.sipush 255, 3) := by decide +kernel
theorem dJ1_canEncode_9a6ad_8 : decode cJ1_canEncode_9a6ad 8 = .ok (.if_icmp .gt 7, 3) := by decide +kernel
theorem dJ1_canEncode_9a6ad_11 : decode cJ1_canEncode_9a6ad 11 = .ok (.iconst 1, 1) := by decide +kernel
theorem dJ1_canEncode_9a6ad_12 : decode cJ1_canEncode_9a6ad 12 = .ok (.goto 4, 3) := by decide +kernel
theorem dJ1_canEncode_9a6ad_15 : decode cJ1_canEncode_9a6ad 15 = .ok (.iconst 0, 1) := by decide +kernel
theorem dJ1_canEncode_9a6ad_16 : decode cJ1_canEncode_9a6ad 16 = .ok (.ireturn, 1) := by decide +kernel
theorem dJ1_indexOf_4cfef_0 : decode cJ1_indexOf_4cfef 0 = .ok (.iload_n 1, 1) := by decide +kernel
theorem dJ1_indexOf_4cfef_1 : decode cJ1_indexOf_4cfef 1 = .ok (.invokestatic 88, 3) := by decide +kernel
theorem dJ1_indexOf_4cfef_4 : decode cJ1_indexOf_4cfef 4 = .ok (.ifCond .ne 5, 3) := by decide +kernel
theorem dJ1_indexOf_4cfef_7 : decode cJ1_indexOf_4cfef 7 = .ok (.iconst (-1), 1) := by decide +kernel
theorem dJ1_indexOf_4cfef_8 : decode cJ1_indexOf_4cfef 8 = .ok (.ireturn, 1) := by decide +kernel
theorem dJ1_indexOf_4cfef_9 : decode cJ1_indexOf_4cfef 9 = .ok (.iload_n 2, 1) := by decide +kernel
theorem dJ1_indexOf_4cfef_10 : decode cJ1_indexOf_4cfef 10 = .ok (.iconst 0, 1) := by decide +kernel
theorem dJ1_indexOf_4cfef_11 : decode cJ1_indexOf_4cfef 11 = .ok (.invokestatic 92, 3) := by decide +kernel
theorem dJ1_indexOf_4cfef_14 : decode cJ1_indexOf_4cfef 14 = .ok (.istore_n 2, 1) := by decide +kernel
theorem dJ1_indexOf_4cfef_15 : decode cJ1_indexOf_4cfef 15 = .ok (.iload_n 3, 1) := by decide +kernel
theorem dJ1_indexOf_4cfef_16 : decode cJ1_indexOf_4cfef 16 = .ok (.aload_n 0, 1) := by decide +kernel
theorem dJ1_indexOf_4cfef_17 : decode cJ1_indexOf_4cfef 17 = .ok (.arraylength, 1) := by decide +kernel
theorem dJ1_indexOf_4cfef_18 : decode cJ1_indexOf_4cfef 18 = .ok (.invokestatic 38, 3) := by decide +kernel
theorem dJ1_indexOf_4cfef_21 : decode cJ1_indexOf_4cfef 21 = .ok (.istore_n 3, 1) := by decide +kernel
theorem dJ1_indexOf_4cfef_22 : decode cJ1_indexOf_4cfef 22 = .ok (.iload_n 2, 1) := by decide +kernel
theorem dJ1_indexOf_4cfef_23 : decode cJ1_indexOf_4cfef 23 = .ok (.iload_n 3, 1) := by decide +kernel
theorem dJ1_indexOf_4cfef_24 : decode cJ1_indexOf_4cfef 24 = .ok (.if_icmp .lt 5, 3) := by decide +kernel
theorem dJ1_indexOf_4cfef_27 : decode cJ1_indexOf_4cfef 27 = .ok (.iconst (-1), 1) := by decide +kernel
theorem dJ1_indexOf_4cfef_28 : decode cJ1_indexOf_4cfef 28 = .ok (.ireturn, 1) := by decide +kernel
theorem dJ1_indexOf_4cfef_29 : decode cJ1_indexOf_4cfef 29 = .ok (.aload_n 0, 1) := by decide +kernel
theorem dJ1_indexOf_4cfef_30 : decode cJ1_indexOf_4cfef 30 = .ok (.iload_n 1, 1) := by decide +kernel
theorem dJ1_indexOf_4cfef_31 : decode cJ1_indexOf_4cfef 31 = .ok (.iload_n 2, 1) := by decide +kernel
theorem dJ1_indexOf_4cfef_32 : decode cJ1_indexOf_4cfef 32 = .ok (.iload_n 3, 1) := by decide +kernel
theorem dJ1_indexOf_4cfef_33 : decode cJ1_indexOf_4cfef 33 = .ok (.invokestatic 95, 3) := by decide +kernel
theorem dJ1_indexOf_4cfef_36 : decode cJ1_indexOf_4cfef 36 = .ok (.ireturn, 1) := by decide +kernel
theorem dJ1_indexOfChar_4cfef_0 : decode cJ1_indexOfChar_4cfef 0 = .ok (.iload_n 1, 1) := by decide +kernel
theorem dJ1_indexOfChar_4cfef_1 : decode cJ1_indexOfChar_4cfef 1 = .ok (.i2b, 1) := by decide +kernel
theorem dJ1_indexOfChar_4cfef_2 : decode cJ1_indexOfChar_4cfef 2 = .ok (.istore 4, 2) := by decide +kernel
theorem dJ1_indexOfChar_4cfef_4 : decode cJ1_indexOfChar_4cfef 4 = .ok (.iload_n 2, 1) := by decide +kernel
theorem dJ1_indexOfChar_4cfef_5 : decode cJ1_indexOfChar_4cfef 5 = .ok (.istore 5, 2) := by decide +kernel
theorem dJ1_indexOfChar_4cfef_7 : decode cJ1_indexOfChar_4cfef 7 = .ok (.iload 5, 2) := by decide +kernel
theorem dJ1_indexOfChar_4cfef_9 : decode cJ1_indexOfChar_4cfef 9 = .ok (.iload_n 3, 1) := by decide +kernel
theorem dJ1_indexOfChar_4cfef_10 : decode cJ1_indexOfChar_4cfef 10 = .ok (.if_icmp .ge 21, 3) := by decide +kernel
theorem dJ1_indexOfChar_4cfef_13 : decode cJ1_indexOfChar_4cfef 13 = .ok (.aload_n 0, 1) := by decide +kernel
theorem dJ1_indexOfChar_4cfef_14 : decode cJ1_indexOfChar_4cfef 14 = .ok (.iload 5, 2) := by decide +kernel
theorem dJ1_indexOfChar_4cfef_16 : decode cJ1_indexOfChar_4cfef 16 = .ok (.baload, 1) := by decide +kernel
theorem dJ1_indexOfChar_4cfef_17 : decode cJ1_indexOfChar_4cfef 17 = .ok (.iload 4, 2) := by decide +kernel
theorem dJ1_indexOfChar_4cfef_19 : decode cJ1_indexOfChar_4cfef 19 = .ok (.if_icmp .ne 6, 3) := by decide +kernel
theorem dJ1_indexOfChar_4cfef_22 : decode cJ1_indexOfChar_4cfef 22 = .ok (.iload 5, 2) := by decide +kernel
theorem dJ1_indexOfChar_4cfef_24 : decode cJ1_indexOfChar_4cfef 24 = .ok (.ireturn, 1) := by decide +kernel
theorem dJ1_indexOfChar_4cfef_25 : decode cJ1_indexOfChar_4cfef 25 = .ok (.iinc 5 1, 3) := by decide +kernel
theorem dJ1_indexOfChar_4cfef_28 : decode cJ1_indexOfChar_4cfef 28 = .ok (.goto (-21), 3) := by decide +kernel
theorem dJ1_indexOfChar_4cfef_31 : decode cJ1_indexOfChar_4cfef 31 = .ok (.iconst (-1), 1) := by decide +kernel
theorem dJ1_indexOfChar_4cfef_32 : decode cJ1_indexOfChar_4cfef 32 = .ok (.ireturn, 1) := by decide +kernel
theorem dJ2_getChar_3b067_0 : decode cJ2_getChar_3b067 0 = .ok (.getstatic 44, 3) := by decide +kernel
theorem dJ2_getChar_3b067_3 : decode cJ2_getChar_3b067 3 = .ok (.ifCond .ne 25, 3) := by decide +kernel
theorem dJ2_getChar_3b067_6 : decode cJ2_getChar_3b067 6 = .ok (.iload_n 1, 1) := by decide +kernel
theorem dJ2_getChar_3b067_7 : decode cJ2_getChar_3b067 7 = .ok (.ifCond .lt 11, 3) := by decide +kernel
theorem dJ2_getChar_3b067_10 : decode cJ2_getChar_3b067 10 = .ok (.iload_n 1, 1) := by decide +kernel
theorem dJ2_getChar_3b067_11 : decode cJ2_getChar_3b067 11 = .ok (.aload_n 0, 1) := by decide +kernel
theorem dJ2_getChar_3b067_12 : decode cJ2_getChar_3b067 12 = .ok (.invokestatic 48, 3) := by decide +kernel
theorem dJ2_getChar_3b067_15 : decode cJ2_getChar_3b067 15 = .ok (.if_icmp .lt 13, 3) := by decide +kernel
theorem dJ2_getChar_3b067_18 : decode cJ2_getChar_3b067 18 = .ok (.new 52, 3) := by decide +kernel
theorem dJ2_getChar_3b067_21 : decode cJ2_getChar_3b067 21 = .ok (.dup, 1) := by decide +kernel
theorem dJ2_getChar_3b067_22 : decode cJ2_getChar_3b067 22 = .ok (.ldc 54, 2) := by decide +kernel
theorem dJ2_getChar_3b067_24 : decode cJ2_getChar_3b067 24 = .ok (.invokespecial 56, 3) := by decide +kernel
theorem dJ2_getChar_3b067_27 : decode cJ2_getChar_3b067 27 = .ok (.athrow, 1) := by decide +kernel
theorem dJ2_getChar_3b067_28 : decode cJ2_getChar_3b067 28 = .ok (.iload_n 1, 1) := by decide +kernel
theorem dJ2_getChar_3b067_29 : decode cJ2_getChar_3b067 29 = .ok (.iconst 1, 1) := by decide +kernel
theorem dJ2_getChar_3b067_30 : decode cJ2_getChar_3b067 30 = .ok (.ishl, 1) := by decide +kernel
theorem dJ2_getChar_3b067_31 : decode cJ2_getChar_3b067 31 = .ok (.istore_n 1, 1) := by decide +kernel
theorem dJ2_getChar_3b067_32 : decode cJ2_getChar_3b067 32 = .ok (.aload_n 0, 1) := by decide +kernel
theorem dJ2_getChar_3b067_33 : decode cJ2_getChar_3b067 33 = .ok (.iload_n 1, 1) := by decide +kernel
theorem dJ2_getChar_3b067_34 : decode cJ2_getChar_3b067 34 = .ok (.iinc 1 1, 3) := by decide +kernel
theorem dJ2_getChar_3b067_37 : decode cJ2_getChar_3b067 37 = .ok (.baload, 1) := by decide +kernel
theorem dJ2_getChar_3b067_38 : decode cJ2_getChar_3b067 38 = .ok (.sipush 255, 3) := by decide +kernel
theorem dJ2_getChar_3b067_41 : decode cJ2_getChar_3b067 41 = .ok (.iand, 1) := by decide +kernel
theorem dJ2_getChar_3b067_42 : decode cJ2_getChar_3b067 42 = .ok (.getstatic 59, 3) := by decide +kernel
theorem dJ2_getChar_3b067_45 : decode cJ2_getChar_3b067 45 = .ok (.ishl, 1) := by decide +kernel
theorem dJ2_getChar_3b067_46 : decode cJ2_getChar_3b067 46 = .ok (.aload_n 0, 1) := by decide +kernel
theorem dJ2_getChar_3b067_47 : decode cJ2_getChar_3b067 47 = .ok (.iload_n 1, 1) := by decide +kernel
theorem dJ2_getChar_3b067_48 : decode cJ2_getChar_3b067 48 = .ok (.baload, 1) := by decide +kernel
theorem dJ2_getChar_3b067_49 : decode cJ2_getChar_3b067 49 = .ok (.sipush 255, 3) := by decide +kernel
theorem dJ2_getChar_3b067_52 : decode cJ2_getChar_3b067 52 = .ok (.iand, 1) := by decide +kernel
theorem dJ2_getChar_3b067_53 : decode cJ2_getChar_3b067 53 = .ok (.getstatic 63, 3) := by decide +kernel
theorem dJ2_getChar_3b067_56 : decode cJ2_getChar_3b067 56 = .ok (.ishl, 1) := by decide +kernel
theorem dJ2_getChar_3b067_57 : decode cJ2_getChar_3b067 57 = .ok (.ior, 1) := by decide +kernel
theorem dJ2_getChar_3b067_58 : decode cJ2_getChar_3b067 58 = .ok (.i2c, 1) := by decide +kernel
theorem dJ2_getChar_3b067_59 : decode cJ2_getChar_3b067 59 = .ok (.ireturn, 1) := by decide +kernel
theorem dJ2_length_9d52b_0 : decode cJ2_length_9d52b 0 = .ok (.aload_n 0, 1) := by decide +kernel
theorem dJ2_length_9d52b_1 : decode cJ2_length_9d52b 1 = .ok (.arraylength, 1) := by decide +kernel
theorem dJ2_length_9d52b_2 : decode cJ2_length_9d52b 2 = .ok (.iconst 1, 1) := by decide +kernel
theorem dJ2_length_9d52b_3 : decode cJ2_length_9d52b 3 = .ok (.ishr, 1) := by decide +kernel
theorem dJ2_length_9d52b_4 : decode cJ2_length_9d52b 4 = .ok (.ireturn, 1) := by decide +kernel
theorem dJ2_indexOf_4cfef_0 : decode cJ2_indexOf_4cfef 0 = .ok (.iload_n 2, 1) := by decide +kernel
theorem dJ2_indexOf_4cfef_1 : decode cJ2_indexOf_4cfef 1 = .ok (.iconst 0, 1) := by decide +kernel
theorem dJ2_indexOf_4cfef_2 : decode cJ2_indexOf_4cfef 2 = .ok (.invokestatic 224, 3) := by decide +kernel
theorem dJ2_indexOf_4cfef_5 : decode cJ2_indexOf_4cfef 5 = .ok (.istore_n 2, 1) := by decide +kernel
theorem dJ2_indexOf_4cfef_6 : decode cJ2_indexOf_4cfef 6 = .ok (.iload_n 3, 1) := by decide +kernel
theorem dJ2_indexOf_4cfef_7 : decode cJ2_indexOf_4cfef 7 = .ok (.aload_n 0, 1) := by decide +kernel
theorem dJ2_indexOf_4cfef_8 : decode cJ2_indexOf_4cfef 8 = .ok (.arraylength, 1) := by decide +kernel
theorem dJ2_indexOf_4cfef_9 : decode cJ2_indexOf_4cfef 9 = .ok (.iconst 1, 1) := by decide +kernel
theorem dJ2_indexOf_4cfef_10 : decode cJ2_indexOf_4cfef 10 = .ok (.ishr, 1) := by decide +kernel
theorem dJ2_indexOf_4cfef_11 : decode cJ2_indexOf_4cfef 11 = .ok (.invokestatic 183, 3) := by decide +kernel
theorem dJ2_indexOf_4cfef_14 : decode cJ2_indexOf_4cfef 14 = .ok (.istore_n 3, 1) := by decide +kernel
theorem dJ2_indexOf_4cfef_15 : decode cJ2_indexOf_4cfef 15 = .ok (.iload_n 2, 1) := by decide +kernel
theorem dJ2_indexOf_4cfef_16 : decode cJ2_indexOf_4cfef 16 = .ok (.iload_n 3, 1) := by decide +kernel
theorem dJ2_indexOf_4cfef_17 : decode cJ2_indexOf_4cfef 17 = .ok (.if_icmp .lt 5, 3) := by decide +kernel
theorem dJ2_indexOf_4cfef_20 : decode cJ2_indexOf_4cfef 20 = .ok (.iconst (-1), 1) := by decide +kernel
theorem dJ2_indexOf_4cfef_21 : decode cJ2_indexOf_4cfef 21 = .ok (.ireturn, 1) := by decide +kernel
theorem dJ2_indexOf_4cfef_22 : decode cJ2_indexOf_4cfef 22 = .ok (.iload_n 1, 1) := by decide +kernel
theorem dJ2_indexOf_4cfef_23 : decode cJ2_indexOf_4cfef 23 = .ok (.ldc 227, 2) := by decide +kernel
theorem dJ2_indexOf_4cfef_25 : decode cJ2_indexOf_4cfef 25 = .ok (.if_icmp .ge 11, 3) := by decide +kernel
theorem dJ2_indexOf_4cfef_28 : decode cJ2_indexOf_4cfef 28 = .ok (.aload_n 0, 1) := by decide +kernel
theorem dJ2_indexOf_4cfef_29 : decode cJ2_indexOf_4cfef 29 = .ok (.iload_n 1, 1) := by decide +kernel
theorem dJ2_indexOf_4cfef_30 : decode cJ2_indexOf_4cfef 30 = .ok (.iload_n 2, 1) := by decide +kernel
theorem dJ2_indexOf_4cfef_31 : decode cJ2_indexOf_4cfef 31 = .ok (.iload_n 3, 1) := by decide +kernel
theorem dJ2_indexOf_4cfef_32 : decode cJ2_indexOf_4cfef 32 = .ok (.invokestatic 228, 3) := by decide +kernel
theorem dJ2_indexOf_4cfef_35 : decode cJ2_indexOf_4cfef 35 = .ok (.ireturn, 1) := by decide +kernel
theorem dJ2_indexOf_4cfef_36 : decode cJ2_indexOf_4cfef 36 = .ok (.aload_n 0, 1) := by decide +kernel
theorem dJ2_indexOf_4cfef_37 : decode cJ2_indexOf_4cfef 37 = .ok (.iload_n 1, 1) := by decide +kernel
theorem dJ2_indexOf_4cfef_38 : decode cJ2_indexOf_4cfef 38 = .ok (.iload_n 2, 1) := by decide +kernel
theorem dJ2_indexOf_4cfef_39 : decode cJ2_indexOf_4cfef 39 = .ok (.iload_n 3, 1) := by decide +kernel
theorem dJ2_indexOf_4cfef_40 : decode cJ2_indexOf_4cfef 40 = .ok (.invokestatic 232, 3) := by decide +kernel
theorem dJ2_indexOf_4cfef_43 : decode cJ2_indexOf_4cfef 43 = .ok (.ireturn, 1) := by decide +kernel
theorem dJ2_indexOfChar_4cfef_0 : decode cJ2_indexOfChar_4cfef 0 = .ok (.iload_n 2, 1) := by decide +kernel
theorem dJ2_indexOfChar_4cfef_1 : decode cJ2_indexOfChar_4cfef 1 = .ok (.iload_n 3, 1) := by decide +kernel
theorem dJ2_indexOfChar_4cfef_2 : decode cJ2_indexOfChar_4cfef 2 = .ok (.aload_n 0, 1) := by decide +kernel
theorem dJ2_indexOfChar_4cfef_3 : decode cJ2_indexOfChar_4cfef 3 = .ok (.invokestatic 96, 3) := by decide +kernel
theorem dJ2_indexOfChar_4cfef_6 : decode cJ2_indexOfChar_4cfef 6 = .ok (.aload_n 0, 1) := by decide +kernel
theorem dJ2_indexOfChar_4cfef_7 : decode cJ2_indexOfChar_4cfef 7 = .ok (.iload_n 1, 1) := by decide +kernel
theorem dJ2_indexOfChar_4cfef_8 : decode cJ2_indexOfChar_4cfef 8 = .ok (.iload_n 2, 1) := by decide +kernel
theorem dJ2_indexOfChar_4cfef_9 : decode cJ2_indexOfChar_4cfef 9 = .ok (.iload_n 3, 1) := by decide +kernel
theorem dJ2_indexOfChar_4cfef_10 : decode cJ2_indexOfChar_4cfef 10 = .ok (.invokestatic 244, 3) := by decide +kernel
theorem dJ2_indexOfChar_4cfef_13 : decode cJ2_indexOfChar_4cfef 13 = .ok (.ireturn, 1) := by decide +kernel
theorem dJ2_indexOfCharUnsafe_4cfef_0 : decode cJ2_indexOfCharUnsafe_4cfef 0 = .ok (.iload_n 2, 1) := by decide +kernel
theorem dJ2_indexOfCharUnsafe_4cfef_1 : decode cJ2_indexOfCharUnsafe_4cfef 1 = .ok (.istore 4, 2) := by decide +kernel
theorem dJ2_indexOfCharUnsafe_4cfef_3 : decode cJ2_indexOfCharUnsafe_4cfef 3 = .ok (.iload 4, 2) := by decide +kernel
theorem dJ2_indexOfCharUnsafe_4cfef_5 : decode cJ2_indexOfCharUnsafe_4cfef 5 = .ok (.iload_n 3, 1) := by decide +kernel
theorem dJ2_indexOfCharUnsafe_4cfef_6 : decode cJ2_indexOfCharUnsafe_4cfef 6 = .ok (.if_icmp .ge 22, 3) := by decide +kernel
theorem dJ2_indexOfCharUnsafe_4cfef_9 : decode cJ2_indexOfCharUnsafe_4cfef 9 = .ok (.aload_n 0, 1) := by decide +kernel
theorem dJ2_indexOfCharUnsafe_4cfef_10 : decode cJ2_indexOfCharUnsafe_4cfef 10 = .ok (.iload 4, 2) := by decide +kernel
theorem dJ2_indexOfCharUnsafe_4cfef_12 : decode cJ2_indexOfCharUnsafe_4cfef 12 = .ok (.invokestatic 71, 3) := by decide +kernel
theorem dJ2_indexOfCharUnsafe_4cfef_15 : decode cJ2_indexOfCharUnsafe_4cfef 15 = .ok (.iload_n 1, 1) := by decide +kernel
theorem dJ2_indexOfCharUnsafe_4cfef_16 : decode cJ2_indexOfCharUnsafe_4cfef 16 = .ok (.if_icmp .ne 6, 3) := by decide +kernel
theorem dJ2_indexOfCharUnsafe_4cfef_19 : decode cJ2_indexOfCharUnsafe_4cfef 19 = .ok (.iload 4, 2) := by decide +kernel
theorem dJ2_indexOfCharUnsafe_4cfef_21 : decode cJ2_indexOfCharUnsafe_4cfef 21 = .ok (.ireturn, 1) := by decide +kernel
theorem dJ2_indexOfCharUnsafe_4cfef_22 : decode cJ2_indexOfCharUnsafe_4cfef 22 = .ok (.iinc 4 1, 3) := by decide +kernel
theorem dJ2_indexOfCharUnsafe_4cfef_25 : decode cJ2_indexOfCharUnsafe_4cfef 25 = .ok (.goto (-22), 3) := by decide +kernel
theorem dJ2_indexOfCharUnsafe_4cfef_28 : decode cJ2_indexOfCharUnsafe_4cfef 28 = .ok (.iconst (-1), 1) := by decide +kernel
theorem dJ2_indexOfCharUnsafe_4cfef_29 : decode cJ2_indexOfCharUnsafe_4cfef 29 = .ok (.ireturn, 1) := by decide +kernel
theorem dJ2_indexOfSupplementary_4cfef_0 : decode cJ2_indexOfSupplementary_4cfef 0 = .ok (.iload_n 1, 1) := by decide +kernel
theorem dJ2_indexOfSupplementary_4cfef_1 : decode cJ2_indexOfSupplementary_4cfef 1 = .ok (.invokestatic 164, 3) := by decide +kernel
theorem dJ2_indexOfSupplementary_4cfef_4 : decode cJ2_indexOfSupplementary_4cfef 4 = .ok (.ifCond .eq 65, 3) := by decide +kernel
theorem dJ2_indexOfSupplementary_4cfef_7 : decode cJ2_indexOfSupplementary_4cfef 7 = .ok (.iload_n 1, 1) := by decide +kernel
theorem dJ2_indexOfSupplementary_4cfef_8 : decode cJ2_indexOfSupplementary_4cfef 8 = .ok (.invokestatic 157, 3) := by decide +kernel
theorem dJ2_indexOfSupplementary_4cfef_11 : decode cJ2_indexOfSupplementary_4cfef 11 = .ok (.istore 4, 2) := by decide +kernel
theorem dJ2_indexOfSupplementary_4cfef_13 : decode cJ2_indexOfSupplementary_4cfef 13 = .ok (.iload_n 1, 1) := by decide +kernel
theorem dJ2_indexOfSupplementary_4cfef_14 : decode cJ2_indexOfSupplementary_4cfef 14 = .ok (.invokestatic 161, 3) := by decide +kernel
theorem dJ2_indexOfSupplementary_4cfef_17 : decode cJ2_indexOfSupplementary_4cfef 17 = .ok (.istore 5, 2) := by decide +kernel
theorem dJ2_indexOfSupplementary_4cfef_19 : decode cJ2_indexOfSupplementary_4cfef 19 = .ok (.iload_n 2, 1) := by decide +kernel
theorem dJ2_indexOfSupplementary_4cfef_20 : decode cJ2_indexOfSupplementary_4cfef 20 = .ok (.iload_n 3, 1) := by decide +kernel
theorem dJ2_indexOfSupplementary_4cfef_21 : decode cJ2_indexOfSupplementary_4cfef 21 = .ok (.aload_n 0, 1) := by decide +kernel
theorem dJ2_indexOfSupplementary_4cfef_22 : decode cJ2_indexOfSupplementary_4cfef 22 = .ok (.invokestatic 96, 3) := by decide +kernel
theorem dJ2_indexOfSupplementary_4cfef_25 : decode cJ2_indexOfSupplementary_4cfef 25 = .ok (.iload_n 2, 1) := by decide +kernel
theorem dJ2_indexOfSupplementary_4cfef_26 : decode cJ2_indexOfSupplementary_4cfef 26 = .ok (.istore 6, 2) := by decide +kernel
theorem dJ2_indexOfSupplementary_4cfef_28 : decode cJ2_indexOfSupplementary_4cfef 28 = .ok (.iload 6, 2) := by decide +kernel
theorem dJ2_indexOfSupplementary_4cfef_30 : decode cJ2_indexOfSupplementary_4cfef 30 = .ok (.iload_n 3, 1) := by decide +kernel
theorem dJ2_indexOfSupplementary_4cfef_31 : decode cJ2_indexOfSupplementary_4cfef 31 = .ok (.iconst 1, 1) := by decide +kernel
theorem dJ2_indexOfSupplementary_4cfef_32 : decode cJ2_indexOfSupplementary_4cfef 32 = .ok (.isub, 1) := by decide +kernel
theorem dJ2_indexOfSupplementary_4cfef_33 : decode cJ2_indexOfSupplementary_4cfef 33 = .ok (.if_icmp .ge 36, 3) := by decide +kernel
theorem dJ2_indexOfSupplementary_4cfef_36 : decode cJ2_indexOfSupplementary_4cfef 36 = .ok (.aload_n 0, 1) := by decide +kernel
theorem dJ2_indexOfSupplementary_4cfef_37 : decode cJ2_indexOfSupplementary_4cfef 37 = .ok (.iload 6, 2) := by decide +kernel
theorem dJ2_indexOfSupplementary_4cfef_39 : decode cJ2_indexOfSupplementary_4cfef 39 = .ok (.invokestatic 71, 3) := by decide +kernel
theorem dJ2_indexOfSupplementary_4cfef_42 : decode cJ2_indexOfSupplementary_4cfef 42 = .ok (.iload 4, 2) := by decide +kernel
theorem dJ2_indexOfSupplementary_4cfef_44 : decode cJ2_indexOfSupplementary_4cfef 44 = .ok (.if_icmp .ne 19, 3) := by decide +kernel
theorem dJ2_indexOfSupplementary_4cfef_47 : decode cJ2_indexOfSupplementary_4cfef 47 = .ok (.aload_n 0, 1) := by decide +kernel
theorem dJ2_indexOfSupplementary_4cfef_48 : decode cJ2_indexOfSupplementary_4cfef 48 = .ok (.iload 6, 2) := by decide +kernel
theorem dJ2_indexOfSupplementary_4cfef_50 : decode cJ2_indexOfSupplementary_4cfef 50 = .ok (.iconst 1, 1) := by decide +kernel
theorem dJ2_indexOfSupplementary_4cfef_51 : decode cJ2_indexOfSupplementary_4cfef 51 = .ok (.iadd, 1) := by decide +kernel
theorem dJ2_indexOfSupplementary_4cfef_52 : decode cJ2_indexOfSupplementary_4cfef 52 = .ok (.invokestatic 71, 3) := by decide +kernel
theorem dJ2_indexOfSupplementary_4cfef_55 : decode cJ2_indexOfSupplementary_4cfef 55 = .ok (.iload 5, 2) := by decide +kernel
theorem dJ2_indexOfSupplementary_4cfef_57 : decode cJ2_indexOfSupplementary_4cfef 57 = .ok (.if_icmp .ne 6, 3) := by decide +kernel
theorem dJ2_indexOfSupplementary_4cfef_60 : decode cJ2_indexOfSupplementary_4cfef 60 = .ok (.iload 6, 2) := by decide +kernel
theorem dJ2_indexOfSupplementary_4cfef_62 : decode cJ2_indexOfSupplementary_4cfef 62 = .ok (.ireturn, 1) := by decide +kernel
theorem dJ2_indexOfSupplementary_4cfef_63 : decode cJ2_indexOfSupplementary_4cfef 63 = .ok (.iinc 6 1, 3) := by decide +kernel
theorem dJ2_indexOfSupplementary_4cfef_66 : decode cJ2_indexOfSupplementary_4cfef 66 = .ok (.goto (-38), 3) := by decide +kernel
theorem dJ2_indexOfSupplementary_4cfef_69 : decode cJ2_indexOfSupplementary_4cfef 69 = .ok (.iconst (-1), 1) := by decide +kernel
theorem dJ2_indexOfSupplementary_4cfef_70 : decode cJ2_indexOfSupplementary_4cfef 70 = .ok (.ireturn, 1) := by decide +kernel
theorem dJ2_charAt_3b067_0 : decode cJ2_charAt_3b067 0 = .ok (.iload_n 1, 1) := by decide +kernel
theorem dJ2_charAt_3b067_1 : decode cJ2_charAt_3b067 1 = .ok (.aload_n 0, 1) := by decide +kernel
theorem dJ2_charAt_3b067_2 : decode cJ2_charAt_3b067 2 = .ok (.invokestatic 67, 3) := by decide +kernel
theorem dJ2_charAt_3b067_5 : decode cJ2_charAt_3b067 5 = .ok (.aload_n 0, 1) := by decide +kernel
theorem dJ2_charAt_3b067_6 : decode cJ2_charAt_3b067 6 = .ok (.iload_n 1, 1) := by decide +kernel
theorem dJ2_charAt_3b067_7 : decode cJ2_charAt_3b067 7 = .ok (.invokestatic 71, 3) := by decide +kernel
theorem dJ2_charAt_3b067_10 : decode cJ2_charAt_3b067 10 = .ok (.ireturn, 1) := by decide +kernel
theorem dJ2_checkIndex_2214a_0 : decode cJ2_checkIndex_2214a 0 = .ok (.iload_n 0, 1) := by decide +kernel
theorem dJ2_checkIndex_2214a_1 : decode cJ2_checkIndex_2214a 1 = .ok (.aload_n 1, 1) := by decide +kernel
theorem dJ2_checkIndex_2214a_2 : decode cJ2_checkIndex_2214a 2 = .ok (.invokestatic 48, 3) := by decide +kernel
theorem dJ2_checkIndex_2214a_5 : decode cJ2_checkIndex_2214a 5 = .ok (.invokestatic 414, 3) := by decide +kernel
theorem dJ2_checkIndex_2214a_8 : decode cJ2_checkIndex_2214a 8 = .ok (.return_, 1) := by decide +kernel
theorem dJ2_checkBoundsBeginEnd_d044e_0 : decode cJ2_checkBoundsBeginEnd_d044e 0 = .ok (.iload_n 0, 1) := by decide +kernel
theorem dJ2_checkBoundsBeginEnd_d044e_1 : decode cJ2_checkBoundsBeginEnd_d044e 1 = .ok (.iload_n 1, 1) := by decide +kernel
theorem dJ2_checkBoundsBeginEnd_d044e_2 : decode cJ2_checkBoundsBeginEnd_d044e 2 = .ok (.aload_n 2, 1) := by decide +kernel
theorem dJ2_checkBoundsBeginEnd_d044e_3 : decode cJ2_checkBoundsBeginEnd_d044e 3 = .ok (.invokestatic 48, 3) := by decide +kernel
theorem dJ2_checkBoundsBeginEnd_d044e_6 : decode cJ2_checkBoundsBeginEnd_d044e 6 = .ok (.invokestatic 241, 3) := by decide +kernel
theorem dJ2_checkBoundsBeginEnd_d044e_9 : decode cJ2_checkBoundsBeginEnd_d044e 9 = .ok (.return_, 1) := by decide +kernel
theorem dJ7_fill_53178_0 : decode cJ7_fill_53178 0 = .ok (.iconst 0, 1) := by decide +kernel
theorem dJ7_fill_53178_1 : decode cJ7_fill_53178 1 = .ok (.istore_n 2, 1) := by decide +kernel
theorem dJ7_fill_53178_2 : decode cJ7_fill_53178 2 = .ok (.aload_n 0, 1) := by decide +kernel
theorem dJ7_fill_53178_3 : decode cJ7_fill_53178 3 = .ok (.arraylength, 1) := by decide +kernel
theorem dJ7_fill_53178_4 : decode cJ7_fill_53178 4 = .ok (.istore_n 3, 1) := by decide +kernel
theorem dJ7_fill_53178_5 : decode cJ7_fill_53178 5 = .ok (.iload_n 2, 1) := by decide +kernel
theorem dJ7_fill_53178_6 : decode cJ7_fill_53178 6 = .ok (.iload_n 3, 1) := by decide +kernel
theorem dJ7_fill_53178_7 : decode cJ7_fill_53178 7 = .ok (.if_icmp .ge 13, 3) := by decide +kernel
theorem dJ7_fill_53178_10 : decode cJ7_fill_53178 10 = .ok (.aload_n 0, 1) := by decide +kernel
theorem dJ7_fill_53178_11 : decode cJ7_fill_53178 11 = .ok (.iload_n 2, 1) := by decide +kernel
theorem dJ7_fill_53178_12 : decode cJ7_fill_53178 12 = .ok (.iload_n 1, 1) := by decide +kernel
theorem dJ7_fill_53178_13 : decode cJ7_fill_53178 13 = .ok (.iastore, 1) := by decide +kernel
theorem dJ7_fill_53178_14 : decode cJ7_fill_53178 14 = .ok (.iinc 2 1, 3) := by decide +kernel
theorem dJ7_fill_53178_17 : decode cJ7_fill_53178 17 = .ok (.goto (-12), 3) := by decide +kernel
theorem dJ7_fill_53178_20 : decode cJ7_fill_53178 20 = .ok (.return_, 1) := by decide +kernel
theorem dJ7_copyOf_59c91_0 : decode cJ7_copyOf_59c91 0 = .ok (.iload_n 1, 1) := by decide +kernel
theorem dJ7_copyOf_59c91_1 : decode cJ7_copyOf_59c91 1 = .ok (.aload_n 0, 1) := by decide +kernel
theorem dJ7_copyOf_59c91_2 : decode cJ7_copyOf_59c91 2 = .ok (.arraylength, 1) := by decide +kernel
theorem dJ7_copyOf_59c91_3 : decode cJ7_copyOf_59c91 3 = .ok (.if_icmp .ne 11, 3) := by decide +kernel
theorem dJ7_copyOf_59c91_6 : decode cJ7_copyOf_59c91 6 = .ok (.aload_n 0, 1) := by decide +kernel
theorem dJ7_copyOf_59c91_7 : decode cJ7_copyOf_59c91 7 = .ok (.invokevirtual 316, 3) := by decide +kernel
theorem dJ7_copyOf_59c91_10 : decode cJ7_copyOf_59c91 10 = .ok (.checkcast 317, 3) := by decide +kernel
theorem dJ7_copyOf_59c91_13 : decode cJ7_copyOf_59c91 13 = .ok (.areturn, 1) := by decide +kernel
theorem dJ7_copyOf_59c91_14 : decode cJ7_copyOf_59c91 14 = .ok (.iload_n 1, 1) := by decide +kernel
theorem dJ7_copyOf_59c91_15 : decode cJ7_copyOf_59c91 15 = .ok (.newarray .int, 2) := by decide +kernel
theorem dJ7_copyOf_59c91_17 : decode cJ7_copyOf_59c91 17 = .ok (.astore_n 2, 1) := by decide +kernel
theorem dJ7_copyOf_59c91_18 : decode cJ7_copyOf_59c91 18 = .ok (.aload_n 0, 1) := by decide +kernel
theorem dJ7_copyOf_59c91_19 : decode cJ7_copyOf_59c91 19 = .ok (.iconst 0, 1) := by decide +kernel
theorem dJ7_copyOf_59c91_20 : decode cJ7_copyOf_59c91 20 = .ok (.aload_n 2, 1) := by decide +kernel
theorem dJ7_copyOf_59c91_21 : decode cJ7_copyOf_59c91 21 = .ok (.iconst 0, 1) := by decide +kernel
theorem dJ7_copyOf_59c91_22 : decode cJ7_copyOf_59c91 22 = .ok (.aload_n 0, 1) := by decide +kernel
theorem dJ7_copyOf_59c91_23 : decode cJ7_copyOf_59c91 23 = .ok (.arraylength, 1) := by decide +kernel
theorem dJ7_copyOf_59c91_24 : decode cJ7_copyOf_59c91 24 = .ok (.iload_n 1, 1) := by decide +kernel
theorem dJ7_copyOf_59c91_25 : decode cJ7_copyOf_59c91 25 = .ok (.invokestatic 304, 3) := by decide +kernel
theorem dJ7_copyOf_59c91_28 : decode cJ7_copyOf_59c91 28 = .ok (.invokestatic 150, 3) := by decide +kernel
theorem dJ7_copyOf_59c91_31 : decode cJ7_copyOf_59c91 31 = .ok (.aload_n 2, 1) := by decide +kernel
theorem dJ7_copyOf_59c91_32 : decode cJ7_copyOf_59c91 32 = .ok (.areturn, 1) := by decide +kernel
theorem dJ3_checkIndex_8e157_0 : decode cJ3_checkIndex_8e157 0 = .ok (.iload_n 0, 1) := by decide +kernel
theorem dJ3_checkIndex_8e157_1 : decode cJ3_checkIndex_8e157 1 = .ok (.ifCond .lt 8, 3) := by decide +kernel
theorem dJ3_checkIndex_8e157_4 : decode cJ3_checkIndex_8e157 4 = .ok (.iload_n 0, 1) := by decide +kernel
theorem dJ3_checkIndex_8e157_5 : decode cJ3_checkIndex_8e157 5 = .ok (.iload_n 1, 1) := by decide +kernel
theorem dJ3_checkIndex_8e157_6 : decode cJ3_checkIndex_8e157 6 = .ok (.if_icmp .lt 10, 3) := by decide +kernel
theorem dJ3_checkIndex_8e157_9 : decode cJ3_checkIndex_8e157 9 = .ok (.aload_n 2, 1) := by decide +kernel
theorem dJ3_checkIndex_8e157_10 : decode cJ3_checkIndex_8e157 10 = .ok (.iload_n 0, 1) := by decide +kernel
theorem dJ3_checkIndex_8e157_11 : decode cJ3_checkIndex_8e157 11 = .ok (.iload_n 1, 1) := by decide +kernel
theorem dJ3_checkIndex_8e157_12 : decode cJ3_checkIndex_8e157 12 = .ok (.invokestatic 95, 3) := by decide +kernel
theorem dJ3_checkIndex_8e157_15 : decode cJ3_checkIndex_8e157 15 = .ok (.athrow, 1) := by decide +kernel
theorem dJ3_checkIndex_8e157_16 : decode cJ3_checkIndex_8e157 16 = .ok (.iload_n 0, 1) := by decide +kernel
theorem dJ3_checkIndex_8e157_17 : decode cJ3_checkIndex_8e157 17 = .ok (.ireturn, 1) := by decide +kernel
theorem dJ3_checkFromToIndex_8c36e_0 : decode cJ3_checkFromToIndex_8c36e 0 = .ok (.iload_n 0, 1) := by decide +kernel
theorem dJ3_checkFromToIndex_8c36e_1 : decode cJ3_checkFromToIndex_8c36e 1 = .ok (.ifCond .lt 13, 3) := by decide +kernel
theorem dJ3_checkFromToIndex_8c36e_4 : decode cJ3_checkFromToIndex_8c36e 4 = .ok (.iload_n 0, 1) := by decide +kernel
theorem dJ3_checkFromToIndex_8c36e_5 : decode cJ3_checkFromToIndex_8c36e 5 = .ok (.iload_n 1, 1) := by decide +kernel
theorem dJ3_checkFromToIndex_8c36e_6 : decode cJ3_checkFromToIndex_8c36e 6 = .ok (.if_icmp .gt 8, 3) := by decide +kernel
theorem dJ3_checkFromToIndex_8c36e_9 : decode cJ3_checkFromToIndex_8c36e 9 = .ok (.iload_n 1, 1) := by decide +kernel
theorem dJ3_checkFromToIndex_8c36e_10 : decode cJ3_checkFromToIndex_8c36e 10 = .ok (.iload_n 2, 1) := by decide +kernel
theorem dJ3_checkFromToIndex_8c36e_11 : decode cJ3_checkFromToIndex_8c36e 11 = .ok (.if_icmp .le 11, 3) := by decide +kernel
theorem dJ3_checkFromToIndex_8c36e_14 : decode cJ3_checkFromToIndex_8c36e 14 = .ok (.aload_n 3, 1) := by decide +kernel
theorem dJ3_checkFromToIndex_8c36e_15 : decode cJ3_checkFromToIndex_8c36e 15 = .ok (.iload_n 0, 1) := by decide +kernel
theorem dJ3_checkFromToIndex_8c36e_16 : decode cJ3_checkFromToIndex_8c36e 16 = .ok (.iload_n 1, 1) := by decide +kernel
theorem dJ3_checkFromToIndex_8c36e_17 : decode cJ3_checkFromToIndex_8c36e 17 = .ok (.iload_n 2, 1) := by decide +kernel
theorem dJ3_checkFromToIndex_8c36e_18 : decode cJ3_checkFromToIndex_8c36e 18 = .ok (.invokestatic 99, 3) := by decide +kernel
theorem dJ3_checkFromToIndex_8c36e_21 : decode cJ3_checkFromToIndex_8c36e 21 = .ok (.athrow, 1) := by decide +kernel
theorem dJ3_checkFromToIndex_8c36e_22 : decode cJ3_checkFromToIndex_8c36e 22 = .ok (.iload_n 0, 1) := by decide +kernel
theorem dJ3_checkFromToIndex_8c36e_23 : decode cJ3_checkFromToIndex_8c36e 23 = .ok (.ireturn, 1) := by decide +kernel
