theorem dX0_init_0 : decode cX0_init 0 = .ok (.aload_n 0, 1) := by decide +kernel
theorem dX0_init_1 : decode cX0_init 1 = .ok (.invokespecial 3, 3) := by decide +kernel
theorem dX0_init_4 : decode cX0_init 4 = .ok (.aload_n 0, 1) := by decide +kernel
theorem dX0_init_5 : decode cX0_init 5 = .ok (.bipush 6, 2) := by decide +kernel
theorem dX0_init_7 : decode cX0_init 7 = .ok (.newarray .boolean, 2) := by decide +kernel
theorem dX0_init_9 : decode cX0_init 9 = .ok (.putfield 9, 3) := by decide +kernel
theorem dX0_init_12 : decode cX0_init 12 = .ok (.aload_n 0, 1) := by decide +kernel
theorem dX0_init_13 : decode cX0_init 13 = .ok (.bipush 6, 2) := by decide +kernel
theorem dX0_init_15 : decode cX0_init 15 = .ok (.newarray .int, 2) := by decide +kernel
theorem dX0_init_17 : decode cX0_init 17 = .ok (.putfield 15, 3) := by decide +kernel
theorem dX0_init_20 : decode cX0_init 20 = .ok (.aload_n 0, 1) := by decide +kernel
theorem dX0_init_21 : decode cX0_init 21 = .ok (.bipush 6, 2) := by decide +kernel
theorem dX0_init_23 : decode cX0_init 23 = .ok (.newarray .int, 2) := by decide +kernel
theorem dX0_init_25 : decode cX0_init 25 = .ok (.putfield 19, 3) := by decide +kernel
theorem dX0_init_28 : decode cX0_init 28 = .ok (.aload_n 0, 1) := by decide +kernel
theorem dX0_init_29 : decode cX0_init 29 = .ok (.new 22, 3) := by decide +kernel
theorem dX0_init_32 : decode cX0_init 32 = .ok (.dup, 1) := by decide +kernel
theorem dX0_init_33 : decode cX0_init 33 = .ok (.invokespecial 24, 3) := by decide +kernel
theorem dX0_init_36 : decode cX0_init 36 = .ok (.putfield 25, 3) := by decide +kernel
theorem dX0_init_39 : decode cX0_init 39 = .ok (.aload_n 0, 1) := by decide +kernel
theorem dX0_init_40 : decode cX0_init 40 = .ok (.bipush 6, 2) := by decide +kernel
theorem dX0_init_42 : decode cX0_init 42 = .ok (.newarray .int, 2) := by decide +kernel
theorem dX0_init_44 : decode cX0_init 44 = .ok (.putfield 29, 3) := by decide +kernel
theorem dX0_init_47 : decode cX0_init 47 = .ok (.aload_n 0, 1) := by decide +kernel
theorem dX0_init_48 : decode cX0_init 48 = .ok (.iconst 4, 1) := by decide +kernel
theorem dX0_init_49 : decode cX0_init 49 = .ok (.anewarray 32, 3) := by decide +kernel
theorem dX0_init_52 : decode cX0_init 52 = .ok (.putfield 34, 3) := by decide +kernel
theorem dX0_init_55 : decode cX0_init 55 = .ok (.aload_n 0, 1) := by decide +kernel
theorem dX0_init_56 : decode cX0_init 56 = .ok (.iconst 4, 1) := by decide +kernel
theorem dX0_init_57 : decode cX0_init 57 = .ok (.newarray .int, 2) := by decide +kernel
theorem dX0_init_59 : decode cX0_init 59 = .ok (.putfield 38, 3) := by decide +kernel
theorem dX0_init_62 : decode cX0_init 62 = .ok (.return_, 1) := by decide +kernel
theorem dX0_copy_0 : decode cX0_copy 0 = .ok (.aload_n 0, 1) := by decide +kernel
theorem dX0_copy_1 : decode cX0_copy 1 = .ok (.aload_n 1, 1) := by decide +kernel
theorem dX0_copy_2 : decode cX0_copy 2 = .ok (.getfield 41, 3) := by decide +kernel
theorem dX0_copy_5 : decode cX0_copy 5 = .ok (.putfield 41, 3) := by decide +kernel
theorem dX0_copy_8 : decode cX0_copy 8 = .ok (.iconst 0, 1) := by decide +kernel
theorem dX0_copy_9 : decode cX0_copy 9 = .ok (.istore_n 2, 1) := by decide +kernel
theorem dX0_copy_10 : decode cX0_copy 10 = .ok (.iload_n 2, 1) := by decide +kernel
theorem dX0_copy_11 : decode cX0_copy 11 = .ok (.bipush 6, 2) := by decide +kernel
theorem dX0_copy_13 : decode cX0_copy 13 = .ok (.if_icmp .ge 57, 3) := by decide +kernel
theorem dX0_copy_16 : decode cX0_copy 16 = .ok (.aload_n 0, 1) := by decide +kernel
theorem dX0_copy_17 : decode cX0_copy 17 = .ok (.getfield 9, 3) := by decide +kernel
theorem dX0_copy_20 : decode cX0_copy 20 = .ok (.iload_n 2, 1) := by decide +kernel
theorem dX0_copy_21 : decode cX0_copy 21 = .ok (.aload_n 1, 1) := by decide +kernel
theorem dX0_copy_22 : decode cX0_copy 22 = .ok (.getfield 9, 3) := by decide +kernel
theorem dX0_copy_25 : decode cX0_copy 25 = .ok (.iload_n 2, 1) := by decide +kernel
theorem dX0_copy_26 : decode cX0_copy 26 = .ok (.baload, 1) := by decide +kernel
theorem dX0_copy_27 : decode cX0_copy 27 = .ok (.bastore, 1) := by decide +kernel
theorem dX0_copy_28 : decode cX0_copy 28 = .ok (.aload_n 0, 1) := by decide +kernel
theorem dX0_copy_29 : decode cX0_copy 29 = .ok (.getfield 15, 3) := by decide +kernel
theorem dX0_copy_32 : decode cX0_copy 32 = .ok (.iload_n 2, 1) := by decide +kernel
theorem dX0_copy_33 : decode cX0_copy 33 = .ok (.aload_n 1, 1) := by decide +kernel
theorem dX0_copy_34 : decode cX0_copy 34 = .ok (.getfield 15, 3) := by decide +kernel
theorem dX0_copy_37 : decode cX0_copy 37 = .ok (.iload_n 2, 1) := by decide +kernel
theorem dX0_copy_38 : decode cX0_copy 38 = .ok (.iaload, 1) := by decide +kernel
theorem dX0_copy_39 : decode cX0_copy 39 = .ok (.iastore, 1) := by decide +kernel
theorem dX0_copy_40 : decode cX0_copy 40 = .ok (.aload_n 0, 1) := by decide +kernel
theorem dX0_copy_41 : decode cX0_copy 41 = .ok (.getfield 19, 3) := by decide +kernel
theorem dX0_copy_44 : decode cX0_copy 44 = .ok (.iload_n 2, 1) := by decide +kernel
theorem dX0_copy_45 : decode cX0_copy 45 = .ok (.aload_n 1, 1) := by decide +kernel
theorem dX0_copy_46 : decode cX0_copy 46 = .ok (.getfield 19, 3) := by decide +kernel
theorem dX0_copy_49 : decode cX0_copy 49 = .ok (.iload_n 2, 1) := by decide +kernel
theorem dX0_copy_50 : decode cX0_copy 50 = .ok (.iaload, 1) := by decide +kernel
theorem dX0_copy_51 : decode cX0_copy 51 = .ok (.iastore, 1) := by decide +kernel
theorem dX0_copy_52 : decode cX0_copy 52 = .ok (.aload_n 0, 1) := by decide +kernel
theorem dX0_copy_53 : decode cX0_copy 53 = .ok (.getfield 29, 3) := by decide +kernel
theorem dX0_copy_56 : decode cX0_copy 56 = .ok (.iload_n 2, 1) := by decide +kernel
theorem dX0_copy_57 : decode cX0_copy 57 = .ok (.aload_n 1, 1) := by decide +kernel
theorem dX0_copy_58 : decode cX0_copy 58 = .ok (.getfield 29, 3) := by decide +kernel
theorem dX0_copy_61 : decode cX0_copy 61 = .ok (.iload_n 2, 1) := by decide +kernel
theorem dX0_copy_62 : decode cX0_copy 62 = .ok (.iaload, 1) := by decide +kernel
theorem dX0_copy_63 : decode cX0_copy 63 = .ok (.iastore, 1) := by decide +kernel
theorem dX0_copy_64 : decode cX0_copy 64 = .ok (.iinc 2 1, 3) := by decide +kernel
theorem dX0_copy_67 : decode cX0_copy 67 = .ok (.goto (-57), 3) := by decide +kernel
theorem dX0_copy_70 : decode cX0_copy 70 = .ok (.aload_n 0, 1) := by decide +kernel
theorem dX0_copy_71 : decode cX0_copy 71 = .ok (.getfield 25, 3) := by decide +kernel
theorem dX0_copy_74 : decode cX0_copy 74 = .ok (.aload_n 1, 1) := by decide +kernel
theorem dX0_copy_75 : decode cX0_copy 75 = .ok (.getfield 25, 3) := by decide +kernel
theorem dX0_copy_78 : decode cX0_copy 78 = .ok (.invokevirtual 45, 3) := by decide +kernel
theorem dX0_copy_81 : decode cX0_copy 81 = .ok (.aload_n 0, 1) := by decide +kernel
theorem dX0_copy_82 : decode cX0_copy 82 = .ok (.aload_n 1, 1) := by decide +kernel
theorem dX0_copy_83 : decode cX0_copy 83 = .ok (.getfield 49, 3) := by decide +kernel
theorem dX0_copy_86 : decode cX0_copy 86 = .ok (.putfield 49, 3) := by decide +kernel
theorem dX0_copy_89 : decode cX0_copy 89 = .ok (.iconst 0, 1) := by decide +kernel
theorem dX0_copy_90 : decode cX0_copy 90 = .ok (.istore_n 2, 1) := by decide +kernel
theorem dX0_copy_91 : decode cX0_copy 91 = .ok (.iload_n 2, 1) := by decide +kernel
theorem dX0_copy_92 : decode cX0_copy 92 = .ok (.iconst 4, 1) := by decide +kernel
theorem dX0_copy_93 : decode cX0_copy 93 = .ok (.if_icmp .ge 33, 3) := by decide +kernel
theorem dX0_copy_96 : decode cX0_copy 96 = .ok (.aload_n 0, 1) := by decide +kernel
theorem dX0_copy_97 : decode cX0_copy 97 = .ok (.getfield 34, 3) := by decide +kernel
theorem dX0_copy_100 : decode cX0_copy 100 = .ok (.iload_n 2, 1) := by decide +kernel
theorem dX0_copy_101 : decode cX0_copy 101 = .ok (.aload_n 1, 1) := by decide +kernel
theorem dX0_copy_102 : decode cX0_copy 102 = .ok (.getfield 34, 3) := by decide +kernel
theorem dX0_copy_105 : decode cX0_copy 105 = .ok (.iload_n 2, 1) := by decide +kernel
theorem dX0_copy_106 : decode cX0_copy 106 = .ok (.aaload, 1) := by decide +kernel
theorem dX0_copy_107 : decode cX0_copy 107 = .ok (.aastore, 1) := by decide +kernel
theorem dX0_copy_108 : decode cX0_copy 108 = .ok (.aload_n 0, 1) := by decide +kernel
theorem dX0_copy_109 : decode cX0_copy 109 = .ok (.getfield 38, 3) := by decide +kernel
theorem dX0_copy_112 : decode cX0_copy 112 = .ok (.iload_n 2, 1) := by decide +kernel
theorem dX0_copy_113 : decode cX0_copy 113 = .ok (.aload_n 1, 1) := by decide +kernel
theorem dX0_copy_114 : decode cX0_copy 114 = .ok (.getfield 38, 3) := by decide +kernel
theorem dX0_copy_117 : decode cX0_copy 117 = .ok (.iload_n 2, 1) := by decide +kernel
theorem dX0_copy_118 : decode cX0_copy 118 = .ok (.iaload, 1) := by decide +kernel
theorem dX0_copy_119 : decode cX0_copy 119 = .ok (.iastore, 1) := by decide +kernel
theorem dX0_copy_120 : decode cX0_copy 120 = .ok (.iinc 2 1, 3) := by decide +kernel
theorem dX0_copy_123 : decode cX0_copy 123 = .ok (.goto (-32), 3) := by decide +kernel
theorem dX0_copy_126 : decode cX0_copy 126 = .ok (.aload_n 0, 1) := by decide +kernel
theorem dX0_copy_127 : decode cX0_copy 127 = .ok (.aload_n 1, 1) := by decide +kernel
theorem dX0_copy_128 : decode cX0_copy 128 = .ok (.getfield 52, 3) := by decide +kernel
theorem dX0_copy_131 : decode cX0_copy 131 = .ok (.putfield 52, 3) := by decide +kernel
theorem dX0_copy_134 : decode cX0_copy 134 = .ok (.aload_n 0, 1) := by decide +kernel
theorem dX0_copy_135 : decode cX0_copy 135 = .ok (.aload_n 1, 1) := by decide +kernel
theorem dX0_copy_136 : decode cX0_copy 136 = .ok (.getfield 55, 3) := by decide +kernel
theorem dX0_copy_139 : decode cX0_copy 139 = .ok (.putfield 55, 3) := by decide +kernel
theorem dX0_copy_142 : decode cX0_copy 142 = .ok (.return_, 1) := by decide +kernel
theorem dX0_setUp_0 : decode cX0_setUp 0 = .ok (.aload_n 0, 1) := by decide +kernel
theorem dX0_setUp_1 : decode cX0_setUp 1 = .ok (.getfield 41, 3) := by decide +kernel
theorem dX0_setUp_4 : decode cX0_setUp 4 = .ok (.istore 4, 2) := by decide +kernel
theorem dX0_setUp_6 : decode cX0_setUp 6 = .ok (.iload 4, 2) := by decide +kernel
theorem dX0_setUp_8 : decode cX0_setUp 8 = .ok (.ifCond .lt 10, 3) := by decide +kernel
theorem dX0_setUp_11 : decode cX0_setUp 11 = .ok (.iload 4, 2) := by decide +kernel
theorem dX0_setUp_13 : decode cX0_setUp 13 = .ok (.bipush 6, 2) := by decide +kernel
theorem dX0_setUp_15 : decode cX0_setUp 15 = .ok (.if_icmp .lt 5, 3) := by decide +kernel
theorem dX0_setUp_18 : decode cX0_setUp 18 = .ok (.iconst (-1), 1) := by decide +kernel
theorem dX0_setUp_19 : decode cX0_setUp 19 = .ok (.ireturn, 1) := by decide +kernel
theorem dX0_setUp_20 : decode cX0_setUp 20 = .ok (.aload_n 0, 1) := by decide +kernel
theorem dX0_setUp_21 : decode cX0_setUp 21 = .ok (.dup, 1) := by decide +kernel
theorem dX0_setUp_22 : decode cX0_setUp 22 = .ok (.getfield 41, 3) := by decide +kernel
theorem dX0_setUp_25 : decode cX0_setUp 25 = .ok (.iconst 1, 1) := by decide +kernel
theorem dX0_setUp_26 : decode cX0_setUp 26 = .ok (.iadd, 1) := by decide +kernel
theorem dX0_setUp_27 : decode cX0_setUp 27 = .ok (.putfield 41, 3) := by decide +kernel
theorem dX0_setUp_30 : decode cX0_setUp 30 = .ok (.aload_n 0, 1) := by decide +kernel
theorem dX0_setUp_31 : decode cX0_setUp 31 = .ok (.getfield 9, 3) := by decide +kernel
theorem dX0_setUp_34 : decode cX0_setUp 34 = .ok (.iload 4, 2) := by decide +kernel
theorem dX0_setUp_36 : decode cX0_setUp 36 = .ok (.iload_n 1, 1) := by decide +kernel
theorem dX0_setUp_37 : decode cX0_setUp 37 = .ok (.bastore, 1) := by decide +kernel
theorem dX0_setUp_38 : decode cX0_setUp 38 = .ok (.aload_n 0, 1) := by decide +kernel
theorem dX0_setUp_39 : decode cX0_setUp 39 = .ok (.getfield 15, 3) := by decide +kernel
theorem dX0_setUp_42 : decode cX0_setUp 42 = .ok (.iload 4, 2) := by decide +kernel
theorem dX0_setUp_44 : decode cX0_setUp 44 = .ok (.iload_n 2, 1) := by decide +kernel
theorem dX0_setUp_45 : decode cX0_setUp 45 = .ok (.iastore, 1) := by decide +kernel
theorem dX0_setUp_46 : decode cX0_setUp 46 = .ok (.aload_n 0, 1) := by decide +kernel
theorem dX0_setUp_47 : decode cX0_setUp 47 = .ok (.getfield 19, 3) := by decide +kernel
theorem dX0_setUp_50 : decode cX0_setUp 50 = .ok (.iload 4, 2) := by decide +kernel
theorem dX0_setUp_52 : decode cX0_setUp 52 = .ok (.iload_n 3, 1) := by decide +kernel
theorem dX0_setUp_53 : decode cX0_setUp 53 = .ok (.iastore, 1) := by decide +kernel
theorem dX0_setUp_54 : decode cX0_setUp 54 = .ok (.aload_n 0, 1) := by decide +kernel
theorem dX0_setUp_55 : decode cX0_setUp 55 = .ok (.getfield 25, 3) := by decide +kernel
theorem dX0_setUp_58 : decode cX0_setUp 58 = .ok (.getfield 58, 3) := by decide +kernel
theorem dX0_setUp_61 : decode cX0_setUp 61 = .ok (.iload 4, 2) := by decide +kernel
theorem dX0_setUp_63 : decode cX0_setUp 63 = .ok (.iload_n 2, 1) := by decide +kernel
theorem dX0_setUp_64 : decode cX0_setUp 64 = .ok (.iload_n 3, 1) := by decide +kernel
theorem dX0_setUp_65 : decode cX0_setUp 65 = .ok (.iconst 0, 1) := by decide +kernel
theorem dX0_setUp_66 : decode cX0_setUp 66 = .ok (.invokestatic 61, 3) := by decide +kernel
theorem dX0_setUp_69 : decode cX0_setUp 69 = .ok (.invokestatic 67, 3) := by decide +kernel
theorem dX0_setUp_72 : decode cX0_setUp 72 = .ok (.iastore, 1) := by decide +kernel
theorem dX0_setUp_73 : decode cX0_setUp 73 = .ok (.aload_n 0, 1) := by decide +kernel
theorem dX0_setUp_74 : decode cX0_setUp 74 = .ok (.getfield 25, 3) := by decide +kernel
theorem dX0_setUp_77 : decode cX0_setUp 77 = .ok (.getfield 70, 3) := by decide +kernel
theorem dX0_setUp_80 : decode cX0_setUp 80 = .ok (.iload 4, 2) := by decide +kernel
theorem dX0_setUp_82 : decode cX0_setUp 82 = .ok (.fconst 0, 1) := by decide +kernel
theorem dX0_setUp_83 : decode cX0_setUp 83 = .ok (.fastore, 1) := by decide +kernel
theorem dX0_setUp_84 : decode cX0_setUp 84 = .ok (.aload_n 0, 1) := by decide +kernel
theorem dX0_setUp_85 : decode cX0_setUp 85 = .ok (.getfield 29, 3) := by decide +kernel
theorem dX0_setUp_88 : decode cX0_setUp 88 = .ok (.iload 4, 2) := by decide +kernel
theorem dX0_setUp_90 : decode cX0_setUp 90 = .ok (.iconst 0, 1) := by decide +kernel
theorem dX0_setUp_91 : decode cX0_setUp 91 = .ok (.iastore, 1) := by decide +kernel
theorem dX0_setUp_92 : decode cX0_setUp 92 = .ok (.iload 4, 2) := by decide +kernel
theorem dX0_setUp_94 : decode cX0_setUp 94 = .ok (.ireturn, 1) := by decide +kernel
theorem dX0_holds_0 : decode cX0_holds 0 = .ok (.lload_n 2, 1) := by decide +kernel
theorem dX0_holds_1 : decode cX0_holds 1 = .ok (.aload_n 0, 1) := by decide +kernel
theorem dX0_holds_2 : decode cX0_holds 2 = .ok (.getfield 15, 3) := by decide +kernel
theorem dX0_holds_5 : decode cX0_holds 5 = .ok (.iload_n 1, 1) := by decide +kernel
theorem dX0_holds_6 : decode cX0_holds 6 = .ok (.iaload, 1) := by decide +kernel
theorem dX0_holds_7 : decode cX0_holds 7 = .ok (.i2l, 1) := by decide +kernel
theorem dX0_holds_8 : decode cX0_holds 8 = .ok (.lcmp, 1) := by decide +kernel
theorem dX0_holds_9 : decode cX0_holds 9 = .ok (.ifCond .lt 19, 3) := by decide +kernel
theorem dX0_holds_12 : decode cX0_holds 12 = .ok (.lload_n 2, 1) := by decide +kernel
theorem dX0_holds_13 : decode cX0_holds 13 = .ok (.aload_n 0, 1) := by decide +kernel
theorem dX0_holds_14 : decode cX0_holds 14 = .ok (.getfield 19, 3) := by decide +kernel
theorem dX0_holds_17 : decode cX0_holds 17 = .ok (.iload_n 1, 1) := by decide +kernel
theorem dX0_holds_18 : decode cX0_holds 18 = .ok (.iaload, 1) := by decide +kernel
theorem dX0_holds_19 : decode cX0_holds 19 = .ok (.i2l, 1) := by decide +kernel
theorem dX0_holds_20 : decode cX0_holds 20 = .ok (.lcmp, 1) := by decide +kernel
theorem dX0_holds_21 : decode cX0_holds 21 = .ok (.ifCond .gt 7, 3) := by decide +kernel
theorem dX0_holds_24 : decode cX0_holds 24 = .ok (.iconst 1, 1) := by decide +kernel
theorem dX0_holds_25 : decode cX0_holds 25 = .ok (.goto 4, 3) := by decide +kernel
theorem dX0_holds_28 : decode cX0_holds 28 = .ok (.iconst 0, 1) := by decide +kernel
theorem dX0_holds_29 : decode cX0_holds 29 = .ok (.ireturn, 1) := by decide +kernel
theorem dX0_cutContent_0 : decode cX0_cutContent 0 = .ok (.aload_n 0, 1) := by decide +kernel
theorem dX0_cutContent_1 : decode cX0_cutContent 1 = .ok (.getfield 25, 3) := by decide +kernel
theorem dX0_cutContent_4 : decode cX0_cutContent 4 = .ok (.aload_n 0, 1) := by decide +kernel
theorem dX0_cutContent_5 : decode cX0_cutContent 5 = .ok (.getfield 9, 3) := by decide +kernel
theorem dX0_cutContent_8 : decode cX0_cutContent 8 = .ok (.iload_n 1, 1) := by decide +kernel
theorem dX0_cutContent_9 : decode cX0_cutContent 9 = .ok (.baload, 1) := by decide +kernel
theorem dX0_cutContent_10 : decode cX0_cutContent 10 = .ok (.iload_n 1, 1) := by decide +kernel
theorem dX0_cutContent_11 : decode cX0_cutContent 11 = .ok (.invokevirtual 74, 3) := by decide +kernel
theorem dX0_cutContent_14 : decode cX0_cutContent 14 = .ok (.ireturn, 1) := by decide +kernel
theorem dX0_cauldronsOfBroth_0 : decode cX0_cauldronsOfBroth 0 = .ok (.iconst 0, 1) := by decide +kernel
theorem dX0_cauldronsOfBroth_1 : decode cX0_cauldronsOfBroth 1 = .ok (.istore_n 1, 1) := by decide +kernel
theorem dX0_cauldronsOfBroth_2 : decode cX0_cauldronsOfBroth 2 = .ok (.iconst 0, 1) := by decide +kernel
theorem dX0_cauldronsOfBroth_3 : decode cX0_cauldronsOfBroth 3 = .ok (.istore_n 2, 1) := by decide +kernel
theorem dX0_cauldronsOfBroth_4 : decode cX0_cauldronsOfBroth 4 = .ok (.iload_n 2, 1) := by decide +kernel
theorem dX0_cauldronsOfBroth_5 : decode cX0_cauldronsOfBroth 5 = .ok (.aload_n 0, 1) := by decide +kernel
theorem dX0_cauldronsOfBroth_6 : decode cX0_cauldronsOfBroth 6 = .ok (.getfield 41, 3) := by decide +kernel
theorem dX0_cauldronsOfBroth_9 : decode cX0_cauldronsOfBroth 9 = .ok (.if_icmp .ge 21, 3) := by decide +kernel
theorem dX0_cauldronsOfBroth_12 : decode cX0_cauldronsOfBroth 12 = .ok (.aload_n 0, 1) := by decide +kernel
theorem dX0_cauldronsOfBroth_13 : decode cX0_cauldronsOfBroth 13 = .ok (.getfield 9, 3) := by decide +kernel
theorem dX0_cauldronsOfBroth_16 : decode cX0_cauldronsOfBroth 16 = .ok (.iload_n 2, 1) := by decide +kernel
theorem dX0_cauldronsOfBroth_17 : decode cX0_cauldronsOfBroth 17 = .ok (.baload, 1) := by decide +kernel
theorem dX0_cauldronsOfBroth_18 : decode cX0_cauldronsOfBroth 18 = .ok (.ifCond .eq 6, 3) := by decide +kernel
theorem dX0_cauldronsOfBroth_21 : decode cX0_cauldronsOfBroth 21 = .ok (.iinc 1 1, 3) := by decide +kernel
theorem dX0_cauldronsOfBroth_24 : decode cX0_cauldronsOfBroth 24 = .ok (.iinc 2 1, 3) := by decide +kernel
theorem dX0_cauldronsOfBroth_27 : decode cX0_cauldronsOfBroth 27 = .ok (.goto (-23), 3) := by decide +kernel
theorem dX0_cauldronsOfBroth_30 : decode cX0_cauldronsOfBroth 30 = .ok (.iload_n 1, 1) := by decide +kernel
theorem dX0_cauldronsOfBroth_31 : decode cX0_cauldronsOfBroth 31 = .ok (.ireturn, 1) := by decide +kernel
theorem dX0_allDrams_0 : decode cX0_allDrams 0 = .ok (.iconst 0, 1) := by decide +kernel
theorem dX0_allDrams_1 : decode cX0_allDrams 1 = .ok (.istore_n 1, 1) := by decide +kernel
theorem dX0_allDrams_2 : decode cX0_allDrams 2 = .ok (.iconst 0, 1) := by decide +kernel
theorem dX0_allDrams_3 : decode cX0_allDrams 3 = .ok (.istore_n 2, 1) := by decide +kernel
theorem dX0_allDrams_4 : decode cX0_allDrams 4 = .ok (.iload_n 2, 1) := by decide +kernel
theorem dX0_allDrams_5 : decode cX0_allDrams 5 = .ok (.aload_n 0, 1) := by decide +kernel
theorem dX0_allDrams_6 : decode cX0_allDrams 6 = .ok (.getfield 41, 3) := by decide +kernel
theorem dX0_allDrams_9 : decode cX0_allDrams 9 = .ok (.if_icmp .ge 30, 3) := by decide +kernel
theorem dX0_allDrams_12 : decode cX0_allDrams 12 = .ok (.aload_n 0, 1) := by decide +kernel
theorem dX0_allDrams_13 : decode cX0_allDrams 13 = .ok (.getfield 9, 3) := by decide +kernel
theorem dX0_allDrams_16 : decode cX0_allDrams 16 = .ok (.iload_n 2, 1) := by decide +kernel
theorem dX0_allDrams_17 : decode cX0_allDrams 17 = .ok (.baload, 1) := by decide +kernel
theorem dX0_allDrams_18 : decode cX0_allDrams 18 = .ok (.ifCond .ne 15, 3) := by decide +kernel
theorem dX0_allDrams_21 : decode cX0_allDrams 21 = .ok (.iload_n 1, 1) := by decide +kernel
theorem dX0_allDrams_22 : decode cX0_allDrams 22 = .ok (.aload_n 0, 1) := by decide +kernel
theorem dX0_allDrams_23 : decode cX0_allDrams 23 = .ok (.getfield 25, 3) := by decide +kernel
theorem dX0_allDrams_26 : decode cX0_allDrams 26 = .ok (.getfield 58, 3) := by decide +kernel
theorem dX0_allDrams_29 : decode cX0_allDrams 29 = .ok (.iload_n 2, 1) := by decide +kernel
theorem dX0_allDrams_30 : decode cX0_allDrams 30 = .ok (.iaload, 1) := by decide +kernel
theorem dX0_allDrams_31 : decode cX0_allDrams 31 = .ok (.iadd, 1) := by decide +kernel
theorem dX0_allDrams_32 : decode cX0_allDrams 32 = .ok (.istore_n 1, 1) := by decide +kernel
theorem dX0_allDrams_33 : decode cX0_allDrams 33 = .ok (.iinc 2 1, 3) := by decide +kernel
theorem dX0_allDrams_36 : decode cX0_allDrams 36 = .ok (.goto (-32), 3) := by decide +kernel
theorem dX0_allDrams_39 : decode cX0_allDrams 39 = .ok (.iload_n 1, 1) := by decide +kernel
theorem dX0_allDrams_40 : decode cX0_allDrams 40 = .ok (.ireturn, 1) := by decide +kernel
theorem dX0_spellAt_0 : decode cX0_spellAt 0 = .ok (.iload_n 1, 1) := by decide +kernel
theorem dX0_spellAt_1 : decode cX0_spellAt 1 = .ok (.ifCond .lt 25, 3) := by decide +kernel
theorem dX0_spellAt_4 : decode cX0_spellAt 4 = .ok (.iload_n 1, 1) := by decide +kernel
theorem dX0_spellAt_5 : decode cX0_spellAt 5 = .ok (.aload_n 0, 1) := by decide +kernel
theorem dX0_spellAt_6 : decode cX0_spellAt 6 = .ok (.getfield 49, 3) := by decide +kernel
theorem dX0_spellAt_9 : decode cX0_spellAt 9 = .ok (.if_icmp .ge 17, 3) := by decide +kernel
theorem dX0_spellAt_12 : decode cX0_spellAt 12 = .ok (.iload_n 1, 1) := by decide +kernel
theorem dX0_spellAt_13 : decode cX0_spellAt 13 = .ok (.iconst 4, 1) := by decide +kernel
theorem dX0_spellAt_14 : decode cX0_spellAt 14 = .ok (.if_icmp .ge 12, 3) := by decide +kernel
theorem dX0_spellAt_17 : decode cX0_spellAt 17 = .ok (.aload_n 0, 1) := by decide +kernel
theorem dX0_spellAt_18 : decode cX0_spellAt 18 = .ok (.getfield 34, 3) := by decide +kernel
theorem dX0_spellAt_21 : decode cX0_spellAt 21 = .ok (.iload_n 1, 1) := by decide +kernel
theorem dX0_spellAt_22 : decode cX0_spellAt 22 = .ok (.aaload, 1) := by decide +kernel
theorem dX0_spellAt_23 : decode cX0_spellAt 23 = .ok (.goto 4, 3) := by decide +kernel
theorem dX0_spellAt_26 : decode cX0_spellAt 26 = .ok (.aconst_null, 1) := by decide +kernel
theorem dX0_spellAt_27 : decode cX0_spellAt 27 = .ok (.areturn, 1) := by decide +kernel
theorem dX0_putDown_0 : decode cX0_putDown 0 = .ok (.aload_n 0, 1) := by decide +kernel
theorem dX0_putDown_1 : decode cX0_putDown 1 = .ok (.getfield 49, 3) := by decide +kernel
theorem dX0_putDown_4 : decode cX0_putDown 4 = .ok (.istore_n 2, 1) := by decide +kernel
theorem dX0_putDown_5 : decode cX0_putDown 5 = .ok (.iload_n 2, 1) := by decide +kernel
theorem dX0_putDown_6 : decode cX0_putDown 6 = .ok (.ifCond .lt 8, 3) := by decide +kernel
theorem dX0_putDown_9 : decode cX0_putDown 9 = .ok (.iload_n 2, 1) := by decide +kernel
theorem dX0_putDown_10 : decode cX0_putDown 10 = .ok (.iconst 4, 1) := by decide +kernel
theorem dX0_putDown_11 : decode cX0_putDown 11 = .ok (.if_icmp .lt 5, 3) := by decide +kernel
theorem dX0_putDown_14 : decode cX0_putDown 14 = .ok (.iconst (-1), 1) := by decide +kernel
theorem dX0_putDown_15 : decode cX0_putDown 15 = .ok (.ireturn, 1) := by decide +kernel
theorem dX0_putDown_16 : decode cX0_putDown 16 = .ok (.aload_n 0, 1) := by decide +kernel
theorem dX0_putDown_17 : decode cX0_putDown 17 = .ok (.dup, 1) := by decide +kernel
theorem dX0_putDown_18 : decode cX0_putDown 18 = .ok (.getfield 49, 3) := by decide +kernel
theorem dX0_putDown_21 : decode cX0_putDown 21 = .ok (.iconst 1, 1) := by decide +kernel
theorem dX0_putDown_22 : decode cX0_putDown 22 = .ok (.iadd, 1) := by decide +kernel
theorem dX0_putDown_23 : decode cX0_putDown 23 = .ok (.putfield 49, 3) := by decide +kernel
theorem dX0_putDown_26 : decode cX0_putDown 26 = .ok (.aload_n 0, 1) := by decide +kernel
theorem dX0_putDown_27 : decode cX0_putDown 27 = .ok (.getfield 34, 3) := by decide +kernel
theorem dX0_putDown_30 : decode cX0_putDown 30 = .ok (.iload_n 2, 1) := by decide +kernel
theorem dX0_putDown_31 : decode cX0_putDown 31 = .ok (.aload_n 1, 1) := by decide +kernel
theorem dX0_putDown_32 : decode cX0_putDown 32 = .ok (.aastore, 1) := by decide +kernel
theorem dX0_putDown_33 : decode cX0_putDown 33 = .ok (.aload_n 0, 1) := by decide +kernel
theorem dX0_putDown_34 : decode cX0_putDown 34 = .ok (.getfield 38, 3) := by decide +kernel
theorem dX0_putDown_37 : decode cX0_putDown 37 = .ok (.iload_n 2, 1) := by decide +kernel
theorem dX0_putDown_38 : decode cX0_putDown 38 = .ok (.iconst 0, 1) := by decide +kernel
theorem dX0_putDown_39 : decode cX0_putDown 39 = .ok (.iastore, 1) := by decide +kernel
theorem dX0_putDown_40 : decode cX0_putDown 40 = .ok (.iload_n 2, 1) := by decide +kernel
theorem dX0_putDown_41 : decode cX0_putDown 41 = .ok (.ireturn, 1) := by decide +kernel
theorem dX0_strikeOut_0 : decode cX0_strikeOut 0 = .ok (.iload_n 1, 1) := by decide +kernel
theorem dX0_strikeOut_1 : decode cX0_strikeOut 1 = .ok (.iconst 0, 1) := by decide +kernel
theorem dX0_strikeOut_2 : decode cX0_strikeOut 2 = .ok (.invokestatic 67, 3) := by decide +kernel
theorem dX0_strikeOut_5 : decode cX0_strikeOut 5 = .ok (.istore_n 2, 1) := by decide +kernel
theorem dX0_strikeOut_6 : decode cX0_strikeOut 6 = .ok (.iload_n 2, 1) := by decide +kernel
theorem dX0_strikeOut_7 : decode cX0_strikeOut 7 = .ok (.iconst 3, 1) := by decide +kernel
theorem dX0_strikeOut_8 : decode cX0_strikeOut 8 = .ok (.if_icmp .ge 37, 3) := by decide +kernel
theorem dX0_strikeOut_11 : decode cX0_strikeOut 11 = .ok (.aload_n 0, 1) := by decide +kernel
theorem dX0_strikeOut_12 : decode cX0_strikeOut 12 = .ok (.getfield 34, 3) := by decide +kernel
theorem dX0_strikeOut_15 : decode cX0_strikeOut 15 = .ok (.iload_n 2, 1) := by decide +kernel
theorem dX0_strikeOut_16 : decode cX0_strikeOut 16 = .ok (.aload_n 0, 1) := by decide +kernel
theorem dX0_strikeOut_17 : decode cX0_strikeOut 17 = .ok (.getfield 34, 3) := by decide +kernel
theorem dX0_strikeOut_20 : decode cX0_strikeOut 20 = .ok (.iload_n 2, 1) := by decide +kernel
theorem dX0_strikeOut_21 : decode cX0_strikeOut 21 = .ok (.iconst 1, 1) := by decide +kernel
theorem dX0_strikeOut_22 : decode cX0_strikeOut 22 = .ok (.iadd, 1) := by decide +kernel
theorem dX0_strikeOut_23 : decode cX0_strikeOut 23 = .ok (.aaload, 1) := by decide +kernel
theorem dX0_strikeOut_24 : decode cX0_strikeOut 24 = .ok (.aastore, 1) := by decide +kernel
theorem dX0_strikeOut_25 : decode cX0_strikeOut 25 = .ok (.aload_n 0, 1) := by decide +kernel
theorem dX0_strikeOut_26 : decode cX0_strikeOut 26 = .ok (.getfield 38, 3) := by decide +kernel
theorem dX0_strikeOut_29 : decode cX0_strikeOut 29 = .ok (.iload_n 2, 1) := by decide +kernel
theorem dX0_strikeOut_30 : decode cX0_strikeOut 30 = .ok (.aload_n 0, 1) := by decide +kernel
theorem dX0_strikeOut_31 : decode cX0_strikeOut 31 = .ok (.getfield 38, 3) := by decide +kernel
theorem dX0_strikeOut_34 : decode cX0_strikeOut 34 = .ok (.iload_n 2, 1) := by decide +kernel
theorem dX0_strikeOut_35 : decode cX0_strikeOut 35 = .ok (.iconst 1, 1) := by decide +kernel
theorem dX0_strikeOut_36 : decode cX0_strikeOut 36 = .ok (.iadd, 1) := by decide +kernel
theorem dX0_strikeOut_37 : decode cX0_strikeOut 37 = .ok (.iaload, 1) := by decide +kernel
theorem dX0_strikeOut_38 : decode cX0_strikeOut 38 = .ok (.iastore, 1) := by decide +kernel
theorem dX0_strikeOut_39 : decode cX0_strikeOut 39 = .ok (.iinc 2 1, 3) := by decide +kernel
theorem dX0_strikeOut_42 : decode cX0_strikeOut 42 = .ok (.goto (-36), 3) := by decide +kernel
theorem dX0_strikeOut_45 : decode cX0_strikeOut 45 = .ok (.aload_n 0, 1) := by decide +kernel
theorem dX0_strikeOut_46 : decode cX0_strikeOut 46 = .ok (.dup, 1) := by decide +kernel
theorem dX0_strikeOut_47 : decode cX0_strikeOut 47 = .ok (.getfield 49, 3) := by decide +kernel
theorem dX0_strikeOut_50 : decode cX0_strikeOut 50 = .ok (.iconst 1, 1) := by decide +kernel
theorem dX0_strikeOut_51 : decode cX0_strikeOut 51 = .ok (.isub, 1) := by decide +kernel
theorem dX0_strikeOut_52 : decode cX0_strikeOut 52 = .ok (.putfield 49, 3) := by decide +kernel
theorem dX0_strikeOut_55 : decode cX0_strikeOut 55 = .ok (.return_, 1) := by decide +kernel
theorem dX0_settle_0 : decode cX0_settle 0 = .ok (.aload_n 0, 1) := by decide +kernel
theorem dX0_settle_1 : decode cX0_settle 1 = .ok (.getfield 25, 3) := by decide +kernel
theorem dX0_settle_4 : decode cX0_settle 4 = .ok (.aload_n 2, 1) := by decide +kernel
theorem dX0_settle_5 : decode cX0_settle 5 = .ok (.getfield 78, 3) := by decide +kernel
theorem dX0_settle_8 : decode cX0_settle 8 = .ok (.invokevirtual 45, 3) := by decide +kernel
theorem dX0_settle_11 : decode cX0_settle 11 = .ok (.iconst 0, 1) := by decide +kernel
theorem dX0_settle_12 : decode cX0_settle 12 = .ok (.istore_n 3, 1) := by decide +kernel
theorem dX0_settle_13 : decode cX0_settle 13 = .ok (.iload_n 3, 1) := by decide +kernel
theorem dX0_settle_14 : decode cX0_settle 14 = .ok (.bipush 6, 2) := by decide +kernel
theorem dX0_settle_16 : decode cX0_settle 16 = .ok (.if_icmp .ge 39, 3) := by decide +kernel
theorem dX0_settle_19 : decode cX0_settle 19 = .ok (.aload_n 0, 1) := by decide +kernel
theorem dX0_settle_20 : decode cX0_settle 20 = .ok (.getfield 29, 3) := by decide +kernel
theorem dX0_settle_23 : decode cX0_settle 23 = .ok (.iload_n 3, 1) := by decide +kernel
theorem dX0_settle_24 : decode cX0_settle 24 = .ok (.dup2, 1) := by decide +kernel
theorem dX0_settle_25 : decode cX0_settle 25 = .ok (.iaload, 1) := by decide +kernel
theorem dX0_settle_26 : decode cX0_settle 26 = .ok (.aload_n 2, 1) := by decide +kernel
theorem dX0_settle_27 : decode cX0_settle 27 = .ok (.getfield 83, 3) := by decide +kernel
theorem dX0_settle_30 : decode cX0_settle 30 = .ok (.iload_n 3, 1) := by decide +kernel
theorem dX0_settle_31 : decode cX0_settle 31 = .ok (.iaload, 1) := by decide +kernel
theorem dX0_settle_32 : decode cX0_settle 32 = .ok (.iadd, 1) := by decide +kernel
theorem dX0_settle_33 : decode cX0_settle 33 = .ok (.iastore, 1) := by decide +kernel
theorem dX0_settle_34 : decode cX0_settle 34 = .ok (.aload_n 0, 1) := by decide +kernel
theorem dX0_settle_35 : decode cX0_settle 35 = .ok (.dup, 1) := by decide +kernel
theorem dX0_settle_36 : decode cX0_settle 36 = .ok (.getfield 55, 3) := by decide +kernel
theorem dX0_settle_39 : decode cX0_settle 39 = .ok (.aload_n 2, 1) := by decide +kernel
theorem dX0_settle_40 : decode cX0_settle 40 = .ok (.getfield 83, 3) := by decide +kernel
theorem dX0_settle_43 : decode cX0_settle 43 = .ok (.iload_n 3, 1) := by decide +kernel
theorem dX0_settle_44 : decode cX0_settle 44 = .ok (.iaload, 1) := by decide +kernel
theorem dX0_settle_45 : decode cX0_settle 45 = .ok (.iadd, 1) := by decide +kernel
theorem dX0_settle_46 : decode cX0_settle 46 = .ok (.putfield 55, 3) := by decide +kernel
theorem dX0_settle_49 : decode cX0_settle 49 = .ok (.iinc 3 1, 3) := by decide +kernel
theorem dX0_settle_52 : decode cX0_settle 52 = .ok (.goto (-39), 3) := by decide +kernel
theorem dX0_settle_55 : decode cX0_settle 55 = .ok (.aload_n 0, 1) := by decide +kernel
theorem dX0_settle_56 : decode cX0_settle 56 = .ok (.getfield 38, 3) := by decide +kernel
theorem dX0_settle_59 : decode cX0_settle 59 = .ok (.iload_n 1, 1) := by decide +kernel
theorem dX0_settle_60 : decode cX0_settle 60 = .ok (.dup2, 1) := by decide +kernel
theorem dX0_settle_61 : decode cX0_settle 61 = .ok (.iaload, 1) := by decide +kernel
theorem dX0_settle_62 : decode cX0_settle 62 = .ok (.iconst 1, 1) := by decide +kernel
theorem dX0_settle_63 : decode cX0_settle 63 = .ok (.iadd, 1) := by decide +kernel
theorem dX0_settle_64 : decode cX0_settle 64 = .ok (.iastore, 1) := by decide +kernel
theorem dX0_settle_65 : decode cX0_settle 65 = .ok (.aload_n 0, 1) := by decide +kernel
theorem dX0_settle_66 : decode cX0_settle 66 = .ok (.dup, 1) := by decide +kernel
theorem dX0_settle_67 : decode cX0_settle 67 = .ok (.getfield 52, 3) := by decide +kernel
theorem dX0_settle_70 : decode cX0_settle 70 = .ok (.iconst 1, 1) := by decide +kernel
theorem dX0_settle_71 : decode cX0_settle 71 = .ok (.iadd, 1) := by decide +kernel
theorem dX0_settle_72 : decode cX0_settle 72 = .ok (.putfield 52, 3) := by decide +kernel
theorem dX0_settle_75 : decode cX0_settle 75 = .ok (.return_, 1) := by decide +kernel
theorem dX0_spellsThat_0 : decode cX0_spellsThat 0 = .ok (.iconst 0, 1) := by decide +kernel
theorem dX0_spellsThat_1 : decode cX0_spellsThat 1 = .ok (.istore_n 3, 1) := by decide +kernel
theorem dX0_spellsThat_2 : decode cX0_spellsThat 2 = .ok (.iconst 0, 1) := by decide +kernel
theorem dX0_spellsThat_3 : decode cX0_spellsThat 3 = .ok (.istore 4, 2) := by decide +kernel
theorem dX0_spellsThat_5 : decode cX0_spellsThat 5 = .ok (.iload 4, 2) := by decide +kernel
theorem dX0_spellsThat_7 : decode cX0_spellsThat 7 = .ok (.aload_n 0, 1) := by decide +kernel
theorem dX0_spellsThat_8 : decode cX0_spellsThat 8 = .ok (.getfield 49, 3) := by decide +kernel
theorem dX0_spellsThat_11 : decode cX0_spellsThat 11 = .ok (.if_icmp .ge 41, 3) := by decide +kernel
theorem dX0_spellsThat_14 : decode cX0_spellsThat 14 = .ok (.aload_n 0, 1) := by decide +kernel
theorem dX0_spellsThat_15 : decode cX0_spellsThat 15 = .ok (.iload 4, 2) := by decide +kernel
theorem dX0_spellsThat_17 : decode cX0_spellsThat 17 = .ok (.invokevirtual 84, 3) := by decide +kernel
theorem dX0_spellsThat_20 : decode cX0_spellsThat 20 = .ok (.astore 5, 2) := by decide +kernel
theorem dX0_spellsThat_22 : decode cX0_spellsThat 22 = .ok (.aload 5, 2) := by decide +kernel
theorem dX0_spellsThat_24 : decode cX0_spellsThat 24 = .ok (.ifnull 22, 3) := by decide +kernel
theorem dX0_spellsThat_27 : decode cX0_spellsThat 27 = .ok (.aload 5, 2) := by decide +kernel
theorem dX0_spellsThat_29 : decode cX0_spellsThat 29 = .ok (.iload_n 1, 1) := by decide +kernel
theorem dX0_spellsThat_30 : decode cX0_spellsThat 30 = .ok (.iload_n 2, 1) := by decide +kernel
theorem dX0_spellsThat_31 : decode cX0_spellsThat 31 = .ok (.aload 5, 2) := by decide +kernel
theorem dX0_spellsThat_33 : decode cX0_spellsThat 33 = .ok (.getfield 88, 3) := by decide +kernel
theorem dX0_spellsThat_36 : decode cX0_spellsThat 36 = .ok (.invokevirtual 91, 3) := by decide +kernel
theorem dX0_spellsThat_39 : decode cX0_spellsThat 39 = .ok (.iconst (-1), 1) := by decide +kernel
theorem dX0_spellsThat_40 : decode cX0_spellsThat 40 = .ok (.if_icmp .eq 6, 3) := by decide +kernel
theorem dX0_spellsThat_43 : decode cX0_spellsThat 43 = .ok (.iinc 3 1, 3) := by decide +kernel
theorem dX0_spellsThat_46 : decode cX0_spellsThat 46 = .ok (.iinc 4 1, 3) := by decide +kernel
theorem dX0_spellsThat_49 : decode cX0_spellsThat 49 = .ok (.goto (-44), 3) := by decide +kernel
theorem dX0_spellsThat_52 : decode cX0_spellsThat 52 = .ok (.iload_n 3, 1) := by decide +kernel
theorem dX0_spellsThat_53 : decode cX0_spellsThat 53 = .ok (.ireturn, 1) := by decide +kernel
theorem dX0_spellsAhead_0 : decode cX0_spellsAhead 0 = .ok (.iconst 0, 1) := by decide +kernel
theorem dX0_spellsAhead_1 : decode cX0_spellsAhead 1 = .ok (.istore_n 2, 1) := by decide +kernel
theorem dX0_spellsAhead_2 : decode cX0_spellsAhead 2 = .ok (.iconst 0, 1) := by decide +kernel
theorem dX0_spellsAhead_3 : decode cX0_spellsAhead 3 = .ok (.istore_n 3, 1) := by decide +kernel
theorem dX0_spellsAhead_4 : decode cX0_spellsAhead 4 = .ok (.iload_n 3, 1) := by decide +kernel
theorem dX0_spellsAhead_5 : decode cX0_spellsAhead 5 = .ok (.aload_n 0, 1) := by decide +kernel
theorem dX0_spellsAhead_6 : decode cX0_spellsAhead 6 = .ok (.getfield 49, 3) := by decide +kernel
theorem dX0_spellsAhead_9 : decode cX0_spellsAhead 9 = .ok (.if_icmp .ge 21, 3) := by decide +kernel
theorem dX0_spellsAhead_12 : decode cX0_spellsAhead 12 = .ok (.aload_n 0, 1) := by decide +kernel
theorem dX0_spellsAhead_13 : decode cX0_spellsAhead 13 = .ok (.iload_n 3, 1) := by decide +kernel
theorem dX0_spellsAhead_14 : decode cX0_spellsAhead 14 = .ok (.iload_n 1, 1) := by decide +kernel
theorem dX0_spellsAhead_15 : decode cX0_spellsAhead 15 = .ok (.invokevirtual 95, 3) := by decide +kernel
theorem dX0_spellsAhead_18 : decode cX0_spellsAhead 18 = .ok (.ifCond .eq 6, 3) := by decide +kernel
theorem dX0_spellsAhead_21 : decode cX0_spellsAhead 21 = .ok (.iinc 2 1, 3) := by decide +kernel
theorem dX0_spellsAhead_24 : decode cX0_spellsAhead 24 = .ok (.iinc 3 1, 3) := by decide +kernel
theorem dX0_spellsAhead_27 : decode cX0_spellsAhead 27 = .ok (.goto (-23), 3) := by decide +kernel
theorem dX0_spellsAhead_30 : decode cX0_spellsAhead 30 = .ok (.iload_n 2, 1) := by decide +kernel
theorem dX0_spellsAhead_31 : decode cX0_spellsAhead 31 = .ok (.ireturn, 1) := by decide +kernel
theorem dX0_comesAhead_0 : decode cX0_comesAhead 0 = .ok (.aload_n 0, 1) := by decide +kernel
theorem dX0_comesAhead_1 : decode cX0_comesAhead 1 = .ok (.iload_n 1, 1) := by decide +kernel
theorem dX0_comesAhead_2 : decode cX0_comesAhead 2 = .ok (.invokevirtual 84, 3) := by decide +kernel
theorem dX0_comesAhead_5 : decode cX0_comesAhead 5 = .ok (.astore_n 3, 1) := by decide +kernel
theorem dX0_comesAhead_6 : decode cX0_comesAhead 6 = .ok (.aload_n 0, 1) := by decide +kernel
theorem dX0_comesAhead_7 : decode cX0_comesAhead 7 = .ok (.iload_n 2, 1) := by decide +kernel
theorem dX0_comesAhead_8 : decode cX0_comesAhead 8 = .ok (.invokevirtual 84, 3) := by decide +kernel
theorem dX0_comesAhead_11 : decode cX0_comesAhead 11 = .ok (.astore 4, 2) := by decide +kernel
theorem dX0_comesAhead_13 : decode cX0_comesAhead 13 = .ok (.aload_n 3, 1) := by decide +kernel
theorem dX0_comesAhead_14 : decode cX0_comesAhead 14 = .ok (.ifnull 8, 3) := by decide +kernel
theorem dX0_comesAhead_17 : decode cX0_comesAhead 17 = .ok (.aload 4, 2) := by decide +kernel
theorem dX0_comesAhead_19 : decode cX0_comesAhead 19 = .ok (.ifnonnull 5, 3) := by decide +kernel
theorem dX0_comesAhead_22 : decode cX0_comesAhead 22 = .ok (.iconst 0, 1) := by decide +kernel
theorem dX0_comesAhead_23 : decode cX0_comesAhead 23 = .ok (.ireturn, 1) := by decide +kernel
theorem dX0_comesAhead_24 : decode cX0_comesAhead 24 = .ok (.aload_n 3, 1) := by decide +kernel
theorem dX0_comesAhead_25 : decode cX0_comesAhead 25 = .ok (.getfield 88, 3) := by decide +kernel
theorem dX0_comesAhead_28 : decode cX0_comesAhead 28 = .ok (.aload 4, 2) := by decide +kernel
theorem dX0_comesAhead_30 : decode cX0_comesAhead 30 = .ok (.getfield 88, 3) := by decide +kernel
theorem dX0_comesAhead_33 : decode cX0_comesAhead 33 = .ok (.if_icmp .eq 21, 3) := by decide +kernel
theorem dX0_comesAhead_36 : decode cX0_comesAhead 36 = .ok (.aload_n 3, 1) := by decide +kernel
theorem dX0_comesAhead_37 : decode cX0_comesAhead 37 = .ok (.getfield 88, 3) := by decide +kernel
theorem dX0_comesAhead_40 : decode cX0_comesAhead 40 = .ok (.aload 4, 2) := by decide +kernel
theorem dX0_comesAhead_42 : decode cX0_comesAhead 42 = .ok (.getfield 88, 3) := by decide +kernel
theorem dX0_comesAhead_45 : decode cX0_comesAhead 45 = .ok (.if_icmp .ge 7, 3) := by decide +kernel
theorem dX0_comesAhead_48 : decode cX0_comesAhead 48 = .ok (.iconst 1, 1) := by decide +kernel
theorem dX0_comesAhead_49 : decode cX0_comesAhead 49 = .ok (.goto 4, 3) := by decide +kernel
theorem dX0_comesAhead_52 : decode cX0_comesAhead 52 = .ok (.iconst 0, 1) := by decide +kernel
theorem dX0_comesAhead_53 : decode cX0_comesAhead 53 = .ok (.ireturn, 1) := by decide +kernel
theorem dX0_comesAhead_54 : decode cX0_comesAhead 54 = .ok (.aload_n 3, 1) := by decide +kernel
theorem dX0_comesAhead_55 : decode cX0_comesAhead 55 = .ok (.getfield 99, 3) := by decide +kernel
theorem dX0_comesAhead_58 : decode cX0_comesAhead 58 = .ok (.aload 4, 2) := by decide +kernel
theorem dX0_comesAhead_60 : decode cX0_comesAhead 60 = .ok (.getfield 99, 3) := by decide +kernel
theorem dX0_comesAhead_63 : decode cX0_comesAhead 63 = .ok (.if_icmp .eq 21, 3) := by decide +kernel
theorem dX0_comesAhead_66 : decode cX0_comesAhead 66 = .ok (.aload_n 3, 1) := by decide +kernel
theorem dX0_comesAhead_67 : decode cX0_comesAhead 67 = .ok (.getfield 99, 3) := by decide +kernel
theorem dX0_comesAhead_70 : decode cX0_comesAhead 70 = .ok (.aload 4, 2) := by decide +kernel
theorem dX0_comesAhead_72 : decode cX0_comesAhead 72 = .ok (.getfield 99, 3) := by decide +kernel
theorem dX0_comesAhead_75 : decode cX0_comesAhead 75 = .ok (.if_icmp .le 7, 3) := by decide +kernel
theorem dX0_comesAhead_78 : decode cX0_comesAhead 78 = .ok (.iconst 1, 1) := by decide +kernel
theorem dX0_comesAhead_79 : decode cX0_comesAhead 79 = .ok (.goto 4, 3) := by decide +kernel
theorem dX0_comesAhead_82 : decode cX0_comesAhead 82 = .ok (.iconst 0, 1) := by decide +kernel
theorem dX0_comesAhead_83 : decode cX0_comesAhead 83 = .ok (.ireturn, 1) := by decide +kernel
theorem dX0_comesAhead_84 : decode cX0_comesAhead 84 = .ok (.iload_n 1, 1) := by decide +kernel
theorem dX0_comesAhead_85 : decode cX0_comesAhead 85 = .ok (.iload_n 2, 1) := by decide +kernel
theorem dX0_comesAhead_86 : decode cX0_comesAhead 86 = .ok (.if_icmp .ge 7, 3) := by decide +kernel
theorem dX0_comesAhead_89 : decode cX0_comesAhead 89 = .ok (.iconst 1, 1) := by decide +kernel
theorem dX0_comesAhead_90 : decode cX0_comesAhead 90 = .ok (.goto 4, 3) := by decide +kernel
theorem dX0_comesAhead_93 : decode cX0_comesAhead 93 = .ok (.iconst 0, 1) := by decide +kernel
theorem dX0_comesAhead_94 : decode cX0_comesAhead 94 = .ok (.ireturn, 1) := by decide +kernel
theorem dX1_init_0 : decode cX1_init 0 = .ok (.aload_n 0, 1) := by decide +kernel
theorem dX1_init_1 : decode cX1_init 1 = .ok (.invokespecial 3, 3) := by decide +kernel
theorem dX1_init_4 : decode cX1_init 4 = .ok (.aload_n 0, 1) := by decide +kernel
theorem dX1_init_5 : decode cX1_init 5 = .ok (.bipush 6, 2) := by decide +kernel
theorem dX1_init_7 : decode cX1_init 7 = .ok (.newarray .int, 2) := by decide +kernel
theorem dX1_init_9 : decode cX1_init 9 = .ok (.putfield 9, 3) := by decide +kernel
theorem dX1_init_12 : decode cX1_init 12 = .ok (.aload_n 0, 1) := by decide +kernel
theorem dX1_init_13 : decode cX1_init 13 = .ok (.bipush 6, 2) := by decide +kernel
theorem dX1_init_15 : decode cX1_init 15 = .ok (.newarray .float, 2) := by decide +kernel
theorem dX1_init_17 : decode cX1_init 17 = .ok (.putfield 15, 3) := by decide +kernel
theorem dX1_init_20 : decode cX1_init 20 = .ok (.return_, 1) := by decide +kernel
theorem dX1_copy_0 : decode cX1_copy 0 = .ok (.iconst 0, 1) := by decide +kernel
theorem dX1_copy_1 : decode cX1_copy 1 = .ok (.istore_n 2, 1) := by decide +kernel
theorem dX1_copy_2 : decode cX1_copy 2 = .ok (.iload_n 2, 1) := by decide +kernel
theorem dX1_copy_3 : decode cX1_copy 3 = .ok (.bipush 6, 2) := by decide +kernel
theorem dX1_copy_5 : decode cX1_copy 5 = .ok (.if_icmp .ge 33, 3) := by decide +kernel
theorem dX1_copy_8 : decode cX1_copy 8 = .ok (.aload_n 0, 1) := by decide +kernel
theorem dX1_copy_9 : decode cX1_copy 9 = .ok (.getfield 9, 3) := by decide +kernel
theorem dX1_copy_12 : decode cX1_copy 12 = .ok (.iload_n 2, 1) := by decide +kernel
theorem dX1_copy_13 : decode cX1_copy 13 = .ok (.aload_n 1, 1) := by decide +kernel
theorem dX1_copy_14 : decode cX1_copy 14 = .ok (.getfield 9, 3) := by decide +kernel
theorem dX1_copy_17 : decode cX1_copy 17 = .ok (.iload_n 2, 1) := by decide +kernel
theorem dX1_copy_18 : decode cX1_copy 18 = .ok (.iaload, 1) := by decide +kernel
theorem dX1_copy_19 : decode cX1_copy 19 = .ok (.iastore, 1) := by decide +kernel
theorem dX1_copy_20 : decode cX1_copy 20 = .ok (.aload_n 0, 1) := by decide +kernel
theorem dX1_copy_21 : decode cX1_copy 21 = .ok (.getfield 15, 3) := by decide +kernel
theorem dX1_copy_24 : decode cX1_copy 24 = .ok (.iload_n 2, 1) := by decide +kernel
theorem dX1_copy_25 : decode cX1_copy 25 = .ok (.aload_n 1, 1) := by decide +kernel
theorem dX1_copy_26 : decode cX1_copy 26 = .ok (.getfield 15, 3) := by decide +kernel
theorem dX1_copy_29 : decode cX1_copy 29 = .ok (.iload_n 2, 1) := by decide +kernel
theorem dX1_copy_30 : decode cX1_copy 30 = .ok (.faload, 1) := by decide +kernel
theorem dX1_copy_31 : decode cX1_copy 31 = .ok (.fastore, 1) := by decide +kernel
theorem dX1_copy_32 : decode cX1_copy 32 = .ok (.iinc 2 1, 3) := by decide +kernel
theorem dX1_copy_35 : decode cX1_copy 35 = .ok (.goto (-33), 3) := by decide +kernel
theorem dX1_copy_38 : decode cX1_copy 38 = .ok (.return_, 1) := by decide +kernel
theorem dX1_cut_0 : decode cX1_cut 0 = .ok (.iload_n 1, 1) := by decide +kernel
theorem dX1_cut_1 : decode cX1_cut 1 = .ok (.ifCond .eq 13, 3) := by decide +kernel
theorem dX1_cut_4 : decode cX1_cut 4 = .ok (.aload_n 0, 1) := by decide +kernel
theorem dX1_cut_5 : decode cX1_cut 5 = .ok (.getfield 15, 3) := by decide +kernel
theorem dX1_cut_8 : decode cX1_cut 8 = .ok (.iload_n 2, 1) := by decide +kernel
theorem dX1_cut_9 : decode cX1_cut 9 = .ok (.faload, 1) := by decide +kernel
theorem dX1_cut_10 : decode cX1_cut 10 = .ok (.f2i, 1) := by decide +kernel
theorem dX1_cut_11 : decode cX1_cut 11 = .ok (.goto 9, 3) := by decide +kernel
theorem dX1_cut_14 : decode cX1_cut 14 = .ok (.aload_n 0, 1) := by decide +kernel
theorem dX1_cut_15 : decode cX1_cut 15 = .ok (.getfield 9, 3) := by decide +kernel
theorem dX1_cut_18 : decode cX1_cut 18 = .ok (.iload_n 2, 1) := by decide +kernel
theorem dX1_cut_19 : decode cX1_cut 19 = .ok (.iaload, 1) := by decide +kernel
theorem dX1_cut_20 : decode cX1_cut 20 = .ok (.ireturn, 1) := by decide +kernel
theorem dX1_differences_0 : decode cX1_differences 0 = .ok (.iconst 0, 1) := by decide +kernel
theorem dX1_differences_1 : decode cX1_differences 1 = .ok (.istore_n 2, 1) := by decide +kernel
theorem dX1_differences_2 : decode cX1_differences 2 = .ok (.iconst 0, 1) := by decide +kernel
theorem dX1_differences_3 : decode cX1_differences 3 = .ok (.istore_n 3, 1) := by decide +kernel
theorem dX1_differences_4 : decode cX1_differences 4 = .ok (.iload_n 3, 1) := by decide +kernel
theorem dX1_differences_5 : decode cX1_differences 5 = .ok (.bipush 6, 2) := by decide +kernel
theorem dX1_differences_7 : decode cX1_differences 7 = .ok (.if_icmp .ge 45, 3) := by decide +kernel
theorem dX1_differences_10 : decode cX1_differences 10 = .ok (.aload_n 0, 1) := by decide +kernel
theorem dX1_differences_11 : decode cX1_differences 11 = .ok (.getfield 9, 3) := by decide +kernel
theorem dX1_differences_14 : decode cX1_differences 14 = .ok (.iload_n 3, 1) := by decide +kernel
theorem dX1_differences_15 : decode cX1_differences 15 = .ok (.iaload, 1) := by decide +kernel
theorem dX1_differences_16 : decode cX1_differences 16 = .ok (.aload_n 1, 1) := by decide +kernel
theorem dX1_differences_17 : decode cX1_differences 17 = .ok (.getfield 9, 3) := by decide +kernel
theorem dX1_differences_20 : decode cX1_differences 20 = .ok (.iload_n 3, 1) := by decide +kernel
theorem dX1_differences_21 : decode cX1_differences 21 = .ok (.iaload, 1) := by decide +kernel
theorem dX1_differences_22 : decode cX1_differences 22 = .ok (.if_icmp .ne 21, 3) := by decide +kernel
theorem dX1_differences_25 : decode cX1_differences 25 = .ok (.aload_n 0, 1) := by decide +kernel
theorem dX1_differences_26 : decode cX1_differences 26 = .ok (.getfield 15, 3) := by decide +kernel
theorem dX1_differences_29 : decode cX1_differences 29 = .ok (.iload_n 3, 1) := by decide +kernel
theorem dX1_differences_30 : decode cX1_differences 30 = .ok (.faload, 1) := by decide +kernel
theorem dX1_differences_31 : decode cX1_differences 31 = .ok (.aload_n 1, 1) := by decide +kernel
theorem dX1_differences_32 : decode cX1_differences 32 = .ok (.getfield 15, 3) := by decide +kernel
theorem dX1_differences_35 : decode cX1_differences 35 = .ok (.iload_n 3, 1) := by decide +kernel
theorem dX1_differences_36 : decode cX1_differences 36 = .ok (.faload, 1) := by decide +kernel
theorem dX1_differences_37 : decode cX1_differences 37 = .ok (.invokestatic 19, 3) := by decide +kernel
theorem dX1_differences_40 : decode cX1_differences 40 = .ok (.ifCond .eq 6, 3) := by decide +kernel
theorem dX1_differences_43 : decode cX1_differences 43 = .ok (.iinc 2 1, 3) := by decide +kernel
theorem dX1_differences_46 : decode cX1_differences 46 = .ok (.iinc 3 1, 3) := by decide +kernel
theorem dX1_differences_49 : decode cX1_differences 49 = .ok (.goto (-45), 3) := by decide +kernel
theorem dX1_differences_52 : decode cX1_differences 52 = .ok (.iload_n 2, 1) := by decide +kernel
theorem dX1_differences_53 : decode cX1_differences 53 = .ok (.ireturn, 1) := by decide +kernel
theorem dX2_init_0 : decode cX2_init 0 = .ok (.aload_n 0, 1) := by decide +kernel
theorem dX2_init_1 : decode cX2_init 1 = .ok (.invokespecial 3, 3) := by decide +kernel
theorem dX2_init_4 : decode cX2_init 4 = .ok (.aload_n 0, 1) := by decide +kernel
theorem dX2_init_5 : decode cX2_init 5 = .ok (.new 9, 3) := by decide +kernel
theorem dX2_init_8 : decode cX2_init 8 = .ok (.dup, 1) := by decide +kernel
theorem dX2_init_9 : decode cX2_init 9 = .ok (.invokespecial 11, 3) := by decide +kernel
theorem dX2_init_12 : decode cX2_init 12 = .ok (.putfield 12, 3) := by decide +kernel
theorem dX2_init_15 : decode cX2_init 15 = .ok (.aload_n 0, 1) := by decide +kernel
theorem dX2_init_16 : decode cX2_init 16 = .ok (.bipush 6, 2) := by decide +kernel
theorem dX2_init_18 : decode cX2_init 18 = .ok (.newarray .int, 2) := by decide +kernel
theorem dX2_init_20 : decode cX2_init 20 = .ok (.putfield 18, 3) := by decide +kernel
theorem dX2_init_23 : decode cX2_init 23 = .ok (.aload_n 0, 1) := by decide +kernel
theorem dX2_init_24 : decode cX2_init 24 = .ok (.new 9, 3) := by decide +kernel
theorem dX2_init_27 : decode cX2_init 27 = .ok (.dup, 1) := by decide +kernel
theorem dX2_init_28 : decode cX2_init 28 = .ok (.invokespecial 11, 3) := by decide +kernel
theorem dX2_init_31 : decode cX2_init 31 = .ok (.putfield 22, 3) := by decide +kernel
theorem dX2_init_34 : decode cX2_init 34 = .ok (.aload_n 0, 1) := by decide +kernel
theorem dX2_init_35 : decode cX2_init 35 = .ok (.iconst 5, 1) := by decide +kernel
theorem dX2_init_36 : decode cX2_init 36 = .ok (.newarray .boolean, 2) := by decide +kernel
theorem dX2_init_38 : decode cX2_init 38 = .ok (.putfield 25, 3) := by decide +kernel
theorem dX2_init_41 : decode cX2_init 41 = .ok (.aload_n 0, 1) := by decide +kernel
theorem dX2_init_42 : decode cX2_init 42 = .ok (.iconst 5, 1) := by decide +kernel
theorem dX2_init_43 : decode cX2_init 43 = .ok (.newarray .int, 2) := by decide +kernel
theorem dX2_init_45 : decode cX2_init 45 = .ok (.putfield 29, 3) := by decide +kernel
theorem dX2_init_48 : decode cX2_init 48 = .ok (.aload_n 0, 1) := by decide +kernel
theorem dX2_init_49 : decode cX2_init 49 = .ok (.iconst 5, 1) := by decide +kernel
theorem dX2_init_50 : decode cX2_init 50 = .ok (.newarray .float, 2) := by decide +kernel
theorem dX2_init_52 : decode cX2_init 52 = .ok (.putfield 32, 3) := by decide +kernel
theorem dX2_init_55 : decode cX2_init 55 = .ok (.return_, 1) := by decide +kernel
theorem dX2_begin_0 : decode cX2_begin 0 = .ok (.aload_n 0, 1) := by decide +kernel
theorem dX2_begin_1 : decode cX2_begin 1 = .ok (.getfield 12, 3) := by decide +kernel
theorem dX2_begin_4 : decode cX2_begin 4 = .ok (.aload_n 1, 1) := by decide +kernel
theorem dX2_begin_5 : decode cX2_begin 5 = .ok (.getfield 36, 3) := by decide +kernel
theorem dX2_begin_8 : decode cX2_begin 8 = .ok (.invokevirtual 41, 3) := by decide +kernel
theorem dX2_begin_11 : decode cX2_begin 11 = .ok (.return_, 1) := by decide +kernel
theorem dX2_goesOn_0 : decode cX2_goesOn 0 = .ok (.aload_n 0, 1) := by decide +kernel
theorem dX2_goesOn_1 : decode cX2_goesOn 1 = .ok (.getfield 22, 3) := by decide +kernel
theorem dX2_goesOn_4 : decode cX2_goesOn 4 = .ok (.aload_n 0, 1) := by decide +kernel
theorem dX2_goesOn_5 : decode cX2_goesOn 5 = .ok (.getfield 12, 3) := by decide +kernel
theorem dX2_goesOn_8 : decode cX2_goesOn 8 = .ok (.invokevirtual 41, 3) := by decide +kernel
theorem dX2_goesOn_11 : decode cX2_goesOn 11 = .ok (.iconst 0, 1) := by decide +kernel
theorem dX2_goesOn_12 : decode cX2_goesOn 12 = .ok (.istore_n 3, 1) := by decide +kernel
theorem dX2_goesOn_13 : decode cX2_goesOn 13 = .ok (.iload_n 3, 1) := by decide +kernel
theorem dX2_goesOn_14 : decode cX2_goesOn 14 = .ok (.bipush 6, 2) := by decide +kernel
theorem dX2_goesOn_16 : decode cX2_goesOn 16 = .ok (.if_icmp .ge 16, 3) := by decide +kernel
theorem dX2_goesOn_19 : decode cX2_goesOn 19 = .ok (.aload_n 0, 1) := by decide +kernel
theorem dX2_goesOn_20 : decode cX2_goesOn 20 = .ok (.getfield 18, 3) := by decide +kernel
theorem dX2_goesOn_23 : decode cX2_goesOn 23 = .ok (.iload_n 3, 1) := by decide +kernel
theorem dX2_goesOn_24 : decode cX2_goesOn 24 = .ok (.iconst 0, 1) := by decide +kernel
theorem dX2_goesOn_25 : decode cX2_goesOn 25 = .ok (.iastore, 1) := by decide +kernel
theorem dX2_goesOn_26 : decode cX2_goesOn 26 = .ok (.iinc 3 1, 3) := by decide +kernel
theorem dX2_goesOn_29 : decode cX2_goesOn 29 = .ok (.goto (-16), 3) := by decide +kernel
theorem dX2_goesOn_32 : decode cX2_goesOn 32 = .ok (.aload_n 0, 1) := by decide +kernel
theorem dX2_goesOn_33 : decode cX2_goesOn 33 = .ok (.iconst 0, 1) := by decide +kernel
theorem dX2_goesOn_34 : decode cX2_goesOn 34 = .ok (.putfield 45, 3) := by decide +kernel
theorem dX2_goesOn_37 : decode cX2_goesOn 37 = .ok (.aload_n 0, 1) := by decide +kernel
theorem dX2_goesOn_38 : decode cX2_goesOn 38 = .ok (.iconst (-1), 1) := by decide +kernel
theorem dX2_goesOn_39 : decode cX2_goesOn 39 = .ok (.putfield 49, 3) := by decide +kernel
theorem dX2_goesOn_42 : decode cX2_goesOn 42 = .ok (.iconst 0, 1) := by decide +kernel
theorem dX2_goesOn_43 : decode cX2_goesOn 43 = .ok (.istore_n 3, 1) := by decide +kernel
theorem dX2_goesOn_44 : decode cX2_goesOn 44 = .ok (.iload_n 3, 1) := by decide +kernel
theorem dX2_goesOn_45 : decode cX2_goesOn 45 = .ok (.aload_n 1, 1) := by decide +kernel
theorem dX2_goesOn_46 : decode cX2_goesOn 46 = .ok (.getfield 52, 3) := by decide +kernel
theorem dX2_goesOn_49 : decode cX2_goesOn 49 = .ok (.if_icmp .ge 36, 3) := by decide +kernel
theorem dX2_goesOn_52 : decode cX2_goesOn 52 = .ok (.aload_n 0, 1) := by decide +kernel
theorem dX2_goesOn_53 : decode cX2_goesOn 53 = .ok (.aload_n 1, 1) := by decide +kernel
theorem dX2_goesOn_54 : decode cX2_goesOn 54 = .ok (.getfield 57, 3) := by decide +kernel
theorem dX2_goesOn_57 : decode cX2_goesOn 57 = .ok (.iload_n 3, 1) := by decide +kernel
theorem dX2_goesOn_58 : decode cX2_goesOn 58 = .ok (.iaload, 1) := by decide +kernel
theorem dX2_goesOn_59 : decode cX2_goesOn 59 = .ok (.aload_n 1, 1) := by decide +kernel
theorem dX2_goesOn_60 : decode cX2_goesOn 60 = .ok (.getfield 60, 3) := by decide +kernel
theorem dX2_goesOn_63 : decode cX2_goesOn 63 = .ok (.iload_n 3, 1) := by decide +kernel
theorem dX2_goesOn_64 : decode cX2_goesOn 64 = .ok (.iaload, 1) := by decide +kernel
theorem dX2_goesOn_65 : decode cX2_goesOn 65 = .ok (.aload_n 2, 1) := by decide +kernel
theorem dX2_goesOn_66 : decode cX2_goesOn 66 = .ok (.invokevirtual 63, 3) := by decide +kernel
theorem dX2_goesOn_69 : decode cX2_goesOn 69 = .ok (.ifCond .ne 10, 3) := by decide +kernel
theorem dX2_goesOn_72 : decode cX2_goesOn 72 = .ok (.aload_n 0, 1) := by decide +kernel
theorem dX2_goesOn_73 : decode cX2_goesOn 73 = .ok (.iload_n 3, 1) := by decide +kernel
theorem dX2_goesOn_74 : decode cX2_goesOn 74 = .ok (.putfield 49, 3) := by decide +kernel
theorem dX2_goesOn_77 : decode cX2_goesOn 77 = .ok (.iconst 0, 1) := by decide +kernel
theorem dX2_goesOn_78 : decode cX2_goesOn 78 = .ok (.ireturn, 1) := by decide +kernel
theorem dX2_goesOn_79 : decode cX2_goesOn 79 = .ok (.iinc 3 1, 3) := by decide +kernel
theorem dX2_goesOn_82 : decode cX2_goesOn 82 = .ok (.goto (-38), 3) := by decide +kernel
theorem dX2_goesOn_85 : decode cX2_goesOn 85 = .ok (.iconst 1, 1) := by decide +kernel
theorem dX2_goesOn_86 : decode cX2_goesOn 86 = .ok (.ireturn, 1) := by decide +kernel
theorem dX2_changes_0 : decode cX2_changes 0 = .ok (.aload_n 0, 1) := by decide +kernel
theorem dX2_changes_1 : decode cX2_changes 1 = .ok (.getfield 12, 3) := by decide +kernel
theorem dX2_changes_4 : decode cX2_changes 4 = .ok (.aload_n 0, 1) := by decide +kernel
theorem dX2_changes_5 : decode cX2_changes 5 = .ok (.getfield 22, 3) := by decide +kernel
theorem dX2_changes_8 : decode cX2_changes 8 = .ok (.invokevirtual 67, 3) := by decide +kernel
theorem dX2_changes_11 : decode cX2_changes 11 = .ok (.ireturn, 1) := by decide +kernel
theorem dX2_goesToken_0 : decode cX2_goesToken 0 = .ok (.iload_n 1, 1) := by decide +kernel
theorem dX2_goesToken_1 : decode cX2_goesToken 1 = .ok (.tableswitch 139 0 7 #[47, 94, 139, 139, 139, 102, 108, 114], 47) := by decide +kernel
theorem dX2_goesToken_48 : decode cX2_goesToken 48 = .ok (.iload_n 2, 1) := by decide +kernel
theorem dX2_goesToken_49 : decode cX2_goesToken 49 = .ok (.ifCond .lt 44, 3) := by decide +kernel
theorem dX2_goesToken_52 : decode cX2_goesToken 52 = .ok (.iload_n 2, 1) := by decide +kernel
theorem dX2_goesToken_53 : decode cX2_goesToken 53 = .ok (.bipush 6, 2) := by decide +kernel
theorem dX2_goesToken_55 : decode cX2_goesToken 55 = .ok (.if_icmp .ge 38, 3) := by decide +kernel
theorem dX2_goesToken_58 : decode cX2_goesToken 58 = .ok (.aload_n 0, 1) := by decide +kernel
theorem dX2_goesToken_59 : decode cX2_goesToken 59 = .ok (.aload_n 3, 1) := by decide +kernel
theorem dX2_goesToken_60 : decode cX2_goesToken 60 = .ok (.getfield 71, 3) := by decide +kernel
theorem dX2_goesToken_63 : decode cX2_goesToken 63 = .ok (.iload_n 2, 1) := by decide +kernel
theorem dX2_goesToken_64 : decode cX2_goesToken 64 = .ok (.baload, 1) := by decide +kernel
theorem dX2_goesToken_65 : decode cX2_goesToken 65 = .ok (.aload_n 0, 1) := by decide +kernel
theorem dX2_goesToken_66 : decode cX2_goesToken 66 = .ok (.getfield 12, 3) := by decide +kernel
theorem dX2_goesToken_69 : decode cX2_goesToken 69 = .ok (.getfield 72, 3) := by decide +kernel
theorem dX2_goesToken_72 : decode cX2_goesToken 72 = .ok (.iload_n 2, 1) := by decide +kernel
theorem dX2_goesToken_73 : decode cX2_goesToken 73 = .ok (.iaload, 1) := by decide +kernel
theorem dX2_goesToken_74 : decode cX2_goesToken 74 = .ok (.aload_n 0, 1) := by decide +kernel
theorem dX2_goesToken_75 : decode cX2_goesToken 75 = .ok (.getfield 12, 3) := by decide +kernel
theorem dX2_goesToken_78 : decode cX2_goesToken 78 = .ok (.getfield 73, 3) := by decide +kernel
theorem dX2_goesToken_81 : decode cX2_goesToken 81 = .ok (.iload_n 2, 1) := by decide +kernel
theorem dX2_goesToken_82 : decode cX2_goesToken 82 = .ok (.faload, 1) := by decide +kernel
theorem dX2_goesToken_83 : decode cX2_goesToken 83 = .ok (.invokevirtual 74, 3) := by decide +kernel
theorem dX2_goesToken_86 : decode cX2_goesToken 86 = .ok (.ifCond .eq 7, 3) := by decide +kernel
theorem dX2_goesToken_89 : decode cX2_goesToken 89 = .ok (.iconst 1, 1) := by decide +kernel
theorem dX2_goesToken_90 : decode cX2_goesToken 90 = .ok (.goto 4, 3) := by decide +kernel
theorem dX2_goesToken_93 : decode cX2_goesToken 93 = .ok (.iconst 0, 1) := by decide +kernel
theorem dX2_goesToken_94 : decode cX2_goesToken 94 = .ok (.ireturn, 1) := by decide +kernel
theorem dX2_goesToken_95 : decode cX2_goesToken 95 = .ok (.aload_n 0, 1) := by decide +kernel
theorem dX2_goesToken_96 : decode cX2_goesToken 96 = .ok (.iconst 0, 1) := by decide +kernel
theorem dX2_goesToken_97 : decode cX2_goesToken 97 = .ok (.iload_n 2, 1) := by decide +kernel
theorem dX2_goesToken_98 : decode cX2_goesToken 98 = .ok (.fconst 0, 1) := by decide +kernel
theorem dX2_goesToken_99 : decode cX2_goesToken 99 = .ok (.invokevirtual 74, 3) := by decide +kernel
theorem dX2_goesToken_102 : decode cX2_goesToken 102 = .ok (.ireturn, 1) := by decide +kernel
theorem dX2_goesToken_103 : decode cX2_goesToken 103 = .ok (.aload_n 0, 1) := by decide +kernel
theorem dX2_goesToken_104 : decode cX2_goesToken 104 = .ok (.iconst 1, 1) := by decide +kernel
theorem dX2_goesToken_105 : decode cX2_goesToken 105 = .ok (.invokevirtual 78, 3) := by decide +kernel
theorem dX2_goesToken_108 : decode cX2_goesToken 108 = .ok (.ireturn, 1) := by decide +kernel
theorem dX2_goesToken_109 : decode cX2_goesToken 109 = .ok (.aload_n 0, 1) := by decide +kernel
theorem dX2_goesToken_110 : decode cX2_goesToken 110 = .ok (.iconst 0, 1) := by decide +kernel
theorem dX2_goesToken_111 : decode cX2_goesToken 111 = .ok (.invokevirtual 78, 3) := by decide +kernel
theorem dX2_goesToken_114 : decode cX2_goesToken 114 = .ok (.ireturn, 1) := by decide +kernel
theorem dX2_goesToken_115 : decode cX2_goesToken 115 = .ok (.iload_n 2, 1) := by decide +kernel
theorem dX2_goesToken_116 : decode cX2_goesToken 116 = .ok (.ifCond .lt 22, 3) := by decide +kernel
theorem dX2_goesToken_119 : decode cX2_goesToken 119 = .ok (.iload_n 2, 1) := by decide +kernel
theorem dX2_goesToken_120 : decode cX2_goesToken 120 = .ok (.bipush 6, 2) := by decide +kernel
theorem dX2_goesToken_122 : decode cX2_goesToken 122 = .ok (.if_icmp .ge 16, 3) := by decide +kernel
theorem dX2_goesToken_125 : decode cX2_goesToken 125 = .ok (.aload_n 0, 1) := by decide +kernel
theorem dX2_goesToken_126 : decode cX2_goesToken 126 = .ok (.iload_n 2, 1) := by decide +kernel
theorem dX2_goesToken_127 : decode cX2_goesToken 127 = .ok (.aload_n 3, 1) := by decide +kernel
theorem dX2_goesToken_128 : decode cX2_goesToken 128 = .ok (.invokevirtual 82, 3) := by decide +kernel
theorem dX2_goesToken_131 : decode cX2_goesToken 131 = .ok (.ifCond .eq 7, 3) := by decide +kernel
theorem dX2_goesToken_134 : decode cX2_goesToken 134 = .ok (.iconst 1, 1) := by decide +kernel
theorem dX2_goesToken_135 : decode cX2_goesToken 135 = .ok (.goto 4, 3) := by decide +kernel
theorem dX2_goesToken_138 : decode cX2_goesToken 138 = .ok (.iconst 0, 1) := by decide +kernel
theorem dX2_goesToken_139 : decode cX2_goesToken 139 = .ok (.ireturn, 1) := by decide +kernel
theorem dX2_goesToken_140 : decode cX2_goesToken 140 = .ok (.aload_n 0, 1) := by decide +kernel
theorem dX2_goesToken_141 : decode cX2_goesToken 141 = .ok (.iload_n 1, 1) := by decide +kernel
theorem dX2_goesToken_142 : decode cX2_goesToken 142 = .ok (.invokevirtual 86, 3) := by decide +kernel
theorem dX2_goesToken_145 : decode cX2_goesToken 145 = .ok (.ireturn, 1) := by decide +kernel
theorem dX2_lay_0 : decode cX2_lay 0 = .ok (.aload_n 0, 1) := by decide +kernel
theorem dX2_lay_1 : decode cX2_lay 1 = .ok (.getfield 45, 3) := by decide +kernel
theorem dX2_lay_4 : decode cX2_lay 4 = .ok (.ifCond .lt 11, 3) := by decide +kernel
theorem dX2_lay_7 : decode cX2_lay 7 = .ok (.aload_n 0, 1) := by decide +kernel
theorem dX2_lay_8 : decode cX2_lay 8 = .ok (.getfield 45, 3) := by decide +kernel
theorem dX2_lay_11 : decode cX2_lay 11 = .ok (.iconst 5, 1) := by decide +kernel
theorem dX2_lay_12 : decode cX2_lay 12 = .ok (.if_icmp .lt 5, 3) := by decide +kernel
theorem dX2_lay_15 : decode cX2_lay 15 = .ok (.iconst 0, 1) := by decide +kernel
theorem dX2_lay_16 : decode cX2_lay 16 = .ok (.ireturn, 1) := by decide +kernel
theorem dX2_lay_17 : decode cX2_lay 17 = .ok (.aload_n 0, 1) := by decide +kernel
theorem dX2_lay_18 : decode cX2_lay 18 = .ok (.getfield 25, 3) := by decide +kernel
theorem dX2_lay_21 : decode cX2_lay 21 = .ok (.aload_n 0, 1) := by decide +kernel
theorem dX2_lay_22 : decode cX2_lay 22 = .ok (.getfield 45, 3) := by decide +kernel
theorem dX2_lay_25 : decode cX2_lay 25 = .ok (.iload_n 1, 1) := by decide +kernel
theorem dX2_lay_26 : decode cX2_lay 26 = .ok (.bastore, 1) := by decide +kernel
theorem dX2_lay_27 : decode cX2_lay 27 = .ok (.aload_n 0, 1) := by decide +kernel
theorem dX2_lay_28 : decode cX2_lay 28 = .ok (.getfield 29, 3) := by decide +kernel
theorem dX2_lay_31 : decode cX2_lay 31 = .ok (.aload_n 0, 1) := by decide +kernel
theorem dX2_lay_32 : decode cX2_lay 32 = .ok (.getfield 45, 3) := by decide +kernel
theorem dX2_lay_35 : decode cX2_lay 35 = .ok (.iload_n 2, 1) := by decide +kernel
theorem dX2_lay_36 : decode cX2_lay 36 = .ok (.iastore, 1) := by decide +kernel
theorem dX2_lay_37 : decode cX2_lay 37 = .ok (.aload_n 0, 1) := by decide +kernel
theorem dX2_lay_38 : decode cX2_lay 38 = .ok (.getfield 32, 3) := by decide +kernel
theorem dX2_lay_41 : decode cX2_lay 41 = .ok (.aload_n 0, 1) := by decide +kernel
theorem dX2_lay_42 : decode cX2_lay 42 = .ok (.getfield 45, 3) := by decide +kernel
theorem dX2_lay_45 : decode cX2_lay 45 = .ok (.fload_n 3, 1) := by decide +kernel
theorem dX2_lay_46 : decode cX2_lay 46 = .ok (.fastore, 1) := by decide +kernel
theorem dX2_lay_47 : decode cX2_lay 47 = .ok (.aload_n 0, 1) := by decide +kernel
theorem dX2_lay_48 : decode cX2_lay 48 = .ok (.dup, 1) := by decide +kernel
theorem dX2_lay_49 : decode cX2_lay 49 = .ok (.getfield 45, 3) := by decide +kernel
theorem dX2_lay_52 : decode cX2_lay 52 = .ok (.iconst 1, 1) := by decide +kernel
theorem dX2_lay_53 : decode cX2_lay 53 = .ok (.iadd, 1) := by decide +kernel
theorem dX2_lay_54 : decode cX2_lay 54 = .ok (.putfield 45, 3) := by decide +kernel
theorem dX2_lay_57 : decode cX2_lay 57 = .ok (.iconst 1, 1) := by decide +kernel
theorem dX2_lay_58 : decode cX2_lay 58 = .ok (.ireturn, 1) := by decide +kernel
theorem dX2_goesCast_0 : decode cX2_goesCast 0 = .ok (.aload_n 0, 1) := by decide +kernel
theorem dX2_goesCast_1 : decode cX2_goesCast 1 = .ok (.getfield 45, 3) := by decide +kernel
theorem dX2_goesCast_4 : decode cX2_goesCast 4 = .ok (.iconst 1, 1) := by decide +kernel
theorem dX2_goesCast_5 : decode cX2_goesCast 5 = .ok (.isub, 1) := by decide +kernel
theorem dX2_goesCast_6 : decode cX2_goesCast 6 = .ok (.istore_n 2, 1) := by decide +kernel
theorem dX2_goesCast_7 : decode cX2_goesCast 7 = .ok (.iload_n 2, 1) := by decide +kernel
theorem dX2_goesCast_8 : decode cX2_goesCast 8 = .ok (.ifCond .lt 8, 3) := by decide +kernel
theorem dX2_goesCast_11 : decode cX2_goesCast 11 = .ok (.iload_n 2, 1) := by decide +kernel
theorem dX2_goesCast_12 : decode cX2_goesCast 12 = .ok (.iconst 5, 1) := by decide +kernel
theorem dX2_goesCast_13 : decode cX2_goesCast 13 = .ok (.if_icmp .lt 5, 3) := by decide +kernel
theorem dX2_goesCast_16 : decode cX2_goesCast 16 = .ok (.iconst 0, 1) := by decide +kernel
theorem dX2_goesCast_17 : decode cX2_goesCast 17 = .ok (.ireturn, 1) := by decide +kernel
theorem dX2_goesCast_18 : decode cX2_goesCast 18 = .ok (.aload_n 0, 1) := by decide +kernel
theorem dX2_goesCast_19 : decode cX2_goesCast 19 = .ok (.getfield 25, 3) := by decide +kernel
theorem dX2_goesCast_22 : decode cX2_goesCast 22 = .ok (.iload_n 2, 1) := by decide +kernel
theorem dX2_goesCast_23 : decode cX2_goesCast 23 = .ok (.baload, 1) := by decide +kernel
theorem dX2_goesCast_24 : decode cX2_goesCast 24 = .ok (.iload_n 1, 1) := by decide +kernel
theorem dX2_goesCast_25 : decode cX2_goesCast 25 = .ok (.if_icmp .ne 11, 3) := by decide +kernel
theorem dX2_goesCast_28 : decode cX2_goesCast 28 = .ok (.aload_n 0, 1) := by decide +kernel
theorem dX2_goesCast_29 : decode cX2_goesCast 29 = .ok (.bipush 7, 2) := by decide +kernel
theorem dX2_goesCast_31 : decode cX2_goesCast 31 = .ok (.iconst (-1), 1) := by decide +kernel
theorem dX2_goesCast_32 : decode cX2_goesCast 32 = .ok (.invokevirtual 90, 3) := by decide +kernel
theorem dX2_goesCast_35 : decode cX2_goesCast 35 = .ok (.ireturn, 1) := by decide +kernel
theorem dX2_goesCast_36 : decode cX2_goesCast 36 = .ok (.aload_n 0, 1) := by decide +kernel
theorem dX2_goesCast_37 : decode cX2_goesCast 37 = .ok (.getfield 25, 3) := by decide +kernel
theorem dX2_goesCast_40 : decode cX2_goesCast 40 = .ok (.iload_n 2, 1) := by decide +kernel
theorem dX2_goesCast_41 : decode cX2_goesCast 41 = .ok (.iload_n 1, 1) := by decide +kernel
theorem dX2_goesCast_42 : decode cX2_goesCast 42 = .ok (.bastore, 1) := by decide +kernel
theorem dX2_goesCast_43 : decode cX2_goesCast 43 = .ok (.iload_n 1, 1) := by decide +kernel
theorem dX2_goesCast_44 : decode cX2_goesCast 44 = .ok (.ifCond .eq 21, 3) := by decide +kernel
theorem dX2_goesCast_47 : decode cX2_goesCast 47 = .ok (.aload_n 0, 1) := by decide +kernel
theorem dX2_goesCast_48 : decode cX2_goesCast 48 = .ok (.getfield 32, 3) := by decide +kernel
theorem dX2_goesCast_51 : decode cX2_goesCast 51 = .ok (.iload_n 2, 1) := by decide +kernel
theorem dX2_goesCast_52 : decode cX2_goesCast 52 = .ok (.aload_n 0, 1) := by decide +kernel
theorem dX2_goesCast_53 : decode cX2_goesCast 53 = .ok (.getfield 29, 3) := by decide +kernel
theorem dX2_goesCast_56 : decode cX2_goesCast 56 = .ok (.iload_n 2, 1) := by decide +kernel
theorem dX2_goesCast_57 : decode cX2_goesCast 57 = .ok (.iaload, 1) := by decide +kernel
theorem dX2_goesCast_58 : decode cX2_goesCast 58 = .ok (.invokestatic 94, 3) := by decide +kernel
theorem dX2_goesCast_61 : decode cX2_goesCast 61 = .ok (.fastore, 1) := by decide +kernel
theorem dX2_goesCast_62 : decode cX2_goesCast 62 = .ok (.goto 18, 3) := by decide +kernel
theorem dX2_goesCast_65 : decode cX2_goesCast 65 = .ok (.aload_n 0, 1) := by decide +kernel
theorem dX2_goesCast_66 : decode cX2_goesCast 66 = .ok (.getfield 29, 3) := by decide +kernel
theorem dX2_goesCast_69 : decode cX2_goesCast 69 = .ok (.iload_n 2, 1) := by decide +kernel
theorem dX2_goesCast_70 : decode cX2_goesCast 70 = .ok (.aload_n 0, 1) := by decide +kernel
theorem dX2_goesCast_71 : decode cX2_goesCast 71 = .ok (.getfield 32, 3) := by decide +kernel
theorem dX2_goesCast_74 : decode cX2_goesCast 74 = .ok (.iload_n 2, 1) := by decide +kernel
theorem dX2_goesCast_75 : decode cX2_goesCast 75 = .ok (.faload, 1) := by decide +kernel
theorem dX2_goesCast_76 : decode cX2_goesCast 76 = .ok (.invokestatic 100, 3) := by decide +kernel
theorem dX2_goesCast_79 : decode cX2_goesCast 79 = .ok (.iastore, 1) := by decide +kernel
theorem dX2_goesCast_80 : decode cX2_goesCast 80 = .ok (.iconst 1, 1) := by decide +kernel
theorem dX2_goesCast_81 : decode cX2_goesCast 81 = .ok (.ireturn, 1) := by decide +kernel
theorem dX2_goesReckoning_0 : decode cX2_goesReckoning 0 = .ok (.aload_n 0, 1) := by decide +kernel
theorem dX2_goesReckoning_1 : decode cX2_goesReckoning 1 = .ok (.getfield 45, 3) := by decide +kernel
theorem dX2_goesReckoning_4 : decode cX2_goesReckoning 4 = .ok (.iconst 1, 1) := by decide +kernel
theorem dX2_goesReckoning_5 : decode cX2_goesReckoning 5 = .ok (.isub, 1) := by decide +kernel
theorem dX2_goesReckoning_6 : decode cX2_goesReckoning 6 = .ok (.istore_n 2, 1) := by decide +kernel
theorem dX2_goesReckoning_7 : decode cX2_goesReckoning 7 = .ok (.aload_n 0, 1) := by decide +kernel
theorem dX2_goesReckoning_8 : decode cX2_goesReckoning 8 = .ok (.getfield 45, 3) := by decide +kernel
theorem dX2_goesReckoning_11 : decode cX2_goesReckoning 11 = .ok (.iconst 2, 1) := by decide +kernel
theorem dX2_goesReckoning_12 : decode cX2_goesReckoning 12 = .ok (.isub, 1) := by decide +kernel
theorem dX2_goesReckoning_13 : decode cX2_goesReckoning 13 = .ok (.istore_n 3, 1) := by decide +kernel
theorem dX2_goesReckoning_14 : decode cX2_goesReckoning 14 = .ok (.iload_n 3, 1) := by decide +kernel
theorem dX2_goesReckoning_15 : decode cX2_goesReckoning 15 = .ok (.ifCond .lt 8, 3) := by decide +kernel
theorem dX2_goesReckoning_18 : decode cX2_goesReckoning 18 = .ok (.iload_n 2, 1) := by decide +kernel
theorem dX2_goesReckoning_19 : decode cX2_goesReckoning 19 = .ok (.iconst 5, 1) := by decide +kernel
theorem dX2_goesReckoning_20 : decode cX2_goesReckoning 20 = .ok (.if_icmp .lt 5, 3) := by decide +kernel
theorem dX2_goesReckoning_23 : decode cX2_goesReckoning 23 = .ok (.iconst 0, 1) := by decide +kernel
theorem dX2_goesReckoning_24 : decode cX2_goesReckoning 24 = .ok (.ireturn, 1) := by decide +kernel
theorem dX2_goesReckoning_25 : decode cX2_goesReckoning 25 = .ok (.aload_n 0, 1) := by decide +kernel
theorem dX2_goesReckoning_26 : decode cX2_goesReckoning 26 = .ok (.getfield 25, 3) := by decide +kernel
theorem dX2_goesReckoning_29 : decode cX2_goesReckoning 29 = .ok (.iload_n 3, 1) := by decide +kernel
theorem dX2_goesReckoning_30 : decode cX2_goesReckoning 30 = .ok (.baload, 1) := by decide +kernel
theorem dX2_goesReckoning_31 : decode cX2_goesReckoning 31 = .ok (.aload_n 0, 1) := by decide +kernel
theorem dX2_goesReckoning_32 : decode cX2_goesReckoning 32 = .ok (.getfield 25, 3) := by decide +kernel
theorem dX2_goesReckoning_35 : decode cX2_goesReckoning 35 = .ok (.iload_n 2, 1) := by decide +kernel
theorem dX2_goesReckoning_36 : decode cX2_goesReckoning 36 = .ok (.baload, 1) := by decide +kernel
theorem dX2_goesReckoning_37 : decode cX2_goesReckoning 37 = .ok (.if_icmp .eq 11, 3) := by decide +kernel
theorem dX2_goesReckoning_40 : decode cX2_goesReckoning 40 = .ok (.aload_n 0, 1) := by decide +kernel
theorem dX2_goesReckoning_41 : decode cX2_goesReckoning 41 = .ok (.bipush 7, 2) := by decide +kernel
theorem dX2_goesReckoning_43 : decode cX2_goesReckoning 43 = .ok (.iconst (-1), 1) := by decide +kernel
theorem dX2_goesReckoning_44 : decode cX2_goesReckoning 44 = .ok (.invokevirtual 90, 3) := by decide +kernel
theorem dX2_goesReckoning_47 : decode cX2_goesReckoning 47 = .ok (.ireturn, 1) := by decide +kernel
theorem dX2_goesReckoning_48 : decode cX2_goesReckoning 48 = .ok (.aload_n 0, 1) := by decide +kernel
theorem dX2_goesReckoning_49 : decode cX2_goesReckoning 49 = .ok (.dup, 1) := by decide +kernel
theorem dX2_goesReckoning_50 : decode cX2_goesReckoning 50 = .ok (.getfield 45, 3) := by decide +kernel
theorem dX2_goesReckoning_53 : decode cX2_goesReckoning 53 = .ok (.iconst 1, 1) := by decide +kernel
theorem dX2_goesReckoning_54 : decode cX2_goesReckoning 54 = .ok (.isub, 1) := by decide +kernel
theorem dX2_goesReckoning_55 : decode cX2_goesReckoning 55 = .ok (.putfield 45, 3) := by decide +kernel
theorem dX2_goesReckoning_58 : decode cX2_goesReckoning 58 = .ok (.aload_n 0, 1) := by decide +kernel
theorem dX2_goesReckoning_59 : decode cX2_goesReckoning 59 = .ok (.getfield 25, 3) := by decide +kernel
theorem dX2_goesReckoning_62 : decode cX2_goesReckoning 62 = .ok (.iload_n 3, 1) := by decide +kernel
theorem dX2_goesReckoning_63 : decode cX2_goesReckoning 63 = .ok (.baload, 1) := by decide +kernel
theorem dX2_goesReckoning_64 : decode cX2_goesReckoning 64 = .ok (.ifCond .eq 27, 3) := by decide +kernel
theorem dX2_goesReckoning_67 : decode cX2_goesReckoning 67 = .ok (.aload_n 0, 1) := by decide +kernel
theorem dX2_goesReckoning_68 : decode cX2_goesReckoning 68 = .ok (.getfield 32, 3) := by decide +kernel
theorem dX2_goesReckoning_71 : decode cX2_goesReckoning 71 = .ok (.iload_n 3, 1) := by decide +kernel
theorem dX2_goesReckoning_72 : decode cX2_goesReckoning 72 = .ok (.iload_n 1, 1) := by decide +kernel
theorem dX2_goesReckoning_73 : decode cX2_goesReckoning 73 = .ok (.aload_n 0, 1) := by decide +kernel
theorem dX2_goesReckoning_74 : decode cX2_goesReckoning 74 = .ok (.getfield 32, 3) := by decide +kernel
theorem dX2_goesReckoning_77 : decode cX2_goesReckoning 77 = .ok (.iload_n 3, 1) := by decide +kernel
theorem dX2_goesReckoning_78 : decode cX2_goesReckoning 78 = .ok (.faload, 1) := by decide +kernel
theorem dX2_goesReckoning_79 : decode cX2_goesReckoning 79 = .ok (.aload_n 0, 1) := by decide +kernel
theorem dX2_goesReckoning_80 : decode cX2_goesReckoning 80 = .ok (.getfield 32, 3) := by decide +kernel
theorem dX2_goesReckoning_83 : decode cX2_goesReckoning 83 = .ok (.iload_n 2, 1) := by decide +kernel
theorem dX2_goesReckoning_84 : decode cX2_goesReckoning 84 = .ok (.faload, 1) := by decide +kernel
theorem dX2_goesReckoning_85 : decode cX2_goesReckoning 85 = .ok (.invokestatic 104, 3) := by decide +kernel
theorem dX2_goesReckoning_88 : decode cX2_goesReckoning 88 = .ok (.fastore, 1) := by decide +kernel
theorem dX2_goesReckoning_89 : decode cX2_goesReckoning 89 = .ok (.iconst 1, 1) := by decide +kernel
theorem dX2_goesReckoning_90 : decode cX2_goesReckoning 90 = .ok (.ireturn, 1) := by decide +kernel
theorem dX2_goesReckoning_91 : decode cX2_goesReckoning 91 = .ok (.iload_n 1, 1) := by decide +kernel
theorem dX2_goesReckoning_92 : decode cX2_goesReckoning 92 = .ok (.aload_n 0, 1) := by decide +kernel
theorem dX2_goesReckoning_93 : decode cX2_goesReckoning 93 = .ok (.getfield 29, 3) := by decide +kernel
theorem dX2_goesReckoning_96 : decode cX2_goesReckoning 96 = .ok (.iload_n 3, 1) := by decide +kernel
theorem dX2_goesReckoning_97 : decode cX2_goesReckoning 97 = .ok (.iaload, 1) := by decide +kernel
theorem dX2_goesReckoning_98 : decode cX2_goesReckoning 98 = .ok (.i2l, 1) := by decide +kernel
theorem dX2_goesReckoning_99 : decode cX2_goesReckoning 99 = .ok (.aload_n 0, 1) := by decide +kernel
theorem dX2_goesReckoning_100 : decode cX2_goesReckoning 100 = .ok (.getfield 29, 3) := by decide +kernel
theorem dX2_goesReckoning_103 : decode cX2_goesReckoning 103 = .ok (.iload_n 2, 1) := by decide +kernel
theorem dX2_goesReckoning_104 : decode cX2_goesReckoning 104 = .ok (.iaload, 1) := by decide +kernel
theorem dX2_goesReckoning_105 : decode cX2_goesReckoning 105 = .ok (.i2l, 1) := by decide +kernel
theorem dX2_goesReckoning_106 : decode cX2_goesReckoning 106 = .ok (.invokestatic 108, 3) := by decide +kernel
theorem dX2_goesReckoning_109 : decode cX2_goesReckoning 109 = .ok (.lstore 4, 2) := by decide +kernel
theorem dX2_goesReckoning_111 : decode cX2_goesReckoning 111 = .ok (.lload 4, 2) := by decide +kernel
theorem dX2_goesReckoning_113 : decode cX2_goesReckoning 113 = .ok (.invokestatic 112, 3) := by decide +kernel
theorem dX2_goesReckoning_116 : decode cX2_goesReckoning 116 = .ok (.ifCond .eq 15, 3) := by decide +kernel
theorem dX2_goesReckoning_119 : decode cX2_goesReckoning 119 = .ok (.aload_n 0, 1) := by decide +kernel
theorem dX2_goesReckoning_120 : decode cX2_goesReckoning 120 = .ok (.bipush 8, 2) := by decide +kernel
theorem dX2_goesReckoning_122 : decode cX2_goesReckoning 122 = .ok (.lload 4, 2) := by decide +kernel
theorem dX2_goesReckoning_124 : decode cX2_goesReckoning 124 = .ok (.invokestatic 112, 3) := by decide +kernel
theorem dX2_goesReckoning_127 : decode cX2_goesReckoning 127 = .ok (.invokevirtual 90, 3) := by decide +kernel
theorem dX2_goesReckoning_130 : decode cX2_goesReckoning 130 = .ok (.ireturn, 1) := by decide +kernel
theorem dX2_goesReckoning_131 : decode cX2_goesReckoning 131 = .ok (.aload_n 0, 1) := by decide +kernel
theorem dX2_goesReckoning_132 : decode cX2_goesReckoning 132 = .ok (.getfield 29, 3) := by decide +kernel
theorem dX2_goesReckoning_135 : decode cX2_goesReckoning 135 = .ok (.iload_n 3, 1) := by decide +kernel
theorem dX2_goesReckoning_136 : decode cX2_goesReckoning 136 = .ok (.lload 4, 2) := by decide +kernel
theorem dX2_goesReckoning_138 : decode cX2_goesReckoning 138 = .ok (.l2i, 1) := by decide +kernel
theorem dX2_goesReckoning_139 : decode cX2_goesReckoning 139 = .ok (.iastore, 1) := by decide +kernel
theorem dX2_goesReckoning_140 : decode cX2_goesReckoning 140 = .ok (.iconst 1, 1) := by decide +kernel
theorem dX2_goesReckoning_141 : decode cX2_goesReckoning 141 = .ok (.ireturn, 1) := by decide +kernel
theorem dX2_goesStore_0 : decode cX2_goesStore 0 = .ok (.aload_n 0, 1) := by decide +kernel
theorem dX2_goesStore_1 : decode cX2_goesStore 1 = .ok (.getfield 45, 3) := by decide +kernel
theorem dX2_goesStore_4 : decode cX2_goesStore 4 = .ok (.iconst 1, 1) := by decide +kernel
theorem dX2_goesStore_5 : decode cX2_goesStore 5 = .ok (.isub, 1) := by decide +kernel
theorem dX2_goesStore_6 : decode cX2_goesStore 6 = .ok (.istore_n 3, 1) := by decide +kernel
theorem dX2_goesStore_7 : decode cX2_goesStore 7 = .ok (.iload_n 3, 1) := by decide +kernel
theorem dX2_goesStore_8 : decode cX2_goesStore 8 = .ok (.ifCond .lt 8, 3) := by decide +kernel
theorem dX2_goesStore_11 : decode cX2_goesStore 11 = .ok (.iload_n 3, 1) := by decide +kernel
theorem dX2_goesStore_12 : decode cX2_goesStore 12 = .ok (.iconst 5, 1) := by decide +kernel
theorem dX2_goesStore_13 : decode cX2_goesStore 13 = .ok (.if_icmp .lt 5, 3) := by decide +kernel
theorem dX2_goesStore_16 : decode cX2_goesStore 16 = .ok (.iconst 0, 1) := by decide +kernel
theorem dX2_goesStore_17 : decode cX2_goesStore 17 = .ok (.ireturn, 1) := by decide +kernel
theorem dX2_goesStore_18 : decode cX2_goesStore 18 = .ok (.aload_n 0, 1) := by decide +kernel
theorem dX2_goesStore_19 : decode cX2_goesStore 19 = .ok (.getfield 25, 3) := by decide +kernel
theorem dX2_goesStore_22 : decode cX2_goesStore 22 = .ok (.iload_n 3, 1) := by decide +kernel
theorem dX2_goesStore_23 : decode cX2_goesStore 23 = .ok (.baload, 1) := by decide +kernel
theorem dX2_goesStore_24 : decode cX2_goesStore 24 = .ok (.aload_n 2, 1) := by decide +kernel
theorem dX2_goesStore_25 : decode cX2_goesStore 25 = .ok (.getfield 71, 3) := by decide +kernel
theorem dX2_goesStore_28 : decode cX2_goesStore 28 = .ok (.iload_n 1, 1) := by decide +kernel
theorem dX2_goesStore_29 : decode cX2_goesStore 29 = .ok (.baload, 1) := by decide +kernel
theorem dX2_goesStore_30 : decode cX2_goesStore 30 = .ok (.if_icmp .eq 11, 3) := by decide +kernel
theorem dX2_goesStore_33 : decode cX2_goesStore 33 = .ok (.aload_n 0, 1) := by decide +kernel
theorem dX2_goesStore_34 : decode cX2_goesStore 34 = .ok (.bipush 7, 2) := by decide +kernel
theorem dX2_goesStore_36 : decode cX2_goesStore 36 = .ok (.iload_n 1, 1) := by decide +kernel
theorem dX2_goesStore_37 : decode cX2_goesStore 37 = .ok (.invokevirtual 90, 3) := by decide +kernel
theorem dX2_goesStore_40 : decode cX2_goesStore 40 = .ok (.ireturn, 1) := by decide +kernel
theorem dX2_goesStore_41 : decode cX2_goesStore 41 = .ok (.aload_n 0, 1) := by decide +kernel
theorem dX2_goesStore_42 : decode cX2_goesStore 42 = .ok (.getfield 25, 3) := by decide +kernel
theorem dX2_goesStore_45 : decode cX2_goesStore 45 = .ok (.iload_n 3, 1) := by decide +kernel
theorem dX2_goesStore_46 : decode cX2_goesStore 46 = .ok (.baload, 1) := by decide +kernel
theorem dX2_goesStore_47 : decode cX2_goesStore 47 = .ok (.ifCond .eq 21, 3) := by decide +kernel
theorem dX2_goesStore_50 : decode cX2_goesStore 50 = .ok (.aload_n 0, 1) := by decide +kernel
theorem dX2_goesStore_51 : decode cX2_goesStore 51 = .ok (.getfield 12, 3) := by decide +kernel
theorem dX2_goesStore_54 : decode cX2_goesStore 54 = .ok (.getfield 73, 3) := by decide +kernel
theorem dX2_goesStore_57 : decode cX2_goesStore 57 = .ok (.iload_n 1, 1) := by decide +kernel
theorem dX2_goesStore_58 : decode cX2_goesStore 58 = .ok (.aload_n 0, 1) := by decide +kernel
theorem dX2_goesStore_59 : decode cX2_goesStore 59 = .ok (.getfield 32, 3) := by decide +kernel
theorem dX2_goesStore_62 : decode cX2_goesStore 62 = .ok (.iload_n 3, 1) := by decide +kernel
theorem dX2_goesStore_63 : decode cX2_goesStore 63 = .ok (.faload, 1) := by decide +kernel
theorem dX2_goesStore_64 : decode cX2_goesStore 64 = .ok (.fastore, 1) := by decide +kernel
theorem dX2_goesStore_65 : decode cX2_goesStore 65 = .ok (.goto 48, 3) := by decide +kernel
theorem dX2_goesStore_68 : decode cX2_goesStore 68 = .ok (.aload_n 2, 1) := by decide +kernel
theorem dX2_goesStore_69 : decode cX2_goesStore 69 = .ok (.iload_n 1, 1) := by decide +kernel
theorem dX2_goesStore_70 : decode cX2_goesStore 70 = .ok (.aload_n 0, 1) := by decide +kernel
theorem dX2_goesStore_71 : decode cX2_goesStore 71 = .ok (.getfield 29, 3) := by decide +kernel
theorem dX2_goesStore_74 : decode cX2_goesStore 74 = .ok (.iload_n 3, 1) := by decide +kernel
theorem dX2_goesStore_75 : decode cX2_goesStore 75 = .ok (.iaload, 1) := by decide +kernel
theorem dX2_goesStore_76 : decode cX2_goesStore 76 = .ok (.i2l, 1) := by decide +kernel
theorem dX2_goesStore_77 : decode cX2_goesStore 77 = .ok (.invokevirtual 116, 3) := by decide +kernel
theorem dX2_goesStore_80 : decode cX2_goesStore 80 = .ok (.ifCond .eq 21, 3) := by decide +kernel
theorem dX2_goesStore_83 : decode cX2_goesStore 83 = .ok (.aload_n 0, 1) := by decide +kernel
theorem dX2_goesStore_84 : decode cX2_goesStore 84 = .ok (.getfield 12, 3) := by decide +kernel
theorem dX2_goesStore_87 : decode cX2_goesStore 87 = .ok (.getfield 72, 3) := by decide +kernel
theorem dX2_goesStore_90 : decode cX2_goesStore 90 = .ok (.iload_n 1, 1) := by decide +kernel
theorem dX2_goesStore_91 : decode cX2_goesStore 91 = .ok (.aload_n 0, 1) := by decide +kernel
theorem dX2_goesStore_92 : decode cX2_goesStore 92 = .ok (.getfield 29, 3) := by decide +kernel
theorem dX2_goesStore_95 : decode cX2_goesStore 95 = .ok (.iload_n 3, 1) := by decide +kernel
theorem dX2_goesStore_96 : decode cX2_goesStore 96 = .ok (.iaload, 1) := by decide +kernel
theorem dX2_goesStore_97 : decode cX2_goesStore 97 = .ok (.iastore, 1) := by decide +kernel
theorem dX2_goesStore_98 : decode cX2_goesStore 98 = .ok (.goto 15, 3) := by decide +kernel
theorem dX2_goesStore_101 : decode cX2_goesStore 101 = .ok (.aload_n 0, 1) := by decide +kernel
theorem dX2_goesStore_102 : decode cX2_goesStore 102 = .ok (.iconst 3, 1) := by decide +kernel
theorem dX2_goesStore_103 : decode cX2_goesStore 103 = .ok (.aload_n 0, 1) := by decide +kernel
theorem dX2_goesStore_104 : decode cX2_goesStore 104 = .ok (.getfield 29, 3) := by decide +kernel
theorem dX2_goesStore_107 : decode cX2_goesStore 107 = .ok (.iload_n 3, 1) := by decide +kernel
theorem dX2_goesStore_108 : decode cX2_goesStore 108 = .ok (.iaload, 1) := by decide +kernel
theorem dX2_goesStore_109 : decode cX2_goesStore 109 = .ok (.invokevirtual 90, 3) := by decide +kernel
theorem dX2_goesStore_112 : decode cX2_goesStore 112 = .ok (.ireturn, 1) := by decide +kernel
theorem dX2_goesStore_113 : decode cX2_goesStore 113 = .ok (.aload_n 0, 1) := by decide +kernel
theorem dX2_goesStore_114 : decode cX2_goesStore 114 = .ok (.getfield 18, 3) := by decide +kernel
theorem dX2_goesStore_117 : decode cX2_goesStore 117 = .ok (.iload_n 1, 1) := by decide +kernel
theorem dX2_goesStore_118 : decode cX2_goesStore 118 = .ok (.dup2, 1) := by decide +kernel
theorem dX2_goesStore_119 : decode cX2_goesStore 119 = .ok (.iaload, 1) := by decide +kernel
theorem dX2_goesStore_120 : decode cX2_goesStore 120 = .ok (.iconst 1, 1) := by decide +kernel
theorem dX2_goesStore_121 : decode cX2_goesStore 121 = .ok (.iadd, 1) := by decide +kernel
theorem dX2_goesStore_122 : decode cX2_goesStore 122 = .ok (.iastore, 1) := by decide +kernel
theorem dX2_goesStore_123 : decode cX2_goesStore 123 = .ok (.aload_n 0, 1) := by decide +kernel
theorem dX2_goesStore_124 : decode cX2_goesStore 124 = .ok (.dup, 1) := by decide +kernel
theorem dX2_goesStore_125 : decode cX2_goesStore 125 = .ok (.getfield 45, 3) := by decide +kernel
theorem dX2_goesStore_128 : decode cX2_goesStore 128 = .ok (.iconst 1, 1) := by decide +kernel
theorem dX2_goesStore_129 : decode cX2_goesStore 129 = .ok (.isub, 1) := by decide +kernel
theorem dX2_goesStore_130 : decode cX2_goesStore 130 = .ok (.putfield 45, 3) := by decide +kernel
theorem dX2_goesStore_133 : decode cX2_goesStore 133 = .ok (.iconst 1, 1) := by decide +kernel
theorem dX2_goesStore_134 : decode cX2_goesStore 134 = .ok (.ireturn, 1) := by decide +kernel
theorem dX2_boil_0 : decode cX2_boil 0 = .ok (.aload_n 0, 1) := by decide +kernel
theorem dX2_boil_1 : decode cX2_boil 1 = .ok (.iload_n 1, 1) := by decide +kernel
theorem dX2_boil_2 : decode cX2_boil 2 = .ok (.putfield 120, 3) := by decide +kernel
theorem dX2_boil_5 : decode cX2_boil 5 = .ok (.aload_n 0, 1) := by decide +kernel
theorem dX2_boil_6 : decode cX2_boil 6 = .ok (.iload_n 2, 1) := by decide +kernel
theorem dX2_boil_7 : decode cX2_boil 7 = .ok (.putfield 123, 3) := by decide +kernel
theorem dX2_boil_10 : decode cX2_boil 10 = .ok (.iconst 0, 1) := by decide +kernel
theorem dX2_boil_11 : decode cX2_boil 11 = .ok (.ireturn, 1) := by decide +kernel
theorem dX3_init_0 : decode cX3_init 0 = .ok (.aload_n 0, 1) := by decide +kernel
theorem dX3_init_1 : decode cX3_init 1 = .ok (.invokespecial 3, 3) := by decide +kernel
theorem dX3_init_4 : decode cX3_init 4 = .ok (.aload_n 0, 1) := by decide +kernel
theorem dX3_init_5 : decode cX3_init 5 = .ok (.bipush 24, 2) := by decide +kernel
theorem dX3_init_7 : decode cX3_init 7 = .ok (.newarray .boolean, 2) := by decide +kernel
theorem dX3_init_9 : decode cX3_init 9 = .ok (.putfield 9, 3) := by decide +kernel
theorem dX3_init_12 : decode cX3_init 12 = .ok (.aload_n 0, 1) := by decide +kernel
theorem dX3_init_13 : decode cX3_init 13 = .ok (.bipush 24, 2) := by decide +kernel
theorem dX3_init_15 : decode cX3_init 15 = .ok (.newarray .int, 2) := by decide +kernel
theorem dX3_init_17 : decode cX3_init 17 = .ok (.putfield 15, 3) := by decide +kernel
theorem dX3_init_20 : decode cX3_init 20 = .ok (.aload_n 0, 1) := by decide +kernel
theorem dX3_init_21 : decode cX3_init 21 = .ok (.bipush 24, 2) := by decide +kernel
theorem dX3_init_23 : decode cX3_init 23 = .ok (.newarray .float, 2) := by decide +kernel
theorem dX3_init_25 : decode cX3_init 25 = .ok (.putfield 19, 3) := by decide +kernel
theorem dX3_init_28 : decode cX3_init 28 = .ok (.return_, 1) := by decide +kernel
theorem dX3_goesWell_0 : decode cX3_goesWell 0 = .ok (.iconst 0, 1) := by decide +kernel
theorem dX3_goesWell_1 : decode cX3_goesWell 1 = .ok (.istore_n 3, 1) := by decide +kernel
theorem dX3_goesWell_2 : decode cX3_goesWell 2 = .ok (.iload_n 3, 1) := by decide +kernel
theorem dX3_goesWell_3 : decode cX3_goesWell 3 = .ok (.aload_n 1, 1) := by decide +kernel
theorem dX3_goesWell_4 : decode cX3_goesWell 4 = .ok (.getfield 23, 3) := by decide +kernel
theorem dX3_goesWell_7 : decode cX3_goesWell 7 = .ok (.if_icmp .ge 32, 3) := by decide +kernel
theorem dX3_goesWell_10 : decode cX3_goesWell 10 = .ok (.aload_n 1, 1) := by decide +kernel
theorem dX3_goesWell_11 : decode cX3_goesWell 11 = .ok (.getfield 29, 3) := by decide +kernel
theorem dX3_goesWell_14 : decode cX3_goesWell 14 = .ok (.iload_n 3, 1) := by decide +kernel
theorem dX3_goesWell_15 : decode cX3_goesWell 15 = .ok (.iaload, 1) := by decide +kernel
theorem dX3_goesWell_16 : decode cX3_goesWell 16 = .ok (.bipush 7, 2) := by decide +kernel
theorem dX3_goesWell_18 : decode cX3_goesWell 18 = .ok (.if_icmp .ne 15, 3) := by decide +kernel
theorem dX3_goesWell_21 : decode cX3_goesWell 21 = .ok (.aload_n 0, 1) := by decide +kernel
theorem dX3_goesWell_22 : decode cX3_goesWell 22 = .ok (.aload_n 1, 1) := by decide +kernel
theorem dX3_goesWell_23 : decode cX3_goesWell 23 = .ok (.aload_n 2, 1) := by decide +kernel
theorem dX3_goesWell_24 : decode cX3_goesWell 24 = .ok (.iload_n 3, 1) := by decide +kernel
theorem dX3_goesWell_25 : decode cX3_goesWell 25 = .ok (.invokevirtual 32, 3) := by decide +kernel
theorem dX3_goesWell_28 : decode cX3_goesWell 28 = .ok (.ifCond .ne 5, 3) := by decide +kernel
theorem dX3_goesWell_31 : decode cX3_goesWell 31 = .ok (.iconst 0, 1) := by decide +kernel
theorem dX3_goesWell_32 : decode cX3_goesWell 32 = .ok (.ireturn, 1) := by decide +kernel
theorem dX3_goesWell_33 : decode cX3_goesWell 33 = .ok (.iinc 3 1, 3) := by decide +kernel
theorem dX3_goesWell_36 : decode cX3_goesWell 36 = .ok (.goto (-34), 3) := by decide +kernel
theorem dX3_goesWell_39 : decode cX3_goesWell 39 = .ok (.iconst 1, 1) := by decide +kernel
theorem dX3_goesWell_40 : decode cX3_goesWell 40 = .ok (.ireturn, 1) := by decide +kernel
theorem dX3_leaves_0 : decode cX3_leaves 0 = .ok (.aload_n 1, 1) := by decide +kernel
theorem dX3_leaves_1 : decode cX3_leaves 1 = .ok (.bipush 7, 2) := by decide +kernel
theorem dX3_leaves_3 : decode cX3_leaves 3 = .ok (.iload_n 3, 1) := by decide +kernel
theorem dX3_leaves_4 : decode cX3_leaves 4 = .ok (.aload_n 1, 1) := by decide +kernel
theorem dX3_leaves_5 : decode cX3_leaves 5 = .ok (.getfield 23, 3) := by decide +kernel
theorem dX3_leaves_8 : decode cX3_leaves 8 = .ok (.invokevirtual 36, 3) := by decide +kernel
theorem dX3_leaves_11 : decode cX3_leaves 11 = .ok (.istore 4, 2) := by decide +kernel
theorem dX3_leaves_13 : decode cX3_leaves 13 = .ok (.iload 4, 2) := by decide +kernel
theorem dX3_leaves_15 : decode cX3_leaves 15 = .ok (.iconst (-1), 1) := by decide +kernel
theorem dX3_leaves_16 : decode cX3_leaves 16 = .ok (.if_icmp .ne 9, 3) := by decide +kernel
theorem dX3_leaves_19 : decode cX3_leaves 19 = .ok (.aload_n 2, 1) := by decide +kernel
theorem dX3_leaves_20 : decode cX3_leaves 20 = .ok (.iload_n 3, 1) := by decide +kernel
theorem dX3_leaves_21 : decode cX3_leaves 21 = .ok (.invokevirtual 40, 3) := by decide +kernel
theorem dX3_leaves_24 : decode cX3_leaves 24 = .ok (.ireturn, 1) := by decide +kernel
theorem dX3_leaves_25 : decode cX3_leaves 25 = .ok (.aload_n 0, 1) := by decide +kernel
theorem dX3_leaves_26 : decode cX3_leaves 26 = .ok (.getfield 9, 3) := by decide +kernel
theorem dX3_leaves_29 : decode cX3_leaves 29 = .ok (.iload 4, 2) := by decide +kernel
theorem dX3_leaves_31 : decode cX3_leaves 31 = .ok (.baload, 1) := by decide +kernel
theorem dX3_leaves_32 : decode cX3_leaves 32 = .ok (.ifCond .eq 14, 3) := by decide +kernel
theorem dX3_leaves_35 : decode cX3_leaves 35 = .ok (.aload_n 0, 1) := by decide +kernel
theorem dX3_leaves_36 : decode cX3_leaves 36 = .ok (.getfield 19, 3) := by decide +kernel
theorem dX3_leaves_39 : decode cX3_leaves 39 = .ok (.iload 4, 2) := by decide +kernel
theorem dX3_leaves_41 : decode cX3_leaves 41 = .ok (.faload, 1) := by decide +kernel
theorem dX3_leaves_42 : decode cX3_leaves 42 = .ok (.f2i, 1) := by decide +kernel
theorem dX3_leaves_43 : decode cX3_leaves 43 = .ok (.goto 10, 3) := by decide +kernel
theorem dX3_leaves_46 : decode cX3_leaves 46 = .ok (.aload_n 0, 1) := by decide +kernel
theorem dX3_leaves_47 : decode cX3_leaves 47 = .ok (.getfield 15, 3) := by decide +kernel
theorem dX3_leaves_50 : decode cX3_leaves 50 = .ok (.iload 4, 2) := by decide +kernel
theorem dX3_leaves_52 : decode cX3_leaves 52 = .ok (.iaload, 1) := by decide +kernel
theorem dX3_leaves_53 : decode cX3_leaves 53 = .ok (.ireturn, 1) := by decide +kernel
theorem dX3_goesStore_0 : decode cX3_goesStore 0 = .ok (.aload_n 1, 1) := by decide +kernel
theorem dX3_goesStore_1 : decode cX3_goesStore 1 = .ok (.getfield 46, 3) := by decide +kernel
theorem dX3_goesStore_4 : decode cX3_goesStore 4 = .ok (.iload_n 3, 1) := by decide +kernel
theorem dX3_goesStore_5 : decode cX3_goesStore 5 = .ok (.iaload, 1) := by decide +kernel
theorem dX3_goesStore_6 : decode cX3_goesStore 6 = .ok (.istore 4, 2) := by decide +kernel
theorem dX3_goesStore_8 : decode cX3_goesStore 8 = .ok (.aload_n 1, 1) := by decide +kernel
theorem dX3_goesStore_9 : decode cX3_goesStore 9 = .ok (.getfield 49, 3) := by decide +kernel
theorem dX3_goesStore_12 : decode cX3_goesStore 12 = .ok (.iload_n 3, 1) := by decide +kernel
theorem dX3_goesStore_13 : decode cX3_goesStore 13 = .ok (.iaload, 1) := by decide +kernel
theorem dX3_goesStore_14 : decode cX3_goesStore 14 = .ok (.istore 5, 2) := by decide +kernel
theorem dX3_goesStore_16 : decode cX3_goesStore 16 = .ok (.aload_n 0, 1) := by decide +kernel
theorem dX3_goesStore_17 : decode cX3_goesStore 17 = .ok (.aload_n 1, 1) := by decide +kernel
theorem dX3_goesStore_18 : decode cX3_goesStore 18 = .ok (.aload_n 2, 1) := by decide +kernel
theorem dX3_goesStore_19 : decode cX3_goesStore 19 = .ok (.iload 4, 2) := by decide +kernel
theorem dX3_goesStore_21 : decode cX3_goesStore 21 = .ok (.iconst 1, 1) := by decide +kernel
theorem dX3_goesStore_22 : decode cX3_goesStore 22 = .ok (.invokevirtual 52, 3) := by decide +kernel
theorem dX3_goesStore_25 : decode cX3_goesStore 25 = .ok (.ifCond .eq 15, 3) := by decide +kernel
theorem dX3_goesStore_28 : decode cX3_goesStore 28 = .ok (.iload 5, 2) := by decide +kernel
theorem dX3_goesStore_30 : decode cX3_goesStore 30 = .ok (.ifCond .lt 10, 3) := by decide +kernel
theorem dX3_goesStore_33 : decode cX3_goesStore 33 = .ok (.iload 5, 2) := by decide +kernel
theorem dX3_goesStore_35 : decode cX3_goesStore 35 = .ok (.bipush 6, 2) := by decide +kernel
theorem dX3_goesStore_37 : decode cX3_goesStore 37 = .ok (.if_icmp .lt 5, 3) := by decide +kernel
theorem dX3_goesStore_40 : decode cX3_goesStore 40 = .ok (.iconst 0, 1) := by decide +kernel
theorem dX3_goesStore_41 : decode cX3_goesStore 41 = .ok (.ireturn, 1) := by decide +kernel
theorem dX3_goesStore_42 : decode cX3_goesStore 42 = .ok (.aload_n 0, 1) := by decide +kernel
theorem dX3_goesStore_43 : decode cX3_goesStore 43 = .ok (.getfield 9, 3) := by decide +kernel
theorem dX3_goesStore_46 : decode cX3_goesStore 46 = .ok (.iload 4, 2) := by decide +kernel
theorem dX3_goesStore_48 : decode cX3_goesStore 48 = .ok (.baload, 1) := by decide +kernel
theorem dX3_goesStore_49 : decode cX3_goesStore 49 = .ok (.aload_n 2, 1) := by decide +kernel
theorem dX3_goesStore_50 : decode cX3_goesStore 50 = .ok (.getfield 56, 3) := by decide +kernel
theorem dX3_goesStore_53 : decode cX3_goesStore 53 = .ok (.iload 5, 2) := by decide +kernel
theorem dX3_goesStore_55 : decode cX3_goesStore 55 = .ok (.baload, 1) := by decide +kernel
theorem dX3_goesStore_56 : decode cX3_goesStore 56 = .ok (.if_icmp .eq 5, 3) := by decide +kernel
theorem dX3_goesStore_59 : decode cX3_goesStore 59 = .ok (.iconst 0, 1) := by decide +kernel
theorem dX3_goesStore_60 : decode cX3_goesStore 60 = .ok (.ireturn, 1) := by decide +kernel
theorem dX3_goesStore_61 : decode cX3_goesStore 61 = .ok (.aload_n 0, 1) := by decide +kernel
theorem dX3_goesStore_62 : decode cX3_goesStore 62 = .ok (.getfield 9, 3) := by decide +kernel
theorem dX3_goesStore_65 : decode cX3_goesStore 65 = .ok (.iload 4, 2) := by decide +kernel
theorem dX3_goesStore_67 : decode cX3_goesStore 67 = .ok (.baload, 1) := by decide +kernel
theorem dX3_goesStore_68 : decode cX3_goesStore 68 = .ok (.ifCond .eq 16, 3) := by decide +kernel
theorem dX3_goesStore_71 : decode cX3_goesStore 71 = .ok (.aload_n 0, 1) := by decide +kernel
theorem dX3_goesStore_72 : decode cX3_goesStore 72 = .ok (.iload_n 3, 1) := by decide +kernel
theorem dX3_goesStore_73 : decode cX3_goesStore 73 = .ok (.aload_n 0, 1) := by decide +kernel
theorem dX3_goesStore_74 : decode cX3_goesStore 74 = .ok (.getfield 19, 3) := by decide +kernel
theorem dX3_goesStore_77 : decode cX3_goesStore 77 = .ok (.iload 4, 2) := by decide +kernel
theorem dX3_goesStore_79 : decode cX3_goesStore 79 = .ok (.faload, 1) := by decide +kernel
theorem dX3_goesStore_80 : decode cX3_goesStore 80 = .ok (.invokevirtual 57, 3) := by decide +kernel
theorem dX3_goesStore_83 : decode cX3_goesStore 83 = .ok (.ireturn, 1) := by decide +kernel
theorem dX3_goesStore_84 : decode cX3_goesStore 84 = .ok (.aload_n 0, 1) := by decide +kernel
theorem dX3_goesStore_85 : decode cX3_goesStore 85 = .ok (.iload_n 3, 1) := by decide +kernel
theorem dX3_goesStore_86 : decode cX3_goesStore 86 = .ok (.aload_n 0, 1) := by decide +kernel
theorem dX3_goesStore_87 : decode cX3_goesStore 87 = .ok (.getfield 15, 3) := by decide +kernel
theorem dX3_goesStore_90 : decode cX3_goesStore 90 = .ok (.iload 4, 2) := by decide +kernel
theorem dX3_goesStore_92 : decode cX3_goesStore 92 = .ok (.iaload, 1) := by decide +kernel
theorem dX3_goesStore_93 : decode cX3_goesStore 93 = .ok (.i2l, 1) := by decide +kernel
theorem dX3_goesStore_94 : decode cX3_goesStore 94 = .ok (.invokevirtual 61, 3) := by decide +kernel
theorem dX3_goesStore_97 : decode cX3_goesStore 97 = .ok (.ifCond .eq 24, 3) := by decide +kernel
theorem dX3_goesStore_100 : decode cX3_goesStore 100 = .ok (.aload_n 2, 1) := by decide +kernel
theorem dX3_goesStore_101 : decode cX3_goesStore 101 = .ok (.iload 5, 2) := by decide +kernel
theorem dX3_goesStore_103 : decode cX3_goesStore 103 = .ok (.aload_n 0, 1) := by decide +kernel
theorem dX3_goesStore_104 : decode cX3_goesStore 104 = .ok (.getfield 15, 3) := by decide +kernel
theorem dX3_goesStore_107 : decode cX3_goesStore 107 = .ok (.iload 4, 2) := by decide +kernel
theorem dX3_goesStore_109 : decode cX3_goesStore 109 = .ok (.iaload, 1) := by decide +kernel
theorem dX3_goesStore_110 : decode cX3_goesStore 110 = .ok (.i2l, 1) := by decide +kernel
theorem dX3_goesStore_111 : decode cX3_goesStore 111 = .ok (.invokevirtual 65, 3) := by decide +kernel
theorem dX3_goesStore_114 : decode cX3_goesStore 114 = .ok (.ifCond .eq 7, 3) := by decide +kernel
theorem dX3_goesStore_117 : decode cX3_goesStore 117 = .ok (.iconst 1, 1) := by decide +kernel
theorem dX3_goesStore_118 : decode cX3_goesStore 118 = .ok (.goto 4, 3) := by decide +kernel
theorem dX3_goesStore_121 : decode cX3_goesStore 121 = .ok (.iconst 0, 1) := by decide +kernel
theorem dX3_goesStore_122 : decode cX3_goesStore 122 = .ok (.ireturn, 1) := by decide +kernel
theorem dX3_goesPart_0 : decode cX3_goesPart 0 = .ok (.iload_n 3, 1) := by decide +kernel
theorem dX3_goesPart_1 : decode cX3_goesPart 1 = .ok (.ifCond .lt 18, 3) := by decide +kernel
theorem dX3_goesPart_4 : decode cX3_goesPart 4 = .ok (.iload_n 3, 1) := by decide +kernel
theorem dX3_goesPart_5 : decode cX3_goesPart 5 = .ok (.aload_n 1, 1) := by decide +kernel
theorem dX3_goesPart_6 : decode cX3_goesPart 6 = .ok (.getfield 23, 3) := by decide +kernel
theorem dX3_goesPart_9 : decode cX3_goesPart 9 = .ok (.if_icmp .ge 10, 3) := by decide +kernel
theorem dX3_goesPart_12 : decode cX3_goesPart 12 = .ok (.iload 4, 2) := by decide +kernel
theorem dX3_goesPart_14 : decode cX3_goesPart 14 = .ok (.bipush 24, 2) := by decide +kernel
theorem dX3_goesPart_16 : decode cX3_goesPart 16 = .ok (.if_icmp .le 5, 3) := by decide +kernel
theorem dX3_goesPart_19 : decode cX3_goesPart 19 = .ok (.iconst 0, 1) := by decide +kernel
theorem dX3_goesPart_20 : decode cX3_goesPart 20 = .ok (.ireturn, 1) := by decide +kernel
theorem dX3_goesPart_21 : decode cX3_goesPart 21 = .ok (.aload_n 1, 1) := by decide +kernel
theorem dX3_goesPart_22 : decode cX3_goesPart 22 = .ok (.getfield 29, 3) := by decide +kernel
theorem dX3_goesPart_25 : decode cX3_goesPart 25 = .ok (.iload_n 3, 1) := by decide +kernel
theorem dX3_goesPart_26 : decode cX3_goesPart 26 = .ok (.iaload, 1) := by decide +kernel
theorem dX3_goesPart_27 : decode cX3_goesPart 27 = .ok (.istore 5, 2) := by decide +kernel
theorem dX3_goesPart_29 : decode cX3_goesPart 29 = .ok (.aload_n 1, 1) := by decide +kernel
theorem dX3_goesPart_30 : decode cX3_goesPart 30 = .ok (.getfield 49, 3) := by decide +kernel
theorem dX3_goesPart_33 : decode cX3_goesPart 33 = .ok (.iload_n 3, 1) := by decide +kernel
theorem dX3_goesPart_34 : decode cX3_goesPart 34 = .ok (.iaload, 1) := by decide +kernel
theorem dX3_goesPart_35 : decode cX3_goesPart 35 = .ok (.istore 6, 2) := by decide +kernel
theorem dX3_goesPart_37 : decode cX3_goesPart 37 = .ok (.iload 5, 2) := by decide +kernel
theorem dX3_goesPart_39 : decode cX3_goesPart 39 = .ok (.ifCond .ne 13, 3) := by decide +kernel
theorem dX3_goesPart_42 : decode cX3_goesPart 42 = .ok (.aload_n 0, 1) := by decide +kernel
theorem dX3_goesPart_43 : decode cX3_goesPart 43 = .ok (.aload_n 1, 1) := by decide +kernel
theorem dX3_goesPart_44 : decode cX3_goesPart 44 = .ok (.aload_n 2, 1) := by decide +kernel
theorem dX3_goesPart_45 : decode cX3_goesPart 45 = .ok (.iload_n 3, 1) := by decide +kernel
theorem dX3_goesPart_46 : decode cX3_goesPart 46 = .ok (.iload 6, 2) := by decide +kernel
theorem dX3_goesPart_48 : decode cX3_goesPart 48 = .ok (.invokevirtual 68, 3) := by decide +kernel
theorem dX3_goesPart_51 : decode cX3_goesPart 51 = .ok (.ireturn, 1) := by decide +kernel
theorem dX3_goesPart_52 : decode cX3_goesPart 52 = .ok (.iload 5, 2) := by decide +kernel
theorem dX3_goesPart_54 : decode cX3_goesPart 54 = .ok (.iconst 1, 1) := by decide +kernel
theorem dX3_goesPart_55 : decode cX3_goesPart 55 = .ok (.if_icmp .ne 12, 3) := by decide +kernel
theorem dX3_goesPart_58 : decode cX3_goesPart 58 = .ok (.aload_n 0, 1) := by decide +kernel
theorem dX3_goesPart_59 : decode cX3_goesPart 59 = .ok (.iload_n 3, 1) := by decide +kernel
theorem dX3_goesPart_60 : decode cX3_goesPart 60 = .ok (.iload 6, 2) := by decide +kernel
theorem dX3_goesPart_62 : decode cX3_goesPart 62 = .ok (.i2l, 1) := by decide +kernel
theorem dX3_goesPart_63 : decode cX3_goesPart 63 = .ok (.invokevirtual 61, 3) := by decide +kernel
theorem dX3_goesPart_66 : decode cX3_goesPart 66 = .ok (.ireturn, 1) := by decide +kernel
theorem dX3_goesPart_67 : decode cX3_goesPart 67 = .ok (.aload_n 1, 1) := by decide +kernel
theorem dX3_goesPart_68 : decode cX3_goesPart 68 = .ok (.getfield 46, 3) := by decide +kernel
theorem dX3_goesPart_71 : decode cX3_goesPart 71 = .ok (.iload_n 3, 1) := by decide +kernel
theorem dX3_goesPart_72 : decode cX3_goesPart 72 = .ok (.iaload, 1) := by decide +kernel
theorem dX3_goesPart_73 : decode cX3_goesPart 73 = .ok (.istore 7, 2) := by decide +kernel
theorem dX3_goesPart_75 : decode cX3_goesPart 75 = .ok (.iload 5, 2) := by decide +kernel
theorem dX3_goesPart_77 : decode cX3_goesPart 77 = .ok (.bipush 7, 2) := by decide +kernel
theorem dX3_goesPart_79 : decode cX3_goesPart 79 = .ok (.if_icmp .eq 18, 3) := by decide +kernel
theorem dX3_goesPart_82 : decode cX3_goesPart 82 = .ok (.aload_n 0, 1) := by decide +kernel
theorem dX3_goesPart_83 : decode cX3_goesPart 83 = .ok (.aload_n 1, 1) := by decide +kernel
theorem dX3_goesPart_84 : decode cX3_goesPart 84 = .ok (.aload_n 2, 1) := by decide +kernel
theorem dX3_goesPart_85 : decode cX3_goesPart 85 = .ok (.iload 7, 2) := by decide +kernel
theorem dX3_goesPart_87 : decode cX3_goesPart 87 = .ok (.iload 4, 2) := by decide +kernel
theorem dX3_goesPart_89 : decode cX3_goesPart 89 = .ok (.iconst 1, 1) := by decide +kernel
theorem dX3_goesPart_90 : decode cX3_goesPart 90 = .ok (.iadd, 1) := by decide +kernel
theorem dX3_goesPart_91 : decode cX3_goesPart 91 = .ok (.invokevirtual 52, 3) := by decide +kernel
theorem dX3_goesPart_94 : decode cX3_goesPart 94 = .ok (.ifCond .ne 5, 3) := by decide +kernel
theorem dX3_goesPart_97 : decode cX3_goesPart 97 = .ok (.iconst 0, 1) := by decide +kernel
theorem dX3_goesPart_98 : decode cX3_goesPart 98 = .ok (.ireturn, 1) := by decide +kernel
theorem dX3_goesPart_99 : decode cX3_goesPart 99 = .ok (.iload 5, 2) := by decide +kernel
theorem dX3_goesPart_101 : decode cX3_goesPart 101 = .ok (.iconst 5, 1) := by decide +kernel
theorem dX3_goesPart_102 : decode cX3_goesPart 102 = .ok (.if_icmp .eq 10, 3) := by decide +kernel
theorem dX3_goesPart_105 : decode cX3_goesPart 105 = .ok (.iload 5, 2) := by decide +kernel
theorem dX3_goesPart_107 : decode cX3_goesPart 107 = .ok (.bipush 6, 2) := by decide +kernel
theorem dX3_goesPart_109 : decode cX3_goesPart 109 = .ok (.if_icmp .ne 22, 3) := by decide +kernel
theorem dX3_goesPart_112 : decode cX3_goesPart 112 = .ok (.aload_n 0, 1) := by decide +kernel
theorem dX3_goesPart_113 : decode cX3_goesPart 113 = .ok (.iload_n 3, 1) := by decide +kernel
theorem dX3_goesPart_114 : decode cX3_goesPart 114 = .ok (.iload 7, 2) := by decide +kernel
theorem dX3_goesPart_116 : decode cX3_goesPart 116 = .ok (.iload 5, 2) := by decide +kernel
theorem dX3_goesPart_118 : decode cX3_goesPart 118 = .ok (.iconst 5, 1) := by decide +kernel
theorem dX3_goesPart_119 : decode cX3_goesPart 119 = .ok (.if_icmp .ne 7, 3) := by decide +kernel
theorem dX3_goesPart_122 : decode cX3_goesPart 122 = .ok (.iconst 1, 1) := by decide +kernel
theorem dX3_goesPart_123 : decode cX3_goesPart 123 = .ok (.goto 4, 3) := by decide +kernel
theorem dX3_goesPart_126 : decode cX3_goesPart 126 = .ok (.iconst 0, 1) := by decide +kernel
theorem dX3_goesPart_127 : decode cX3_goesPart 127 = .ok (.invokevirtual 71, 3) := by decide +kernel
theorem dX3_goesPart_130 : decode cX3_goesPart 130 = .ok (.ireturn, 1) := by decide +kernel
theorem dX3_goesPart_131 : decode cX3_goesPart 131 = .ok (.aload_n 1, 1) := by decide +kernel
theorem dX3_goesPart_132 : decode cX3_goesPart 132 = .ok (.getfield 75, 3) := by decide +kernel
theorem dX3_goesPart_135 : decode cX3_goesPart 135 = .ok (.iload_n 3, 1) := by decide +kernel
theorem dX3_goesPart_136 : decode cX3_goesPart 136 = .ok (.iaload, 1) := by decide +kernel
theorem dX3_goesPart_137 : decode cX3_goesPart 137 = .ok (.istore 8, 2) := by decide +kernel
theorem dX3_goesPart_139 : decode cX3_goesPart 139 = .ok (.aload_n 0, 1) := by decide +kernel
theorem dX3_goesPart_140 : decode cX3_goesPart 140 = .ok (.aload_n 1, 1) := by decide +kernel
theorem dX3_goesPart_141 : decode cX3_goesPart 141 = .ok (.aload_n 2, 1) := by decide +kernel
theorem dX3_goesPart_142 : decode cX3_goesPart 142 = .ok (.iload 8, 2) := by decide +kernel
theorem dX3_goesPart_144 : decode cX3_goesPart 144 = .ok (.iload 4, 2) := by decide +kernel
theorem dX3_goesPart_146 : decode cX3_goesPart 146 = .ok (.iconst 1, 1) := by decide +kernel
theorem dX3_goesPart_147 : decode cX3_goesPart 147 = .ok (.iadd, 1) := by decide +kernel
theorem dX3_goesPart_148 : decode cX3_goesPart 148 = .ok (.invokevirtual 52, 3) := by decide +kernel
theorem dX3_goesPart_151 : decode cX3_goesPart 151 = .ok (.ifCond .eq 21, 3) := by decide +kernel
theorem dX3_goesPart_154 : decode cX3_goesPart 154 = .ok (.aload_n 0, 1) := by decide +kernel
theorem dX3_goesPart_155 : decode cX3_goesPart 155 = .ok (.iload 5, 2) := by decide +kernel
theorem dX3_goesPart_157 : decode cX3_goesPart 157 = .ok (.iload_n 3, 1) := by decide +kernel
theorem dX3_goesPart_158 : decode cX3_goesPart 158 = .ok (.iload 7, 2) := by decide +kernel
theorem dX3_goesPart_160 : decode cX3_goesPart 160 = .ok (.iload 8, 2) := by decide +kernel
theorem dX3_goesPart_162 : decode cX3_goesPart 162 = .ok (.invokevirtual 78, 3) := by decide +kernel
theorem dX3_goesPart_165 : decode cX3_goesPart 165 = .ok (.ifCond .eq 7, 3) := by decide +kernel
theorem dX3_goesPart_168 : decode cX3_goesPart 168 = .ok (.iconst 1, 1) := by decide +kernel
theorem dX3_goesPart_169 : decode cX3_goesPart 169 = .ok (.goto 4, 3) := by decide +kernel
theorem dX3_goesPart_172 : decode cX3_goesPart 172 = .ok (.iconst 0, 1) := by decide +kernel
theorem dX3_goesPart_173 : decode cX3_goesPart 173 = .ok (.ireturn, 1) := by decide +kernel
theorem dX3_goesTake_0 : decode cX3_goesTake 0 = .ok (.iload 4, 2) := by decide +kernel
theorem dX3_goesTake_2 : decode cX3_goesTake 2 = .ok (.ifCond .lt 10, 3) := by decide +kernel
theorem dX3_goesTake_5 : decode cX3_goesTake 5 = .ok (.iload 4, 2) := by decide +kernel
theorem dX3_goesTake_7 : decode cX3_goesTake 7 = .ok (.bipush 6, 2) := by decide +kernel
theorem dX3_goesTake_9 : decode cX3_goesTake 9 = .ok (.if_icmp .lt 5, 3) := by decide +kernel
theorem dX3_goesTake_12 : decode cX3_goesTake 12 = .ok (.iconst 0, 1) := by decide +kernel
theorem dX3_goesTake_13 : decode cX3_goesTake 13 = .ok (.ireturn, 1) := by decide +kernel
theorem dX3_goesTake_14 : decode cX3_goesTake 14 = .ok (.aload_n 1, 1) := by decide +kernel
theorem dX3_goesTake_15 : decode cX3_goesTake 15 = .ok (.bipush 7, 2) := by decide +kernel
theorem dX3_goesTake_17 : decode cX3_goesTake 17 = .ok (.iload 4, 2) := by decide +kernel
theorem dX3_goesTake_19 : decode cX3_goesTake 19 = .ok (.iload_n 3, 1) := by decide +kernel
theorem dX3_goesTake_20 : decode cX3_goesTake 20 = .ok (.invokevirtual 36, 3) := by decide +kernel
theorem dX3_goesTake_23 : decode cX3_goesTake 23 = .ok (.istore 5, 2) := by decide +kernel
theorem dX3_goesTake_25 : decode cX3_goesTake 25 = .ok (.aload_n 2, 1) := by decide +kernel
theorem dX3_goesTake_26 : decode cX3_goesTake 26 = .ok (.getfield 56, 3) := by decide +kernel
theorem dX3_goesTake_29 : decode cX3_goesTake 29 = .ok (.iload 4, 2) := by decide +kernel
theorem dX3_goesTake_31 : decode cX3_goesTake 31 = .ok (.baload, 1) := by decide +kernel
theorem dX3_goesTake_32 : decode cX3_goesTake 32 = .ok (.ifCond .eq 35, 3) := by decide +kernel
theorem dX3_goesTake_35 : decode cX3_goesTake 35 = .ok (.aload_n 0, 1) := by decide +kernel
theorem dX3_goesTake_36 : decode cX3_goesTake 36 = .ok (.iload_n 3, 1) := by decide +kernel
theorem dX3_goesTake_37 : decode cX3_goesTake 37 = .ok (.iload 5, 2) := by decide +kernel
theorem dX3_goesTake_39 : decode cX3_goesTake 39 = .ok (.iconst (-1), 1) := by decide +kernel
theorem dX3_goesTake_40 : decode cX3_goesTake 40 = .ok (.if_icmp .ne 16, 3) := by decide +kernel
theorem dX3_goesTake_43 : decode cX3_goesTake 43 = .ok (.aload_n 2, 1) := by decide +kernel
theorem dX3_goesTake_44 : decode cX3_goesTake 44 = .ok (.getfield 82, 3) := by decide +kernel
theorem dX3_goesTake_47 : decode cX3_goesTake 47 = .ok (.getfield 86, 3) := by decide +kernel
theorem dX3_goesTake_50 : decode cX3_goesTake 50 = .ok (.iload 4, 2) := by decide +kernel
theorem dX3_goesTake_52 : decode cX3_goesTake 52 = .ok (.faload, 1) := by decide +kernel
theorem dX3_goesTake_53 : decode cX3_goesTake 53 = .ok (.goto 10, 3) := by decide +kernel
theorem dX3_goesTake_56 : decode cX3_goesTake 56 = .ok (.aload_n 0, 1) := by decide +kernel
theorem dX3_goesTake_57 : decode cX3_goesTake 57 = .ok (.getfield 19, 3) := by decide +kernel
theorem dX3_goesTake_60 : decode cX3_goesTake 60 = .ok (.iload 5, 2) := by decide +kernel
theorem dX3_goesTake_62 : decode cX3_goesTake 62 = .ok (.faload, 1) := by decide +kernel
theorem dX3_goesTake_63 : decode cX3_goesTake 63 = .ok (.invokevirtual 57, 3) := by decide +kernel
theorem dX3_goesTake_66 : decode cX3_goesTake 66 = .ok (.ireturn, 1) := by decide +kernel
theorem dX3_goesTake_67 : decode cX3_goesTake 67 = .ok (.aload_n 0, 1) := by decide +kernel
theorem dX3_goesTake_68 : decode cX3_goesTake 68 = .ok (.iload_n 3, 1) := by decide +kernel
theorem dX3_goesTake_69 : decode cX3_goesTake 69 = .ok (.iload 5, 2) := by decide +kernel
theorem dX3_goesTake_71 : decode cX3_goesTake 71 = .ok (.iconst (-1), 1) := by decide +kernel
theorem dX3_goesTake_72 : decode cX3_goesTake 72 = .ok (.if_icmp .ne 17, 3) := by decide +kernel
theorem dX3_goesTake_75 : decode cX3_goesTake 75 = .ok (.aload_n 2, 1) := by decide +kernel
theorem dX3_goesTake_76 : decode cX3_goesTake 76 = .ok (.getfield 82, 3) := by decide +kernel
theorem dX3_goesTake_79 : decode cX3_goesTake 79 = .ok (.getfield 89, 3) := by decide +kernel
theorem dX3_goesTake_82 : decode cX3_goesTake 82 = .ok (.iload 4, 2) := by decide +kernel
theorem dX3_goesTake_84 : decode cX3_goesTake 84 = .ok (.iaload, 1) := by decide +kernel
theorem dX3_goesTake_85 : decode cX3_goesTake 85 = .ok (.i2l, 1) := by decide +kernel
theorem dX3_goesTake_86 : decode cX3_goesTake 86 = .ok (.goto 11, 3) := by decide +kernel
theorem dX3_goesTake_89 : decode cX3_goesTake 89 = .ok (.aload_n 0, 1) := by decide +kernel
theorem dX3_goesTake_90 : decode cX3_goesTake 90 = .ok (.getfield 15, 3) := by decide +kernel
theorem dX3_goesTake_93 : decode cX3_goesTake 93 = .ok (.iload 5, 2) := by decide +kernel
theorem dX3_goesTake_95 : decode cX3_goesTake 95 = .ok (.iaload, 1) := by decide +kernel
theorem dX3_goesTake_96 : decode cX3_goesTake 96 = .ok (.i2l, 1) := by decide +kernel
theorem dX3_goesTake_97 : decode cX3_goesTake 97 = .ok (.invokevirtual 61, 3) := by decide +kernel
theorem dX3_goesTake_100 : decode cX3_goesTake 100 = .ok (.ireturn, 1) := by decide +kernel
theorem dX3_goesCast_0 : decode cX3_goesCast 0 = .ok (.aload_n 0, 1) := by decide +kernel
theorem dX3_goesCast_1 : decode cX3_goesCast 1 = .ok (.getfield 9, 3) := by decide +kernel
theorem dX3_goesCast_4 : decode cX3_goesCast 4 = .ok (.iload_n 2, 1) := by decide +kernel
theorem dX3_goesCast_5 : decode cX3_goesCast 5 = .ok (.baload, 1) := by decide +kernel
theorem dX3_goesCast_6 : decode cX3_goesCast 6 = .ok (.iload_n 3, 1) := by decide +kernel
theorem dX3_goesCast_7 : decode cX3_goesCast 7 = .ok (.if_icmp .ne 5, 3) := by decide +kernel
theorem dX3_goesCast_10 : decode cX3_goesCast 10 = .ok (.iconst 0, 1) := by decide +kernel
theorem dX3_goesCast_11 : decode cX3_goesCast 11 = .ok (.ireturn, 1) := by decide +kernel
theorem dX3_goesCast_12 : decode cX3_goesCast 12 = .ok (.iload_n 3, 1) := by decide +kernel
theorem dX3_goesCast_13 : decode cX3_goesCast 13 = .ok (.ifCond .eq 20, 3) := by decide +kernel
theorem dX3_goesCast_16 : decode cX3_goesCast 16 = .ok (.aload_n 0, 1) := by decide +kernel
theorem dX3_goesCast_17 : decode cX3_goesCast 17 = .ok (.iload_n 1, 1) := by decide +kernel
theorem dX3_goesCast_18 : decode cX3_goesCast 18 = .ok (.aload_n 0, 1) := by decide +kernel
theorem dX3_goesCast_19 : decode cX3_goesCast 19 = .ok (.getfield 15, 3) := by decide +kernel
theorem dX3_goesCast_22 : decode cX3_goesCast 22 = .ok (.iload_n 2, 1) := by decide +kernel
theorem dX3_goesCast_23 : decode cX3_goesCast 23 = .ok (.iaload, 1) := by decide +kernel
theorem dX3_goesCast_24 : decode cX3_goesCast 24 = .ok (.invokestatic 90, 3) := by decide +kernel
theorem dX3_goesCast_27 : decode cX3_goesCast 27 = .ok (.invokevirtual 57, 3) := by decide +kernel
theorem dX3_goesCast_30 : decode cX3_goesCast 30 = .ok (.goto 18, 3) := by decide +kernel
theorem dX3_goesCast_33 : decode cX3_goesCast 33 = .ok (.aload_n 0, 1) := by decide +kernel
theorem dX3_goesCast_34 : decode cX3_goesCast 34 = .ok (.iload_n 1, 1) := by decide +kernel
theorem dX3_goesCast_35 : decode cX3_goesCast 35 = .ok (.aload_n 0, 1) := by decide +kernel
theorem dX3_goesCast_36 : decode cX3_goesCast 36 = .ok (.getfield 19, 3) := by decide +kernel
theorem dX3_goesCast_39 : decode cX3_goesCast 39 = .ok (.iload_n 2, 1) := by decide +kernel
theorem dX3_goesCast_40 : decode cX3_goesCast 40 = .ok (.faload, 1) := by decide +kernel
theorem dX3_goesCast_41 : decode cX3_goesCast 41 = .ok (.invokestatic 96, 3) := by decide +kernel
theorem dX3_goesCast_44 : decode cX3_goesCast 44 = .ok (.i2l, 1) := by decide +kernel
theorem dX3_goesCast_45 : decode cX3_goesCast 45 = .ok (.invokevirtual 61, 3) := by decide +kernel
theorem dX3_goesCast_48 : decode cX3_goesCast 48 = .ok (.ireturn, 1) := by decide +kernel
theorem dX3_goesReckoning_0 : decode cX3_goesReckoning 0 = .ok (.aload_n 0, 1) := by decide +kernel
theorem dX3_goesReckoning_1 : decode cX3_goesReckoning 1 = .ok (.getfield 9, 3) := by decide +kernel
theorem dX3_goesReckoning_4 : decode cX3_goesReckoning 4 = .ok (.iload_n 3, 1) := by decide +kernel
theorem dX3_goesReckoning_5 : decode cX3_goesReckoning 5 = .ok (.baload, 1) := by decide +kernel
theorem dX3_goesReckoning_6 : decode cX3_goesReckoning 6 = .ok (.aload_n 0, 1) := by decide +kernel
theorem dX3_goesReckoning_7 : decode cX3_goesReckoning 7 = .ok (.getfield 9, 3) := by decide +kernel
theorem dX3_goesReckoning_10 : decode cX3_goesReckoning 10 = .ok (.iload 4, 2) := by decide +kernel
theorem dX3_goesReckoning_12 : decode cX3_goesReckoning 12 = .ok (.baload, 1) := by decide +kernel
theorem dX3_goesReckoning_13 : decode cX3_goesReckoning 13 = .ok (.if_icmp .eq 5, 3) := by decide +kernel
theorem dX3_goesReckoning_16 : decode cX3_goesReckoning 16 = .ok (.iconst 0, 1) := by decide +kernel
theorem dX3_goesReckoning_17 : decode cX3_goesReckoning 17 = .ok (.ireturn, 1) := by decide +kernel
theorem dX3_goesReckoning_18 : decode cX3_goesReckoning 18 = .ok (.aload_n 0, 1) := by decide +kernel
theorem dX3_goesReckoning_19 : decode cX3_goesReckoning 19 = .ok (.getfield 9, 3) := by decide +kernel
theorem dX3_goesReckoning_22 : decode cX3_goesReckoning 22 = .ok (.iload_n 3, 1) := by decide +kernel
theorem dX3_goesReckoning_23 : decode cX3_goesReckoning 23 = .ok (.baload, 1) := by decide +kernel
theorem dX3_goesReckoning_24 : decode cX3_goesReckoning 24 = .ok (.ifCond .eq 26, 3) := by decide +kernel
theorem dX3_goesReckoning_27 : decode cX3_goesReckoning 27 = .ok (.aload_n 0, 1) := by decide +kernel
theorem dX3_goesReckoning_28 : decode cX3_goesReckoning 28 = .ok (.iload_n 2, 1) := by decide +kernel
theorem dX3_goesReckoning_29 : decode cX3_goesReckoning 29 = .ok (.iload_n 1, 1) := by decide +kernel
theorem dX3_goesReckoning_30 : decode cX3_goesReckoning 30 = .ok (.aload_n 0, 1) := by decide +kernel
theorem dX3_goesReckoning_31 : decode cX3_goesReckoning 31 = .ok (.getfield 19, 3) := by decide +kernel
theorem dX3_goesReckoning_34 : decode cX3_goesReckoning 34 = .ok (.iload_n 3, 1) := by decide +kernel
theorem dX3_goesReckoning_35 : decode cX3_goesReckoning 35 = .ok (.faload, 1) := by decide +kernel
theorem dX3_goesReckoning_36 : decode cX3_goesReckoning 36 = .ok (.aload_n 0, 1) := by decide +kernel
theorem dX3_goesReckoning_37 : decode cX3_goesReckoning 37 = .ok (.getfield 19, 3) := by decide +kernel
theorem dX3_goesReckoning_40 : decode cX3_goesReckoning 40 = .ok (.iload 4, 2) := by decide +kernel
theorem dX3_goesReckoning_42 : decode cX3_goesReckoning 42 = .ok (.faload, 1) := by decide +kernel
theorem dX3_goesReckoning_43 : decode cX3_goesReckoning 43 = .ok (.invokestatic 100, 3) := by decide +kernel
theorem dX3_goesReckoning_46 : decode cX3_goesReckoning 46 = .ok (.invokevirtual 57, 3) := by decide +kernel
theorem dX3_goesReckoning_49 : decode cX3_goesReckoning 49 = .ok (.ireturn, 1) := by decide +kernel
theorem dX3_goesReckoning_50 : decode cX3_goesReckoning 50 = .ok (.aload_n 0, 1) := by decide +kernel
theorem dX3_goesReckoning_51 : decode cX3_goesReckoning 51 = .ok (.iload_n 2, 1) := by decide +kernel
theorem dX3_goesReckoning_52 : decode cX3_goesReckoning 52 = .ok (.iload_n 1, 1) := by decide +kernel
theorem dX3_goesReckoning_53 : decode cX3_goesReckoning 53 = .ok (.aload_n 0, 1) := by decide +kernel
theorem dX3_goesReckoning_54 : decode cX3_goesReckoning 54 = .ok (.getfield 15, 3) := by decide +kernel
theorem dX3_goesReckoning_57 : decode cX3_goesReckoning 57 = .ok (.iload_n 3, 1) := by decide +kernel
theorem dX3_goesReckoning_58 : decode cX3_goesReckoning 58 = .ok (.iaload, 1) := by decide +kernel
theorem dX3_goesReckoning_59 : decode cX3_goesReckoning 59 = .ok (.i2l, 1) := by decide +kernel
theorem dX3_goesReckoning_60 : decode cX3_goesReckoning 60 = .ok (.aload_n 0, 1) := by decide +kernel
theorem dX3_goesReckoning_61 : decode cX3_goesReckoning 61 = .ok (.getfield 15, 3) := by decide +kernel
theorem dX3_goesReckoning_64 : decode cX3_goesReckoning 64 = .ok (.iload 4, 2) := by decide +kernel
theorem dX3_goesReckoning_66 : decode cX3_goesReckoning 66 = .ok (.iaload, 1) := by decide +kernel
theorem dX3_goesReckoning_67 : decode cX3_goesReckoning 67 = .ok (.i2l, 1) := by decide +kernel
theorem dX3_goesReckoning_68 : decode cX3_goesReckoning 68 = .ok (.invokestatic 104, 3) := by decide +kernel
theorem dX3_goesReckoning_71 : decode cX3_goesReckoning 71 = .ok (.invokevirtual 61, 3) := by decide +kernel
theorem dX3_goesReckoning_74 : decode cX3_goesReckoning 74 = .ok (.ireturn, 1) := by decide +kernel
theorem dX3_givesBroth_0 : decode cX3_givesBroth 0 = .ok (.aload_n 0, 1) := by decide +kernel
theorem dX3_givesBroth_1 : decode cX3_givesBroth 1 = .ok (.getfield 9, 3) := by decide +kernel
theorem dX3_givesBroth_4 : decode cX3_givesBroth 4 = .ok (.iload_n 1, 1) := by decide +kernel
theorem dX3_givesBroth_5 : decode cX3_givesBroth 5 = .ok (.iconst 1, 1) := by decide +kernel
theorem dX3_givesBroth_6 : decode cX3_givesBroth 6 = .ok (.bastore, 1) := by decide +kernel
theorem dX3_givesBroth_7 : decode cX3_givesBroth 7 = .ok (.aload_n 0, 1) := by decide +kernel
theorem dX3_givesBroth_8 : decode cX3_givesBroth 8 = .ok (.getfield 19, 3) := by decide +kernel
theorem dX3_givesBroth_11 : decode cX3_givesBroth 11 = .ok (.iload_n 1, 1) := by decide +kernel
theorem dX3_givesBroth_12 : decode cX3_givesBroth 12 = .ok (.fload_n 2, 1) := by decide +kernel
theorem dX3_givesBroth_13 : decode cX3_givesBroth 13 = .ok (.fastore, 1) := by decide +kernel
theorem dX3_givesBroth_14 : decode cX3_givesBroth 14 = .ok (.iconst 1, 1) := by decide +kernel
theorem dX3_givesBroth_15 : decode cX3_givesBroth 15 = .ok (.ireturn, 1) := by decide +kernel
theorem dX3_givesDrams_0 : decode cX3_givesDrams 0 = .ok (.aload_n 0, 1) := by decide +kernel
theorem dX3_givesDrams_1 : decode cX3_givesDrams 1 = .ok (.getfield 9, 3) := by decide +kernel
theorem dX3_givesDrams_4 : decode cX3_givesDrams 4 = .ok (.iload_n 1, 1) := by decide +kernel
theorem dX3_givesDrams_5 : decode cX3_givesDrams 5 = .ok (.iconst 0, 1) := by decide +kernel
theorem dX3_givesDrams_6 : decode cX3_givesDrams 6 = .ok (.bastore, 1) := by decide +kernel
theorem dX3_givesDrams_7 : decode cX3_givesDrams 7 = .ok (.aload_n 0, 1) := by decide +kernel
theorem dX3_givesDrams_8 : decode cX3_givesDrams 8 = .ok (.getfield 15, 3) := by decide +kernel
theorem dX3_givesDrams_11 : decode cX3_givesDrams 11 = .ok (.iload_n 1, 1) := by decide +kernel
theorem dX3_givesDrams_12 : decode cX3_givesDrams 12 = .ok (.lload_n 2, 1) := by decide +kernel
theorem dX3_givesDrams_13 : decode cX3_givesDrams 13 = .ok (.l2i, 1) := by decide +kernel
theorem dX3_givesDrams_14 : decode cX3_givesDrams 14 = .ok (.iastore, 1) := by decide +kernel
theorem dX3_givesDrams_15 : decode cX3_givesDrams 15 = .ok (.lload_n 2, 1) := by decide +kernel
theorem dX3_givesDrams_16 : decode cX3_givesDrams 16 = .ok (.invokestatic 108, 3) := by decide +kernel
theorem dX3_givesDrams_19 : decode cX3_givesDrams 19 = .ok (.ifCond .ne 7, 3) := by decide +kernel
theorem dX3_givesDrams_22 : decode cX3_givesDrams 22 = .ok (.iconst 1, 1) := by decide +kernel
theorem dX3_givesDrams_23 : decode cX3_givesDrams 23 = .ok (.goto 4, 3) := by decide +kernel
theorem dX3_givesDrams_26 : decode cX3_givesDrams 26 = .ok (.iconst 0, 1) := by decide +kernel
theorem dX3_givesDrams_27 : decode cX3_givesDrams 27 = .ok (.ireturn, 1) := by decide +kernel
theorem dX4_init_0 : decode cX4_init 0 = .ok (.aload_n 0, 1) := by decide +kernel
theorem dX4_init_1 : decode cX4_init 1 = .ok (.invokespecial 3, 3) := by decide +kernel
theorem dX4_init_4 : decode cX4_init 4 = .ok (.aload_n 0, 1) := by decide +kernel
theorem dX4_init_5 : decode cX4_init 5 = .ok (.bipush 6, 2) := by decide +kernel
theorem dX4_init_7 : decode cX4_init 7 = .ok (.anewarray 9, 3) := by decide +kernel
theorem dX4_init_10 : decode cX4_init 10 = .ok (.putfield 11, 3) := by decide +kernel
theorem dX4_init_13 : decode cX4_init 13 = .ok (.iconst 0, 1) := by decide +kernel
theorem dX4_init_14 : decode cX4_init 14 = .ok (.istore_n 1, 1) := by decide +kernel
theorem dX4_init_15 : decode cX4_init 15 = .ok (.iload_n 1, 1) := by decide +kernel
theorem dX4_init_16 : decode cX4_init 16 = .ok (.bipush 6, 2) := by decide +kernel
theorem dX4_init_18 : decode cX4_init 18 = .ok (.if_icmp .ge 22, 3) := by decide +kernel
theorem dX4_init_21 : decode cX4_init 21 = .ok (.aload_n 0, 1) := by decide +kernel
theorem dX4_init_22 : decode cX4_init 22 = .ok (.getfield 11, 3) := by decide +kernel
theorem dX4_init_25 : decode cX4_init 25 = .ok (.iload_n 1, 1) := by decide +kernel
theorem dX4_init_26 : decode cX4_init 26 = .ok (.new 9, 3) := by decide +kernel
theorem dX4_init_29 : decode cX4_init 29 = .ok (.dup, 1) := by decide +kernel
theorem dX4_init_30 : decode cX4_init 30 = .ok (.invokespecial 17, 3) := by decide +kernel
theorem dX4_init_33 : decode cX4_init 33 = .ok (.aastore, 1) := by decide +kernel
theorem dX4_init_34 : decode cX4_init 34 = .ok (.iinc 1 1, 3) := by decide +kernel
theorem dX4_init_37 : decode cX4_init 37 = .ok (.goto (-22), 3) := by decide +kernel
theorem dX4_init_40 : decode cX4_init 40 = .ok (.return_, 1) := by decide +kernel
theorem dX4_remember_0 : decode cX4_remember 0 = .ok (.aload_n 0, 1) := by decide +kernel
theorem dX4_remember_1 : decode cX4_remember 1 = .ok (.getfield 11, 3) := by decide +kernel
theorem dX4_remember_4 : decode cX4_remember 4 = .ok (.aload_n 0, 1) := by decide +kernel
theorem dX4_remember_5 : decode cX4_remember 5 = .ok (.getfield 18, 3) := by decide +kernel
theorem dX4_remember_8 : decode cX4_remember 8 = .ok (.aaload, 1) := by decide +kernel
theorem dX4_remember_9 : decode cX4_remember 9 = .ok (.aload_n 1, 1) := by decide +kernel
theorem dX4_remember_10 : decode cX4_remember 10 = .ok (.invokevirtual 22, 3) := by decide +kernel
theorem dX4_remember_13 : decode cX4_remember 13 = .ok (.aload_n 0, 1) := by decide +kernel
theorem dX4_remember_14 : decode cX4_remember 14 = .ok (.aload_n 0, 1) := by decide +kernel
theorem dX4_remember_15 : decode cX4_remember 15 = .ok (.getfield 18, 3) := by decide +kernel
theorem dX4_remember_18 : decode cX4_remember 18 = .ok (.iconst 1, 1) := by decide +kernel
theorem dX4_remember_19 : decode cX4_remember 19 = .ok (.iadd, 1) := by decide +kernel
theorem dX4_remember_20 : decode cX4_remember 20 = .ok (.bipush 6, 2) := by decide +kernel
theorem dX4_remember_22 : decode cX4_remember 22 = .ok (.if_icmp .ge 12, 3) := by decide +kernel
theorem dX4_remember_25 : decode cX4_remember 25 = .ok (.aload_n 0, 1) := by decide +kernel
theorem dX4_remember_26 : decode cX4_remember 26 = .ok (.getfield 18, 3) := by decide +kernel
theorem dX4_remember_29 : decode cX4_remember 29 = .ok (.iconst 1, 1) := by decide +kernel
theorem dX4_remember_30 : decode cX4_remember 30 = .ok (.iadd, 1) := by decide +kernel
theorem dX4_remember_31 : decode cX4_remember 31 = .ok (.goto 4, 3) := by decide +kernel
theorem dX4_remember_34 : decode cX4_remember 34 = .ok (.iconst 0, 1) := by decide +kernel
theorem dX4_remember_35 : decode cX4_remember 35 = .ok (.putfield 18, 3) := by decide +kernel
theorem dX4_remember_38 : decode cX4_remember 38 = .ok (.aload_n 0, 1) := by decide +kernel
theorem dX4_remember_39 : decode cX4_remember 39 = .ok (.aload_n 0, 1) := by decide +kernel
theorem dX4_remember_40 : decode cX4_remember 40 = .ok (.getfield 26, 3) := by decide +kernel
theorem dX4_remember_43 : decode cX4_remember 43 = .ok (.iconst 1, 1) := by decide +kernel
theorem dX4_remember_44 : decode cX4_remember 44 = .ok (.iadd, 1) := by decide +kernel
theorem dX4_remember_45 : decode cX4_remember 45 = .ok (.bipush 6, 2) := by decide +kernel
theorem dX4_remember_47 : decode cX4_remember 47 = .ok (.invokestatic 29, 3) := by decide +kernel
theorem dX4_remember_50 : decode cX4_remember 50 = .ok (.putfield 26, 3) := by decide +kernel
theorem dX4_remember_53 : decode cX4_remember 53 = .ok (.return_, 1) := by decide +kernel
theorem dX4_giveBack_0 : decode cX4_giveBack 0 = .ok (.aload_n 0, 1) := by decide +kernel
theorem dX4_giveBack_1 : decode cX4_giveBack 1 = .ok (.aload_n 0, 1) := by decide +kernel
theorem dX4_giveBack_2 : decode cX4_giveBack 2 = .ok (.getfield 18, 3) := by decide +kernel
theorem dX4_giveBack_5 : decode cX4_giveBack 5 = .ok (.ifCond .le 12, 3) := by decide +kernel
theorem dX4_giveBack_8 : decode cX4_giveBack 8 = .ok (.aload_n 0, 1) := by decide +kernel
theorem dX4_giveBack_9 : decode cX4_giveBack 9 = .ok (.getfield 18, 3) := by decide +kernel
theorem dX4_giveBack_12 : decode cX4_giveBack 12 = .ok (.iconst 1, 1) := by decide +kernel
theorem dX4_giveBack_13 : decode cX4_giveBack 13 = .ok (.isub, 1) := by decide +kernel
theorem dX4_giveBack_14 : decode cX4_giveBack 14 = .ok (.goto 4, 3) := by decide +kernel
theorem dX4_giveBack_17 : decode cX4_giveBack 17 = .ok (.iconst 5, 1) := by decide +kernel
theorem dX4_giveBack_18 : decode cX4_giveBack 18 = .ok (.putfield 18, 3) := by decide +kernel
theorem dX4_giveBack_21 : decode cX4_giveBack 21 = .ok (.aload_n 1, 1) := by decide +kernel
theorem dX4_giveBack_22 : decode cX4_giveBack 22 = .ok (.aload_n 0, 1) := by decide +kernel
theorem dX4_giveBack_23 : decode cX4_giveBack 23 = .ok (.getfield 11, 3) := by decide +kernel
theorem dX4_giveBack_26 : decode cX4_giveBack 26 = .ok (.aload_n 0, 1) := by decide +kernel
theorem dX4_giveBack_27 : decode cX4_giveBack 27 = .ok (.getfield 18, 3) := by decide +kernel
theorem dX4_giveBack_30 : decode cX4_giveBack 30 = .ok (.aaload, 1) := by decide +kernel
theorem dX4_giveBack_31 : decode cX4_giveBack 31 = .ok (.invokevirtual 22, 3) := by decide +kernel
theorem dX4_giveBack_34 : decode cX4_giveBack 34 = .ok (.aload_n 0, 1) := by decide +kernel
theorem dX4_giveBack_35 : decode cX4_giveBack 35 = .ok (.dup, 1) := by decide +kernel
theorem dX4_giveBack_36 : decode cX4_giveBack 36 = .ok (.getfield 26, 3) := by decide +kernel
theorem dX4_giveBack_39 : decode cX4_giveBack 39 = .ok (.iconst 1, 1) := by decide +kernel
theorem dX4_giveBack_40 : decode cX4_giveBack 40 = .ok (.isub, 1) := by decide +kernel
theorem dX4_giveBack_41 : decode cX4_giveBack 41 = .ok (.putfield 26, 3) := by decide +kernel
theorem dX4_giveBack_44 : decode cX4_giveBack 44 = .ok (.return_, 1) := by decide +kernel
theorem dX5_ofDrams_0 : decode cX5_ofDrams 0 = .ok (.iload_n 0, 1) := by decide +kernel
theorem dX5_ofDrams_1 : decode cX5_ofDrams 1 = .ok (.iconst 2, 1) := by decide +kernel
theorem dX5_ofDrams_2 : decode cX5_ofDrams 2 = .ok (.if_icmp .ne 7, 3) := by decide +kernel
theorem dX5_ofDrams_5 : decode cX5_ofDrams 5 = .ok (.lload_n 1, 1) := by decide +kernel
theorem dX5_ofDrams_6 : decode cX5_ofDrams 6 = .ok (.lload_n 3, 1) := by decide +kernel
theorem dX5_ofDrams_7 : decode cX5_ofDrams 7 = .ok (.ladd, 1) := by decide +kernel
theorem dX5_ofDrams_8 : decode cX5_ofDrams 8 = .ok (.lreturn, 1) := by decide +kernel
theorem dX5_ofDrams_9 : decode cX5_ofDrams 9 = .ok (.iload_n 0, 1) := by decide +kernel
theorem dX5_ofDrams_10 : decode cX5_ofDrams 10 = .ok (.iconst 3, 1) := by decide +kernel
theorem dX5_ofDrams_11 : decode cX5_ofDrams 11 = .ok (.if_icmp .ne 9, 3) := by decide +kernel
theorem dX5_ofDrams_14 : decode cX5_ofDrams 14 = .ok (.lload_n 1, 1) := by decide +kernel
theorem dX5_ofDrams_15 : decode cX5_ofDrams 15 = .ok (.lload_n 3, 1) := by decide +kernel
theorem dX5_ofDrams_16 : decode cX5_ofDrams 16 = .ok (.lsub, 1) := by decide +kernel
theorem dX5_ofDrams_17 : decode cX5_ofDrams 17 = .ok (.goto 6, 3) := by decide +kernel
theorem dX5_ofDrams_20 : decode cX5_ofDrams 20 = .ok (.lload_n 1, 1) := by decide +kernel
theorem dX5_ofDrams_21 : decode cX5_ofDrams 21 = .ok (.lload_n 3, 1) := by decide +kernel
theorem dX5_ofDrams_22 : decode cX5_ofDrams 22 = .ok (.lmul, 1) := by decide +kernel
theorem dX5_ofDrams_23 : decode cX5_ofDrams 23 = .ok (.lreturn, 1) := by decide +kernel
theorem dX5_ofBroth_0 : decode cX5_ofBroth 0 = .ok (.iload_n 0, 1) := by decide +kernel
theorem dX5_ofBroth_1 : decode cX5_ofBroth 1 = .ok (.iconst 2, 1) := by decide +kernel
theorem dX5_ofBroth_2 : decode cX5_ofBroth 2 = .ok (.if_icmp .ne 10, 3) := by decide +kernel
theorem dX5_ofBroth_5 : decode cX5_ofBroth 5 = .ok (.fload_n 1, 1) := by decide +kernel
theorem dX5_ofBroth_6 : decode cX5_ofBroth 6 = .ok (.fload_n 2, 1) := by decide +kernel
theorem dX5_ofBroth_7 : decode cX5_ofBroth 7 = .ok (.fadd, 1) := by decide +kernel
theorem dX5_ofBroth_8 : decode cX5_ofBroth 8 = .ok (.invokestatic 9, 3) := by decide +kernel
theorem dX5_ofBroth_11 : decode cX5_ofBroth 11 = .ok (.freturn, 1) := by decide +kernel
theorem dX5_ofBroth_12 : decode cX5_ofBroth 12 = .ok (.iload_n 0, 1) := by decide +kernel
theorem dX5_ofBroth_13 : decode cX5_ofBroth 13 = .ok (.iconst 3, 1) := by decide +kernel
theorem dX5_ofBroth_14 : decode cX5_ofBroth 14 = .ok (.if_icmp .ne 9, 3) := by decide +kernel
theorem dX5_ofBroth_17 : decode cX5_ofBroth 17 = .ok (.fload_n 1, 1) := by decide +kernel
theorem dX5_ofBroth_18 : decode cX5_ofBroth 18 = .ok (.fload_n 2, 1) := by decide +kernel
theorem dX5_ofBroth_19 : decode cX5_ofBroth 19 = .ok (.fsub, 1) := by decide +kernel
theorem dX5_ofBroth_20 : decode cX5_ofBroth 20 = .ok (.goto 6, 3) := by decide +kernel
theorem dX5_ofBroth_23 : decode cX5_ofBroth 23 = .ok (.fload_n 1, 1) := by decide +kernel
theorem dX5_ofBroth_24 : decode cX5_ofBroth 24 = .ok (.fload_n 2, 1) := by decide +kernel
theorem dX5_ofBroth_25 : decode cX5_ofBroth 25 = .ok (.fmul, 1) := by decide +kernel
theorem dX5_ofBroth_26 : decode cX5_ofBroth 26 = .ok (.invokestatic 9, 3) := by decide +kernel
theorem dX5_ofBroth_29 : decode cX5_ofBroth 29 = .ok (.freturn, 1) := by decide +kernel
theorem dX5_toBroth_0 : decode cX5_toBroth 0 = .ok (.iload_n 0, 1) := by decide +kernel
theorem dX5_toBroth_1 : decode cX5_toBroth 1 = .ok (.i2f, 1) := by decide +kernel
theorem dX5_toBroth_2 : decode cX5_toBroth 2 = .ok (.invokestatic 9, 3) := by decide +kernel
theorem dX5_toBroth_5 : decode cX5_toBroth 5 = .ok (.freturn, 1) := by decide +kernel
theorem dX5_toDrams_0 : decode cX5_toDrams 0 = .ok (.bipush (-99), 2) := by decide +kernel
theorem dX5_toDrams_2 : decode cX5_toDrams 2 = .ok (.bipush 99, 2) := by decide +kernel
theorem dX5_toDrams_4 : decode cX5_toDrams 4 = .ok (.fload_n 0, 1) := by decide +kernel
theorem dX5_toDrams_5 : decode cX5_toDrams 5 = .ok (.f2i, 1) := by decide +kernel
theorem dX5_toDrams_6 : decode cX5_toDrams 6 = .ok (.invokestatic 15, 3) := by decide +kernel
theorem dX5_toDrams_9 : decode cX5_toDrams 9 = .ok (.invokestatic 21, 3) := by decide +kernel
theorem dX5_toDrams_12 : decode cX5_toDrams 12 = .ok (.ireturn, 1) := by decide +kernel
theorem dX5_excess_0 : decode cX5_excess 0 = .ok (.lload_n 0, 1) := by decide +kernel
theorem dX5_excess_1 : decode cX5_excess 1 = .ok (.ldc2_w 24, 3) := by decide +kernel
theorem dX5_excess_4 : decode cX5_excess 4 = .ok (.lcmp, 1) := by decide +kernel
theorem dX5_excess_5 : decode cX5_excess 5 = .ok (.ifCond .ge 5, 3) := by decide +kernel
theorem dX5_excess_8 : decode cX5_excess 8 = .ok (.iconst (-1), 1) := by decide +kernel
theorem dX5_excess_9 : decode cX5_excess 9 = .ok (.ireturn, 1) := by decide +kernel
theorem dX5_excess_10 : decode cX5_excess 10 = .ok (.lload_n 0, 1) := by decide +kernel
theorem dX5_excess_11 : decode cX5_excess 11 = .ok (.ldc2_w 26, 3) := by decide +kernel
theorem dX5_excess_14 : decode cX5_excess 14 = .ok (.lcmp, 1) := by decide +kernel
theorem dX5_excess_15 : decode cX5_excess 15 = .ok (.ifCond .le 7, 3) := by decide +kernel
theorem dX5_excess_18 : decode cX5_excess 18 = .ok (.iconst 1, 1) := by decide +kernel
theorem dX5_excess_19 : decode cX5_excess 19 = .ok (.goto 4, 3) := by decide +kernel
theorem dX5_excess_22 : decode cX5_excess 22 = .ok (.iconst 0, 1) := by decide +kernel
theorem dX5_excess_23 : decode cX5_excess 23 = .ok (.ireturn, 1) := by decide +kernel
theorem dX5_lowest_0 : decode cX5_lowest 0 = .ok (.iload_n 0, 1) := by decide +kernel
theorem dX5_lowest_1 : decode cX5_lowest 1 = .ok (.iconst 2, 1) := by decide +kernel
theorem dX5_lowest_2 : decode cX5_lowest 2 = .ok (.if_icmp .ne 8, 3) := by decide +kernel
theorem dX5_lowest_5 : decode cX5_lowest 5 = .ok (.lload_n 1, 1) := by decide +kernel
theorem dX5_lowest_6 : decode cX5_lowest 6 = .ok (.lload 5, 2) := by decide +kernel
theorem dX5_lowest_8 : decode cX5_lowest 8 = .ok (.ladd, 1) := by decide +kernel
theorem dX5_lowest_9 : decode cX5_lowest 9 = .ok (.lreturn, 1) := by decide +kernel
theorem dX5_lowest_10 : decode cX5_lowest 10 = .ok (.iload_n 0, 1) := by decide +kernel
theorem dX5_lowest_11 : decode cX5_lowest 11 = .ok (.iconst 3, 1) := by decide +kernel
theorem dX5_lowest_12 : decode cX5_lowest 12 = .ok (.if_icmp .ne 8, 3) := by decide +kernel
theorem dX5_lowest_15 : decode cX5_lowest 15 = .ok (.lload_n 1, 1) := by decide +kernel
theorem dX5_lowest_16 : decode cX5_lowest 16 = .ok (.lload 7, 2) := by decide +kernel
theorem dX5_lowest_18 : decode cX5_lowest 18 = .ok (.lsub, 1) := by decide +kernel
theorem dX5_lowest_19 : decode cX5_lowest 19 = .ok (.lreturn, 1) := by decide +kernel
theorem dX5_lowest_20 : decode cX5_lowest 20 = .ok (.lload_n 1, 1) := by decide +kernel
theorem dX5_lowest_21 : decode cX5_lowest 21 = .ok (.lload 5, 2) := by decide +kernel
theorem dX5_lowest_23 : decode cX5_lowest 23 = .ok (.lmul, 1) := by decide +kernel
theorem dX5_lowest_24 : decode cX5_lowest 24 = .ok (.lload_n 1, 1) := by decide +kernel
theorem dX5_lowest_25 : decode cX5_lowest 25 = .ok (.lload 7, 2) := by decide +kernel
theorem dX5_lowest_27 : decode cX5_lowest 27 = .ok (.lmul, 1) := by decide +kernel
theorem dX5_lowest_28 : decode cX5_lowest 28 = .ok (.invokestatic 28, 3) := by decide +kernel
theorem dX5_lowest_31 : decode cX5_lowest 31 = .ok (.lload_n 3, 1) := by decide +kernel
theorem dX5_lowest_32 : decode cX5_lowest 32 = .ok (.lload 5, 2) := by decide +kernel
theorem dX5_lowest_34 : decode cX5_lowest 34 = .ok (.lmul, 1) := by decide +kernel
theorem dX5_lowest_35 : decode cX5_lowest 35 = .ok (.lload_n 3, 1) := by decide +kernel
theorem dX5_lowest_36 : decode cX5_lowest 36 = .ok (.lload 7, 2) := by decide +kernel
theorem dX5_lowest_38 : decode cX5_lowest 38 = .ok (.lmul, 1) := by decide +kernel
theorem dX5_lowest_39 : decode cX5_lowest 39 = .ok (.invokestatic 28, 3) := by decide +kernel
theorem dX5_lowest_42 : decode cX5_lowest 42 = .ok (.invokestatic 28, 3) := by decide +kernel
theorem dX5_lowest_45 : decode cX5_lowest 45 = .ok (.lreturn, 1) := by decide +kernel
theorem dX5_highest_0 : decode cX5_highest 0 = .ok (.iload_n 0, 1) := by decide +kernel
theorem dX5_highest_1 : decode cX5_highest 1 = .ok (.iconst 2, 1) := by decide +kernel
theorem dX5_highest_2 : decode cX5_highest 2 = .ok (.if_icmp .ne 8, 3) := by decide +kernel
theorem dX5_highest_5 : decode cX5_highest 5 = .ok (.lload_n 3, 1) := by decide +kernel
theorem dX5_highest_6 : decode cX5_highest 6 = .ok (.lload 7, 2) := by decide +kernel
theorem dX5_highest_8 : decode cX5_highest 8 = .ok (.ladd, 1) := by decide +kernel
theorem dX5_highest_9 : decode cX5_highest 9 = .ok (.lreturn, 1) := by decide +kernel
theorem dX5_highest_10 : decode cX5_highest 10 = .ok (.iload_n 0, 1) := by decide +kernel
theorem dX5_highest_11 : decode cX5_highest 11 = .ok (.iconst 3, 1) := by decide +kernel
theorem dX5_highest_12 : decode cX5_highest 12 = .ok (.if_icmp .ne 8, 3) := by decide +kernel
theorem dX5_highest_15 : decode cX5_highest 15 = .ok (.lload_n 3, 1) := by decide +kernel
theorem dX5_highest_16 : decode cX5_highest 16 = .ok (.lload 5, 2) := by decide +kernel
theorem dX5_highest_18 : decode cX5_highest 18 = .ok (.lsub, 1) := by decide +kernel
theorem dX5_highest_19 : decode cX5_highest 19 = .ok (.lreturn, 1) := by decide +kernel
theorem dX5_highest_20 : decode cX5_highest 20 = .ok (.lload_n 1, 1) := by decide +kernel
theorem dX5_highest_21 : decode cX5_highest 21 = .ok (.lload 5, 2) := by decide +kernel
theorem dX5_highest_23 : decode cX5_highest 23 = .ok (.lmul, 1) := by decide +kernel
theorem dX5_highest_24 : decode cX5_highest 24 = .ok (.lload_n 1, 1) := by decide +kernel
theorem dX5_highest_25 : decode cX5_highest 25 = .ok (.lload 7, 2) := by decide +kernel
theorem dX5_highest_27 : decode cX5_highest 27 = .ok (.lmul, 1) := by decide +kernel
theorem dX5_highest_28 : decode cX5_highest 28 = .ok (.invokestatic 31, 3) := by decide +kernel
theorem dX5_highest_31 : decode cX5_highest 31 = .ok (.lload_n 3, 1) := by decide +kernel
theorem dX5_highest_32 : decode cX5_highest 32 = .ok (.lload 5, 2) := by decide +kernel
theorem dX5_highest_34 : decode cX5_highest 34 = .ok (.lmul, 1) := by decide +kernel
theorem dX5_highest_35 : decode cX5_highest 35 = .ok (.lload_n 3, 1) := by decide +kernel
theorem dX5_highest_36 : decode cX5_highest 36 = .ok (.lload 7, 2) := by decide +kernel
theorem dX5_highest_38 : decode cX5_highest 38 = .ok (.lmul, 1) := by decide +kernel
theorem dX5_highest_39 : decode cX5_highest 39 = .ok (.invokestatic 31, 3) := by decide +kernel
theorem dX5_highest_42 : decode cX5_highest 42 = .ok (.invokestatic 31, 3) := by decide +kernel
theorem dX5_highest_45 : decode cX5_highest 45 = .ok (.lreturn, 1) := by decide +kernel
theorem dX5_differ_0 : decode cX5_differ 0 = .ok (.fload_n 0, 1) := by decide +kernel
theorem dX5_differ_1 : decode cX5_differ 1 = .ok (.fload_n 1, 1) := by decide +kernel
theorem dX5_differ_2 : decode cX5_differ 2 = .ok (.fcmp .l, 1) := by decide +kernel
theorem dX5_differ_3 : decode cX5_differ 3 = .ok (.ifCond .ne 16, 3) := by decide +kernel
theorem dX5_differ_6 : decode cX5_differ 6 = .ok (.fload_n 0, 1) := by decide +kernel
theorem dX5_differ_7 : decode cX5_differ 7 = .ok (.f2d, 1) := by decide +kernel
theorem dX5_differ_8 : decode cX5_differ 8 = .ok (.invokestatic 33, 3) := by decide +kernel
theorem dX5_differ_11 : decode cX5_differ 11 = .ok (.fload_n 1, 1) := by decide +kernel
theorem dX5_differ_12 : decode cX5_differ 12 = .ok (.f2d, 1) := by decide +kernel
theorem dX5_differ_13 : decode cX5_differ 13 = .ok (.invokestatic 33, 3) := by decide +kernel
theorem dX5_differ_16 : decode cX5_differ 16 = .ok (.if_icmp .eq 7, 3) := by decide +kernel
theorem dX5_differ_19 : decode cX5_differ 19 = .ok (.iconst 1, 1) := by decide +kernel
theorem dX5_differ_20 : decode cX5_differ 20 = .ok (.goto 4, 3) := by decide +kernel
theorem dX5_differ_23 : decode cX5_differ 23 = .ok (.iconst 0, 1) := by decide +kernel
theorem dX5_differ_24 : decode cX5_differ 24 = .ok (.ireturn, 1) := by decide +kernel
theorem dX5_bitsOf_0 : decode cX5_bitsOf 0 = .ok (.fload_n 0, 1) := by decide +kernel
theorem dX5_bitsOf_1 : decode cX5_bitsOf 1 = .ok (.f2d, 1) := by decide +kernel
theorem dX5_bitsOf_2 : decode cX5_bitsOf 2 = .ok (.invokestatic 33, 3) := by decide +kernel
theorem dX5_bitsOf_5 : decode cX5_bitsOf 5 = .ok (.istore_n 1, 1) := by decide +kernel
theorem dX5_bitsOf_6 : decode cX5_bitsOf 6 = .ok (.iload_n 1, 1) := by decide +kernel
theorem dX5_bitsOf_7 : decode cX5_bitsOf 7 = .ok (.ifCond .eq 9, 3) := by decide +kernel
theorem dX5_bitsOf_10 : decode cX5_bitsOf 10 = .ok (.fload_n 0, 1) := by decide +kernel
theorem dX5_bitsOf_11 : decode cX5_bitsOf 11 = .ok (.f2d, 1) := by decide +kernel
theorem dX5_bitsOf_12 : decode cX5_bitsOf 12 = .ok (.dneg, 1) := by decide +kernel
theorem dX5_bitsOf_13 : decode cX5_bitsOf 13 = .ok (.goto 5, 3) := by decide +kernel
theorem dX5_bitsOf_16 : decode cX5_bitsOf 16 = .ok (.fload_n 0, 1) := by decide +kernel
theorem dX5_bitsOf_17 : decode cX5_bitsOf 17 = .ok (.f2d, 1) := by decide +kernel
theorem dX5_bitsOf_18 : decode cX5_bitsOf 18 = .ok (.dstore_n 2, 1) := by decide +kernel
theorem dX5_bitsOf_19 : decode cX5_bitsOf 19 = .ok (.iload_n 1, 1) := by decide +kernel
theorem dX5_bitsOf_20 : decode cX5_bitsOf 20 = .ok (.ifCond .eq 8, 3) := by decide +kernel
theorem dX5_bitsOf_23 : decode cX5_bitsOf 23 = .ok (.ldc 37, 2) := by decide +kernel
theorem dX5_bitsOf_25 : decode cX5_bitsOf 25 = .ok (.goto 4, 3) := by decide +kernel
theorem dX5_bitsOf_28 : decode cX5_bitsOf 28 = .ok (.iconst 0, 1) := by decide +kernel
theorem dX5_bitsOf_29 : decode cX5_bitsOf 29 = .ok (.istore 4, 2) := by decide +kernel
theorem dX5_bitsOf_31 : decode cX5_bitsOf 31 = .ok (.dload_n 2, 1) := by decide +kernel
theorem dX5_bitsOf_32 : decode cX5_bitsOf 32 = .ok (.dconst 0, 1) := by decide +kernel
theorem dX5_bitsOf_33 : decode cX5_bitsOf 33 = .ok (.dcmp .l, 1) := by decide +kernel
theorem dX5_bitsOf_34 : decode cX5_bitsOf 34 = .ok (.ifCond .ne 6, 3) := by decide +kernel
theorem dX5_bitsOf_37 : decode cX5_bitsOf 37 = .ok (.iload 4, 2) := by decide +kernel
theorem dX5_bitsOf_39 : decode cX5_bitsOf 39 = .ok (.ireturn, 1) := by decide +kernel
theorem dX5_bitsOf_40 : decode cX5_bitsOf 40 = .ok (.dload_n 2, 1) := by decide +kernel
theorem dX5_bitsOf_41 : decode cX5_bitsOf 41 = .ok (.bipush (-126), 2) := by decide +kernel
theorem dX5_bitsOf_43 : decode cX5_bitsOf 43 = .ok (.invokestatic 38, 3) := by decide +kernel
theorem dX5_bitsOf_46 : decode cX5_bitsOf 46 = .ok (.istore 5, 2) := by decide +kernel
theorem dX5_bitsOf_48 : decode cX5_bitsOf 48 = .ok (.dload_n 2, 1) := by decide +kernel
theorem dX5_bitsOf_49 : decode cX5_bitsOf 49 = .ok (.iload 5, 2) := by decide +kernel
theorem dX5_bitsOf_51 : decode cX5_bitsOf 51 = .ok (.invokestatic 42, 3) := by decide +kernel
theorem dX5_bitsOf_54 : decode cX5_bitsOf 54 = .ok (.dstore 6, 2) := by decide +kernel
theorem dX5_bitsOf_56 : decode cX5_bitsOf 56 = .ok (.dload 6, 2) := by decide +kernel
theorem dX5_bitsOf_58 : decode cX5_bitsOf 58 = .ok (.dconst 1, 1) := by decide +kernel
theorem dX5_bitsOf_59 : decode cX5_bitsOf 59 = .ok (.dcmp .g, 1) := by decide +kernel
theorem dX5_bitsOf_60 : decode cX5_bitsOf 60 = .ok (.ifCond .ge 14, 3) := by decide +kernel
theorem dX5_bitsOf_63 : decode cX5_bitsOf 63 = .ok (.iload 4, 2) := by decide +kernel
theorem dX5_bitsOf_65 : decode cX5_bitsOf 65 = .ok (.dload 6, 2) := by decide +kernel
theorem dX5_bitsOf_67 : decode cX5_bitsOf 67 = .ok (.ldc2_w 46, 3) := by decide +kernel
theorem dX5_bitsOf_70 : decode cX5_bitsOf 70 = .ok (.dmul, 1) := by decide +kernel
theorem dX5_bitsOf_71 : decode cX5_bitsOf 71 = .ok (.d2i, 1) := by decide +kernel
theorem dX5_bitsOf_72 : decode cX5_bitsOf 72 = .ok (.ior, 1) := by decide +kernel
theorem dX5_bitsOf_73 : decode cX5_bitsOf 73 = .ok (.ireturn, 1) := by decide +kernel
theorem dX5_bitsOf_74 : decode cX5_bitsOf 74 = .ok (.iload 4, 2) := by decide +kernel
theorem dX5_bitsOf_76 : decode cX5_bitsOf 76 = .ok (.iload 5, 2) := by decide +kernel
theorem dX5_bitsOf_78 : decode cX5_bitsOf 78 = .ok (.bipush 127, 2) := by decide +kernel
theorem dX5_bitsOf_80 : decode cX5_bitsOf 80 = .ok (.iadd, 1) := by decide +kernel
theorem dX5_bitsOf_81 : decode cX5_bitsOf 81 = .ok (.bipush 23, 2) := by decide +kernel
theorem dX5_bitsOf_83 : decode cX5_bitsOf 83 = .ok (.ishl, 1) := by decide +kernel
theorem dX5_bitsOf_84 : decode cX5_bitsOf 84 = .ok (.ior, 1) := by decide +kernel
theorem dX5_bitsOf_85 : decode cX5_bitsOf 85 = .ok (.dload 6, 2) := by decide +kernel
theorem dX5_bitsOf_87 : decode cX5_bitsOf 87 = .ok (.dconst 1, 1) := by decide +kernel
theorem dX5_bitsOf_88 : decode cX5_bitsOf 88 = .ok (.dsub, 1) := by decide +kernel
theorem dX5_bitsOf_89 : decode cX5_bitsOf 89 = .ok (.ldc2_w 46, 3) := by decide +kernel
theorem dX5_bitsOf_92 : decode cX5_bitsOf 92 = .ok (.dmul, 1) := by decide +kernel
theorem dX5_bitsOf_93 : decode cX5_bitsOf 93 = .ok (.d2i, 1) := by decide +kernel
theorem dX5_bitsOf_94 : decode cX5_bitsOf 94 = .ok (.ior, 1) := by decide +kernel
theorem dX5_bitsOf_95 : decode cX5_bitsOf 95 = .ok (.ireturn, 1) := by decide +kernel
theorem dX5_longBitsOf_0 : decode cX5_longBitsOf 0 = .ok (.dload_n 0, 1) := by decide +kernel
theorem dX5_longBitsOf_1 : decode cX5_longBitsOf 1 = .ok (.invokestatic 33, 3) := by decide +kernel
theorem dX5_longBitsOf_4 : decode cX5_longBitsOf 4 = .ok (.istore_n 2, 1) := by decide +kernel
theorem dX5_longBitsOf_5 : decode cX5_longBitsOf 5 = .ok (.iload_n 2, 1) := by decide +kernel
theorem dX5_longBitsOf_6 : decode cX5_longBitsOf 6 = .ok (.ifCond .eq 8, 3) := by decide +kernel
theorem dX5_longBitsOf_9 : decode cX5_longBitsOf 9 = .ok (.dload_n 0, 1) := by decide +kernel
theorem dX5_longBitsOf_10 : decode cX5_longBitsOf 10 = .ok (.dneg, 1) := by decide +kernel
theorem dX5_longBitsOf_11 : decode cX5_longBitsOf 11 = .ok (.goto 4, 3) := by decide +kernel
theorem dX5_longBitsOf_14 : decode cX5_longBitsOf 14 = .ok (.dload_n 0, 1) := by decide +kernel
theorem dX5_longBitsOf_15 : decode cX5_longBitsOf 15 = .ok (.dstore_n 3, 1) := by decide +kernel
theorem dX5_longBitsOf_16 : decode cX5_longBitsOf 16 = .ok (.iload_n 2, 1) := by decide +kernel
theorem dX5_longBitsOf_17 : decode cX5_longBitsOf 17 = .ok (.ifCond .eq 9, 3) := by decide +kernel
theorem dX5_longBitsOf_20 : decode cX5_longBitsOf 20 = .ok (.ldc2_w 48, 3) := by decide +kernel
theorem dX5_longBitsOf_23 : decode cX5_longBitsOf 23 = .ok (.goto 4, 3) := by decide +kernel
theorem dX5_longBitsOf_26 : decode cX5_longBitsOf 26 = .ok (.lconst 0, 1) := by decide +kernel
theorem dX5_longBitsOf_27 : decode cX5_longBitsOf 27 = .ok (.lstore 5, 2) := by decide +kernel
theorem dX5_longBitsOf_29 : decode cX5_longBitsOf 29 = .ok (.dload_n 3, 1) := by decide +kernel
theorem dX5_longBitsOf_30 : decode cX5_longBitsOf 30 = .ok (.dconst 0, 1) := by decide +kernel
theorem dX5_longBitsOf_31 : decode cX5_longBitsOf 31 = .ok (.dcmp .l, 1) := by decide +kernel
theorem dX5_longBitsOf_32 : decode cX5_longBitsOf 32 = .ok (.ifCond .ne 6, 3) := by decide +kernel
theorem dX5_longBitsOf_35 : decode cX5_longBitsOf 35 = .ok (.lload 5, 2) := by decide +kernel
theorem dX5_longBitsOf_37 : decode cX5_longBitsOf 37 = .ok (.lreturn, 1) := by decide +kernel
theorem dX5_longBitsOf_38 : decode cX5_longBitsOf 38 = .ok (.dload_n 3, 1) := by decide +kernel
theorem dX5_longBitsOf_39 : decode cX5_longBitsOf 39 = .ok (.sipush (-1022), 3) := by decide +kernel
theorem dX5_longBitsOf_42 : decode cX5_longBitsOf 42 = .ok (.invokestatic 38, 3) := by decide +kernel
theorem dX5_longBitsOf_45 : decode cX5_longBitsOf 45 = .ok (.istore 7, 2) := by decide +kernel
theorem dX5_longBitsOf_47 : decode cX5_longBitsOf 47 = .ok (.dload_n 3, 1) := by decide +kernel
theorem dX5_longBitsOf_48 : decode cX5_longBitsOf 48 = .ok (.iload 7, 2) := by decide +kernel
theorem dX5_longBitsOf_50 : decode cX5_longBitsOf 50 = .ok (.invokestatic 42, 3) := by decide +kernel
theorem dX5_longBitsOf_53 : decode cX5_longBitsOf 53 = .ok (.dstore 8, 2) := by decide +kernel
theorem dX5_longBitsOf_55 : decode cX5_longBitsOf 55 = .ok (.dload 8, 2) := by decide +kernel
theorem dX5_longBitsOf_57 : decode cX5_longBitsOf 57 = .ok (.dconst 1, 1) := by decide +kernel
theorem dX5_longBitsOf_58 : decode cX5_longBitsOf 58 = .ok (.dcmp .g, 1) := by decide +kernel
theorem dX5_longBitsOf_59 : decode cX5_longBitsOf 59 = .ok (.ifCond .ge 14, 3) := by decide +kernel
theorem dX5_longBitsOf_62 : decode cX5_longBitsOf 62 = .ok (.lload 5, 2) := by decide +kernel
theorem dX5_longBitsOf_64 : decode cX5_longBitsOf 64 = .ok (.dload 8, 2) := by decide +kernel
theorem dX5_longBitsOf_66 : decode cX5_longBitsOf 66 = .ok (.ldc2_w 50, 3) := by decide +kernel
theorem dX5_longBitsOf_69 : decode cX5_longBitsOf 69 = .ok (.dmul, 1) := by decide +kernel
theorem dX5_longBitsOf_70 : decode cX5_longBitsOf 70 = .ok (.d2l, 1) := by decide +kernel
theorem dX5_longBitsOf_71 : decode cX5_longBitsOf 71 = .ok (.lor, 1) := by decide +kernel
theorem dX5_longBitsOf_72 : decode cX5_longBitsOf 72 = .ok (.lreturn, 1) := by decide +kernel
theorem dX5_longBitsOf_73 : decode cX5_longBitsOf 73 = .ok (.lload 5, 2) := by decide +kernel
theorem dX5_longBitsOf_75 : decode cX5_longBitsOf 75 = .ok (.iload 7, 2) := by decide +kernel
theorem dX5_longBitsOf_77 : decode cX5_longBitsOf 77 = .ok (.sipush 1023, 3) := by decide +kernel
theorem dX5_longBitsOf_80 : decode cX5_longBitsOf 80 = .ok (.iadd, 1) := by decide +kernel
theorem dX5_longBitsOf_81 : decode cX5_longBitsOf 81 = .ok (.i2l, 1) := by decide +kernel
theorem dX5_longBitsOf_82 : decode cX5_longBitsOf 82 = .ok (.bipush 52, 2) := by decide +kernel
theorem dX5_longBitsOf_84 : decode cX5_longBitsOf 84 = .ok (.lshl, 1) := by decide +kernel
theorem dX5_longBitsOf_85 : decode cX5_longBitsOf 85 = .ok (.lor, 1) := by decide +kernel
theorem dX5_longBitsOf_86 : decode cX5_longBitsOf 86 = .ok (.dload 8, 2) := by decide +kernel
theorem dX5_longBitsOf_88 : decode cX5_longBitsOf 88 = .ok (.dconst 1, 1) := by decide +kernel
theorem dX5_longBitsOf_89 : decode cX5_longBitsOf 89 = .ok (.dsub, 1) := by decide +kernel
theorem dX5_longBitsOf_90 : decode cX5_longBitsOf 90 = .ok (.ldc2_w 50, 3) := by decide +kernel
theorem dX5_longBitsOf_93 : decode cX5_longBitsOf 93 = .ok (.dmul, 1) := by decide +kernel
theorem dX5_longBitsOf_94 : decode cX5_longBitsOf 94 = .ok (.d2l, 1) := by decide +kernel
theorem dX5_longBitsOf_95 : decode cX5_longBitsOf 95 = .ok (.lor, 1) := by decide +kernel
theorem dX5_longBitsOf_96 : decode cX5_longBitsOf 96 = .ok (.lreturn, 1) := by decide +kernel
theorem dX5_held_0 : decode cX5_held 0 = .ok (.fload_n 0, 1) := by decide +kernel
theorem dX5_held_1 : decode cX5_held 1 = .ok (.ldc 52, 2) := by decide +kernel
theorem dX5_held_3 : decode cX5_held 3 = .ok (.fcmp .g, 1) := by decide +kernel
theorem dX5_held_4 : decode cX5_held 4 = .ok (.ifCond .ge 6, 3) := by decide +kernel
theorem dX5_held_7 : decode cX5_held 7 = .ok (.ldc 52, 2) := by decide +kernel
theorem dX5_held_9 : decode cX5_held 9 = .ok (.freturn, 1) := by decide +kernel
theorem dX5_held_10 : decode cX5_held 10 = .ok (.fload_n 0, 1) := by decide +kernel
theorem dX5_held_11 : decode cX5_held 11 = .ok (.ldc 53, 2) := by decide +kernel
theorem dX5_held_13 : decode cX5_held 13 = .ok (.fcmp .l, 1) := by decide +kernel
theorem dX5_held_14 : decode cX5_held 14 = .ok (.ifCond .le 8, 3) := by decide +kernel
theorem dX5_held_17 : decode cX5_held 17 = .ok (.ldc 53, 2) := by decide +kernel
theorem dX5_held_19 : decode cX5_held 19 = .ok (.goto 4, 3) := by decide +kernel
theorem dX5_held_22 : decode cX5_held 22 = .ok (.fload_n 0, 1) := by decide +kernel
theorem dX5_held_23 : decode cX5_held 23 = .ok (.freturn, 1) := by decide +kernel
theorem dX5_isNegative_0 : decode cX5_isNegative 0 = .ok (.dload_n 0, 1) := by decide +kernel
theorem dX5_isNegative_1 : decode cX5_isNegative 1 = .ok (.dconst 0, 1) := by decide +kernel
theorem dX5_isNegative_2 : decode cX5_isNegative 2 = .ok (.dcmp .g, 1) := by decide +kernel
theorem dX5_isNegative_3 : decode cX5_isNegative 3 = .ok (.ifCond .lt 17, 3) := by decide +kernel
theorem dX5_isNegative_6 : decode cX5_isNegative 6 = .ok (.dload_n 0, 1) := by decide +kernel
theorem dX5_isNegative_7 : decode cX5_isNegative 7 = .ok (.dconst 0, 1) := by decide +kernel
theorem dX5_isNegative_8 : decode cX5_isNegative 8 = .ok (.dcmp .l, 1) := by decide +kernel
theorem dX5_isNegative_9 : decode cX5_isNegative 9 = .ok (.ifCond .ne 15, 3) := by decide +kernel
theorem dX5_isNegative_12 : decode cX5_isNegative 12 = .ok (.dconst 1, 1) := by decide +kernel
theorem dX5_isNegative_13 : decode cX5_isNegative 13 = .ok (.dload_n 0, 1) := by decide +kernel
theorem dX5_isNegative_14 : decode cX5_isNegative 14 = .ok (.ddiv, 1) := by decide +kernel
theorem dX5_isNegative_15 : decode cX5_isNegative 15 = .ok (.dconst 0, 1) := by decide +kernel
theorem dX5_isNegative_16 : decode cX5_isNegative 16 = .ok (.dcmp .g, 1) := by decide +kernel
theorem dX5_isNegative_17 : decode cX5_isNegative 17 = .ok (.ifCond .ge 7, 3) := by decide +kernel
theorem dX5_isNegative_20 : decode cX5_isNegative 20 = .ok (.iconst 1, 1) := by decide +kernel
theorem dX5_isNegative_21 : decode cX5_isNegative 21 = .ok (.goto 4, 3) := by decide +kernel
theorem dX5_isNegative_24 : decode cX5_isNegative 24 = .ok (.iconst 0, 1) := by decide +kernel
theorem dX5_isNegative_25 : decode cX5_isNegative 25 = .ok (.ireturn, 1) := by decide +kernel
theorem dX5_exponentOf_0 : decode cX5_exponentOf 0 = .ok (.iconst 0, 1) := by decide +kernel
theorem dX5_exponentOf_1 : decode cX5_exponentOf 1 = .ok (.istore_n 3, 1) := by decide +kernel
theorem dX5_exponentOf_2 : decode cX5_exponentOf 2 = .ok (.dload_n 0, 1) := by decide +kernel
theorem dX5_exponentOf_3 : decode cX5_exponentOf 3 = .ok (.dstore 4, 2) := by decide +kernel
theorem dX5_exponentOf_5 : decode cX5_exponentOf 5 = .ok (.dload 4, 2) := by decide +kernel
theorem dX5_exponentOf_7 : decode cX5_exponentOf 7 = .ok (.ldc2_w 54, 3) := by decide +kernel
theorem dX5_exponentOf_10 : decode cX5_exponentOf 10 = .ok (.dcmp .l, 1) := by decide +kernel
theorem dX5_exponentOf_11 : decode cX5_exponentOf 11 = .ok (.ifCond .lt 24, 3) := by decide +kernel
theorem dX5_exponentOf_14 : decode cX5_exponentOf 14 = .ok (.iload_n 3, 1) := by decide +kernel
theorem dX5_exponentOf_15 : decode cX5_exponentOf 15 = .ok (.sipush 1023, 3) := by decide +kernel
theorem dX5_exponentOf_18 : decode cX5_exponentOf 18 = .ok (.if_icmp .ge 17, 3) := by decide +kernel
theorem dX5_exponentOf_21 : decode cX5_exponentOf 21 = .ok (.dload 4, 2) := by decide +kernel
theorem dX5_exponentOf_23 : decode cX5_exponentOf 23 = .ok (.ldc2_w 54, 3) := by decide +kernel
theorem dX5_exponentOf_26 : decode cX5_exponentOf 26 = .ok (.ddiv, 1) := by decide +kernel
theorem dX5_exponentOf_27 : decode cX5_exponentOf 27 = .ok (.dstore 4, 2) := by decide +kernel
theorem dX5_exponentOf_29 : decode cX5_exponentOf 29 = .ok (.iinc 3 1, 3) := by decide +kernel
theorem dX5_exponentOf_32 : decode cX5_exponentOf 32 = .ok (.goto (-27), 3) := by decide +kernel
theorem dX5_exponentOf_35 : decode cX5_exponentOf 35 = .ok (.dload 4, 2) := by decide +kernel
theorem dX5_exponentOf_37 : decode cX5_exponentOf 37 = .ok (.dconst 1, 1) := by decide +kernel
theorem dX5_exponentOf_38 : decode cX5_exponentOf 38 = .ok (.dcmp .g, 1) := by decide +kernel
theorem dX5_exponentOf_39 : decode cX5_exponentOf 39 = .ok (.ifCond .ge 22, 3) := by decide +kernel
theorem dX5_exponentOf_42 : decode cX5_exponentOf 42 = .ok (.iload_n 3, 1) := by decide +kernel
theorem dX5_exponentOf_43 : decode cX5_exponentOf 43 = .ok (.iload_n 2, 1) := by decide +kernel
theorem dX5_exponentOf_44 : decode cX5_exponentOf 44 = .ok (.if_icmp .le 17, 3) := by decide +kernel
theorem dX5_exponentOf_47 : decode cX5_exponentOf 47 = .ok (.dload 4, 2) := by decide +kernel
theorem dX5_exponentOf_49 : decode cX5_exponentOf 49 = .ok (.ldc2_w 54, 3) := by decide +kernel
theorem dX5_exponentOf_52 : decode cX5_exponentOf 52 = .ok (.dmul, 1) := by decide +kernel
theorem dX5_exponentOf_53 : decode cX5_exponentOf 53 = .ok (.dstore 4, 2) := by decide +kernel
theorem dX5_exponentOf_55 : decode cX5_exponentOf 55 = .ok (.iinc 3 (-1), 3) := by decide +kernel
theorem dX5_exponentOf_58 : decode cX5_exponentOf 58 = .ok (.goto (-23), 3) := by decide +kernel
theorem dX5_exponentOf_61 : decode cX5_exponentOf 61 = .ok (.iload_n 3, 1) := by decide +kernel
theorem dX5_exponentOf_62 : decode cX5_exponentOf 62 = .ok (.ireturn, 1) := by decide +kernel
theorem dX5_scale_0 : decode cX5_scale 0 = .ok (.dload_n 0, 1) := by decide +kernel
theorem dX5_scale_1 : decode cX5_scale 1 = .ok (.dstore_n 3, 1) := by decide +kernel
theorem dX5_scale_2 : decode cX5_scale 2 = .ok (.iload_n 2, 1) := by decide +kernel
theorem dX5_scale_3 : decode cX5_scale 3 = .ok (.istore 5, 2) := by decide +kernel
theorem dX5_scale_5 : decode cX5_scale 5 = .ok (.iload 5, 2) := by decide +kernel
theorem dX5_scale_7 : decode cX5_scale 7 = .ok (.ifCond .le 15, 3) := by decide +kernel
theorem dX5_scale_10 : decode cX5_scale 10 = .ok (.dload_n 3, 1) := by decide +kernel
theorem dX5_scale_11 : decode cX5_scale 11 = .ok (.ldc2_w 54, 3) := by decide +kernel
theorem dX5_scale_14 : decode cX5_scale 14 = .ok (.ddiv, 1) := by decide +kernel
theorem dX5_scale_15 : decode cX5_scale 15 = .ok (.dstore_n 3, 1) := by decide +kernel
theorem dX5_scale_16 : decode cX5_scale 16 = .ok (.iinc 5 (-1), 3) := by decide +kernel
theorem dX5_scale_19 : decode cX5_scale 19 = .ok (.goto (-14), 3) := by decide +kernel
theorem dX5_scale_22 : decode cX5_scale 22 = .ok (.iload_n 2, 1) := by decide +kernel
theorem dX5_scale_23 : decode cX5_scale 23 = .ok (.istore 5, 2) := by decide +kernel
theorem dX5_scale_25 : decode cX5_scale 25 = .ok (.iload 5, 2) := by decide +kernel
theorem dX5_scale_27 : decode cX5_scale 27 = .ok (.ifCond .ge 15, 3) := by decide +kernel
theorem dX5_scale_30 : decode cX5_scale 30 = .ok (.dload_n 3, 1) := by decide +kernel
theorem dX5_scale_31 : decode cX5_scale 31 = .ok (.ldc2_w 54, 3) := by decide +kernel
theorem dX5_scale_34 : decode cX5_scale 34 = .ok (.dmul, 1) := by decide +kernel
theorem dX5_scale_35 : decode cX5_scale 35 = .ok (.dstore_n 3, 1) := by decide +kernel
theorem dX5_scale_36 : decode cX5_scale 36 = .ok (.iinc 5 1, 3) := by decide +kernel
theorem dX5_scale_39 : decode cX5_scale 39 = .ok (.goto (-14), 3) := by decide +kernel
theorem dX5_scale_42 : decode cX5_scale 42 = .ok (.dload_n 3, 1) := by decide +kernel
theorem dX5_scale_43 : decode cX5_scale 43 = .ok (.dreturn, 1) := by decide +kernel
theorem dX6_init_0 : decode cX6_init 0 = .ok (.aload_n 0, 1) := by decide +kernel
theorem dX6_init_1 : decode cX6_init 1 = .ok (.invokespecial 3, 3) := by decide +kernel
theorem dX6_init_4 : decode cX6_init 4 = .ok (.aload_n 0, 1) := by decide +kernel
theorem dX6_init_5 : decode cX6_init 5 = .ok (.bipush 24, 2) := by decide +kernel
theorem dX6_init_7 : decode cX6_init 7 = .ok (.newarray .char, 2) := by decide +kernel
theorem dX6_init_9 : decode cX6_init 9 = .ok (.putfield 9, 3) := by decide +kernel
theorem dX6_init_12 : decode cX6_init 12 = .ok (.aload_n 0, 1) := by decide +kernel
theorem dX6_init_13 : decode cX6_init 13 = .ok (.bipush 24, 2) := by decide +kernel
theorem dX6_init_15 : decode cX6_init 15 = .ok (.newarray .int, 2) := by decide +kernel
theorem dX6_init_17 : decode cX6_init 17 = .ok (.putfield 15, 3) := by decide +kernel
theorem dX6_init_20 : decode cX6_init 20 = .ok (.aload_n 0, 1) := by decide +kernel
theorem dX6_init_21 : decode cX6_init 21 = .ok (.bipush 24, 2) := by decide +kernel
theorem dX6_init_23 : decode cX6_init 23 = .ok (.newarray .int, 2) := by decide +kernel
theorem dX6_init_25 : decode cX6_init 25 = .ok (.putfield 19, 3) := by decide +kernel
theorem dX6_init_28 : decode cX6_init 28 = .ok (.aload_n 0, 1) := by decide +kernel
theorem dX6_init_29 : decode cX6_init 29 = .ok (.bipush 24, 2) := by decide +kernel
theorem dX6_init_31 : decode cX6_init 31 = .ok (.newarray .int, 2) := by decide +kernel
theorem dX6_init_33 : decode cX6_init 33 = .ok (.putfield 22, 3) := by decide +kernel
theorem dX6_init_36 : decode cX6_init 36 = .ok (.aload_n 0, 1) := by decide +kernel
theorem dX6_init_37 : decode cX6_init 37 = .ok (.bipush 24, 2) := by decide +kernel
theorem dX6_init_39 : decode cX6_init 39 = .ok (.newarray .int, 2) := by decide +kernel
theorem dX6_init_41 : decode cX6_init 41 = .ok (.putfield 25, 3) := by decide +kernel
theorem dX6_init_44 : decode cX6_init 44 = .ok (.aload_n 0, 1) := by decide +kernel
theorem dX6_init_45 : decode cX6_init 45 = .ok (.iconst 5, 1) := by decide +kernel
theorem dX6_init_46 : decode cX6_init 46 = .ok (.newarray .int, 2) := by decide +kernel
theorem dX6_init_48 : decode cX6_init 48 = .ok (.putfield 28, 3) := by decide +kernel
theorem dX6_init_51 : decode cX6_init 51 = .ok (.return_, 1) := by decide +kernel
theorem dX6_errorIn_0 : decode cX6_errorIn 0 = .ok (.aload_n 0, 1) := by decide +kernel
theorem dX6_errorIn_1 : decode cX6_errorIn 1 = .ok (.iconst 0, 1) := by decide +kernel
theorem dX6_errorIn_2 : decode cX6_errorIn 2 = .ok (.putfield 31, 3) := by decide +kernel
theorem dX6_errorIn_5 : decode cX6_errorIn 5 = .ok (.aload_n 0, 1) := by decide +kernel
theorem dX6_errorIn_6 : decode cX6_errorIn 6 = .ok (.iconst 0, 1) := by decide +kernel
theorem dX6_errorIn_7 : decode cX6_errorIn 7 = .ok (.putfield 35, 3) := by decide +kernel
theorem dX6_errorIn_10 : decode cX6_errorIn 10 = .ok (.aload_n 0, 1) := by decide +kernel
theorem dX6_errorIn_11 : decode cX6_errorIn 11 = .ok (.iconst 0, 1) := by decide +kernel
theorem dX6_errorIn_12 : decode cX6_errorIn 12 = .ok (.putfield 38, 3) := by decide +kernel
theorem dX6_errorIn_15 : decode cX6_errorIn 15 = .ok (.aload_n 0, 1) := by decide +kernel
theorem dX6_errorIn_16 : decode cX6_errorIn 16 = .ok (.iconst 0, 1) := by decide +kernel
theorem dX6_errorIn_17 : decode cX6_errorIn 17 = .ok (.putfield 41, 3) := by decide +kernel
theorem dX6_errorIn_20 : decode cX6_errorIn 20 = .ok (.aload_n 0, 1) := by decide +kernel
theorem dX6_errorIn_21 : decode cX6_errorIn 21 = .ok (.iconst 0, 1) := by decide +kernel
theorem dX6_errorIn_22 : decode cX6_errorIn 22 = .ok (.putfield 44, 3) := by decide +kernel
theorem dX6_errorIn_25 : decode cX6_errorIn 25 = .ok (.aload_n 0, 1) := by decide +kernel
theorem dX6_errorIn_26 : decode cX6_errorIn 26 = .ok (.iconst 0, 1) := by decide +kernel
theorem dX6_errorIn_27 : decode cX6_errorIn 27 = .ok (.putfield 48, 3) := by decide +kernel
theorem dX6_errorIn_30 : decode cX6_errorIn 30 = .ok (.iload_n 2, 1) := by decide +kernel
theorem dX6_errorIn_31 : decode cX6_errorIn 31 = .ok (.aload_n 1, 1) := by decide +kernel
theorem dX6_errorIn_32 : decode cX6_errorIn 32 = .ok (.arraylength, 1) := by decide +kernel
theorem dX6_errorIn_33 : decode cX6_errorIn 33 = .ok (.invokestatic 51, 3) := by decide +kernel
theorem dX6_errorIn_36 : decode cX6_errorIn 36 = .ok (.istore_n 3, 1) := by decide +kernel
theorem dX6_errorIn_37 : decode cX6_errorIn 37 = .ok (.iconst 0, 1) := by decide +kernel
theorem dX6_errorIn_38 : decode cX6_errorIn 38 = .ok (.istore 4, 2) := by decide +kernel
theorem dX6_errorIn_40 : decode cX6_errorIn 40 = .ok (.iload 4, 2) := by decide +kernel
theorem dX6_errorIn_42 : decode cX6_errorIn 42 = .ok (.iload_n 3, 1) := by decide +kernel
theorem dX6_errorIn_43 : decode cX6_errorIn 43 = .ok (.if_icmp .ge 23, 3) := by decide +kernel
theorem dX6_errorIn_46 : decode cX6_errorIn 46 = .ok (.aload_n 0, 1) := by decide +kernel
theorem dX6_errorIn_47 : decode cX6_errorIn 47 = .ok (.aload_n 1, 1) := by decide +kernel
theorem dX6_errorIn_48 : decode cX6_errorIn 48 = .ok (.iload 4, 2) := by decide +kernel
theorem dX6_errorIn_50 : decode cX6_errorIn 50 = .ok (.caload, 1) := by decide +kernel
theorem dX6_errorIn_51 : decode cX6_errorIn 51 = .ok (.invokevirtual 57, 3) := by decide +kernel
theorem dX6_errorIn_54 : decode cX6_errorIn 54 = .ok (.ifCond .ne 6, 3) := by decide +kernel
theorem dX6_errorIn_57 : decode cX6_errorIn 57 = .ok (.iload 4, 2) := by decide +kernel
theorem dX6_errorIn_59 : decode cX6_errorIn 59 = .ok (.ireturn, 1) := by decide +kernel
theorem dX6_errorIn_60 : decode cX6_errorIn 60 = .ok (.iinc 4 1, 3) := by decide +kernel
theorem dX6_errorIn_63 : decode cX6_errorIn 63 = .ok (.goto (-23), 3) := by decide +kernel
theorem dX6_errorIn_66 : decode cX6_errorIn 66 = .ok (.aload_n 0, 1) := by decide +kernel
theorem dX6_errorIn_67 : decode cX6_errorIn 67 = .ok (.getfield 35, 3) := by decide +kernel
theorem dX6_errorIn_70 : decode cX6_errorIn 70 = .ok (.ifCond .le 21, 3) := by decide +kernel
theorem dX6_errorIn_73 : decode cX6_errorIn 73 = .ok (.aload_n 0, 1) := by decide +kernel
theorem dX6_errorIn_74 : decode cX6_errorIn 74 = .ok (.getfield 41, 3) := by decide +kernel
theorem dX6_errorIn_77 : decode cX6_errorIn 77 = .ok (.ifCond .ne 14, 3) := by decide +kernel
theorem dX6_errorIn_80 : decode cX6_errorIn 80 = .ok (.aload_n 0, 1) := by decide +kernel
theorem dX6_errorIn_81 : decode cX6_errorIn 81 = .ok (.getfield 44, 3) := by decide +kernel
theorem dX6_errorIn_84 : decode cX6_errorIn 84 = .ok (.ifCond .ne 7, 3) := by decide +kernel
theorem dX6_errorIn_87 : decode cX6_errorIn 87 = .ok (.iconst (-1), 1) := by decide +kernel
theorem dX6_errorIn_88 : decode cX6_errorIn 88 = .ok (.goto 4, 3) := by decide +kernel
theorem dX6_errorIn_91 : decode cX6_errorIn 91 = .ok (.iload_n 3, 1) := by decide +kernel
theorem dX6_errorIn_92 : decode cX6_errorIn 92 = .ok (.ireturn, 1) := by decide +kernel
theorem dX6_placeBeyond_0 : decode cX6_placeBeyond 0 = .ok (.iconst 0, 1) := by decide +kernel
theorem dX6_placeBeyond_1 : decode cX6_placeBeyond 1 = .ok (.istore_n 2, 1) := by decide +kernel
theorem dX6_placeBeyond_2 : decode cX6_placeBeyond 2 = .ok (.iload_n 2, 1) := by decide +kernel
theorem dX6_placeBeyond_3 : decode cX6_placeBeyond 3 = .ok (.aload_n 0, 1) := by decide +kernel
theorem dX6_placeBeyond_4 : decode cX6_placeBeyond 4 = .ok (.getfield 31, 3) := by decide +kernel
theorem dX6_placeBeyond_7 : decode cX6_placeBeyond 7 = .ok (.if_icmp .ge 47, 3) := by decide +kernel
theorem dX6_placeBeyond_10 : decode cX6_placeBeyond 10 = .ok (.iload_n 2, 1) := by decide +kernel
theorem dX6_placeBeyond_11 : decode cX6_placeBeyond 11 = .ok (.bipush 24, 2) := by decide +kernel
theorem dX6_placeBeyond_13 : decode cX6_placeBeyond 13 = .ok (.if_icmp .ge 41, 3) := by decide +kernel
theorem dX6_placeBeyond_16 : decode cX6_placeBeyond 16 = .ok (.aload_n 0, 1) := by decide +kernel
theorem dX6_placeBeyond_17 : decode cX6_placeBeyond 17 = .ok (.getfield 15, 3) := by decide +kernel
theorem dX6_placeBeyond_20 : decode cX6_placeBeyond 20 = .ok (.iload_n 2, 1) := by decide +kernel
theorem dX6_placeBeyond_21 : decode cX6_placeBeyond 21 = .ok (.iaload, 1) := by decide +kernel
theorem dX6_placeBeyond_22 : decode cX6_placeBeyond 22 = .ok (.ifCond .eq 14, 3) := by decide +kernel
theorem dX6_placeBeyond_25 : decode cX6_placeBeyond 25 = .ok (.aload_n 0, 1) := by decide +kernel
theorem dX6_placeBeyond_26 : decode cX6_placeBeyond 26 = .ok (.getfield 15, 3) := by decide +kernel
theorem dX6_placeBeyond_29 : decode cX6_placeBeyond 29 = .ok (.iload_n 2, 1) := by decide +kernel
theorem dX6_placeBeyond_30 : decode cX6_placeBeyond 30 = .ok (.iaload, 1) := by decide +kernel
theorem dX6_placeBeyond_31 : decode cX6_placeBeyond 31 = .ok (.bipush 7, 2) := by decide +kernel
theorem dX6_placeBeyond_33 : decode cX6_placeBeyond 33 = .ok (.if_icmp .ne 15, 3) := by decide +kernel
theorem dX6_placeBeyond_36 : decode cX6_placeBeyond 36 = .ok (.aload_n 0, 1) := by decide +kernel
theorem dX6_placeBeyond_37 : decode cX6_placeBeyond 37 = .ok (.getfield 19, 3) := by decide +kernel
theorem dX6_placeBeyond_40 : decode cX6_placeBeyond 40 = .ok (.iload_n 2, 1) := by decide +kernel
theorem dX6_placeBeyond_41 : decode cX6_placeBeyond 41 = .ok (.iaload, 1) := by decide +kernel
theorem dX6_placeBeyond_42 : decode cX6_placeBeyond 42 = .ok (.iload_n 1, 1) := by decide +kernel
theorem dX6_placeBeyond_43 : decode cX6_placeBeyond 43 = .ok (.if_icmp .lt 5, 3) := by decide +kernel
theorem dX6_placeBeyond_46 : decode cX6_placeBeyond 46 = .ok (.iload_n 2, 1) := by decide +kernel
theorem dX6_placeBeyond_47 : decode cX6_placeBeyond 47 = .ok (.ireturn, 1) := by decide +kernel
theorem dX6_placeBeyond_48 : decode cX6_placeBeyond 48 = .ok (.iinc 2 1, 3) := by decide +kernel
theorem dX6_placeBeyond_51 : decode cX6_placeBeyond 51 = .ok (.goto (-49), 3) := by decide +kernel
theorem dX6_placeBeyond_54 : decode cX6_placeBeyond 54 = .ok (.iconst (-1), 1) := by decide +kernel
theorem dX6_placeBeyond_55 : decode cX6_placeBeyond 55 = .ok (.ireturn, 1) := by decide +kernel
theorem dX6_fits_0 : decode cX6_fits 0 = .ok (.aload_n 0, 1) := by decide +kernel
theorem dX6_fits_1 : decode cX6_fits 1 = .ok (.getfield 44, 3) := by decide +kernel
theorem dX6_fits_4 : decode cX6_fits 4 = .ok (.ifCond .eq 33, 3) := by decide +kernel
theorem dX6_fits_7 : decode cX6_fits 7 = .ok (.aload_n 0, 1) := by decide +kernel
theorem dX6_fits_8 : decode cX6_fits 8 = .ok (.iconst 0, 1) := by decide +kernel
theorem dX6_fits_9 : decode cX6_fits 9 = .ok (.putfield 44, 3) := by decide +kernel
theorem dX6_fits_12 : decode cX6_fits 12 = .ok (.aload_n 0, 1) := by decide +kernel
theorem dX6_fits_13 : decode cX6_fits 13 = .ok (.iload_n 1, 1) := by decide +kernel
theorem dX6_fits_14 : decode cX6_fits 14 = .ok (.invokevirtual 61, 3) := by decide +kernel
theorem dX6_fits_17 : decode cX6_fits 17 = .ok (.ifCond .eq 18, 3) := by decide +kernel
theorem dX6_fits_20 : decode cX6_fits 20 = .ok (.aload_n 0, 1) := by decide +kernel
theorem dX6_fits_21 : decode cX6_fits 21 = .ok (.iload_n 1, 1) := by decide +kernel
theorem dX6_fits_22 : decode cX6_fits 22 = .ok (.bipush 97, 2) := by decide +kernel
theorem dX6_fits_24 : decode cX6_fits 24 = .ok (.isub, 1) := by decide +kernel
theorem dX6_fits_25 : decode cX6_fits 25 = .ok (.invokevirtual 64, 3) := by decide +kernel
theorem dX6_fits_28 : decode cX6_fits 28 = .ok (.ifCond .eq 7, 3) := by decide +kernel
theorem dX6_fits_31 : decode cX6_fits 31 = .ok (.iconst 1, 1) := by decide +kernel
theorem dX6_fits_32 : decode cX6_fits 32 = .ok (.goto 4, 3) := by decide +kernel
theorem dX6_fits_35 : decode cX6_fits 35 = .ok (.iconst 0, 1) := by decide +kernel
theorem dX6_fits_36 : decode cX6_fits 36 = .ok (.ireturn, 1) := by decide +kernel
theorem dX6_fits_37 : decode cX6_fits 37 = .ok (.iload_n 1, 1) := by decide +kernel
theorem dX6_fits_38 : decode cX6_fits 38 = .ok (.bipush 48, 2) := by decide +kernel
theorem dX6_fits_40 : decode cX6_fits 40 = .ok (.if_icmp .lt 15, 3) := by decide +kernel
theorem dX6_fits_43 : decode cX6_fits 43 = .ok (.iload_n 1, 1) := by decide +kernel
theorem dX6_fits_44 : decode cX6_fits 44 = .ok (.bipush 57, 2) := by decide +kernel
theorem dX6_fits_46 : decode cX6_fits 46 = .ok (.if_icmp .gt 9, 3) := by decide +kernel
theorem dX6_fits_49 : decode cX6_fits 49 = .ok (.aload_n 0, 1) := by decide +kernel
theorem dX6_fits_50 : decode cX6_fits 50 = .ok (.iload_n 1, 1) := by decide +kernel
theorem dX6_fits_51 : decode cX6_fits 51 = .ok (.invokevirtual 68, 3) := by decide +kernel
theorem dX6_fits_54 : decode cX6_fits 54 = .ok (.ireturn, 1) := by decide +kernel
theorem dX6_fits_55 : decode cX6_fits 55 = .ok (.aload_n 0, 1) := by decide +kernel
theorem dX6_fits_56 : decode cX6_fits 56 = .ok (.iconst 0, 1) := by decide +kernel
theorem dX6_fits_57 : decode cX6_fits 57 = .ok (.putfield 48, 3) := by decide +kernel
theorem dX6_fits_60 : decode cX6_fits 60 = .ok (.aload_n 0, 1) := by decide +kernel
theorem dX6_fits_61 : decode cX6_fits 61 = .ok (.iload_n 1, 1) := by decide +kernel
theorem dX6_fits_62 : decode cX6_fits 62 = .ok (.invokevirtual 61, 3) := by decide +kernel
theorem dX6_fits_65 : decode cX6_fits 65 = .ok (.ifCond .eq 16, 3) := by decide +kernel
theorem dX6_fits_68 : decode cX6_fits 68 = .ok (.aload_n 0, 1) := by decide +kernel
theorem dX6_fits_69 : decode cX6_fits 69 = .ok (.iconst 0, 1) := by decide +kernel
theorem dX6_fits_70 : decode cX6_fits 70 = .ok (.iload_n 1, 1) := by decide +kernel
theorem dX6_fits_71 : decode cX6_fits 71 = .ok (.iload_n 1, 1) := by decide +kernel
theorem dX6_fits_72 : decode cX6_fits 72 = .ok (.bipush 97, 2) := by decide +kernel
theorem dX6_fits_74 : decode cX6_fits 74 = .ok (.isub, 1) := by decide +kernel
theorem dX6_fits_75 : decode cX6_fits 75 = .ok (.iconst 0, 1) := by decide +kernel
theorem dX6_fits_76 : decode cX6_fits 76 = .ok (.iconst 1, 1) := by decide +kernel
theorem dX6_fits_77 : decode cX6_fits 77 = .ok (.invokevirtual 71, 3) := by decide +kernel
theorem dX6_fits_80 : decode cX6_fits 80 = .ok (.ireturn, 1) := by decide +kernel
theorem dX6_fits_81 : decode cX6_fits 81 = .ok (.iload_n 1, 1) := by decide +kernel
theorem dX6_fits_82 : decode cX6_fits 82 = .ok (.lookupswitch 127 #[(33, 98), (42, 78), (43, 58), (45, 68), (61, 109), (126, 88)], 58) := by decide +kernel
theorem dX6_fits_140 : decode cX6_fits 140 = .ok (.aload_n 0, 1) := by decide +kernel
theorem dX6_fits_141 : decode cX6_fits 141 = .ok (.iconst 2, 1) := by decide +kernel
theorem dX6_fits_142 : decode cX6_fits 142 = .ok (.iload_n 1, 1) := by decide +kernel
theorem dX6_fits_143 : decode cX6_fits 143 = .ok (.iconst 0, 1) := by decide +kernel
theorem dX6_fits_144 : decode cX6_fits 144 = .ok (.iconst 2, 1) := by decide +kernel
theorem dX6_fits_145 : decode cX6_fits 145 = .ok (.iconst 1, 1) := by decide +kernel
theorem dX6_fits_146 : decode cX6_fits 146 = .ok (.invokevirtual 71, 3) := by decide +kernel
theorem dX6_fits_149 : decode cX6_fits 149 = .ok (.ireturn, 1) := by decide +kernel
theorem dX6_fits_150 : decode cX6_fits 150 = .ok (.aload_n 0, 1) := by decide +kernel
theorem dX6_fits_151 : decode cX6_fits 151 = .ok (.iconst 3, 1) := by decide +kernel
theorem dX6_fits_152 : decode cX6_fits 152 = .ok (.iload_n 1, 1) := by decide +kernel
theorem dX6_fits_153 : decode cX6_fits 153 = .ok (.iconst 0, 1) := by decide +kernel
theorem dX6_fits_154 : decode cX6_fits 154 = .ok (.iconst 2, 1) := by decide +kernel
theorem dX6_fits_155 : decode cX6_fits 155 = .ok (.iconst 1, 1) := by decide +kernel
theorem dX6_fits_156 : decode cX6_fits 156 = .ok (.invokevirtual 71, 3) := by decide +kernel
theorem dX6_fits_159 : decode cX6_fits 159 = .ok (.ireturn, 1) := by decide +kernel
theorem dX6_fits_160 : decode cX6_fits 160 = .ok (.aload_n 0, 1) := by decide +kernel
theorem dX6_fits_161 : decode cX6_fits 161 = .ok (.iconst 4, 1) := by decide +kernel
theorem dX6_fits_162 : decode cX6_fits 162 = .ok (.iload_n 1, 1) := by decide +kernel
theorem dX6_fits_163 : decode cX6_fits 163 = .ok (.iconst 0, 1) := by decide +kernel
theorem dX6_fits_164 : decode cX6_fits 164 = .ok (.iconst 2, 1) := by decide +kernel
theorem dX6_fits_165 : decode cX6_fits 165 = .ok (.iconst 1, 1) := by decide +kernel
theorem dX6_fits_166 : decode cX6_fits 166 = .ok (.invokevirtual 71, 3) := by decide +kernel
theorem dX6_fits_169 : decode cX6_fits 169 = .ok (.ireturn, 1) := by decide +kernel
theorem dX6_fits_170 : decode cX6_fits 170 = .ok (.aload_n 0, 1) := by decide +kernel
theorem dX6_fits_171 : decode cX6_fits 171 = .ok (.iconst 5, 1) := by decide +kernel
theorem dX6_fits_172 : decode cX6_fits 172 = .ok (.iload_n 1, 1) := by decide +kernel
theorem dX6_fits_173 : decode cX6_fits 173 = .ok (.iconst 0, 1) := by decide +kernel
theorem dX6_fits_174 : decode cX6_fits 174 = .ok (.iconst 1, 1) := by decide +kernel
theorem dX6_fits_175 : decode cX6_fits 175 = .ok (.iconst 1, 1) := by decide +kernel
theorem dX6_fits_176 : decode cX6_fits 176 = .ok (.invokevirtual 71, 3) := by decide +kernel
theorem dX6_fits_179 : decode cX6_fits 179 = .ok (.ireturn, 1) := by decide +kernel
theorem dX6_fits_180 : decode cX6_fits 180 = .ok (.aload_n 0, 1) := by decide +kernel
theorem dX6_fits_181 : decode cX6_fits 181 = .ok (.bipush 6, 2) := by decide +kernel
theorem dX6_fits_183 : decode cX6_fits 183 = .ok (.iload_n 1, 1) := by decide +kernel
theorem dX6_fits_184 : decode cX6_fits 184 = .ok (.iconst 0, 1) := by decide +kernel
theorem dX6_fits_185 : decode cX6_fits 185 = .ok (.iconst 1, 1) := by decide +kernel
theorem dX6_fits_186 : decode cX6_fits 186 = .ok (.iconst 1, 1) := by decide +kernel
theorem dX6_fits_187 : decode cX6_fits 187 = .ok (.invokevirtual 71, 3) := by decide +kernel
theorem dX6_fits_190 : decode cX6_fits 190 = .ok (.ireturn, 1) := by decide +kernel
theorem dX6_fits_191 : decode cX6_fits 191 = .ok (.aload_n 0, 1) := by decide +kernel
theorem dX6_fits_192 : decode cX6_fits 192 = .ok (.iconst 1, 1) := by decide +kernel
theorem dX6_fits_193 : decode cX6_fits 193 = .ok (.putfield 44, 3) := by decide +kernel
theorem dX6_fits_196 : decode cX6_fits 196 = .ok (.aload_n 0, 1) := by decide +kernel
theorem dX6_fits_197 : decode cX6_fits 197 = .ok (.getfield 41, 3) := by decide +kernel
theorem dX6_fits_200 : decode cX6_fits 200 = .ok (.ifCond .le 7, 3) := by decide +kernel
theorem dX6_fits_203 : decode cX6_fits 203 = .ok (.iconst 1, 1) := by decide +kernel
theorem dX6_fits_204 : decode cX6_fits 204 = .ok (.goto 4, 3) := by decide +kernel
theorem dX6_fits_207 : decode cX6_fits 207 = .ok (.iconst 0, 1) := by decide +kernel
theorem dX6_fits_208 : decode cX6_fits 208 = .ok (.ireturn, 1) := by decide +kernel
theorem dX6_fits_209 : decode cX6_fits 209 = .ok (.iconst 0, 1) := by decide +kernel
theorem dX6_fits_210 : decode cX6_fits 210 = .ok (.ireturn, 1) := by decide +kernel
theorem dX6_isLetter_0 : decode cX6_isLetter 0 = .ok (.iload_n 1, 1) := by decide +kernel
theorem dX6_isLetter_1 : decode cX6_isLetter 1 = .ok (.bipush 97, 2) := by decide +kernel
theorem dX6_isLetter_3 : decode cX6_isLetter 3 = .ok (.if_icmp .lt 13, 3) := by decide +kernel
theorem dX6_isLetter_6 : decode cX6_isLetter 6 = .ok (.iload_n 1, 1) := by decide +kernel
theorem dX6_isLetter_7 : decode cX6_isLetter 7 = .ok (.bipush 103, 2) := by decide +kernel
theorem dX6_isLetter_9 : decode cX6_isLetter 9 = .ok (.if_icmp .ge 7, 3) := by decide +kernel
theorem dX6_isLetter_12 : decode cX6_isLetter 12 = .ok (.iconst 1, 1) := by decide +kernel
theorem dX6_isLetter_13 : decode cX6_isLetter 13 = .ok (.goto 4, 3) := by decide +kernel
theorem dX6_isLetter_16 : decode cX6_isLetter 16 = .ok (.iconst 0, 1) := by decide +kernel
theorem dX6_isLetter_17 : decode cX6_isLetter 17 = .ok (.ireturn, 1) := by decide +kernel
theorem dX6_fitsDigit_0 : decode cX6_fitsDigit 0 = .ok (.iload_n 1, 1) := by decide +kernel
theorem dX6_fitsDigit_1 : decode cX6_fitsDigit 1 = .ok (.bipush 48, 2) := by decide +kernel
theorem dX6_fitsDigit_3 : decode cX6_fitsDigit 3 = .ok (.isub, 1) := by decide +kernel
theorem dX6_fitsDigit_4 : decode cX6_fitsDigit 4 = .ok (.istore_n 2, 1) := by decide +kernel
theorem dX6_fitsDigit_5 : decode cX6_fitsDigit 5 = .ok (.aload_n 0, 1) := by decide +kernel
theorem dX6_fitsDigit_6 : decode cX6_fitsDigit 6 = .ok (.getfield 31, 3) := by decide +kernel
theorem dX6_fitsDigit_9 : decode cX6_fitsDigit 9 = .ok (.iconst 1, 1) := by decide +kernel
theorem dX6_fitsDigit_10 : decode cX6_fitsDigit 10 = .ok (.isub, 1) := by decide +kernel
theorem dX6_fitsDigit_11 : decode cX6_fitsDigit 11 = .ok (.istore_n 3, 1) := by decide +kernel
theorem dX6_fitsDigit_12 : decode cX6_fitsDigit 12 = .ok (.aload_n 0, 1) := by decide +kernel
theorem dX6_fitsDigit_13 : decode cX6_fitsDigit 13 = .ok (.getfield 48, 3) := by decide +kernel
theorem dX6_fitsDigit_16 : decode cX6_fitsDigit 16 = .ok (.ifCond .eq 37, 3) := by decide +kernel
theorem dX6_fitsDigit_19 : decode cX6_fitsDigit 19 = .ok (.iload_n 3, 1) := by decide +kernel
theorem dX6_fitsDigit_20 : decode cX6_fitsDigit 20 = .ok (.ifCond .lt 33, 3) := by decide +kernel
theorem dX6_fitsDigit_23 : decode cX6_fitsDigit 23 = .ok (.iload_n 3, 1) := by decide +kernel
theorem dX6_fitsDigit_24 : decode cX6_fitsDigit 24 = .ok (.bipush 24, 2) := by decide +kernel
theorem dX6_fitsDigit_26 : decode cX6_fitsDigit 26 = .ok (.if_icmp .ge 27, 3) := by decide +kernel
theorem dX6_fitsDigit_29 : decode cX6_fitsDigit 29 = .ok (.aload_n 0, 1) := by decide +kernel
theorem dX6_fitsDigit_30 : decode cX6_fitsDigit 30 = .ok (.iconst 0, 1) := by decide +kernel
theorem dX6_fitsDigit_31 : decode cX6_fitsDigit 31 = .ok (.putfield 48, 3) := by decide +kernel
theorem dX6_fitsDigit_34 : decode cX6_fitsDigit 34 = .ok (.aload_n 0, 1) := by decide +kernel
theorem dX6_fitsDigit_35 : decode cX6_fitsDigit 35 = .ok (.getfield 19, 3) := by decide +kernel
theorem dX6_fitsDigit_38 : decode cX6_fitsDigit 38 = .ok (.iload_n 3, 1) := by decide +kernel
theorem dX6_fitsDigit_39 : decode cX6_fitsDigit 39 = .ok (.aload_n 0, 1) := by decide +kernel
theorem dX6_fitsDigit_40 : decode cX6_fitsDigit 40 = .ok (.getfield 19, 3) := by decide +kernel
theorem dX6_fitsDigit_43 : decode cX6_fitsDigit 43 = .ok (.iload_n 3, 1) := by decide +kernel
theorem dX6_fitsDigit_44 : decode cX6_fitsDigit 44 = .ok (.iaload, 1) := by decide +kernel
theorem dX6_fitsDigit_45 : decode cX6_fitsDigit 45 = .ok (.bipush 10, 2) := by decide +kernel
theorem dX6_fitsDigit_47 : decode cX6_fitsDigit 47 = .ok (.imul, 1) := by decide +kernel
theorem dX6_fitsDigit_48 : decode cX6_fitsDigit 48 = .ok (.iload_n 2, 1) := by decide +kernel
theorem dX6_fitsDigit_49 : decode cX6_fitsDigit 49 = .ok (.iadd, 1) := by decide +kernel
theorem dX6_fitsDigit_50 : decode cX6_fitsDigit 50 = .ok (.iastore, 1) := by decide +kernel
theorem dX6_fitsDigit_51 : decode cX6_fitsDigit 51 = .ok (.iconst 1, 1) := by decide +kernel
theorem dX6_fitsDigit_52 : decode cX6_fitsDigit 52 = .ok (.ireturn, 1) := by decide +kernel
theorem dX6_fitsDigit_53 : decode cX6_fitsDigit 53 = .ok (.aload_n 0, 1) := by decide +kernel
theorem dX6_fitsDigit_54 : decode cX6_fitsDigit 54 = .ok (.iconst 1, 1) := by decide +kernel
theorem dX6_fitsDigit_55 : decode cX6_fitsDigit 55 = .ok (.putfield 48, 3) := by decide +kernel
theorem dX6_fitsDigit_58 : decode cX6_fitsDigit 58 = .ok (.aload_n 0, 1) := by decide +kernel
theorem dX6_fitsDigit_59 : decode cX6_fitsDigit 59 = .ok (.iconst 1, 1) := by decide +kernel
theorem dX6_fitsDigit_60 : decode cX6_fitsDigit 60 = .ok (.iload_n 1, 1) := by decide +kernel
theorem dX6_fitsDigit_61 : decode cX6_fitsDigit 61 = .ok (.iload_n 2, 1) := by decide +kernel
theorem dX6_fitsDigit_62 : decode cX6_fitsDigit 62 = .ok (.iconst 0, 1) := by decide +kernel
theorem dX6_fitsDigit_63 : decode cX6_fitsDigit 63 = .ok (.iconst 1, 1) := by decide +kernel
theorem dX6_fitsDigit_64 : decode cX6_fitsDigit 64 = .ok (.invokevirtual 71, 3) := by decide +kernel
theorem dX6_fitsDigit_67 : decode cX6_fitsDigit 67 = .ok (.ireturn, 1) := by decide +kernel
theorem dX6_fitsStore_0 : decode cX6_fitsStore 0 = .ok (.aload_n 0, 1) := by decide +kernel
theorem dX6_fitsStore_1 : decode cX6_fitsStore 1 = .ok (.dup, 1) := by decide +kernel
theorem dX6_fitsStore_2 : decode cX6_fitsStore 2 = .ok (.getfield 35, 3) := by decide +kernel
theorem dX6_fitsStore_5 : decode cX6_fitsStore 5 = .ok (.iconst 1, 1) := by decide +kernel
theorem dX6_fitsStore_6 : decode cX6_fitsStore 6 = .ok (.iadd, 1) := by decide +kernel
theorem dX6_fitsStore_7 : decode cX6_fitsStore 7 = .ok (.putfield 35, 3) := by decide +kernel
theorem dX6_fitsStore_10 : decode cX6_fitsStore 10 = .ok (.aload_n 0, 1) := by decide +kernel
theorem dX6_fitsStore_11 : decode cX6_fitsStore 11 = .ok (.bipush 7, 2) := by decide +kernel
theorem dX6_fitsStore_13 : decode cX6_fitsStore 13 = .ok (.bipush 61, 2) := by decide +kernel
theorem dX6_fitsStore_15 : decode cX6_fitsStore 15 = .ok (.iload_n 1, 1) := by decide +kernel
theorem dX6_fitsStore_16 : decode cX6_fitsStore 16 = .ok (.iconst 1, 1) := by decide +kernel
theorem dX6_fitsStore_17 : decode cX6_fitsStore 17 = .ok (.iconst 0, 1) := by decide +kernel
theorem dX6_fitsStore_18 : decode cX6_fitsStore 18 = .ok (.invokevirtual 71, 3) := by decide +kernel
theorem dX6_fitsStore_21 : decode cX6_fitsStore 21 = .ok (.ireturn, 1) := by decide +kernel
theorem dX6_fitsToken_0 : decode cX6_fitsToken 0 = .ok (.aload_n 0, 1) := by decide +kernel
theorem dX6_fitsToken_1 : decode cX6_fitsToken 1 = .ok (.getfield 41, 3) := by decide +kernel
theorem dX6_fitsToken_4 : decode cX6_fitsToken 4 = .ok (.iload 4, 2) := by decide +kernel
theorem dX6_fitsToken_6 : decode cX6_fitsToken 6 = .ok (.isub, 1) := by decide +kernel
theorem dX6_fitsToken_7 : decode cX6_fitsToken 7 = .ok (.iload 5, 2) := by decide +kernel
theorem dX6_fitsToken_9 : decode cX6_fitsToken 9 = .ok (.iadd, 1) := by decide +kernel
theorem dX6_fitsToken_10 : decode cX6_fitsToken 10 = .ok (.istore 6, 2) := by decide +kernel
theorem dX6_fitsToken_12 : decode cX6_fitsToken 12 = .ok (.aload_n 0, 1) := by decide +kernel
theorem dX6_fitsToken_13 : decode cX6_fitsToken 13 = .ok (.getfield 41, 3) := by decide +kernel
theorem dX6_fitsToken_16 : decode cX6_fitsToken 16 = .ok (.iload 4, 2) := by decide +kernel
theorem dX6_fitsToken_18 : decode cX6_fitsToken 18 = .ok (.if_icmp .lt 23, 3) := by decide +kernel
theorem dX6_fitsToken_21 : decode cX6_fitsToken 21 = .ok (.iload 6, 2) := by decide +kernel
theorem dX6_fitsToken_23 : decode cX6_fitsToken 23 = .ok (.iconst 5, 1) := by decide +kernel
theorem dX6_fitsToken_24 : decode cX6_fitsToken 24 = .ok (.if_icmp .gt 17, 3) := by decide +kernel
theorem dX6_fitsToken_27 : decode cX6_fitsToken 27 = .ok (.aload_n 0, 1) := by decide +kernel
theorem dX6_fitsToken_28 : decode cX6_fitsToken 28 = .ok (.getfield 31, 3) := by decide +kernel
theorem dX6_fitsToken_31 : decode cX6_fitsToken 31 = .ok (.iconst 1, 1) := by decide +kernel
theorem dX6_fitsToken_32 : decode cX6_fitsToken 32 = .ok (.iadd, 1) := by decide +kernel
theorem dX6_fitsToken_33 : decode cX6_fitsToken 33 = .ok (.iload 6, 2) := by decide +kernel
theorem dX6_fitsToken_35 : decode cX6_fitsToken 35 = .ok (.iadd, 1) := by decide +kernel
theorem dX6_fitsToken_36 : decode cX6_fitsToken 36 = .ok (.bipush 24, 2) := by decide +kernel
theorem dX6_fitsToken_38 : decode cX6_fitsToken 38 = .ok (.if_icmp .le 5, 3) := by decide +kernel
theorem dX6_fitsToken_41 : decode cX6_fitsToken 41 = .ok (.iconst 0, 1) := by decide +kernel
theorem dX6_fitsToken_42 : decode cX6_fitsToken 42 = .ok (.ireturn, 1) := by decide +kernel
theorem dX6_fitsToken_43 : decode cX6_fitsToken 43 = .ok (.aload_n 0, 1) := by decide +kernel
theorem dX6_fitsToken_44 : decode cX6_fitsToken 44 = .ok (.getfield 9, 3) := by decide +kernel
theorem dX6_fitsToken_47 : decode cX6_fitsToken 47 = .ok (.aload_n 0, 1) := by decide +kernel
theorem dX6_fitsToken_48 : decode cX6_fitsToken 48 = .ok (.getfield 31, 3) := by decide +kernel
theorem dX6_fitsToken_51 : decode cX6_fitsToken 51 = .ok (.iload_n 2, 1) := by decide +kernel
theorem dX6_fitsToken_52 : decode cX6_fitsToken 52 = .ok (.castore, 1) := by decide +kernel
theorem dX6_fitsToken_53 : decode cX6_fitsToken 53 = .ok (.aload_n 0, 1) := by decide +kernel
theorem dX6_fitsToken_54 : decode cX6_fitsToken 54 = .ok (.getfield 15, 3) := by decide +kernel
theorem dX6_fitsToken_57 : decode cX6_fitsToken 57 = .ok (.aload_n 0, 1) := by decide +kernel
theorem dX6_fitsToken_58 : decode cX6_fitsToken 58 = .ok (.getfield 31, 3) := by decide +kernel
theorem dX6_fitsToken_61 : decode cX6_fitsToken 61 = .ok (.iload_n 1, 1) := by decide +kernel
theorem dX6_fitsToken_62 : decode cX6_fitsToken 62 = .ok (.iastore, 1) := by decide +kernel
theorem dX6_fitsToken_63 : decode cX6_fitsToken 63 = .ok (.aload_n 0, 1) := by decide +kernel
theorem dX6_fitsToken_64 : decode cX6_fitsToken 64 = .ok (.getfield 19, 3) := by decide +kernel
theorem dX6_fitsToken_67 : decode cX6_fitsToken 67 = .ok (.aload_n 0, 1) := by decide +kernel
theorem dX6_fitsToken_68 : decode cX6_fitsToken 68 = .ok (.getfield 31, 3) := by decide +kernel
theorem dX6_fitsToken_71 : decode cX6_fitsToken 71 = .ok (.iload_n 3, 1) := by decide +kernel
theorem dX6_fitsToken_72 : decode cX6_fitsToken 72 = .ok (.iastore, 1) := by decide +kernel
theorem dX6_fitsToken_73 : decode cX6_fitsToken 73 = .ok (.aload_n 0, 1) := by decide +kernel
theorem dX6_fitsToken_74 : decode cX6_fitsToken 74 = .ok (.getfield 22, 3) := by decide +kernel
theorem dX6_fitsToken_77 : decode cX6_fitsToken 77 = .ok (.aload_n 0, 1) := by decide +kernel
theorem dX6_fitsToken_78 : decode cX6_fitsToken 78 = .ok (.getfield 31, 3) := by decide +kernel
theorem dX6_fitsToken_81 : decode cX6_fitsToken 81 = .ok (.iload 4, 2) := by decide +kernel
theorem dX6_fitsToken_83 : decode cX6_fitsToken 83 = .ok (.ifCond .le 18, 3) := by decide +kernel
theorem dX6_fitsToken_86 : decode cX6_fitsToken 86 = .ok (.aload_n 0, 1) := by decide +kernel
theorem dX6_fitsToken_87 : decode cX6_fitsToken 87 = .ok (.getfield 28, 3) := by decide +kernel
theorem dX6_fitsToken_90 : decode cX6_fitsToken 90 = .ok (.aload_n 0, 1) := by decide +kernel
theorem dX6_fitsToken_91 : decode cX6_fitsToken 91 = .ok (.getfield 41, 3) := by decide +kernel
theorem dX6_fitsToken_94 : decode cX6_fitsToken 94 = .ok (.iload 4, 2) := by decide +kernel
theorem dX6_fitsToken_96 : decode cX6_fitsToken 96 = .ok (.isub, 1) := by decide +kernel
theorem dX6_fitsToken_97 : decode cX6_fitsToken 97 = .ok (.iaload, 1) := by decide +kernel
theorem dX6_fitsToken_98 : decode cX6_fitsToken 98 = .ok (.goto 4, 3) := by decide +kernel
theorem dX6_fitsToken_101 : decode cX6_fitsToken 101 = .ok (.iconst (-1), 1) := by decide +kernel
theorem dX6_fitsToken_102 : decode cX6_fitsToken 102 = .ok (.iastore, 1) := by decide +kernel
theorem dX6_fitsToken_103 : decode cX6_fitsToken 103 = .ok (.aload_n 0, 1) := by decide +kernel
theorem dX6_fitsToken_104 : decode cX6_fitsToken 104 = .ok (.getfield 25, 3) := by decide +kernel
theorem dX6_fitsToken_107 : decode cX6_fitsToken 107 = .ok (.aload_n 0, 1) := by decide +kernel
theorem dX6_fitsToken_108 : decode cX6_fitsToken 108 = .ok (.getfield 31, 3) := by decide +kernel
theorem dX6_fitsToken_111 : decode cX6_fitsToken 111 = .ok (.iload 4, 2) := by decide +kernel
theorem dX6_fitsToken_113 : decode cX6_fitsToken 113 = .ok (.iconst 1, 1) := by decide +kernel
theorem dX6_fitsToken_114 : decode cX6_fitsToken 114 = .ok (.if_icmp .le 17, 3) := by decide +kernel
theorem dX6_fitsToken_117 : decode cX6_fitsToken 117 = .ok (.aload_n 0, 1) := by decide +kernel
theorem dX6_fitsToken_118 : decode cX6_fitsToken 118 = .ok (.getfield 28, 3) := by decide +kernel
theorem dX6_fitsToken_121 : decode cX6_fitsToken 121 = .ok (.aload_n 0, 1) := by decide +kernel
theorem dX6_fitsToken_122 : decode cX6_fitsToken 122 = .ok (.getfield 41, 3) := by decide +kernel
theorem dX6_fitsToken_125 : decode cX6_fitsToken 125 = .ok (.iconst 1, 1) := by decide +kernel
theorem dX6_fitsToken_126 : decode cX6_fitsToken 126 = .ok (.isub, 1) := by decide +kernel
theorem dX6_fitsToken_127 : decode cX6_fitsToken 127 = .ok (.iaload, 1) := by decide +kernel
theorem dX6_fitsToken_128 : decode cX6_fitsToken 128 = .ok (.goto 4, 3) := by decide +kernel
theorem dX6_fitsToken_131 : decode cX6_fitsToken 131 = .ok (.iconst (-1), 1) := by decide +kernel
theorem dX6_fitsToken_132 : decode cX6_fitsToken 132 = .ok (.iastore, 1) := by decide +kernel
theorem dX6_fitsToken_133 : decode cX6_fitsToken 133 = .ok (.iload 5, 2) := by decide +kernel
theorem dX6_fitsToken_135 : decode cX6_fitsToken 135 = .ok (.ifCond .le 16, 3) := by decide +kernel
theorem dX6_fitsToken_138 : decode cX6_fitsToken 138 = .ok (.aload_n 0, 1) := by decide +kernel
theorem dX6_fitsToken_139 : decode cX6_fitsToken 139 = .ok (.getfield 28, 3) := by decide +kernel
theorem dX6_fitsToken_142 : decode cX6_fitsToken 142 = .ok (.iload 6, 2) := by decide +kernel
theorem dX6_fitsToken_144 : decode cX6_fitsToken 144 = .ok (.iconst 1, 1) := by decide +kernel
theorem dX6_fitsToken_145 : decode cX6_fitsToken 145 = .ok (.isub, 1) := by decide +kernel
theorem dX6_fitsToken_146 : decode cX6_fitsToken 146 = .ok (.aload_n 0, 1) := by decide +kernel
theorem dX6_fitsToken_147 : decode cX6_fitsToken 147 = .ok (.getfield 31, 3) := by decide +kernel
theorem dX6_fitsToken_150 : decode cX6_fitsToken 150 = .ok (.iastore, 1) := by decide +kernel
theorem dX6_fitsToken_151 : decode cX6_fitsToken 151 = .ok (.aload_n 0, 1) := by decide +kernel
theorem dX6_fitsToken_152 : decode cX6_fitsToken 152 = .ok (.iload 6, 2) := by decide +kernel
theorem dX6_fitsToken_154 : decode cX6_fitsToken 154 = .ok (.putfield 41, 3) := by decide +kernel
theorem dX6_fitsToken_157 : decode cX6_fitsToken 157 = .ok (.aload_n 0, 1) := by decide +kernel
theorem dX6_fitsToken_158 : decode cX6_fitsToken 158 = .ok (.aload_n 0, 1) := by decide +kernel
theorem dX6_fitsToken_159 : decode cX6_fitsToken 159 = .ok (.getfield 38, 3) := by decide +kernel
theorem dX6_fitsToken_162 : decode cX6_fitsToken 162 = .ok (.aload_n 0, 1) := by decide +kernel
theorem dX6_fitsToken_163 : decode cX6_fitsToken 163 = .ok (.getfield 41, 3) := by decide +kernel
theorem dX6_fitsToken_166 : decode cX6_fitsToken 166 = .ok (.invokestatic 75, 3) := by decide +kernel
theorem dX6_fitsToken_169 : decode cX6_fitsToken 169 = .ok (.putfield 38, 3) := by decide +kernel
theorem dX6_fitsToken_172 : decode cX6_fitsToken 172 = .ok (.aload_n 0, 1) := by decide +kernel
theorem dX6_fitsToken_173 : decode cX6_fitsToken 173 = .ok (.dup, 1) := by decide +kernel
theorem dX6_fitsToken_174 : decode cX6_fitsToken 174 = .ok (.getfield 31, 3) := by decide +kernel
theorem dX6_fitsToken_177 : decode cX6_fitsToken 177 = .ok (.iconst 1, 1) := by decide +kernel
theorem dX6_fitsToken_178 : decode cX6_fitsToken 178 = .ok (.iadd, 1) := by decide +kernel
theorem dX6_fitsToken_179 : decode cX6_fitsToken 179 = .ok (.putfield 31, 3) := by decide +kernel
theorem dX6_fitsToken_182 : decode cX6_fitsToken 182 = .ok (.iconst 1, 1) := by decide +kernel
theorem dX6_fitsToken_183 : decode cX6_fitsToken 183 = .ok (.ireturn, 1) := by decide +kernel
theorem dX7_init_0 : decode cX7_init 0 = .ok (.aload_n 0, 1) := by decide +kernel
theorem dX7_init_1 : decode cX7_init 1 = .ok (.invokespecial 1, 3) := by decide +kernel
theorem dX7_init_4 : decode cX7_init 4 = .ok (.return_, 1) := by decide +kernel
theorem dX7_keep_0 : decode cX7_keep 0 = .ok (.aload_n 0, 1) := by decide +kernel
theorem dX7_keep_1 : decode cX7_keep 1 = .ok (.iconst 1, 1) := by decide +kernel
theorem dX7_keep_2 : decode cX7_keep 2 = .ok (.putfield 7, 3) := by decide +kernel
theorem dX7_keep_5 : decode cX7_keep 5 = .ok (.aload_n 0, 1) := by decide +kernel
theorem dX7_keep_6 : decode cX7_keep 6 = .ok (.iload_n 1, 1) := by decide +kernel
theorem dX7_keep_7 : decode cX7_keep 7 = .ok (.putfield 13, 3) := by decide +kernel
theorem dX7_keep_10 : decode cX7_keep 10 = .ok (.aload_n 0, 1) := by decide +kernel
theorem dX7_keep_11 : decode cX7_keep 11 = .ok (.iload_n 2, 1) := by decide +kernel
theorem dX7_keep_12 : decode cX7_keep 12 = .ok (.putfield 17, 3) := by decide +kernel
theorem dX7_keep_15 : decode cX7_keep 15 = .ok (.aload_n 0, 1) := by decide +kernel
theorem dX7_keep_16 : decode cX7_keep 16 = .ok (.iconst 0, 1) := by decide +kernel
theorem dX7_keep_17 : decode cX7_keep 17 = .ok (.putfield 20, 3) := by decide +kernel
theorem dX7_keep_20 : decode cX7_keep 20 = .ok (.return_, 1) := by decide +kernel
theorem dX7_keepWithCause_0 : decode cX7_keepWithCause 0 = .ok (.aload_n 0, 1) := by decide +kernel
theorem dX7_keepWithCause_1 : decode cX7_keepWithCause 1 = .ok (.iload_n 1, 1) := by decide +kernel
theorem dX7_keepWithCause_2 : decode cX7_keepWithCause 2 = .ok (.iload_n 2, 1) := by decide +kernel
theorem dX7_keepWithCause_3 : decode cX7_keepWithCause 3 = .ok (.invokevirtual 23, 3) := by decide +kernel
theorem dX7_keepWithCause_6 : decode cX7_keepWithCause 6 = .ok (.aload_n 0, 1) := by decide +kernel
theorem dX7_keepWithCause_7 : decode cX7_keepWithCause 7 = .ok (.iconst 1, 1) := by decide +kernel
theorem dX7_keepWithCause_8 : decode cX7_keepWithCause 8 = .ok (.putfield 20, 3) := by decide +kernel
theorem dX7_keepWithCause_11 : decode cX7_keepWithCause 11 = .ok (.aload_n 0, 1) := by decide +kernel
theorem dX7_keepWithCause_12 : decode cX7_keepWithCause 12 = .ok (.iload_n 3, 1) := by decide +kernel
theorem dX7_keepWithCause_13 : decode cX7_keepWithCause 13 = .ok (.putfield 27, 3) := by decide +kernel
theorem dX7_keepWithCause_16 : decode cX7_keepWithCause 16 = .ok (.aload_n 0, 1) := by decide +kernel
theorem dX7_keepWithCause_17 : decode cX7_keepWithCause 17 = .ok (.iload 4, 2) := by decide +kernel
theorem dX7_keepWithCause_19 : decode cX7_keepWithCause 19 = .ok (.putfield 30, 3) := by decide +kernel
theorem dX7_keepWithCause_22 : decode cX7_keepWithCause 22 = .ok (.return_, 1) := by decide +kernel
theorem dX8_init_0 : decode cX8_init 0 = .ok (.aload_n 0, 1) := by decide +kernel
theorem dX8_init_1 : decode cX8_init 1 = .ok (.invokespecial 3, 3) := by decide +kernel
theorem dX8_init_4 : decode cX8_init 4 = .ok (.aload_n 0, 1) := by decide +kernel
theorem dX8_init_5 : decode cX8_init 5 = .ok (.iconst 0, 1) := by decide +kernel
theorem dX8_init_6 : decode cX8_init 6 = .ok (.iload_n 3, 1) := by decide +kernel
theorem dX8_init_7 : decode cX8_init 7 = .ok (.aload_n 2, 1) := by decide +kernel
theorem dX8_init_8 : decode cX8_init 8 = .ok (.arraylength, 1) := by decide +kernel
theorem dX8_init_9 : decode cX8_init 9 = .ok (.invokestatic 9, 3) := by decide +kernel
theorem dX8_init_12 : decode cX8_init 12 = .ok (.invokestatic 15, 3) := by decide +kernel
theorem dX8_init_15 : decode cX8_init 15 = .ok (.newarray .char, 2) := by decide +kernel
theorem dX8_init_17 : decode cX8_init 17 = .ok (.putfield 18, 3) := by decide +kernel
theorem dX8_init_20 : decode cX8_init 20 = .ok (.aload_n 2, 1) := by decide +kernel
theorem dX8_init_21 : decode cX8_init 21 = .ok (.iconst 0, 1) := by decide +kernel
theorem dX8_init_22 : decode cX8_init 22 = .ok (.aload_n 0, 1) := by decide +kernel
theorem dX8_init_23 : decode cX8_init 23 = .ok (.getfield 18, 3) := by decide +kernel
theorem dX8_init_26 : decode cX8_init 26 = .ok (.iconst 0, 1) := by decide +kernel
theorem dX8_init_27 : decode cX8_init 27 = .ok (.aload_n 0, 1) := by decide +kernel
theorem dX8_init_28 : decode cX8_init 28 = .ok (.getfield 18, 3) := by decide +kernel
theorem dX8_init_31 : decode cX8_init 31 = .ok (.arraylength, 1) := by decide +kernel
theorem dX8_init_32 : decode cX8_init 32 = .ok (.invokestatic 24, 3) := by decide +kernel
theorem dX8_init_35 : decode cX8_init 35 = .ok (.aload_n 0, 1) := by decide +kernel
theorem dX8_init_36 : decode cX8_init 36 = .ok (.iconst 0, 1) := by decide +kernel
theorem dX8_init_37 : decode cX8_init 37 = .ok (.aload_n 1, 1) := by decide +kernel
theorem dX8_init_38 : decode cX8_init 38 = .ok (.getfield 30, 3) := by decide +kernel
theorem dX8_init_41 : decode cX8_init 41 = .ok (.bipush 24, 2) := by decide +kernel
theorem dX8_init_43 : decode cX8_init 43 = .ok (.invokestatic 9, 3) := by decide +kernel
theorem dX8_init_46 : decode cX8_init 46 = .ok (.invokestatic 15, 3) := by decide +kernel
theorem dX8_init_49 : decode cX8_init 49 = .ok (.putfield 36, 3) := by decide +kernel
theorem dX8_init_52 : decode cX8_init 52 = .ok (.aload_n 0, 1) := by decide +kernel
theorem dX8_init_53 : decode cX8_init 53 = .ok (.aload_n 1, 1) := by decide +kernel
theorem dX8_init_54 : decode cX8_init 54 = .ok (.getfield 37, 3) := by decide +kernel
theorem dX8_init_57 : decode cX8_init 57 = .ok (.putfield 40, 3) := by decide +kernel
theorem dX8_init_60 : decode cX8_init 60 = .ok (.aload_n 0, 1) := by decide +kernel
theorem dX8_init_61 : decode cX8_init 61 = .ok (.aload_n 1, 1) := by decide +kernel
theorem dX8_init_62 : decode cX8_init 62 = .ok (.getfield 41, 3) := by decide +kernel
theorem dX8_init_65 : decode cX8_init 65 = .ok (.putfield 44, 3) := by decide +kernel
theorem dX8_init_68 : decode cX8_init 68 = .ok (.aload_n 0, 1) := by decide +kernel
theorem dX8_init_69 : decode cX8_init 69 = .ok (.aload_n 1, 1) := by decide +kernel
theorem dX8_init_70 : decode cX8_init 70 = .ok (.getfield 45, 3) := by decide +kernel
theorem dX8_init_73 : decode cX8_init 73 = .ok (.invokevirtual 48, 3) := by decide +kernel
theorem dX8_init_76 : decode cX8_init 76 = .ok (.checkcast 49, 3) := by decide +kernel
theorem dX8_init_79 : decode cX8_init 79 = .ok (.putfield 53, 3) := by decide +kernel
theorem dX8_init_82 : decode cX8_init 82 = .ok (.aload_n 0, 1) := by decide +kernel
theorem dX8_init_83 : decode cX8_init 83 = .ok (.aload_n 1, 1) := by decide +kernel
theorem dX8_init_84 : decode cX8_init 84 = .ok (.getfield 54, 3) := by decide +kernel
theorem dX8_init_87 : decode cX8_init 87 = .ok (.invokevirtual 58, 3) := by decide +kernel
theorem dX8_init_90 : decode cX8_init 90 = .ok (.checkcast 59, 3) := by decide +kernel
theorem dX8_init_93 : decode cX8_init 93 = .ok (.putfield 60, 3) := by decide +kernel
theorem dX8_init_96 : decode cX8_init 96 = .ok (.aload_n 0, 1) := by decide +kernel
theorem dX8_init_97 : decode cX8_init 97 = .ok (.aload_n 1, 1) := by decide +kernel
theorem dX8_init_98 : decode cX8_init 98 = .ok (.getfield 61, 3) := by decide +kernel
theorem dX8_init_101 : decode cX8_init 101 = .ok (.invokevirtual 58, 3) := by decide +kernel
theorem dX8_init_104 : decode cX8_init 104 = .ok (.checkcast 59, 3) := by decide +kernel
theorem dX8_init_107 : decode cX8_init 107 = .ok (.putfield 64, 3) := by decide +kernel
theorem dX8_init_110 : decode cX8_init 110 = .ok (.aload_n 0, 1) := by decide +kernel
theorem dX8_init_111 : decode cX8_init 111 = .ok (.aload_n 1, 1) := by decide +kernel
theorem dX8_init_112 : decode cX8_init 112 = .ok (.getfield 65, 3) := by decide +kernel
theorem dX8_init_115 : decode cX8_init 115 = .ok (.invokevirtual 58, 3) := by decide +kernel
theorem dX8_init_118 : decode cX8_init 118 = .ok (.checkcast 59, 3) := by decide +kernel
theorem dX8_init_121 : decode cX8_init 121 = .ok (.putfield 68, 3) := by decide +kernel
theorem dX8_init_124 : decode cX8_init 124 = .ok (.aload_n 0, 1) := by decide +kernel
theorem dX8_init_125 : decode cX8_init 125 = .ok (.aload_n 1, 1) := by decide +kernel
theorem dX8_init_126 : decode cX8_init 126 = .ok (.getfield 69, 3) := by decide +kernel
theorem dX8_init_129 : decode cX8_init 129 = .ok (.invokevirtual 58, 3) := by decide +kernel
theorem dX8_init_132 : decode cX8_init 132 = .ok (.checkcast 59, 3) := by decide +kernel
theorem dX8_init_135 : decode cX8_init 135 = .ok (.putfield 72, 3) := by decide +kernel
theorem dX8_init_138 : decode cX8_init 138 = .ok (.return_, 1) := by decide +kernel
theorem dX8_lastAhead_0 : decode cX8_lastAhead 0 = .ok (.iload_n 3, 1) := by decide +kernel
theorem dX8_lastAhead_1 : decode cX8_lastAhead 1 = .ok (.aload_n 0, 1) := by decide +kernel
theorem dX8_lastAhead_2 : decode cX8_lastAhead 2 = .ok (.getfield 36, 3) := by decide +kernel
theorem dX8_lastAhead_5 : decode cX8_lastAhead 5 = .ok (.invokestatic 9, 3) := by decide +kernel
theorem dX8_lastAhead_8 : decode cX8_lastAhead 8 = .ok (.iconst 1, 1) := by decide +kernel
theorem dX8_lastAhead_9 : decode cX8_lastAhead 9 = .ok (.isub, 1) := by decide +kernel
theorem dX8_lastAhead_10 : decode cX8_lastAhead 10 = .ok (.istore 4, 2) := by decide +kernel
theorem dX8_lastAhead_12 : decode cX8_lastAhead 12 = .ok (.iload 4, 2) := by decide +kernel
theorem dX8_lastAhead_14 : decode cX8_lastAhead 14 = .ok (.ifCond .lt 34, 3) := by decide +kernel
theorem dX8_lastAhead_17 : decode cX8_lastAhead 17 = .ok (.aload_n 0, 1) := by decide +kernel
theorem dX8_lastAhead_18 : decode cX8_lastAhead 18 = .ok (.getfield 60, 3) := by decide +kernel
theorem dX8_lastAhead_21 : decode cX8_lastAhead 21 = .ok (.iload 4, 2) := by decide +kernel
theorem dX8_lastAhead_23 : decode cX8_lastAhead 23 = .ok (.iaload, 1) := by decide +kernel
theorem dX8_lastAhead_24 : decode cX8_lastAhead 24 = .ok (.iload_n 1, 1) := by decide +kernel
theorem dX8_lastAhead_25 : decode cX8_lastAhead 25 = .ok (.if_icmp .ne 17, 3) := by decide +kernel
theorem dX8_lastAhead_28 : decode cX8_lastAhead 28 = .ok (.aload_n 0, 1) := by decide +kernel
theorem dX8_lastAhead_29 : decode cX8_lastAhead 29 = .ok (.getfield 64, 3) := by decide +kernel
theorem dX8_lastAhead_32 : decode cX8_lastAhead 32 = .ok (.iload 4, 2) := by decide +kernel
theorem dX8_lastAhead_34 : decode cX8_lastAhead 34 = .ok (.iaload, 1) := by decide +kernel
theorem dX8_lastAhead_35 : decode cX8_lastAhead 35 = .ok (.iload_n 2, 1) := by decide +kernel
theorem dX8_lastAhead_36 : decode cX8_lastAhead 36 = .ok (.if_icmp .ne 6, 3) := by decide +kernel
theorem dX8_lastAhead_39 : decode cX8_lastAhead 39 = .ok (.iload 4, 2) := by decide +kernel
theorem dX8_lastAhead_41 : decode cX8_lastAhead 41 = .ok (.ireturn, 1) := by decide +kernel
theorem dX8_lastAhead_42 : decode cX8_lastAhead 42 = .ok (.iinc 4 (-1), 3) := by decide +kernel
theorem dX8_lastAhead_45 : decode cX8_lastAhead 45 = .ok (.goto (-33), 3) := by decide +kernel
theorem dX8_lastAhead_48 : decode cX8_lastAhead 48 = .ok (.iconst (-1), 1) := by decide +kernel
theorem dX8_lastAhead_49 : decode cX8_lastAhead 49 = .ok (.ireturn, 1) := by decide +kernel
theorem dX9_init_0 : decode cX9_init 0 = .ok (.aload_n 0, 1) := by decide +kernel
theorem dX9_init_1 : decode cX9_init 1 = .ok (.invokespecial 3, 3) := by decide +kernel
theorem dX9_init_4 : decode cX9_init 4 = .ok (.aload_n 0, 1) := by decide +kernel
theorem dX9_init_5 : decode cX9_init 5 = .ok (.bipush 24, 2) := by decide +kernel
theorem dX9_init_7 : decode cX9_init 7 = .ok (.newarray .boolean, 2) := by decide +kernel
theorem dX9_init_9 : decode cX9_init 9 = .ok (.putfield 9, 3) := by decide +kernel
theorem dX9_init_12 : decode cX9_init 12 = .ok (.aload_n 0, 1) := by decide +kernel
theorem dX9_init_13 : decode cX9_init 13 = .ok (.bipush 24, 2) := by decide +kernel
theorem dX9_init_15 : decode cX9_init 15 = .ok (.newarray .long, 2) := by decide +kernel
theorem dX9_init_17 : decode cX9_init 17 = .ok (.putfield 15, 3) := by decide +kernel
theorem dX9_init_20 : decode cX9_init 20 = .ok (.aload_n 0, 1) := by decide +kernel
theorem dX9_init_21 : decode cX9_init 21 = .ok (.bipush 24, 2) := by decide +kernel
theorem dX9_init_23 : decode cX9_init 23 = .ok (.newarray .long, 2) := by decide +kernel
theorem dX9_init_25 : decode cX9_init 25 = .ok (.putfield 19, 3) := by decide +kernel
theorem dX9_init_28 : decode cX9_init 28 = .ok (.aload_n 0, 1) := by decide +kernel
theorem dX9_init_29 : decode cX9_init 29 = .ok (.iconst 5, 1) := by decide +kernel
theorem dX9_init_30 : decode cX9_init 30 = .ok (.newarray .boolean, 2) := by decide +kernel
theorem dX9_init_32 : decode cX9_init 32 = .ok (.putfield 22, 3) := by decide +kernel
theorem dX9_init_35 : decode cX9_init 35 = .ok (.aload_n 0, 1) := by decide +kernel
theorem dX9_init_36 : decode cX9_init 36 = .ok (.iconst 5, 1) := by decide +kernel
theorem dX9_init_37 : decode cX9_init 37 = .ok (.newarray .long, 2) := by decide +kernel
theorem dX9_init_39 : decode cX9_init 39 = .ok (.putfield 25, 3) := by decide +kernel
theorem dX9_init_42 : decode cX9_init 42 = .ok (.aload_n 0, 1) := by decide +kernel
theorem dX9_init_43 : decode cX9_init 43 = .ok (.iconst 5, 1) := by decide +kernel
theorem dX9_init_44 : decode cX9_init 44 = .ok (.newarray .long, 2) := by decide +kernel
theorem dX9_init_46 : decode cX9_init 46 = .ok (.putfield 28, 3) := by decide +kernel
theorem dX9_init_49 : decode cX9_init 49 = .ok (.return_, 1) := by decide +kernel
theorem dX9_passes_0 : decode cX9_passes 0 = .ok (.aload_n 0, 1) := by decide +kernel
theorem dX9_passes_1 : decode cX9_passes 1 = .ok (.iconst 0, 1) := by decide +kernel
theorem dX9_passes_2 : decode cX9_passes 2 = .ok (.putfield 31, 3) := by decide +kernel
theorem dX9_passes_5 : decode cX9_passes 5 = .ok (.aload_n 0, 1) := by decide +kernel
theorem dX9_passes_6 : decode cX9_passes 6 = .ok (.iconst 0, 1) := by decide +kernel
theorem dX9_passes_7 : decode cX9_passes 7 = .ok (.putfield 35, 3) := by decide +kernel
theorem dX9_passes_10 : decode cX9_passes 10 = .ok (.aload_n 0, 1) := by decide +kernel
theorem dX9_passes_11 : decode cX9_passes 11 = .ok (.iconst (-1), 1) := by decide +kernel
theorem dX9_passes_12 : decode cX9_passes 12 = .ok (.putfield 38, 3) := by decide +kernel
theorem dX9_passes_15 : decode cX9_passes 15 = .ok (.iconst 0, 1) := by decide +kernel
theorem dX9_passes_16 : decode cX9_passes 16 = .ok (.istore_n 3, 1) := by decide +kernel
theorem dX9_passes_17 : decode cX9_passes 17 = .ok (.iload_n 3, 1) := by decide +kernel
theorem dX9_passes_18 : decode cX9_passes 18 = .ok (.aload_n 1, 1) := by decide +kernel
theorem dX9_passes_19 : decode cX9_passes 19 = .ok (.getfield 41, 3) := by decide +kernel
theorem dX9_passes_22 : decode cX9_passes 22 = .ok (.if_icmp .ge 36, 3) := by decide +kernel
theorem dX9_passes_25 : decode cX9_passes 25 = .ok (.aload_n 0, 1) := by decide +kernel
theorem dX9_passes_26 : decode cX9_passes 26 = .ok (.aload_n 1, 1) := by decide +kernel
theorem dX9_passes_27 : decode cX9_passes 27 = .ok (.getfield 46, 3) := by decide +kernel
theorem dX9_passes_30 : decode cX9_passes 30 = .ok (.iload_n 3, 1) := by decide +kernel
theorem dX9_passes_31 : decode cX9_passes 31 = .ok (.iaload, 1) := by decide +kernel
theorem dX9_passes_32 : decode cX9_passes 32 = .ok (.aload_n 1, 1) := by decide +kernel
theorem dX9_passes_33 : decode cX9_passes 33 = .ok (.getfield 50, 3) := by decide +kernel
theorem dX9_passes_36 : decode cX9_passes 36 = .ok (.iload_n 3, 1) := by decide +kernel
theorem dX9_passes_37 : decode cX9_passes 37 = .ok (.iaload, 1) := by decide +kernel
theorem dX9_passes_38 : decode cX9_passes 38 = .ok (.aload_n 2, 1) := by decide +kernel
theorem dX9_passes_39 : decode cX9_passes 39 = .ok (.invokevirtual 53, 3) := by decide +kernel
theorem dX9_passes_42 : decode cX9_passes 42 = .ok (.ifCond .ne 10, 3) := by decide +kernel
theorem dX9_passes_45 : decode cX9_passes 45 = .ok (.aload_n 0, 1) := by decide +kernel
theorem dX9_passes_46 : decode cX9_passes 46 = .ok (.iload_n 3, 1) := by decide +kernel
theorem dX9_passes_47 : decode cX9_passes 47 = .ok (.putfield 38, 3) := by decide +kernel
theorem dX9_passes_50 : decode cX9_passes 50 = .ok (.iconst 0, 1) := by decide +kernel
theorem dX9_passes_51 : decode cX9_passes 51 = .ok (.ireturn, 1) := by decide +kernel
theorem dX9_passes_52 : decode cX9_passes 52 = .ok (.iinc 3 1, 3) := by decide +kernel
theorem dX9_passes_55 : decode cX9_passes 55 = .ok (.goto (-38), 3) := by decide +kernel
theorem dX9_passes_58 : decode cX9_passes 58 = .ok (.iconst 1, 1) := by decide +kernel
theorem dX9_passes_59 : decode cX9_passes 59 = .ok (.ireturn, 1) := by decide +kernel
theorem dX9_passesToken_0 : decode cX9_passesToken 0 = .ok (.iload_n 1, 1) := by decide +kernel
theorem dX9_passesToken_1 : decode cX9_passesToken 1 = .ok (.tableswitch 137 0 7 #[47, 90, 137, 137, 137, 100, 106, 112], 47) := by decide +kernel
theorem dX9_passesToken_48 : decode cX9_passesToken 48 = .ok (.iload_n 2, 1) := by decide +kernel
theorem dX9_passesToken_49 : decode cX9_passesToken 49 = .ok (.ifCond .lt 40, 3) := by decide +kernel
theorem dX9_passesToken_52 : decode cX9_passesToken 52 = .ok (.iload_n 2, 1) := by decide +kernel
theorem dX9_passesToken_53 : decode cX9_passesToken 53 = .ok (.bipush 6, 2) := by decide +kernel
theorem dX9_passesToken_55 : decode cX9_passesToken 55 = .ok (.if_icmp .ge 34, 3) := by decide +kernel
theorem dX9_passesToken_58 : decode cX9_passesToken 58 = .ok (.aload_n 0, 1) := by decide +kernel
theorem dX9_passesToken_59 : decode cX9_passesToken 59 = .ok (.aload_n 3, 1) := by decide +kernel
theorem dX9_passesToken_60 : decode cX9_passesToken 60 = .ok (.getfield 57, 3) := by decide +kernel
theorem dX9_passesToken_63 : decode cX9_passesToken 63 = .ok (.iload_n 2, 1) := by decide +kernel
theorem dX9_passesToken_64 : decode cX9_passesToken 64 = .ok (.baload, 1) := by decide +kernel
theorem dX9_passesToken_65 : decode cX9_passesToken 65 = .ok (.aload_n 3, 1) := by decide +kernel
theorem dX9_passesToken_66 : decode cX9_passesToken 66 = .ok (.getfield 60, 3) := by decide +kernel
theorem dX9_passesToken_69 : decode cX9_passesToken 69 = .ok (.iload_n 2, 1) := by decide +kernel
theorem dX9_passesToken_70 : decode cX9_passesToken 70 = .ok (.iaload, 1) := by decide +kernel
theorem dX9_passesToken_71 : decode cX9_passesToken 71 = .ok (.i2l, 1) := by decide +kernel
theorem dX9_passesToken_72 : decode cX9_passesToken 72 = .ok (.aload_n 3, 1) := by decide +kernel
theorem dX9_passesToken_73 : decode cX9_passesToken 73 = .ok (.getfield 62, 3) := by decide +kernel
theorem dX9_passesToken_76 : decode cX9_passesToken 76 = .ok (.iload_n 2, 1) := by decide +kernel
theorem dX9_passesToken_77 : decode cX9_passesToken 77 = .ok (.iaload, 1) := by decide +kernel
theorem dX9_passesToken_78 : decode cX9_passesToken 78 = .ok (.i2l, 1) := by decide +kernel
theorem dX9_passesToken_79 : decode cX9_passesToken 79 = .ok (.invokevirtual 64, 3) := by decide +kernel
theorem dX9_passesToken_82 : decode cX9_passesToken 82 = .ok (.ifCond .eq 7, 3) := by decide +kernel
theorem dX9_passesToken_85 : decode cX9_passesToken 85 = .ok (.iconst 1, 1) := by decide +kernel
theorem dX9_passesToken_86 : decode cX9_passesToken 86 = .ok (.goto 4, 3) := by decide +kernel
theorem dX9_passesToken_89 : decode cX9_passesToken 89 = .ok (.iconst 0, 1) := by decide +kernel
theorem dX9_passesToken_90 : decode cX9_passesToken 90 = .ok (.ireturn, 1) := by decide +kernel
theorem dX9_passesToken_91 : decode cX9_passesToken 91 = .ok (.aload_n 0, 1) := by decide +kernel
theorem dX9_passesToken_92 : decode cX9_passesToken 92 = .ok (.iconst 0, 1) := by decide +kernel
theorem dX9_passesToken_93 : decode cX9_passesToken 93 = .ok (.iload_n 2, 1) := by decide +kernel
theorem dX9_passesToken_94 : decode cX9_passesToken 94 = .ok (.i2l, 1) := by decide +kernel
theorem dX9_passesToken_95 : decode cX9_passesToken 95 = .ok (.iload_n 2, 1) := by decide +kernel
theorem dX9_passesToken_96 : decode cX9_passesToken 96 = .ok (.i2l, 1) := by decide +kernel
theorem dX9_passesToken_97 : decode cX9_passesToken 97 = .ok (.invokevirtual 64, 3) := by decide +kernel
theorem dX9_passesToken_100 : decode cX9_passesToken 100 = .ok (.ireturn, 1) := by decide +kernel
theorem dX9_passesToken_101 : decode cX9_passesToken 101 = .ok (.aload_n 0, 1) := by decide +kernel
theorem dX9_passesToken_102 : decode cX9_passesToken 102 = .ok (.iconst 1, 1) := by decide +kernel
theorem dX9_passesToken_103 : decode cX9_passesToken 103 = .ok (.invokevirtual 68, 3) := by decide +kernel
theorem dX9_passesToken_106 : decode cX9_passesToken 106 = .ok (.ireturn, 1) := by decide +kernel
theorem dX9_passesToken_107 : decode cX9_passesToken 107 = .ok (.aload_n 0, 1) := by decide +kernel
theorem dX9_passesToken_108 : decode cX9_passesToken 108 = .ok (.iconst 0, 1) := by decide +kernel
theorem dX9_passesToken_109 : decode cX9_passesToken 109 = .ok (.invokevirtual 68, 3) := by decide +kernel
theorem dX9_passesToken_112 : decode cX9_passesToken 112 = .ok (.ireturn, 1) := by decide +kernel
theorem dX9_passesToken_113 : decode cX9_passesToken 113 = .ok (.iload_n 2, 1) := by decide +kernel
theorem dX9_passesToken_114 : decode cX9_passesToken 114 = .ok (.ifCond .lt 22, 3) := by decide +kernel
theorem dX9_passesToken_117 : decode cX9_passesToken 117 = .ok (.iload_n 2, 1) := by decide +kernel
theorem dX9_passesToken_118 : decode cX9_passesToken 118 = .ok (.bipush 6, 2) := by decide +kernel
theorem dX9_passesToken_120 : decode cX9_passesToken 120 = .ok (.if_icmp .ge 16, 3) := by decide +kernel
theorem dX9_passesToken_123 : decode cX9_passesToken 123 = .ok (.aload_n 0, 1) := by decide +kernel
theorem dX9_passesToken_124 : decode cX9_passesToken 124 = .ok (.iload_n 2, 1) := by decide +kernel
theorem dX9_passesToken_125 : decode cX9_passesToken 125 = .ok (.aload_n 3, 1) := by decide +kernel
theorem dX9_passesToken_126 : decode cX9_passesToken 126 = .ok (.invokevirtual 72, 3) := by decide +kernel
theorem dX9_passesToken_129 : decode cX9_passesToken 129 = .ok (.ifCond .eq 7, 3) := by decide +kernel
theorem dX9_passesToken_132 : decode cX9_passesToken 132 = .ok (.iconst 1, 1) := by decide +kernel
theorem dX9_passesToken_133 : decode cX9_passesToken 133 = .ok (.goto 4, 3) := by decide +kernel
theorem dX9_passesToken_136 : decode cX9_passesToken 136 = .ok (.iconst 0, 1) := by decide +kernel
theorem dX9_passesToken_137 : decode cX9_passesToken 137 = .ok (.ireturn, 1) := by decide +kernel
theorem dX9_passesToken_138 : decode cX9_passesToken 138 = .ok (.aload_n 0, 1) := by decide +kernel
theorem dX9_passesToken_139 : decode cX9_passesToken 139 = .ok (.iload_n 1, 1) := by decide +kernel
theorem dX9_passesToken_140 : decode cX9_passesToken 140 = .ok (.invokevirtual 76, 3) := by decide +kernel
theorem dX9_passesToken_143 : decode cX9_passesToken 143 = .ok (.ireturn, 1) := by decide +kernel
theorem dX9_lay_0 : decode cX9_lay 0 = .ok (.aload_n 0, 1) := by decide +kernel
theorem dX9_lay_1 : decode cX9_lay 1 = .ok (.getfield 31, 3) := by decide +kernel
theorem dX9_lay_4 : decode cX9_lay 4 = .ok (.ifCond .lt 11, 3) := by decide +kernel
theorem dX9_lay_7 : decode cX9_lay 7 = .ok (.aload_n 0, 1) := by decide +kernel
theorem dX9_lay_8 : decode cX9_lay 8 = .ok (.getfield 31, 3) := by decide +kernel
theorem dX9_lay_11 : decode cX9_lay 11 = .ok (.iconst 5, 1) := by decide +kernel
theorem dX9_lay_12 : decode cX9_lay 12 = .ok (.if_icmp .lt 5, 3) := by decide +kernel
theorem dX9_lay_15 : decode cX9_lay 15 = .ok (.iconst 0, 1) := by decide +kernel
theorem dX9_lay_16 : decode cX9_lay 16 = .ok (.ireturn, 1) := by decide +kernel
theorem dX9_lay_17 : decode cX9_lay 17 = .ok (.aload_n 0, 1) := by decide +kernel
theorem dX9_lay_18 : decode cX9_lay 18 = .ok (.getfield 22, 3) := by decide +kernel
theorem dX9_lay_21 : decode cX9_lay 21 = .ok (.aload_n 0, 1) := by decide +kernel
theorem dX9_lay_22 : decode cX9_lay 22 = .ok (.getfield 31, 3) := by decide +kernel
theorem dX9_lay_25 : decode cX9_lay 25 = .ok (.iload_n 1, 1) := by decide +kernel
theorem dX9_lay_26 : decode cX9_lay 26 = .ok (.bastore, 1) := by decide +kernel
theorem dX9_lay_27 : decode cX9_lay 27 = .ok (.aload_n 0, 1) := by decide +kernel
theorem dX9_lay_28 : decode cX9_lay 28 = .ok (.getfield 25, 3) := by decide +kernel
theorem dX9_lay_31 : decode cX9_lay 31 = .ok (.aload_n 0, 1) := by decide +kernel
theorem dX9_lay_32 : decode cX9_lay 32 = .ok (.getfield 31, 3) := by decide +kernel
theorem dX9_lay_35 : decode cX9_lay 35 = .ok (.lload_n 2, 1) := by decide +kernel
theorem dX9_lay_36 : decode cX9_lay 36 = .ok (.lastore, 1) := by decide +kernel
theorem dX9_lay_37 : decode cX9_lay 37 = .ok (.aload_n 0, 1) := by decide +kernel
theorem dX9_lay_38 : decode cX9_lay 38 = .ok (.getfield 28, 3) := by decide +kernel
theorem dX9_lay_41 : decode cX9_lay 41 = .ok (.aload_n 0, 1) := by decide +kernel
theorem dX9_lay_42 : decode cX9_lay 42 = .ok (.getfield 31, 3) := by decide +kernel
theorem dX9_lay_45 : decode cX9_lay 45 = .ok (.lload 4, 2) := by decide +kernel
theorem dX9_lay_47 : decode cX9_lay 47 = .ok (.lastore, 1) := by decide +kernel
theorem dX9_lay_48 : decode cX9_lay 48 = .ok (.aload_n 0, 1) := by decide +kernel
theorem dX9_lay_49 : decode cX9_lay 49 = .ok (.dup, 1) := by decide +kernel
theorem dX9_lay_50 : decode cX9_lay 50 = .ok (.getfield 31, 3) := by decide +kernel
theorem dX9_lay_53 : decode cX9_lay 53 = .ok (.iconst 1, 1) := by decide +kernel
theorem dX9_lay_54 : decode cX9_lay 54 = .ok (.iadd, 1) := by decide +kernel
theorem dX9_lay_55 : decode cX9_lay 55 = .ok (.putfield 31, 3) := by decide +kernel
theorem dX9_lay_58 : decode cX9_lay 58 = .ok (.iconst 1, 1) := by decide +kernel
theorem dX9_lay_59 : decode cX9_lay 59 = .ok (.ireturn, 1) := by decide +kernel
theorem dX9_passesCast_0 : decode cX9_passesCast 0 = .ok (.aload_n 0, 1) := by decide +kernel
theorem dX9_passesCast_1 : decode cX9_passesCast 1 = .ok (.getfield 31, 3) := by decide +kernel
theorem dX9_passesCast_4 : decode cX9_passesCast 4 = .ok (.iconst 1, 1) := by decide +kernel
theorem dX9_passesCast_5 : decode cX9_passesCast 5 = .ok (.isub, 1) := by decide +kernel
theorem dX9_passesCast_6 : decode cX9_passesCast 6 = .ok (.istore_n 2, 1) := by decide +kernel
theorem dX9_passesCast_7 : decode cX9_passesCast 7 = .ok (.iload_n 2, 1) := by decide +kernel
theorem dX9_passesCast_8 : decode cX9_passesCast 8 = .ok (.ifCond .lt 18, 3) := by decide +kernel
theorem dX9_passesCast_11 : decode cX9_passesCast 11 = .ok (.iload_n 2, 1) := by decide +kernel
theorem dX9_passesCast_12 : decode cX9_passesCast 12 = .ok (.iconst 5, 1) := by decide +kernel
theorem dX9_passesCast_13 : decode cX9_passesCast 13 = .ok (.if_icmp .ge 13, 3) := by decide +kernel
theorem dX9_passesCast_16 : decode cX9_passesCast 16 = .ok (.aload_n 0, 1) := by decide +kernel
theorem dX9_passesCast_17 : decode cX9_passesCast 17 = .ok (.getfield 22, 3) := by decide +kernel
theorem dX9_passesCast_20 : decode cX9_passesCast 20 = .ok (.iload_n 2, 1) := by decide +kernel
theorem dX9_passesCast_21 : decode cX9_passesCast 21 = .ok (.baload, 1) := by decide +kernel
theorem dX9_passesCast_22 : decode cX9_passesCast 22 = .ok (.iload_n 1, 1) := by decide +kernel
theorem dX9_passesCast_23 : decode cX9_passesCast 23 = .ok (.if_icmp .ne 5, 3) := by decide +kernel
theorem dX9_passesCast_26 : decode cX9_passesCast 26 = .ok (.iconst 0, 1) := by decide +kernel
theorem dX9_passesCast_27 : decode cX9_passesCast 27 = .ok (.ireturn, 1) := by decide +kernel
theorem dX9_passesCast_28 : decode cX9_passesCast 28 = .ok (.aload_n 0, 1) := by decide +kernel
theorem dX9_passesCast_29 : decode cX9_passesCast 29 = .ok (.getfield 22, 3) := by decide +kernel
theorem dX9_passesCast_32 : decode cX9_passesCast 32 = .ok (.iload_n 2, 1) := by decide +kernel
theorem dX9_passesCast_33 : decode cX9_passesCast 33 = .ok (.iload_n 1, 1) := by decide +kernel
theorem dX9_passesCast_34 : decode cX9_passesCast 34 = .ok (.bastore, 1) := by decide +kernel
theorem dX9_passesCast_35 : decode cX9_passesCast 35 = .ok (.aload_n 0, 1) := by decide +kernel
theorem dX9_passesCast_36 : decode cX9_passesCast 36 = .ok (.getfield 25, 3) := by decide +kernel
theorem dX9_passesCast_39 : decode cX9_passesCast 39 = .ok (.iload_n 2, 1) := by decide +kernel
theorem dX9_passesCast_40 : decode cX9_passesCast 40 = .ok (.ldc2_w 80, 3) := by decide +kernel
theorem dX9_passesCast_43 : decode cX9_passesCast 43 = .ok (.lastore, 1) := by decide +kernel
theorem dX9_passesCast_44 : decode cX9_passesCast 44 = .ok (.aload_n 0, 1) := by decide +kernel
theorem dX9_passesCast_45 : decode cX9_passesCast 45 = .ok (.getfield 28, 3) := by decide +kernel
theorem dX9_passesCast_48 : decode cX9_passesCast 48 = .ok (.iload_n 2, 1) := by decide +kernel
theorem dX9_passesCast_49 : decode cX9_passesCast 49 = .ok (.ldc2_w 82, 3) := by decide +kernel
theorem dX9_passesCast_52 : decode cX9_passesCast 52 = .ok (.lastore, 1) := by decide +kernel
theorem dX9_passesCast_53 : decode cX9_passesCast 53 = .ok (.iconst 1, 1) := by decide +kernel
theorem dX9_passesCast_54 : decode cX9_passesCast 54 = .ok (.ireturn, 1) := by decide +kernel
theorem dX9_passesReckoning_0 : decode cX9_passesReckoning 0 = .ok (.aload_n 0, 1) := by decide +kernel
theorem dX9_passesReckoning_1 : decode cX9_passesReckoning 1 = .ok (.getfield 31, 3) := by decide +kernel
theorem dX9_passesReckoning_4 : decode cX9_passesReckoning 4 = .ok (.iconst 1, 1) := by decide +kernel
theorem dX9_passesReckoning_5 : decode cX9_passesReckoning 5 = .ok (.isub, 1) := by decide +kernel
theorem dX9_passesReckoning_6 : decode cX9_passesReckoning 6 = .ok (.istore_n 2, 1) := by decide +kernel
theorem dX9_passesReckoning_7 : decode cX9_passesReckoning 7 = .ok (.aload_n 0, 1) := by decide +kernel
theorem dX9_passesReckoning_8 : decode cX9_passesReckoning 8 = .ok (.getfield 31, 3) := by decide +kernel
theorem dX9_passesReckoning_11 : decode cX9_passesReckoning 11 = .ok (.iconst 2, 1) := by decide +kernel
theorem dX9_passesReckoning_12 : decode cX9_passesReckoning 12 = .ok (.isub, 1) := by decide +kernel
theorem dX9_passesReckoning_13 : decode cX9_passesReckoning 13 = .ok (.istore_n 3, 1) := by decide +kernel
theorem dX9_passesReckoning_14 : decode cX9_passesReckoning 14 = .ok (.iload_n 3, 1) := by decide +kernel
theorem dX9_passesReckoning_15 : decode cX9_passesReckoning 15 = .ok (.ifCond .lt 23, 3) := by decide +kernel
theorem dX9_passesReckoning_18 : decode cX9_passesReckoning 18 = .ok (.iload_n 2, 1) := by decide +kernel
theorem dX9_passesReckoning_19 : decode cX9_passesReckoning 19 = .ok (.iconst 5, 1) := by decide +kernel
theorem dX9_passesReckoning_20 : decode cX9_passesReckoning 20 = .ok (.if_icmp .ge 18, 3) := by decide +kernel
theorem dX9_passesReckoning_23 : decode cX9_passesReckoning 23 = .ok (.aload_n 0, 1) := by decide +kernel
theorem dX9_passesReckoning_24 : decode cX9_passesReckoning 24 = .ok (.getfield 22, 3) := by decide +kernel
theorem dX9_passesReckoning_27 : decode cX9_passesReckoning 27 = .ok (.iload_n 3, 1) := by decide +kernel
theorem dX9_passesReckoning_28 : decode cX9_passesReckoning 28 = .ok (.baload, 1) := by decide +kernel
theorem dX9_passesReckoning_29 : decode cX9_passesReckoning 29 = .ok (.aload_n 0, 1) := by decide +kernel
theorem dX9_passesReckoning_30 : decode cX9_passesReckoning 30 = .ok (.getfield 22, 3) := by decide +kernel
theorem dX9_passesReckoning_33 : decode cX9_passesReckoning 33 = .ok (.iload_n 2, 1) := by decide +kernel
theorem dX9_passesReckoning_34 : decode cX9_passesReckoning 34 = .ok (.baload, 1) := by decide +kernel
theorem dX9_passesReckoning_35 : decode cX9_passesReckoning 35 = .ok (.if_icmp .eq 5, 3) := by decide +kernel
theorem dX9_passesReckoning_38 : decode cX9_passesReckoning 38 = .ok (.iconst 0, 1) := by decide +kernel
theorem dX9_passesReckoning_39 : decode cX9_passesReckoning 39 = .ok (.ireturn, 1) := by decide +kernel
theorem dX9_passesReckoning_40 : decode cX9_passesReckoning 40 = .ok (.aload_n 0, 1) := by decide +kernel
theorem dX9_passesReckoning_41 : decode cX9_passesReckoning 41 = .ok (.dup, 1) := by decide +kernel
theorem dX9_passesReckoning_42 : decode cX9_passesReckoning 42 = .ok (.getfield 31, 3) := by decide +kernel
theorem dX9_passesReckoning_45 : decode cX9_passesReckoning 45 = .ok (.iconst 1, 1) := by decide +kernel
theorem dX9_passesReckoning_46 : decode cX9_passesReckoning 46 = .ok (.isub, 1) := by decide +kernel
theorem dX9_passesReckoning_47 : decode cX9_passesReckoning 47 = .ok (.putfield 31, 3) := by decide +kernel
theorem dX9_passesReckoning_50 : decode cX9_passesReckoning 50 = .ok (.aload_n 0, 1) := by decide +kernel
theorem dX9_passesReckoning_51 : decode cX9_passesReckoning 51 = .ok (.getfield 22, 3) := by decide +kernel
theorem dX9_passesReckoning_54 : decode cX9_passesReckoning 54 = .ok (.iload_n 3, 1) := by decide +kernel
theorem dX9_passesReckoning_55 : decode cX9_passesReckoning 55 = .ok (.baload, 1) := by decide +kernel
theorem dX9_passesReckoning_56 : decode cX9_passesReckoning 56 = .ok (.ifCond .eq 5, 3) := by decide +kernel
theorem dX9_passesReckoning_59 : decode cX9_passesReckoning 59 = .ok (.iconst 1, 1) := by decide +kernel
theorem dX9_passesReckoning_60 : decode cX9_passesReckoning 60 = .ok (.ireturn, 1) := by decide +kernel
theorem dX9_passesReckoning_61 : decode cX9_passesReckoning 61 = .ok (.iload_n 1, 1) := by decide +kernel
theorem dX9_passesReckoning_62 : decode cX9_passesReckoning 62 = .ok (.aload_n 0, 1) := by decide +kernel
theorem dX9_passesReckoning_63 : decode cX9_passesReckoning 63 = .ok (.getfield 25, 3) := by decide +kernel
theorem dX9_passesReckoning_66 : decode cX9_passesReckoning 66 = .ok (.iload_n 3, 1) := by decide +kernel
theorem dX9_passesReckoning_67 : decode cX9_passesReckoning 67 = .ok (.laload, 1) := by decide +kernel
theorem dX9_passesReckoning_68 : decode cX9_passesReckoning 68 = .ok (.aload_n 0, 1) := by decide +kernel
theorem dX9_passesReckoning_69 : decode cX9_passesReckoning 69 = .ok (.getfield 28, 3) := by decide +kernel
theorem dX9_passesReckoning_72 : decode cX9_passesReckoning 72 = .ok (.iload_n 3, 1) := by decide +kernel
theorem dX9_passesReckoning_73 : decode cX9_passesReckoning 73 = .ok (.laload, 1) := by decide +kernel
theorem dX9_passesReckoning_74 : decode cX9_passesReckoning 74 = .ok (.aload_n 0, 1) := by decide +kernel
theorem dX9_passesReckoning_75 : decode cX9_passesReckoning 75 = .ok (.getfield 25, 3) := by decide +kernel
theorem dX9_passesReckoning_78 : decode cX9_passesReckoning 78 = .ok (.iload_n 2, 1) := by decide +kernel
theorem dX9_passesReckoning_79 : decode cX9_passesReckoning 79 = .ok (.laload, 1) := by decide +kernel
theorem dX9_passesReckoning_80 : decode cX9_passesReckoning 80 = .ok (.aload_n 0, 1) := by decide +kernel
theorem dX9_passesReckoning_81 : decode cX9_passesReckoning 81 = .ok (.getfield 28, 3) := by decide +kernel
theorem dX9_passesReckoning_84 : decode cX9_passesReckoning 84 = .ok (.iload_n 2, 1) := by decide +kernel
theorem dX9_passesReckoning_85 : decode cX9_passesReckoning 85 = .ok (.laload, 1) := by decide +kernel
theorem dX9_passesReckoning_86 : decode cX9_passesReckoning 86 = .ok (.invokestatic 84, 3) := by decide +kernel
theorem dX9_passesReckoning_89 : decode cX9_passesReckoning 89 = .ok (.lstore 4, 2) := by decide +kernel
theorem dX9_passesReckoning_91 : decode cX9_passesReckoning 91 = .ok (.iload_n 1, 1) := by decide +kernel
theorem dX9_passesReckoning_92 : decode cX9_passesReckoning 92 = .ok (.aload_n 0, 1) := by decide +kernel
theorem dX9_passesReckoning_93 : decode cX9_passesReckoning 93 = .ok (.getfield 25, 3) := by decide +kernel
theorem dX9_passesReckoning_96 : decode cX9_passesReckoning 96 = .ok (.iload_n 3, 1) := by decide +kernel
theorem dX9_passesReckoning_97 : decode cX9_passesReckoning 97 = .ok (.laload, 1) := by decide +kernel
theorem dX9_passesReckoning_98 : decode cX9_passesReckoning 98 = .ok (.aload_n 0, 1) := by decide +kernel
theorem dX9_passesReckoning_99 : decode cX9_passesReckoning 99 = .ok (.getfield 28, 3) := by decide +kernel
theorem dX9_passesReckoning_102 : decode cX9_passesReckoning 102 = .ok (.iload_n 3, 1) := by decide +kernel
theorem dX9_passesReckoning_103 : decode cX9_passesReckoning 103 = .ok (.laload, 1) := by decide +kernel
theorem dX9_passesReckoning_104 : decode cX9_passesReckoning 104 = .ok (.aload_n 0, 1) := by decide +kernel
theorem dX9_passesReckoning_105 : decode cX9_passesReckoning 105 = .ok (.getfield 25, 3) := by decide +kernel
theorem dX9_passesReckoning_108 : decode cX9_passesReckoning 108 = .ok (.iload_n 2, 1) := by decide +kernel
theorem dX9_passesReckoning_109 : decode cX9_passesReckoning 109 = .ok (.laload, 1) := by decide +kernel
theorem dX9_passesReckoning_110 : decode cX9_passesReckoning 110 = .ok (.aload_n 0, 1) := by decide +kernel
theorem dX9_passesReckoning_111 : decode cX9_passesReckoning 111 = .ok (.getfield 28, 3) := by decide +kernel
theorem dX9_passesReckoning_114 : decode cX9_passesReckoning 114 = .ok (.iload_n 2, 1) := by decide +kernel
theorem dX9_passesReckoning_115 : decode cX9_passesReckoning 115 = .ok (.laload, 1) := by decide +kernel
theorem dX9_passesReckoning_116 : decode cX9_passesReckoning 116 = .ok (.invokestatic 90, 3) := by decide +kernel
theorem dX9_passesReckoning_119 : decode cX9_passesReckoning 119 = .ok (.lstore 6, 2) := by decide +kernel
theorem dX9_passesReckoning_121 : decode cX9_passesReckoning 121 = .ok (.aload_n 0, 1) := by decide +kernel
theorem dX9_passesReckoning_122 : decode cX9_passesReckoning 122 = .ok (.getfield 25, 3) := by decide +kernel
theorem dX9_passesReckoning_125 : decode cX9_passesReckoning 125 = .ok (.iload_n 3, 1) := by decide +kernel
theorem dX9_passesReckoning_126 : decode cX9_passesReckoning 126 = .ok (.lload 4, 2) := by decide +kernel
theorem dX9_passesReckoning_128 : decode cX9_passesReckoning 128 = .ok (.lastore, 1) := by decide +kernel
theorem dX9_passesReckoning_129 : decode cX9_passesReckoning 129 = .ok (.aload_n 0, 1) := by decide +kernel
theorem dX9_passesReckoning_130 : decode cX9_passesReckoning 130 = .ok (.getfield 28, 3) := by decide +kernel
theorem dX9_passesReckoning_133 : decode cX9_passesReckoning 133 = .ok (.iload_n 3, 1) := by decide +kernel
theorem dX9_passesReckoning_134 : decode cX9_passesReckoning 134 = .ok (.lload 6, 2) := by decide +kernel
theorem dX9_passesReckoning_136 : decode cX9_passesReckoning 136 = .ok (.lastore, 1) := by decide +kernel
theorem dX9_passesReckoning_137 : decode cX9_passesReckoning 137 = .ok (.lload 4, 2) := by decide +kernel
theorem dX9_passesReckoning_139 : decode cX9_passesReckoning 139 = .ok (.invokestatic 93, 3) := by decide +kernel
theorem dX9_passesReckoning_142 : decode cX9_passesReckoning 142 = .ok (.ifCond .ne 15, 3) := by decide +kernel
theorem dX9_passesReckoning_145 : decode cX9_passesReckoning 145 = .ok (.lload 6, 2) := by decide +kernel
theorem dX9_passesReckoning_147 : decode cX9_passesReckoning 147 = .ok (.invokestatic 93, 3) := by decide +kernel
theorem dX9_passesReckoning_150 : decode cX9_passesReckoning 150 = .ok (.ifCond .ne 7, 3) := by decide +kernel
theorem dX9_passesReckoning_153 : decode cX9_passesReckoning 153 = .ok (.iconst 1, 1) := by decide +kernel
theorem dX9_passesReckoning_154 : decode cX9_passesReckoning 154 = .ok (.goto 4, 3) := by decide +kernel
theorem dX9_passesReckoning_157 : decode cX9_passesReckoning 157 = .ok (.iconst 0, 1) := by decide +kernel
theorem dX9_passesReckoning_158 : decode cX9_passesReckoning 158 = .ok (.ireturn, 1) := by decide +kernel
theorem dX9_passesStore_0 : decode cX9_passesStore 0 = .ok (.aload_n 0, 1) := by decide +kernel
theorem dX9_passesStore_1 : decode cX9_passesStore 1 = .ok (.getfield 31, 3) := by decide +kernel
theorem dX9_passesStore_4 : decode cX9_passesStore 4 = .ok (.iconst 1, 1) := by decide +kernel
theorem dX9_passesStore_5 : decode cX9_passesStore 5 = .ok (.isub, 1) := by decide +kernel
theorem dX9_passesStore_6 : decode cX9_passesStore 6 = .ok (.istore_n 3, 1) := by decide +kernel
theorem dX9_passesStore_7 : decode cX9_passesStore 7 = .ok (.iload_n 3, 1) := by decide +kernel
theorem dX9_passesStore_8 : decode cX9_passesStore 8 = .ok (.ifCond .lt 24, 3) := by decide +kernel
theorem dX9_passesStore_11 : decode cX9_passesStore 11 = .ok (.iload_n 3, 1) := by decide +kernel
theorem dX9_passesStore_12 : decode cX9_passesStore 12 = .ok (.iconst 5, 1) := by decide +kernel
theorem dX9_passesStore_13 : decode cX9_passesStore 13 = .ok (.if_icmp .ge 19, 3) := by decide +kernel
theorem dX9_passesStore_16 : decode cX9_passesStore 16 = .ok (.aload_n 0, 1) := by decide +kernel
theorem dX9_passesStore_17 : decode cX9_passesStore 17 = .ok (.getfield 35, 3) := by decide +kernel
theorem dX9_passesStore_20 : decode cX9_passesStore 20 = .ok (.ifCond .lt 12, 3) := by decide +kernel
theorem dX9_passesStore_23 : decode cX9_passesStore 23 = .ok (.aload_n 0, 1) := by decide +kernel
theorem dX9_passesStore_24 : decode cX9_passesStore 24 = .ok (.getfield 35, 3) := by decide +kernel
theorem dX9_passesStore_27 : decode cX9_passesStore 27 = .ok (.bipush 24, 2) := by decide +kernel
theorem dX9_passesStore_29 : decode cX9_passesStore 29 = .ok (.if_icmp .lt 5, 3) := by decide +kernel
theorem dX9_passesStore_32 : decode cX9_passesStore 32 = .ok (.iconst 0, 1) := by decide +kernel
theorem dX9_passesStore_33 : decode cX9_passesStore 33 = .ok (.ireturn, 1) := by decide +kernel
theorem dX9_passesStore_34 : decode cX9_passesStore 34 = .ok (.aload_n 0, 1) := by decide +kernel
theorem dX9_passesStore_35 : decode cX9_passesStore 35 = .ok (.dup, 1) := by decide +kernel
theorem dX9_passesStore_36 : decode cX9_passesStore 36 = .ok (.getfield 31, 3) := by decide +kernel
theorem dX9_passesStore_39 : decode cX9_passesStore 39 = .ok (.iconst 1, 1) := by decide +kernel
theorem dX9_passesStore_40 : decode cX9_passesStore 40 = .ok (.isub, 1) := by decide +kernel
theorem dX9_passesStore_41 : decode cX9_passesStore 41 = .ok (.putfield 31, 3) := by decide +kernel
theorem dX9_passesStore_44 : decode cX9_passesStore 44 = .ok (.aload_n 0, 1) := by decide +kernel
theorem dX9_passesStore_45 : decode cX9_passesStore 45 = .ok (.getfield 9, 3) := by decide +kernel
theorem dX9_passesStore_48 : decode cX9_passesStore 48 = .ok (.aload_n 0, 1) := by decide +kernel
theorem dX9_passesStore_49 : decode cX9_passesStore 49 = .ok (.getfield 35, 3) := by decide +kernel
theorem dX9_passesStore_52 : decode cX9_passesStore 52 = .ok (.aload_n 0, 1) := by decide +kernel
theorem dX9_passesStore_53 : decode cX9_passesStore 53 = .ok (.getfield 22, 3) := by decide +kernel
theorem dX9_passesStore_56 : decode cX9_passesStore 56 = .ok (.iload_n 3, 1) := by decide +kernel
theorem dX9_passesStore_57 : decode cX9_passesStore 57 = .ok (.baload, 1) := by decide +kernel
theorem dX9_passesStore_58 : decode cX9_passesStore 58 = .ok (.bastore, 1) := by decide +kernel
theorem dX9_passesStore_59 : decode cX9_passesStore 59 = .ok (.aload_n 0, 1) := by decide +kernel
theorem dX9_passesStore_60 : decode cX9_passesStore 60 = .ok (.getfield 15, 3) := by decide +kernel
theorem dX9_passesStore_63 : decode cX9_passesStore 63 = .ok (.aload_n 0, 1) := by decide +kernel
theorem dX9_passesStore_64 : decode cX9_passesStore 64 = .ok (.getfield 35, 3) := by decide +kernel
theorem dX9_passesStore_67 : decode cX9_passesStore 67 = .ok (.aload_n 0, 1) := by decide +kernel
theorem dX9_passesStore_68 : decode cX9_passesStore 68 = .ok (.getfield 25, 3) := by decide +kernel
theorem dX9_passesStore_71 : decode cX9_passesStore 71 = .ok (.iload_n 3, 1) := by decide +kernel
theorem dX9_passesStore_72 : decode cX9_passesStore 72 = .ok (.laload, 1) := by decide +kernel
theorem dX9_passesStore_73 : decode cX9_passesStore 73 = .ok (.lastore, 1) := by decide +kernel
theorem dX9_passesStore_74 : decode cX9_passesStore 74 = .ok (.aload_n 0, 1) := by decide +kernel
theorem dX9_passesStore_75 : decode cX9_passesStore 75 = .ok (.getfield 19, 3) := by decide +kernel
theorem dX9_passesStore_78 : decode cX9_passesStore 78 = .ok (.aload_n 0, 1) := by decide +kernel
theorem dX9_passesStore_79 : decode cX9_passesStore 79 = .ok (.getfield 35, 3) := by decide +kernel
theorem dX9_passesStore_82 : decode cX9_passesStore 82 = .ok (.aload_n 0, 1) := by decide +kernel
theorem dX9_passesStore_83 : decode cX9_passesStore 83 = .ok (.getfield 28, 3) := by decide +kernel
theorem dX9_passesStore_86 : decode cX9_passesStore 86 = .ok (.iload_n 3, 1) := by decide +kernel
theorem dX9_passesStore_87 : decode cX9_passesStore 87 = .ok (.laload, 1) := by decide +kernel
theorem dX9_passesStore_88 : decode cX9_passesStore 88 = .ok (.lastore, 1) := by decide +kernel
theorem dX9_passesStore_89 : decode cX9_passesStore 89 = .ok (.aload_n 0, 1) := by decide +kernel
theorem dX9_passesStore_90 : decode cX9_passesStore 90 = .ok (.dup, 1) := by decide +kernel
theorem dX9_passesStore_91 : decode cX9_passesStore 91 = .ok (.getfield 35, 3) := by decide +kernel
theorem dX9_passesStore_94 : decode cX9_passesStore 94 = .ok (.iconst 1, 1) := by decide +kernel
theorem dX9_passesStore_95 : decode cX9_passesStore 95 = .ok (.iadd, 1) := by decide +kernel
theorem dX9_passesStore_96 : decode cX9_passesStore 96 = .ok (.putfield 35, 3) := by decide +kernel
theorem dX9_passesStore_99 : decode cX9_passesStore 99 = .ok (.aload_n 0, 1) := by decide +kernel
theorem dX9_passesStore_100 : decode cX9_passesStore 100 = .ok (.getfield 22, 3) := by decide +kernel
theorem dX9_passesStore_103 : decode cX9_passesStore 103 = .ok (.iload_n 3, 1) := by decide +kernel
theorem dX9_passesStore_104 : decode cX9_passesStore 104 = .ok (.baload, 1) := by decide +kernel
theorem dX9_passesStore_105 : decode cX9_passesStore 105 = .ok (.aload_n 2, 1) := by decide +kernel
theorem dX9_passesStore_106 : decode cX9_passesStore 106 = .ok (.getfield 57, 3) := by decide +kernel
theorem dX9_passesStore_109 : decode cX9_passesStore 109 = .ok (.iload_n 1, 1) := by decide +kernel
theorem dX9_passesStore_110 : decode cX9_passesStore 110 = .ok (.baload, 1) := by decide +kernel
theorem dX9_passesStore_111 : decode cX9_passesStore 111 = .ok (.if_icmp .eq 5, 3) := by decide +kernel
theorem dX9_passesStore_114 : decode cX9_passesStore 114 = .ok (.iconst 0, 1) := by decide +kernel
theorem dX9_passesStore_115 : decode cX9_passesStore 115 = .ok (.ireturn, 1) := by decide +kernel
theorem dX9_passesStore_116 : decode cX9_passesStore 116 = .ok (.aload_n 0, 1) := by decide +kernel
theorem dX9_passesStore_117 : decode cX9_passesStore 117 = .ok (.getfield 22, 3) := by decide +kernel
theorem dX9_passesStore_120 : decode cX9_passesStore 120 = .ok (.iload_n 3, 1) := by decide +kernel
theorem dX9_passesStore_121 : decode cX9_passesStore 121 = .ok (.baload, 1) := by decide +kernel
theorem dX9_passesStore_122 : decode cX9_passesStore 122 = .ok (.ifCond .ne 31, 3) := by decide +kernel
theorem dX9_passesStore_125 : decode cX9_passesStore 125 = .ok (.aload_n 2, 1) := by decide +kernel
theorem dX9_passesStore_126 : decode cX9_passesStore 126 = .ok (.iload_n 1, 1) := by decide +kernel
theorem dX9_passesStore_127 : decode cX9_passesStore 127 = .ok (.aload_n 0, 1) := by decide +kernel
theorem dX9_passesStore_128 : decode cX9_passesStore 128 = .ok (.getfield 25, 3) := by decide +kernel
theorem dX9_passesStore_131 : decode cX9_passesStore 131 = .ok (.iload_n 3, 1) := by decide +kernel
theorem dX9_passesStore_132 : decode cX9_passesStore 132 = .ok (.laload, 1) := by decide +kernel
theorem dX9_passesStore_133 : decode cX9_passesStore 133 = .ok (.invokevirtual 97, 3) := by decide +kernel
theorem dX9_passesStore_136 : decode cX9_passesStore 136 = .ok (.ifCond .eq 21, 3) := by decide +kernel
theorem dX9_passesStore_139 : decode cX9_passesStore 139 = .ok (.aload_n 2, 1) := by decide +kernel
theorem dX9_passesStore_140 : decode cX9_passesStore 140 = .ok (.iload_n 1, 1) := by decide +kernel
theorem dX9_passesStore_141 : decode cX9_passesStore 141 = .ok (.aload_n 0, 1) := by decide +kernel
theorem dX9_passesStore_142 : decode cX9_passesStore 142 = .ok (.getfield 28, 3) := by decide +kernel
theorem dX9_passesStore_145 : decode cX9_passesStore 145 = .ok (.iload_n 3, 1) := by decide +kernel
theorem dX9_passesStore_146 : decode cX9_passesStore 146 = .ok (.laload, 1) := by decide +kernel
theorem dX9_passesStore_147 : decode cX9_passesStore 147 = .ok (.invokevirtual 97, 3) := by decide +kernel
theorem dX9_passesStore_150 : decode cX9_passesStore 150 = .ok (.ifCond .eq 7, 3) := by decide +kernel
theorem dX9_passesStore_153 : decode cX9_passesStore 153 = .ok (.iconst 1, 1) := by decide +kernel
theorem dX9_passesStore_154 : decode cX9_passesStore 154 = .ok (.goto 4, 3) := by decide +kernel
theorem dX9_passesStore_157 : decode cX9_passesStore 157 = .ok (.iconst 0, 1) := by decide +kernel
theorem dX9_passesStore_158 : decode cX9_passesStore 158 = .ok (.ireturn, 1) := by decide +kernel
theorem dX10_init_0 : decode cX10_init 0 = .ok (.aload_n 0, 1) := by decide +kernel
theorem dX10_init_1 : decode cX10_init 1 = .ok (.invokespecial 3, 3) := by decide +kernel
theorem dX10_init_4 : decode cX10_init 4 = .ok (.aload_n 0, 1) := by decide +kernel
theorem dX10_init_5 : decode cX10_init 5 = .ok (.bipush 24, 2) := by decide +kernel
theorem dX10_init_7 : decode cX10_init 7 = .ok (.newarray .boolean, 2) := by decide +kernel
theorem dX10_init_9 : decode cX10_init 9 = .ok (.putfield 9, 3) := by decide +kernel
theorem dX10_init_12 : decode cX10_init 12 = .ok (.aload_n 0, 1) := by decide +kernel
theorem dX10_init_13 : decode cX10_init 13 = .ok (.bipush 24, 2) := by decide +kernel
theorem dX10_init_15 : decode cX10_init 15 = .ok (.newarray .long, 2) := by decide +kernel
theorem dX10_init_17 : decode cX10_init 17 = .ok (.putfield 15, 3) := by decide +kernel
theorem dX10_init_20 : decode cX10_init 20 = .ok (.aload_n 0, 1) := by decide +kernel
theorem dX10_init_21 : decode cX10_init 21 = .ok (.bipush 24, 2) := by decide +kernel
theorem dX10_init_23 : decode cX10_init 23 = .ok (.newarray .long, 2) := by decide +kernel
theorem dX10_init_25 : decode cX10_init 25 = .ok (.putfield 19, 3) := by decide +kernel
theorem dX10_init_28 : decode cX10_init 28 = .ok (.return_, 1) := by decide +kernel
theorem dX10_passes_0 : decode cX10_passes 0 = .ok (.iconst 0, 1) := by decide +kernel
theorem dX10_passes_1 : decode cX10_passes 1 = .ok (.istore_n 3, 1) := by decide +kernel
theorem dX10_passes_2 : decode cX10_passes 2 = .ok (.iload_n 3, 1) := by decide +kernel
theorem dX10_passes_3 : decode cX10_passes 3 = .ok (.aload_n 1, 1) := by decide +kernel
theorem dX10_passes_4 : decode cX10_passes 4 = .ok (.getfield 22, 3) := by decide +kernel
theorem dX10_passes_7 : decode cX10_passes 7 = .ok (.if_icmp .ge 32, 3) := by decide +kernel
theorem dX10_passes_10 : decode cX10_passes 10 = .ok (.aload_n 1, 1) := by decide +kernel
theorem dX10_passes_11 : decode cX10_passes 11 = .ok (.getfield 28, 3) := by decide +kernel
theorem dX10_passes_14 : decode cX10_passes 14 = .ok (.iload_n 3, 1) := by decide +kernel
theorem dX10_passes_15 : decode cX10_passes 15 = .ok (.iaload, 1) := by decide +kernel
theorem dX10_passes_16 : decode cX10_passes 16 = .ok (.bipush 7, 2) := by decide +kernel
theorem dX10_passes_18 : decode cX10_passes 18 = .ok (.if_icmp .ne 15, 3) := by decide +kernel
theorem dX10_passes_21 : decode cX10_passes 21 = .ok (.aload_n 0, 1) := by decide +kernel
theorem dX10_passes_22 : decode cX10_passes 22 = .ok (.aload_n 1, 1) := by decide +kernel
theorem dX10_passes_23 : decode cX10_passes 23 = .ok (.aload_n 2, 1) := by decide +kernel
theorem dX10_passes_24 : decode cX10_passes 24 = .ok (.iload_n 3, 1) := by decide +kernel
theorem dX10_passes_25 : decode cX10_passes 25 = .ok (.invokevirtual 32, 3) := by decide +kernel
theorem dX10_passes_28 : decode cX10_passes 28 = .ok (.ifCond .ne 5, 3) := by decide +kernel
theorem dX10_passes_31 : decode cX10_passes 31 = .ok (.iconst 0, 1) := by decide +kernel
theorem dX10_passes_32 : decode cX10_passes 32 = .ok (.ireturn, 1) := by decide +kernel
theorem dX10_passes_33 : decode cX10_passes 33 = .ok (.iinc 3 1, 3) := by decide +kernel
theorem dX10_passes_36 : decode cX10_passes 36 = .ok (.goto (-34), 3) := by decide +kernel
theorem dX10_passes_39 : decode cX10_passes 39 = .ok (.iconst 1, 1) := by decide +kernel
theorem dX10_passes_40 : decode cX10_passes 40 = .ok (.ireturn, 1) := by decide +kernel
theorem dX10_passesStore_0 : decode cX10_passesStore 0 = .ok (.aload_n 1, 1) := by decide +kernel
theorem dX10_passesStore_1 : decode cX10_passesStore 1 = .ok (.getfield 36, 3) := by decide +kernel
theorem dX10_passesStore_4 : decode cX10_passesStore 4 = .ok (.iload_n 3, 1) := by decide +kernel
theorem dX10_passesStore_5 : decode cX10_passesStore 5 = .ok (.iaload, 1) := by decide +kernel
theorem dX10_passesStore_6 : decode cX10_passesStore 6 = .ok (.istore 4, 2) := by decide +kernel
theorem dX10_passesStore_8 : decode cX10_passesStore 8 = .ok (.aload_n 1, 1) := by decide +kernel
theorem dX10_passesStore_9 : decode cX10_passesStore 9 = .ok (.getfield 39, 3) := by decide +kernel
theorem dX10_passesStore_12 : decode cX10_passesStore 12 = .ok (.iload_n 3, 1) := by decide +kernel
theorem dX10_passesStore_13 : decode cX10_passesStore 13 = .ok (.iaload, 1) := by decide +kernel
theorem dX10_passesStore_14 : decode cX10_passesStore 14 = .ok (.istore 5, 2) := by decide +kernel
theorem dX10_passesStore_16 : decode cX10_passesStore 16 = .ok (.aload_n 0, 1) := by decide +kernel
theorem dX10_passesStore_17 : decode cX10_passesStore 17 = .ok (.aload_n 1, 1) := by decide +kernel
theorem dX10_passesStore_18 : decode cX10_passesStore 18 = .ok (.aload_n 2, 1) := by decide +kernel
theorem dX10_passesStore_19 : decode cX10_passesStore 19 = .ok (.iload 4, 2) := by decide +kernel
theorem dX10_passesStore_21 : decode cX10_passesStore 21 = .ok (.iconst 1, 1) := by decide +kernel
theorem dX10_passesStore_22 : decode cX10_passesStore 22 = .ok (.invokevirtual 42, 3) := by decide +kernel
theorem dX10_passesStore_25 : decode cX10_passesStore 25 = .ok (.ifCond .eq 15, 3) := by decide +kernel
theorem dX10_passesStore_28 : decode cX10_passesStore 28 = .ok (.iload 5, 2) := by decide +kernel
theorem dX10_passesStore_30 : decode cX10_passesStore 30 = .ok (.ifCond .lt 10, 3) := by decide +kernel
theorem dX10_passesStore_33 : decode cX10_passesStore 33 = .ok (.iload 5, 2) := by decide +kernel
theorem dX10_passesStore_35 : decode cX10_passesStore 35 = .ok (.bipush 6, 2) := by decide +kernel
theorem dX10_passesStore_37 : decode cX10_passesStore 37 = .ok (.if_icmp .lt 5, 3) := by decide +kernel
theorem dX10_passesStore_40 : decode cX10_passesStore 40 = .ok (.iconst 0, 1) := by decide +kernel
theorem dX10_passesStore_41 : decode cX10_passesStore 41 = .ok (.ireturn, 1) := by decide +kernel
theorem dX10_passesStore_42 : decode cX10_passesStore 42 = .ok (.aload_n 0, 1) := by decide +kernel
theorem dX10_passesStore_43 : decode cX10_passesStore 43 = .ok (.getfield 9, 3) := by decide +kernel
theorem dX10_passesStore_46 : decode cX10_passesStore 46 = .ok (.iload 4, 2) := by decide +kernel
theorem dX10_passesStore_48 : decode cX10_passesStore 48 = .ok (.baload, 1) := by decide +kernel
theorem dX10_passesStore_49 : decode cX10_passesStore 49 = .ok (.ifCond .ne 13, 3) := by decide +kernel
theorem dX10_passesStore_52 : decode cX10_passesStore 52 = .ok (.aload_n 2, 1) := by decide +kernel
theorem dX10_passesStore_53 : decode cX10_passesStore 53 = .ok (.getfield 46, 3) := by decide +kernel
theorem dX10_passesStore_56 : decode cX10_passesStore 56 = .ok (.iload 5, 2) := by decide +kernel
theorem dX10_passesStore_58 : decode cX10_passesStore 58 = .ok (.baload, 1) := by decide +kernel
theorem dX10_passesStore_59 : decode cX10_passesStore 59 = .ok (.ifCond .eq 29, 3) := by decide +kernel
theorem dX10_passesStore_62 : decode cX10_passesStore 62 = .ok (.aload_n 0, 1) := by decide +kernel
theorem dX10_passesStore_63 : decode cX10_passesStore 63 = .ok (.getfield 9, 3) := by decide +kernel
theorem dX10_passesStore_66 : decode cX10_passesStore 66 = .ok (.iload 4, 2) := by decide +kernel
theorem dX10_passesStore_68 : decode cX10_passesStore 68 = .ok (.baload, 1) := by decide +kernel
theorem dX10_passesStore_69 : decode cX10_passesStore 69 = .ok (.ifCond .eq 17, 3) := by decide +kernel
theorem dX10_passesStore_72 : decode cX10_passesStore 72 = .ok (.aload_n 2, 1) := by decide +kernel
theorem dX10_passesStore_73 : decode cX10_passesStore 73 = .ok (.getfield 46, 3) := by decide +kernel
theorem dX10_passesStore_76 : decode cX10_passesStore 76 = .ok (.iload 5, 2) := by decide +kernel
theorem dX10_passesStore_78 : decode cX10_passesStore 78 = .ok (.baload, 1) := by decide +kernel
theorem dX10_passesStore_79 : decode cX10_passesStore 79 = .ok (.ifCond .eq 7, 3) := by decide +kernel
theorem dX10_passesStore_82 : decode cX10_passesStore 82 = .ok (.iconst 1, 1) := by decide +kernel
theorem dX10_passesStore_83 : decode cX10_passesStore 83 = .ok (.goto 4, 3) := by decide +kernel
theorem dX10_passesStore_86 : decode cX10_passesStore 86 = .ok (.iconst 0, 1) := by decide +kernel
theorem dX10_passesStore_87 : decode cX10_passesStore 87 = .ok (.ireturn, 1) := by decide +kernel
theorem dX10_passesStore_88 : decode cX10_passesStore 88 = .ok (.aload_n 2, 1) := by decide +kernel
theorem dX10_passesStore_89 : decode cX10_passesStore 89 = .ok (.getfield 49, 3) := by decide +kernel
theorem dX10_passesStore_92 : decode cX10_passesStore 92 = .ok (.iload 5, 2) := by decide +kernel
theorem dX10_passesStore_94 : decode cX10_passesStore 94 = .ok (.iaload, 1) := by decide +kernel
theorem dX10_passesStore_95 : decode cX10_passesStore 95 = .ok (.i2l, 1) := by decide +kernel
theorem dX10_passesStore_96 : decode cX10_passesStore 96 = .ok (.aload_n 0, 1) := by decide +kernel
theorem dX10_passesStore_97 : decode cX10_passesStore 97 = .ok (.getfield 15, 3) := by decide +kernel
theorem dX10_passesStore_100 : decode cX10_passesStore 100 = .ok (.iload 4, 2) := by decide +kernel
theorem dX10_passesStore_102 : decode cX10_passesStore 102 = .ok (.laload, 1) := by decide +kernel
theorem dX10_passesStore_103 : decode cX10_passesStore 103 = .ok (.lcmp, 1) := by decide +kernel
theorem dX10_passesStore_104 : decode cX10_passesStore 104 = .ok (.ifCond .gt 26, 3) := by decide +kernel
theorem dX10_passesStore_107 : decode cX10_passesStore 107 = .ok (.aload_n 0, 1) := by decide +kernel
theorem dX10_passesStore_108 : decode cX10_passesStore 108 = .ok (.getfield 19, 3) := by decide +kernel
theorem dX10_passesStore_111 : decode cX10_passesStore 111 = .ok (.iload 4, 2) := by decide +kernel
theorem dX10_passesStore_113 : decode cX10_passesStore 113 = .ok (.laload, 1) := by decide +kernel
theorem dX10_passesStore_114 : decode cX10_passesStore 114 = .ok (.aload_n 2, 1) := by decide +kernel
theorem dX10_passesStore_115 : decode cX10_passesStore 115 = .ok (.getfield 51, 3) := by decide +kernel
theorem dX10_passesStore_118 : decode cX10_passesStore 118 = .ok (.iload 5, 2) := by decide +kernel
theorem dX10_passesStore_120 : decode cX10_passesStore 120 = .ok (.iaload, 1) := by decide +kernel
theorem dX10_passesStore_121 : decode cX10_passesStore 121 = .ok (.i2l, 1) := by decide +kernel
theorem dX10_passesStore_122 : decode cX10_passesStore 122 = .ok (.lcmp, 1) := by decide +kernel
theorem dX10_passesStore_123 : decode cX10_passesStore 123 = .ok (.ifCond .gt 7, 3) := by decide +kernel
theorem dX10_passesStore_126 : decode cX10_passesStore 126 = .ok (.iconst 1, 1) := by decide +kernel
theorem dX10_passesStore_127 : decode cX10_passesStore 127 = .ok (.goto 4, 3) := by decide +kernel
theorem dX10_passesStore_130 : decode cX10_passesStore 130 = .ok (.iconst 0, 1) := by decide +kernel
theorem dX10_passesStore_131 : decode cX10_passesStore 131 = .ok (.ireturn, 1) := by decide +kernel
theorem dX10_passesPart_0 : decode cX10_passesPart 0 = .ok (.iload_n 3, 1) := by decide +kernel
theorem dX10_passesPart_1 : decode cX10_passesPart 1 = .ok (.ifCond .lt 18, 3) := by decide +kernel
theorem dX10_passesPart_4 : decode cX10_passesPart 4 = .ok (.iload_n 3, 1) := by decide +kernel
theorem dX10_passesPart_5 : decode cX10_passesPart 5 = .ok (.aload_n 1, 1) := by decide +kernel
theorem dX10_passesPart_6 : decode cX10_passesPart 6 = .ok (.getfield 22, 3) := by decide +kernel
theorem dX10_passesPart_9 : decode cX10_passesPart 9 = .ok (.if_icmp .ge 10, 3) := by decide +kernel
theorem dX10_passesPart_12 : decode cX10_passesPart 12 = .ok (.iload 4, 2) := by decide +kernel
theorem dX10_passesPart_14 : decode cX10_passesPart 14 = .ok (.bipush 24, 2) := by decide +kernel
theorem dX10_passesPart_16 : decode cX10_passesPart 16 = .ok (.if_icmp .le 5, 3) := by decide +kernel
theorem dX10_passesPart_19 : decode cX10_passesPart 19 = .ok (.iconst 0, 1) := by decide +kernel
theorem dX10_passesPart_20 : decode cX10_passesPart 20 = .ok (.ireturn, 1) := by decide +kernel
theorem dX10_passesPart_21 : decode cX10_passesPart 21 = .ok (.aload_n 1, 1) := by decide +kernel
theorem dX10_passesPart_22 : decode cX10_passesPart 22 = .ok (.getfield 28, 3) := by decide +kernel
theorem dX10_passesPart_25 : decode cX10_passesPart 25 = .ok (.iload_n 3, 1) := by decide +kernel
theorem dX10_passesPart_26 : decode cX10_passesPart 26 = .ok (.iaload, 1) := by decide +kernel
theorem dX10_passesPart_27 : decode cX10_passesPart 27 = .ok (.istore 5, 2) := by decide +kernel
theorem dX10_passesPart_29 : decode cX10_passesPart 29 = .ok (.aload_n 1, 1) := by decide +kernel
theorem dX10_passesPart_30 : decode cX10_passesPart 30 = .ok (.getfield 39, 3) := by decide +kernel
theorem dX10_passesPart_33 : decode cX10_passesPart 33 = .ok (.iload_n 3, 1) := by decide +kernel
theorem dX10_passesPart_34 : decode cX10_passesPart 34 = .ok (.iaload, 1) := by decide +kernel
theorem dX10_passesPart_35 : decode cX10_passesPart 35 = .ok (.istore 6, 2) := by decide +kernel
theorem dX10_passesPart_37 : decode cX10_passesPart 37 = .ok (.iload 5, 2) := by decide +kernel
theorem dX10_passesPart_39 : decode cX10_passesPart 39 = .ok (.ifCond .ne 12, 3) := by decide +kernel
theorem dX10_passesPart_42 : decode cX10_passesPart 42 = .ok (.aload_n 0, 1) := by decide +kernel
theorem dX10_passesPart_43 : decode cX10_passesPart 43 = .ok (.aload_n 2, 1) := by decide +kernel
theorem dX10_passesPart_44 : decode cX10_passesPart 44 = .ok (.iload_n 3, 1) := by decide +kernel
theorem dX10_passesPart_45 : decode cX10_passesPart 45 = .ok (.iload 6, 2) := by decide +kernel
theorem dX10_passesPart_47 : decode cX10_passesPart 47 = .ok (.invokevirtual 53, 3) := by decide +kernel
theorem dX10_passesPart_50 : decode cX10_passesPart 50 = .ok (.ireturn, 1) := by decide +kernel
theorem dX10_passesPart_51 : decode cX10_passesPart 51 = .ok (.iload 5, 2) := by decide +kernel
theorem dX10_passesPart_53 : decode cX10_passesPart 53 = .ok (.iconst 1, 1) := by decide +kernel
theorem dX10_passesPart_54 : decode cX10_passesPart 54 = .ok (.if_icmp .ne 15, 3) := by decide +kernel
theorem dX10_passesPart_57 : decode cX10_passesPart 57 = .ok (.aload_n 0, 1) := by decide +kernel
theorem dX10_passesPart_58 : decode cX10_passesPart 58 = .ok (.iload_n 3, 1) := by decide +kernel
theorem dX10_passesPart_59 : decode cX10_passesPart 59 = .ok (.iload 6, 2) := by decide +kernel
theorem dX10_passesPart_61 : decode cX10_passesPart 61 = .ok (.i2l, 1) := by decide +kernel
theorem dX10_passesPart_62 : decode cX10_passesPart 62 = .ok (.iload 6, 2) := by decide +kernel
theorem dX10_passesPart_64 : decode cX10_passesPart 64 = .ok (.i2l, 1) := by decide +kernel
theorem dX10_passesPart_65 : decode cX10_passesPart 65 = .ok (.invokevirtual 57, 3) := by decide +kernel
theorem dX10_passesPart_68 : decode cX10_passesPart 68 = .ok (.ireturn, 1) := by decide +kernel
theorem dX10_passesPart_69 : decode cX10_passesPart 69 = .ok (.aload_n 1, 1) := by decide +kernel
theorem dX10_passesPart_70 : decode cX10_passesPart 70 = .ok (.getfield 36, 3) := by decide +kernel
theorem dX10_passesPart_73 : decode cX10_passesPart 73 = .ok (.iload_n 3, 1) := by decide +kernel
theorem dX10_passesPart_74 : decode cX10_passesPart 74 = .ok (.iaload, 1) := by decide +kernel
theorem dX10_passesPart_75 : decode cX10_passesPart 75 = .ok (.istore 7, 2) := by decide +kernel
theorem dX10_passesPart_77 : decode cX10_passesPart 77 = .ok (.iload 5, 2) := by decide +kernel
theorem dX10_passesPart_79 : decode cX10_passesPart 79 = .ok (.bipush 7, 2) := by decide +kernel
theorem dX10_passesPart_81 : decode cX10_passesPart 81 = .ok (.if_icmp .eq 18, 3) := by decide +kernel
theorem dX10_passesPart_84 : decode cX10_passesPart 84 = .ok (.aload_n 0, 1) := by decide +kernel
theorem dX10_passesPart_85 : decode cX10_passesPart 85 = .ok (.aload_n 1, 1) := by decide +kernel
theorem dX10_passesPart_86 : decode cX10_passesPart 86 = .ok (.aload_n 2, 1) := by decide +kernel
theorem dX10_passesPart_87 : decode cX10_passesPart 87 = .ok (.iload 7, 2) := by decide +kernel
theorem dX10_passesPart_89 : decode cX10_passesPart 89 = .ok (.iload 4, 2) := by decide +kernel
theorem dX10_passesPart_91 : decode cX10_passesPart 91 = .ok (.iconst 1, 1) := by decide +kernel
theorem dX10_passesPart_92 : decode cX10_passesPart 92 = .ok (.iadd, 1) := by decide +kernel
theorem dX10_passesPart_93 : decode cX10_passesPart 93 = .ok (.invokevirtual 42, 3) := by decide +kernel
theorem dX10_passesPart_96 : decode cX10_passesPart 96 = .ok (.ifCond .ne 5, 3) := by decide +kernel
theorem dX10_passesPart_99 : decode cX10_passesPart 99 = .ok (.iconst 0, 1) := by decide +kernel
theorem dX10_passesPart_100 : decode cX10_passesPart 100 = .ok (.ireturn, 1) := by decide +kernel
theorem dX10_passesPart_101 : decode cX10_passesPart 101 = .ok (.iload 5, 2) := by decide +kernel
theorem dX10_passesPart_103 : decode cX10_passesPart 103 = .ok (.iconst 5, 1) := by decide +kernel
theorem dX10_passesPart_104 : decode cX10_passesPart 104 = .ok (.if_icmp .eq 10, 3) := by decide +kernel
theorem dX10_passesPart_107 : decode cX10_passesPart 107 = .ok (.iload 5, 2) := by decide +kernel
theorem dX10_passesPart_109 : decode cX10_passesPart 109 = .ok (.bipush 6, 2) := by decide +kernel
theorem dX10_passesPart_111 : decode cX10_passesPart 111 = .ok (.if_icmp .ne 22, 3) := by decide +kernel
theorem dX10_passesPart_114 : decode cX10_passesPart 114 = .ok (.aload_n 0, 1) := by decide +kernel
theorem dX10_passesPart_115 : decode cX10_passesPart 115 = .ok (.iload_n 3, 1) := by decide +kernel
theorem dX10_passesPart_116 : decode cX10_passesPart 116 = .ok (.iload 7, 2) := by decide +kernel
theorem dX10_passesPart_118 : decode cX10_passesPart 118 = .ok (.iload 5, 2) := by decide +kernel
theorem dX10_passesPart_120 : decode cX10_passesPart 120 = .ok (.iconst 5, 1) := by decide +kernel
theorem dX10_passesPart_121 : decode cX10_passesPart 121 = .ok (.if_icmp .ne 7, 3) := by decide +kernel
theorem dX10_passesPart_124 : decode cX10_passesPart 124 = .ok (.iconst 1, 1) := by decide +kernel
theorem dX10_passesPart_125 : decode cX10_passesPart 125 = .ok (.goto 4, 3) := by decide +kernel
theorem dX10_passesPart_128 : decode cX10_passesPart 128 = .ok (.iconst 0, 1) := by decide +kernel
theorem dX10_passesPart_129 : decode cX10_passesPart 129 = .ok (.invokevirtual 61, 3) := by decide +kernel
theorem dX10_passesPart_132 : decode cX10_passesPart 132 = .ok (.ireturn, 1) := by decide +kernel
theorem dX10_passesPart_133 : decode cX10_passesPart 133 = .ok (.aload_n 1, 1) := by decide +kernel
theorem dX10_passesPart_134 : decode cX10_passesPart 134 = .ok (.getfield 65, 3) := by decide +kernel
theorem dX10_passesPart_137 : decode cX10_passesPart 137 = .ok (.iload_n 3, 1) := by decide +kernel
theorem dX10_passesPart_138 : decode cX10_passesPart 138 = .ok (.iaload, 1) := by decide +kernel
theorem dX10_passesPart_139 : decode cX10_passesPart 139 = .ok (.istore 8, 2) := by decide +kernel
theorem dX10_passesPart_141 : decode cX10_passesPart 141 = .ok (.aload_n 0, 1) := by decide +kernel
theorem dX10_passesPart_142 : decode cX10_passesPart 142 = .ok (.aload_n 1, 1) := by decide +kernel
theorem dX10_passesPart_143 : decode cX10_passesPart 143 = .ok (.aload_n 2, 1) := by decide +kernel
theorem dX10_passesPart_144 : decode cX10_passesPart 144 = .ok (.iload 8, 2) := by decide +kernel
theorem dX10_passesPart_146 : decode cX10_passesPart 146 = .ok (.iload 4, 2) := by decide +kernel
theorem dX10_passesPart_148 : decode cX10_passesPart 148 = .ok (.iconst 1, 1) := by decide +kernel
theorem dX10_passesPart_149 : decode cX10_passesPart 149 = .ok (.iadd, 1) := by decide +kernel
theorem dX10_passesPart_150 : decode cX10_passesPart 150 = .ok (.invokevirtual 42, 3) := by decide +kernel
theorem dX10_passesPart_153 : decode cX10_passesPart 153 = .ok (.ifCond .eq 21, 3) := by decide +kernel
theorem dX10_passesPart_156 : decode cX10_passesPart 156 = .ok (.aload_n 0, 1) := by decide +kernel
theorem dX10_passesPart_157 : decode cX10_passesPart 157 = .ok (.iload 5, 2) := by decide +kernel
theorem dX10_passesPart_159 : decode cX10_passesPart 159 = .ok (.iload_n 3, 1) := by decide +kernel
theorem dX10_passesPart_160 : decode cX10_passesPart 160 = .ok (.iload 7, 2) := by decide +kernel
theorem dX10_passesPart_162 : decode cX10_passesPart 162 = .ok (.iload 8, 2) := by decide +kernel
theorem dX10_passesPart_164 : decode cX10_passesPart 164 = .ok (.invokevirtual 68, 3) := by decide +kernel
theorem dX10_passesPart_167 : decode cX10_passesPart 167 = .ok (.ifCond .eq 7, 3) := by decide +kernel
theorem dX10_passesPart_170 : decode cX10_passesPart 170 = .ok (.iconst 1, 1) := by decide +kernel
theorem dX10_passesPart_171 : decode cX10_passesPart 171 = .ok (.goto 4, 3) := by decide +kernel
theorem dX10_passesPart_174 : decode cX10_passesPart 174 = .ok (.iconst 0, 1) := by decide +kernel
theorem dX10_passesPart_175 : decode cX10_passesPart 175 = .ok (.ireturn, 1) := by decide +kernel
theorem dX10_passesTake_0 : decode cX10_passesTake 0 = .ok (.iload_n 3, 1) := by decide +kernel
theorem dX10_passesTake_1 : decode cX10_passesTake 1 = .ok (.ifCond .lt 9, 3) := by decide +kernel
theorem dX10_passesTake_4 : decode cX10_passesTake 4 = .ok (.iload_n 3, 1) := by decide +kernel
theorem dX10_passesTake_5 : decode cX10_passesTake 5 = .ok (.bipush 6, 2) := by decide +kernel
theorem dX10_passesTake_7 : decode cX10_passesTake 7 = .ok (.if_icmp .lt 5, 3) := by decide +kernel
theorem dX10_passesTake_10 : decode cX10_passesTake 10 = .ok (.iconst 0, 1) := by decide +kernel
theorem dX10_passesTake_11 : decode cX10_passesTake 11 = .ok (.ireturn, 1) := by decide +kernel
theorem dX10_passesTake_12 : decode cX10_passesTake 12 = .ok (.aload_n 1, 1) := by decide +kernel
theorem dX10_passesTake_13 : decode cX10_passesTake 13 = .ok (.getfield 46, 3) := by decide +kernel
theorem dX10_passesTake_16 : decode cX10_passesTake 16 = .ok (.iload_n 3, 1) := by decide +kernel
theorem dX10_passesTake_17 : decode cX10_passesTake 17 = .ok (.baload, 1) := by decide +kernel
theorem dX10_passesTake_18 : decode cX10_passesTake 18 = .ok (.ifCond .eq 9, 3) := by decide +kernel
theorem dX10_passesTake_21 : decode cX10_passesTake 21 = .ok (.aload_n 0, 1) := by decide +kernel
theorem dX10_passesTake_22 : decode cX10_passesTake 22 = .ok (.iload_n 2, 1) := by decide +kernel
theorem dX10_passesTake_23 : decode cX10_passesTake 23 = .ok (.invokevirtual 72, 3) := by decide +kernel
theorem dX10_passesTake_26 : decode cX10_passesTake 26 = .ok (.ireturn, 1) := by decide +kernel
theorem dX10_passesTake_27 : decode cX10_passesTake 27 = .ok (.aload_n 0, 1) := by decide +kernel
theorem dX10_passesTake_28 : decode cX10_passesTake 28 = .ok (.iload_n 2, 1) := by decide +kernel
theorem dX10_passesTake_29 : decode cX10_passesTake 29 = .ok (.aload_n 1, 1) := by decide +kernel
theorem dX10_passesTake_30 : decode cX10_passesTake 30 = .ok (.getfield 49, 3) := by decide +kernel
theorem dX10_passesTake_33 : decode cX10_passesTake 33 = .ok (.iload_n 3, 1) := by decide +kernel
theorem dX10_passesTake_34 : decode cX10_passesTake 34 = .ok (.iaload, 1) := by decide +kernel
theorem dX10_passesTake_35 : decode cX10_passesTake 35 = .ok (.i2l, 1) := by decide +kernel
theorem dX10_passesTake_36 : decode cX10_passesTake 36 = .ok (.aload_n 1, 1) := by decide +kernel
theorem dX10_passesTake_37 : decode cX10_passesTake 37 = .ok (.getfield 51, 3) := by decide +kernel
theorem dX10_passesTake_40 : decode cX10_passesTake 40 = .ok (.iload_n 3, 1) := by decide +kernel
theorem dX10_passesTake_41 : decode cX10_passesTake 41 = .ok (.iaload, 1) := by decide +kernel
theorem dX10_passesTake_42 : decode cX10_passesTake 42 = .ok (.i2l, 1) := by decide +kernel
theorem dX10_passesTake_43 : decode cX10_passesTake 43 = .ok (.invokevirtual 57, 3) := by decide +kernel
theorem dX10_passesTake_46 : decode cX10_passesTake 46 = .ok (.ireturn, 1) := by decide +kernel
theorem dX10_passesCast_0 : decode cX10_passesCast 0 = .ok (.aload_n 0, 1) := by decide +kernel
theorem dX10_passesCast_1 : decode cX10_passesCast 1 = .ok (.getfield 9, 3) := by decide +kernel
theorem dX10_passesCast_4 : decode cX10_passesCast 4 = .ok (.iload_n 2, 1) := by decide +kernel
theorem dX10_passesCast_5 : decode cX10_passesCast 5 = .ok (.baload, 1) := by decide +kernel
theorem dX10_passesCast_6 : decode cX10_passesCast 6 = .ok (.iload_n 3, 1) := by decide +kernel
theorem dX10_passesCast_7 : decode cX10_passesCast 7 = .ok (.if_icmp .ne 5, 3) := by decide +kernel
theorem dX10_passesCast_10 : decode cX10_passesCast 10 = .ok (.iconst 0, 1) := by decide +kernel
theorem dX10_passesCast_11 : decode cX10_passesCast 11 = .ok (.ireturn, 1) := by decide +kernel
theorem dX10_passesCast_12 : decode cX10_passesCast 12 = .ok (.iload_n 3, 1) := by decide +kernel
theorem dX10_passesCast_13 : decode cX10_passesCast 13 = .ok (.ifCond .eq 11, 3) := by decide +kernel
theorem dX10_passesCast_16 : decode cX10_passesCast 16 = .ok (.aload_n 0, 1) := by decide +kernel
theorem dX10_passesCast_17 : decode cX10_passesCast 17 = .ok (.iload_n 1, 1) := by decide +kernel
theorem dX10_passesCast_18 : decode cX10_passesCast 18 = .ok (.invokevirtual 72, 3) := by decide +kernel
theorem dX10_passesCast_21 : decode cX10_passesCast 21 = .ok (.goto 14, 3) := by decide +kernel
theorem dX10_passesCast_24 : decode cX10_passesCast 24 = .ok (.aload_n 0, 1) := by decide +kernel
theorem dX10_passesCast_25 : decode cX10_passesCast 25 = .ok (.iload_n 1, 1) := by decide +kernel
theorem dX10_passesCast_26 : decode cX10_passesCast 26 = .ok (.ldc2_w 76, 3) := by decide +kernel
theorem dX10_passesCast_29 : decode cX10_passesCast 29 = .ok (.ldc2_w 78, 3) := by decide +kernel
theorem dX10_passesCast_32 : decode cX10_passesCast 32 = .ok (.invokevirtual 57, 3) := by decide +kernel
theorem dX10_passesCast_35 : decode cX10_passesCast 35 = .ok (.ireturn, 1) := by decide +kernel
theorem dX10_passesReckoning_0 : decode cX10_passesReckoning 0 = .ok (.aload_n 0, 1) := by decide +kernel
theorem dX10_passesReckoning_1 : decode cX10_passesReckoning 1 = .ok (.getfield 9, 3) := by decide +kernel
theorem dX10_passesReckoning_4 : decode cX10_passesReckoning 4 = .ok (.iload_n 3, 1) := by decide +kernel
theorem dX10_passesReckoning_5 : decode cX10_passesReckoning 5 = .ok (.baload, 1) := by decide +kernel
theorem dX10_passesReckoning_6 : decode cX10_passesReckoning 6 = .ok (.ifCond .ne 13, 3) := by decide +kernel
theorem dX10_passesReckoning_9 : decode cX10_passesReckoning 9 = .ok (.aload_n 0, 1) := by decide +kernel
theorem dX10_passesReckoning_10 : decode cX10_passesReckoning 10 = .ok (.getfield 9, 3) := by decide +kernel
theorem dX10_passesReckoning_13 : decode cX10_passesReckoning 13 = .ok (.iload 4, 2) := by decide +kernel
theorem dX10_passesReckoning_15 : decode cX10_passesReckoning 15 = .ok (.baload, 1) := by decide +kernel
theorem dX10_passesReckoning_16 : decode cX10_passesReckoning 16 = .ok (.ifCond .eq 36, 3) := by decide +kernel
theorem dX10_passesReckoning_19 : decode cX10_passesReckoning 19 = .ok (.aload_n 0, 1) := by decide +kernel
theorem dX10_passesReckoning_20 : decode cX10_passesReckoning 20 = .ok (.getfield 9, 3) := by decide +kernel
theorem dX10_passesReckoning_23 : decode cX10_passesReckoning 23 = .ok (.iload_n 3, 1) := by decide +kernel
theorem dX10_passesReckoning_24 : decode cX10_passesReckoning 24 = .ok (.baload, 1) := by decide +kernel
theorem dX10_passesReckoning_25 : decode cX10_passesReckoning 25 = .ok (.ifCond .eq 25, 3) := by decide +kernel
theorem dX10_passesReckoning_28 : decode cX10_passesReckoning 28 = .ok (.aload_n 0, 1) := by decide +kernel
theorem dX10_passesReckoning_29 : decode cX10_passesReckoning 29 = .ok (.getfield 9, 3) := by decide +kernel
theorem dX10_passesReckoning_32 : decode cX10_passesReckoning 32 = .ok (.iload 4, 2) := by decide +kernel
theorem dX10_passesReckoning_34 : decode cX10_passesReckoning 34 = .ok (.baload, 1) := by decide +kernel
theorem dX10_passesReckoning_35 : decode cX10_passesReckoning 35 = .ok (.ifCond .eq 15, 3) := by decide +kernel
theorem dX10_passesReckoning_38 : decode cX10_passesReckoning 38 = .ok (.aload_n 0, 1) := by decide +kernel
theorem dX10_passesReckoning_39 : decode cX10_passesReckoning 39 = .ok (.iload_n 2, 1) := by decide +kernel
theorem dX10_passesReckoning_40 : decode cX10_passesReckoning 40 = .ok (.invokevirtual 72, 3) := by decide +kernel
theorem dX10_passesReckoning_43 : decode cX10_passesReckoning 43 = .ok (.ifCond .eq 7, 3) := by decide +kernel
theorem dX10_passesReckoning_46 : decode cX10_passesReckoning 46 = .ok (.iconst 1, 1) := by decide +kernel
theorem dX10_passesReckoning_47 : decode cX10_passesReckoning 47 = .ok (.goto 4, 3) := by decide +kernel
theorem dX10_passesReckoning_50 : decode cX10_passesReckoning 50 = .ok (.iconst 0, 1) := by decide +kernel
theorem dX10_passesReckoning_51 : decode cX10_passesReckoning 51 = .ok (.ireturn, 1) := by decide +kernel
theorem dX10_passesReckoning_52 : decode cX10_passesReckoning 52 = .ok (.aload_n 0, 1) := by decide +kernel
theorem dX10_passesReckoning_53 : decode cX10_passesReckoning 53 = .ok (.iload_n 2, 1) := by decide +kernel
theorem dX10_passesReckoning_54 : decode cX10_passesReckoning 54 = .ok (.iload_n 1, 1) := by decide +kernel
theorem dX10_passesReckoning_55 : decode cX10_passesReckoning 55 = .ok (.aload_n 0, 1) := by decide +kernel
theorem dX10_passesReckoning_56 : decode cX10_passesReckoning 56 = .ok (.getfield 15, 3) := by decide +kernel
theorem dX10_passesReckoning_59 : decode cX10_passesReckoning 59 = .ok (.iload_n 3, 1) := by decide +kernel
theorem dX10_passesReckoning_60 : decode cX10_passesReckoning 60 = .ok (.laload, 1) := by decide +kernel
theorem dX10_passesReckoning_61 : decode cX10_passesReckoning 61 = .ok (.aload_n 0, 1) := by decide +kernel
theorem dX10_passesReckoning_62 : decode cX10_passesReckoning 62 = .ok (.getfield 19, 3) := by decide +kernel
theorem dX10_passesReckoning_65 : decode cX10_passesReckoning 65 = .ok (.iload_n 3, 1) := by decide +kernel
theorem dX10_passesReckoning_66 : decode cX10_passesReckoning 66 = .ok (.laload, 1) := by decide +kernel
theorem dX10_passesReckoning_67 : decode cX10_passesReckoning 67 = .ok (.aload_n 0, 1) := by decide +kernel
theorem dX10_passesReckoning_68 : decode cX10_passesReckoning 68 = .ok (.getfield 15, 3) := by decide +kernel
theorem dX10_passesReckoning_71 : decode cX10_passesReckoning 71 = .ok (.iload 4, 2) := by decide +kernel
theorem dX10_passesReckoning_73 : decode cX10_passesReckoning 73 = .ok (.laload, 1) := by decide +kernel
theorem dX10_passesReckoning_74 : decode cX10_passesReckoning 74 = .ok (.aload_n 0, 1) := by decide +kernel
theorem dX10_passesReckoning_75 : decode cX10_passesReckoning 75 = .ok (.getfield 19, 3) := by decide +kernel
theorem dX10_passesReckoning_78 : decode cX10_passesReckoning 78 = .ok (.iload 4, 2) := by decide +kernel
theorem dX10_passesReckoning_80 : decode cX10_passesReckoning 80 = .ok (.laload, 1) := by decide +kernel
theorem dX10_passesReckoning_81 : decode cX10_passesReckoning 81 = .ok (.invokestatic 80, 3) := by decide +kernel
theorem dX10_passesReckoning_84 : decode cX10_passesReckoning 84 = .ok (.iload_n 1, 1) := by decide +kernel
theorem dX10_passesReckoning_85 : decode cX10_passesReckoning 85 = .ok (.aload_n 0, 1) := by decide +kernel
theorem dX10_passesReckoning_86 : decode cX10_passesReckoning 86 = .ok (.getfield 15, 3) := by decide +kernel
theorem dX10_passesReckoning_89 : decode cX10_passesReckoning 89 = .ok (.iload_n 3, 1) := by decide +kernel
theorem dX10_passesReckoning_90 : decode cX10_passesReckoning 90 = .ok (.laload, 1) := by decide +kernel
theorem dX10_passesReckoning_91 : decode cX10_passesReckoning 91 = .ok (.aload_n 0, 1) := by decide +kernel
theorem dX10_passesReckoning_92 : decode cX10_passesReckoning 92 = .ok (.getfield 19, 3) := by decide +kernel
theorem dX10_passesReckoning_95 : decode cX10_passesReckoning 95 = .ok (.iload_n 3, 1) := by decide +kernel
theorem dX10_passesReckoning_96 : decode cX10_passesReckoning 96 = .ok (.laload, 1) := by decide +kernel
theorem dX10_passesReckoning_97 : decode cX10_passesReckoning 97 = .ok (.aload_n 0, 1) := by decide +kernel
theorem dX10_passesReckoning_98 : decode cX10_passesReckoning 98 = .ok (.getfield 15, 3) := by decide +kernel
theorem dX10_passesReckoning_101 : decode cX10_passesReckoning 101 = .ok (.iload 4, 2) := by decide +kernel
theorem dX10_passesReckoning_103 : decode cX10_passesReckoning 103 = .ok (.laload, 1) := by decide +kernel
theorem dX10_passesReckoning_104 : decode cX10_passesReckoning 104 = .ok (.aload_n 0, 1) := by decide +kernel
theorem dX10_passesReckoning_105 : decode cX10_passesReckoning 105 = .ok (.getfield 19, 3) := by decide +kernel
theorem dX10_passesReckoning_108 : decode cX10_passesReckoning 108 = .ok (.iload 4, 2) := by decide +kernel
theorem dX10_passesReckoning_110 : decode cX10_passesReckoning 110 = .ok (.laload, 1) := by decide +kernel
theorem dX10_passesReckoning_111 : decode cX10_passesReckoning 111 = .ok (.invokestatic 86, 3) := by decide +kernel
theorem dX10_passesReckoning_114 : decode cX10_passesReckoning 114 = .ok (.invokevirtual 57, 3) := by decide +kernel
theorem dX10_passesReckoning_117 : decode cX10_passesReckoning 117 = .ok (.ireturn, 1) := by decide +kernel
theorem dX10_tellsBroth_0 : decode cX10_tellsBroth 0 = .ok (.aload_n 0, 1) := by decide +kernel
theorem dX10_tellsBroth_1 : decode cX10_tellsBroth 1 = .ok (.getfield 9, 3) := by decide +kernel
theorem dX10_tellsBroth_4 : decode cX10_tellsBroth 4 = .ok (.iload_n 1, 1) := by decide +kernel
theorem dX10_tellsBroth_5 : decode cX10_tellsBroth 5 = .ok (.iconst 1, 1) := by decide +kernel
theorem dX10_tellsBroth_6 : decode cX10_tellsBroth 6 = .ok (.bastore, 1) := by decide +kernel
theorem dX10_tellsBroth_7 : decode cX10_tellsBroth 7 = .ok (.iconst 1, 1) := by decide +kernel
theorem dX10_tellsBroth_8 : decode cX10_tellsBroth 8 = .ok (.ireturn, 1) := by decide +kernel
theorem dX10_tellsDrams_0 : decode cX10_tellsDrams 0 = .ok (.aload_n 0, 1) := by decide +kernel
theorem dX10_tellsDrams_1 : decode cX10_tellsDrams 1 = .ok (.getfield 9, 3) := by decide +kernel
theorem dX10_tellsDrams_4 : decode cX10_tellsDrams 4 = .ok (.iload_n 1, 1) := by decide +kernel
theorem dX10_tellsDrams_5 : decode cX10_tellsDrams 5 = .ok (.iconst 0, 1) := by decide +kernel
theorem dX10_tellsDrams_6 : decode cX10_tellsDrams 6 = .ok (.bastore, 1) := by decide +kernel
theorem dX10_tellsDrams_7 : decode cX10_tellsDrams 7 = .ok (.aload_n 0, 1) := by decide +kernel
theorem dX10_tellsDrams_8 : decode cX10_tellsDrams 8 = .ok (.getfield 15, 3) := by decide +kernel
theorem dX10_tellsDrams_11 : decode cX10_tellsDrams 11 = .ok (.iload_n 1, 1) := by decide +kernel
theorem dX10_tellsDrams_12 : decode cX10_tellsDrams 12 = .ok (.lload_n 2, 1) := by decide +kernel
theorem dX10_tellsDrams_13 : decode cX10_tellsDrams 13 = .ok (.lastore, 1) := by decide +kernel
theorem dX10_tellsDrams_14 : decode cX10_tellsDrams 14 = .ok (.aload_n 0, 1) := by decide +kernel
theorem dX10_tellsDrams_15 : decode cX10_tellsDrams 15 = .ok (.getfield 19, 3) := by decide +kernel
theorem dX10_tellsDrams_18 : decode cX10_tellsDrams 18 = .ok (.iload_n 1, 1) := by decide +kernel
theorem dX10_tellsDrams_19 : decode cX10_tellsDrams 19 = .ok (.lload 4, 2) := by decide +kernel
theorem dX10_tellsDrams_21 : decode cX10_tellsDrams 21 = .ok (.lastore, 1) := by decide +kernel
theorem dX10_tellsDrams_22 : decode cX10_tellsDrams 22 = .ok (.lload_n 2, 1) := by decide +kernel
theorem dX10_tellsDrams_23 : decode cX10_tellsDrams 23 = .ok (.invokestatic 89, 3) := by decide +kernel
theorem dX10_tellsDrams_26 : decode cX10_tellsDrams 26 = .ok (.ifCond .ne 15, 3) := by decide +kernel
theorem dX10_tellsDrams_29 : decode cX10_tellsDrams 29 = .ok (.lload 4, 2) := by decide +kernel
theorem dX10_tellsDrams_31 : decode cX10_tellsDrams 31 = .ok (.invokestatic 89, 3) := by decide +kernel
theorem dX10_tellsDrams_34 : decode cX10_tellsDrams 34 = .ok (.ifCond .ne 7, 3) := by decide +kernel
theorem dX10_tellsDrams_37 : decode cX10_tellsDrams 37 = .ok (.iconst 1, 1) := by decide +kernel
theorem dX10_tellsDrams_38 : decode cX10_tellsDrams 38 = .ok (.goto 4, 3) := by decide +kernel
theorem dX10_tellsDrams_41 : decode cX10_tellsDrams 41 = .ok (.iconst 0, 1) := by decide +kernel
theorem dX10_tellsDrams_42 : decode cX10_tellsDrams 42 = .ok (.ireturn, 1) := by decide +kernel
theorem dX11_init_0 : decode cX11_init 0 = .ok (.aload_n 0, 1) := by decide +kernel
theorem dX11_init_1 : decode cX11_init 1 = .ok (.invokespecial 1, 3) := by decide +kernel
theorem dX11_init_4 : decode cX11_init 4 = .ok (.aload_n 0, 1) := by decide +kernel
theorem dX11_init_5 : decode cX11_init 5 = .ok (.new 7, 3) := by decide +kernel
theorem dX11_init_8 : decode cX11_init 8 = .ok (.dup, 1) := by decide +kernel
theorem dX11_init_9 : decode cX11_init 9 = .ok (.invokespecial 9, 3) := by decide +kernel
theorem dX11_init_12 : decode cX11_init 12 = .ok (.putfield 10, 3) := by decide +kernel
theorem dX11_init_15 : decode cX11_init 15 = .ok (.aload_n 0, 1) := by decide +kernel
theorem dX11_init_16 : decode cX11_init 16 = .ok (.new 7, 3) := by decide +kernel
theorem dX11_init_19 : decode cX11_init 19 = .ok (.dup, 1) := by decide +kernel
theorem dX11_init_20 : decode cX11_init 20 = .ok (.invokespecial 9, 3) := by decide +kernel
theorem dX11_init_23 : decode cX11_init 23 = .ok (.putfield 16, 3) := by decide +kernel
theorem dX11_init_26 : decode cX11_init 26 = .ok (.aload_n 0, 1) := by decide +kernel
theorem dX11_init_27 : decode cX11_init 27 = .ok (.iconst 0, 1) := by decide +kernel
theorem dX11_init_28 : decode cX11_init 28 = .ok (.putfield 19, 3) := by decide +kernel
theorem dX11_init_31 : decode cX11_init 31 = .ok (.aload_n 0, 1) := by decide +kernel
theorem dX11_init_32 : decode cX11_init 32 = .ok (.new 23, 3) := by decide +kernel
theorem dX11_init_35 : decode cX11_init 35 = .ok (.dup, 1) := by decide +kernel
theorem dX11_init_36 : decode cX11_init 36 = .ok (.invokespecial 25, 3) := by decide +kernel
theorem dX11_init_39 : decode cX11_init 39 = .ok (.putfield 26, 3) := by decide +kernel
theorem dX11_init_42 : decode cX11_init 42 = .ok (.aload_n 0, 1) := by decide +kernel
theorem dX11_init_43 : decode cX11_init 43 = .ok (.new 30, 3) := by decide +kernel
theorem dX11_init_46 : decode cX11_init 46 = .ok (.dup, 1) := by decide +kernel
theorem dX11_init_47 : decode cX11_init 47 = .ok (.invokespecial 32, 3) := by decide +kernel
theorem dX11_init_50 : decode cX11_init 50 = .ok (.putfield 33, 3) := by decide +kernel
theorem dX11_init_53 : decode cX11_init 53 = .ok (.aload_n 0, 1) := by decide +kernel
theorem dX11_init_54 : decode cX11_init 54 = .ok (.new 37, 3) := by decide +kernel
theorem dX11_init_57 : decode cX11_init 57 = .ok (.dup, 1) := by decide +kernel
theorem dX11_init_58 : decode cX11_init 58 = .ok (.invokespecial 39, 3) := by decide +kernel
theorem dX11_init_61 : decode cX11_init 61 = .ok (.putfield 40, 3) := by decide +kernel
theorem dX11_init_64 : decode cX11_init 64 = .ok (.aload_n 0, 1) := by decide +kernel
theorem dX11_init_65 : decode cX11_init 65 = .ok (.new 44, 3) := by decide +kernel
theorem dX11_init_68 : decode cX11_init 68 = .ok (.dup, 1) := by decide +kernel
theorem dX11_init_69 : decode cX11_init 69 = .ok (.invokespecial 46, 3) := by decide +kernel
theorem dX11_init_72 : decode cX11_init 72 = .ok (.putfield 47, 3) := by decide +kernel
theorem dX11_init_75 : decode cX11_init 75 = .ok (.aload_n 0, 1) := by decide +kernel
theorem dX11_init_76 : decode cX11_init 76 = .ok (.new 51, 3) := by decide +kernel
theorem dX11_init_79 : decode cX11_init 79 = .ok (.dup, 1) := by decide +kernel
theorem dX11_init_80 : decode cX11_init 80 = .ok (.invokespecial 53, 3) := by decide +kernel
theorem dX11_init_83 : decode cX11_init 83 = .ok (.putfield 54, 3) := by decide +kernel
theorem dX11_init_86 : decode cX11_init 86 = .ok (.aload_n 0, 1) := by decide +kernel
theorem dX11_init_87 : decode cX11_init 87 = .ok (.new 58, 3) := by decide +kernel
theorem dX11_init_90 : decode cX11_init 90 = .ok (.dup, 1) := by decide +kernel
theorem dX11_init_91 : decode cX11_init 91 = .ok (.invokespecial 60, 3) := by decide +kernel
theorem dX11_init_94 : decode cX11_init 94 = .ok (.putfield 61, 3) := by decide +kernel
theorem dX11_init_97 : decode cX11_init 97 = .ok (.aload_n 0, 1) := by decide +kernel
theorem dX11_init_98 : decode cX11_init 98 = .ok (.new 65, 3) := by decide +kernel
theorem dX11_init_101 : decode cX11_init 101 = .ok (.dup, 1) := by decide +kernel
theorem dX11_init_102 : decode cX11_init 102 = .ok (.invokespecial 67, 3) := by decide +kernel
theorem dX11_init_105 : decode cX11_init 105 = .ok (.putfield 68, 3) := by decide +kernel
theorem dX11_init_108 : decode cX11_init 108 = .ok (.aload_n 0, 1) := by decide +kernel
theorem dX11_init_109 : decode cX11_init 109 = .ok (.bipush 60, 2) := by decide +kernel
theorem dX11_init_111 : decode cX11_init 111 = .ok (.newarray .char, 2) := by decide +kernel
theorem dX11_init_113 : decode cX11_init 113 = .ok (.putfield 72, 3) := by decide +kernel
theorem dX11_init_116 : decode cX11_init 116 = .ok (.aload_n 0, 1) := by decide +kernel
theorem dX11_init_117 : decode cX11_init 117 = .ok (.iconst 0, 1) := by decide +kernel
theorem dX11_init_118 : decode cX11_init 118 = .ok (.putfield 76, 3) := by decide +kernel
theorem dX11_init_121 : decode cX11_init 121 = .ok (.aload_n 0, 1) := by decide +kernel
theorem dX11_init_122 : decode cX11_init 122 = .ok (.iconst (-1), 1) := by decide +kernel
theorem dX11_init_123 : decode cX11_init 123 = .ok (.putfield 80, 3) := by decide +kernel
theorem dX11_init_126 : decode cX11_init 126 = .ok (.aload_n 0, 1) := by decide +kernel
theorem dX11_init_127 : decode cX11_init 127 = .ok (.new 83, 3) := by decide +kernel
theorem dX11_init_130 : decode cX11_init 130 = .ok (.dup, 1) := by decide +kernel
theorem dX11_init_131 : decode cX11_init 131 = .ok (.invokespecial 85, 3) := by decide +kernel
theorem dX11_init_134 : decode cX11_init 134 = .ok (.putfield 86, 3) := by decide +kernel
theorem dX11_init_137 : decode cX11_init 137 = .ok (.aload_n 0, 1) := by decide +kernel
theorem dX11_init_138 : decode cX11_init 138 = .ok (.iconst 0, 1) := by decide +kernel
theorem dX11_init_139 : decode cX11_init 139 = .ok (.putfield 90, 3) := by decide +kernel
theorem dX11_init_142 : decode cX11_init 142 = .ok (.return_, 1) := by decide +kernel
theorem dX11_drams_0 : decode cX11_drams 0 = .ok (.aload_n 0, 1) := by decide +kernel
theorem dX11_drams_1 : decode cX11_drams 1 = .ok (.iload_n 1, 1) := by decide +kernel
theorem dX11_drams_2 : decode cX11_drams 2 = .ok (.iload_n 2, 1) := by decide +kernel
theorem dX11_drams_3 : decode cX11_drams 3 = .ok (.invokevirtual 93, 3) := by decide +kernel
theorem dX11_drams_6 : decode cX11_drams 6 = .ok (.aload_n 0, 1) := by decide +kernel
theorem dX11_drams_7 : decode cX11_drams 7 = .ok (.invokevirtual 97, 3) := by decide +kernel
theorem dX11_drams_10 : decode cX11_drams 10 = .ok (.aload_n 0, 1) := by decide +kernel
theorem dX11_drams_11 : decode cX11_drams 11 = .ok (.getfield 26, 3) := by decide +kernel
theorem dX11_drams_14 : decode cX11_drams 14 = .ok (.aload_n 0, 1) := by decide +kernel
theorem dX11_drams_15 : decode cX11_drams 15 = .ok (.getfield 10, 3) := by decide +kernel
theorem dX11_drams_18 : decode cX11_drams 18 = .ok (.invokevirtual 100, 3) := by decide +kernel
theorem dX11_drams_21 : decode cX11_drams 21 = .ok (.aload_n 0, 1) := by decide +kernel
theorem dX11_drams_22 : decode cX11_drams 22 = .ok (.getfield 10, 3) := by decide +kernel
theorem dX11_drams_25 : decode cX11_drams 25 = .ok (.iconst 0, 1) := by decide +kernel
theorem dX11_drams_26 : decode cX11_drams 26 = .ok (.iload_n 1, 1) := by decide +kernel
theorem dX11_drams_27 : decode cX11_drams 27 = .ok (.iload_n 2, 1) := by decide +kernel
theorem dX11_drams_28 : decode cX11_drams 28 = .ok (.invokevirtual 104, 3) := by decide +kernel
theorem dX11_drams_31 : decode cX11_drams 31 = .ok (.ireturn, 1) := by decide +kernel
theorem dX11_broth_0 : decode cX11_broth 0 = .ok (.aload_n 0, 1) := by decide +kernel
theorem dX11_broth_1 : decode cX11_broth 1 = .ok (.invokevirtual 97, 3) := by decide +kernel
theorem dX11_broth_4 : decode cX11_broth 4 = .ok (.aload_n 0, 1) := by decide +kernel
theorem dX11_broth_5 : decode cX11_broth 5 = .ok (.getfield 26, 3) := by decide +kernel
theorem dX11_broth_8 : decode cX11_broth 8 = .ok (.aload_n 0, 1) := by decide +kernel
theorem dX11_broth_9 : decode cX11_broth 9 = .ok (.getfield 10, 3) := by decide +kernel
theorem dX11_broth_12 : decode cX11_broth 12 = .ok (.invokevirtual 100, 3) := by decide +kernel
theorem dX11_broth_15 : decode cX11_broth 15 = .ok (.aload_n 0, 1) := by decide +kernel
theorem dX11_broth_16 : decode cX11_broth 16 = .ok (.getfield 10, 3) := by decide +kernel
theorem dX11_broth_19 : decode cX11_broth 19 = .ok (.iconst 1, 1) := by decide +kernel
theorem dX11_broth_20 : decode cX11_broth 20 = .ok (.bipush (-99), 2) := by decide +kernel
theorem dX11_broth_22 : decode cX11_broth 22 = .ok (.bipush 99, 2) := by decide +kernel
theorem dX11_broth_24 : decode cX11_broth 24 = .ok (.invokevirtual 104, 3) := by decide +kernel
theorem dX11_broth_27 : decode cX11_broth 27 = .ok (.ireturn, 1) := by decide +kernel
theorem dX11_pour_0 : decode cX11_pour 0 = .ok (.aload_n 0, 1) := by decide +kernel
theorem dX11_pour_1 : decode cX11_pour 1 = .ok (.iload_n 1, 1) := by decide +kernel
theorem dX11_pour_2 : decode cX11_pour 2 = .ok (.invokevirtual 108, 3) := by decide +kernel
theorem dX11_pour_5 : decode cX11_pour 5 = .ok (.aload_n 0, 1) := by decide +kernel
theorem dX11_pour_6 : decode cX11_pour 6 = .ok (.iload_n 1, 1) := by decide +kernel
theorem dX11_pour_7 : decode cX11_pour 7 = .ok (.invokevirtual 112, 3) := by decide +kernel
theorem dX11_pour_10 : decode cX11_pour 10 = .ok (.aload_n 0, 1) := by decide +kernel
theorem dX11_pour_11 : decode cX11_pour 11 = .ok (.getfield 10, 3) := by decide +kernel
theorem dX11_pour_14 : decode cX11_pour 14 = .ok (.iload_n 1, 1) := by decide +kernel
theorem dX11_pour_15 : decode cX11_pour 15 = .ok (.iload_n 2, 1) := by decide +kernel
theorem dX11_pour_16 : decode cX11_pour 16 = .ok (.i2l, 1) := by decide +kernel
theorem dX11_pour_17 : decode cX11_pour 17 = .ok (.invokevirtual 115, 3) := by decide +kernel
theorem dX11_pour_20 : decode cX11_pour 20 = .ok (.ifCond .ne 22, 3) := by decide +kernel
theorem dX11_pour_23 : decode cX11_pour 23 = .ok (.aload_n 0, 1) := by decide +kernel
theorem dX11_pour_24 : decode cX11_pour 24 = .ok (.getfield 33, 3) := by decide +kernel
theorem dX11_pour_27 : decode cX11_pour 27 = .ok (.iconst 3, 1) := by decide +kernel
theorem dX11_pour_28 : decode cX11_pour 28 = .ok (.iload_n 2, 1) := by decide +kernel
theorem dX11_pour_29 : decode cX11_pour 29 = .ok (.invokevirtual 119, 3) := by decide +kernel
theorem dX11_pour_32 : decode cX11_pour 32 = .ok (.new 122, 3) := by decide +kernel
theorem dX11_pour_35 : decode cX11_pour 35 = .ok (.dup, 1) := by decide +kernel
theorem dX11_pour_36 : decode cX11_pour 36 = .ok (.ldc 124, 2) := by decide +kernel
theorem dX11_pour_38 : decode cX11_pour 38 = .ok (.invokespecial 126, 3) := by decide +kernel
theorem dX11_pour_41 : decode cX11_pour 41 = .ok (.athrow, 1) := by decide +kernel
theorem dX11_pour_42 : decode cX11_pour 42 = .ok (.aload_n 0, 1) := by decide +kernel
theorem dX11_pour_43 : decode cX11_pour 43 = .ok (.getfield 26, 3) := by decide +kernel
theorem dX11_pour_46 : decode cX11_pour 46 = .ok (.aload_n 0, 1) := by decide +kernel
theorem dX11_pour_47 : decode cX11_pour 47 = .ok (.getfield 10, 3) := by decide +kernel
theorem dX11_pour_50 : decode cX11_pour 50 = .ok (.invokevirtual 100, 3) := by decide +kernel
theorem dX11_pour_53 : decode cX11_pour 53 = .ok (.aload_n 0, 1) := by decide +kernel
theorem dX11_pour_54 : decode cX11_pour 54 = .ok (.getfield 10, 3) := by decide +kernel
theorem dX11_pour_57 : decode cX11_pour 57 = .ok (.getfield 129, 3) := by decide +kernel
theorem dX11_pour_60 : decode cX11_pour 60 = .ok (.getfield 133, 3) := by decide +kernel
theorem dX11_pour_63 : decode cX11_pour 63 = .ok (.iload_n 1, 1) := by decide +kernel
theorem dX11_pour_64 : decode cX11_pour 64 = .ok (.iaload, 1) := by decide +kernel
theorem dX11_pour_65 : decode cX11_pour 65 = .ok (.istore_n 3, 1) := by decide +kernel
theorem dX11_pour_66 : decode cX11_pour 66 = .ok (.aload_n 0, 1) := by decide +kernel
theorem dX11_pour_67 : decode cX11_pour 67 = .ok (.getfield 10, 3) := by decide +kernel
theorem dX11_pour_70 : decode cX11_pour 70 = .ok (.getfield 129, 3) := by decide +kernel
theorem dX11_pour_73 : decode cX11_pour 73 = .ok (.getfield 133, 3) := by decide +kernel
theorem dX11_pour_76 : decode cX11_pour 76 = .ok (.iload_n 1, 1) := by decide +kernel
theorem dX11_pour_77 : decode cX11_pour 77 = .ok (.iload_n 2, 1) := by decide +kernel
theorem dX11_pour_78 : decode cX11_pour 78 = .ok (.iastore, 1) := by decide +kernel
theorem dX11_pour_79 : decode cX11_pour 79 = .ok (.iload_n 3, 1) := by decide +kernel
theorem dX11_pour_80 : decode cX11_pour 80 = .ok (.ireturn, 1) := by decide +kernel
theorem dX11_ladle_0 : decode cX11_ladle 0 = .ok (.aload_n 0, 1) := by decide +kernel
theorem dX11_ladle_1 : decode cX11_ladle 1 = .ok (.iload_n 1, 1) := by decide +kernel
theorem dX11_ladle_2 : decode cX11_ladle 2 = .ok (.invokevirtual 108, 3) := by decide +kernel
theorem dX11_ladle_5 : decode cX11_ladle 5 = .ok (.iload_n 2, 1) := by decide +kernel
theorem dX11_ladle_6 : decode cX11_ladle 6 = .ok (.sipush (-9999), 3) := by decide +kernel
theorem dX11_ladle_9 : decode cX11_ladle 9 = .ok (.if_icmp .lt 10, 3) := by decide +kernel
theorem dX11_ladle_12 : decode cX11_ladle 12 = .ok (.iload_n 2, 1) := by decide +kernel
theorem dX11_ladle_13 : decode cX11_ladle 13 = .ok (.sipush 9999, 3) := by decide +kernel
theorem dX11_ladle_16 : decode cX11_ladle 16 = .ok (.if_icmp .le 13, 3) := by decide +kernel
theorem dX11_ladle_19 : decode cX11_ladle 19 = .ok (.new 139, 3) := by decide +kernel
theorem dX11_ladle_22 : decode cX11_ladle 22 = .ok (.dup, 1) := by decide +kernel
theorem dX11_ladle_23 : decode cX11_ladle 23 = .ok (.ldc 141, 2) := by decide +kernel
theorem dX11_ladle_25 : decode cX11_ladle 25 = .ok (.invokespecial 143, 3) := by decide +kernel
theorem dX11_ladle_28 : decode cX11_ladle 28 = .ok (.athrow, 1) := by decide +kernel
theorem dX11_ladle_29 : decode cX11_ladle 29 = .ok (.aload_n 0, 1) := by decide +kernel
theorem dX11_ladle_30 : decode cX11_ladle 30 = .ok (.getfield 10, 3) := by decide +kernel
theorem dX11_ladle_33 : decode cX11_ladle 33 = .ok (.getfield 144, 3) := by decide +kernel
theorem dX11_ladle_36 : decode cX11_ladle 36 = .ok (.iload_n 1, 1) := by decide +kernel
theorem dX11_ladle_37 : decode cX11_ladle 37 = .ok (.baload, 1) := by decide +kernel
theorem dX11_ladle_38 : decode cX11_ladle 38 = .ok (.ifCond .ne 22, 3) := by decide +kernel
theorem dX11_ladle_41 : decode cX11_ladle 41 = .ok (.aload_n 0, 1) := by decide +kernel
theorem dX11_ladle_42 : decode cX11_ladle 42 = .ok (.getfield 33, 3) := by decide +kernel
theorem dX11_ladle_45 : decode cX11_ladle 45 = .ok (.iconst 4, 1) := by decide +kernel
theorem dX11_ladle_46 : decode cX11_ladle 46 = .ok (.iload_n 1, 1) := by decide +kernel
theorem dX11_ladle_47 : decode cX11_ladle 47 = .ok (.invokevirtual 119, 3) := by decide +kernel
theorem dX11_ladle_50 : decode cX11_ladle 50 = .ok (.new 122, 3) := by decide +kernel
theorem dX11_ladle_53 : decode cX11_ladle 53 = .ok (.dup, 1) := by decide +kernel
theorem dX11_ladle_54 : decode cX11_ladle 54 = .ok (.ldc 148, 2) := by decide +kernel
theorem dX11_ladle_56 : decode cX11_ladle 56 = .ok (.invokespecial 126, 3) := by decide +kernel
theorem dX11_ladle_59 : decode cX11_ladle 59 = .ok (.athrow, 1) := by decide +kernel
theorem dX11_ladle_60 : decode cX11_ladle 60 = .ok (.aload_n 0, 1) := by decide +kernel
theorem dX11_ladle_61 : decode cX11_ladle 61 = .ok (.getfield 26, 3) := by decide +kernel
theorem dX11_ladle_64 : decode cX11_ladle 64 = .ok (.aload_n 0, 1) := by decide +kernel
theorem dX11_ladle_65 : decode cX11_ladle 65 = .ok (.getfield 10, 3) := by decide +kernel
theorem dX11_ladle_68 : decode cX11_ladle 68 = .ok (.invokevirtual 100, 3) := by decide +kernel
theorem dX11_ladle_71 : decode cX11_ladle 71 = .ok (.aload_n 0, 1) := by decide +kernel
theorem dX11_ladle_72 : decode cX11_ladle 72 = .ok (.getfield 10, 3) := by decide +kernel
theorem dX11_ladle_75 : decode cX11_ladle 75 = .ok (.getfield 129, 3) := by decide +kernel
theorem dX11_ladle_78 : decode cX11_ladle 78 = .ok (.getfield 150, 3) := by decide +kernel
theorem dX11_ladle_81 : decode cX11_ladle 81 = .ok (.iload_n 1, 1) := by decide +kernel
theorem dX11_ladle_82 : decode cX11_ladle 82 = .ok (.faload, 1) := by decide +kernel
theorem dX11_ladle_83 : decode cX11_ladle 83 = .ok (.invokestatic 154, 3) := by decide +kernel
theorem dX11_ladle_86 : decode cX11_ladle 86 = .ok (.istore_n 3, 1) := by decide +kernel
theorem dX11_ladle_87 : decode cX11_ladle 87 = .ok (.aload_n 0, 1) := by decide +kernel
theorem dX11_ladle_88 : decode cX11_ladle 88 = .ok (.getfield 10, 3) := by decide +kernel
theorem dX11_ladle_91 : decode cX11_ladle 91 = .ok (.getfield 129, 3) := by decide +kernel
theorem dX11_ladle_94 : decode cX11_ladle 94 = .ok (.getfield 150, 3) := by decide +kernel
theorem dX11_ladle_97 : decode cX11_ladle 97 = .ok (.iload_n 1, 1) := by decide +kernel
theorem dX11_ladle_98 : decode cX11_ladle 98 = .ok (.iload_n 2, 1) := by decide +kernel
theorem dX11_ladle_99 : decode cX11_ladle 99 = .ok (.i2f, 1) := by decide +kernel
theorem dX11_ladle_100 : decode cX11_ladle 100 = .ok (.ldc 160, 2) := by decide +kernel
theorem dX11_ladle_102 : decode cX11_ladle 102 = .ok (.fdiv, 1) := by decide +kernel
theorem dX11_ladle_103 : decode cX11_ladle 103 = .ok (.fastore, 1) := by decide +kernel
theorem dX11_ladle_104 : decode cX11_ladle 104 = .ok (.iload_n 3, 1) := by decide +kernel
theorem dX11_ladle_105 : decode cX11_ladle 105 = .ok (.ireturn, 1) := by decide +kernel
theorem dX11_bounds_0 : decode cX11_bounds 0 = .ok (.aload_n 0, 1) := by decide +kernel
theorem dX11_bounds_1 : decode cX11_bounds 1 = .ok (.iload_n 1, 1) := by decide +kernel
theorem dX11_bounds_2 : decode cX11_bounds 2 = .ok (.invokevirtual 108, 3) := by decide +kernel
theorem dX11_bounds_5 : decode cX11_bounds 5 = .ok (.aload_n 0, 1) := by decide +kernel
theorem dX11_bounds_6 : decode cX11_bounds 6 = .ok (.iload_n 2, 1) := by decide +kernel
theorem dX11_bounds_7 : decode cX11_bounds 7 = .ok (.iload_n 3, 1) := by decide +kernel
theorem dX11_bounds_8 : decode cX11_bounds 8 = .ok (.invokevirtual 93, 3) := by decide +kernel
theorem dX11_bounds_11 : decode cX11_bounds 11 = .ok (.aload_n 0, 1) := by decide +kernel
theorem dX11_bounds_12 : decode cX11_bounds 12 = .ok (.iload_n 1, 1) := by decide +kernel
theorem dX11_bounds_13 : decode cX11_bounds 13 = .ok (.invokevirtual 112, 3) := by decide +kernel
theorem dX11_bounds_16 : decode cX11_bounds 16 = .ok (.aload_n 0, 1) := by decide +kernel
theorem dX11_bounds_17 : decode cX11_bounds 17 = .ok (.getfield 10, 3) := by decide +kernel
theorem dX11_bounds_20 : decode cX11_bounds 20 = .ok (.getfield 129, 3) := by decide +kernel
theorem dX11_bounds_23 : decode cX11_bounds 23 = .ok (.getfield 133, 3) := by decide +kernel
theorem dX11_bounds_26 : decode cX11_bounds 26 = .ok (.iload_n 1, 1) := by decide +kernel
theorem dX11_bounds_27 : decode cX11_bounds 27 = .ok (.iaload, 1) := by decide +kernel
theorem dX11_bounds_28 : decode cX11_bounds 28 = .ok (.istore 4, 2) := by decide +kernel
theorem dX11_bounds_30 : decode cX11_bounds 30 = .ok (.iload 4, 2) := by decide +kernel
theorem dX11_bounds_32 : decode cX11_bounds 32 = .ok (.iload_n 2, 1) := by decide +kernel
theorem dX11_bounds_33 : decode cX11_bounds 33 = .ok (.if_icmp .lt 9, 3) := by decide +kernel
theorem dX11_bounds_36 : decode cX11_bounds 36 = .ok (.iload 4, 2) := by decide +kernel
theorem dX11_bounds_38 : decode cX11_bounds 38 = .ok (.iload_n 3, 1) := by decide +kernel
theorem dX11_bounds_39 : decode cX11_bounds 39 = .ok (.if_icmp .le 23, 3) := by decide +kernel
theorem dX11_bounds_42 : decode cX11_bounds 42 = .ok (.aload_n 0, 1) := by decide +kernel
theorem dX11_bounds_43 : decode cX11_bounds 43 = .ok (.getfield 33, 3) := by decide +kernel
theorem dX11_bounds_46 : decode cX11_bounds 46 = .ok (.iconst 3, 1) := by decide +kernel
theorem dX11_bounds_47 : decode cX11_bounds 47 = .ok (.iload 4, 2) := by decide +kernel
theorem dX11_bounds_49 : decode cX11_bounds 49 = .ok (.invokevirtual 119, 3) := by decide +kernel
theorem dX11_bounds_52 : decode cX11_bounds 52 = .ok (.new 122, 3) := by decide +kernel
theorem dX11_bounds_55 : decode cX11_bounds 55 = .ok (.dup, 1) := by decide +kernel
theorem dX11_bounds_56 : decode cX11_bounds 56 = .ok (.ldc 161, 2) := by decide +kernel
theorem dX11_bounds_58 : decode cX11_bounds 58 = .ok (.invokespecial 126, 3) := by decide +kernel
theorem dX11_bounds_61 : decode cX11_bounds 61 = .ok (.athrow, 1) := by decide +kernel
theorem dX11_bounds_62 : decode cX11_bounds 62 = .ok (.aload_n 0, 1) := by decide +kernel
theorem dX11_bounds_63 : decode cX11_bounds 63 = .ok (.getfield 26, 3) := by decide +kernel
theorem dX11_bounds_66 : decode cX11_bounds 66 = .ok (.aload_n 0, 1) := by decide +kernel
theorem dX11_bounds_67 : decode cX11_bounds 67 = .ok (.getfield 10, 3) := by decide +kernel
theorem dX11_bounds_70 : decode cX11_bounds 70 = .ok (.invokevirtual 100, 3) := by decide +kernel
theorem dX11_bounds_73 : decode cX11_bounds 73 = .ok (.aload_n 0, 1) := by decide +kernel
theorem dX11_bounds_74 : decode cX11_bounds 74 = .ok (.invokevirtual 163, 3) := by decide +kernel
theorem dX11_bounds_77 : decode cX11_bounds 77 = .ok (.istore 5, 2) := by decide +kernel
theorem dX11_bounds_79 : decode cX11_bounds 79 = .ok (.aload_n 0, 1) := by decide +kernel
theorem dX11_bounds_80 : decode cX11_bounds 80 = .ok (.getfield 10, 3) := by decide +kernel
theorem dX11_bounds_83 : decode cX11_bounds 83 = .ok (.getfield 167, 3) := by decide +kernel
theorem dX11_bounds_86 : decode cX11_bounds 86 = .ok (.iload_n 1, 1) := by decide +kernel
theorem dX11_bounds_87 : decode cX11_bounds 87 = .ok (.iload_n 2, 1) := by decide +kernel
theorem dX11_bounds_88 : decode cX11_bounds 88 = .ok (.iastore, 1) := by decide +kernel
theorem dX11_bounds_89 : decode cX11_bounds 89 = .ok (.aload_n 0, 1) := by decide +kernel
theorem dX11_bounds_90 : decode cX11_bounds 90 = .ok (.getfield 10, 3) := by decide +kernel
theorem dX11_bounds_93 : decode cX11_bounds 93 = .ok (.getfield 170, 3) := by decide +kernel
theorem dX11_bounds_96 : decode cX11_bounds 96 = .ok (.iload_n 1, 1) := by decide +kernel
theorem dX11_bounds_97 : decode cX11_bounds 97 = .ok (.iload_n 3, 1) := by decide +kernel
theorem dX11_bounds_98 : decode cX11_bounds 98 = .ok (.iastore, 1) := by decide +kernel
theorem dX11_bounds_99 : decode cX11_bounds 99 = .ok (.aload_n 0, 1) := by decide +kernel
theorem dX11_bounds_100 : decode cX11_bounds 100 = .ok (.invokevirtual 163, 3) := by decide +kernel
theorem dX11_bounds_103 : decode cX11_bounds 103 = .ok (.iload 5, 2) := by decide +kernel
theorem dX11_bounds_105 : decode cX11_bounds 105 = .ok (.isub, 1) := by decide +kernel
theorem dX11_bounds_106 : decode cX11_bounds 106 = .ok (.ireturn, 1) := by decide +kernel
theorem dX11_write_0 : decode cX11_write 0 = .ok (.aload_n 0, 1) := by decide +kernel
theorem dX11_write_1 : decode cX11_write 1 = .ok (.getfield 76, 3) := by decide +kernel
theorem dX11_write_4 : decode cX11_write 4 = .ok (.istore_n 1, 1) := by decide +kernel
theorem dX11_write_5 : decode cX11_write 5 = .ok (.aload_n 0, 1) := by decide +kernel
theorem dX11_write_6 : decode cX11_write 6 = .ok (.iconst 0, 1) := by decide +kernel
theorem dX11_write_7 : decode cX11_write 7 = .ok (.putfield 76, 3) := by decide +kernel
theorem dX11_write_10 : decode cX11_write 10 = .ok (.aload_n 0, 1) := by decide +kernel
theorem dX11_write_11 : decode cX11_write 11 = .ok (.getfield 40, 3) := by decide +kernel
theorem dX11_write_14 : decode cX11_write 14 = .ok (.aload_n 0, 1) := by decide +kernel
theorem dX11_write_15 : decode cX11_write 15 = .ok (.getfield 72, 3) := by decide +kernel
theorem dX11_write_18 : decode cX11_write 18 = .ok (.iload_n 1, 1) := by decide +kernel
theorem dX11_write_19 : decode cX11_write 19 = .ok (.invokevirtual 173, 3) := by decide +kernel
theorem dX11_write_22 : decode cX11_write 22 = .ok (.istore_n 2, 1) := by decide +kernel
theorem dX11_write_23 : decode cX11_write 23 = .ok (.iload_n 2, 1) := by decide +kernel
theorem dX11_write_24 : decode cX11_write 24 = .ok (.iconst (-1), 1) := by decide +kernel
theorem dX11_write_25 : decode cX11_write 25 = .ok (.if_icmp .eq 18, 3) := by decide +kernel
theorem dX11_write_28 : decode cX11_write 28 = .ok (.aload_n 0, 1) := by decide +kernel
theorem dX11_write_29 : decode cX11_write 29 = .ok (.iload_n 2, 1) := by decide +kernel
theorem dX11_write_30 : decode cX11_write 30 = .ok (.putfield 80, 3) := by decide +kernel
theorem dX11_write_33 : decode cX11_write 33 = .ok (.new 139, 3) := by decide +kernel
theorem dX11_write_36 : decode cX11_write 36 = .ok (.dup, 1) := by decide +kernel
theorem dX11_write_37 : decode cX11_write 37 = .ok (.ldc 177, 2) := by decide +kernel
theorem dX11_write_39 : decode cX11_write 39 = .ok (.invokespecial 143, 3) := by decide +kernel
theorem dX11_write_42 : decode cX11_write 42 = .ok (.athrow, 1) := by decide +kernel
theorem dX11_write_43 : decode cX11_write 43 = .ok (.aload_n 0, 1) := by decide +kernel
theorem dX11_write_44 : decode cX11_write 44 = .ok (.getfield 10, 3) := by decide +kernel
theorem dX11_write_47 : decode cX11_write 47 = .ok (.getfield 179, 3) := by decide +kernel
theorem dX11_write_50 : decode cX11_write 50 = .ok (.iconst 4, 1) := by decide +kernel
theorem dX11_write_51 : decode cX11_write 51 = .ok (.if_icmp .lt 28, 3) := by decide +kernel
theorem dX11_write_54 : decode cX11_write 54 = .ok (.aload_n 0, 1) := by decide +kernel
theorem dX11_write_55 : decode cX11_write 55 = .ok (.getfield 33, 3) := by decide +kernel
theorem dX11_write_58 : decode cX11_write 58 = .ok (.iconst 1, 1) := by decide +kernel
theorem dX11_write_59 : decode cX11_write 59 = .ok (.aload_n 0, 1) := by decide +kernel
theorem dX11_write_60 : decode cX11_write 60 = .ok (.getfield 10, 3) := by decide +kernel
theorem dX11_write_63 : decode cX11_write 63 = .ok (.getfield 179, 3) := by decide +kernel
theorem dX11_write_66 : decode cX11_write 66 = .ok (.invokevirtual 119, 3) := by decide +kernel
theorem dX11_write_69 : decode cX11_write 69 = .ok (.new 122, 3) := by decide +kernel
theorem dX11_write_72 : decode cX11_write 72 = .ok (.dup, 1) := by decide +kernel
theorem dX11_write_73 : decode cX11_write 73 = .ok (.ldc 182, 2) := by decide +kernel
theorem dX11_write_75 : decode cX11_write 75 = .ok (.invokespecial 126, 3) := by decide +kernel
theorem dX11_write_78 : decode cX11_write 78 = .ok (.athrow, 1) := by decide +kernel
theorem dX11_write_79 : decode cX11_write 79 = .ok (.aload_n 0, 1) := by decide +kernel
theorem dX11_write_80 : decode cX11_write 80 = .ok (.getfield 40, 3) := by decide +kernel
theorem dX11_write_83 : decode cX11_write 83 = .ok (.aload_n 0, 1) := by decide +kernel
theorem dX11_write_84 : decode cX11_write 84 = .ok (.getfield 10, 3) := by decide +kernel
theorem dX11_write_87 : decode cX11_write 87 = .ok (.getfield 184, 3) := by decide +kernel
theorem dX11_write_90 : decode cX11_write 90 = .ok (.invokevirtual 187, 3) := by decide +kernel
theorem dX11_write_93 : decode cX11_write 93 = .ok (.istore_n 3, 1) := by decide +kernel
theorem dX11_write_94 : decode cX11_write 94 = .ok (.iload_n 3, 1) := by decide +kernel
theorem dX11_write_95 : decode cX11_write 95 = .ok (.iconst (-1), 1) := by decide +kernel
theorem dX11_write_96 : decode cX11_write 96 = .ok (.if_icmp .eq 22, 3) := by decide +kernel
theorem dX11_write_99 : decode cX11_write 99 = .ok (.aload_n 0, 1) := by decide +kernel
theorem dX11_write_100 : decode cX11_write 100 = .ok (.getfield 33, 3) := by decide +kernel
theorem dX11_write_103 : decode cX11_write 103 = .ok (.iconst 5, 1) := by decide +kernel
theorem dX11_write_104 : decode cX11_write 104 = .ok (.iload_n 3, 1) := by decide +kernel
theorem dX11_write_105 : decode cX11_write 105 = .ok (.invokevirtual 119, 3) := by decide +kernel
theorem dX11_write_108 : decode cX11_write 108 = .ok (.new 122, 3) := by decide +kernel
theorem dX11_write_111 : decode cX11_write 111 = .ok (.dup, 1) := by decide +kernel
theorem dX11_write_112 : decode cX11_write 112 = .ok (.ldc 191, 2) := by decide +kernel
theorem dX11_write_114 : decode cX11_write 114 = .ok (.invokespecial 126, 3) := by decide +kernel
theorem dX11_write_117 : decode cX11_write 117 = .ok (.athrow, 1) := by decide +kernel
theorem dX11_write_118 : decode cX11_write 118 = .ok (.aload_n 0, 1) := by decide +kernel
theorem dX11_write_119 : decode cX11_write 119 = .ok (.getfield 26, 3) := by decide +kernel
theorem dX11_write_122 : decode cX11_write 122 = .ok (.aload_n 0, 1) := by decide +kernel
theorem dX11_write_123 : decode cX11_write 123 = .ok (.getfield 10, 3) := by decide +kernel
theorem dX11_write_126 : decode cX11_write 126 = .ok (.invokevirtual 100, 3) := by decide +kernel
theorem dX11_write_129 : decode cX11_write 129 = .ok (.aload_n 0, 1) := by decide +kernel
theorem dX11_write_130 : decode cX11_write 130 = .ok (.getfield 10, 3) := by decide +kernel
theorem dX11_write_133 : decode cX11_write 133 = .ok (.new 193, 3) := by decide +kernel
theorem dX11_write_136 : decode cX11_write 136 = .ok (.dup, 1) := by decide +kernel
theorem dX11_write_137 : decode cX11_write 137 = .ok (.aload_n 0, 1) := by decide +kernel
theorem dX11_write_138 : decode cX11_write 138 = .ok (.getfield 40, 3) := by decide +kernel
theorem dX11_write_141 : decode cX11_write 141 = .ok (.aload_n 0, 1) := by decide +kernel
theorem dX11_write_142 : decode cX11_write 142 = .ok (.getfield 72, 3) := by decide +kernel
theorem dX11_write_145 : decode cX11_write 145 = .ok (.iload_n 1, 1) := by decide +kernel
theorem dX11_write_146 : decode cX11_write 146 = .ok (.invokespecial 195, 3) := by decide +kernel
theorem dX11_write_149 : decode cX11_write 149 = .ok (.invokevirtual 198, 3) := by decide +kernel
theorem dX11_write_152 : decode cX11_write 152 = .ok (.ireturn, 1) := by decide +kernel
theorem dX11_erase_0 : decode cX11_erase 0 = .ok (.aload_n 0, 1) := by decide +kernel
theorem dX11_erase_1 : decode cX11_erase 1 = .ok (.iload_n 1, 1) := by decide +kernel
theorem dX11_erase_2 : decode cX11_erase 2 = .ok (.invokevirtual 202, 3) := by decide +kernel
theorem dX11_erase_5 : decode cX11_erase 5 = .ok (.pop, 1) := by decide +kernel
theorem dX11_erase_6 : decode cX11_erase 6 = .ok (.aload_n 0, 1) := by decide +kernel
theorem dX11_erase_7 : decode cX11_erase 7 = .ok (.getfield 26, 3) := by decide +kernel
theorem dX11_erase_10 : decode cX11_erase 10 = .ok (.aload_n 0, 1) := by decide +kernel
theorem dX11_erase_11 : decode cX11_erase 11 = .ok (.getfield 10, 3) := by decide +kernel
theorem dX11_erase_14 : decode cX11_erase 14 = .ok (.invokevirtual 100, 3) := by decide +kernel
theorem dX11_erase_17 : decode cX11_erase 17 = .ok (.aload_n 0, 1) := by decide +kernel
theorem dX11_erase_18 : decode cX11_erase 18 = .ok (.getfield 10, 3) := by decide +kernel
theorem dX11_erase_21 : decode cX11_erase 21 = .ok (.iload_n 1, 1) := by decide +kernel
theorem dX11_erase_22 : decode cX11_erase 22 = .ok (.invokevirtual 206, 3) := by decide +kernel
theorem dX11_erase_25 : decode cX11_erase 25 = .ok (.aload_n 0, 1) := by decide +kernel
theorem dX11_erase_26 : decode cX11_erase 26 = .ok (.getfield 10, 3) := by decide +kernel
theorem dX11_erase_29 : decode cX11_erase 29 = .ok (.getfield 179, 3) := by decide +kernel
theorem dX11_erase_32 : decode cX11_erase 32 = .ok (.ireturn, 1) := by decide +kernel
theorem dX11_cook_0 : decode cX11_cook 0 = .ok (.aload_n 0, 1) := by decide +kernel
theorem dX11_cook_1 : decode cX11_cook 1 = .ok (.iload_n 1, 1) := by decide +kernel
theorem dX11_cook_2 : decode cX11_cook 2 = .ok (.invokevirtual 202, 3) := by decide +kernel
theorem dX11_cook_5 : decode cX11_cook 5 = .ok (.astore_n 2, 1) := by decide +kernel
theorem dX11_cook_6 : decode cX11_cook 6 = .ok (.aload_n 0, 1) := by decide +kernel
theorem dX11_cook_7 : decode cX11_cook 7 = .ok (.getfield 61, 3) := by decide +kernel
theorem dX11_cook_10 : decode cX11_cook 10 = .ok (.aload_n 0, 1) := by decide +kernel
theorem dX11_cook_11 : decode cX11_cook 11 = .ok (.getfield 10, 3) := by decide +kernel
theorem dX11_cook_14 : decode cX11_cook 14 = .ok (.invokevirtual 209, 3) := by decide +kernel
theorem dX11_cook_17 : decode cX11_cook 17 = .ok (.aload_n 0, 1) := by decide +kernel
theorem dX11_cook_18 : decode cX11_cook 18 = .ok (.getfield 61, 3) := by decide +kernel
theorem dX11_cook_21 : decode cX11_cook 21 = .ok (.aload_n 2, 1) := by decide +kernel
theorem dX11_cook_22 : decode cX11_cook 22 = .ok (.aload_n 0, 1) := by decide +kernel
theorem dX11_cook_23 : decode cX11_cook 23 = .ok (.getfield 10, 3) := by decide +kernel
theorem dX11_cook_26 : decode cX11_cook 26 = .ok (.invokevirtual 212, 3) := by decide +kernel
theorem dX11_cook_29 : decode cX11_cook 29 = .ok (.ifCond .ne 53, 3) := by decide +kernel
theorem dX11_cook_32 : decode cX11_cook 32 = .ok (.aload_n 0, 1) := by decide +kernel
theorem dX11_cook_33 : decode cX11_cook 33 = .ok (.dup, 1) := by decide +kernel
theorem dX11_cook_34 : decode cX11_cook 34 = .ok (.getfield 90, 3) := by decide +kernel
theorem dX11_cook_37 : decode cX11_cook 37 = .ok (.iconst 1, 1) := by decide +kernel
theorem dX11_cook_38 : decode cX11_cook 38 = .ok (.iadd, 1) := by decide +kernel
theorem dX11_cook_39 : decode cX11_cook 39 = .ok (.putfield 90, 3) := by decide +kernel
theorem dX11_cook_42 : decode cX11_cook 42 = .ok (.aload_n 0, 1) := by decide +kernel
theorem dX11_cook_43 : decode cX11_cook 43 = .ok (.getfield 33, 3) := by decide +kernel
theorem dX11_cook_46 : decode cX11_cook 46 = .ok (.bipush 6, 2) := by decide +kernel
theorem dX11_cook_48 : decode cX11_cook 48 = .ok (.aload_n 0, 1) := by decide +kernel
theorem dX11_cook_49 : decode cX11_cook 49 = .ok (.getfield 61, 3) := by decide +kernel
theorem dX11_cook_52 : decode cX11_cook 52 = .ok (.getfield 216, 3) := by decide +kernel
theorem dX11_cook_55 : decode cX11_cook 55 = .ok (.aload_n 0, 1) := by decide +kernel
theorem dX11_cook_56 : decode cX11_cook 56 = .ok (.getfield 61, 3) := by decide +kernel
theorem dX11_cook_59 : decode cX11_cook 59 = .ok (.getfield 219, 3) := by decide +kernel
theorem dX11_cook_62 : decode cX11_cook 62 = .ok (.aload_n 0, 1) := by decide +kernel
theorem dX11_cook_63 : decode cX11_cook 63 = .ok (.getfield 61, 3) := by decide +kernel
theorem dX11_cook_66 : decode cX11_cook 66 = .ok (.getfield 222, 3) := by decide +kernel
theorem dX11_cook_69 : decode cX11_cook 69 = .ok (.invokevirtual 225, 3) := by decide +kernel
theorem dX11_cook_72 : decode cX11_cook 72 = .ok (.new 122, 3) := by decide +kernel
theorem dX11_cook_75 : decode cX11_cook 75 = .ok (.dup, 1) := by decide +kernel
theorem dX11_cook_76 : decode cX11_cook 76 = .ok (.ldc 229, 2) := by decide +kernel
theorem dX11_cook_78 : decode cX11_cook 78 = .ok (.invokespecial 126, 3) := by decide +kernel
theorem dX11_cook_81 : decode cX11_cook 81 = .ok (.athrow, 1) := by decide +kernel
theorem dX11_cook_82 : decode cX11_cook 82 = .ok (.aload_n 0, 1) := by decide +kernel
theorem dX11_cook_83 : decode cX11_cook 83 = .ok (.getfield 26, 3) := by decide +kernel
theorem dX11_cook_86 : decode cX11_cook 86 = .ok (.aload_n 0, 1) := by decide +kernel
theorem dX11_cook_87 : decode cX11_cook 87 = .ok (.getfield 10, 3) := by decide +kernel
theorem dX11_cook_90 : decode cX11_cook 90 = .ok (.invokevirtual 100, 3) := by decide +kernel
theorem dX11_cook_93 : decode cX11_cook 93 = .ok (.aload_n 0, 1) := by decide +kernel
theorem dX11_cook_94 : decode cX11_cook 94 = .ok (.getfield 10, 3) := by decide +kernel
theorem dX11_cook_97 : decode cX11_cook 97 = .ok (.iload_n 1, 1) := by decide +kernel
theorem dX11_cook_98 : decode cX11_cook 98 = .ok (.aload_n 0, 1) := by decide +kernel
theorem dX11_cook_99 : decode cX11_cook 99 = .ok (.getfield 61, 3) := by decide +kernel
theorem dX11_cook_102 : decode cX11_cook 102 = .ok (.invokevirtual 231, 3) := by decide +kernel
theorem dX11_cook_105 : decode cX11_cook 105 = .ok (.aload_n 0, 1) := by decide +kernel
theorem dX11_cook_106 : decode cX11_cook 106 = .ok (.getfield 61, 3) := by decide +kernel
theorem dX11_cook_109 : decode cX11_cook 109 = .ok (.invokevirtual 235, 3) := by decide +kernel
theorem dX11_cook_112 : decode cX11_cook 112 = .ok (.ireturn, 1) := by decide +kernel
theorem dX11_cookAll_0 : decode cX11_cookAll 0 = .ok (.aload_n 0, 1) := by decide +kernel
theorem dX11_cookAll_1 : decode cX11_cookAll 1 = .ok (.invokevirtual 163, 3) := by decide +kernel
theorem dX11_cookAll_4 : decode cX11_cookAll 4 = .ok (.istore_n 1, 1) := by decide +kernel
theorem dX11_cookAll_5 : decode cX11_cookAll 5 = .ok (.iload_n 1, 1) := by decide +kernel
theorem dX11_cookAll_6 : decode cX11_cookAll 6 = .ok (.ifCond .ne 29, 3) := by decide +kernel
theorem dX11_cookAll_9 : decode cX11_cookAll 9 = .ok (.aload_n 0, 1) := by decide +kernel
theorem dX11_cookAll_10 : decode cX11_cookAll 10 = .ok (.getfield 33, 3) := by decide +kernel
theorem dX11_cookAll_13 : decode cX11_cookAll 13 = .ok (.bipush 9, 2) := by decide +kernel
theorem dX11_cookAll_15 : decode cX11_cookAll 15 = .ok (.aload_n 0, 1) := by decide +kernel
theorem dX11_cookAll_16 : decode cX11_cookAll 16 = .ok (.getfield 10, 3) := by decide +kernel
theorem dX11_cookAll_19 : decode cX11_cookAll 19 = .ok (.getfield 179, 3) := by decide +kernel
theorem dX11_cookAll_22 : decode cX11_cookAll 22 = .ok (.invokevirtual 119, 3) := by decide +kernel
theorem dX11_cookAll_25 : decode cX11_cookAll 25 = .ok (.new 122, 3) := by decide +kernel
theorem dX11_cookAll_28 : decode cX11_cookAll 28 = .ok (.dup, 1) := by decide +kernel
theorem dX11_cookAll_29 : decode cX11_cookAll 29 = .ok (.ldc 238, 2) := by decide +kernel
theorem dX11_cookAll_31 : decode cX11_cookAll 31 = .ok (.invokespecial 126, 3) := by decide +kernel
theorem dX11_cookAll_34 : decode cX11_cookAll 34 = .ok (.athrow, 1) := by decide +kernel
theorem dX11_cookAll_35 : decode cX11_cookAll 35 = .ok (.aload_n 0, 1) := by decide +kernel
theorem dX11_cookAll_36 : decode cX11_cookAll 36 = .ok (.getfield 26, 3) := by decide +kernel
theorem dX11_cookAll_39 : decode cX11_cookAll 39 = .ok (.aload_n 0, 1) := by decide +kernel
theorem dX11_cookAll_40 : decode cX11_cookAll 40 = .ok (.getfield 10, 3) := by decide +kernel
theorem dX11_cookAll_43 : decode cX11_cookAll 43 = .ok (.invokevirtual 100, 3) := by decide +kernel
theorem dX11_cookAll_46 : decode cX11_cookAll 46 = .ok (.iconst 0, 1) := by decide +kernel
theorem dX11_cookAll_47 : decode cX11_cookAll 47 = .ok (.istore_n 2, 1) := by decide +kernel
theorem dX11_cookAll_48 : decode cX11_cookAll 48 = .ok (.iload_n 2, 1) := by decide +kernel
theorem dX11_cookAll_49 : decode cX11_cookAll 49 = .ok (.aload_n 0, 1) := by decide +kernel
theorem dX11_cookAll_50 : decode cX11_cookAll 50 = .ok (.getfield 10, 3) := by decide +kernel
theorem dX11_cookAll_53 : decode cX11_cookAll 53 = .ok (.getfield 179, 3) := by decide +kernel
theorem dX11_cookAll_56 : decode cX11_cookAll 56 = .ok (.if_icmp .ge 75, 3) := by decide +kernel
theorem dX11_cookAll_59 : decode cX11_cookAll 59 = .ok (.aload_n 0, 1) := by decide +kernel
theorem dX11_cookAll_60 : decode cX11_cookAll 60 = .ok (.getfield 10, 3) := by decide +kernel
theorem dX11_cookAll_63 : decode cX11_cookAll 63 = .ok (.iload_n 2, 1) := by decide +kernel
theorem dX11_cookAll_64 : decode cX11_cookAll 64 = .ok (.invokevirtual 240, 3) := by decide +kernel
theorem dX11_cookAll_67 : decode cX11_cookAll 67 = .ok (.astore_n 3, 1) := by decide +kernel
theorem dX11_cookAll_68 : decode cX11_cookAll 68 = .ok (.aload_n 3, 1) := by decide +kernel
theorem dX11_cookAll_69 : decode cX11_cookAll 69 = .ok (.ifnull 56, 3) := by decide +kernel
theorem dX11_cookAll_72 : decode cX11_cookAll 72 = .ok (.aload_n 0, 1) := by decide +kernel
theorem dX11_cookAll_73 : decode cX11_cookAll 73 = .ok (.getfield 47, 3) := by decide +kernel
theorem dX11_cookAll_76 : decode cX11_cookAll 76 = .ok (.aload_n 3, 1) := by decide +kernel
theorem dX11_cookAll_77 : decode cX11_cookAll 77 = .ok (.aload_n 0, 1) := by decide +kernel
theorem dX11_cookAll_78 : decode cX11_cookAll 78 = .ok (.getfield 10, 3) := by decide +kernel
theorem dX11_cookAll_81 : decode cX11_cookAll 81 = .ok (.invokevirtual 243, 3) := by decide +kernel
theorem dX11_cookAll_84 : decode cX11_cookAll 84 = .ok (.ifCond .eq 41, 3) := by decide +kernel
theorem dX11_cookAll_87 : decode cX11_cookAll 87 = .ok (.aload_n 0, 1) := by decide +kernel
theorem dX11_cookAll_88 : decode cX11_cookAll 88 = .ok (.getfield 61, 3) := by decide +kernel
theorem dX11_cookAll_91 : decode cX11_cookAll 91 = .ok (.aload_n 0, 1) := by decide +kernel
theorem dX11_cookAll_92 : decode cX11_cookAll 92 = .ok (.getfield 10, 3) := by decide +kernel
theorem dX11_cookAll_95 : decode cX11_cookAll 95 = .ok (.invokevirtual 209, 3) := by decide +kernel
theorem dX11_cookAll_98 : decode cX11_cookAll 98 = .ok (.aload_n 0, 1) := by decide +kernel
theorem dX11_cookAll_99 : decode cX11_cookAll 99 = .ok (.getfield 61, 3) := by decide +kernel
theorem dX11_cookAll_102 : decode cX11_cookAll 102 = .ok (.aload_n 3, 1) := by decide +kernel
theorem dX11_cookAll_103 : decode cX11_cookAll 103 = .ok (.aload_n 0, 1) := by decide +kernel
theorem dX11_cookAll_104 : decode cX11_cookAll 104 = .ok (.getfield 10, 3) := by decide +kernel
theorem dX11_cookAll_107 : decode cX11_cookAll 107 = .ok (.invokevirtual 212, 3) := by decide +kernel
theorem dX11_cookAll_110 : decode cX11_cookAll 110 = .ok (.ifCond .eq 15, 3) := by decide +kernel
theorem dX11_cookAll_113 : decode cX11_cookAll 113 = .ok (.aload_n 0, 1) := by decide +kernel
theorem dX11_cookAll_114 : decode cX11_cookAll 114 = .ok (.getfield 10, 3) := by decide +kernel
theorem dX11_cookAll_117 : decode cX11_cookAll 117 = .ok (.iload_n 2, 1) := by decide +kernel
theorem dX11_cookAll_118 : decode cX11_cookAll 118 = .ok (.aload_n 0, 1) := by decide +kernel
theorem dX11_cookAll_119 : decode cX11_cookAll 119 = .ok (.getfield 61, 3) := by decide +kernel
theorem dX11_cookAll_122 : decode cX11_cookAll 122 = .ok (.invokevirtual 231, 3) := by decide +kernel
theorem dX11_cookAll_125 : decode cX11_cookAll 125 = .ok (.iinc 2 1, 3) := by decide +kernel
theorem dX11_cookAll_128 : decode cX11_cookAll 128 = .ok (.goto (-80), 3) := by decide +kernel
theorem dX11_cookAll_131 : decode cX11_cookAll 131 = .ok (.iload_n 1, 1) := by decide +kernel
theorem dX11_cookAll_132 : decode cX11_cookAll 132 = .ok (.ireturn, 1) := by decide +kernel
theorem dX11_cauldronOf_0 : decode cX11_cauldronOf 0 = .ok (.aload_n 0, 1) := by decide +kernel
theorem dX11_cauldronOf_1 : decode cX11_cauldronOf 1 = .ok (.iload_n 1, 1) := by decide +kernel
theorem dX11_cauldronOf_2 : decode cX11_cauldronOf 2 = .ok (.invokevirtual 108, 3) := by decide +kernel
theorem dX11_cauldronOf_5 : decode cX11_cauldronOf 5 = .ok (.iload_n 2, 1) := by decide +kernel
theorem dX11_cauldronOf_6 : decode cX11_cauldronOf 6 = .ok (.tableswitch 120 0 6 #[42, 60, 70, 80, 89, 99, 109], 42) := by decide +kernel
theorem dX11_cauldronOf_48 : decode cX11_cauldronOf 48 = .ok (.aload_n 0, 1) := by decide +kernel
theorem dX11_cauldronOf_49 : decode cX11_cauldronOf 49 = .ok (.getfield 10, 3) := by decide +kernel
theorem dX11_cauldronOf_52 : decode cX11_cauldronOf 52 = .ok (.getfield 144, 3) := by decide +kernel
theorem dX11_cauldronOf_55 : decode cX11_cauldronOf 55 = .ok (.iload_n 1, 1) := by decide +kernel
theorem dX11_cauldronOf_56 : decode cX11_cauldronOf 56 = .ok (.baload, 1) := by decide +kernel
theorem dX11_cauldronOf_57 : decode cX11_cauldronOf 57 = .ok (.ifCond .eq 7, 3) := by decide +kernel
theorem dX11_cauldronOf_60 : decode cX11_cauldronOf 60 = .ok (.iconst 1, 1) := by decide +kernel
theorem dX11_cauldronOf_61 : decode cX11_cauldronOf 61 = .ok (.goto 4, 3) := by decide +kernel
theorem dX11_cauldronOf_64 : decode cX11_cauldronOf 64 = .ok (.iconst 0, 1) := by decide +kernel
theorem dX11_cauldronOf_65 : decode cX11_cauldronOf 65 = .ok (.ireturn, 1) := by decide +kernel
theorem dX11_cauldronOf_66 : decode cX11_cauldronOf 66 = .ok (.aload_n 0, 1) := by decide +kernel
theorem dX11_cauldronOf_67 : decode cX11_cauldronOf 67 = .ok (.getfield 10, 3) := by decide +kernel
theorem dX11_cauldronOf_70 : decode cX11_cauldronOf 70 = .ok (.getfield 167, 3) := by decide +kernel
theorem dX11_cauldronOf_73 : decode cX11_cauldronOf 73 = .ok (.iload_n 1, 1) := by decide +kernel
theorem dX11_cauldronOf_74 : decode cX11_cauldronOf 74 = .ok (.iaload, 1) := by decide +kernel
theorem dX11_cauldronOf_75 : decode cX11_cauldronOf 75 = .ok (.ireturn, 1) := by decide +kernel
theorem dX11_cauldronOf_76 : decode cX11_cauldronOf 76 = .ok (.aload_n 0, 1) := by decide +kernel
theorem dX11_cauldronOf_77 : decode cX11_cauldronOf 77 = .ok (.getfield 10, 3) := by decide +kernel
theorem dX11_cauldronOf_80 : decode cX11_cauldronOf 80 = .ok (.getfield 170, 3) := by decide +kernel
theorem dX11_cauldronOf_83 : decode cX11_cauldronOf 83 = .ok (.iload_n 1, 1) := by decide +kernel
theorem dX11_cauldronOf_84 : decode cX11_cauldronOf 84 = .ok (.iaload, 1) := by decide +kernel
theorem dX11_cauldronOf_85 : decode cX11_cauldronOf 85 = .ok (.ireturn, 1) := by decide +kernel
theorem dX11_cauldronOf_86 : decode cX11_cauldronOf 86 = .ok (.aload_n 0, 1) := by decide +kernel
theorem dX11_cauldronOf_87 : decode cX11_cauldronOf 87 = .ok (.getfield 10, 3) := by decide +kernel
theorem dX11_cauldronOf_90 : decode cX11_cauldronOf 90 = .ok (.iload_n 1, 1) := by decide +kernel
theorem dX11_cauldronOf_91 : decode cX11_cauldronOf 91 = .ok (.invokevirtual 246, 3) := by decide +kernel
theorem dX11_cauldronOf_94 : decode cX11_cauldronOf 94 = .ok (.ireturn, 1) := by decide +kernel
theorem dX11_cauldronOf_95 : decode cX11_cauldronOf 95 = .ok (.aload_n 0, 1) := by decide +kernel
theorem dX11_cauldronOf_96 : decode cX11_cauldronOf 96 = .ok (.getfield 10, 3) := by decide +kernel
theorem dX11_cauldronOf_99 : decode cX11_cauldronOf 99 = .ok (.getfield 249, 3) := by decide +kernel
theorem dX11_cauldronOf_102 : decode cX11_cauldronOf 102 = .ok (.iload_n 1, 1) := by decide +kernel
theorem dX11_cauldronOf_103 : decode cX11_cauldronOf 103 = .ok (.iaload, 1) := by decide +kernel
theorem dX11_cauldronOf_104 : decode cX11_cauldronOf 104 = .ok (.ireturn, 1) := by decide +kernel
theorem dX11_cauldronOf_105 : decode cX11_cauldronOf 105 = .ok (.aload_n 0, 1) := by decide +kernel
theorem dX11_cauldronOf_106 : decode cX11_cauldronOf 106 = .ok (.getfield 10, 3) := by decide +kernel
theorem dX11_cauldronOf_109 : decode cX11_cauldronOf 109 = .ok (.iconst 0, 1) := by decide +kernel
theorem dX11_cauldronOf_110 : decode cX11_cauldronOf 110 = .ok (.iload_n 1, 1) := by decide +kernel
theorem dX11_cauldronOf_111 : decode cX11_cauldronOf 111 = .ok (.invokevirtual 252, 3) := by decide +kernel
theorem dX11_cauldronOf_114 : decode cX11_cauldronOf 114 = .ok (.ireturn, 1) := by decide +kernel
theorem dX11_cauldronOf_115 : decode cX11_cauldronOf 115 = .ok (.aload_n 0, 1) := by decide +kernel
theorem dX11_cauldronOf_116 : decode cX11_cauldronOf 116 = .ok (.getfield 10, 3) := by decide +kernel
theorem dX11_cauldronOf_119 : decode cX11_cauldronOf 119 = .ok (.bipush 7, 2) := by decide +kernel
theorem dX11_cauldronOf_121 : decode cX11_cauldronOf 121 = .ok (.iload_n 1, 1) := by decide +kernel
theorem dX11_cauldronOf_122 : decode cX11_cauldronOf 122 = .ok (.invokevirtual 252, 3) := by decide +kernel
theorem dX11_cauldronOf_125 : decode cX11_cauldronOf 125 = .ok (.ireturn, 1) := by decide +kernel
theorem dX11_cauldronOf_126 : decode cX11_cauldronOf 126 = .ok (.new 139, 3) := by decide +kernel
theorem dX11_cauldronOf_129 : decode cX11_cauldronOf 129 = .ok (.dup, 1) := by decide +kernel
theorem dX11_cauldronOf_130 : decode cX11_cauldronOf 130 = .ok (.ldc_w 256, 3) := by decide +kernel
theorem dX11_cauldronOf_133 : decode cX11_cauldronOf 133 = .ok (.invokespecial 143, 3) := by decide +kernel
theorem dX11_cauldronOf_136 : decode cX11_cauldronOf 136 = .ok (.athrow, 1) := by decide +kernel
theorem dX11_bits_0 : decode cX11_bits 0 = .ok (.aload_n 0, 1) := by decide +kernel
theorem dX11_bits_1 : decode cX11_bits 1 = .ok (.iload_n 1, 1) := by decide +kernel
theorem dX11_bits_2 : decode cX11_bits 2 = .ok (.invokevirtual 108, 3) := by decide +kernel
theorem dX11_bits_5 : decode cX11_bits 5 = .ok (.aload_n 0, 1) := by decide +kernel
theorem dX11_bits_6 : decode cX11_bits 6 = .ok (.getfield 10, 3) := by decide +kernel
theorem dX11_bits_9 : decode cX11_bits 9 = .ok (.getfield 144, 3) := by decide +kernel
theorem dX11_bits_12 : decode cX11_bits 12 = .ok (.iload_n 1, 1) := by decide +kernel
theorem dX11_bits_13 : decode cX11_bits 13 = .ok (.baload, 1) := by decide +kernel
theorem dX11_bits_14 : decode cX11_bits 14 = .ok (.ifCond .eq 19, 3) := by decide +kernel
theorem dX11_bits_17 : decode cX11_bits 17 = .ok (.aload_n 0, 1) := by decide +kernel
theorem dX11_bits_18 : decode cX11_bits 18 = .ok (.getfield 10, 3) := by decide +kernel
theorem dX11_bits_21 : decode cX11_bits 21 = .ok (.getfield 129, 3) := by decide +kernel
theorem dX11_bits_24 : decode cX11_bits 24 = .ok (.getfield 150, 3) := by decide +kernel
theorem dX11_bits_27 : decode cX11_bits 27 = .ok (.iload_n 1, 1) := by decide +kernel
theorem dX11_bits_28 : decode cX11_bits 28 = .ok (.faload, 1) := by decide +kernel
theorem dX11_bits_29 : decode cX11_bits 29 = .ok (.invokestatic 154, 3) := by decide +kernel
theorem dX11_bits_32 : decode cX11_bits 32 = .ok (.ireturn, 1) := by decide +kernel
theorem dX11_bits_33 : decode cX11_bits 33 = .ok (.aload_n 0, 1) := by decide +kernel
theorem dX11_bits_34 : decode cX11_bits 34 = .ok (.getfield 10, 3) := by decide +kernel
theorem dX11_bits_37 : decode cX11_bits 37 = .ok (.getfield 129, 3) := by decide +kernel
theorem dX11_bits_40 : decode cX11_bits 40 = .ok (.getfield 133, 3) := by decide +kernel
theorem dX11_bits_43 : decode cX11_bits 43 = .ok (.iload_n 1, 1) := by decide +kernel
theorem dX11_bits_44 : decode cX11_bits 44 = .ok (.iaload, 1) := by decide +kernel
theorem dX11_bits_45 : decode cX11_bits 45 = .ok (.i2f, 1) := by decide +kernel
theorem dX11_bits_46 : decode cX11_bits 46 = .ok (.invokestatic 154, 3) := by decide +kernel
theorem dX11_bits_49 : decode cX11_bits 49 = .ok (.ireturn, 1) := by decide +kernel
theorem dX11_spellOf_0 : decode cX11_spellOf 0 = .ok (.aload_n 0, 1) := by decide +kernel
theorem dX11_spellOf_1 : decode cX11_spellOf 1 = .ok (.iload_n 1, 1) := by decide +kernel
theorem dX11_spellOf_2 : decode cX11_spellOf 2 = .ok (.invokevirtual 202, 3) := by decide +kernel
theorem dX11_spellOf_5 : decode cX11_spellOf 5 = .ok (.astore_n 3, 1) := by decide +kernel
theorem dX11_spellOf_6 : decode cX11_spellOf 6 = .ok (.iload_n 2, 1) := by decide +kernel
theorem dX11_spellOf_7 : decode cX11_spellOf 7 = .ok (.tableswitch 79 0 4 #[33, 38, 43, 48, 69], 33) := by decide +kernel
theorem dX11_spellOf_40 : decode cX11_spellOf 40 = .ok (.aload_n 3, 1) := by decide +kernel
theorem dX11_spellOf_41 : decode cX11_spellOf 41 = .ok (.getfield 261, 3) := by decide +kernel
theorem dX11_spellOf_44 : decode cX11_spellOf 44 = .ok (.ireturn, 1) := by decide +kernel
theorem dX11_spellOf_45 : decode cX11_spellOf 45 = .ok (.aload_n 3, 1) := by decide +kernel
theorem dX11_spellOf_46 : decode cX11_spellOf 46 = .ok (.getfield 264, 3) := by decide +kernel
theorem dX11_spellOf_49 : decode cX11_spellOf 49 = .ok (.ireturn, 1) := by decide +kernel
theorem dX11_spellOf_50 : decode cX11_spellOf 50 = .ok (.aload_n 3, 1) := by decide +kernel
theorem dX11_spellOf_51 : decode cX11_spellOf 51 = .ok (.getfield 267, 3) := by decide +kernel
theorem dX11_spellOf_54 : decode cX11_spellOf 54 = .ok (.ireturn, 1) := by decide +kernel
theorem dX11_spellOf_55 : decode cX11_spellOf 55 = .ok (.aload_n 0, 1) := by decide +kernel
theorem dX11_spellOf_56 : decode cX11_spellOf 56 = .ok (.getfield 47, 3) := by decide +kernel
theorem dX11_spellOf_59 : decode cX11_spellOf 59 = .ok (.aload_n 3, 1) := by decide +kernel
theorem dX11_spellOf_60 : decode cX11_spellOf 60 = .ok (.aload_n 0, 1) := by decide +kernel
theorem dX11_spellOf_61 : decode cX11_spellOf 61 = .ok (.getfield 10, 3) := by decide +kernel
theorem dX11_spellOf_64 : decode cX11_spellOf 64 = .ok (.invokevirtual 243, 3) := by decide +kernel
theorem dX11_spellOf_67 : decode cX11_spellOf 67 = .ok (.ifCond .eq 7, 3) := by decide +kernel
theorem dX11_spellOf_70 : decode cX11_spellOf 70 = .ok (.iconst 1, 1) := by decide +kernel
theorem dX11_spellOf_71 : decode cX11_spellOf 71 = .ok (.goto 4, 3) := by decide +kernel
theorem dX11_spellOf_74 : decode cX11_spellOf 74 = .ok (.iconst 0, 1) := by decide +kernel
theorem dX11_spellOf_75 : decode cX11_spellOf 75 = .ok (.ireturn, 1) := by decide +kernel
theorem dX11_spellOf_76 : decode cX11_spellOf 76 = .ok (.aload_n 0, 1) := by decide +kernel
theorem dX11_spellOf_77 : decode cX11_spellOf 77 = .ok (.getfield 10, 3) := by decide +kernel
theorem dX11_spellOf_80 : decode cX11_spellOf 80 = .ok (.getfield 270, 3) := by decide +kernel
theorem dX11_spellOf_83 : decode cX11_spellOf 83 = .ok (.iload_n 1, 1) := by decide +kernel
theorem dX11_spellOf_84 : decode cX11_spellOf 84 = .ok (.iaload, 1) := by decide +kernel
theorem dX11_spellOf_85 : decode cX11_spellOf 85 = .ok (.ireturn, 1) := by decide +kernel
theorem dX11_spellOf_86 : decode cX11_spellOf 86 = .ok (.new 139, 3) := by decide +kernel
theorem dX11_spellOf_89 : decode cX11_spellOf 89 = .ok (.dup, 1) := by decide +kernel
theorem dX11_spellOf_90 : decode cX11_spellOf 90 = .ok (.ldc_w 273, 3) := by decide +kernel
theorem dX11_spellOf_93 : decode cX11_spellOf 93 = .ok (.invokespecial 143, 3) := by decide +kernel
theorem dX11_spellOf_96 : decode cX11_spellOf 96 = .ok (.athrow, 1) := by decide +kernel
theorem dX11_token_0 : decode cX11_token 0 = .ok (.aload_n 0, 1) := by decide +kernel
theorem dX11_token_1 : decode cX11_token 1 = .ok (.iload_n 1, 1) := by decide +kernel
theorem dX11_token_2 : decode cX11_token 2 = .ok (.invokevirtual 202, 3) := by decide +kernel
theorem dX11_token_5 : decode cX11_token 5 = .ok (.astore_n 3, 1) := by decide +kernel
theorem dX11_token_6 : decode cX11_token 6 = .ok (.iload_n 2, 1) := by decide +kernel
theorem dX11_token_7 : decode cX11_token 7 = .ok (.ifCond .lt 11, 3) := by decide +kernel
theorem dX11_token_10 : decode cX11_token 10 = .ok (.iload_n 2, 1) := by decide +kernel
theorem dX11_token_11 : decode cX11_token 11 = .ok (.aload_n 3, 1) := by decide +kernel
theorem dX11_token_12 : decode cX11_token 12 = .ok (.getfield 261, 3) := by decide +kernel
theorem dX11_token_15 : decode cX11_token 15 = .ok (.if_icmp .lt 14, 3) := by decide +kernel
theorem dX11_token_18 : decode cX11_token 18 = .ok (.new 258, 3) := by decide +kernel
theorem dX11_token_21 : decode cX11_token 21 = .ok (.dup, 1) := by decide +kernel
theorem dX11_token_22 : decode cX11_token 22 = .ok (.ldc_w 275, 3) := by decide +kernel
theorem dX11_token_25 : decode cX11_token 25 = .ok (.invokespecial 260, 3) := by decide +kernel
theorem dX11_token_28 : decode cX11_token 28 = .ok (.athrow, 1) := by decide +kernel
theorem dX11_token_29 : decode cX11_token 29 = .ok (.aload_n 3, 1) := by decide +kernel
theorem dX11_token_30 : decode cX11_token 30 = .ok (.getfield 277, 3) := by decide +kernel
theorem dX11_token_33 : decode cX11_token 33 = .ok (.iload_n 2, 1) := by decide +kernel
theorem dX11_token_34 : decode cX11_token 34 = .ok (.caload, 1) := by decide +kernel
theorem dX11_token_35 : decode cX11_token 35 = .ok (.ireturn, 1) := by decide +kernel
theorem dX11_types_0 : decode cX11_types 0 = .ok (.aload_n 0, 1) := by decide +kernel
theorem dX11_types_1 : decode cX11_types 1 = .ok (.iload_n 1, 1) := by decide +kernel
theorem dX11_types_2 : decode cX11_types 2 = .ok (.invokevirtual 202, 3) := by decide +kernel
theorem dX11_types_5 : decode cX11_types 5 = .ok (.astore_n 2, 1) := by decide +kernel
theorem dX11_types_6 : decode cX11_types 6 = .ok (.aload_n 0, 1) := by decide +kernel
theorem dX11_types_7 : decode cX11_types 7 = .ok (.getfield 47, 3) := by decide +kernel
theorem dX11_types_10 : decode cX11_types 10 = .ok (.aload_n 2, 1) := by decide +kernel
theorem dX11_types_11 : decode cX11_types 11 = .ok (.aload_n 0, 1) := by decide +kernel
theorem dX11_types_12 : decode cX11_types 12 = .ok (.getfield 10, 3) := by decide +kernel
theorem dX11_types_15 : decode cX11_types 15 = .ok (.invokevirtual 243, 3) := by decide +kernel
theorem dX11_types_18 : decode cX11_types 18 = .ok (.ireturn, 1) := by decide +kernel
theorem dX11_typesAgain_0 : decode cX11_typesAgain 0 = .ok (.aload_n 0, 1) := by decide +kernel
theorem dX11_typesAgain_1 : decode cX11_typesAgain 1 = .ok (.iload_n 1, 1) := by decide +kernel
theorem dX11_typesAgain_2 : decode cX11_typesAgain 2 = .ok (.invokevirtual 202, 3) := by decide +kernel
theorem dX11_typesAgain_5 : decode cX11_typesAgain 5 = .ok (.astore_n 2, 1) := by decide +kernel
theorem dX11_typesAgain_6 : decode cX11_typesAgain 6 = .ok (.aload_n 0, 1) := by decide +kernel
theorem dX11_typesAgain_7 : decode cX11_typesAgain 7 = .ok (.getfield 54, 3) := by decide +kernel
theorem dX11_typesAgain_10 : decode cX11_typesAgain 10 = .ok (.aload_n 2, 1) := by decide +kernel
theorem dX11_typesAgain_11 : decode cX11_typesAgain 11 = .ok (.aload_n 0, 1) := by decide +kernel
theorem dX11_typesAgain_12 : decode cX11_typesAgain 12 = .ok (.getfield 10, 3) := by decide +kernel
theorem dX11_typesAgain_15 : decode cX11_typesAgain 15 = .ok (.invokevirtual 280, 3) := by decide +kernel
theorem dX11_typesAgain_18 : decode cX11_typesAgain 18 = .ok (.ireturn, 1) := by decide +kernel
theorem dX11_fault_0 : decode cX11_fault 0 = .ok (.aload_n 0, 1) := by decide +kernel
theorem dX11_fault_1 : decode cX11_fault 1 = .ok (.iload_n 1, 1) := by decide +kernel
theorem dX11_fault_2 : decode cX11_fault 2 = .ok (.invokevirtual 202, 3) := by decide +kernel
theorem dX11_fault_5 : decode cX11_fault 5 = .ok (.astore_n 2, 1) := by decide +kernel
theorem dX11_fault_6 : decode cX11_fault 6 = .ok (.aload_n 0, 1) := by decide +kernel
theorem dX11_fault_7 : decode cX11_fault 7 = .ok (.getfield 47, 3) := by decide +kernel
theorem dX11_fault_10 : decode cX11_fault 10 = .ok (.aload_n 2, 1) := by decide +kernel
theorem dX11_fault_11 : decode cX11_fault 11 = .ok (.aload_n 0, 1) := by decide +kernel
theorem dX11_fault_12 : decode cX11_fault 12 = .ok (.getfield 10, 3) := by decide +kernel
theorem dX11_fault_15 : decode cX11_fault 15 = .ok (.invokevirtual 243, 3) := by decide +kernel
theorem dX11_fault_18 : decode cX11_fault 18 = .ok (.ifCond .eq 14, 3) := by decide +kernel
theorem dX11_fault_21 : decode cX11_fault 21 = .ok (.new 258, 3) := by decide +kernel
theorem dX11_fault_24 : decode cX11_fault 24 = .ok (.dup, 1) := by decide +kernel
theorem dX11_fault_25 : decode cX11_fault 25 = .ok (.ldc_w 281, 3) := by decide +kernel
theorem dX11_fault_28 : decode cX11_fault 28 = .ok (.invokespecial 260, 3) := by decide +kernel
theorem dX11_fault_31 : decode cX11_fault 31 = .ok (.athrow, 1) := by decide +kernel
theorem dX11_fault_32 : decode cX11_fault 32 = .ok (.aload_n 0, 1) := by decide +kernel
theorem dX11_fault_33 : decode cX11_fault 33 = .ok (.getfield 47, 3) := by decide +kernel
theorem dX11_fault_36 : decode cX11_fault 36 = .ok (.getfield 283, 3) := by decide +kernel
theorem dX11_fault_39 : decode cX11_fault 39 = .ok (.ireturn, 1) := by decide +kernel
theorem dX11_bound_0 : decode cX11_bound 0 = .ok (.aload_n 0, 1) := by decide +kernel
theorem dX11_bound_1 : decode cX11_bound 1 = .ok (.iload_n 1, 1) := by decide +kernel
theorem dX11_bound_2 : decode cX11_bound 2 = .ok (.invokevirtual 202, 3) := by decide +kernel
theorem dX11_bound_5 : decode cX11_bound 5 = .ok (.astore 4, 2) := by decide +kernel
theorem dX11_bound_7 : decode cX11_bound 7 = .ok (.aload_n 0, 1) := by decide +kernel
theorem dX11_bound_8 : decode cX11_bound 8 = .ok (.getfield 47, 3) := by decide +kernel
theorem dX11_bound_11 : decode cX11_bound 11 = .ok (.aload 4, 2) := by decide +kernel
theorem dX11_bound_13 : decode cX11_bound 13 = .ok (.aload_n 0, 1) := by decide +kernel
theorem dX11_bound_14 : decode cX11_bound 14 = .ok (.getfield 10, 3) := by decide +kernel
theorem dX11_bound_17 : decode cX11_bound 17 = .ok (.invokevirtual 243, 3) := by decide +kernel
theorem dX11_bound_20 : decode cX11_bound 20 = .ok (.ifCond .ne 14, 3) := by decide +kernel
theorem dX11_bound_23 : decode cX11_bound 23 = .ok (.new 258, 3) := by decide +kernel
theorem dX11_bound_26 : decode cX11_bound 26 = .ok (.dup, 1) := by decide +kernel
theorem dX11_bound_27 : decode cX11_bound 27 = .ok (.ldc_w 286, 3) := by decide +kernel
theorem dX11_bound_30 : decode cX11_bound 30 = .ok (.invokespecial 260, 3) := by decide +kernel
theorem dX11_bound_33 : decode cX11_bound 33 = .ok (.athrow, 1) := by decide +kernel
theorem dX11_bound_34 : decode cX11_bound 34 = .ok (.iload_n 2, 1) := by decide +kernel
theorem dX11_bound_35 : decode cX11_bound 35 = .ok (.ifCond .lt 14, 3) := by decide +kernel
theorem dX11_bound_38 : decode cX11_bound 38 = .ok (.iload_n 2, 1) := by decide +kernel
theorem dX11_bound_39 : decode cX11_bound 39 = .ok (.aload_n 0, 1) := by decide +kernel
theorem dX11_bound_40 : decode cX11_bound 40 = .ok (.getfield 47, 3) := by decide +kernel
theorem dX11_bound_43 : decode cX11_bound 43 = .ok (.getfield 288, 3) := by decide +kernel
theorem dX11_bound_46 : decode cX11_bound 46 = .ok (.if_icmp .lt 14, 3) := by decide +kernel
theorem dX11_bound_49 : decode cX11_bound 49 = .ok (.new 258, 3) := by decide +kernel
theorem dX11_bound_52 : decode cX11_bound 52 = .ok (.dup, 1) := by decide +kernel
theorem dX11_bound_53 : decode cX11_bound 53 = .ok (.ldc_w 289, 3) := by decide +kernel
theorem dX11_bound_56 : decode cX11_bound 56 = .ok (.invokespecial 260, 3) := by decide +kernel
theorem dX11_bound_59 : decode cX11_bound 59 = .ok (.athrow, 1) := by decide +kernel
theorem dX11_bound_60 : decode cX11_bound 60 = .ok (.aload_n 0, 1) := by decide +kernel
theorem dX11_bound_61 : decode cX11_bound 61 = .ok (.getfield 47, 3) := by decide +kernel
theorem dX11_bound_64 : decode cX11_bound 64 = .ok (.getfield 291, 3) := by decide +kernel
theorem dX11_bound_67 : decode cX11_bound 67 = .ok (.iload_n 2, 1) := by decide +kernel
theorem dX11_bound_68 : decode cX11_bound 68 = .ok (.baload, 1) := by decide +kernel
theorem dX11_bound_69 : decode cX11_bound 69 = .ok (.ifCond .eq 14, 3) := by decide +kernel
theorem dX11_bound_72 : decode cX11_bound 72 = .ok (.new 258, 3) := by decide +kernel
theorem dX11_bound_75 : decode cX11_bound 75 = .ok (.dup, 1) := by decide +kernel
theorem dX11_bound_76 : decode cX11_bound 76 = .ok (.ldc_w 294, 3) := by decide +kernel
theorem dX11_bound_79 : decode cX11_bound 79 = .ok (.invokespecial 260, 3) := by decide +kernel
theorem dX11_bound_82 : decode cX11_bound 82 = .ok (.athrow, 1) := by decide +kernel
theorem dX11_bound_83 : decode cX11_bound 83 = .ok (.iload_n 3, 1) := by decide +kernel
theorem dX11_bound_84 : decode cX11_bound 84 = .ok (.ifCond .eq 15, 3) := by decide +kernel
theorem dX11_bound_87 : decode cX11_bound 87 = .ok (.aload_n 0, 1) := by decide +kernel
theorem dX11_bound_88 : decode cX11_bound 88 = .ok (.getfield 47, 3) := by decide +kernel
theorem dX11_bound_91 : decode cX11_bound 91 = .ok (.getfield 296, 3) := by decide +kernel
theorem dX11_bound_94 : decode cX11_bound 94 = .ok (.iload_n 2, 1) := by decide +kernel
theorem dX11_bound_95 : decode cX11_bound 95 = .ok (.laload, 1) := by decide +kernel
theorem dX11_bound_96 : decode cX11_bound 96 = .ok (.goto 12, 3) := by decide +kernel
theorem dX11_bound_99 : decode cX11_bound 99 = .ok (.aload_n 0, 1) := by decide +kernel
theorem dX11_bound_100 : decode cX11_bound 100 = .ok (.getfield 47, 3) := by decide +kernel
theorem dX11_bound_103 : decode cX11_bound 103 = .ok (.getfield 300, 3) := by decide +kernel
theorem dX11_bound_106 : decode cX11_bound 106 = .ok (.iload_n 2, 1) := by decide +kernel
theorem dX11_bound_107 : decode cX11_bound 107 = .ok (.laload, 1) := by decide +kernel
theorem dX11_bound_108 : decode cX11_bound 108 = .ok (.l2i, 1) := by decide +kernel
theorem dX11_bound_109 : decode cX11_bound 109 = .ok (.ireturn, 1) := by decide +kernel
theorem dX11_typed_0 : decode cX11_typed 0 = .ok (.aload_n 0, 1) := by decide +kernel
theorem dX11_typed_1 : decode cX11_typed 1 = .ok (.invokevirtual 163, 3) := by decide +kernel
theorem dX11_typed_4 : decode cX11_typed 4 = .ok (.ireturn, 1) := by decide +kernel
theorem dX11_would_0 : decode cX11_would 0 = .ok (.aload_n 0, 1) := by decide +kernel
theorem dX11_would_1 : decode cX11_would 1 = .ok (.iload_n 1, 1) := by decide +kernel
theorem dX11_would_2 : decode cX11_would 2 = .ok (.invokevirtual 202, 3) := by decide +kernel
theorem dX11_would_5 : decode cX11_would 5 = .ok (.astore_n 3, 1) := by decide +kernel
theorem dX11_would_6 : decode cX11_would 6 = .ok (.aload_n 0, 1) := by decide +kernel
theorem dX11_would_7 : decode cX11_would 7 = .ok (.iload_n 2, 1) := by decide +kernel
theorem dX11_would_8 : decode cX11_would 8 = .ok (.invokevirtual 108, 3) := by decide +kernel
theorem dX11_would_11 : decode cX11_would 11 = .ok (.aload_n 0, 1) := by decide +kernel
theorem dX11_would_12 : decode cX11_would 12 = .ok (.getfield 61, 3) := by decide +kernel
theorem dX11_would_15 : decode cX11_would 15 = .ok (.aload_n 0, 1) := by decide +kernel
theorem dX11_would_16 : decode cX11_would 16 = .ok (.getfield 10, 3) := by decide +kernel
theorem dX11_would_19 : decode cX11_would 19 = .ok (.invokevirtual 209, 3) := by decide +kernel
theorem dX11_would_22 : decode cX11_would 22 = .ok (.aload_n 0, 1) := by decide +kernel
theorem dX11_would_23 : decode cX11_would 23 = .ok (.getfield 61, 3) := by decide +kernel
theorem dX11_would_26 : decode cX11_would 26 = .ok (.aload_n 3, 1) := by decide +kernel
theorem dX11_would_27 : decode cX11_would 27 = .ok (.aload_n 0, 1) := by decide +kernel
theorem dX11_would_28 : decode cX11_would 28 = .ok (.getfield 10, 3) := by decide +kernel
theorem dX11_would_31 : decode cX11_would 31 = .ok (.invokevirtual 212, 3) := by decide +kernel
theorem dX11_would_34 : decode cX11_would 34 = .ok (.ifCond .ne 14, 3) := by decide +kernel
theorem dX11_would_37 : decode cX11_would 37 = .ok (.new 258, 3) := by decide +kernel
theorem dX11_would_40 : decode cX11_would 40 = .ok (.dup, 1) := by decide +kernel
theorem dX11_would_41 : decode cX11_would 41 = .ok (.ldc_w 303, 3) := by decide +kernel
theorem dX11_would_44 : decode cX11_would 44 = .ok (.invokespecial 260, 3) := by decide +kernel
theorem dX11_would_47 : decode cX11_would 47 = .ok (.athrow, 1) := by decide +kernel
theorem dX11_would_48 : decode cX11_would 48 = .ok (.aload_n 0, 1) := by decide +kernel
theorem dX11_would_49 : decode cX11_would 49 = .ok (.getfield 61, 3) := by decide +kernel
theorem dX11_would_52 : decode cX11_would 52 = .ok (.getfield 305, 3) := by decide +kernel
theorem dX11_would_55 : decode cX11_would 55 = .ok (.aload_n 0, 1) := by decide +kernel
theorem dX11_would_56 : decode cX11_would 56 = .ok (.getfield 10, 3) := by decide +kernel
theorem dX11_would_59 : decode cX11_would 59 = .ok (.getfield 144, 3) := by decide +kernel
theorem dX11_would_62 : decode cX11_would 62 = .ok (.iload_n 2, 1) := by decide +kernel
theorem dX11_would_63 : decode cX11_would 63 = .ok (.baload, 1) := by decide +kernel
theorem dX11_would_64 : decode cX11_would 64 = .ok (.iload_n 2, 1) := by decide +kernel
theorem dX11_would_65 : decode cX11_would 65 = .ok (.invokevirtual 308, 3) := by decide +kernel
theorem dX11_would_68 : decode cX11_would 68 = .ok (.ireturn, 1) := by decide +kernel
theorem dX11_wouldAgain_0 : decode cX11_wouldAgain 0 = .ok (.aload_n 0, 1) := by decide +kernel
theorem dX11_wouldAgain_1 : decode cX11_wouldAgain 1 = .ok (.iload_n 1, 1) := by decide +kernel
theorem dX11_wouldAgain_2 : decode cX11_wouldAgain 2 = .ok (.invokevirtual 202, 3) := by decide +kernel
theorem dX11_wouldAgain_5 : decode cX11_wouldAgain 5 = .ok (.astore_n 3, 1) := by decide +kernel
theorem dX11_wouldAgain_6 : decode cX11_wouldAgain 6 = .ok (.aload_n 0, 1) := by decide +kernel
theorem dX11_wouldAgain_7 : decode cX11_wouldAgain 7 = .ok (.iload_n 2, 1) := by decide +kernel
theorem dX11_wouldAgain_8 : decode cX11_wouldAgain 8 = .ok (.invokevirtual 108, 3) := by decide +kernel
theorem dX11_wouldAgain_11 : decode cX11_wouldAgain 11 = .ok (.aload_n 0, 1) := by decide +kernel
theorem dX11_wouldAgain_12 : decode cX11_wouldAgain 12 = .ok (.getfield 68, 3) := by decide +kernel
theorem dX11_wouldAgain_15 : decode cX11_wouldAgain 15 = .ok (.aload_n 3, 1) := by decide +kernel
theorem dX11_wouldAgain_16 : decode cX11_wouldAgain 16 = .ok (.aload_n 0, 1) := by decide +kernel
theorem dX11_wouldAgain_17 : decode cX11_wouldAgain 17 = .ok (.getfield 10, 3) := by decide +kernel
theorem dX11_wouldAgain_20 : decode cX11_wouldAgain 20 = .ok (.invokevirtual 312, 3) := by decide +kernel
theorem dX11_wouldAgain_23 : decode cX11_wouldAgain 23 = .ok (.ifCond .ne 14, 3) := by decide +kernel
theorem dX11_wouldAgain_26 : decode cX11_wouldAgain 26 = .ok (.new 258, 3) := by decide +kernel
theorem dX11_wouldAgain_29 : decode cX11_wouldAgain 29 = .ok (.dup, 1) := by decide +kernel
theorem dX11_wouldAgain_30 : decode cX11_wouldAgain 30 = .ok (.ldc_w 303, 3) := by decide +kernel
theorem dX11_wouldAgain_33 : decode cX11_wouldAgain 33 = .ok (.invokespecial 260, 3) := by decide +kernel
theorem dX11_wouldAgain_36 : decode cX11_wouldAgain 36 = .ok (.athrow, 1) := by decide +kernel
theorem dX11_wouldAgain_37 : decode cX11_wouldAgain 37 = .ok (.aload_n 0, 1) := by decide +kernel
theorem dX11_wouldAgain_38 : decode cX11_wouldAgain 38 = .ok (.getfield 68, 3) := by decide +kernel
theorem dX11_wouldAgain_41 : decode cX11_wouldAgain 41 = .ok (.aload_n 3, 1) := by decide +kernel
theorem dX11_wouldAgain_42 : decode cX11_wouldAgain 42 = .ok (.aload_n 0, 1) := by decide +kernel
theorem dX11_wouldAgain_43 : decode cX11_wouldAgain 43 = .ok (.getfield 10, 3) := by decide +kernel
theorem dX11_wouldAgain_46 : decode cX11_wouldAgain 46 = .ok (.iload_n 2, 1) := by decide +kernel
theorem dX11_wouldAgain_47 : decode cX11_wouldAgain 47 = .ok (.invokevirtual 315, 3) := by decide +kernel
theorem dX11_wouldAgain_50 : decode cX11_wouldAgain 50 = .ok (.ireturn, 1) := by decide +kernel
theorem dX11_boils_0 : decode cX11_boils 0 = .ok (.aload_n 0, 1) := by decide +kernel
theorem dX11_boils_1 : decode cX11_boils 1 = .ok (.iload_n 1, 1) := by decide +kernel
theorem dX11_boils_2 : decode cX11_boils 2 = .ok (.invokevirtual 202, 3) := by decide +kernel
theorem dX11_boils_5 : decode cX11_boils 5 = .ok (.astore_n 2, 1) := by decide +kernel
theorem dX11_boils_6 : decode cX11_boils 6 = .ok (.aload_n 0, 1) := by decide +kernel
theorem dX11_boils_7 : decode cX11_boils 7 = .ok (.getfield 61, 3) := by decide +kernel
theorem dX11_boils_10 : decode cX11_boils 10 = .ok (.aload_n 0, 1) := by decide +kernel
theorem dX11_boils_11 : decode cX11_boils 11 = .ok (.getfield 10, 3) := by decide +kernel
theorem dX11_boils_14 : decode cX11_boils 14 = .ok (.invokevirtual 209, 3) := by decide +kernel
theorem dX11_boils_17 : decode cX11_boils 17 = .ok (.aload_n 0, 1) := by decide +kernel
theorem dX11_boils_18 : decode cX11_boils 18 = .ok (.getfield 61, 3) := by decide +kernel
theorem dX11_boils_21 : decode cX11_boils 21 = .ok (.aload_n 2, 1) := by decide +kernel
theorem dX11_boils_22 : decode cX11_boils 22 = .ok (.aload_n 0, 1) := by decide +kernel
theorem dX11_boils_23 : decode cX11_boils 23 = .ok (.getfield 10, 3) := by decide +kernel
theorem dX11_boils_26 : decode cX11_boils 26 = .ok (.invokevirtual 212, 3) := by decide +kernel
theorem dX11_boils_29 : decode cX11_boils 29 = .ok (.ifCond .eq 14, 3) := by decide +kernel
theorem dX11_boils_32 : decode cX11_boils 32 = .ok (.new 258, 3) := by decide +kernel
theorem dX11_boils_35 : decode cX11_boils 35 = .ok (.dup, 1) := by decide +kernel
theorem dX11_boils_36 : decode cX11_boils 36 = .ok (.ldc_w 319, 3) := by decide +kernel
theorem dX11_boils_39 : decode cX11_boils 39 = .ok (.invokespecial 260, 3) := by decide +kernel
theorem dX11_boils_42 : decode cX11_boils 42 = .ok (.athrow, 1) := by decide +kernel
theorem dX11_boils_43 : decode cX11_boils 43 = .ok (.aload_n 0, 1) := by decide +kernel
theorem dX11_boils_44 : decode cX11_boils 44 = .ok (.getfield 61, 3) := by decide +kernel
theorem dX11_boils_47 : decode cX11_boils 47 = .ok (.getfield 216, 3) := by decide +kernel
theorem dX11_boils_50 : decode cX11_boils 50 = .ok (.ireturn, 1) := by decide +kernel
theorem dX11_lasts_0 : decode cX11_lasts 0 = .ok (.aload_n 0, 1) := by decide +kernel
theorem dX11_lasts_1 : decode cX11_lasts 1 = .ok (.iload_n 1, 1) := by decide +kernel
theorem dX11_lasts_2 : decode cX11_lasts 2 = .ok (.invokevirtual 202, 3) := by decide +kernel
theorem dX11_lasts_5 : decode cX11_lasts 5 = .ok (.astore_n 2, 1) := by decide +kernel
theorem dX11_lasts_6 : decode cX11_lasts 6 = .ok (.aload_n 0, 1) := by decide +kernel
theorem dX11_lasts_7 : decode cX11_lasts 7 = .ok (.getfield 61, 3) := by decide +kernel
theorem dX11_lasts_10 : decode cX11_lasts 10 = .ok (.aload_n 0, 1) := by decide +kernel
theorem dX11_lasts_11 : decode cX11_lasts 11 = .ok (.getfield 10, 3) := by decide +kernel
theorem dX11_lasts_14 : decode cX11_lasts 14 = .ok (.invokevirtual 209, 3) := by decide +kernel
theorem dX11_lasts_17 : decode cX11_lasts 17 = .ok (.iconst 0, 1) := by decide +kernel
theorem dX11_lasts_18 : decode cX11_lasts 18 = .ok (.istore_n 3, 1) := by decide +kernel
theorem dX11_lasts_19 : decode cX11_lasts 19 = .ok (.iload_n 3, 1) := by decide +kernel
theorem dX11_lasts_20 : decode cX11_lasts 20 = .ok (.bipush 50, 2) := by decide +kernel
theorem dX11_lasts_22 : decode cX11_lasts 22 = .ok (.if_icmp .ge 34, 3) := by decide +kernel
theorem dX11_lasts_25 : decode cX11_lasts 25 = .ok (.aload_n 0, 1) := by decide +kernel
theorem dX11_lasts_26 : decode cX11_lasts 26 = .ok (.getfield 61, 3) := by decide +kernel
theorem dX11_lasts_29 : decode cX11_lasts 29 = .ok (.aload_n 2, 1) := by decide +kernel
theorem dX11_lasts_30 : decode cX11_lasts 30 = .ok (.aload_n 0, 1) := by decide +kernel
theorem dX11_lasts_31 : decode cX11_lasts 31 = .ok (.getfield 10, 3) := by decide +kernel
theorem dX11_lasts_34 : decode cX11_lasts 34 = .ok (.invokevirtual 212, 3) := by decide +kernel
theorem dX11_lasts_37 : decode cX11_lasts 37 = .ok (.ifCond .eq 19, 3) := by decide +kernel
theorem dX11_lasts_40 : decode cX11_lasts 40 = .ok (.aload_n 0, 1) := by decide +kernel
theorem dX11_lasts_41 : decode cX11_lasts 41 = .ok (.getfield 61, 3) := by decide +kernel
theorem dX11_lasts_44 : decode cX11_lasts 44 = .ok (.invokevirtual 235, 3) := by decide +kernel
theorem dX11_lasts_47 : decode cX11_lasts 47 = .ok (.ifCond .le 9, 3) := by decide +kernel
theorem dX11_lasts_50 : decode cX11_lasts 50 = .ok (.iinc 3 1, 3) := by decide +kernel
theorem dX11_lasts_53 : decode cX11_lasts 53 = .ok (.goto (-34), 3) := by decide +kernel
theorem dX11_lasts_56 : decode cX11_lasts 56 = .ok (.iload_n 3, 1) := by decide +kernel
theorem dX11_lasts_57 : decode cX11_lasts 57 = .ok (.ireturn, 1) := by decide +kernel
theorem dX11_ranked_0 : decode cX11_ranked 0 = .ok (.iconst 0, 1) := by decide +kernel
theorem dX11_ranked_1 : decode cX11_ranked 1 = .ok (.istore_n 2, 1) := by decide +kernel
theorem dX11_ranked_2 : decode cX11_ranked 2 = .ok (.iload_n 2, 1) := by decide +kernel
theorem dX11_ranked_3 : decode cX11_ranked 3 = .ok (.aload_n 0, 1) := by decide +kernel
theorem dX11_ranked_4 : decode cX11_ranked 4 = .ok (.getfield 10, 3) := by decide +kernel
theorem dX11_ranked_7 : decode cX11_ranked 7 = .ok (.getfield 179, 3) := by decide +kernel
theorem dX11_ranked_10 : decode cX11_ranked 10 = .ok (.if_icmp .ge 23, 3) := by decide +kernel
theorem dX11_ranked_13 : decode cX11_ranked 13 = .ok (.aload_n 0, 1) := by decide +kernel
theorem dX11_ranked_14 : decode cX11_ranked 14 = .ok (.getfield 10, 3) := by decide +kernel
theorem dX11_ranked_17 : decode cX11_ranked 17 = .ok (.iload_n 2, 1) := by decide +kernel
theorem dX11_ranked_18 : decode cX11_ranked 18 = .ok (.invokevirtual 321, 3) := by decide +kernel
theorem dX11_ranked_21 : decode cX11_ranked 21 = .ok (.iload_n 1, 1) := by decide +kernel
theorem dX11_ranked_22 : decode cX11_ranked 22 = .ok (.if_icmp .ne 5, 3) := by decide +kernel
theorem dX11_ranked_25 : decode cX11_ranked 25 = .ok (.iload_n 2, 1) := by decide +kernel
theorem dX11_ranked_26 : decode cX11_ranked 26 = .ok (.ireturn, 1) := by decide +kernel
theorem dX11_ranked_27 : decode cX11_ranked 27 = .ok (.iinc 2 1, 3) := by decide +kernel
theorem dX11_ranked_30 : decode cX11_ranked 30 = .ok (.goto (-28), 3) := by decide +kernel
theorem dX11_ranked_33 : decode cX11_ranked 33 = .ok (.new 258, 3) := by decide +kernel
theorem dX11_ranked_36 : decode cX11_ranked 36 = .ok (.dup, 1) := by decide +kernel
theorem dX11_ranked_37 : decode cX11_ranked 37 = .ok (.ldc_w 275, 3) := by decide +kernel
theorem dX11_ranked_40 : decode cX11_ranked 40 = .ok (.invokespecial 260, 3) := by decide +kernel
theorem dX11_ranked_43 : decode cX11_ranked 43 = .ok (.athrow, 1) := by decide +kernel
theorem dX11_widest_0 : decode cX11_widest 0 = .ok (.iconst (-1), 1) := by decide +kernel
theorem dX11_widest_1 : decode cX11_widest 1 = .ok (.istore_n 1, 1) := by decide +kernel
theorem dX11_widest_2 : decode cX11_widest 2 = .ok (.iconst (-1), 1) := by decide +kernel
theorem dX11_widest_3 : decode cX11_widest 3 = .ok (.istore_n 2, 1) := by decide +kernel
theorem dX11_widest_4 : decode cX11_widest 4 = .ok (.iconst 0, 1) := by decide +kernel
theorem dX11_widest_5 : decode cX11_widest 5 = .ok (.istore_n 3, 1) := by decide +kernel
theorem dX11_widest_6 : decode cX11_widest 6 = .ok (.iload_n 3, 1) := by decide +kernel
theorem dX11_widest_7 : decode cX11_widest 7 = .ok (.aload_n 0, 1) := by decide +kernel
theorem dX11_widest_8 : decode cX11_widest 8 = .ok (.getfield 10, 3) := by decide +kernel
theorem dX11_widest_11 : decode cX11_widest 11 = .ok (.getfield 184, 3) := by decide +kernel
theorem dX11_widest_14 : decode cX11_widest 14 = .ok (.if_icmp .ge 53, 3) := by decide +kernel
theorem dX11_widest_17 : decode cX11_widest 17 = .ok (.aload_n 0, 1) := by decide +kernel
theorem dX11_widest_18 : decode cX11_widest 18 = .ok (.getfield 10, 3) := by decide +kernel
theorem dX11_widest_21 : decode cX11_widest 21 = .ok (.getfield 170, 3) := by decide +kernel
theorem dX11_widest_24 : decode cX11_widest 24 = .ok (.iload_n 3, 1) := by decide +kernel
theorem dX11_widest_25 : decode cX11_widest 25 = .ok (.iaload, 1) := by decide +kernel
theorem dX11_widest_26 : decode cX11_widest 26 = .ok (.aload_n 0, 1) := by decide +kernel
theorem dX11_widest_27 : decode cX11_widest 27 = .ok (.getfield 10, 3) := by decide +kernel
theorem dX11_widest_30 : decode cX11_widest 30 = .ok (.getfield 167, 3) := by decide +kernel
theorem dX11_widest_33 : decode cX11_widest 33 = .ok (.iload_n 3, 1) := by decide +kernel
theorem dX11_widest_34 : decode cX11_widest 34 = .ok (.iaload, 1) := by decide +kernel
theorem dX11_widest_35 : decode cX11_widest 35 = .ok (.isub, 1) := by decide +kernel
theorem dX11_widest_36 : decode cX11_widest 36 = .ok (.istore 4, 2) := by decide +kernel
theorem dX11_widest_38 : decode cX11_widest 38 = .ok (.aload_n 0, 1) := by decide +kernel
theorem dX11_widest_39 : decode cX11_widest 39 = .ok (.getfield 10, 3) := by decide +kernel
theorem dX11_widest_42 : decode cX11_widest 42 = .ok (.getfield 144, 3) := by decide +kernel
theorem dX11_widest_45 : decode cX11_widest 45 = .ok (.iload_n 3, 1) := by decide +kernel
theorem dX11_widest_46 : decode cX11_widest 46 = .ok (.baload, 1) := by decide +kernel
theorem dX11_widest_47 : decode cX11_widest 47 = .ok (.ifCond .ne 14, 3) := by decide +kernel
theorem dX11_widest_50 : decode cX11_widest 50 = .ok (.iload 4, 2) := by decide +kernel
theorem dX11_widest_52 : decode cX11_widest 52 = .ok (.iload_n 2, 1) := by decide +kernel
theorem dX11_widest_53 : decode cX11_widest 53 = .ok (.if_icmp .le 8, 3) := by decide +kernel
theorem dX11_widest_56 : decode cX11_widest 56 = .ok (.iload_n 3, 1) := by decide +kernel
theorem dX11_widest_57 : decode cX11_widest 57 = .ok (.istore_n 1, 1) := by decide +kernel
theorem dX11_widest_58 : decode cX11_widest 58 = .ok (.iload 4, 2) := by decide +kernel
theorem dX11_widest_60 : decode cX11_widest 60 = .ok (.istore_n 2, 1) := by decide +kernel
theorem dX11_widest_61 : decode cX11_widest 61 = .ok (.iinc 3 1, 3) := by decide +kernel
theorem dX11_widest_64 : decode cX11_widest 64 = .ok (.goto (-58), 3) := by decide +kernel
theorem dX11_widest_67 : decode cX11_widest 67 = .ok (.iload_n 1, 1) := by decide +kernel
theorem dX11_widest_68 : decode cX11_widest 68 = .ok (.iconst (-1), 1) := by decide +kernel
theorem dX11_widest_69 : decode cX11_widest 69 = .ok (.if_icmp .ne 14, 3) := by decide +kernel
theorem dX11_widest_72 : decode cX11_widest 72 = .ok (.new 258, 3) := by decide +kernel
theorem dX11_widest_75 : decode cX11_widest 75 = .ok (.dup, 1) := by decide +kernel
theorem dX11_widest_76 : decode cX11_widest 76 = .ok (.ldc_w 324, 3) := by decide +kernel
theorem dX11_widest_79 : decode cX11_widest 79 = .ok (.invokespecial 260, 3) := by decide +kernel
theorem dX11_widest_82 : decode cX11_widest 82 = .ok (.athrow, 1) := by decide +kernel
theorem dX11_widest_83 : decode cX11_widest 83 = .ok (.iload_n 1, 1) := by decide +kernel
theorem dX11_widest_84 : decode cX11_widest 84 = .ok (.ireturn, 1) := by decide +kernel
theorem dX11_isSafe_0 : decode cX11_isSafe 0 = .ok (.iconst 0, 1) := by decide +kernel
theorem dX11_isSafe_1 : decode cX11_isSafe 1 = .ok (.istore_n 1, 1) := by decide +kernel
theorem dX11_isSafe_2 : decode cX11_isSafe 2 = .ok (.iload_n 1, 1) := by decide +kernel
theorem dX11_isSafe_3 : decode cX11_isSafe 3 = .ok (.aload_n 0, 1) := by decide +kernel
theorem dX11_isSafe_4 : decode cX11_isSafe 4 = .ok (.getfield 10, 3) := by decide +kernel
theorem dX11_isSafe_7 : decode cX11_isSafe 7 = .ok (.getfield 179, 3) := by decide +kernel
theorem dX11_isSafe_10 : decode cX11_isSafe 10 = .ok (.if_icmp .ge 65, 3) := by decide +kernel
theorem dX11_isSafe_13 : decode cX11_isSafe 13 = .ok (.aload_n 0, 1) := by decide +kernel
theorem dX11_isSafe_14 : decode cX11_isSafe 14 = .ok (.getfield 10, 3) := by decide +kernel
theorem dX11_isSafe_17 : decode cX11_isSafe 17 = .ok (.iload_n 1, 1) := by decide +kernel
theorem dX11_isSafe_18 : decode cX11_isSafe 18 = .ok (.invokevirtual 240, 3) := by decide +kernel
theorem dX11_isSafe_21 : decode cX11_isSafe 21 = .ok (.astore_n 2, 1) := by decide +kernel
theorem dX11_isSafe_22 : decode cX11_isSafe 22 = .ok (.aload_n 2, 1) := by decide +kernel
theorem dX11_isSafe_23 : decode cX11_isSafe 23 = .ok (.ifnull 46, 3) := by decide +kernel
theorem dX11_isSafe_26 : decode cX11_isSafe 26 = .ok (.aload_n 0, 1) := by decide +kernel
theorem dX11_isSafe_27 : decode cX11_isSafe 27 = .ok (.getfield 47, 3) := by decide +kernel
theorem dX11_isSafe_30 : decode cX11_isSafe 30 = .ok (.aload_n 2, 1) := by decide +kernel
theorem dX11_isSafe_31 : decode cX11_isSafe 31 = .ok (.aload_n 0, 1) := by decide +kernel
theorem dX11_isSafe_32 : decode cX11_isSafe 32 = .ok (.getfield 10, 3) := by decide +kernel
theorem dX11_isSafe_35 : decode cX11_isSafe 35 = .ok (.invokevirtual 243, 3) := by decide +kernel
theorem dX11_isSafe_38 : decode cX11_isSafe 38 = .ok (.ifCond .eq 31, 3) := by decide +kernel
theorem dX11_isSafe_41 : decode cX11_isSafe 41 = .ok (.aload_n 0, 1) := by decide +kernel
theorem dX11_isSafe_42 : decode cX11_isSafe 42 = .ok (.getfield 61, 3) := by decide +kernel
theorem dX11_isSafe_45 : decode cX11_isSafe 45 = .ok (.aload_n 0, 1) := by decide +kernel
theorem dX11_isSafe_46 : decode cX11_isSafe 46 = .ok (.getfield 10, 3) := by decide +kernel
theorem dX11_isSafe_49 : decode cX11_isSafe 49 = .ok (.invokevirtual 209, 3) := by decide +kernel
theorem dX11_isSafe_52 : decode cX11_isSafe 52 = .ok (.aload_n 0, 1) := by decide +kernel
theorem dX11_isSafe_53 : decode cX11_isSafe 53 = .ok (.getfield 61, 3) := by decide +kernel
theorem dX11_isSafe_56 : decode cX11_isSafe 56 = .ok (.aload_n 2, 1) := by decide +kernel
theorem dX11_isSafe_57 : decode cX11_isSafe 57 = .ok (.aload_n 0, 1) := by decide +kernel
theorem dX11_isSafe_58 : decode cX11_isSafe 58 = .ok (.getfield 10, 3) := by decide +kernel
theorem dX11_isSafe_61 : decode cX11_isSafe 61 = .ok (.invokevirtual 212, 3) := by decide +kernel
theorem dX11_isSafe_64 : decode cX11_isSafe 64 = .ok (.ifCond .ne 5, 3) := by decide +kernel
theorem dX11_isSafe_67 : decode cX11_isSafe 67 = .ok (.iconst 0, 1) := by decide +kernel
theorem dX11_isSafe_68 : decode cX11_isSafe 68 = .ok (.ireturn, 1) := by decide +kernel
theorem dX11_isSafe_69 : decode cX11_isSafe 69 = .ok (.iinc 1 1, 3) := by decide +kernel
theorem dX11_isSafe_72 : decode cX11_isSafe 72 = .ok (.goto (-70), 3) := by decide +kernel
theorem dX11_isSafe_75 : decode cX11_isSafe 75 = .ok (.iconst 1, 1) := by decide +kernel
theorem dX11_isSafe_76 : decode cX11_isSafe 76 = .ok (.ireturn, 1) := by decide +kernel
theorem dX11_tell_0 : decode cX11_tell 0 = .ok (.aload_n 0, 1) := by decide +kernel
theorem dX11_tell_1 : decode cX11_tell 1 = .ok (.iload_n 1, 1) := by decide +kernel
theorem dX11_tell_2 : decode cX11_tell 2 = .ok (.invokevirtual 202, 3) := by decide +kernel
theorem dX11_tell_5 : decode cX11_tell 5 = .ok (.astore_n 2, 1) := by decide +kernel
theorem dX11_tell_6 : decode cX11_tell 6 = .ok (.aload_n 0, 1) := by decide +kernel
theorem dX11_tell_7 : decode cX11_tell 7 = .ok (.getfield 86, 3) := by decide +kernel
theorem dX11_tell_10 : decode cX11_tell 10 = .ok (.iconst 0, 1) := by decide +kernel
theorem dX11_tell_11 : decode cX11_tell 11 = .ok (.invokevirtual 326, 3) := by decide +kernel
theorem dX11_tell_14 : decode cX11_tell 14 = .ok (.iconst 0, 1) := by decide +kernel
theorem dX11_tell_15 : decode cX11_tell 15 = .ok (.istore_n 3, 1) := by decide +kernel
theorem dX11_tell_16 : decode cX11_tell 16 = .ok (.iload_n 3, 1) := by decide +kernel
theorem dX11_tell_17 : decode cX11_tell 17 = .ok (.aload_n 2, 1) := by decide +kernel
theorem dX11_tell_18 : decode cX11_tell 18 = .ok (.getfield 329, 3) := by decide +kernel
theorem dX11_tell_21 : decode cX11_tell 21 = .ok (.arraylength, 1) := by decide +kernel
theorem dX11_tell_22 : decode cX11_tell 22 = .ok (.if_icmp .ge 23, 3) := by decide +kernel
theorem dX11_tell_25 : decode cX11_tell 25 = .ok (.aload_n 0, 1) := by decide +kernel
theorem dX11_tell_26 : decode cX11_tell 26 = .ok (.getfield 86, 3) := by decide +kernel
theorem dX11_tell_29 : decode cX11_tell 29 = .ok (.aload_n 2, 1) := by decide +kernel
theorem dX11_tell_30 : decode cX11_tell 30 = .ok (.getfield 329, 3) := by decide +kernel
theorem dX11_tell_33 : decode cX11_tell 33 = .ok (.iload_n 3, 1) := by decide +kernel
theorem dX11_tell_34 : decode cX11_tell 34 = .ok (.caload, 1) := by decide +kernel
theorem dX11_tell_35 : decode cX11_tell 35 = .ok (.invokevirtual 332, 3) := by decide +kernel
theorem dX11_tell_38 : decode cX11_tell 38 = .ok (.pop, 1) := by decide +kernel
theorem dX11_tell_39 : decode cX11_tell 39 = .ok (.iinc 3 1, 3) := by decide +kernel
theorem dX11_tell_42 : decode cX11_tell 42 = .ok (.goto (-26), 3) := by decide +kernel
theorem dX11_tell_45 : decode cX11_tell 45 = .ok (.aload_n 0, 1) := by decide +kernel
theorem dX11_tell_46 : decode cX11_tell 46 = .ok (.getfield 86, 3) := by decide +kernel
theorem dX11_tell_49 : decode cX11_tell 49 = .ok (.invokevirtual 336, 3) := by decide +kernel
theorem dX11_tell_52 : decode cX11_tell 52 = .ok (.ireturn, 1) := by decide +kernel
theorem dX11_tellCauldron_0 : decode cX11_tellCauldron 0 = .ok (.aload_n 0, 1) := by decide +kernel
theorem dX11_tellCauldron_1 : decode cX11_tellCauldron 1 = .ok (.iload_n 1, 1) := by decide +kernel
theorem dX11_tellCauldron_2 : decode cX11_tellCauldron 2 = .ok (.invokevirtual 108, 3) := by decide +kernel
theorem dX11_tellCauldron_5 : decode cX11_tellCauldron 5 = .ok (.aload_n 0, 1) := by decide +kernel
theorem dX11_tellCauldron_6 : decode cX11_tellCauldron 6 = .ok (.getfield 86, 3) := by decide +kernel
theorem dX11_tellCauldron_9 : decode cX11_tellCauldron 9 = .ok (.iconst 0, 1) := by decide +kernel
theorem dX11_tellCauldron_10 : decode cX11_tellCauldron 10 = .ok (.invokevirtual 326, 3) := by decide +kernel
theorem dX11_tellCauldron_13 : decode cX11_tellCauldron 13 = .ok (.aload_n 0, 1) := by decide +kernel
theorem dX11_tellCauldron_14 : decode cX11_tellCauldron 14 = .ok (.getfield 86, 3) := by decide +kernel
theorem dX11_tellCauldron_17 : decode cX11_tellCauldron 17 = .ok (.bipush 97, 2) := by decide +kernel
theorem dX11_tellCauldron_19 : decode cX11_tellCauldron 19 = .ok (.iload_n 1, 1) := by decide +kernel
theorem dX11_tellCauldron_20 : decode cX11_tellCauldron 20 = .ok (.iadd, 1) := by decide +kernel
theorem dX11_tellCauldron_21 : decode cX11_tellCauldron 21 = .ok (.i2c, 1) := by decide +kernel
theorem dX11_tellCauldron_22 : decode cX11_tellCauldron 22 = .ok (.invokevirtual 332, 3) := by decide +kernel
theorem dX11_tellCauldron_25 : decode cX11_tellCauldron 25 = .ok (.pop, 1) := by decide +kernel
theorem dX11_tellCauldron_26 : decode cX11_tellCauldron 26 = .ok (.aload_n 0, 1) := by decide +kernel
theorem dX11_tellCauldron_27 : decode cX11_tellCauldron 27 = .ok (.getfield 86, 3) := by decide +kernel
theorem dX11_tellCauldron_30 : decode cX11_tellCauldron 30 = .ok (.bipush 58, 2) := by decide +kernel
theorem dX11_tellCauldron_32 : decode cX11_tellCauldron 32 = .ok (.invokevirtual 332, 3) := by decide +kernel
theorem dX11_tellCauldron_35 : decode cX11_tellCauldron 35 = .ok (.pop, 1) := by decide +kernel
theorem dX11_tellCauldron_36 : decode cX11_tellCauldron 36 = .ok (.aload_n 0, 1) := by decide +kernel
theorem dX11_tellCauldron_37 : decode cX11_tellCauldron 37 = .ok (.getfield 86, 3) := by decide +kernel
theorem dX11_tellCauldron_40 : decode cX11_tellCauldron 40 = .ok (.aload_n 0, 1) := by decide +kernel
theorem dX11_tellCauldron_41 : decode cX11_tellCauldron 41 = .ok (.getfield 10, 3) := by decide +kernel
theorem dX11_tellCauldron_44 : decode cX11_tellCauldron 44 = .ok (.iload_n 1, 1) := by decide +kernel
theorem dX11_tellCauldron_45 : decode cX11_tellCauldron 45 = .ok (.invokevirtual 246, 3) := by decide +kernel
theorem dX11_tellCauldron_48 : decode cX11_tellCauldron 48 = .ok (.invokevirtual 339, 3) := by decide +kernel
theorem dX11_tellCauldron_51 : decode cX11_tellCauldron 51 = .ok (.pop, 1) := by decide +kernel
theorem dX11_tellCauldron_52 : decode cX11_tellCauldron 52 = .ok (.aload_n 0, 1) := by decide +kernel
theorem dX11_tellCauldron_53 : decode cX11_tellCauldron 53 = .ok (.getfield 10, 3) := by decide +kernel
theorem dX11_tellCauldron_56 : decode cX11_tellCauldron 56 = .ok (.getfield 144, 3) := by decide +kernel
theorem dX11_tellCauldron_59 : decode cX11_tellCauldron 59 = .ok (.iload_n 1, 1) := by decide +kernel
theorem dX11_tellCauldron_60 : decode cX11_tellCauldron 60 = .ok (.baload, 1) := by decide +kernel
theorem dX11_tellCauldron_61 : decode cX11_tellCauldron 61 = .ok (.ifCond .eq 16, 3) := by decide +kernel
theorem dX11_tellCauldron_64 : decode cX11_tellCauldron 64 = .ok (.aload_n 0, 1) := by decide +kernel
theorem dX11_tellCauldron_65 : decode cX11_tellCauldron 65 = .ok (.getfield 86, 3) := by decide +kernel
theorem dX11_tellCauldron_68 : decode cX11_tellCauldron 68 = .ok (.bipush 126, 2) := by decide +kernel
theorem dX11_tellCauldron_70 : decode cX11_tellCauldron 70 = .ok (.invokevirtual 332, 3) := by decide +kernel
theorem dX11_tellCauldron_73 : decode cX11_tellCauldron 73 = .ok (.pop, 1) := by decide +kernel
theorem dX11_tellCauldron_74 : decode cX11_tellCauldron 74 = .ok (.goto 67, 3) := by decide +kernel
theorem dX11_tellCauldron_77 : decode cX11_tellCauldron 77 = .ok (.aload_n 0, 1) := by decide +kernel
theorem dX11_tellCauldron_78 : decode cX11_tellCauldron 78 = .ok (.getfield 86, 3) := by decide +kernel
theorem dX11_tellCauldron_81 : decode cX11_tellCauldron 81 = .ok (.bipush 91, 2) := by decide +kernel
theorem dX11_tellCauldron_83 : decode cX11_tellCauldron 83 = .ok (.invokevirtual 332, 3) := by decide +kernel
theorem dX11_tellCauldron_86 : decode cX11_tellCauldron 86 = .ok (.pop, 1) := by decide +kernel
theorem dX11_tellCauldron_87 : decode cX11_tellCauldron 87 = .ok (.aload_n 0, 1) := by decide +kernel
theorem dX11_tellCauldron_88 : decode cX11_tellCauldron 88 = .ok (.getfield 86, 3) := by decide +kernel
theorem dX11_tellCauldron_91 : decode cX11_tellCauldron 91 = .ok (.aload_n 0, 1) := by decide +kernel
theorem dX11_tellCauldron_92 : decode cX11_tellCauldron 92 = .ok (.getfield 10, 3) := by decide +kernel
theorem dX11_tellCauldron_95 : decode cX11_tellCauldron 95 = .ok (.getfield 167, 3) := by decide +kernel
theorem dX11_tellCauldron_98 : decode cX11_tellCauldron 98 = .ok (.iload_n 1, 1) := by decide +kernel
theorem dX11_tellCauldron_99 : decode cX11_tellCauldron 99 = .ok (.iaload, 1) := by decide +kernel
theorem dX11_tellCauldron_100 : decode cX11_tellCauldron 100 = .ok (.invokevirtual 339, 3) := by decide +kernel
theorem dX11_tellCauldron_103 : decode cX11_tellCauldron 103 = .ok (.pop, 1) := by decide +kernel
theorem dX11_tellCauldron_104 : decode cX11_tellCauldron 104 = .ok (.aload_n 0, 1) := by decide +kernel
theorem dX11_tellCauldron_105 : decode cX11_tellCauldron 105 = .ok (.getfield 86, 3) := by decide +kernel
theorem dX11_tellCauldron_108 : decode cX11_tellCauldron 108 = .ok (.bipush 44, 2) := by decide +kernel
theorem dX11_tellCauldron_110 : decode cX11_tellCauldron 110 = .ok (.invokevirtual 332, 3) := by decide +kernel
theorem dX11_tellCauldron_113 : decode cX11_tellCauldron 113 = .ok (.pop, 1) := by decide +kernel
theorem dX11_tellCauldron_114 : decode cX11_tellCauldron 114 = .ok (.aload_n 0, 1) := by decide +kernel
theorem dX11_tellCauldron_115 : decode cX11_tellCauldron 115 = .ok (.getfield 86, 3) := by decide +kernel
theorem dX11_tellCauldron_118 : decode cX11_tellCauldron 118 = .ok (.aload_n 0, 1) := by decide +kernel
theorem dX11_tellCauldron_119 : decode cX11_tellCauldron 119 = .ok (.getfield 10, 3) := by decide +kernel
theorem dX11_tellCauldron_122 : decode cX11_tellCauldron 122 = .ok (.getfield 170, 3) := by decide +kernel
theorem dX11_tellCauldron_125 : decode cX11_tellCauldron 125 = .ok (.iload_n 1, 1) := by decide +kernel
theorem dX11_tellCauldron_126 : decode cX11_tellCauldron 126 = .ok (.iaload, 1) := by decide +kernel
theorem dX11_tellCauldron_127 : decode cX11_tellCauldron 127 = .ok (.invokevirtual 339, 3) := by decide +kernel
theorem dX11_tellCauldron_130 : decode cX11_tellCauldron 130 = .ok (.pop, 1) := by decide +kernel
theorem dX11_tellCauldron_131 : decode cX11_tellCauldron 131 = .ok (.aload_n 0, 1) := by decide +kernel
theorem dX11_tellCauldron_132 : decode cX11_tellCauldron 132 = .ok (.getfield 86, 3) := by decide +kernel
theorem dX11_tellCauldron_135 : decode cX11_tellCauldron 135 = .ok (.bipush 93, 2) := by decide +kernel
theorem dX11_tellCauldron_137 : decode cX11_tellCauldron 137 = .ok (.invokevirtual 332, 3) := by decide +kernel
theorem dX11_tellCauldron_140 : decode cX11_tellCauldron 140 = .ok (.pop, 1) := by decide +kernel
theorem dX11_tellCauldron_141 : decode cX11_tellCauldron 141 = .ok (.aload_n 0, 1) := by decide +kernel
theorem dX11_tellCauldron_142 : decode cX11_tellCauldron 142 = .ok (.getfield 86, 3) := by decide +kernel
theorem dX11_tellCauldron_145 : decode cX11_tellCauldron 145 = .ok (.invokevirtual 336, 3) := by decide +kernel
theorem dX11_tellCauldron_148 : decode cX11_tellCauldron 148 = .ok (.ireturn, 1) := by decide +kernel
theorem dX11_character_0 : decode cX11_character 0 = .ok (.iload_n 1, 1) := by decide +kernel
theorem dX11_character_1 : decode cX11_character 1 = .ok (.ifCond .lt 14, 3) := by decide +kernel
theorem dX11_character_4 : decode cX11_character 4 = .ok (.iload_n 1, 1) := by decide +kernel
theorem dX11_character_5 : decode cX11_character 5 = .ok (.aload_n 0, 1) := by decide +kernel
theorem dX11_character_6 : decode cX11_character 6 = .ok (.getfield 86, 3) := by decide +kernel
theorem dX11_character_9 : decode cX11_character 9 = .ok (.invokevirtual 336, 3) := by decide +kernel
theorem dX11_character_12 : decode cX11_character 12 = .ok (.if_icmp .lt 14, 3) := by decide +kernel
theorem dX11_character_15 : decode cX11_character 15 = .ok (.new 258, 3) := by decide +kernel
theorem dX11_character_18 : decode cX11_character 18 = .ok (.dup, 1) := by decide +kernel
theorem dX11_character_19 : decode cX11_character 19 = .ok (.ldc_w 342, 3) := by decide +kernel
theorem dX11_character_22 : decode cX11_character 22 = .ok (.invokespecial 260, 3) := by decide +kernel
theorem dX11_character_25 : decode cX11_character 25 = .ok (.athrow, 1) := by decide +kernel
theorem dX11_character_26 : decode cX11_character 26 = .ok (.aload_n 0, 1) := by decide +kernel
theorem dX11_character_27 : decode cX11_character 27 = .ok (.getfield 86, 3) := by decide +kernel
theorem dX11_character_30 : decode cX11_character 30 = .ok (.iload_n 1, 1) := by decide +kernel
theorem dX11_character_31 : decode cX11_character 31 = .ok (.invokevirtual 344, 3) := by decide +kernel
theorem dX11_character_34 : decode cX11_character 34 = .ok (.ireturn, 1) := by decide +kernel
theorem dX11_meanBits_0 : decode cX11_meanBits 0 = .ok (.aload_n 0, 1) := by decide +kernel
theorem dX11_meanBits_1 : decode cX11_meanBits 1 = .ok (.getfield 10, 3) := by decide +kernel
theorem dX11_meanBits_4 : decode cX11_meanBits 4 = .ok (.getfield 184, 3) := by decide +kernel
theorem dX11_meanBits_7 : decode cX11_meanBits 7 = .ok (.ifCond .ne 14, 3) := by decide +kernel
theorem dX11_meanBits_10 : decode cX11_meanBits 10 = .ok (.new 348, 3) := by decide +kernel
theorem dX11_meanBits_13 : decode cX11_meanBits 13 = .ok (.dup, 1) := by decide +kernel
theorem dX11_meanBits_14 : decode cX11_meanBits 14 = .ok (.ldc_w 350, 3) := by decide +kernel
theorem dX11_meanBits_17 : decode cX11_meanBits 17 = .ok (.invokespecial 352, 3) := by decide +kernel
theorem dX11_meanBits_20 : decode cX11_meanBits 20 = .ok (.athrow, 1) := by decide +kernel
theorem dX11_meanBits_21 : decode cX11_meanBits 21 = .ok (.dconst 0, 1) := by decide +kernel
theorem dX11_meanBits_22 : decode cX11_meanBits 22 = .ok (.dstore_n 1, 1) := by decide +kernel
theorem dX11_meanBits_23 : decode cX11_meanBits 23 = .ok (.iconst 0, 1) := by decide +kernel
theorem dX11_meanBits_24 : decode cX11_meanBits 24 = .ok (.istore_n 3, 1) := by decide +kernel
theorem dX11_meanBits_25 : decode cX11_meanBits 25 = .ok (.iload_n 3, 1) := by decide +kernel
theorem dX11_meanBits_26 : decode cX11_meanBits 26 = .ok (.aload_n 0, 1) := by decide +kernel
theorem dX11_meanBits_27 : decode cX11_meanBits 27 = .ok (.getfield 10, 3) := by decide +kernel
theorem dX11_meanBits_30 : decode cX11_meanBits 30 = .ok (.getfield 184, 3) := by decide +kernel
theorem dX11_meanBits_33 : decode cX11_meanBits 33 = .ok (.if_icmp .ge 56, 3) := by decide +kernel
theorem dX11_meanBits_36 : decode cX11_meanBits 36 = .ok (.aload_n 0, 1) := by decide +kernel
theorem dX11_meanBits_37 : decode cX11_meanBits 37 = .ok (.getfield 10, 3) := by decide +kernel
theorem dX11_meanBits_40 : decode cX11_meanBits 40 = .ok (.getfield 144, 3) := by decide +kernel
theorem dX11_meanBits_43 : decode cX11_meanBits 43 = .ok (.iload_n 3, 1) := by decide +kernel
theorem dX11_meanBits_44 : decode cX11_meanBits 44 = .ok (.baload, 1) := by decide +kernel
theorem dX11_meanBits_45 : decode cX11_meanBits 45 = .ok (.ifCond .eq 22, 3) := by decide +kernel
theorem dX11_meanBits_48 : decode cX11_meanBits 48 = .ok (.dload_n 1, 1) := by decide +kernel
theorem dX11_meanBits_49 : decode cX11_meanBits 49 = .ok (.aload_n 0, 1) := by decide +kernel
theorem dX11_meanBits_50 : decode cX11_meanBits 50 = .ok (.getfield 10, 3) := by decide +kernel
theorem dX11_meanBits_53 : decode cX11_meanBits 53 = .ok (.getfield 129, 3) := by decide +kernel
theorem dX11_meanBits_56 : decode cX11_meanBits 56 = .ok (.getfield 150, 3) := by decide +kernel
theorem dX11_meanBits_59 : decode cX11_meanBits 59 = .ok (.iload_n 3, 1) := by decide +kernel
theorem dX11_meanBits_60 : decode cX11_meanBits 60 = .ok (.faload, 1) := by decide +kernel
theorem dX11_meanBits_61 : decode cX11_meanBits 61 = .ok (.f2d, 1) := by decide +kernel
theorem dX11_meanBits_62 : decode cX11_meanBits 62 = .ok (.dadd, 1) := by decide +kernel
theorem dX11_meanBits_63 : decode cX11_meanBits 63 = .ok (.dstore_n 1, 1) := by decide +kernel
theorem dX11_meanBits_64 : decode cX11_meanBits 64 = .ok (.goto 19, 3) := by decide +kernel
theorem dX11_meanBits_67 : decode cX11_meanBits 67 = .ok (.dload_n 1, 1) := by decide +kernel
theorem dX11_meanBits_68 : decode cX11_meanBits 68 = .ok (.aload_n 0, 1) := by decide +kernel
theorem dX11_meanBits_69 : decode cX11_meanBits 69 = .ok (.getfield 10, 3) := by decide +kernel
theorem dX11_meanBits_72 : decode cX11_meanBits 72 = .ok (.getfield 129, 3) := by decide +kernel
theorem dX11_meanBits_75 : decode cX11_meanBits 75 = .ok (.getfield 133, 3) := by decide +kernel
theorem dX11_meanBits_78 : decode cX11_meanBits 78 = .ok (.iload_n 3, 1) := by decide +kernel
theorem dX11_meanBits_79 : decode cX11_meanBits 79 = .ok (.iaload, 1) := by decide +kernel
theorem dX11_meanBits_80 : decode cX11_meanBits 80 = .ok (.i2d, 1) := by decide +kernel
theorem dX11_meanBits_81 : decode cX11_meanBits 81 = .ok (.dadd, 1) := by decide +kernel
theorem dX11_meanBits_82 : decode cX11_meanBits 82 = .ok (.dstore_n 1, 1) := by decide +kernel
theorem dX11_meanBits_83 : decode cX11_meanBits 83 = .ok (.iinc 3 1, 3) := by decide +kernel
theorem dX11_meanBits_86 : decode cX11_meanBits 86 = .ok (.goto (-61), 3) := by decide +kernel
theorem dX11_meanBits_89 : decode cX11_meanBits 89 = .ok (.dload_n 1, 1) := by decide +kernel
theorem dX11_meanBits_90 : decode cX11_meanBits 90 = .ok (.aload_n 0, 1) := by decide +kernel
theorem dX11_meanBits_91 : decode cX11_meanBits 91 = .ok (.getfield 10, 3) := by decide +kernel
theorem dX11_meanBits_94 : decode cX11_meanBits 94 = .ok (.getfield 184, 3) := by decide +kernel
theorem dX11_meanBits_97 : decode cX11_meanBits 97 = .ok (.i2d, 1) := by decide +kernel
theorem dX11_meanBits_98 : decode cX11_meanBits 98 = .ok (.ddiv, 1) := by decide +kernel
theorem dX11_meanBits_99 : decode cX11_meanBits 99 = .ok (.invokestatic 353, 3) := by decide +kernel
theorem dX11_meanBits_102 : decode cX11_meanBits 102 = .ok (.lreturn, 1) := by decide +kernel
theorem dX11_typedShare_0 : decode cX11_typedShare 0 = .ok (.aload_n 0, 1) := by decide +kernel
theorem dX11_typedShare_1 : decode cX11_typedShare 1 = .ok (.getfield 10, 3) := by decide +kernel
theorem dX11_typedShare_4 : decode cX11_typedShare 4 = .ok (.getfield 179, 3) := by decide +kernel
theorem dX11_typedShare_7 : decode cX11_typedShare 7 = .ok (.ifCond .ne 14, 3) := by decide +kernel
theorem dX11_typedShare_10 : decode cX11_typedShare 10 = .ok (.new 348, 3) := by decide +kernel
theorem dX11_typedShare_13 : decode cX11_typedShare 13 = .ok (.dup, 1) := by decide +kernel
theorem dX11_typedShare_14 : decode cX11_typedShare 14 = .ok (.ldc_w 357, 3) := by decide +kernel
theorem dX11_typedShare_17 : decode cX11_typedShare 17 = .ok (.invokespecial 352, 3) := by decide +kernel
theorem dX11_typedShare_20 : decode cX11_typedShare 20 = .ok (.athrow, 1) := by decide +kernel
theorem dX11_typedShare_21 : decode cX11_typedShare 21 = .ok (.aload_n 0, 1) := by decide +kernel
theorem dX11_typedShare_22 : decode cX11_typedShare 22 = .ok (.invokevirtual 163, 3) := by decide +kernel
theorem dX11_typedShare_25 : decode cX11_typedShare 25 = .ok (.i2f, 1) := by decide +kernel
theorem dX11_typedShare_26 : decode cX11_typedShare 26 = .ok (.aload_n 0, 1) := by decide +kernel
theorem dX11_typedShare_27 : decode cX11_typedShare 27 = .ok (.getfield 10, 3) := by decide +kernel
theorem dX11_typedShare_30 : decode cX11_typedShare 30 = .ok (.getfield 179, 3) := by decide +kernel
theorem dX11_typedShare_33 : decode cX11_typedShare 33 = .ok (.i2f, 1) := by decide +kernel
theorem dX11_typedShare_34 : decode cX11_typedShare 34 = .ok (.fdiv, 1) := by decide +kernel
theorem dX11_typedShare_35 : decode cX11_typedShare 35 = .ok (.freturn, 1) := by decide +kernel
theorem dX11_account_0 : decode cX11_account 0 = .ok (.iload_n 1, 1) := by decide +kernel
theorem dX11_account_1 : decode cX11_account 1 = .ok (.tableswitch 126 0 9 #[55, 63, 71, 76, 84, 92, 100, 105, 113, 118], 55) := by decide +kernel
theorem dX11_account_56 : decode cX11_account 56 = .ok (.aload_n 0, 1) := by decide +kernel
theorem dX11_account_57 : decode cX11_account 57 = .ok (.getfield 10, 3) := by decide +kernel
theorem dX11_account_60 : decode cX11_account 60 = .ok (.getfield 184, 3) := by decide +kernel
theorem dX11_account_63 : decode cX11_account 63 = .ok (.ireturn, 1) := by decide +kernel
theorem dX11_account_64 : decode cX11_account 64 = .ok (.aload_n 0, 1) := by decide +kernel
theorem dX11_account_65 : decode cX11_account 65 = .ok (.getfield 10, 3) := by decide +kernel
theorem dX11_account_68 : decode cX11_account 68 = .ok (.getfield 179, 3) := by decide +kernel
theorem dX11_account_71 : decode cX11_account 71 = .ok (.ireturn, 1) := by decide +kernel
theorem dX11_account_72 : decode cX11_account 72 = .ok (.aload_n 0, 1) := by decide +kernel
theorem dX11_account_73 : decode cX11_account 73 = .ok (.invokevirtual 163, 3) := by decide +kernel
theorem dX11_account_76 : decode cX11_account 76 = .ok (.ireturn, 1) := by decide +kernel
theorem dX11_account_77 : decode cX11_account 77 = .ok (.aload_n 0, 1) := by decide +kernel
theorem dX11_account_78 : decode cX11_account 78 = .ok (.getfield 10, 3) := by decide +kernel
theorem dX11_account_81 : decode cX11_account 81 = .ok (.invokevirtual 359, 3) := by decide +kernel
theorem dX11_account_84 : decode cX11_account 84 = .ok (.ireturn, 1) := by decide +kernel
theorem dX11_account_85 : decode cX11_account 85 = .ok (.aload_n 0, 1) := by decide +kernel
theorem dX11_account_86 : decode cX11_account 86 = .ok (.getfield 10, 3) := by decide +kernel
theorem dX11_account_89 : decode cX11_account 89 = .ok (.getfield 362, 3) := by decide +kernel
theorem dX11_account_92 : decode cX11_account 92 = .ok (.ireturn, 1) := by decide +kernel
theorem dX11_account_93 : decode cX11_account 93 = .ok (.aload_n 0, 1) := by decide +kernel
theorem dX11_account_94 : decode cX11_account 94 = .ok (.getfield 10, 3) := by decide +kernel
theorem dX11_account_97 : decode cX11_account 97 = .ok (.getfield 365, 3) := by decide +kernel
theorem dX11_account_100 : decode cX11_account 100 = .ok (.ireturn, 1) := by decide +kernel
theorem dX11_account_101 : decode cX11_account 101 = .ok (.aload_n 0, 1) := by decide +kernel
theorem dX11_account_102 : decode cX11_account 102 = .ok (.getfield 90, 3) := by decide +kernel
theorem dX11_account_105 : decode cX11_account 105 = .ok (.ireturn, 1) := by decide +kernel
theorem dX11_account_106 : decode cX11_account 106 = .ok (.aload_n 0, 1) := by decide +kernel
theorem dX11_account_107 : decode cX11_account 107 = .ok (.getfield 10, 3) := by decide +kernel
theorem dX11_account_110 : decode cX11_account 110 = .ok (.invokevirtual 368, 3) := by decide +kernel
theorem dX11_account_113 : decode cX11_account 113 = .ok (.ireturn, 1) := by decide +kernel
theorem dX11_account_114 : decode cX11_account 114 = .ok (.aload_n 0, 1) := by decide +kernel
theorem dX11_account_115 : decode cX11_account 115 = .ok (.getfield 76, 3) := by decide +kernel
theorem dX11_account_118 : decode cX11_account 118 = .ok (.ireturn, 1) := by decide +kernel
theorem dX11_account_119 : decode cX11_account 119 = .ok (.aload_n 0, 1) := by decide +kernel
theorem dX11_account_120 : decode cX11_account 120 = .ok (.getfield 26, 3) := by decide +kernel
theorem dX11_account_123 : decode cX11_account 123 = .ok (.getfield 371, 3) := by decide +kernel
theorem dX11_account_126 : decode cX11_account 126 = .ok (.ireturn, 1) := by decide +kernel
theorem dX11_account_127 : decode cX11_account 127 = .ok (.new 139, 3) := by decide +kernel
theorem dX11_account_130 : decode cX11_account 130 = .ok (.dup, 1) := by decide +kernel
theorem dX11_account_131 : decode cX11_account 131 = .ok (.ldc_w 373, 3) := by decide +kernel
theorem dX11_account_134 : decode cX11_account 134 = .ok (.invokespecial 143, 3) := by decide +kernel
theorem dX11_account_137 : decode cX11_account 137 = .ok (.athrow, 1) := by decide +kernel
theorem dX11_append_0 : decode cX11_append 0 = .ok (.iload_n 1, 1) := by decide +kernel
theorem dX11_append_1 : decode cX11_append 1 = .ok (.bipush 32, 2) := by decide +kernel
theorem dX11_append_3 : decode cX11_append 3 = .ok (.if_icmp .lt 9, 3) := by decide +kernel
theorem dX11_append_6 : decode cX11_append 6 = .ok (.iload_n 1, 1) := by decide +kernel
theorem dX11_append_7 : decode cX11_append 7 = .ok (.bipush 126, 2) := by decide +kernel
theorem dX11_append_9 : decode cX11_append 9 = .ok (.if_icmp .le 14, 3) := by decide +kernel
theorem dX11_append_12 : decode cX11_append 12 = .ok (.new 139, 3) := by decide +kernel
theorem dX11_append_15 : decode cX11_append 15 = .ok (.dup, 1) := by decide +kernel
theorem dX11_append_16 : decode cX11_append 16 = .ok (.ldc_w 375, 3) := by decide +kernel
theorem dX11_append_19 : decode cX11_append 19 = .ok (.invokespecial 143, 3) := by decide +kernel
theorem dX11_append_22 : decode cX11_append 22 = .ok (.athrow, 1) := by decide +kernel
theorem dX11_append_23 : decode cX11_append 23 = .ok (.aload_n 0, 1) := by decide +kernel
theorem dX11_append_24 : decode cX11_append 24 = .ok (.getfield 76, 3) := by decide +kernel
theorem dX11_append_27 : decode cX11_append 27 = .ok (.bipush 60, 2) := by decide +kernel
theorem dX11_append_29 : decode cX11_append 29 = .ok (.if_icmp .lt 14, 3) := by decide +kernel
theorem dX11_append_32 : decode cX11_append 32 = .ok (.new 377, 3) := by decide +kernel
theorem dX11_append_35 : decode cX11_append 35 = .ok (.dup, 1) := by decide +kernel
theorem dX11_append_36 : decode cX11_append 36 = .ok (.ldc_w 379, 3) := by decide +kernel
theorem dX11_append_39 : decode cX11_append 39 = .ok (.invokespecial 381, 3) := by decide +kernel
theorem dX11_append_42 : decode cX11_append 42 = .ok (.athrow, 1) := by decide +kernel
theorem dX11_append_43 : decode cX11_append 43 = .ok (.aload_n 0, 1) := by decide +kernel
theorem dX11_append_44 : decode cX11_append 44 = .ok (.getfield 72, 3) := by decide +kernel
theorem dX11_append_47 : decode cX11_append 47 = .ok (.aload_n 0, 1) := by decide +kernel
theorem dX11_append_48 : decode cX11_append 48 = .ok (.getfield 76, 3) := by decide +kernel
theorem dX11_append_51 : decode cX11_append 51 = .ok (.iload_n 1, 1) := by decide +kernel
theorem dX11_append_52 : decode cX11_append 52 = .ok (.castore, 1) := by decide +kernel
theorem dX11_append_53 : decode cX11_append 53 = .ok (.aload_n 0, 1) := by decide +kernel
theorem dX11_append_54 : decode cX11_append 54 = .ok (.dup, 1) := by decide +kernel
theorem dX11_append_55 : decode cX11_append 55 = .ok (.getfield 76, 3) := by decide +kernel
theorem dX11_append_58 : decode cX11_append 58 = .ok (.iconst 1, 1) := by decide +kernel
theorem dX11_append_59 : decode cX11_append 59 = .ok (.iadd, 1) := by decide +kernel
theorem dX11_append_60 : decode cX11_append 60 = .ok (.putfield 76, 3) := by decide +kernel
theorem dX11_append_63 : decode cX11_append 63 = .ok (.aload_n 0, 1) := by decide +kernel
theorem dX11_append_64 : decode cX11_append 64 = .ok (.getfield 76, 3) := by decide +kernel
theorem dX11_append_67 : decode cX11_append 67 = .ok (.ireturn, 1) := by decide +kernel
theorem dX11_reason_0 : decode cX11_reason 0 = .ok (.aload_n 0, 1) := by decide +kernel
theorem dX11_reason_1 : decode cX11_reason 1 = .ok (.getfield 33, 3) := by decide +kernel
theorem dX11_reason_4 : decode cX11_reason 4 = .ok (.getfield 384, 3) := by decide +kernel
theorem dX11_reason_7 : decode cX11_reason 7 = .ok (.ifCond .ne 14, 3) := by decide +kernel
theorem dX11_reason_10 : decode cX11_reason 10 = .ok (.new 258, 3) := by decide +kernel
theorem dX11_reason_13 : decode cX11_reason 13 = .ok (.dup, 1) := by decide +kernel
theorem dX11_reason_14 : decode cX11_reason 14 = .ok (.ldc_w 387, 3) := by decide +kernel
theorem dX11_reason_17 : decode cX11_reason 17 = .ok (.invokespecial 260, 3) := by decide +kernel
theorem dX11_reason_20 : decode cX11_reason 20 = .ok (.athrow, 1) := by decide +kernel
theorem dX11_reason_21 : decode cX11_reason 21 = .ok (.iload_n 1, 1) := by decide +kernel
theorem dX11_reason_22 : decode cX11_reason 22 = .ok (.ifCond .ne 25, 3) := by decide +kernel
theorem dX11_reason_25 : decode cX11_reason 25 = .ok (.iload_n 2, 1) := by decide +kernel
theorem dX11_reason_26 : decode cX11_reason 26 = .ok (.ifCond .eq 13, 3) := by decide +kernel
theorem dX11_reason_29 : decode cX11_reason 29 = .ok (.aload_n 0, 1) := by decide +kernel
theorem dX11_reason_30 : decode cX11_reason 30 = .ok (.getfield 33, 3) := by decide +kernel
theorem dX11_reason_33 : decode cX11_reason 33 = .ok (.getfield 389, 3) := by decide +kernel
theorem dX11_reason_36 : decode cX11_reason 36 = .ok (.goto 10, 3) := by decide +kernel
theorem dX11_reason_39 : decode cX11_reason 39 = .ok (.aload_n 0, 1) := by decide +kernel
theorem dX11_reason_40 : decode cX11_reason 40 = .ok (.getfield 33, 3) := by decide +kernel
theorem dX11_reason_43 : decode cX11_reason 43 = .ok (.getfield 392, 3) := by decide +kernel
theorem dX11_reason_46 : decode cX11_reason 46 = .ok (.ireturn, 1) := by decide +kernel
theorem dX11_reason_47 : decode cX11_reason 47 = .ok (.aload_n 0, 1) := by decide +kernel
theorem dX11_reason_48 : decode cX11_reason 48 = .ok (.getfield 33, 3) := by decide +kernel
theorem dX11_reason_51 : decode cX11_reason 51 = .ok (.getfield 395, 3) := by decide +kernel
theorem dX11_reason_54 : decode cX11_reason 54 = .ok (.ifCond .ne 14, 3) := by decide +kernel
theorem dX11_reason_57 : decode cX11_reason 57 = .ok (.new 258, 3) := by decide +kernel
theorem dX11_reason_60 : decode cX11_reason 60 = .ok (.dup, 1) := by decide +kernel
theorem dX11_reason_61 : decode cX11_reason 61 = .ok (.ldc_w 398, 3) := by decide +kernel
theorem dX11_reason_64 : decode cX11_reason 64 = .ok (.invokespecial 260, 3) := by decide +kernel
theorem dX11_reason_67 : decode cX11_reason 67 = .ok (.athrow, 1) := by decide +kernel
theorem dX11_reason_68 : decode cX11_reason 68 = .ok (.iload_n 2, 1) := by decide +kernel
theorem dX11_reason_69 : decode cX11_reason 69 = .ok (.ifCond .eq 13, 3) := by decide +kernel
theorem dX11_reason_72 : decode cX11_reason 72 = .ok (.aload_n 0, 1) := by decide +kernel
theorem dX11_reason_73 : decode cX11_reason 73 = .ok (.getfield 33, 3) := by decide +kernel
theorem dX11_reason_76 : decode cX11_reason 76 = .ok (.getfield 400, 3) := by decide +kernel
theorem dX11_reason_79 : decode cX11_reason 79 = .ok (.goto 10, 3) := by decide +kernel
theorem dX11_reason_82 : decode cX11_reason 82 = .ok (.aload_n 0, 1) := by decide +kernel
theorem dX11_reason_83 : decode cX11_reason 83 = .ok (.getfield 33, 3) := by decide +kernel
theorem dX11_reason_86 : decode cX11_reason 86 = .ok (.getfield 401, 3) := by decide +kernel
theorem dX11_reason_89 : decode cX11_reason 89 = .ok (.ireturn, 1) := by decide +kernel
theorem dX11_undo_0 : decode cX11_undo 0 = .ok (.aload_n 0, 1) := by decide +kernel
theorem dX11_undo_1 : decode cX11_undo 1 = .ok (.getfield 26, 3) := by decide +kernel
theorem dX11_undo_4 : decode cX11_undo 4 = .ok (.getfield 371, 3) := by decide +kernel
theorem dX11_undo_7 : decode cX11_undo 7 = .ok (.ifCond .ne 14, 3) := by decide +kernel
theorem dX11_undo_10 : decode cX11_undo 10 = .ok (.new 258, 3) := by decide +kernel
theorem dX11_undo_13 : decode cX11_undo 13 = .ok (.dup, 1) := by decide +kernel
theorem dX11_undo_14 : decode cX11_undo 14 = .ok (.ldc_w 402, 3) := by decide +kernel
theorem dX11_undo_17 : decode cX11_undo 17 = .ok (.invokespecial 260, 3) := by decide +kernel
theorem dX11_undo_20 : decode cX11_undo 20 = .ok (.athrow, 1) := by decide +kernel
theorem dX11_undo_21 : decode cX11_undo 21 = .ok (.aload_n 0, 1) := by decide +kernel
theorem dX11_undo_22 : decode cX11_undo 22 = .ok (.getfield 26, 3) := by decide +kernel
theorem dX11_undo_25 : decode cX11_undo 25 = .ok (.aload_n 0, 1) := by decide +kernel
theorem dX11_undo_26 : decode cX11_undo 26 = .ok (.getfield 10, 3) := by decide +kernel
theorem dX11_undo_29 : decode cX11_undo 29 = .ok (.invokevirtual 404, 3) := by decide +kernel
theorem dX11_undo_32 : decode cX11_undo 32 = .ok (.aload_n 0, 1) := by decide +kernel
theorem dX11_undo_33 : decode cX11_undo 33 = .ok (.getfield 26, 3) := by decide +kernel
theorem dX11_undo_36 : decode cX11_undo 36 = .ok (.getfield 371, 3) := by decide +kernel
theorem dX11_undo_39 : decode cX11_undo 39 = .ok (.ireturn, 1) := by decide +kernel
theorem dX11_needCauldron_0 : decode cX11_needCauldron 0 = .ok (.iload_n 1, 1) := by decide +kernel
theorem dX11_needCauldron_1 : decode cX11_needCauldron 1 = .ok (.ifCond .lt 14, 3) := by decide +kernel
theorem dX11_needCauldron_4 : decode cX11_needCauldron 4 = .ok (.iload_n 1, 1) := by decide +kernel
theorem dX11_needCauldron_5 : decode cX11_needCauldron 5 = .ok (.aload_n 0, 1) := by decide +kernel
theorem dX11_needCauldron_6 : decode cX11_needCauldron 6 = .ok (.getfield 10, 3) := by decide +kernel
theorem dX11_needCauldron_9 : decode cX11_needCauldron 9 = .ok (.getfield 184, 3) := by decide +kernel
theorem dX11_needCauldron_12 : decode cX11_needCauldron 12 = .ok (.if_icmp .lt 14, 3) := by decide +kernel
theorem dX11_needCauldron_15 : decode cX11_needCauldron 15 = .ok (.new 415, 3) := by decide +kernel
theorem dX11_needCauldron_18 : decode cX11_needCauldron 18 = .ok (.dup, 1) := by decide +kernel
theorem dX11_needCauldron_19 : decode cX11_needCauldron 19 = .ok (.ldc_w 417, 3) := by decide +kernel
theorem dX11_needCauldron_22 : decode cX11_needCauldron 22 = .ok (.invokespecial 419, 3) := by decide +kernel
theorem dX11_needCauldron_25 : decode cX11_needCauldron 25 = .ok (.athrow, 1) := by decide +kernel
theorem dX11_needCauldron_26 : decode cX11_needCauldron 26 = .ok (.return_, 1) := by decide +kernel
theorem dX11_needSpell_0 : decode cX11_needSpell 0 = .ok (.aload_n 0, 1) := by decide +kernel
theorem dX11_needSpell_1 : decode cX11_needSpell 1 = .ok (.getfield 10, 3) := by decide +kernel
theorem dX11_needSpell_4 : decode cX11_needSpell 4 = .ok (.iload_n 1, 1) := by decide +kernel
theorem dX11_needSpell_5 : decode cX11_needSpell 5 = .ok (.invokevirtual 240, 3) := by decide +kernel
theorem dX11_needSpell_8 : decode cX11_needSpell 8 = .ok (.astore_n 2, 1) := by decide +kernel
theorem dX11_needSpell_9 : decode cX11_needSpell 9 = .ok (.aload_n 2, 1) := by decide +kernel
theorem dX11_needSpell_10 : decode cX11_needSpell 10 = .ok (.ifnonnull 14, 3) := by decide +kernel
theorem dX11_needSpell_13 : decode cX11_needSpell 13 = .ok (.new 415, 3) := by decide +kernel
theorem dX11_needSpell_16 : decode cX11_needSpell 16 = .ok (.dup, 1) := by decide +kernel
theorem dX11_needSpell_17 : decode cX11_needSpell 17 = .ok (.ldc_w 420, 3) := by decide +kernel
theorem dX11_needSpell_20 : decode cX11_needSpell 20 = .ok (.invokespecial 419, 3) := by decide +kernel
theorem dX11_needSpell_23 : decode cX11_needSpell 23 = .ok (.athrow, 1) := by decide +kernel
theorem dX11_needSpell_24 : decode cX11_needSpell 24 = .ok (.aload_n 2, 1) := by decide +kernel
theorem dX11_needSpell_25 : decode cX11_needSpell 25 = .ok (.areturn, 1) := by decide +kernel
theorem dX11_needBounds_0 : decode cX11_needBounds 0 = .ok (.iload_n 1, 1) := by decide +kernel
theorem dX11_needBounds_1 : decode cX11_needBounds 1 = .ok (.bipush (-99), 2) := by decide +kernel
theorem dX11_needBounds_3 : decode cX11_needBounds 3 = .ok (.if_icmp .lt 14, 3) := by decide +kernel
theorem dX11_needBounds_6 : decode cX11_needBounds 6 = .ok (.iload_n 2, 1) := by decide +kernel
theorem dX11_needBounds_7 : decode cX11_needBounds 7 = .ok (.bipush 99, 2) := by decide +kernel
theorem dX11_needBounds_9 : decode cX11_needBounds 9 = .ok (.if_icmp .gt 8, 3) := by decide +kernel
theorem dX11_needBounds_12 : decode cX11_needBounds 12 = .ok (.iload_n 1, 1) := by decide +kernel
theorem dX11_needBounds_13 : decode cX11_needBounds 13 = .ok (.iload_n 2, 1) := by decide +kernel
theorem dX11_needBounds_14 : decode cX11_needBounds 14 = .ok (.if_icmp .le 14, 3) := by decide +kernel
theorem dX11_needBounds_17 : decode cX11_needBounds 17 = .ok (.new 139, 3) := by decide +kernel
theorem dX11_needBounds_20 : decode cX11_needBounds 20 = .ok (.dup, 1) := by decide +kernel
theorem dX11_needBounds_21 : decode cX11_needBounds 21 = .ok (.ldc_w 422, 3) := by decide +kernel
theorem dX11_needBounds_24 : decode cX11_needBounds 24 = .ok (.invokespecial 143, 3) := by decide +kernel
theorem dX11_needBounds_27 : decode cX11_needBounds 27 = .ok (.athrow, 1) := by decide +kernel
theorem dX11_needBounds_28 : decode cX11_needBounds 28 = .ok (.return_, 1) := by decide +kernel
theorem dX11_needRoomForCauldron_0 : decode cX11_needRoomForCauldron 0 = .ok (.aload_n 0, 1) := by decide +kernel
theorem dX11_needRoomForCauldron_1 : decode cX11_needRoomForCauldron 1 = .ok (.getfield 10, 3) := by decide +kernel
theorem dX11_needRoomForCauldron_4 : decode cX11_needRoomForCauldron 4 = .ok (.getfield 184, 3) := by decide +kernel
theorem dX11_needRoomForCauldron_7 : decode cX11_needRoomForCauldron 7 = .ok (.bipush 6, 2) := by decide +kernel
theorem dX11_needRoomForCauldron_9 : decode cX11_needRoomForCauldron 9 = .ok (.if_icmp .lt 29, 3) := by decide +kernel
theorem dX11_needRoomForCauldron_12 : decode cX11_needRoomForCauldron 12 = .ok (.aload_n 0, 1) := by decide +kernel
theorem dX11_needRoomForCauldron_13 : decode cX11_needRoomForCauldron 13 = .ok (.getfield 33, 3) := by decide +kernel
theorem dX11_needRoomForCauldron_16 : decode cX11_needRoomForCauldron 16 = .ok (.iconst 1, 1) := by decide +kernel
theorem dX11_needRoomForCauldron_17 : decode cX11_needRoomForCauldron 17 = .ok (.aload_n 0, 1) := by decide +kernel
theorem dX11_needRoomForCauldron_18 : decode cX11_needRoomForCauldron 18 = .ok (.getfield 10, 3) := by decide +kernel
theorem dX11_needRoomForCauldron_21 : decode cX11_needRoomForCauldron 21 = .ok (.getfield 184, 3) := by decide +kernel
theorem dX11_needRoomForCauldron_24 : decode cX11_needRoomForCauldron 24 = .ok (.invokevirtual 119, 3) := by decide +kernel
theorem dX11_needRoomForCauldron_27 : decode cX11_needRoomForCauldron 27 = .ok (.new 122, 3) := by decide +kernel
theorem dX11_needRoomForCauldron_30 : decode cX11_needRoomForCauldron 30 = .ok (.dup, 1) := by decide +kernel
theorem dX11_needRoomForCauldron_31 : decode cX11_needRoomForCauldron 31 = .ok (.ldc_w 424, 3) := by decide +kernel
theorem dX11_needRoomForCauldron_34 : decode cX11_needRoomForCauldron 34 = .ok (.invokespecial 126, 3) := by decide +kernel
theorem dX11_needRoomForCauldron_37 : decode cX11_needRoomForCauldron 37 = .ok (.athrow, 1) := by decide +kernel
theorem dX11_needRoomForCauldron_38 : decode cX11_needRoomForCauldron 38 = .ok (.return_, 1) := by decide +kernel
theorem dX11_needDrams_0 : decode cX11_needDrams 0 = .ok (.aload_n 0, 1) := by decide +kernel
theorem dX11_needDrams_1 : decode cX11_needDrams 1 = .ok (.getfield 10, 3) := by decide +kernel
theorem dX11_needDrams_4 : decode cX11_needDrams 4 = .ok (.getfield 144, 3) := by decide +kernel
theorem dX11_needDrams_7 : decode cX11_needDrams 7 = .ok (.iload_n 1, 1) := by decide +kernel
theorem dX11_needDrams_8 : decode cX11_needDrams 8 = .ok (.baload, 1) := by decide +kernel
theorem dX11_needDrams_9 : decode cX11_needDrams 9 = .ok (.ifCond .eq 23, 3) := by decide +kernel
theorem dX11_needDrams_12 : decode cX11_needDrams 12 = .ok (.aload_n 0, 1) := by decide +kernel
theorem dX11_needDrams_13 : decode cX11_needDrams 13 = .ok (.getfield 33, 3) := by decide +kernel
theorem dX11_needDrams_16 : decode cX11_needDrams 16 = .ok (.iconst 2, 1) := by decide +kernel
theorem dX11_needDrams_17 : decode cX11_needDrams 17 = .ok (.iload_n 1, 1) := by decide +kernel
theorem dX11_needDrams_18 : decode cX11_needDrams 18 = .ok (.invokevirtual 119, 3) := by decide +kernel
theorem dX11_needDrams_21 : decode cX11_needDrams 21 = .ok (.new 122, 3) := by decide +kernel
theorem dX11_needDrams_24 : decode cX11_needDrams 24 = .ok (.dup, 1) := by decide +kernel
theorem dX11_needDrams_25 : decode cX11_needDrams 25 = .ok (.ldc_w 426, 3) := by decide +kernel
theorem dX11_needDrams_28 : decode cX11_needDrams 28 = .ok (.invokespecial 126, 3) := by decide +kernel
theorem dX11_needDrams_31 : decode cX11_needDrams 31 = .ok (.athrow, 1) := by decide +kernel
theorem dX11_needDrams_32 : decode cX11_needDrams 32 = .ok (.return_, 1) := by decide +kernel
theorem dX11_countTyped_0 : decode cX11_countTyped 0 = .ok (.iconst 0, 1) := by decide +kernel
theorem dX11_countTyped_1 : decode cX11_countTyped 1 = .ok (.istore_n 1, 1) := by decide +kernel
theorem dX11_countTyped_2 : decode cX11_countTyped 2 = .ok (.iconst 0, 1) := by decide +kernel
theorem dX11_countTyped_3 : decode cX11_countTyped 3 = .ok (.istore_n 2, 1) := by decide +kernel
theorem dX11_countTyped_4 : decode cX11_countTyped 4 = .ok (.iload_n 2, 1) := by decide +kernel
theorem dX11_countTyped_5 : decode cX11_countTyped 5 = .ok (.aload_n 0, 1) := by decide +kernel
theorem dX11_countTyped_6 : decode cX11_countTyped 6 = .ok (.getfield 10, 3) := by decide +kernel
theorem dX11_countTyped_9 : decode cX11_countTyped 9 = .ok (.getfield 179, 3) := by decide +kernel
theorem dX11_countTyped_12 : decode cX11_countTyped 12 = .ok (.if_icmp .ge 40, 3) := by decide +kernel
theorem dX11_countTyped_15 : decode cX11_countTyped 15 = .ok (.aload_n 0, 1) := by decide +kernel
theorem dX11_countTyped_16 : decode cX11_countTyped 16 = .ok (.getfield 10, 3) := by decide +kernel
theorem dX11_countTyped_19 : decode cX11_countTyped 19 = .ok (.iload_n 2, 1) := by decide +kernel
theorem dX11_countTyped_20 : decode cX11_countTyped 20 = .ok (.invokevirtual 240, 3) := by decide +kernel
theorem dX11_countTyped_23 : decode cX11_countTyped 23 = .ok (.astore_n 3, 1) := by decide +kernel
theorem dX11_countTyped_24 : decode cX11_countTyped 24 = .ok (.aload_n 3, 1) := by decide +kernel
theorem dX11_countTyped_25 : decode cX11_countTyped 25 = .ok (.ifnull 21, 3) := by decide +kernel
theorem dX11_countTyped_28 : decode cX11_countTyped 28 = .ok (.aload_n 0, 1) := by decide +kernel
theorem dX11_countTyped_29 : decode cX11_countTyped 29 = .ok (.getfield 47, 3) := by decide +kernel
theorem dX11_countTyped_32 : decode cX11_countTyped 32 = .ok (.aload_n 3, 1) := by decide +kernel
theorem dX11_countTyped_33 : decode cX11_countTyped 33 = .ok (.aload_n 0, 1) := by decide +kernel
theorem dX11_countTyped_34 : decode cX11_countTyped 34 = .ok (.getfield 10, 3) := by decide +kernel
theorem dX11_countTyped_37 : decode cX11_countTyped 37 = .ok (.invokevirtual 243, 3) := by decide +kernel
theorem dX11_countTyped_40 : decode cX11_countTyped 40 = .ok (.ifCond .eq 6, 3) := by decide +kernel
theorem dX11_countTyped_43 : decode cX11_countTyped 43 = .ok (.iinc 1 1, 3) := by decide +kernel
theorem dX11_countTyped_46 : decode cX11_countTyped 46 = .ok (.iinc 2 1, 3) := by decide +kernel
theorem dX11_countTyped_49 : decode cX11_countTyped 49 = .ok (.goto (-45), 3) := by decide +kernel
theorem dX11_countTyped_52 : decode cX11_countTyped 52 = .ok (.iload_n 1, 1) := by decide +kernel
theorem dX11_countTyped_53 : decode cX11_countTyped 53 = .ok (.ireturn, 1) := by decide +kernel
