theorem dX0_init_0 : decode cX0_init 0 = .ok (.aload_n 0, 1) := by decide +kernel
theorem dX0_init_1 : decode cX0_init 1 = .ok (.invokespecial 3, 3) := by decide +kernel
theorem dX0_init_4 : decode cX0_init 4 = .ok (.aload_n 0, 1) := by decide +kernel
theorem dX0_init_5 : decode cX0_init 5 = .ok (.bipush 31, 2) := by decide +kernel
theorem dX0_init_7 : decode cX0_init 7 = .ok (.newarray .long, 2) := by decide +kernel
theorem dX0_init_9 : decode cX0_init 9 = .ok (.putfield 9, 3) := by decide +kernel
theorem dX0_init_12 : decode cX0_init 12 = .ok (.aload_n 0, 1) := by decide +kernel
theorem dX0_init_13 : decode cX0_init 13 = .ok (.bipush 31, 2) := by decide +kernel
theorem dX0_init_15 : decode cX0_init 15 = .ok (.newarray .long, 2) := by decide +kernel
theorem dX0_init_17 : decode cX0_init 17 = .ok (.putfield 15, 3) := by decide +kernel
theorem dX0_init_20 : decode cX0_init 20 = .ok (.aload_n 0, 1) := by decide +kernel
theorem dX0_init_21 : decode cX0_init 21 = .ok (.sipush 320, 3) := by decide +kernel
theorem dX0_init_24 : decode cX0_init 24 = .ok (.newarray .long, 2) := by decide +kernel
theorem dX0_init_26 : decode cX0_init 26 = .ok (.putfield 20, 3) := by decide +kernel
theorem dX0_init_29 : decode cX0_init 29 = .ok (.aload_n 0, 1) := by decide +kernel
theorem dX0_init_30 : decode cX0_init 30 = .ok (.sipush 320, 3) := by decide +kernel
theorem dX0_init_33 : decode cX0_init 33 = .ok (.newarray .long, 2) := by decide +kernel
theorem dX0_init_35 : decode cX0_init 35 = .ok (.putfield 23, 3) := by decide +kernel
theorem dX0_init_38 : decode cX0_init 38 = .ok (.return_, 1) := by decide +kernel
theorem dX0_begin_0 : decode cX0_begin 0 = .ok (.aload_n 0, 1) := by decide +kernel
theorem dX0_begin_1 : decode cX0_begin 1 = .ok (.getfield 20, 3) := by decide +kernel
theorem dX0_begin_4 : decode cX0_begin 4 = .ok (.lconst 0, 1) := by decide +kernel
theorem dX0_begin_5 : decode cX0_begin 5 = .ok (.invokestatic 26, 3) := by decide +kernel
theorem dX0_begin_8 : decode cX0_begin 8 = .ok (.aload_n 0, 1) := by decide +kernel
theorem dX0_begin_9 : decode cX0_begin 9 = .ok (.getfield 20, 3) := by decide +kernel
theorem dX0_begin_12 : decode cX0_begin 12 = .ok (.iconst 0, 1) := by decide +kernel
theorem dX0_begin_13 : decode cX0_begin 13 = .ok (.lconst 1, 1) := by decide +kernel
theorem dX0_begin_14 : decode cX0_begin 14 = .ok (.lastore, 1) := by decide +kernel
theorem dX0_begin_15 : decode cX0_begin 15 = .ok (.aload_n 0, 1) := by decide +kernel
theorem dX0_begin_16 : decode cX0_begin 16 = .ok (.iconst 0, 1) := by decide +kernel
theorem dX0_begin_17 : decode cX0_begin 17 = .ok (.putfield 32, 3) := by decide +kernel
theorem dX0_begin_20 : decode cX0_begin 20 = .ok (.aload_n 0, 1) := by decide +kernel
theorem dX0_begin_21 : decode cX0_begin 21 = .ok (.aload_n 1, 1) := by decide +kernel
theorem dX0_begin_22 : decode cX0_begin 22 = .ok (.invokevirtual 36, 3) := by decide +kernel
theorem dX0_begin_25 : decode cX0_begin 25 = .ok (.return_, 1) := by decide +kernel
theorem dX0_countTo_0 : decode cX0_countTo 0 = .ok (.aload_n 0, 1) := by decide +kernel
theorem dX0_countTo_1 : decode cX0_countTo 1 = .ok (.getfield 32, 3) := by decide +kernel
theorem dX0_countTo_4 : decode cX0_countTo 4 = .ok (.iload_n 2, 1) := by decide +kernel
theorem dX0_countTo_5 : decode cX0_countTo 5 = .ok (.if_icmp .ge 35, 3) := by decide +kernel
theorem dX0_countTo_8 : decode cX0_countTo 8 = .ok (.aload_n 0, 1) := by decide +kernel
theorem dX0_countTo_9 : decode cX0_countTo 9 = .ok (.getfield 32, 3) := by decide +kernel
theorem dX0_countTo_12 : decode cX0_countTo 12 = .ok (.bipush 30, 2) := by decide +kernel
theorem dX0_countTo_14 : decode cX0_countTo 14 = .ok (.if_icmp .ge 26, 3) := by decide +kernel
theorem dX0_countTo_17 : decode cX0_countTo 17 = .ok (.aload_n 0, 1) := by decide +kernel
theorem dX0_countTo_18 : decode cX0_countTo 18 = .ok (.aload_n 1, 1) := by decide +kernel
theorem dX0_countTo_19 : decode cX0_countTo 19 = .ok (.invokevirtual 40, 3) := by decide +kernel
theorem dX0_countTo_22 : decode cX0_countTo 22 = .ok (.aload_n 0, 1) := by decide +kernel
theorem dX0_countTo_23 : decode cX0_countTo 23 = .ok (.dup, 1) := by decide +kernel
theorem dX0_countTo_24 : decode cX0_countTo 24 = .ok (.getfield 32, 3) := by decide +kernel
theorem dX0_countTo_27 : decode cX0_countTo 27 = .ok (.iconst 1, 1) := by decide +kernel
theorem dX0_countTo_28 : decode cX0_countTo 28 = .ok (.iadd, 1) := by decide +kernel
theorem dX0_countTo_29 : decode cX0_countTo 29 = .ok (.putfield 32, 3) := by decide +kernel
theorem dX0_countTo_32 : decode cX0_countTo 32 = .ok (.aload_n 0, 1) := by decide +kernel
theorem dX0_countTo_33 : decode cX0_countTo 33 = .ok (.aload_n 1, 1) := by decide +kernel
theorem dX0_countTo_34 : decode cX0_countTo 34 = .ok (.invokevirtual 36, 3) := by decide +kernel
theorem dX0_countTo_37 : decode cX0_countTo 37 = .ok (.goto (-37), 3) := by decide +kernel
theorem dX0_countTo_40 : decode cX0_countTo 40 = .ok (.return_, 1) := by decide +kernel
theorem dX0_addLetter_0 : decode cX0_addLetter 0 = .ok (.iconst 0, 1) := by decide +kernel
theorem dX0_addLetter_1 : decode cX0_addLetter 1 = .ok (.istore_n 2, 1) := by decide +kernel
theorem dX0_addLetter_2 : decode cX0_addLetter 2 = .ok (.iload_n 2, 1) := by decide +kernel
theorem dX0_addLetter_3 : decode cX0_addLetter 3 = .ok (.aload_n 1, 1) := by decide +kernel
theorem dX0_addLetter_4 : decode cX0_addLetter 4 = .ok (.getfield 43, 3) := by decide +kernel
theorem dX0_addLetter_7 : decode cX0_addLetter 7 = .ok (.if_icmp .ge 16, 3) := by decide +kernel
theorem dX0_addLetter_10 : decode cX0_addLetter 10 = .ok (.aload_n 0, 1) := by decide +kernel
theorem dX0_addLetter_11 : decode cX0_addLetter 11 = .ok (.getfield 23, 3) := by decide +kernel
theorem dX0_addLetter_14 : decode cX0_addLetter 14 = .ok (.iload_n 2, 1) := by decide +kernel
theorem dX0_addLetter_15 : decode cX0_addLetter 15 = .ok (.lconst 0, 1) := by decide +kernel
theorem dX0_addLetter_16 : decode cX0_addLetter 16 = .ok (.lastore, 1) := by decide +kernel
theorem dX0_addLetter_17 : decode cX0_addLetter 17 = .ok (.iinc 2 1, 3) := by decide +kernel
theorem dX0_addLetter_20 : decode cX0_addLetter 20 = .ok (.goto (-18), 3) := by decide +kernel
theorem dX0_addLetter_23 : decode cX0_addLetter 23 = .ok (.iconst 0, 1) := by decide +kernel
theorem dX0_addLetter_24 : decode cX0_addLetter 24 = .ok (.istore_n 2, 1) := by decide +kernel
theorem dX0_addLetter_25 : decode cX0_addLetter 25 = .ok (.iload_n 2, 1) := by decide +kernel
theorem dX0_addLetter_26 : decode cX0_addLetter 26 = .ok (.aload_n 1, 1) := by decide +kernel
theorem dX0_addLetter_27 : decode cX0_addLetter 27 = .ok (.getfield 43, 3) := by decide +kernel
theorem dX0_addLetter_30 : decode cX0_addLetter 30 = .ok (.if_icmp .ge 57, 3) := by decide +kernel
theorem dX0_addLetter_33 : decode cX0_addLetter 33 = .ok (.aload_n 0, 1) := by decide +kernel
theorem dX0_addLetter_34 : decode cX0_addLetter 34 = .ok (.getfield 20, 3) := by decide +kernel
theorem dX0_addLetter_37 : decode cX0_addLetter 37 = .ok (.iload_n 2, 1) := by decide +kernel
theorem dX0_addLetter_38 : decode cX0_addLetter 38 = .ok (.laload, 1) := by decide +kernel
theorem dX0_addLetter_39 : decode cX0_addLetter 39 = .ok (.lstore_n 3, 1) := by decide +kernel
theorem dX0_addLetter_40 : decode cX0_addLetter 40 = .ok (.iconst 0, 1) := by decide +kernel
theorem dX0_addLetter_41 : decode cX0_addLetter 41 = .ok (.istore 5, 2) := by decide +kernel
theorem dX0_addLetter_43 : decode cX0_addLetter 43 = .ok (.iload 5, 2) := by decide +kernel
theorem dX0_addLetter_45 : decode cX0_addLetter 45 = .ok (.iconst 3, 1) := by decide +kernel
theorem dX0_addLetter_46 : decode cX0_addLetter 46 = .ok (.if_icmp .ge 35, 3) := by decide +kernel
theorem dX0_addLetter_49 : decode cX0_addLetter 49 = .ok (.lload_n 3, 1) := by decide +kernel
theorem dX0_addLetter_50 : decode cX0_addLetter 50 = .ok (.lconst 0, 1) := by decide +kernel
theorem dX0_addLetter_51 : decode cX0_addLetter 51 = .ok (.lcmp, 1) := by decide +kernel
theorem dX0_addLetter_52 : decode cX0_addLetter 52 = .ok (.ifCond .le 29, 3) := by decide +kernel
theorem dX0_addLetter_55 : decode cX0_addLetter 55 = .ok (.aload_n 0, 1) := by decide +kernel
theorem dX0_addLetter_56 : decode cX0_addLetter 56 = .ok (.getfield 23, 3) := by decide +kernel
theorem dX0_addLetter_59 : decode cX0_addLetter 59 = .ok (.aload_n 1, 1) := by decide +kernel
theorem dX0_addLetter_60 : decode cX0_addLetter 60 = .ok (.getfield 46, 3) := by decide +kernel
theorem dX0_addLetter_63 : decode cX0_addLetter 63 = .ok (.iconst 3, 1) := by decide +kernel
theorem dX0_addLetter_64 : decode cX0_addLetter 64 = .ok (.iload_n 2, 1) := by decide +kernel
theorem dX0_addLetter_65 : decode cX0_addLetter 65 = .ok (.imul, 1) := by decide +kernel
theorem dX0_addLetter_66 : decode cX0_addLetter 66 = .ok (.iload 5, 2) := by decide +kernel
theorem dX0_addLetter_68 : decode cX0_addLetter 68 = .ok (.iadd, 1) := by decide +kernel
theorem dX0_addLetter_69 : decode cX0_addLetter 69 = .ok (.iaload, 1) := by decide +kernel
theorem dX0_addLetter_70 : decode cX0_addLetter 70 = .ok (.dup2, 1) := by decide +kernel
theorem dX0_addLetter_71 : decode cX0_addLetter 71 = .ok (.laload, 1) := by decide +kernel
theorem dX0_addLetter_72 : decode cX0_addLetter 72 = .ok (.lload_n 3, 1) := by decide +kernel
theorem dX0_addLetter_73 : decode cX0_addLetter 73 = .ok (.ladd, 1) := by decide +kernel
theorem dX0_addLetter_74 : decode cX0_addLetter 74 = .ok (.lastore, 1) := by decide +kernel
theorem dX0_addLetter_75 : decode cX0_addLetter 75 = .ok (.iinc 5 1, 3) := by decide +kernel
theorem dX0_addLetter_78 : decode cX0_addLetter 78 = .ok (.goto (-35), 3) := by decide +kernel
theorem dX0_addLetter_81 : decode cX0_addLetter 81 = .ok (.iinc 2 1, 3) := by decide +kernel
theorem dX0_addLetter_84 : decode cX0_addLetter 84 = .ok (.goto (-59), 3) := by decide +kernel
theorem dX0_addLetter_87 : decode cX0_addLetter 87 = .ok (.aload_n 0, 1) := by decide +kernel
theorem dX0_addLetter_88 : decode cX0_addLetter 88 = .ok (.getfield 20, 3) := by decide +kernel
theorem dX0_addLetter_91 : decode cX0_addLetter 91 = .ok (.astore_n 2, 1) := by decide +kernel
theorem dX0_addLetter_92 : decode cX0_addLetter 92 = .ok (.aload_n 0, 1) := by decide +kernel
theorem dX0_addLetter_93 : decode cX0_addLetter 93 = .ok (.aload_n 0, 1) := by decide +kernel
theorem dX0_addLetter_94 : decode cX0_addLetter 94 = .ok (.getfield 23, 3) := by decide +kernel
theorem dX0_addLetter_97 : decode cX0_addLetter 97 = .ok (.putfield 20, 3) := by decide +kernel
theorem dX0_addLetter_100 : decode cX0_addLetter 100 = .ok (.aload_n 0, 1) := by decide +kernel
theorem dX0_addLetter_101 : decode cX0_addLetter 101 = .ok (.aload_n 2, 1) := by decide +kernel
theorem dX0_addLetter_102 : decode cX0_addLetter 102 = .ok (.putfield 23, 3) := by decide +kernel
theorem dX0_addLetter_105 : decode cX0_addLetter 105 = .ok (.return_, 1) := by decide +kernel
theorem dX0_addUp_0 : decode cX0_addUp 0 = .ok (.lconst 0, 1) := by decide +kernel
theorem dX0_addUp_1 : decode cX0_addUp 1 = .ok (.lstore_n 2, 1) := by decide +kernel
theorem dX0_addUp_2 : decode cX0_addUp 2 = .ok (.iconst 0, 1) := by decide +kernel
theorem dX0_addUp_3 : decode cX0_addUp 3 = .ok (.istore 4, 2) := by decide +kernel
theorem dX0_addUp_5 : decode cX0_addUp 5 = .ok (.iload 4, 2) := by decide +kernel
theorem dX0_addUp_7 : decode cX0_addUp 7 = .ok (.aload_n 1, 1) := by decide +kernel
theorem dX0_addUp_8 : decode cX0_addUp 8 = .ok (.getfield 43, 3) := by decide +kernel
theorem dX0_addUp_11 : decode cX0_addUp 11 = .ok (.if_icmp .ge 28, 3) := by decide +kernel
theorem dX0_addUp_14 : decode cX0_addUp 14 = .ok (.aload_n 1, 1) := by decide +kernel
theorem dX0_addUp_15 : decode cX0_addUp 15 = .ok (.iload 4, 2) := by decide +kernel
theorem dX0_addUp_17 : decode cX0_addUp 17 = .ok (.invokevirtual 50, 3) := by decide +kernel
theorem dX0_addUp_20 : decode cX0_addUp 20 = .ok (.ifCond .eq 13, 3) := by decide +kernel
theorem dX0_addUp_23 : decode cX0_addUp 23 = .ok (.lload_n 2, 1) := by decide +kernel
theorem dX0_addUp_24 : decode cX0_addUp 24 = .ok (.aload_n 0, 1) := by decide +kernel
theorem dX0_addUp_25 : decode cX0_addUp 25 = .ok (.getfield 20, 3) := by decide +kernel
theorem dX0_addUp_28 : decode cX0_addUp 28 = .ok (.iload 4, 2) := by decide +kernel
theorem dX0_addUp_30 : decode cX0_addUp 30 = .ok (.laload, 1) := by decide +kernel
theorem dX0_addUp_31 : decode cX0_addUp 31 = .ok (.ladd, 1) := by decide +kernel
theorem dX0_addUp_32 : decode cX0_addUp 32 = .ok (.lstore_n 2, 1) := by decide +kernel
theorem dX0_addUp_33 : decode cX0_addUp 33 = .ok (.iinc 4 1, 3) := by decide +kernel
theorem dX0_addUp_36 : decode cX0_addUp 36 = .ok (.goto (-31), 3) := by decide +kernel
theorem dX0_addUp_39 : decode cX0_addUp 39 = .ok (.aload_n 0, 1) := by decide +kernel
theorem dX0_addUp_40 : decode cX0_addUp 40 = .ok (.getfield 9, 3) := by decide +kernel
theorem dX0_addUp_43 : decode cX0_addUp 43 = .ok (.aload_n 0, 1) := by decide +kernel
theorem dX0_addUp_44 : decode cX0_addUp 44 = .ok (.getfield 32, 3) := by decide +kernel
theorem dX0_addUp_47 : decode cX0_addUp 47 = .ok (.aload_n 0, 1) := by decide +kernel
theorem dX0_addUp_48 : decode cX0_addUp 48 = .ok (.getfield 20, 3) := by decide +kernel
theorem dX0_addUp_51 : decode cX0_addUp 51 = .ok (.aload_n 1, 1) := by decide +kernel
theorem dX0_addUp_52 : decode cX0_addUp 52 = .ok (.getfield 54, 3) := by decide +kernel
theorem dX0_addUp_55 : decode cX0_addUp 55 = .ok (.laload, 1) := by decide +kernel
theorem dX0_addUp_56 : decode cX0_addUp 56 = .ok (.lastore, 1) := by decide +kernel
theorem dX0_addUp_57 : decode cX0_addUp 57 = .ok (.aload_n 0, 1) := by decide +kernel
theorem dX0_addUp_58 : decode cX0_addUp 58 = .ok (.getfield 15, 3) := by decide +kernel
theorem dX0_addUp_61 : decode cX0_addUp 61 = .ok (.aload_n 0, 1) := by decide +kernel
theorem dX0_addUp_62 : decode cX0_addUp 62 = .ok (.getfield 32, 3) := by decide +kernel
theorem dX0_addUp_65 : decode cX0_addUp 65 = .ok (.lload_n 2, 1) := by decide +kernel
theorem dX0_addUp_66 : decode cX0_addUp 66 = .ok (.lastore, 1) := by decide +kernel
theorem dX0_addUp_67 : decode cX0_addUp 67 = .ok (.return_, 1) := by decide +kernel
theorem dX1_init_0 : decode cX1_init 0 = .ok (.aload_n 0, 1) := by decide +kernel
theorem dX1_init_1 : decode cX1_init 1 = .ok (.invokespecial 3, 3) := by decide +kernel
theorem dX1_init_4 : decode cX1_init 4 = .ok (.aload_n 0, 1) := by decide +kernel
theorem dX1_init_5 : decode cX1_init 5 = .ok (.bipush 121, 2) := by decide +kernel
theorem dX1_init_7 : decode cX1_init 7 = .ok (.newarray .int, 2) := by decide +kernel
theorem dX1_init_9 : decode cX1_init 9 = .ok (.putfield 11, 3) := by decide +kernel
theorem dX1_init_12 : decode cX1_init 12 = .ok (.aload_n 0, 1) := by decide +kernel
theorem dX1_init_13 : decode cX1_init 13 = .ok (.bipush 121, 2) := by decide +kernel
theorem dX1_init_15 : decode cX1_init 15 = .ok (.newarray .int, 2) := by decide +kernel
theorem dX1_init_17 : decode cX1_init 17 = .ok (.putfield 15, 3) := by decide +kernel
theorem dX1_init_20 : decode cX1_init 20 = .ok (.aload_n 0, 1) := by decide +kernel
theorem dX1_init_21 : decode cX1_init 21 = .ok (.bipush 121, 2) := by decide +kernel
theorem dX1_init_23 : decode cX1_init 23 = .ok (.newarray .int, 2) := by decide +kernel
theorem dX1_init_25 : decode cX1_init 25 = .ok (.putfield 18, 3) := by decide +kernel
theorem dX1_init_28 : decode cX1_init 28 = .ok (.aload_n 0, 1) := by decide +kernel
theorem dX1_init_29 : decode cX1_init 29 = .ok (.bipush 40, 2) := by decide +kernel
theorem dX1_init_31 : decode cX1_init 31 = .ok (.newarray .boolean, 2) := by decide +kernel
theorem dX1_init_33 : decode cX1_init 33 = .ok (.putfield 21, 3) := by decide +kernel
theorem dX1_init_36 : decode cX1_init 36 = .ok (.aload_n 0, 1) := by decide +kernel
theorem dX1_init_37 : decode cX1_init 37 = .ok (.iconst 4, 1) := by decide +kernel
theorem dX1_init_38 : decode cX1_init 38 = .ok (.newarray .int, 2) := by decide +kernel
theorem dX1_init_40 : decode cX1_init 40 = .ok (.putfield 25, 3) := by decide +kernel
theorem dX1_init_43 : decode cX1_init 43 = .ok (.iconst 4, 1) := by decide +kernel
theorem dX1_init_44 : decode cX1_init 44 = .ok (.istore_n 1, 1) := by decide +kernel
theorem dX1_init_45 : decode cX1_init 45 = .ok (.iload_n 1, 1) := by decide +kernel
theorem dX1_init_46 : decode cX1_init 46 = .ok (.bipush 121, 2) := by decide +kernel
theorem dX1_init_48 : decode cX1_init 48 = .ok (.if_icmp .ge 33, 3) := by decide +kernel
theorem dX1_init_51 : decode cX1_init 51 = .ok (.aload_n 0, 1) := by decide +kernel
theorem dX1_init_52 : decode cX1_init 52 = .ok (.getfield 11, 3) := by decide +kernel
theorem dX1_init_55 : decode cX1_init 55 = .ok (.iload_n 1, 1) := by decide +kernel
theorem dX1_init_56 : decode cX1_init 56 = .ok (.aload_n 0, 1) := by decide +kernel
theorem dX1_init_57 : decode cX1_init 57 = .ok (.getfield 11, 3) := by decide +kernel
theorem dX1_init_60 : decode cX1_init 60 = .ok (.iload_n 1, 1) := by decide +kernel
theorem dX1_init_61 : decode cX1_init 61 = .ok (.iconst 1, 1) := by decide +kernel
theorem dX1_init_62 : decode cX1_init 62 = .ok (.isub, 1) := by decide +kernel
theorem dX1_init_63 : decode cX1_init 63 = .ok (.iconst 3, 1) := by decide +kernel
theorem dX1_init_64 : decode cX1_init 64 = .ok (.idiv, 1) := by decide +kernel
theorem dX1_init_65 : decode cX1_init 65 = .ok (.iaload, 1) := by decide +kernel
theorem dX1_init_66 : decode cX1_init 66 = .ok (.iload_n 1, 1) := by decide +kernel
theorem dX1_init_67 : decode cX1_init 67 = .ok (.iconst 1, 1) := by decide +kernel
theorem dX1_init_68 : decode cX1_init 68 = .ok (.isub, 1) := by decide +kernel
theorem dX1_init_69 : decode cX1_init 69 = .ok (.iconst 3, 1) := by decide +kernel
theorem dX1_init_70 : decode cX1_init 70 = .ok (.irem, 1) := by decide +kernel
theorem dX1_init_71 : decode cX1_init 71 = .ok (.invokestatic 28, 3) := by decide +kernel
theorem dX1_init_74 : decode cX1_init 74 = .ok (.iastore, 1) := by decide +kernel
theorem dX1_init_75 : decode cX1_init 75 = .ok (.iinc 1 1, 3) := by decide +kernel
theorem dX1_init_78 : decode cX1_init 78 = .ok (.goto (-33), 3) := by decide +kernel
theorem dX1_init_81 : decode cX1_init 81 = .ok (.return_, 1) := by decide +kernel
theorem dX1_behind_0 : decode cX1_behind 0 = .ok (.iconst 3, 1) := by decide +kernel
theorem dX1_behind_1 : decode cX1_behind 1 = .ok (.iload_n 0, 1) := by decide +kernel
theorem dX1_behind_2 : decode cX1_behind 2 = .ok (.imul, 1) := by decide +kernel
theorem dX1_behind_3 : decode cX1_behind 3 = .ok (.iconst 1, 1) := by decide +kernel
theorem dX1_behind_4 : decode cX1_behind 4 = .ok (.iadd, 1) := by decide +kernel
theorem dX1_behind_5 : decode cX1_behind 5 = .ok (.iload_n 1, 1) := by decide +kernel
theorem dX1_behind_6 : decode cX1_behind 6 = .ok (.iadd, 1) := by decide +kernel
theorem dX1_behind_7 : decode cX1_behind 7 = .ok (.ireturn, 1) := by decide +kernel
theorem dX1_learn_0 : decode cX1_learn 0 = .ok (.aload_n 0, 1) := by decide +kernel
theorem dX1_learn_1 : decode cX1_learn 1 = .ok (.iconst 1, 1) := by decide +kernel
theorem dX1_learn_2 : decode cX1_learn 2 = .ok (.iload_n 2, 1) := by decide +kernel
theorem dX1_learn_3 : decode cX1_learn 3 = .ok (.ishl, 1) := by decide +kernel
theorem dX1_learn_4 : decode cX1_learn 4 = .ok (.iconst 1, 1) := by decide +kernel
theorem dX1_learn_5 : decode cX1_learn 5 = .ok (.isub, 1) := by decide +kernel
theorem dX1_learn_6 : decode cX1_learn 6 = .ok (.putfield 32, 3) := by decide +kernel
theorem dX1_learn_9 : decode cX1_learn 9 = .ok (.aload_n 0, 1) := by decide +kernel
theorem dX1_learn_10 : decode cX1_learn 10 = .ok (.aload_n 1, 1) := by decide +kernel
theorem dX1_learn_11 : decode cX1_learn 11 = .ok (.iload_n 2, 1) := by decide +kernel
theorem dX1_learn_12 : decode cX1_learn 12 = .ok (.invokevirtual 36, 3) := by decide +kernel
theorem dX1_learn_15 : decode cX1_learn 15 = .ok (.iconst 0, 1) := by decide +kernel
theorem dX1_learn_16 : decode cX1_learn 16 = .ok (.istore_n 3, 1) := by decide +kernel
theorem dX1_learn_17 : decode cX1_learn 17 = .ok (.iload_n 3, 1) := by decide +kernel
theorem dX1_learn_18 : decode cX1_learn 18 = .ok (.bipush 40, 2) := by decide +kernel
theorem dX1_learn_20 : decode cX1_learn 20 = .ok (.if_icmp .ge 76, 3) := by decide +kernel
theorem dX1_learn_23 : decode cX1_learn 23 = .ok (.iconst 0, 1) := by decide +kernel
theorem dX1_learn_24 : decode cX1_learn 24 = .ok (.istore 4, 2) := by decide +kernel
theorem dX1_learn_26 : decode cX1_learn 26 = .ok (.iload 4, 2) := by decide +kernel
theorem dX1_learn_28 : decode cX1_learn 28 = .ok (.iconst 3, 1) := by decide +kernel
theorem dX1_learn_29 : decode cX1_learn 29 = .ok (.if_icmp .ge 61, 3) := by decide +kernel
theorem dX1_learn_32 : decode cX1_learn 32 = .ok (.aload_n 0, 1) := by decide +kernel
theorem dX1_learn_33 : decode cX1_learn 33 = .ok (.getfield 21, 3) := by decide +kernel
theorem dX1_learn_36 : decode cX1_learn 36 = .ok (.iload_n 3, 1) := by decide +kernel
theorem dX1_learn_37 : decode cX1_learn 37 = .ok (.baload, 1) := by decide +kernel
theorem dX1_learn_38 : decode cX1_learn 38 = .ok (.ifCond .eq 52, 3) := by decide +kernel
theorem dX1_learn_41 : decode cX1_learn 41 = .ok (.iload_n 3, 1) := by decide +kernel
theorem dX1_learn_42 : decode cX1_learn 42 = .ok (.iload 4, 2) := by decide +kernel
theorem dX1_learn_44 : decode cX1_learn 44 = .ok (.invokestatic 28, 3) := by decide +kernel
theorem dX1_learn_47 : decode cX1_learn 47 = .ok (.istore 5, 2) := by decide +kernel
theorem dX1_learn_49 : decode cX1_learn 49 = .ok (.aload_n 0, 1) := by decide +kernel
theorem dX1_learn_50 : decode cX1_learn 50 = .ok (.getfield 15, 3) := by decide +kernel
theorem dX1_learn_53 : decode cX1_learn 53 = .ok (.iload 5, 2) := by decide +kernel
theorem dX1_learn_55 : decode cX1_learn 55 = .ok (.aload_n 1, 1) := by decide +kernel
theorem dX1_learn_56 : decode cX1_learn 56 = .ok (.iload_n 2, 1) := by decide +kernel
theorem dX1_learn_57 : decode cX1_learn 57 = .ok (.aload_n 0, 1) := by decide +kernel
theorem dX1_learn_58 : decode cX1_learn 58 = .ok (.getfield 25, 3) := by decide +kernel
theorem dX1_learn_61 : decode cX1_learn 61 = .ok (.aload_n 0, 1) := by decide +kernel
theorem dX1_learn_62 : decode cX1_learn 62 = .ok (.iload 5, 2) := by decide +kernel
theorem dX1_learn_64 : decode cX1_learn 64 = .ok (.invokevirtual 40, 3) := by decide +kernel
theorem dX1_learn_67 : decode cX1_learn 67 = .ok (.invokestatic 44, 3) := by decide +kernel
theorem dX1_learn_70 : decode cX1_learn 70 = .ok (.iastore, 1) := by decide +kernel
theorem dX1_learn_71 : decode cX1_learn 71 = .ok (.aload_n 0, 1) := by decide +kernel
theorem dX1_learn_72 : decode cX1_learn 72 = .ok (.getfield 18, 3) := by decide +kernel
theorem dX1_learn_75 : decode cX1_learn 75 = .ok (.iload 5, 2) := by decide +kernel
theorem dX1_learn_77 : decode cX1_learn 77 = .ok (.aload_n 0, 1) := by decide +kernel
theorem dX1_learn_78 : decode cX1_learn 78 = .ok (.iload 5, 2) := by decide +kernel
theorem dX1_learn_80 : decode cX1_learn 80 = .ok (.invokevirtual 48, 3) := by decide +kernel
theorem dX1_learn_83 : decode cX1_learn 83 = .ok (.iastore, 1) := by decide +kernel
theorem dX1_learn_84 : decode cX1_learn 84 = .ok (.iinc 4 1, 3) := by decide +kernel
theorem dX1_learn_87 : decode cX1_learn 87 = .ok (.goto (-61), 3) := by decide +kernel
theorem dX1_learn_90 : decode cX1_learn 90 = .ok (.iinc 3 1, 3) := by decide +kernel
theorem dX1_learn_93 : decode cX1_learn 93 = .ok (.goto (-76), 3) := by decide +kernel
theorem dX1_learn_96 : decode cX1_learn 96 = .ok (.return_, 1) := by decide +kernel
theorem dX1_markStays_0 : decode cX1_markStays 0 = .ok (.iconst 0, 1) := by decide +kernel
theorem dX1_markStays_1 : decode cX1_markStays 1 = .ok (.istore_n 3, 1) := by decide +kernel
theorem dX1_markStays_2 : decode cX1_markStays 2 = .ok (.iload_n 3, 1) := by decide +kernel
theorem dX1_markStays_3 : decode cX1_markStays 3 = .ok (.bipush 40, 2) := by decide +kernel
theorem dX1_markStays_5 : decode cX1_markStays 5 = .ok (.if_icmp .ge 24, 3) := by decide +kernel
theorem dX1_markStays_8 : decode cX1_markStays 8 = .ok (.aload_n 0, 1) := by decide +kernel
theorem dX1_markStays_9 : decode cX1_markStays 9 = .ok (.getfield 21, 3) := by decide +kernel
theorem dX1_markStays_12 : decode cX1_markStays 12 = .ok (.iload_n 3, 1) := by decide +kernel
theorem dX1_markStays_13 : decode cX1_markStays 13 = .ok (.iload_n 3, 1) := by decide +kernel
theorem dX1_markStays_14 : decode cX1_markStays 14 = .ok (.ifCond .ne 7, 3) := by decide +kernel
theorem dX1_markStays_17 : decode cX1_markStays 17 = .ok (.iconst 1, 1) := by decide +kernel
theorem dX1_markStays_18 : decode cX1_markStays 18 = .ok (.goto 4, 3) := by decide +kernel
theorem dX1_markStays_21 : decode cX1_markStays 21 = .ok (.iconst 0, 1) := by decide +kernel
theorem dX1_markStays_22 : decode cX1_markStays 22 = .ok (.bastore, 1) := by decide +kernel
theorem dX1_markStays_23 : decode cX1_markStays 23 = .ok (.iinc 3 1, 3) := by decide +kernel
theorem dX1_markStays_26 : decode cX1_markStays 26 = .ok (.goto (-24), 3) := by decide +kernel
theorem dX1_markStays_29 : decode cX1_markStays 29 = .ok (.iconst 0, 1) := by decide +kernel
theorem dX1_markStays_30 : decode cX1_markStays 30 = .ok (.istore_n 3, 1) := by decide +kernel
theorem dX1_markStays_31 : decode cX1_markStays 31 = .ok (.iload_n 3, 1) := by decide +kernel
theorem dX1_markStays_32 : decode cX1_markStays 32 = .ok (.iload_n 2, 1) := by decide +kernel
theorem dX1_markStays_33 : decode cX1_markStays 33 = .ok (.if_icmp .ge 33, 3) := by decide +kernel
theorem dX1_markStays_36 : decode cX1_markStays 36 = .ok (.iconst 0, 1) := by decide +kernel
theorem dX1_markStays_37 : decode cX1_markStays 37 = .ok (.istore 4, 2) := by decide +kernel
theorem dX1_markStays_39 : decode cX1_markStays 39 = .ok (.iload 4, 2) := by decide +kernel
theorem dX1_markStays_41 : decode cX1_markStays 41 = .ok (.iconst 2, 1) := by decide +kernel
theorem dX1_markStays_42 : decode cX1_markStays 42 = .ok (.if_icmp .ge 18, 3) := by decide +kernel
theorem dX1_markStays_45 : decode cX1_markStays 45 = .ok (.aload_n 0, 1) := by decide +kernel
theorem dX1_markStays_46 : decode cX1_markStays 46 = .ok (.aload_n 1, 1) := by decide +kernel
theorem dX1_markStays_47 : decode cX1_markStays 47 = .ok (.iload_n 3, 1) := by decide +kernel
theorem dX1_markStays_48 : decode cX1_markStays 48 = .ok (.aaload, 1) := by decide +kernel
theorem dX1_markStays_49 : decode cX1_markStays 49 = .ok (.iload 4, 2) := by decide +kernel
theorem dX1_markStays_51 : decode cX1_markStays 51 = .ok (.invokevirtual 51, 3) := by decide +kernel
theorem dX1_markStays_54 : decode cX1_markStays 54 = .ok (.iinc 4 1, 3) := by decide +kernel
theorem dX1_markStays_57 : decode cX1_markStays 57 = .ok (.goto (-18), 3) := by decide +kernel
theorem dX1_markStays_60 : decode cX1_markStays 60 = .ok (.iinc 3 1, 3) := by decide +kernel
theorem dX1_markStays_63 : decode cX1_markStays 63 = .ok (.goto (-32), 3) := by decide +kernel
theorem dX1_markStays_66 : decode cX1_markStays 66 = .ok (.return_, 1) := by decide +kernel
theorem dX1_markBeginnings_0 : decode cX1_markBeginnings 0 = .ok (.iconst 0, 1) := by decide +kernel
theorem dX1_markBeginnings_1 : decode cX1_markBeginnings 1 = .ok (.istore_n 3, 1) := by decide +kernel
theorem dX1_markBeginnings_2 : decode cX1_markBeginnings 2 = .ok (.iconst 0, 1) := by decide +kernel
theorem dX1_markBeginnings_3 : decode cX1_markBeginnings 3 = .ok (.istore 4, 2) := by decide +kernel
theorem dX1_markBeginnings_5 : decode cX1_markBeginnings 5 = .ok (.iload 4, 2) := by decide +kernel
theorem dX1_markBeginnings_7 : decode cX1_markBeginnings 7 = .ok (.iconst 1, 1) := by decide +kernel
theorem dX1_markBeginnings_8 : decode cX1_markBeginnings 8 = .ok (.iadd, 1) := by decide +kernel
theorem dX1_markBeginnings_9 : decode cX1_markBeginnings 9 = .ok (.aload_n 1, 1) := by decide +kernel
theorem dX1_markBeginnings_10 : decode cX1_markBeginnings 10 = .ok (.getfield 55, 3) := by decide +kernel
theorem dX1_markBeginnings_13 : decode cX1_markBeginnings 13 = .ok (.if_icmp .ge 34, 3) := by decide +kernel
theorem dX1_markBeginnings_16 : decode cX1_markBeginnings 16 = .ok (.iload_n 3, 1) := by decide +kernel
theorem dX1_markBeginnings_17 : decode cX1_markBeginnings 17 = .ok (.aload_n 1, 1) := by decide +kernel
theorem dX1_markBeginnings_18 : decode cX1_markBeginnings 18 = .ok (.iload_n 2, 1) := by decide +kernel
theorem dX1_markBeginnings_19 : decode cX1_markBeginnings 19 = .ok (.iload 4, 2) := by decide +kernel
theorem dX1_markBeginnings_21 : decode cX1_markBeginnings 21 = .ok (.invokevirtual 60, 3) := by decide +kernel
theorem dX1_markBeginnings_24 : decode cX1_markBeginnings 24 = .ok (.invokestatic 28, 3) := by decide +kernel
theorem dX1_markBeginnings_27 : decode cX1_markBeginnings 27 = .ok (.istore_n 3, 1) := by decide +kernel
theorem dX1_markBeginnings_28 : decode cX1_markBeginnings 28 = .ok (.iload_n 3, 1) := by decide +kernel
theorem dX1_markBeginnings_29 : decode cX1_markBeginnings 29 = .ok (.bipush 40, 2) := by decide +kernel
theorem dX1_markBeginnings_31 : decode cX1_markBeginnings 31 = .ok (.if_icmp .ge 10, 3) := by decide +kernel
theorem dX1_markBeginnings_34 : decode cX1_markBeginnings 34 = .ok (.aload_n 0, 1) := by decide +kernel
theorem dX1_markBeginnings_35 : decode cX1_markBeginnings 35 = .ok (.getfield 21, 3) := by decide +kernel
theorem dX1_markBeginnings_38 : decode cX1_markBeginnings 38 = .ok (.iload_n 3, 1) := by decide +kernel
theorem dX1_markBeginnings_39 : decode cX1_markBeginnings 39 = .ok (.iconst 1, 1) := by decide +kernel
theorem dX1_markBeginnings_40 : decode cX1_markBeginnings 40 = .ok (.bastore, 1) := by decide +kernel
theorem dX1_markBeginnings_41 : decode cX1_markBeginnings 41 = .ok (.iinc 4 1, 3) := by decide +kernel
theorem dX1_markBeginnings_44 : decode cX1_markBeginnings 44 = .ok (.goto (-39), 3) := by decide +kernel
theorem dX1_markBeginnings_47 : decode cX1_markBeginnings 47 = .ok (.return_, 1) := by decide +kernel
theorem dX1_layTrail_0 : decode cX1_layTrail 0 = .ok (.iconst 0, 1) := by decide +kernel
theorem dX1_layTrail_1 : decode cX1_layTrail 1 = .ok (.istore_n 2, 1) := by decide +kernel
theorem dX1_layTrail_2 : decode cX1_layTrail 2 = .ok (.iload_n 1, 1) := by decide +kernel
theorem dX1_layTrail_3 : decode cX1_layTrail 3 = .ok (.istore_n 3, 1) := by decide +kernel
theorem dX1_layTrail_4 : decode cX1_layTrail 4 = .ok (.iload_n 3, 1) := by decide +kernel
theorem dX1_layTrail_5 : decode cX1_layTrail 5 = .ok (.ifCond .le 20, 3) := by decide +kernel
theorem dX1_layTrail_8 : decode cX1_layTrail 8 = .ok (.iload_n 2, 1) := by decide +kernel
theorem dX1_layTrail_9 : decode cX1_layTrail 9 = .ok (.iconst 4, 1) := by decide +kernel
theorem dX1_layTrail_10 : decode cX1_layTrail 10 = .ok (.if_icmp .ge 15, 3) := by decide +kernel
theorem dX1_layTrail_13 : decode cX1_layTrail 13 = .ok (.iinc 2 1, 3) := by decide +kernel
theorem dX1_layTrail_16 : decode cX1_layTrail 16 = .ok (.iload_n 3, 1) := by decide +kernel
theorem dX1_layTrail_17 : decode cX1_layTrail 17 = .ok (.iconst 1, 1) := by decide +kernel
theorem dX1_layTrail_18 : decode cX1_layTrail 18 = .ok (.isub, 1) := by decide +kernel
theorem dX1_layTrail_19 : decode cX1_layTrail 19 = .ok (.iconst 3, 1) := by decide +kernel
theorem dX1_layTrail_20 : decode cX1_layTrail 20 = .ok (.idiv, 1) := by decide +kernel
theorem dX1_layTrail_21 : decode cX1_layTrail 21 = .ok (.istore_n 3, 1) := by decide +kernel
theorem dX1_layTrail_22 : decode cX1_layTrail 22 = .ok (.goto (-18), 3) := by decide +kernel
theorem dX1_layTrail_25 : decode cX1_layTrail 25 = .ok (.iload_n 1, 1) := by decide +kernel
theorem dX1_layTrail_26 : decode cX1_layTrail 26 = .ok (.istore_n 3, 1) := by decide +kernel
theorem dX1_layTrail_27 : decode cX1_layTrail 27 = .ok (.iload_n 2, 1) := by decide +kernel
theorem dX1_layTrail_28 : decode cX1_layTrail 28 = .ok (.iconst 1, 1) := by decide +kernel
theorem dX1_layTrail_29 : decode cX1_layTrail 29 = .ok (.isub, 1) := by decide +kernel
theorem dX1_layTrail_30 : decode cX1_layTrail 30 = .ok (.istore 4, 2) := by decide +kernel
theorem dX1_layTrail_32 : decode cX1_layTrail 32 = .ok (.iload 4, 2) := by decide +kernel
theorem dX1_layTrail_34 : decode cX1_layTrail 34 = .ok (.ifCond .lt 27, 3) := by decide +kernel
theorem dX1_layTrail_37 : decode cX1_layTrail 37 = .ok (.aload_n 0, 1) := by decide +kernel
theorem dX1_layTrail_38 : decode cX1_layTrail 38 = .ok (.getfield 25, 3) := by decide +kernel
theorem dX1_layTrail_41 : decode cX1_layTrail 41 = .ok (.iload 4, 2) := by decide +kernel
theorem dX1_layTrail_43 : decode cX1_layTrail 43 = .ok (.iload_n 3, 1) := by decide +kernel
theorem dX1_layTrail_44 : decode cX1_layTrail 44 = .ok (.iconst 1, 1) := by decide +kernel
theorem dX1_layTrail_45 : decode cX1_layTrail 45 = .ok (.isub, 1) := by decide +kernel
theorem dX1_layTrail_46 : decode cX1_layTrail 46 = .ok (.iconst 3, 1) := by decide +kernel
theorem dX1_layTrail_47 : decode cX1_layTrail 47 = .ok (.irem, 1) := by decide +kernel
theorem dX1_layTrail_48 : decode cX1_layTrail 48 = .ok (.iastore, 1) := by decide +kernel
theorem dX1_layTrail_49 : decode cX1_layTrail 49 = .ok (.iload_n 3, 1) := by decide +kernel
theorem dX1_layTrail_50 : decode cX1_layTrail 50 = .ok (.iconst 1, 1) := by decide +kernel
theorem dX1_layTrail_51 : decode cX1_layTrail 51 = .ok (.isub, 1) := by decide +kernel
theorem dX1_layTrail_52 : decode cX1_layTrail 52 = .ok (.iconst 3, 1) := by decide +kernel
theorem dX1_layTrail_53 : decode cX1_layTrail 53 = .ok (.idiv, 1) := by decide +kernel
theorem dX1_layTrail_54 : decode cX1_layTrail 54 = .ok (.istore_n 3, 1) := by decide +kernel
theorem dX1_layTrail_55 : decode cX1_layTrail 55 = .ok (.iinc 4 (-1), 3) := by decide +kernel
theorem dX1_layTrail_58 : decode cX1_layTrail 58 = .ok (.goto (-26), 3) := by decide +kernel
theorem dX1_layTrail_61 : decode cX1_layTrail 61 = .ok (.iload_n 2, 1) := by decide +kernel
theorem dX1_layTrail_62 : decode cX1_layTrail 62 = .ok (.ireturn, 1) := by decide +kernel
theorem dX1_stayAt_0 : decode cX1_stayAt 0 = .ok (.iload_n 1, 1) := by decide +kernel
theorem dX1_stayAt_1 : decode cX1_stayAt 1 = .ok (.istore_n 2, 1) := by decide +kernel
theorem dX1_stayAt_2 : decode cX1_stayAt 2 = .ok (.iconst 0, 1) := by decide +kernel
theorem dX1_stayAt_3 : decode cX1_stayAt 3 = .ok (.istore_n 3, 1) := by decide +kernel
theorem dX1_stayAt_4 : decode cX1_stayAt 4 = .ok (.iload_n 3, 1) := by decide +kernel
theorem dX1_stayAt_5 : decode cX1_stayAt 5 = .ok (.iconst 4, 1) := by decide +kernel
theorem dX1_stayAt_6 : decode cX1_stayAt 6 = .ok (.if_icmp .ge 31, 3) := by decide +kernel
theorem dX1_stayAt_9 : decode cX1_stayAt 9 = .ok (.iload_n 2, 1) := by decide +kernel
theorem dX1_stayAt_10 : decode cX1_stayAt 10 = .ok (.bipush 40, 2) := by decide +kernel
theorem dX1_stayAt_12 : decode cX1_stayAt 12 = .ok (.if_icmp .ge 12, 3) := by decide +kernel
theorem dX1_stayAt_15 : decode cX1_stayAt 15 = .ok (.aload_n 0, 1) := by decide +kernel
theorem dX1_stayAt_16 : decode cX1_stayAt 16 = .ok (.getfield 21, 3) := by decide +kernel
theorem dX1_stayAt_19 : decode cX1_stayAt 19 = .ok (.iload_n 2, 1) := by decide +kernel
theorem dX1_stayAt_20 : decode cX1_stayAt 20 = .ok (.baload, 1) := by decide +kernel
theorem dX1_stayAt_21 : decode cX1_stayAt 21 = .ok (.ifCond .ne 16, 3) := by decide +kernel
theorem dX1_stayAt_24 : decode cX1_stayAt 24 = .ok (.aload_n 0, 1) := by decide +kernel
theorem dX1_stayAt_25 : decode cX1_stayAt 25 = .ok (.getfield 11, 3) := by decide +kernel
theorem dX1_stayAt_28 : decode cX1_stayAt 28 = .ok (.iload_n 2, 1) := by decide +kernel
theorem dX1_stayAt_29 : decode cX1_stayAt 29 = .ok (.iaload, 1) := by decide +kernel
theorem dX1_stayAt_30 : decode cX1_stayAt 30 = .ok (.istore_n 2, 1) := by decide +kernel
theorem dX1_stayAt_31 : decode cX1_stayAt 31 = .ok (.iinc 3 1, 3) := by decide +kernel
theorem dX1_stayAt_34 : decode cX1_stayAt 34 = .ok (.goto (-30), 3) := by decide +kernel
theorem dX1_stayAt_37 : decode cX1_stayAt 37 = .ok (.iload_n 2, 1) := by decide +kernel
theorem dX1_stayAt_38 : decode cX1_stayAt 38 = .ok (.ireturn, 1) := by decide +kernel
theorem dX1_longestSilent_0 : decode cX1_longestSilent 0 = .ok (.lconst 1, 1) := by decide +kernel
theorem dX1_longestSilent_1 : decode cX1_longestSilent 1 = .ok (.lstore_n 1, 1) := by decide +kernel
theorem dX1_longestSilent_2 : decode cX1_longestSilent 2 = .ok (.iconst 0, 1) := by decide +kernel
theorem dX1_longestSilent_3 : decode cX1_longestSilent 3 = .ok (.istore_n 3, 1) := by decide +kernel
theorem dX1_longestSilent_4 : decode cX1_longestSilent 4 = .ok (.iload_n 3, 1) := by decide +kernel
theorem dX1_longestSilent_5 : decode cX1_longestSilent 5 = .ok (.bipush 40, 2) := by decide +kernel
theorem dX1_longestSilent_7 : decode cX1_longestSilent 7 = .ok (.if_icmp .gt 23, 3) := by decide +kernel
theorem dX1_longestSilent_10 : decode cX1_longestSilent 10 = .ok (.aload_n 0, 1) := by decide +kernel
theorem dX1_longestSilent_11 : decode cX1_longestSilent 11 = .ok (.lload_n 1, 1) := by decide +kernel
theorem dX1_longestSilent_12 : decode cX1_longestSilent 12 = .ok (.invokevirtual 63, 3) := by decide +kernel
theorem dX1_longestSilent_15 : decode cX1_longestSilent 15 = .ok (.lstore_n 1, 1) := by decide +kernel
theorem dX1_longestSilent_16 : decode cX1_longestSilent 16 = .ok (.lload_n 1, 1) := by decide +kernel
theorem dX1_longestSilent_17 : decode cX1_longestSilent 17 = .ok (.lconst 0, 1) := by decide +kernel
theorem dX1_longestSilent_18 : decode cX1_longestSilent 18 = .ok (.lcmp, 1) := by decide +kernel
theorem dX1_longestSilent_19 : decode cX1_longestSilent 19 = .ok (.ifCond .ne 5, 3) := by decide +kernel
theorem dX1_longestSilent_22 : decode cX1_longestSilent 22 = .ok (.iload_n 3, 1) := by decide +kernel
theorem dX1_longestSilent_23 : decode cX1_longestSilent 23 = .ok (.ireturn, 1) := by decide +kernel
theorem dX1_longestSilent_24 : decode cX1_longestSilent 24 = .ok (.iinc 3 1, 3) := by decide +kernel
theorem dX1_longestSilent_27 : decode cX1_longestSilent 27 = .ok (.goto (-23), 3) := by decide +kernel
theorem dX1_longestSilent_30 : decode cX1_longestSilent 30 = .ok (.bipush (-9), 2) := by decide +kernel
theorem dX1_longestSilent_32 : decode cX1_longestSilent 32 = .ok (.ireturn, 1) := by decide +kernel
theorem dX1_silentlyReachedFrom_0 : decode cX1_silentlyReachedFrom 0 = .ok (.lconst 0, 1) := by decide +kernel
theorem dX1_silentlyReachedFrom_1 : decode cX1_silentlyReachedFrom 1 = .ok (.lstore_n 3, 1) := by decide +kernel
theorem dX1_silentlyReachedFrom_2 : decode cX1_silentlyReachedFrom 2 = .ok (.iconst 0, 1) := by decide +kernel
theorem dX1_silentlyReachedFrom_3 : decode cX1_silentlyReachedFrom 3 = .ok (.istore 5, 2) := by decide +kernel
theorem dX1_silentlyReachedFrom_5 : decode cX1_silentlyReachedFrom 5 = .ok (.iload 5, 2) := by decide +kernel
theorem dX1_silentlyReachedFrom_7 : decode cX1_silentlyReachedFrom 7 = .ok (.bipush 40, 2) := by decide +kernel
theorem dX1_silentlyReachedFrom_9 : decode cX1_silentlyReachedFrom 9 = .ok (.if_icmp .ge 69, 3) := by decide +kernel
theorem dX1_silentlyReachedFrom_12 : decode cX1_silentlyReachedFrom 12 = .ok (.lload_n 1, 1) := by decide +kernel
theorem dX1_silentlyReachedFrom_13 : decode cX1_silentlyReachedFrom 13 = .ok (.iload 5, 2) := by decide +kernel
theorem dX1_silentlyReachedFrom_15 : decode cX1_silentlyReachedFrom 15 = .ok (.lshr, 1) := by decide +kernel
theorem dX1_silentlyReachedFrom_16 : decode cX1_silentlyReachedFrom 16 = .ok (.lconst 1, 1) := by decide +kernel
theorem dX1_silentlyReachedFrom_17 : decode cX1_silentlyReachedFrom 17 = .ok (.land, 1) := by decide +kernel
theorem dX1_silentlyReachedFrom_18 : decode cX1_silentlyReachedFrom 18 = .ok (.lconst 0, 1) := by decide +kernel
theorem dX1_silentlyReachedFrom_19 : decode cX1_silentlyReachedFrom 19 = .ok (.lcmp, 1) := by decide +kernel
theorem dX1_silentlyReachedFrom_20 : decode cX1_silentlyReachedFrom 20 = .ok (.ifCond .ne 6, 3) := by decide +kernel
theorem dX1_silentlyReachedFrom_23 : decode cX1_silentlyReachedFrom 23 = .ok (.goto 49, 3) := by decide +kernel
theorem dX1_silentlyReachedFrom_26 : decode cX1_silentlyReachedFrom 26 = .ok (.iconst 0, 1) := by decide +kernel
theorem dX1_silentlyReachedFrom_27 : decode cX1_silentlyReachedFrom 27 = .ok (.istore 6, 2) := by decide +kernel
theorem dX1_silentlyReachedFrom_29 : decode cX1_silentlyReachedFrom 29 = .ok (.iload 6, 2) := by decide +kernel
theorem dX1_silentlyReachedFrom_31 : decode cX1_silentlyReachedFrom 31 = .ok (.iconst 3, 1) := by decide +kernel
theorem dX1_silentlyReachedFrom_32 : decode cX1_silentlyReachedFrom 32 = .ok (.if_icmp .ge 40, 3) := by decide +kernel
theorem dX1_silentlyReachedFrom_35 : decode cX1_silentlyReachedFrom 35 = .ok (.iload 5, 2) := by decide +kernel
theorem dX1_silentlyReachedFrom_37 : decode cX1_silentlyReachedFrom 37 = .ok (.iload 6, 2) := by decide +kernel
theorem dX1_silentlyReachedFrom_39 : decode cX1_silentlyReachedFrom 39 = .ok (.invokestatic 28, 3) := by decide +kernel
theorem dX1_silentlyReachedFrom_42 : decode cX1_silentlyReachedFrom 42 = .ok (.istore 7, 2) := by decide +kernel
theorem dX1_silentlyReachedFrom_44 : decode cX1_silentlyReachedFrom 44 = .ok (.aload_n 0, 1) := by decide +kernel
theorem dX1_silentlyReachedFrom_45 : decode cX1_silentlyReachedFrom 45 = .ok (.getfield 15, 3) := by decide +kernel
theorem dX1_silentlyReachedFrom_48 : decode cX1_silentlyReachedFrom 48 = .ok (.iload 7, 2) := by decide +kernel
theorem dX1_silentlyReachedFrom_50 : decode cX1_silentlyReachedFrom 50 = .ok (.iaload, 1) := by decide +kernel
theorem dX1_silentlyReachedFrom_51 : decode cX1_silentlyReachedFrom 51 = .ok (.ifCond .ne 15, 3) := by decide +kernel
theorem dX1_silentlyReachedFrom_54 : decode cX1_silentlyReachedFrom 54 = .ok (.lload_n 3, 1) := by decide +kernel
theorem dX1_silentlyReachedFrom_55 : decode cX1_silentlyReachedFrom 55 = .ok (.lconst 1, 1) := by decide +kernel
theorem dX1_silentlyReachedFrom_56 : decode cX1_silentlyReachedFrom 56 = .ok (.aload_n 0, 1) := by decide +kernel
theorem dX1_silentlyReachedFrom_57 : decode cX1_silentlyReachedFrom 57 = .ok (.getfield 18, 3) := by decide +kernel
theorem dX1_silentlyReachedFrom_60 : decode cX1_silentlyReachedFrom 60 = .ok (.iload 7, 2) := by decide +kernel
theorem dX1_silentlyReachedFrom_62 : decode cX1_silentlyReachedFrom 62 = .ok (.iaload, 1) := by decide +kernel
theorem dX1_silentlyReachedFrom_63 : decode cX1_silentlyReachedFrom 63 = .ok (.lshl, 1) := by decide +kernel
theorem dX1_silentlyReachedFrom_64 : decode cX1_silentlyReachedFrom 64 = .ok (.lor, 1) := by decide +kernel
theorem dX1_silentlyReachedFrom_65 : decode cX1_silentlyReachedFrom 65 = .ok (.lstore_n 3, 1) := by decide +kernel
theorem dX1_silentlyReachedFrom_66 : decode cX1_silentlyReachedFrom 66 = .ok (.iinc 6 1, 3) := by decide +kernel
theorem dX1_silentlyReachedFrom_69 : decode cX1_silentlyReachedFrom 69 = .ok (.goto (-40), 3) := by decide +kernel
theorem dX1_silentlyReachedFrom_72 : decode cX1_silentlyReachedFrom 72 = .ok (.iinc 5 1, 3) := by decide +kernel
theorem dX1_silentlyReachedFrom_75 : decode cX1_silentlyReachedFrom 75 = .ok (.goto (-70), 3) := by decide +kernel
theorem dX1_silentlyReachedFrom_78 : decode cX1_silentlyReachedFrom 78 = .ok (.lload_n 3, 1) := by decide +kernel
theorem dX1_silentlyReachedFrom_79 : decode cX1_silentlyReachedFrom 79 = .ok (.lreturn, 1) := by decide +kernel
theorem dX2_init_0 : decode cX2_init 0 = .ok (.aload_n 0, 1) := by decide +kernel
theorem dX2_init_1 : decode cX2_init 1 = .ok (.invokespecial 5, 3) := by decide +kernel
theorem dX2_init_4 : decode cX2_init 4 = .ok (.aload_n 0, 1) := by decide +kernel
theorem dX2_init_5 : decode cX2_init 5 = .ok (.sipush 640, 3) := by decide +kernel
theorem dX2_init_8 : decode cX2_init 8 = .ok (.newarray .int, 2) := by decide +kernel
theorem dX2_init_10 : decode cX2_init 10 = .ok (.putfield 13, 3) := by decide +kernel
theorem dX2_init_13 : decode cX2_init 13 = .ok (.aload_n 0, 1) := by decide +kernel
theorem dX2_init_14 : decode cX2_init 14 = .ok (.sipush 320, 3) := by decide +kernel
theorem dX2_init_17 : decode cX2_init 17 = .ok (.newarray .int, 2) := by decide +kernel
theorem dX2_init_19 : decode cX2_init 19 = .ok (.putfield 17, 3) := by decide +kernel
theorem dX2_init_22 : decode cX2_init 22 = .ok (.aload_n 0, 1) := by decide +kernel
theorem dX2_init_23 : decode cX2_init 23 = .ok (.sipush 320, 3) := by decide +kernel
theorem dX2_init_26 : decode cX2_init 26 = .ok (.newarray .int, 2) := by decide +kernel
theorem dX2_init_28 : decode cX2_init 28 = .ok (.putfield 20, 3) := by decide +kernel
theorem dX2_init_31 : decode cX2_init 31 = .ok (.aload_n 0, 1) := by decide +kernel
theorem dX2_init_32 : decode cX2_init 32 = .ok (.sipush 960, 3) := by decide +kernel
theorem dX2_init_35 : decode cX2_init 35 = .ok (.newarray .int, 2) := by decide +kernel
theorem dX2_init_37 : decode cX2_init 37 = .ok (.putfield 23, 3) := by decide +kernel
theorem dX2_init_40 : decode cX2_init 40 = .ok (.aload_n 0, 1) := by decide +kernel
theorem dX2_init_41 : decode cX2_init 41 = .ok (.bipush 16, 2) := by decide +kernel
theorem dX2_init_43 : decode cX2_init 43 = .ok (.newarray .int, 2) := by decide +kernel
theorem dX2_init_45 : decode cX2_init 45 = .ok (.putfield 26, 3) := by decide +kernel
theorem dX2_init_48 : decode cX2_init 48 = .ok (.return_, 1) := by decide +kernel
theorem dX2_lay_0 : decode cX2_lay 0 = .ok (.aload_n 0, 1) := by decide +kernel
theorem dX2_lay_1 : decode cX2_lay 1 = .ok (.getfield 13, 3) := by decide +kernel
theorem dX2_lay_4 : decode cX2_lay 4 = .ok (.bipush (-9), 2) := by decide +kernel
theorem dX2_lay_6 : decode cX2_lay 6 = .ok (.invokestatic 29, 3) := by decide +kernel
theorem dX2_lay_9 : decode cX2_lay 9 = .ok (.aload_n 0, 1) := by decide +kernel
theorem dX2_lay_10 : decode cX2_lay 10 = .ok (.iconst 0, 1) := by decide +kernel
theorem dX2_lay_11 : decode cX2_lay 11 = .ok (.putfield 35, 3) := by decide +kernel
theorem dX2_lay_14 : decode cX2_lay 14 = .ok (.aload_n 0, 1) := by decide +kernel
theorem dX2_lay_15 : decode cX2_lay 15 = .ok (.iconst 0, 1) := by decide +kernel
theorem dX2_lay_16 : decode cX2_lay 16 = .ok (.iconst 0, 1) := by decide +kernel
theorem dX2_lay_17 : decode cX2_lay 17 = .ok (.invokevirtual 39, 3) := by decide +kernel
theorem dX2_lay_20 : decode cX2_lay 20 = .ok (.pop, 1) := by decide +kernel
theorem dX2_lay_21 : decode cX2_lay 21 = .ok (.iconst 0, 1) := by decide +kernel
theorem dX2_lay_22 : decode cX2_lay 22 = .ok (.istore_n 2, 1) := by decide +kernel
theorem dX2_lay_23 : decode cX2_lay 23 = .ok (.iload_n 2, 1) := by decide +kernel
theorem dX2_lay_24 : decode cX2_lay 24 = .ok (.aload_n 0, 1) := by decide +kernel
theorem dX2_lay_25 : decode cX2_lay 25 = .ok (.getfield 35, 3) := by decide +kernel
theorem dX2_lay_28 : decode cX2_lay 28 = .ok (.if_icmp .ge 46, 3) := by decide +kernel
theorem dX2_lay_31 : decode cX2_lay 31 = .ok (.iload_n 2, 1) := by decide +kernel
theorem dX2_lay_32 : decode cX2_lay 32 = .ok (.sipush 320, 3) := by decide +kernel
theorem dX2_lay_35 : decode cX2_lay 35 = .ok (.if_icmp .ge 39, 3) := by decide +kernel
theorem dX2_lay_38 : decode cX2_lay 38 = .ok (.iconst 0, 1) := by decide +kernel
theorem dX2_lay_39 : decode cX2_lay 39 = .ok (.istore_n 3, 1) := by decide +kernel
theorem dX2_lay_40 : decode cX2_lay 40 = .ok (.iload_n 3, 1) := by decide +kernel
theorem dX2_lay_41 : decode cX2_lay 41 = .ok (.iconst 3, 1) := by decide +kernel
theorem dX2_lay_42 : decode cX2_lay 42 = .ok (.if_icmp .ge 26, 3) := by decide +kernel
theorem dX2_lay_45 : decode cX2_lay 45 = .ok (.aload_n 0, 1) := by decide +kernel
theorem dX2_lay_46 : decode cX2_lay 46 = .ok (.getfield 23, 3) := by decide +kernel
theorem dX2_lay_49 : decode cX2_lay 49 = .ok (.iconst 3, 1) := by decide +kernel
theorem dX2_lay_50 : decode cX2_lay 50 = .ok (.iload_n 2, 1) := by decide +kernel
theorem dX2_lay_51 : decode cX2_lay 51 = .ok (.imul, 1) := by decide +kernel
theorem dX2_lay_52 : decode cX2_lay 52 = .ok (.iload_n 3, 1) := by decide +kernel
theorem dX2_lay_53 : decode cX2_lay 53 = .ok (.iadd, 1) := by decide +kernel
theorem dX2_lay_54 : decode cX2_lay 54 = .ok (.aload_n 0, 1) := by decide +kernel
theorem dX2_lay_55 : decode cX2_lay 55 = .ok (.aload_n 1, 1) := by decide +kernel
theorem dX2_lay_56 : decode cX2_lay 56 = .ok (.iload_n 2, 1) := by decide +kernel
theorem dX2_lay_57 : decode cX2_lay 57 = .ok (.iload_n 3, 1) := by decide +kernel
theorem dX2_lay_58 : decode cX2_lay 58 = .ok (.invokevirtual 43, 3) := by decide +kernel
theorem dX2_lay_61 : decode cX2_lay 61 = .ok (.iastore, 1) := by decide +kernel
theorem dX2_lay_62 : decode cX2_lay 62 = .ok (.iinc 3 1, 3) := by decide +kernel
theorem dX2_lay_65 : decode cX2_lay 65 = .ok (.goto (-25), 3) := by decide +kernel
theorem dX2_lay_68 : decode cX2_lay 68 = .ok (.iinc 2 1, 3) := by decide +kernel
theorem dX2_lay_71 : decode cX2_lay 71 = .ok (.goto (-48), 3) := by decide +kernel
theorem dX2_lay_74 : decode cX2_lay 74 = .ok (.aload_n 0, 1) := by decide +kernel
theorem dX2_lay_75 : decode cX2_lay 75 = .ok (.iconst 0, 1) := by decide +kernel
theorem dX2_lay_76 : decode cX2_lay 76 = .ok (.aload_n 0, 1) := by decide +kernel
theorem dX2_lay_77 : decode cX2_lay 77 = .ok (.getfield 13, 3) := by decide +kernel
theorem dX2_lay_80 : decode cX2_lay 80 = .ok (.aload_n 1, 1) := by decide +kernel
theorem dX2_lay_81 : decode cX2_lay 81 = .ok (.getfield 47, 3) := by decide +kernel
theorem dX2_lay_84 : decode cX2_lay 84 = .ok (.iaload, 1) := by decide +kernel
theorem dX2_lay_85 : decode cX2_lay 85 = .ok (.invokestatic 50, 3) := by decide +kernel
theorem dX2_lay_88 : decode cX2_lay 88 = .ok (.putfield 55, 3) := by decide +kernel
theorem dX2_lay_91 : decode cX2_lay 91 = .ok (.aload_n 0, 1) := by decide +kernel
theorem dX2_lay_92 : decode cX2_lay 92 = .ok (.invokevirtual 58, 3) := by decide +kernel
theorem dX2_lay_95 : decode cX2_lay 95 = .ok (.return_, 1) := by decide +kernel
theorem dX2_pointAfter_0 : decode cX2_pointAfter 0 = .ok (.aload_n 0, 1) := by decide +kernel
theorem dX2_pointAfter_1 : decode cX2_pointAfter 1 = .ok (.getfield 17, 3) := by decide +kernel
theorem dX2_pointAfter_4 : decode cX2_pointAfter 4 = .ok (.iload_n 2, 1) := by decide +kernel
theorem dX2_pointAfter_5 : decode cX2_pointAfter 5 = .ok (.iaload, 1) := by decide +kernel
theorem dX2_pointAfter_6 : decode cX2_pointAfter 6 = .ok (.bipush 16, 2) := by decide +kernel
theorem dX2_pointAfter_8 : decode cX2_pointAfter 8 = .ok (.idiv, 1) := by decide +kernel
theorem dX2_pointAfter_9 : decode cX2_pointAfter 9 = .ok (.iload_n 3, 1) := by decide +kernel
theorem dX2_pointAfter_10 : decode cX2_pointAfter 10 = .ok (.invokestatic 61, 3) := by decide +kernel
theorem dX2_pointAfter_13 : decode cX2_pointAfter 13 = .ok (.istore 4, 2) := by decide +kernel
theorem dX2_pointAfter_15 : decode cX2_pointAfter 15 = .ok (.aload_n 0, 1) := by decide +kernel
theorem dX2_pointAfter_16 : decode cX2_pointAfter 16 = .ok (.getfield 17, 3) := by decide +kernel
theorem dX2_pointAfter_19 : decode cX2_pointAfter 19 = .ok (.iload_n 2, 1) := by decide +kernel
theorem dX2_pointAfter_20 : decode cX2_pointAfter 20 = .ok (.iaload, 1) := by decide +kernel
theorem dX2_pointAfter_21 : decode cX2_pointAfter 21 = .ok (.bipush 16, 2) := by decide +kernel
theorem dX2_pointAfter_23 : decode cX2_pointAfter 23 = .ok (.irem, 1) := by decide +kernel
theorem dX2_pointAfter_24 : decode cX2_pointAfter 24 = .ok (.istore 5, 2) := by decide +kernel
theorem dX2_pointAfter_26 : decode cX2_pointAfter 26 = .ok (.iload 5, 2) := by decide +kernel
theorem dX2_pointAfter_28 : decode cX2_pointAfter 28 = .ok (.aload_n 1, 1) := by decide +kernel
theorem dX2_pointAfter_29 : decode cX2_pointAfter 29 = .ok (.getfield 47, 3) := by decide +kernel
theorem dX2_pointAfter_32 : decode cX2_pointAfter 32 = .ok (.if_icmp .ne 5, 3) := by decide +kernel
theorem dX2_pointAfter_35 : decode cX2_pointAfter 35 = .ok (.iload_n 2, 1) := by decide +kernel
theorem dX2_pointAfter_36 : decode cX2_pointAfter 36 = .ok (.ireturn, 1) := by decide +kernel
theorem dX2_pointAfter_37 : decode cX2_pointAfter 37 = .ok (.iload 5, 2) := by decide +kernel
theorem dX2_pointAfter_39 : decode cX2_pointAfter 39 = .ok (.aload_n 1, 1) := by decide +kernel
theorem dX2_pointAfter_40 : decode cX2_pointAfter 40 = .ok (.getfield 64, 3) := by decide +kernel
theorem dX2_pointAfter_43 : decode cX2_pointAfter 43 = .ok (.iload 4, 2) := by decide +kernel
theorem dX2_pointAfter_45 : decode cX2_pointAfter 45 = .ok (.iaload, 1) := by decide +kernel
theorem dX2_pointAfter_46 : decode cX2_pointAfter 46 = .ok (.ior, 1) := by decide +kernel
theorem dX2_pointAfter_47 : decode cX2_pointAfter 47 = .ok (.istore 5, 2) := by decide +kernel
theorem dX2_pointAfter_49 : decode cX2_pointAfter 49 = .ok (.iload 5, 2) := by decide +kernel
theorem dX2_pointAfter_51 : decode cX2_pointAfter 51 = .ok (.aload_n 1, 1) := by decide +kernel
theorem dX2_pointAfter_52 : decode cX2_pointAfter 52 = .ok (.getfield 47, 3) := by decide +kernel
theorem dX2_pointAfter_55 : decode cX2_pointAfter 55 = .ok (.if_icmp .ne 7, 3) := by decide +kernel
theorem dX2_pointAfter_58 : decode cX2_pointAfter 58 = .ok (.iconst 0, 1) := by decide +kernel
theorem dX2_pointAfter_59 : decode cX2_pointAfter 59 = .ok (.goto 10, 3) := by decide +kernel
theorem dX2_pointAfter_62 : decode cX2_pointAfter 62 = .ok (.aload_n 1, 1) := by decide +kernel
theorem dX2_pointAfter_63 : decode cX2_pointAfter 63 = .ok (.getfield 67, 3) := by decide +kernel
theorem dX2_pointAfter_66 : decode cX2_pointAfter 66 = .ok (.iload 4, 2) := by decide +kernel
theorem dX2_pointAfter_68 : decode cX2_pointAfter 68 = .ok (.iaload, 1) := by decide +kernel
theorem dX2_pointAfter_69 : decode cX2_pointAfter 69 = .ok (.istore 6, 2) := by decide +kernel
theorem dX2_pointAfter_71 : decode cX2_pointAfter 71 = .ok (.aload_n 0, 1) := by decide +kernel
theorem dX2_pointAfter_72 : decode cX2_pointAfter 72 = .ok (.iload 6, 2) := by decide +kernel
theorem dX2_pointAfter_74 : decode cX2_pointAfter 74 = .ok (.bipush 16, 2) := by decide +kernel
theorem dX2_pointAfter_76 : decode cX2_pointAfter 76 = .ok (.imul, 1) := by decide +kernel
theorem dX2_pointAfter_77 : decode cX2_pointAfter 77 = .ok (.iload 5, 2) := by decide +kernel
theorem dX2_pointAfter_79 : decode cX2_pointAfter 79 = .ok (.iadd, 1) := by decide +kernel
theorem dX2_pointAfter_80 : decode cX2_pointAfter 80 = .ok (.iconst 3, 1) := by decide +kernel
theorem dX2_pointAfter_81 : decode cX2_pointAfter 81 = .ok (.iload_n 2, 1) := by decide +kernel
theorem dX2_pointAfter_82 : decode cX2_pointAfter 82 = .ok (.imul, 1) := by decide +kernel
theorem dX2_pointAfter_83 : decode cX2_pointAfter 83 = .ok (.iload_n 3, 1) := by decide +kernel
theorem dX2_pointAfter_84 : decode cX2_pointAfter 84 = .ok (.iadd, 1) := by decide +kernel
theorem dX2_pointAfter_85 : decode cX2_pointAfter 85 = .ok (.invokevirtual 39, 3) := by decide +kernel
theorem dX2_pointAfter_88 : decode cX2_pointAfter 88 = .ok (.ireturn, 1) := by decide +kernel
theorem dX2_find_0 : decode cX2_find 0 = .ok (.aload_n 0, 1) := by decide +kernel
theorem dX2_find_1 : decode cX2_find 1 = .ok (.getfield 13, 3) := by decide +kernel
theorem dX2_find_4 : decode cX2_find 4 = .ok (.iload_n 1, 1) := by decide +kernel
theorem dX2_find_5 : decode cX2_find 5 = .ok (.iaload, 1) := by decide +kernel
theorem dX2_find_6 : decode cX2_find 6 = .ok (.bipush (-9), 2) := by decide +kernel
theorem dX2_find_8 : decode cX2_find 8 = .ok (.if_icmp .ne 53, 3) := by decide +kernel
theorem dX2_find_11 : decode cX2_find 11 = .ok (.aload_n 0, 1) := by decide +kernel
theorem dX2_find_12 : decode cX2_find 12 = .ok (.getfield 35, 3) := by decide +kernel
theorem dX2_find_15 : decode cX2_find 15 = .ok (.sipush 320, 3) := by decide +kernel
theorem dX2_find_18 : decode cX2_find 18 = .ok (.if_icmp .ge 43, 3) := by decide +kernel
theorem dX2_find_21 : decode cX2_find 21 = .ok (.aload_n 0, 1) := by decide +kernel
theorem dX2_find_22 : decode cX2_find 22 = .ok (.getfield 13, 3) := by decide +kernel
theorem dX2_find_25 : decode cX2_find 25 = .ok (.iload_n 1, 1) := by decide +kernel
theorem dX2_find_26 : decode cX2_find 26 = .ok (.aload_n 0, 1) := by decide +kernel
theorem dX2_find_27 : decode cX2_find 27 = .ok (.getfield 35, 3) := by decide +kernel
theorem dX2_find_30 : decode cX2_find 30 = .ok (.iastore, 1) := by decide +kernel
theorem dX2_find_31 : decode cX2_find 31 = .ok (.aload_n 0, 1) := by decide +kernel
theorem dX2_find_32 : decode cX2_find 32 = .ok (.getfield 17, 3) := by decide +kernel
theorem dX2_find_35 : decode cX2_find 35 = .ok (.aload_n 0, 1) := by decide +kernel
theorem dX2_find_36 : decode cX2_find 36 = .ok (.getfield 35, 3) := by decide +kernel
theorem dX2_find_39 : decode cX2_find 39 = .ok (.iload_n 1, 1) := by decide +kernel
theorem dX2_find_40 : decode cX2_find 40 = .ok (.iastore, 1) := by decide +kernel
theorem dX2_find_41 : decode cX2_find 41 = .ok (.aload_n 0, 1) := by decide +kernel
theorem dX2_find_42 : decode cX2_find 42 = .ok (.getfield 20, 3) := by decide +kernel
theorem dX2_find_45 : decode cX2_find 45 = .ok (.aload_n 0, 1) := by decide +kernel
theorem dX2_find_46 : decode cX2_find 46 = .ok (.getfield 35, 3) := by decide +kernel
theorem dX2_find_49 : decode cX2_find 49 = .ok (.iload_n 2, 1) := by decide +kernel
theorem dX2_find_50 : decode cX2_find 50 = .ok (.iastore, 1) := by decide +kernel
theorem dX2_find_51 : decode cX2_find 51 = .ok (.aload_n 0, 1) := by decide +kernel
theorem dX2_find_52 : decode cX2_find 52 = .ok (.dup, 1) := by decide +kernel
theorem dX2_find_53 : decode cX2_find 53 = .ok (.getfield 35, 3) := by decide +kernel
theorem dX2_find_56 : decode cX2_find 56 = .ok (.iconst 1, 1) := by decide +kernel
theorem dX2_find_57 : decode cX2_find 57 = .ok (.iadd, 1) := by decide +kernel
theorem dX2_find_58 : decode cX2_find 58 = .ok (.putfield 35, 3) := by decide +kernel
theorem dX2_find_61 : decode cX2_find 61 = .ok (.iconst 0, 1) := by decide +kernel
theorem dX2_find_62 : decode cX2_find 62 = .ok (.aload_n 0, 1) := by decide +kernel
theorem dX2_find_63 : decode cX2_find 63 = .ok (.getfield 13, 3) := by decide +kernel
theorem dX2_find_66 : decode cX2_find 66 = .ok (.iload_n 1, 1) := by decide +kernel
theorem dX2_find_67 : decode cX2_find 67 = .ok (.iaload, 1) := by decide +kernel
theorem dX2_find_68 : decode cX2_find 68 = .ok (.invokestatic 50, 3) := by decide +kernel
theorem dX2_find_71 : decode cX2_find 71 = .ok (.ireturn, 1) := by decide +kernel
theorem dX2_isSilent_0 : decode cX2_isSilent 0 = .ok (.aload_n 0, 1) := by decide +kernel
theorem dX2_isSilent_1 : decode cX2_isSilent 1 = .ok (.getfield 17, 3) := by decide +kernel
theorem dX2_isSilent_4 : decode cX2_isSilent 4 = .ok (.iload_n 1, 1) := by decide +kernel
theorem dX2_isSilent_5 : decode cX2_isSilent 5 = .ok (.iaload, 1) := by decide +kernel
theorem dX2_isSilent_6 : decode cX2_isSilent 6 = .ok (.bipush 16, 2) := by decide +kernel
theorem dX2_isSilent_8 : decode cX2_isSilent 8 = .ok (.irem, 1) := by decide +kernel
theorem dX2_isSilent_9 : decode cX2_isSilent 9 = .ok (.ifCond .ne 7, 3) := by decide +kernel
theorem dX2_isSilent_12 : decode cX2_isSilent 12 = .ok (.iconst 1, 1) := by decide +kernel
theorem dX2_isSilent_13 : decode cX2_isSilent 13 = .ok (.goto 4, 3) := by decide +kernel
theorem dX2_isSilent_16 : decode cX2_isSilent 16 = .ok (.iconst 0, 1) := by decide +kernel
theorem dX2_isSilent_17 : decode cX2_isSilent 17 = .ok (.ireturn, 1) := by decide +kernel
theorem dX2_layShortestRow_0 : decode cX2_layShortestRow 0 = .ok (.aload_n 0, 1) := by decide +kernel
theorem dX2_layShortestRow_1 : decode cX2_layShortestRow 1 = .ok (.iconst 0, 1) := by decide +kernel
theorem dX2_layShortestRow_2 : decode cX2_layShortestRow 2 = .ok (.putfield 70, 3) := by decide +kernel
theorem dX2_layShortestRow_5 : decode cX2_layShortestRow 5 = .ok (.aload_n 0, 1) := by decide +kernel
theorem dX2_layShortestRow_6 : decode cX2_layShortestRow 6 = .ok (.getfield 55, 3) := by decide +kernel
theorem dX2_layShortestRow_9 : decode cX2_layShortestRow 9 = .ok (.istore_n 1, 1) := by decide +kernel
theorem dX2_layShortestRow_10 : decode cX2_layShortestRow 10 = .ok (.iload_n 1, 1) := by decide +kernel
theorem dX2_layShortestRow_11 : decode cX2_layShortestRow 11 = .ok (.ifCond .le 34, 3) := by decide +kernel
theorem dX2_layShortestRow_14 : decode cX2_layShortestRow 14 = .ok (.aload_n 0, 1) := by decide +kernel
theorem dX2_layShortestRow_15 : decode cX2_layShortestRow 15 = .ok (.getfield 70, 3) := by decide +kernel
theorem dX2_layShortestRow_18 : decode cX2_layShortestRow 18 = .ok (.bipush 16, 2) := by decide +kernel
theorem dX2_layShortestRow_20 : decode cX2_layShortestRow 20 = .ok (.if_icmp .ge 25, 3) := by decide +kernel
theorem dX2_layShortestRow_23 : decode cX2_layShortestRow 23 = .ok (.aload_n 0, 1) := by decide +kernel
theorem dX2_layShortestRow_24 : decode cX2_layShortestRow 24 = .ok (.dup, 1) := by decide +kernel
theorem dX2_layShortestRow_25 : decode cX2_layShortestRow 25 = .ok (.getfield 70, 3) := by decide +kernel
theorem dX2_layShortestRow_28 : decode cX2_layShortestRow 28 = .ok (.iconst 1, 1) := by decide +kernel
theorem dX2_layShortestRow_29 : decode cX2_layShortestRow 29 = .ok (.iadd, 1) := by decide +kernel
theorem dX2_layShortestRow_30 : decode cX2_layShortestRow 30 = .ok (.putfield 70, 3) := by decide +kernel
theorem dX2_layShortestRow_33 : decode cX2_layShortestRow 33 = .ok (.aload_n 0, 1) := by decide +kernel
theorem dX2_layShortestRow_34 : decode cX2_layShortestRow 34 = .ok (.getfield 20, 3) := by decide +kernel
theorem dX2_layShortestRow_37 : decode cX2_layShortestRow 37 = .ok (.iload_n 1, 1) := by decide +kernel
theorem dX2_layShortestRow_38 : decode cX2_layShortestRow 38 = .ok (.iaload, 1) := by decide +kernel
theorem dX2_layShortestRow_39 : decode cX2_layShortestRow 39 = .ok (.iconst 3, 1) := by decide +kernel
theorem dX2_layShortestRow_40 : decode cX2_layShortestRow 40 = .ok (.idiv, 1) := by decide +kernel
theorem dX2_layShortestRow_41 : decode cX2_layShortestRow 41 = .ok (.istore_n 1, 1) := by decide +kernel
theorem dX2_layShortestRow_42 : decode cX2_layShortestRow 42 = .ok (.goto (-32), 3) := by decide +kernel
theorem dX2_layShortestRow_45 : decode cX2_layShortestRow 45 = .ok (.aload_n 0, 1) := by decide +kernel
theorem dX2_layShortestRow_46 : decode cX2_layShortestRow 46 = .ok (.getfield 55, 3) := by decide +kernel
theorem dX2_layShortestRow_49 : decode cX2_layShortestRow 49 = .ok (.istore_n 1, 1) := by decide +kernel
theorem dX2_layShortestRow_50 : decode cX2_layShortestRow 50 = .ok (.aload_n 0, 1) := by decide +kernel
theorem dX2_layShortestRow_51 : decode cX2_layShortestRow 51 = .ok (.getfield 70, 3) := by decide +kernel
theorem dX2_layShortestRow_54 : decode cX2_layShortestRow 54 = .ok (.iconst 1, 1) := by decide +kernel
theorem dX2_layShortestRow_55 : decode cX2_layShortestRow 55 = .ok (.isub, 1) := by decide +kernel
theorem dX2_layShortestRow_56 : decode cX2_layShortestRow 56 = .ok (.istore_n 2, 1) := by decide +kernel
theorem dX2_layShortestRow_57 : decode cX2_layShortestRow 57 = .ok (.iload_n 2, 1) := by decide +kernel
theorem dX2_layShortestRow_58 : decode cX2_layShortestRow 58 = .ok (.ifCond .lt 32, 3) := by decide +kernel
theorem dX2_layShortestRow_61 : decode cX2_layShortestRow 61 = .ok (.aload_n 0, 1) := by decide +kernel
theorem dX2_layShortestRow_62 : decode cX2_layShortestRow 62 = .ok (.getfield 26, 3) := by decide +kernel
theorem dX2_layShortestRow_65 : decode cX2_layShortestRow 65 = .ok (.iload_n 2, 1) := by decide +kernel
theorem dX2_layShortestRow_66 : decode cX2_layShortestRow 66 = .ok (.aload_n 0, 1) := by decide +kernel
theorem dX2_layShortestRow_67 : decode cX2_layShortestRow 67 = .ok (.getfield 20, 3) := by decide +kernel
theorem dX2_layShortestRow_70 : decode cX2_layShortestRow 70 = .ok (.iload_n 1, 1) := by decide +kernel
theorem dX2_layShortestRow_71 : decode cX2_layShortestRow 71 = .ok (.iaload, 1) := by decide +kernel
theorem dX2_layShortestRow_72 : decode cX2_layShortestRow 72 = .ok (.iconst 3, 1) := by decide +kernel
theorem dX2_layShortestRow_73 : decode cX2_layShortestRow 73 = .ok (.irem, 1) := by decide +kernel
theorem dX2_layShortestRow_74 : decode cX2_layShortestRow 74 = .ok (.iastore, 1) := by decide +kernel
theorem dX2_layShortestRow_75 : decode cX2_layShortestRow 75 = .ok (.aload_n 0, 1) := by decide +kernel
theorem dX2_layShortestRow_76 : decode cX2_layShortestRow 76 = .ok (.getfield 20, 3) := by decide +kernel
theorem dX2_layShortestRow_79 : decode cX2_layShortestRow 79 = .ok (.iload_n 1, 1) := by decide +kernel
theorem dX2_layShortestRow_80 : decode cX2_layShortestRow 80 = .ok (.iaload, 1) := by decide +kernel
theorem dX2_layShortestRow_81 : decode cX2_layShortestRow 81 = .ok (.iconst 3, 1) := by decide +kernel
theorem dX2_layShortestRow_82 : decode cX2_layShortestRow 82 = .ok (.idiv, 1) := by decide +kernel
theorem dX2_layShortestRow_83 : decode cX2_layShortestRow 83 = .ok (.istore_n 1, 1) := by decide +kernel
theorem dX2_layShortestRow_84 : decode cX2_layShortestRow 84 = .ok (.iinc 2 (-1), 3) := by decide +kernel
theorem dX2_layShortestRow_87 : decode cX2_layShortestRow 87 = .ok (.goto (-30), 3) := by decide +kernel
theorem dX2_layShortestRow_90 : decode cX2_layShortestRow 90 = .ok (.return_, 1) := by decide +kernel
theorem dX3_init_0 : decode cX3_init 0 = .ok (.aload_n 0, 1) := by decide +kernel
theorem dX3_init_1 : decode cX3_init 1 = .ok (.invokespecial 3, 3) := by decide +kernel
theorem dX3_init_4 : decode cX3_init 4 = .ok (.aload_n 0, 1) := by decide +kernel
theorem dX3_init_5 : decode cX3_init 5 = .ok (.bipush 8, 2) := by decide +kernel
theorem dX3_init_7 : decode cX3_init 7 = .ok (.newarray .int, 2) := by decide +kernel
theorem dX3_init_9 : decode cX3_init 9 = .ok (.putfield 9, 3) := by decide +kernel
theorem dX3_init_12 : decode cX3_init 12 = .ok (.return_, 1) := by decide +kernel
theorem dX3_keep_0 : decode cX3_keep 0 = .ok (.aload_n 0, 1) := by decide +kernel
theorem dX3_keep_1 : decode cX3_keep 1 = .ok (.iload_n 1, 1) := by decide +kernel
theorem dX3_keep_2 : decode cX3_keep 2 = .ok (.putfield 15, 3) := by decide +kernel
theorem dX3_keep_5 : decode cX3_keep 5 = .ok (.aload_n 0, 1) := by decide +kernel
theorem dX3_keep_6 : decode cX3_keep 6 = .ok (.iload_n 3, 1) := by decide +kernel
theorem dX3_keep_7 : decode cX3_keep 7 = .ok (.putfield 19, 3) := by decide +kernel
theorem dX3_keep_10 : decode cX3_keep 10 = .ok (.aload_n 0, 1) := by decide +kernel
theorem dX3_keep_11 : decode cX3_keep 11 = .ok (.iload 4, 2) := by decide +kernel
theorem dX3_keep_13 : decode cX3_keep 13 = .ok (.putfield 22, 3) := by decide +kernel
theorem dX3_keep_16 : decode cX3_keep 16 = .ok (.aload_n 2, 1) := by decide +kernel
theorem dX3_keep_17 : decode cX3_keep 17 = .ok (.iconst 0, 1) := by decide +kernel
theorem dX3_keep_18 : decode cX3_keep 18 = .ok (.aload_n 0, 1) := by decide +kernel
theorem dX3_keep_19 : decode cX3_keep 19 = .ok (.getfield 9, 3) := by decide +kernel
theorem dX3_keep_22 : decode cX3_keep 22 = .ok (.iconst 0, 1) := by decide +kernel
theorem dX3_keep_23 : decode cX3_keep 23 = .ok (.iload_n 3, 1) := by decide +kernel
theorem dX3_keep_24 : decode cX3_keep 24 = .ok (.invokestatic 26, 3) := by decide +kernel
theorem dX3_keep_27 : decode cX3_keep 27 = .ok (.return_, 1) := by decide +kernel
theorem dX4_init_0 : decode cX4_init 0 = .ok (.aload_n 0, 1) := by decide +kernel
theorem dX4_init_1 : decode cX4_init 1 = .ok (.invokespecial 3, 3) := by decide +kernel
theorem dX4_init_4 : decode cX4_init 4 = .ok (.aload_n 0, 1) := by decide +kernel
theorem dX4_init_5 : decode cX4_init 5 = .ok (.bipush 60, 2) := by decide +kernel
theorem dX4_init_7 : decode cX4_init 7 = .ok (.newarray .int, 2) := by decide +kernel
theorem dX4_init_9 : decode cX4_init 9 = .ok (.putfield 9, 3) := by decide +kernel
theorem dX4_init_12 : decode cX4_init 12 = .ok (.return_, 1) := by decide +kernel
theorem dX4_begin_0 : decode cX4_begin 0 = .ok (.aload_n 0, 1) := by decide +kernel
theorem dX4_begin_1 : decode cX4_begin 1 = .ok (.iconst 1, 1) := by decide +kernel
theorem dX4_begin_2 : decode cX4_begin 2 = .ok (.putfield 15, 3) := by decide +kernel
theorem dX4_begin_5 : decode cX4_begin 5 = .ok (.aload_n 0, 1) := by decide +kernel
theorem dX4_begin_6 : decode cX4_begin 6 = .ok (.iload_n 1, 1) := by decide +kernel
theorem dX4_begin_7 : decode cX4_begin 7 = .ok (.putfield 19, 3) := by decide +kernel
theorem dX4_begin_10 : decode cX4_begin 10 = .ok (.aload_n 0, 1) := by decide +kernel
theorem dX4_begin_11 : decode cX4_begin 11 = .ok (.iload_n 2, 1) := by decide +kernel
theorem dX4_begin_12 : decode cX4_begin 12 = .ok (.putfield 23, 3) := by decide +kernel
theorem dX4_begin_15 : decode cX4_begin 15 = .ok (.aload_n 0, 1) := by decide +kernel
theorem dX4_begin_16 : decode cX4_begin 16 = .ok (.getfield 9, 3) := by decide +kernel
theorem dX4_begin_19 : decode cX4_begin 19 = .ok (.iconst 0, 1) := by decide +kernel
theorem dX4_begin_20 : decode cX4_begin 20 = .ok (.invokestatic 26, 3) := by decide +kernel
theorem dX4_begin_23 : decode cX4_begin 23 = .ok (.return_, 1) := by decide +kernel
theorem dX4_write_0 : decode cX4_write 0 = .ok (.aload_n 0, 1) := by decide +kernel
theorem dX4_write_1 : decode cX4_write 1 = .ok (.getfield 19, 3) := by decide +kernel
theorem dX4_write_4 : decode cX4_write 4 = .ok (.ifCond .ne 14, 3) := by decide +kernel
theorem dX4_write_7 : decode cX4_write 7 = .ok (.aload_n 0, 1) := by decide +kernel
theorem dX4_write_8 : decode cX4_write 8 = .ok (.getfield 9, 3) := by decide +kernel
theorem dX4_write_11 : decode cX4_write 11 = .ok (.iload_n 1, 1) := by decide +kernel
theorem dX4_write_12 : decode cX4_write 12 = .ok (.iload_n 2, 1) := by decide +kernel
theorem dX4_write_13 : decode cX4_write 13 = .ok (.i2b, 1) := by decide +kernel
theorem dX4_write_14 : decode cX4_write 14 = .ok (.iastore, 1) := by decide +kernel
theorem dX4_write_15 : decode cX4_write 15 = .ok (.goto 29, 3) := by decide +kernel
theorem dX4_write_18 : decode cX4_write 18 = .ok (.aload_n 0, 1) := by decide +kernel
theorem dX4_write_19 : decode cX4_write 19 = .ok (.getfield 19, 3) := by decide +kernel
theorem dX4_write_22 : decode cX4_write 22 = .ok (.iconst 1, 1) := by decide +kernel
theorem dX4_write_23 : decode cX4_write 23 = .ok (.if_icmp .ne 14, 3) := by decide +kernel
theorem dX4_write_26 : decode cX4_write 26 = .ok (.aload_n 0, 1) := by decide +kernel
theorem dX4_write_27 : decode cX4_write 27 = .ok (.getfield 9, 3) := by decide +kernel
theorem dX4_write_30 : decode cX4_write 30 = .ok (.iload_n 1, 1) := by decide +kernel
theorem dX4_write_31 : decode cX4_write 31 = .ok (.iload_n 2, 1) := by decide +kernel
theorem dX4_write_32 : decode cX4_write 32 = .ok (.i2s, 1) := by decide +kernel
theorem dX4_write_33 : decode cX4_write 33 = .ok (.iastore, 1) := by decide +kernel
theorem dX4_write_34 : decode cX4_write 34 = .ok (.goto 10, 3) := by decide +kernel
theorem dX4_write_37 : decode cX4_write 37 = .ok (.aload_n 0, 1) := by decide +kernel
theorem dX4_write_38 : decode cX4_write 38 = .ok (.getfield 9, 3) := by decide +kernel
theorem dX4_write_41 : decode cX4_write 41 = .ok (.iload_n 1, 1) := by decide +kernel
theorem dX4_write_42 : decode cX4_write 42 = .ok (.iload_n 2, 1) := by decide +kernel
theorem dX4_write_43 : decode cX4_write 43 = .ok (.iastore, 1) := by decide +kernel
theorem dX4_write_44 : decode cX4_write 44 = .ok (.return_, 1) := by decide +kernel
theorem dX4_hasCells_0 : decode cX4_hasCells 0 = .ok (.iload_n 2, 1) := by decide +kernel
theorem dX4_hasCells_1 : decode cX4_hasCells 1 = .ok (.ifCond .lt 29, 3) := by decide +kernel
theorem dX4_hasCells_4 : decode cX4_hasCells 4 = .ok (.iload_n 1, 1) := by decide +kernel
theorem dX4_hasCells_5 : decode cX4_hasCells 5 = .ok (.ifCond .lt 25, 3) := by decide +kernel
theorem dX4_hasCells_8 : decode cX4_hasCells 8 = .ok (.iload_n 1, 1) := by decide +kernel
theorem dX4_hasCells_9 : decode cX4_hasCells 9 = .ok (.aload_n 0, 1) := by decide +kernel
theorem dX4_hasCells_10 : decode cX4_hasCells 10 = .ok (.getfield 23, 3) := by decide +kernel
theorem dX4_hasCells_13 : decode cX4_hasCells 13 = .ok (.if_icmp .gt 17, 3) := by decide +kernel
theorem dX4_hasCells_16 : decode cX4_hasCells 16 = .ok (.iload_n 2, 1) := by decide +kernel
theorem dX4_hasCells_17 : decode cX4_hasCells 17 = .ok (.aload_n 0, 1) := by decide +kernel
theorem dX4_hasCells_18 : decode cX4_hasCells 18 = .ok (.getfield 23, 3) := by decide +kernel
theorem dX4_hasCells_21 : decode cX4_hasCells 21 = .ok (.iload_n 1, 1) := by decide +kernel
theorem dX4_hasCells_22 : decode cX4_hasCells 22 = .ok (.isub, 1) := by decide +kernel
theorem dX4_hasCells_23 : decode cX4_hasCells 23 = .ok (.if_icmp .gt 7, 3) := by decide +kernel
theorem dX4_hasCells_26 : decode cX4_hasCells 26 = .ok (.iconst 1, 1) := by decide +kernel
theorem dX4_hasCells_27 : decode cX4_hasCells 27 = .ok (.goto 4, 3) := by decide +kernel
theorem dX4_hasCells_30 : decode cX4_hasCells 30 = .ok (.iconst 0, 1) := by decide +kernel
theorem dX4_hasCells_31 : decode cX4_hasCells 31 = .ok (.ireturn, 1) := by decide +kernel
theorem dX4_faultOfLane_0 : decode cX4_faultOfLane 0 = .ok (.aload_n 0, 1) := by decide +kernel
theorem dX4_faultOfLane_1 : decode cX4_faultOfLane 1 = .ok (.getfield 15, 3) := by decide +kernel
theorem dX4_faultOfLane_4 : decode cX4_faultOfLane 4 = .ok (.ifCond .ne 5, 3) := by decide +kernel
theorem dX4_faultOfLane_7 : decode cX4_faultOfLane 7 = .ok (.iconst 1, 1) := by decide +kernel
theorem dX4_faultOfLane_8 : decode cX4_faultOfLane 8 = .ok (.ireturn, 1) := by decide +kernel
theorem dX4_faultOfLane_9 : decode cX4_faultOfLane 9 = .ok (.aload_n 0, 1) := by decide +kernel
theorem dX4_faultOfLane_10 : decode cX4_faultOfLane 10 = .ok (.getfield 19, 3) := by decide +kernel
theorem dX4_faultOfLane_13 : decode cX4_faultOfLane 13 = .ok (.iload_n 1, 1) := by decide +kernel
theorem dX4_faultOfLane_14 : decode cX4_faultOfLane 14 = .ok (.if_icmp .ne 7, 3) := by decide +kernel
theorem dX4_faultOfLane_17 : decode cX4_faultOfLane 17 = .ok (.iconst 0, 1) := by decide +kernel
theorem dX4_faultOfLane_18 : decode cX4_faultOfLane 18 = .ok (.goto 4, 3) := by decide +kernel
theorem dX4_faultOfLane_21 : decode cX4_faultOfLane 21 = .ok (.iconst 2, 1) := by decide +kernel
theorem dX4_faultOfLane_22 : decode cX4_faultOfLane 22 = .ok (.ireturn, 1) := by decide +kernel
theorem dX4_faultOfCells_0 : decode cX4_faultOfCells 0 = .ok (.aload_n 0, 1) := by decide +kernel
theorem dX4_faultOfCells_1 : decode cX4_faultOfCells 1 = .ok (.iload_n 1, 1) := by decide +kernel
theorem dX4_faultOfCells_2 : decode cX4_faultOfCells 2 = .ok (.invokevirtual 32, 3) := by decide +kernel
theorem dX4_faultOfCells_5 : decode cX4_faultOfCells 5 = .ok (.istore 4, 2) := by decide +kernel
theorem dX4_faultOfCells_7 : decode cX4_faultOfCells 7 = .ok (.iload 4, 2) := by decide +kernel
theorem dX4_faultOfCells_9 : decode cX4_faultOfCells 9 = .ok (.ifCond .eq 6, 3) := by decide +kernel
theorem dX4_faultOfCells_12 : decode cX4_faultOfCells 12 = .ok (.iload 4, 2) := by decide +kernel
theorem dX4_faultOfCells_14 : decode cX4_faultOfCells 14 = .ok (.ireturn, 1) := by decide +kernel
theorem dX4_faultOfCells_15 : decode cX4_faultOfCells 15 = .ok (.iload_n 3, 1) := by decide +kernel
theorem dX4_faultOfCells_16 : decode cX4_faultOfCells 16 = .ok (.ifCond .ge 5, 3) := by decide +kernel
theorem dX4_faultOfCells_19 : decode cX4_faultOfCells 19 = .ok (.iconst 4, 1) := by decide +kernel
theorem dX4_faultOfCells_20 : decode cX4_faultOfCells 20 = .ok (.ireturn, 1) := by decide +kernel
theorem dX4_faultOfCells_21 : decode cX4_faultOfCells 21 = .ok (.aload_n 0, 1) := by decide +kernel
theorem dX4_faultOfCells_22 : decode cX4_faultOfCells 22 = .ok (.iload_n 2, 1) := by decide +kernel
theorem dX4_faultOfCells_23 : decode cX4_faultOfCells 23 = .ok (.iload_n 3, 1) := by decide +kernel
theorem dX4_faultOfCells_24 : decode cX4_faultOfCells 24 = .ok (.invokevirtual 36, 3) := by decide +kernel
theorem dX4_faultOfCells_27 : decode cX4_faultOfCells 27 = .ok (.ifCond .eq 7, 3) := by decide +kernel
theorem dX4_faultOfCells_30 : decode cX4_faultOfCells 30 = .ok (.iconst 0, 1) := by decide +kernel
theorem dX4_faultOfCells_31 : decode cX4_faultOfCells 31 = .ok (.goto 4, 3) := by decide +kernel
theorem dX4_faultOfCells_34 : decode cX4_faultOfCells 34 = .ok (.iconst 3, 1) := by decide +kernel
theorem dX4_faultOfCells_35 : decode cX4_faultOfCells 35 = .ok (.ireturn, 1) := by decide +kernel
theorem dX4_lettersTo_0 : decode cX4_lettersTo 0 = .ok (.aload_n 0, 1) := by decide +kernel
theorem dX4_lettersTo_1 : decode cX4_lettersTo 1 = .ok (.iload_n 2, 1) := by decide +kernel
theorem dX4_lettersTo_2 : decode cX4_lettersTo 2 = .ok (.iload_n 3, 1) := by decide +kernel
theorem dX4_lettersTo_3 : decode cX4_lettersTo 3 = .ok (.invokevirtual 36, 3) := by decide +kernel
theorem dX4_lettersTo_6 : decode cX4_lettersTo 6 = .ok (.ifCond .eq 9, 3) := by decide +kernel
theorem dX4_lettersTo_9 : decode cX4_lettersTo 9 = .ok (.iload_n 3, 1) := by decide +kernel
theorem dX4_lettersTo_10 : decode cX4_lettersTo 10 = .ok (.aload_n 1, 1) := by decide +kernel
theorem dX4_lettersTo_11 : decode cX4_lettersTo 11 = .ok (.arraylength, 1) := by decide +kernel
theorem dX4_lettersTo_12 : decode cX4_lettersTo 12 = .ok (.if_icmp .le 5, 3) := by decide +kernel
theorem dX4_lettersTo_15 : decode cX4_lettersTo 15 = .ok (.iconst 0, 1) := by decide +kernel
theorem dX4_lettersTo_16 : decode cX4_lettersTo 16 = .ok (.ireturn, 1) := by decide +kernel
theorem dX4_lettersTo_17 : decode cX4_lettersTo 17 = .ok (.iconst 0, 1) := by decide +kernel
theorem dX4_lettersTo_18 : decode cX4_lettersTo 18 = .ok (.istore 4, 2) := by decide +kernel
theorem dX4_lettersTo_20 : decode cX4_lettersTo 20 = .ok (.iload 4, 2) := by decide +kernel
theorem dX4_lettersTo_22 : decode cX4_lettersTo 22 = .ok (.iload_n 3, 1) := by decide +kernel
theorem dX4_lettersTo_23 : decode cX4_lettersTo 23 = .ok (.if_icmp .ge 40, 3) := by decide +kernel
theorem dX4_lettersTo_26 : decode cX4_lettersTo 26 = .ok (.aload_n 0, 1) := by decide +kernel
theorem dX4_lettersTo_27 : decode cX4_lettersTo 27 = .ok (.getfield 9, 3) := by decide +kernel
theorem dX4_lettersTo_30 : decode cX4_lettersTo 30 = .ok (.iload_n 2, 1) := by decide +kernel
theorem dX4_lettersTo_31 : decode cX4_lettersTo 31 = .ok (.iload 4, 2) := by decide +kernel
theorem dX4_lettersTo_33 : decode cX4_lettersTo 33 = .ok (.iadd, 1) := by decide +kernel
theorem dX4_lettersTo_34 : decode cX4_lettersTo 34 = .ok (.iaload, 1) := by decide +kernel
theorem dX4_lettersTo_35 : decode cX4_lettersTo 35 = .ok (.iconst 3, 1) := by decide +kernel
theorem dX4_lettersTo_36 : decode cX4_lettersTo 36 = .ok (.invokestatic 40, 3) := by decide +kernel
theorem dX4_lettersTo_39 : decode cX4_lettersTo 39 = .ok (.ifCond .ne 5, 3) := by decide +kernel
theorem dX4_lettersTo_42 : decode cX4_lettersTo 42 = .ok (.iconst 0, 1) := by decide +kernel
theorem dX4_lettersTo_43 : decode cX4_lettersTo 43 = .ok (.ireturn, 1) := by decide +kernel
theorem dX4_lettersTo_44 : decode cX4_lettersTo 44 = .ok (.aload_n 1, 1) := by decide +kernel
theorem dX4_lettersTo_45 : decode cX4_lettersTo 45 = .ok (.iload 4, 2) := by decide +kernel
theorem dX4_lettersTo_47 : decode cX4_lettersTo 47 = .ok (.aload_n 0, 1) := by decide +kernel
theorem dX4_lettersTo_48 : decode cX4_lettersTo 48 = .ok (.getfield 9, 3) := by decide +kernel
theorem dX4_lettersTo_51 : decode cX4_lettersTo 51 = .ok (.iload_n 2, 1) := by decide +kernel
theorem dX4_lettersTo_52 : decode cX4_lettersTo 52 = .ok (.iload 4, 2) := by decide +kernel
theorem dX4_lettersTo_54 : decode cX4_lettersTo 54 = .ok (.iadd, 1) := by decide +kernel
theorem dX4_lettersTo_55 : decode cX4_lettersTo 55 = .ok (.iaload, 1) := by decide +kernel
theorem dX4_lettersTo_56 : decode cX4_lettersTo 56 = .ok (.iastore, 1) := by decide +kernel
theorem dX4_lettersTo_57 : decode cX4_lettersTo 57 = .ok (.iinc 4 1, 3) := by decide +kernel
theorem dX4_lettersTo_60 : decode cX4_lettersTo 60 = .ok (.goto (-40), 3) := by decide +kernel
theorem dX4_lettersTo_63 : decode cX4_lettersTo 63 = .ok (.iconst 1, 1) := by decide +kernel
theorem dX4_lettersTo_64 : decode cX4_lettersTo 64 = .ok (.ireturn, 1) := by decide +kernel
theorem dX5_init_0 : decode cX5_init 0 = .ok (.aload_n 0, 1) := by decide +kernel
theorem dX5_init_1 : decode cX5_init 1 = .ok (.invokespecial 3, 3) := by decide +kernel
theorem dX5_init_4 : decode cX5_init 4 = .ok (.aload_n 0, 1) := by decide +kernel
theorem dX5_init_5 : decode cX5_init 5 = .ok (.invokestatic 9, 3) := by decide +kernel
theorem dX5_init_8 : decode cX5_init 8 = .ok (.putfield 13, 3) := by decide +kernel
theorem dX5_init_11 : decode cX5_init 11 = .ok (.return_, 1) := by decide +kernel
theorem dX5_firstFault_0 : decode cX5_firstFault 0 = .ok (.aload_n 1, 1) := by decide +kernel
theorem dX5_firstFault_1 : decode cX5_firstFault 1 = .ok (.iload_n 2, 1) := by decide +kernel
theorem dX5_firstFault_2 : decode cX5_firstFault 2 = .ok (.iload_n 3, 1) := by decide +kernel
theorem dX5_firstFault_3 : decode cX5_firstFault 3 = .ok (.invokevirtual 19, 3) := by decide +kernel
theorem dX5_firstFault_6 : decode cX5_firstFault 6 = .ok (.ifCond .ne 5, 3) := by decide +kernel
theorem dX5_firstFault_9 : decode cX5_firstFault 9 = .ok (.iconst 0, 1) := by decide +kernel
theorem dX5_firstFault_10 : decode cX5_firstFault 10 = .ok (.ireturn, 1) := by decide +kernel
theorem dX5_firstFault_11 : decode cX5_firstFault 11 = .ok (.aload_n 0, 1) := by decide +kernel
theorem dX5_firstFault_12 : decode cX5_firstFault 12 = .ok (.iconst 0, 1) := by decide +kernel
theorem dX5_firstFault_13 : decode cX5_firstFault 13 = .ok (.putfield 25, 3) := by decide +kernel
theorem dX5_firstFault_16 : decode cX5_firstFault 16 = .ok (.iconst 0, 1) := by decide +kernel
theorem dX5_firstFault_17 : decode cX5_firstFault 17 = .ok (.istore 4, 2) := by decide +kernel
theorem dX5_firstFault_19 : decode cX5_firstFault 19 = .ok (.iconst 0, 1) := by decide +kernel
theorem dX5_firstFault_20 : decode cX5_firstFault 20 = .ok (.istore 5, 2) := by decide +kernel
theorem dX5_firstFault_22 : decode cX5_firstFault 22 = .ok (.iload 5, 2) := by decide +kernel
theorem dX5_firstFault_24 : decode cX5_firstFault 24 = .ok (.iload_n 3, 1) := by decide +kernel
theorem dX5_firstFault_25 : decode cX5_firstFault 25 = .ok (.if_icmp .ge 36, 3) := by decide +kernel
theorem dX5_firstFault_28 : decode cX5_firstFault 28 = .ok (.aload_n 0, 1) := by decide +kernel
theorem dX5_firstFault_29 : decode cX5_firstFault 29 = .ok (.iload 4, 2) := by decide +kernel
theorem dX5_firstFault_31 : decode cX5_firstFault 31 = .ok (.aload_n 1, 1) := by decide +kernel
theorem dX5_firstFault_32 : decode cX5_firstFault 32 = .ok (.getfield 29, 3) := by decide +kernel
theorem dX5_firstFault_35 : decode cX5_firstFault 35 = .ok (.iload_n 2, 1) := by decide +kernel
theorem dX5_firstFault_36 : decode cX5_firstFault 36 = .ok (.iload 5, 2) := by decide +kernel
theorem dX5_firstFault_38 : decode cX5_firstFault 38 = .ok (.iadd, 1) := by decide +kernel
theorem dX5_firstFault_39 : decode cX5_firstFault 39 = .ok (.iaload, 1) := by decide +kernel
theorem dX5_firstFault_40 : decode cX5_firstFault 40 = .ok (.invokevirtual 33, 3) := by decide +kernel
theorem dX5_firstFault_43 : decode cX5_firstFault 43 = .ok (.istore 4, 2) := by decide +kernel
theorem dX5_firstFault_45 : decode cX5_firstFault 45 = .ok (.iload 4, 2) := by decide +kernel
theorem dX5_firstFault_47 : decode cX5_firstFault 47 = .ok (.bipush 6, 2) := by decide +kernel
theorem dX5_firstFault_49 : decode cX5_firstFault 49 = .ok (.if_icmp .ne 6, 3) := by decide +kernel
theorem dX5_firstFault_52 : decode cX5_firstFault 52 = .ok (.iload 5, 2) := by decide +kernel
theorem dX5_firstFault_54 : decode cX5_firstFault 54 = .ok (.ireturn, 1) := by decide +kernel
theorem dX5_firstFault_55 : decode cX5_firstFault 55 = .ok (.iinc 5 1, 3) := by decide +kernel
theorem dX5_firstFault_58 : decode cX5_firstFault 58 = .ok (.goto (-36), 3) := by decide +kernel
theorem dX5_firstFault_61 : decode cX5_firstFault 61 = .ok (.iload 4, 2) := by decide +kernel
theorem dX5_firstFault_63 : decode cX5_firstFault 63 = .ok (.iconst 5, 1) := by decide +kernel
theorem dX5_firstFault_64 : decode cX5_firstFault 64 = .ok (.if_icmp .ne 8, 3) := by decide +kernel
theorem dX5_firstFault_67 : decode cX5_firstFault 67 = .ok (.bipush (-9), 2) := by decide +kernel
theorem dX5_firstFault_69 : decode cX5_firstFault 69 = .ok (.goto 4, 3) := by decide +kernel
theorem dX5_firstFault_72 : decode cX5_firstFault 72 = .ok (.iload_n 3, 1) := by decide +kernel
theorem dX5_firstFault_73 : decode cX5_firstFault 73 = .ok (.ireturn, 1) := by decide +kernel
theorem dX5_stateAfter_0 : decode cX5_stateAfter 0 = .ok (.iload_n 1, 1) := by decide +kernel
theorem dX5_stateAfter_1 : decode cX5_stateAfter 1 = .ok (.tableswitch 112 0 5 #[39, 52, 68, 74, 87, 93], 39) := by decide +kernel
theorem dX5_stateAfter_40 : decode cX5_stateAfter 40 = .ok (.iload_n 2, 1) := by decide +kernel
theorem dX5_stateAfter_41 : decode cX5_stateAfter 41 = .ok (.bipush 119, 2) := by decide +kernel
theorem dX5_stateAfter_43 : decode cX5_stateAfter 43 = .ok (.if_icmp .ne 7, 3) := by decide +kernel
theorem dX5_stateAfter_46 : decode cX5_stateAfter 46 = .ok (.iconst 1, 1) := by decide +kernel
theorem dX5_stateAfter_47 : decode cX5_stateAfter 47 = .ok (.goto 5, 3) := by decide +kernel
theorem dX5_stateAfter_50 : decode cX5_stateAfter 50 = .ok (.bipush 6, 2) := by decide +kernel
theorem dX5_stateAfter_52 : decode cX5_stateAfter 52 = .ok (.ireturn, 1) := by decide +kernel
theorem dX5_stateAfter_53 : decode cX5_stateAfter 53 = .ok (.iload_n 2, 1) := by decide +kernel
theorem dX5_stateAfter_54 : decode cX5_stateAfter 54 = .ok (.bipush 59, 2) := by decide +kernel
theorem dX5_stateAfter_56 : decode cX5_stateAfter 56 = .ok (.if_icmp .ne 10, 3) := by decide +kernel
theorem dX5_stateAfter_59 : decode cX5_stateAfter 59 = .ok (.aload_n 0, 1) := by decide +kernel
theorem dX5_stateAfter_60 : decode cX5_stateAfter 60 = .ok (.invokevirtual 37, 3) := by decide +kernel
theorem dX5_stateAfter_63 : decode cX5_stateAfter 63 = .ok (.goto 5, 3) := by decide +kernel
theorem dX5_stateAfter_66 : decode cX5_stateAfter 66 = .ok (.bipush 6, 2) := by decide +kernel
theorem dX5_stateAfter_68 : decode cX5_stateAfter 68 = .ok (.ireturn, 1) := by decide +kernel
theorem dX5_stateAfter_69 : decode cX5_stateAfter 69 = .ok (.aload_n 0, 1) := by decide +kernel
theorem dX5_stateAfter_70 : decode cX5_stateAfter 70 = .ok (.iload_n 2, 1) := by decide +kernel
theorem dX5_stateAfter_71 : decode cX5_stateAfter 71 = .ok (.invokevirtual 41, 3) := by decide +kernel
theorem dX5_stateAfter_74 : decode cX5_stateAfter 74 = .ok (.ireturn, 1) := by decide +kernel
theorem dX5_stateAfter_75 : decode cX5_stateAfter 75 = .ok (.iload_n 2, 1) := by decide +kernel
theorem dX5_stateAfter_76 : decode cX5_stateAfter 76 = .ok (.bipush 47, 2) := by decide +kernel
theorem dX5_stateAfter_78 : decode cX5_stateAfter 78 = .ok (.if_icmp .ne 7, 3) := by decide +kernel
theorem dX5_stateAfter_81 : decode cX5_stateAfter 81 = .ok (.iconst 4, 1) := by decide +kernel
theorem dX5_stateAfter_82 : decode cX5_stateAfter 82 = .ok (.goto 5, 3) := by decide +kernel
theorem dX5_stateAfter_85 : decode cX5_stateAfter 85 = .ok (.bipush 6, 2) := by decide +kernel
theorem dX5_stateAfter_87 : decode cX5_stateAfter 87 = .ok (.ireturn, 1) := by decide +kernel
theorem dX5_stateAfter_88 : decode cX5_stateAfter 88 = .ok (.aload_n 0, 1) := by decide +kernel
theorem dX5_stateAfter_89 : decode cX5_stateAfter 89 = .ok (.iload_n 2, 1) := by decide +kernel
theorem dX5_stateAfter_90 : decode cX5_stateAfter 90 = .ok (.invokevirtual 45, 3) := by decide +kernel
theorem dX5_stateAfter_93 : decode cX5_stateAfter 93 = .ok (.ireturn, 1) := by decide +kernel
theorem dX5_stateAfter_94 : decode cX5_stateAfter 94 = .ok (.iload_n 2, 1) := by decide +kernel
theorem dX5_stateAfter_95 : decode cX5_stateAfter 95 = .ok (.bipush 59, 2) := by decide +kernel
theorem dX5_stateAfter_97 : decode cX5_stateAfter 97 = .ok (.if_icmp .ne 10, 3) := by decide +kernel
theorem dX5_stateAfter_100 : decode cX5_stateAfter 100 = .ok (.aload_n 0, 1) := by decide +kernel
theorem dX5_stateAfter_101 : decode cX5_stateAfter 101 = .ok (.invokevirtual 37, 3) := by decide +kernel
theorem dX5_stateAfter_104 : decode cX5_stateAfter 104 = .ok (.goto 8, 3) := by decide +kernel
theorem dX5_stateAfter_107 : decode cX5_stateAfter 107 = .ok (.aload_n 0, 1) := by decide +kernel
theorem dX5_stateAfter_108 : decode cX5_stateAfter 108 = .ok (.iload_n 2, 1) := by decide +kernel
theorem dX5_stateAfter_109 : decode cX5_stateAfter 109 = .ok (.invokevirtual 45, 3) := by decide +kernel
theorem dX5_stateAfter_112 : decode cX5_stateAfter 112 = .ok (.ireturn, 1) := by decide +kernel
theorem dX5_stateAfter_113 : decode cX5_stateAfter 113 = .ok (.bipush 6, 2) := by decide +kernel
theorem dX5_stateAfter_115 : decode cX5_stateAfter 115 = .ok (.ireturn, 1) := by decide +kernel
theorem dX5_beginWord_0 : decode cX5_beginWord 0 = .ok (.aload_n 0, 1) := by decide +kernel
theorem dX5_beginWord_1 : decode cX5_beginWord 1 = .ok (.getfield 25, 3) := by decide +kernel
theorem dX5_beginWord_4 : decode cX5_beginWord 4 = .ok (.iconst 4, 1) := by decide +kernel
theorem dX5_beginWord_5 : decode cX5_beginWord 5 = .ok (.if_icmp .lt 6, 3) := by decide +kernel
theorem dX5_beginWord_8 : decode cX5_beginWord 8 = .ok (.bipush 6, 2) := by decide +kernel
theorem dX5_beginWord_10 : decode cX5_beginWord 10 = .ok (.ireturn, 1) := by decide +kernel
theorem dX5_beginWord_11 : decode cX5_beginWord 11 = .ok (.aload_n 0, 1) := by decide +kernel
theorem dX5_beginWord_12 : decode cX5_beginWord 12 = .ok (.getfield 13, 3) := by decide +kernel
theorem dX5_beginWord_15 : decode cX5_beginWord 15 = .ok (.aload_n 0, 1) := by decide +kernel
theorem dX5_beginWord_16 : decode cX5_beginWord 16 = .ok (.getfield 25, 3) := by decide +kernel
theorem dX5_beginWord_19 : decode cX5_beginWord 19 = .ok (.aaload, 1) := by decide +kernel
theorem dX5_beginWord_20 : decode cX5_beginWord 20 = .ok (.iconst 0, 1) := by decide +kernel
theorem dX5_beginWord_21 : decode cX5_beginWord 21 = .ok (.putfield 48, 3) := by decide +kernel
theorem dX5_beginWord_24 : decode cX5_beginWord 24 = .ok (.aload_n 0, 1) := by decide +kernel
theorem dX5_beginWord_25 : decode cX5_beginWord 25 = .ok (.dup, 1) := by decide +kernel
theorem dX5_beginWord_26 : decode cX5_beginWord 26 = .ok (.getfield 25, 3) := by decide +kernel
theorem dX5_beginWord_29 : decode cX5_beginWord 29 = .ok (.iconst 1, 1) := by decide +kernel
theorem dX5_beginWord_30 : decode cX5_beginWord 30 = .ok (.iadd, 1) := by decide +kernel
theorem dX5_beginWord_31 : decode cX5_beginWord 31 = .ok (.putfield 25, 3) := by decide +kernel
theorem dX5_beginWord_34 : decode cX5_beginWord 34 = .ok (.iconst 2, 1) := by decide +kernel
theorem dX5_beginWord_35 : decode cX5_beginWord 35 = .ok (.ireturn, 1) := by decide +kernel
theorem dX5_takeKind_0 : decode cX5_takeKind 0 = .ok (.iload_n 1, 1) := by decide +kernel
theorem dX5_takeKind_1 : decode cX5_takeKind 1 = .ok (.bipush 112, 2) := by decide +kernel
theorem dX5_takeKind_3 : decode cX5_takeKind 3 = .ok (.if_icmp .ne 7, 3) := by decide +kernel
theorem dX5_takeKind_6 : decode cX5_takeKind 6 = .ok (.iconst 0, 1) := by decide +kernel
theorem dX5_takeKind_7 : decode cX5_takeKind 7 = .ok (.goto 25, 3) := by decide +kernel
theorem dX5_takeKind_10 : decode cX5_takeKind 10 = .ok (.iload_n 1, 1) := by decide +kernel
theorem dX5_takeKind_11 : decode cX5_takeKind 11 = .ok (.bipush 98, 2) := by decide +kernel
theorem dX5_takeKind_13 : decode cX5_takeKind 13 = .ok (.if_icmp .ne 7, 3) := by decide +kernel
theorem dX5_takeKind_16 : decode cX5_takeKind 16 = .ok (.iconst 1, 1) := by decide +kernel
theorem dX5_takeKind_17 : decode cX5_takeKind 17 = .ok (.goto 15, 3) := by decide +kernel
theorem dX5_takeKind_20 : decode cX5_takeKind 20 = .ok (.iload_n 1, 1) := by decide +kernel
theorem dX5_takeKind_21 : decode cX5_takeKind 21 = .ok (.bipush 116, 2) := by decide +kernel
theorem dX5_takeKind_23 : decode cX5_takeKind 23 = .ok (.if_icmp .ne 7, 3) := by decide +kernel
theorem dX5_takeKind_26 : decode cX5_takeKind 26 = .ok (.iconst 2, 1) := by decide +kernel
theorem dX5_takeKind_27 : decode cX5_takeKind 27 = .ok (.goto 5, 3) := by decide +kernel
theorem dX5_takeKind_30 : decode cX5_takeKind 30 = .ok (.bipush (-9), 2) := by decide +kernel
theorem dX5_takeKind_32 : decode cX5_takeKind 32 = .ok (.istore_n 2, 1) := by decide +kernel
theorem dX5_takeKind_33 : decode cX5_takeKind 33 = .ok (.iload_n 2, 1) := by decide +kernel
theorem dX5_takeKind_34 : decode cX5_takeKind 34 = .ok (.bipush (-9), 2) := by decide +kernel
theorem dX5_takeKind_36 : decode cX5_takeKind 36 = .ok (.if_icmp .eq 11, 3) := by decide +kernel
theorem dX5_takeKind_39 : decode cX5_takeKind 39 = .ok (.aload_n 0, 1) := by decide +kernel
theorem dX5_takeKind_40 : decode cX5_takeKind 40 = .ok (.getfield 25, 3) := by decide +kernel
theorem dX5_takeKind_43 : decode cX5_takeKind 43 = .ok (.iconst 1, 1) := by decide +kernel
theorem dX5_takeKind_44 : decode cX5_takeKind 44 = .ok (.if_icmp .ge 6, 3) := by decide +kernel
theorem dX5_takeKind_47 : decode cX5_takeKind 47 = .ok (.bipush 6, 2) := by decide +kernel
theorem dX5_takeKind_49 : decode cX5_takeKind 49 = .ok (.ireturn, 1) := by decide +kernel
theorem dX5_takeKind_50 : decode cX5_takeKind 50 = .ok (.aload_n 0, 1) := by decide +kernel
theorem dX5_takeKind_51 : decode cX5_takeKind 51 = .ok (.getfield 13, 3) := by decide +kernel
theorem dX5_takeKind_54 : decode cX5_takeKind 54 = .ok (.aload_n 0, 1) := by decide +kernel
theorem dX5_takeKind_55 : decode cX5_takeKind 55 = .ok (.getfield 25, 3) := by decide +kernel
theorem dX5_takeKind_58 : decode cX5_takeKind 58 = .ok (.iconst 1, 1) := by decide +kernel
theorem dX5_takeKind_59 : decode cX5_takeKind 59 = .ok (.isub, 1) := by decide +kernel
theorem dX5_takeKind_60 : decode cX5_takeKind 60 = .ok (.aaload, 1) := by decide +kernel
theorem dX5_takeKind_61 : decode cX5_takeKind 61 = .ok (.iload_n 2, 1) := by decide +kernel
theorem dX5_takeKind_62 : decode cX5_takeKind 62 = .ok (.putfield 53, 3) := by decide +kernel
theorem dX5_takeKind_65 : decode cX5_takeKind 65 = .ok (.iconst 3, 1) := by decide +kernel
theorem dX5_takeKind_66 : decode cX5_takeKind 66 = .ok (.ireturn, 1) := by decide +kernel
theorem dX5_takeLetter_0 : decode cX5_takeLetter 0 = .ok (.iload_n 1, 1) := by decide +kernel
theorem dX5_takeLetter_1 : decode cX5_takeLetter 1 = .ok (.bipush 97, 2) := by decide +kernel
theorem dX5_takeLetter_3 : decode cX5_takeLetter 3 = .ok (.if_icmp .lt 17, 3) := by decide +kernel
theorem dX5_takeLetter_6 : decode cX5_takeLetter 6 = .ok (.iload_n 1, 1) := by decide +kernel
theorem dX5_takeLetter_7 : decode cX5_takeLetter 7 = .ok (.bipush 99, 2) := by decide +kernel
theorem dX5_takeLetter_9 : decode cX5_takeLetter 9 = .ok (.if_icmp .gt 11, 3) := by decide +kernel
theorem dX5_takeLetter_12 : decode cX5_takeLetter 12 = .ok (.aload_n 0, 1) := by decide +kernel
theorem dX5_takeLetter_13 : decode cX5_takeLetter 13 = .ok (.getfield 25, 3) := by decide +kernel
theorem dX5_takeLetter_16 : decode cX5_takeLetter 16 = .ok (.iconst 1, 1) := by decide +kernel
theorem dX5_takeLetter_17 : decode cX5_takeLetter 17 = .ok (.if_icmp .ge 6, 3) := by decide +kernel
theorem dX5_takeLetter_20 : decode cX5_takeLetter 20 = .ok (.bipush 6, 2) := by decide +kernel
theorem dX5_takeLetter_22 : decode cX5_takeLetter 22 = .ok (.ireturn, 1) := by decide +kernel
theorem dX5_takeLetter_23 : decode cX5_takeLetter 23 = .ok (.aload_n 0, 1) := by decide +kernel
theorem dX5_takeLetter_24 : decode cX5_takeLetter 24 = .ok (.getfield 13, 3) := by decide +kernel
theorem dX5_takeLetter_27 : decode cX5_takeLetter 27 = .ok (.aload_n 0, 1) := by decide +kernel
theorem dX5_takeLetter_28 : decode cX5_takeLetter 28 = .ok (.getfield 25, 3) := by decide +kernel
theorem dX5_takeLetter_31 : decode cX5_takeLetter 31 = .ok (.iconst 1, 1) := by decide +kernel
theorem dX5_takeLetter_32 : decode cX5_takeLetter 32 = .ok (.isub, 1) := by decide +kernel
theorem dX5_takeLetter_33 : decode cX5_takeLetter 33 = .ok (.aaload, 1) := by decide +kernel
theorem dX5_takeLetter_34 : decode cX5_takeLetter 34 = .ok (.astore_n 2, 1) := by decide +kernel
theorem dX5_takeLetter_35 : decode cX5_takeLetter 35 = .ok (.aload_n 2, 1) := by decide +kernel
theorem dX5_takeLetter_36 : decode cX5_takeLetter 36 = .ok (.getfield 48, 3) := by decide +kernel
theorem dX5_takeLetter_39 : decode cX5_takeLetter 39 = .ok (.iconst 4, 1) := by decide +kernel
theorem dX5_takeLetter_40 : decode cX5_takeLetter 40 = .ok (.if_icmp .lt 6, 3) := by decide +kernel
theorem dX5_takeLetter_43 : decode cX5_takeLetter 43 = .ok (.bipush 6, 2) := by decide +kernel
theorem dX5_takeLetter_45 : decode cX5_takeLetter 45 = .ok (.ireturn, 1) := by decide +kernel
theorem dX5_takeLetter_46 : decode cX5_takeLetter 46 = .ok (.aload_n 2, 1) := by decide +kernel
theorem dX5_takeLetter_47 : decode cX5_takeLetter 47 = .ok (.getfield 56, 3) := by decide +kernel
theorem dX5_takeLetter_50 : decode cX5_takeLetter 50 = .ok (.aload_n 2, 1) := by decide +kernel
theorem dX5_takeLetter_51 : decode cX5_takeLetter 51 = .ok (.getfield 48, 3) := by decide +kernel
theorem dX5_takeLetter_54 : decode cX5_takeLetter 54 = .ok (.iload_n 1, 1) := by decide +kernel
theorem dX5_takeLetter_55 : decode cX5_takeLetter 55 = .ok (.bipush 97, 2) := by decide +kernel
theorem dX5_takeLetter_57 : decode cX5_takeLetter 57 = .ok (.isub, 1) := by decide +kernel
theorem dX5_takeLetter_58 : decode cX5_takeLetter 58 = .ok (.iastore, 1) := by decide +kernel
theorem dX5_takeLetter_59 : decode cX5_takeLetter 59 = .ok (.aload_n 2, 1) := by decide +kernel
theorem dX5_takeLetter_60 : decode cX5_takeLetter 60 = .ok (.dup, 1) := by decide +kernel
theorem dX5_takeLetter_61 : decode cX5_takeLetter 61 = .ok (.getfield 48, 3) := by decide +kernel
theorem dX5_takeLetter_64 : decode cX5_takeLetter 64 = .ok (.iconst 1, 1) := by decide +kernel
theorem dX5_takeLetter_65 : decode cX5_takeLetter 65 = .ok (.iadd, 1) := by decide +kernel
theorem dX5_takeLetter_66 : decode cX5_takeLetter 66 = .ok (.putfield 48, 3) := by decide +kernel
theorem dX5_takeLetter_69 : decode cX5_takeLetter 69 = .ok (.iconst 5, 1) := by decide +kernel
theorem dX5_takeLetter_70 : decode cX5_takeLetter 70 = .ok (.ireturn, 1) := by decide +kernel
theorem dX6_init_0 : decode cX6_init 0 = .ok (.aload_n 0, 1) := by decide +kernel
theorem dX6_init_1 : decode cX6_init 1 = .ok (.invokespecial 3, 3) := by decide +kernel
theorem dX6_init_4 : decode cX6_init 4 = .ok (.aload_n 0, 1) := by decide +kernel
theorem dX6_init_5 : decode cX6_init 5 = .ok (.iconst 4, 1) := by decide +kernel
theorem dX6_init_6 : decode cX6_init 6 = .ok (.newarray .int, 2) := by decide +kernel
theorem dX6_init_8 : decode cX6_init 8 = .ok (.putfield 9, 3) := by decide +kernel
theorem dX6_init_11 : decode cX6_init 11 = .ok (.return_, 1) := by decide +kernel
theorem dX6_become_0 : decode cX6_become 0 = .ok (.aload_n 0, 1) := by decide +kernel
theorem dX6_become_1 : decode cX6_become 1 = .ok (.aload_n 1, 1) := by decide +kernel
theorem dX6_become_2 : decode cX6_become 2 = .ok (.getfield 15, 3) := by decide +kernel
theorem dX6_become_5 : decode cX6_become 5 = .ok (.putfield 15, 3) := by decide +kernel
theorem dX6_become_8 : decode cX6_become 8 = .ok (.aload_n 0, 1) := by decide +kernel
theorem dX6_become_9 : decode cX6_become 9 = .ok (.aload_n 1, 1) := by decide +kernel
theorem dX6_become_10 : decode cX6_become 10 = .ok (.getfield 19, 3) := by decide +kernel
theorem dX6_become_13 : decode cX6_become 13 = .ok (.putfield 19, 3) := by decide +kernel
theorem dX6_become_16 : decode cX6_become 16 = .ok (.aload_n 1, 1) := by decide +kernel
theorem dX6_become_17 : decode cX6_become 17 = .ok (.getfield 9, 3) := by decide +kernel
theorem dX6_become_20 : decode cX6_become 20 = .ok (.iconst 0, 1) := by decide +kernel
theorem dX6_become_21 : decode cX6_become 21 = .ok (.aload_n 0, 1) := by decide +kernel
theorem dX6_become_22 : decode cX6_become 22 = .ok (.getfield 9, 3) := by decide +kernel
theorem dX6_become_25 : decode cX6_become 25 = .ok (.iconst 0, 1) := by decide +kernel
theorem dX6_become_26 : decode cX6_become 26 = .ok (.iconst 4, 1) := by decide +kernel
theorem dX6_become_27 : decode cX6_become 27 = .ok (.invokestatic 22, 3) := by decide +kernel
theorem dX6_become_30 : decode cX6_become 30 = .ok (.return_, 1) := by decide +kernel
theorem dX6_changeLast_0 : decode cX6_changeLast 0 = .ok (.aload_n 0, 1) := by decide +kernel
theorem dX6_changeLast_1 : decode cX6_changeLast 1 = .ok (.getfield 19, 3) := by decide +kernel
theorem dX6_changeLast_4 : decode cX6_changeLast 4 = .ok (.ifCond .le 15, 3) := by decide +kernel
theorem dX6_changeLast_7 : decode cX6_changeLast 7 = .ok (.aload_n 0, 1) := by decide +kernel
theorem dX6_changeLast_8 : decode cX6_changeLast 8 = .ok (.getfield 9, 3) := by decide +kernel
theorem dX6_changeLast_11 : decode cX6_changeLast 11 = .ok (.aload_n 0, 1) := by decide +kernel
theorem dX6_changeLast_12 : decode cX6_changeLast 12 = .ok (.getfield 19, 3) := by decide +kernel
theorem dX6_changeLast_15 : decode cX6_changeLast 15 = .ok (.iconst 1, 1) := by decide +kernel
theorem dX6_changeLast_16 : decode cX6_changeLast 16 = .ok (.isub, 1) := by decide +kernel
theorem dX6_changeLast_17 : decode cX6_changeLast 17 = .ok (.iload_n 1, 1) := by decide +kernel
theorem dX6_changeLast_18 : decode cX6_changeLast 18 = .ok (.iastore, 1) := by decide +kernel
theorem dX6_changeLast_19 : decode cX6_changeLast 19 = .ok (.return_, 1) := by decide +kernel
theorem dX6_letterOf_0 : decode cX6_letterOf 0 = .ok (.iload_n 1, 1) := by decide +kernel
theorem dX6_letterOf_1 : decode cX6_letterOf 1 = .ok (.ifCond .eq 10, 3) := by decide +kernel
theorem dX6_letterOf_4 : decode cX6_letterOf 4 = .ok (.aload_n 0, 1) := by decide +kernel
theorem dX6_letterOf_5 : decode cX6_letterOf 5 = .ok (.getfield 15, 3) := by decide +kernel
theorem dX6_letterOf_8 : decode cX6_letterOf 8 = .ok (.ifCond .ne 10, 3) := by decide +kernel
theorem dX6_letterOf_11 : decode cX6_letterOf 11 = .ok (.aload_n 0, 1) := by decide +kernel
theorem dX6_letterOf_12 : decode cX6_letterOf 12 = .ok (.getfield 9, 3) := by decide +kernel
theorem dX6_letterOf_15 : decode cX6_letterOf 15 = .ok (.iload_n 2, 1) := by decide +kernel
theorem dX6_letterOf_16 : decode cX6_letterOf 16 = .ok (.iaload, 1) := by decide +kernel
theorem dX6_letterOf_17 : decode cX6_letterOf 17 = .ok (.ireturn, 1) := by decide +kernel
theorem dX6_letterOf_18 : decode cX6_letterOf 18 = .ok (.aload_n 0, 1) := by decide +kernel
theorem dX6_letterOf_19 : decode cX6_letterOf 19 = .ok (.getfield 15, 3) := by decide +kernel
theorem dX6_letterOf_22 : decode cX6_letterOf 22 = .ok (.iconst 1, 1) := by decide +kernel
theorem dX6_letterOf_23 : decode cX6_letterOf 23 = .ok (.if_icmp .ne 17, 3) := by decide +kernel
theorem dX6_letterOf_26 : decode cX6_letterOf 26 = .ok (.aload_n 0, 1) := by decide +kernel
theorem dX6_letterOf_27 : decode cX6_letterOf 27 = .ok (.getfield 9, 3) := by decide +kernel
theorem dX6_letterOf_30 : decode cX6_letterOf 30 = .ok (.aload_n 0, 1) := by decide +kernel
theorem dX6_letterOf_31 : decode cX6_letterOf 31 = .ok (.getfield 19, 3) := by decide +kernel
theorem dX6_letterOf_34 : decode cX6_letterOf 34 = .ok (.iconst 1, 1) := by decide +kernel
theorem dX6_letterOf_35 : decode cX6_letterOf 35 = .ok (.isub, 1) := by decide +kernel
theorem dX6_letterOf_36 : decode cX6_letterOf 36 = .ok (.iload_n 2, 1) := by decide +kernel
theorem dX6_letterOf_37 : decode cX6_letterOf 37 = .ok (.isub, 1) := by decide +kernel
theorem dX6_letterOf_38 : decode cX6_letterOf 38 = .ok (.iaload, 1) := by decide +kernel
theorem dX6_letterOf_39 : decode cX6_letterOf 39 = .ok (.ireturn, 1) := by decide +kernel
theorem dX6_letterOf_40 : decode cX6_letterOf 40 = .ok (.aload_n 0, 1) := by decide +kernel
theorem dX6_letterOf_41 : decode cX6_letterOf 41 = .ok (.getfield 9, 3) := by decide +kernel
theorem dX6_letterOf_44 : decode cX6_letterOf 44 = .ok (.iload_n 2, 1) := by decide +kernel
theorem dX6_letterOf_45 : decode cX6_letterOf 45 = .ok (.iconst 1, 1) := by decide +kernel
theorem dX6_letterOf_46 : decode cX6_letterOf 46 = .ok (.iadd, 1) := by decide +kernel
theorem dX6_letterOf_47 : decode cX6_letterOf 47 = .ok (.aload_n 0, 1) := by decide +kernel
theorem dX6_letterOf_48 : decode cX6_letterOf 48 = .ok (.getfield 19, 3) := by decide +kernel
theorem dX6_letterOf_51 : decode cX6_letterOf 51 = .ok (.if_icmp .ge 9, 3) := by decide +kernel
theorem dX6_letterOf_54 : decode cX6_letterOf 54 = .ok (.iload_n 2, 1) := by decide +kernel
theorem dX6_letterOf_55 : decode cX6_letterOf 55 = .ok (.iconst 1, 1) := by decide +kernel
theorem dX6_letterOf_56 : decode cX6_letterOf 56 = .ok (.iadd, 1) := by decide +kernel
theorem dX6_letterOf_57 : decode cX6_letterOf 57 = .ok (.goto 4, 3) := by decide +kernel
theorem dX6_letterOf_60 : decode cX6_letterOf 60 = .ok (.iconst 0, 1) := by decide +kernel
theorem dX6_letterOf_61 : decode cX6_letterOf 61 = .ok (.iaload, 1) := by decide +kernel
theorem dX6_letterOf_62 : decode cX6_letterOf 62 = .ok (.ireturn, 1) := by decide +kernel
theorem dX6_unlikeForms_0 : decode cX6_unlikeForms 0 = .ok (.iconst 0, 1) := by decide +kernel
theorem dX6_unlikeForms_1 : decode cX6_unlikeForms 1 = .ok (.istore_n 1, 1) := by decide +kernel
theorem dX6_unlikeForms_2 : decode cX6_unlikeForms 2 = .ok (.iload_n 1, 1) := by decide +kernel
theorem dX6_unlikeForms_3 : decode cX6_unlikeForms 3 = .ok (.aload_n 0, 1) := by decide +kernel
theorem dX6_unlikeForms_4 : decode cX6_unlikeForms 4 = .ok (.getfield 19, 3) := by decide +kernel
theorem dX6_unlikeForms_7 : decode cX6_unlikeForms 7 = .ok (.if_icmp .ge 26, 3) := by decide +kernel
theorem dX6_unlikeForms_10 : decode cX6_unlikeForms 10 = .ok (.aload_n 0, 1) := by decide +kernel
theorem dX6_unlikeForms_11 : decode cX6_unlikeForms 11 = .ok (.iconst 0, 1) := by decide +kernel
theorem dX6_unlikeForms_12 : decode cX6_unlikeForms 12 = .ok (.iload_n 1, 1) := by decide +kernel
theorem dX6_unlikeForms_13 : decode cX6_unlikeForms 13 = .ok (.invokevirtual 28, 3) := by decide +kernel
theorem dX6_unlikeForms_16 : decode cX6_unlikeForms 16 = .ok (.aload_n 0, 1) := by decide +kernel
theorem dX6_unlikeForms_17 : decode cX6_unlikeForms 17 = .ok (.iconst 1, 1) := by decide +kernel
theorem dX6_unlikeForms_18 : decode cX6_unlikeForms 18 = .ok (.iload_n 1, 1) := by decide +kernel
theorem dX6_unlikeForms_19 : decode cX6_unlikeForms 19 = .ok (.invokevirtual 28, 3) := by decide +kernel
theorem dX6_unlikeForms_22 : decode cX6_unlikeForms 22 = .ok (.if_icmp .eq 5, 3) := by decide +kernel
theorem dX6_unlikeForms_25 : decode cX6_unlikeForms 25 = .ok (.iconst 2, 1) := by decide +kernel
theorem dX6_unlikeForms_26 : decode cX6_unlikeForms 26 = .ok (.ireturn, 1) := by decide +kernel
theorem dX6_unlikeForms_27 : decode cX6_unlikeForms 27 = .ok (.iinc 1 1, 3) := by decide +kernel
theorem dX6_unlikeForms_30 : decode cX6_unlikeForms 30 = .ok (.goto (-28), 3) := by decide +kernel
theorem dX6_unlikeForms_33 : decode cX6_unlikeForms 33 = .ok (.iconst 1, 1) := by decide +kernel
theorem dX6_unlikeForms_34 : decode cX6_unlikeForms 34 = .ok (.ireturn, 1) := by decide +kernel
theorem dX6_formEndsAt_0 : decode cX6_formEndsAt 0 = .ok (.iload_n 3, 1) := by decide +kernel
theorem dX6_formEndsAt_1 : decode cX6_formEndsAt 1 = .ok (.aload_n 0, 1) := by decide +kernel
theorem dX6_formEndsAt_2 : decode cX6_formEndsAt 2 = .ok (.getfield 19, 3) := by decide +kernel
theorem dX6_formEndsAt_5 : decode cX6_formEndsAt 5 = .ok (.isub, 1) := by decide +kernel
theorem dX6_formEndsAt_6 : decode cX6_formEndsAt 6 = .ok (.istore 4, 2) := by decide +kernel
theorem dX6_formEndsAt_8 : decode cX6_formEndsAt 8 = .ok (.iload 4, 2) := by decide +kernel
theorem dX6_formEndsAt_10 : decode cX6_formEndsAt 10 = .ok (.ifCond .lt 9, 3) := by decide +kernel
theorem dX6_formEndsAt_13 : decode cX6_formEndsAt 13 = .ok (.iload_n 3, 1) := by decide +kernel
theorem dX6_formEndsAt_14 : decode cX6_formEndsAt 14 = .ok (.aload_n 2, 1) := by decide +kernel
theorem dX6_formEndsAt_15 : decode cX6_formEndsAt 15 = .ok (.arraylength, 1) := by decide +kernel
theorem dX6_formEndsAt_16 : decode cX6_formEndsAt 16 = .ok (.if_icmp .le 5, 3) := by decide +kernel
theorem dX6_formEndsAt_19 : decode cX6_formEndsAt 19 = .ok (.iconst 0, 1) := by decide +kernel
theorem dX6_formEndsAt_20 : decode cX6_formEndsAt 20 = .ok (.ireturn, 1) := by decide +kernel
theorem dX6_formEndsAt_21 : decode cX6_formEndsAt 21 = .ok (.iconst 0, 1) := by decide +kernel
theorem dX6_formEndsAt_22 : decode cX6_formEndsAt 22 = .ok (.istore 5, 2) := by decide +kernel
theorem dX6_formEndsAt_24 : decode cX6_formEndsAt 24 = .ok (.iload 5, 2) := by decide +kernel
theorem dX6_formEndsAt_26 : decode cX6_formEndsAt 26 = .ok (.aload_n 0, 1) := by decide +kernel
theorem dX6_formEndsAt_27 : decode cX6_formEndsAt 27 = .ok (.getfield 19, 3) := by decide +kernel
theorem dX6_formEndsAt_30 : decode cX6_formEndsAt 30 = .ok (.if_icmp .ge 28, 3) := by decide +kernel
theorem dX6_formEndsAt_33 : decode cX6_formEndsAt 33 = .ok (.aload_n 2, 1) := by decide +kernel
theorem dX6_formEndsAt_34 : decode cX6_formEndsAt 34 = .ok (.iload 4, 2) := by decide +kernel
theorem dX6_formEndsAt_36 : decode cX6_formEndsAt 36 = .ok (.iload 5, 2) := by decide +kernel
theorem dX6_formEndsAt_38 : decode cX6_formEndsAt 38 = .ok (.iadd, 1) := by decide +kernel
theorem dX6_formEndsAt_39 : decode cX6_formEndsAt 39 = .ok (.iaload, 1) := by decide +kernel
theorem dX6_formEndsAt_40 : decode cX6_formEndsAt 40 = .ok (.aload_n 0, 1) := by decide +kernel
theorem dX6_formEndsAt_41 : decode cX6_formEndsAt 41 = .ok (.iload_n 1, 1) := by decide +kernel
theorem dX6_formEndsAt_42 : decode cX6_formEndsAt 42 = .ok (.iload 5, 2) := by decide +kernel
theorem dX6_formEndsAt_44 : decode cX6_formEndsAt 44 = .ok (.invokevirtual 28, 3) := by decide +kernel
theorem dX6_formEndsAt_47 : decode cX6_formEndsAt 47 = .ok (.if_icmp .eq 5, 3) := by decide +kernel
theorem dX6_formEndsAt_50 : decode cX6_formEndsAt 50 = .ok (.iconst 0, 1) := by decide +kernel
theorem dX6_formEndsAt_51 : decode cX6_formEndsAt 51 = .ok (.ireturn, 1) := by decide +kernel
theorem dX6_formEndsAt_52 : decode cX6_formEndsAt 52 = .ok (.iinc 5 1, 3) := by decide +kernel
theorem dX6_formEndsAt_55 : decode cX6_formEndsAt 55 = .ok (.goto (-31), 3) := by decide +kernel
theorem dX6_formEndsAt_58 : decode cX6_formEndsAt 58 = .ok (.iconst 1, 1) := by decide +kernel
theorem dX6_formEndsAt_59 : decode cX6_formEndsAt 59 = .ok (.ireturn, 1) := by decide +kernel
theorem dX6_endsAt_0 : decode cX6_endsAt 0 = .ok (.aload_n 0, 1) := by decide +kernel
theorem dX6_endsAt_1 : decode cX6_endsAt 1 = .ok (.iconst 0, 1) := by decide +kernel
theorem dX6_endsAt_2 : decode cX6_endsAt 2 = .ok (.aload_n 1, 1) := by decide +kernel
theorem dX6_endsAt_3 : decode cX6_endsAt 3 = .ok (.iload_n 2, 1) := by decide +kernel
theorem dX6_endsAt_4 : decode cX6_endsAt 4 = .ok (.invokevirtual 32, 3) := by decide +kernel
theorem dX6_endsAt_7 : decode cX6_endsAt 7 = .ok (.ifCond .ne 20, 3) := by decide +kernel
theorem dX6_endsAt_10 : decode cX6_endsAt 10 = .ok (.aload_n 0, 1) := by decide +kernel
theorem dX6_endsAt_11 : decode cX6_endsAt 11 = .ok (.getfield 15, 3) := by decide +kernel
theorem dX6_endsAt_14 : decode cX6_endsAt 14 = .ok (.ifCond .eq 17, 3) := by decide +kernel
theorem dX6_endsAt_17 : decode cX6_endsAt 17 = .ok (.aload_n 0, 1) := by decide +kernel
theorem dX6_endsAt_18 : decode cX6_endsAt 18 = .ok (.iconst 1, 1) := by decide +kernel
theorem dX6_endsAt_19 : decode cX6_endsAt 19 = .ok (.aload_n 1, 1) := by decide +kernel
theorem dX6_endsAt_20 : decode cX6_endsAt 20 = .ok (.iload_n 2, 1) := by decide +kernel
theorem dX6_endsAt_21 : decode cX6_endsAt 21 = .ok (.invokevirtual 32, 3) := by decide +kernel
theorem dX6_endsAt_24 : decode cX6_endsAt 24 = .ok (.ifCond .eq 7, 3) := by decide +kernel
theorem dX6_endsAt_27 : decode cX6_endsAt 27 = .ok (.iconst 1, 1) := by decide +kernel
theorem dX6_endsAt_28 : decode cX6_endsAt 28 = .ok (.goto 4, 3) := by decide +kernel
theorem dX6_endsAt_31 : decode cX6_endsAt 31 = .ok (.iconst 0, 1) := by decide +kernel
theorem dX6_endsAt_32 : decode cX6_endsAt 32 = .ok (.ireturn, 1) := by decide +kernel
theorem dX6_standsIn_0 : decode cX6_standsIn 0 = .ok (.aload_n 0, 1) := by decide +kernel
theorem dX6_standsIn_1 : decode cX6_standsIn 1 = .ok (.getfield 19, 3) := by decide +kernel
theorem dX6_standsIn_4 : decode cX6_standsIn 4 = .ok (.istore_n 3, 1) := by decide +kernel
theorem dX6_standsIn_5 : decode cX6_standsIn 5 = .ok (.iload_n 3, 1) := by decide +kernel
theorem dX6_standsIn_6 : decode cX6_standsIn 6 = .ok (.iload_n 2, 1) := by decide +kernel
theorem dX6_standsIn_7 : decode cX6_standsIn 7 = .ok (.if_icmp .gt 20, 3) := by decide +kernel
theorem dX6_standsIn_10 : decode cX6_standsIn 10 = .ok (.aload_n 0, 1) := by decide +kernel
theorem dX6_standsIn_11 : decode cX6_standsIn 11 = .ok (.aload_n 1, 1) := by decide +kernel
theorem dX6_standsIn_12 : decode cX6_standsIn 12 = .ok (.iload_n 3, 1) := by decide +kernel
theorem dX6_standsIn_13 : decode cX6_standsIn 13 = .ok (.invokevirtual 36, 3) := by decide +kernel
theorem dX6_standsIn_16 : decode cX6_standsIn 16 = .ok (.ifCond .eq 5, 3) := by decide +kernel
theorem dX6_standsIn_19 : decode cX6_standsIn 19 = .ok (.iconst 1, 1) := by decide +kernel
theorem dX6_standsIn_20 : decode cX6_standsIn 20 = .ok (.ireturn, 1) := by decide +kernel
theorem dX6_standsIn_21 : decode cX6_standsIn 21 = .ok (.iinc 3 1, 3) := by decide +kernel
theorem dX6_standsIn_24 : decode cX6_standsIn 24 = .ok (.goto (-19), 3) := by decide +kernel
theorem dX6_standsIn_27 : decode cX6_standsIn 27 = .ok (.iconst 0, 1) := by decide +kernel
theorem dX6_standsIn_28 : decode cX6_standsIn 28 = .ok (.ireturn, 1) := by decide +kernel
theorem dX6_timesIn_0 : decode cX6_timesIn 0 = .ok (.iconst 0, 1) := by decide +kernel
theorem dX6_timesIn_1 : decode cX6_timesIn 1 = .ok (.istore_n 3, 1) := by decide +kernel
theorem dX6_timesIn_2 : decode cX6_timesIn 2 = .ok (.aload_n 0, 1) := by decide +kernel
theorem dX6_timesIn_3 : decode cX6_timesIn 3 = .ok (.getfield 19, 3) := by decide +kernel
theorem dX6_timesIn_6 : decode cX6_timesIn 6 = .ok (.istore 4, 2) := by decide +kernel
theorem dX6_timesIn_8 : decode cX6_timesIn 8 = .ok (.iload 4, 2) := by decide +kernel
theorem dX6_timesIn_10 : decode cX6_timesIn 10 = .ok (.iload_n 2, 1) := by decide +kernel
theorem dX6_timesIn_11 : decode cX6_timesIn 11 = .ok (.if_icmp .gt 22, 3) := by decide +kernel
theorem dX6_timesIn_14 : decode cX6_timesIn 14 = .ok (.aload_n 0, 1) := by decide +kernel
theorem dX6_timesIn_15 : decode cX6_timesIn 15 = .ok (.aload_n 1, 1) := by decide +kernel
theorem dX6_timesIn_16 : decode cX6_timesIn 16 = .ok (.iload 4, 2) := by decide +kernel
theorem dX6_timesIn_18 : decode cX6_timesIn 18 = .ok (.invokevirtual 36, 3) := by decide +kernel
theorem dX6_timesIn_21 : decode cX6_timesIn 21 = .ok (.ifCond .eq 6, 3) := by decide +kernel
theorem dX6_timesIn_24 : decode cX6_timesIn 24 = .ok (.iinc 3 1, 3) := by decide +kernel
theorem dX6_timesIn_27 : decode cX6_timesIn 27 = .ok (.iinc 4 1, 3) := by decide +kernel
theorem dX6_timesIn_30 : decode cX6_timesIn 30 = .ok (.goto (-22), 3) := by decide +kernel
theorem dX6_timesIn_33 : decode cX6_timesIn 33 = .ok (.iload_n 3, 1) := by decide +kernel
theorem dX6_timesIn_34 : decode cX6_timesIn 34 = .ok (.ireturn, 1) := by decide +kernel
theorem dX6_lettersOver_0 : decode cX6_lettersOver 0 = .ok (.aload_n 0, 1) := by decide +kernel
theorem dX6_lettersOver_1 : decode cX6_lettersOver 1 = .ok (.getfield 19, 3) := by decide +kernel
theorem dX6_lettersOver_4 : decode cX6_lettersOver 4 = .ok (.aload_n 1, 1) := by decide +kernel
theorem dX6_lettersOver_5 : decode cX6_lettersOver 5 = .ok (.getfield 19, 3) := by decide +kernel
theorem dX6_lettersOver_8 : decode cX6_lettersOver 8 = .ok (.invokestatic 40, 3) := by decide +kernel
theorem dX6_lettersOver_11 : decode cX6_lettersOver 11 = .ok (.istore_n 2, 1) := by decide +kernel
theorem dX6_lettersOver_12 : decode cX6_lettersOver 12 = .ok (.iload_n 2, 1) := by decide +kernel
theorem dX6_lettersOver_13 : decode cX6_lettersOver 13 = .ok (.ifCond .le 20, 3) := by decide +kernel
theorem dX6_lettersOver_16 : decode cX6_lettersOver 16 = .ok (.aload_n 0, 1) := by decide +kernel
theorem dX6_lettersOver_17 : decode cX6_lettersOver 17 = .ok (.aload_n 1, 1) := by decide +kernel
theorem dX6_lettersOver_18 : decode cX6_lettersOver 18 = .ok (.iload_n 2, 1) := by decide +kernel
theorem dX6_lettersOver_19 : decode cX6_lettersOver 19 = .ok (.invokevirtual 45, 3) := by decide +kernel
theorem dX6_lettersOver_22 : decode cX6_lettersOver 22 = .ok (.ifCond .eq 5, 3) := by decide +kernel
theorem dX6_lettersOver_25 : decode cX6_lettersOver 25 = .ok (.iload_n 2, 1) := by decide +kernel
theorem dX6_lettersOver_26 : decode cX6_lettersOver 26 = .ok (.ireturn, 1) := by decide +kernel
theorem dX6_lettersOver_27 : decode cX6_lettersOver 27 = .ok (.iinc 2 (-1), 3) := by decide +kernel
theorem dX6_lettersOver_30 : decode cX6_lettersOver 30 = .ok (.goto (-18), 3) := by decide +kernel
theorem dX6_lettersOver_33 : decode cX6_lettersOver 33 = .ok (.iconst 0, 1) := by decide +kernel
theorem dX6_lettersOver_34 : decode cX6_lettersOver 34 = .ok (.ireturn, 1) := by decide +kernel
theorem dX6_liesOver_0 : decode cX6_liesOver 0 = .ok (.iconst 0, 1) := by decide +kernel
theorem dX6_liesOver_1 : decode cX6_liesOver 1 = .ok (.istore_n 3, 1) := by decide +kernel
theorem dX6_liesOver_2 : decode cX6_liesOver 2 = .ok (.iload_n 3, 1) := by decide +kernel
theorem dX6_liesOver_3 : decode cX6_liesOver 3 = .ok (.iload_n 2, 1) := by decide +kernel
theorem dX6_liesOver_4 : decode cX6_liesOver 4 = .ok (.if_icmp .ge 33, 3) := by decide +kernel
theorem dX6_liesOver_7 : decode cX6_liesOver 7 = .ok (.aload_n 0, 1) := by decide +kernel
theorem dX6_liesOver_8 : decode cX6_liesOver 8 = .ok (.getfield 9, 3) := by decide +kernel
theorem dX6_liesOver_11 : decode cX6_liesOver 11 = .ok (.aload_n 0, 1) := by decide +kernel
theorem dX6_liesOver_12 : decode cX6_liesOver 12 = .ok (.getfield 19, 3) := by decide +kernel
theorem dX6_liesOver_15 : decode cX6_liesOver 15 = .ok (.iload_n 2, 1) := by decide +kernel
theorem dX6_liesOver_16 : decode cX6_liesOver 16 = .ok (.isub, 1) := by decide +kernel
theorem dX6_liesOver_17 : decode cX6_liesOver 17 = .ok (.iload_n 3, 1) := by decide +kernel
theorem dX6_liesOver_18 : decode cX6_liesOver 18 = .ok (.iadd, 1) := by decide +kernel
theorem dX6_liesOver_19 : decode cX6_liesOver 19 = .ok (.iaload, 1) := by decide +kernel
theorem dX6_liesOver_20 : decode cX6_liesOver 20 = .ok (.aload_n 1, 1) := by decide +kernel
theorem dX6_liesOver_21 : decode cX6_liesOver 21 = .ok (.getfield 9, 3) := by decide +kernel
theorem dX6_liesOver_24 : decode cX6_liesOver 24 = .ok (.iload_n 3, 1) := by decide +kernel
theorem dX6_liesOver_25 : decode cX6_liesOver 25 = .ok (.iaload, 1) := by decide +kernel
theorem dX6_liesOver_26 : decode cX6_liesOver 26 = .ok (.if_icmp .eq 5, 3) := by decide +kernel
theorem dX6_liesOver_29 : decode cX6_liesOver 29 = .ok (.iconst 0, 1) := by decide +kernel
theorem dX6_liesOver_30 : decode cX6_liesOver 30 = .ok (.ireturn, 1) := by decide +kernel
theorem dX6_liesOver_31 : decode cX6_liesOver 31 = .ok (.iinc 3 1, 3) := by decide +kernel
theorem dX6_liesOver_34 : decode cX6_liesOver 34 = .ok (.goto (-32), 3) := by decide +kernel
theorem dX6_liesOver_37 : decode cX6_liesOver 37 = .ok (.iconst 1, 1) := by decide +kernel
theorem dX6_liesOver_38 : decode cX6_liesOver 38 = .ok (.ireturn, 1) := by decide +kernel
theorem dX7_init_0 : decode cX7_init 0 = .ok (.aload_n 0, 1) := by decide +kernel
theorem dX7_init_1 : decode cX7_init 1 = .ok (.invokespecial 5, 3) := by decide +kernel
theorem dX7_init_4 : decode cX7_init 4 = .ok (.aload_n 0, 1) := by decide +kernel
theorem dX7_init_5 : decode cX7_init 5 = .ok (.iconst 4, 1) := by decide +kernel
theorem dX7_init_6 : decode cX7_init 6 = .ok (.anewarray 11, 3) := by decide +kernel
theorem dX7_init_9 : decode cX7_init 9 = .ok (.putfield 13, 3) := by decide +kernel
theorem dX7_init_12 : decode cX7_init 12 = .ok (.aload_n 0, 1) := by decide +kernel
theorem dX7_init_13 : decode cX7_init 13 = .ok (.new 17, 3) := by decide +kernel
theorem dX7_init_16 : decode cX7_init 16 = .ok (.dup, 1) := by decide +kernel
theorem dX7_init_17 : decode cX7_init 17 = .ok (.invokespecial 19, 3) := by decide +kernel
theorem dX7_init_20 : decode cX7_init 20 = .ok (.putfield 20, 3) := by decide +kernel
theorem dX7_init_23 : decode cX7_init 23 = .ok (.aload_n 0, 1) := by decide +kernel
theorem dX7_init_24 : decode cX7_init 24 = .ok (.invokestatic 24, 3) := by decide +kernel
theorem dX7_init_27 : decode cX7_init 27 = .ok (.putfield 28, 3) := by decide +kernel
theorem dX7_init_30 : decode cX7_init 30 = .ok (.aload_n 0, 1) := by decide +kernel
theorem dX7_init_31 : decode cX7_init 31 = .ok (.bipush 60, 2) := by decide +kernel
theorem dX7_init_33 : decode cX7_init 33 = .ok (.newarray .int, 2) := by decide +kernel
theorem dX7_init_35 : decode cX7_init 35 = .ok (.putfield 32, 3) := by decide +kernel
theorem dX7_init_38 : decode cX7_init 38 = .ok (.aload_n 0, 1) := by decide +kernel
theorem dX7_init_39 : decode cX7_init 39 = .ok (.bipush 40, 2) := by decide +kernel
theorem dX7_init_41 : decode cX7_init 41 = .ok (.newarray .int, 2) := by decide +kernel
theorem dX7_init_43 : decode cX7_init 43 = .ok (.putfield 36, 3) := by decide +kernel
theorem dX7_init_46 : decode cX7_init 46 = .ok (.aload_n 0, 1) := by decide +kernel
theorem dX7_init_47 : decode cX7_init 47 = .ok (.bipush 8, 2) := by decide +kernel
theorem dX7_init_49 : decode cX7_init 49 = .ok (.anewarray 39, 3) := by decide +kernel
theorem dX7_init_52 : decode cX7_init 52 = .ok (.putfield 41, 3) := by decide +kernel
theorem dX7_init_55 : decode cX7_init 55 = .ok (.aload_n 0, 1) := by decide +kernel
theorem dX7_init_56 : decode cX7_init 56 = .ok (.new 45, 3) := by decide +kernel
theorem dX7_init_59 : decode cX7_init 59 = .ok (.dup, 1) := by decide +kernel
theorem dX7_init_60 : decode cX7_init 60 = .ok (.invokespecial 47, 3) := by decide +kernel
theorem dX7_init_63 : decode cX7_init 63 = .ok (.putfield 48, 3) := by decide +kernel
theorem dX7_init_66 : decode cX7_init 66 = .ok (.aload_n 0, 1) := by decide +kernel
theorem dX7_init_67 : decode cX7_init 67 = .ok (.iconst 4, 1) := by decide +kernel
theorem dX7_init_68 : decode cX7_init 68 = .ok (.newarray .int, 2) := by decide +kernel
theorem dX7_init_70 : decode cX7_init 70 = .ok (.putfield 52, 3) := by decide +kernel
theorem dX7_init_73 : decode cX7_init 73 = .ok (.aload_n 0, 1) := by decide +kernel
theorem dX7_init_74 : decode cX7_init 74 = .ok (.new 55, 3) := by decide +kernel
theorem dX7_init_77 : decode cX7_init 77 = .ok (.dup, 1) := by decide +kernel
theorem dX7_init_78 : decode cX7_init 78 = .ok (.invokespecial 57, 3) := by decide +kernel
theorem dX7_init_81 : decode cX7_init 81 = .ok (.putfield 58, 3) := by decide +kernel
theorem dX7_init_84 : decode cX7_init 84 = .ok (.aload_n 0, 1) := by decide +kernel
theorem dX7_init_85 : decode cX7_init 85 = .ok (.new 62, 3) := by decide +kernel
theorem dX7_init_88 : decode cX7_init 88 = .ok (.dup, 1) := by decide +kernel
theorem dX7_init_89 : decode cX7_init 89 = .ok (.invokespecial 64, 3) := by decide +kernel
theorem dX7_init_92 : decode cX7_init 92 = .ok (.putfield 65, 3) := by decide +kernel
theorem dX7_init_95 : decode cX7_init 95 = .ok (.aload_n 0, 1) := by decide +kernel
theorem dX7_init_96 : decode cX7_init 96 = .ok (.new 69, 3) := by decide +kernel
theorem dX7_init_99 : decode cX7_init 99 = .ok (.dup, 1) := by decide +kernel
theorem dX7_init_100 : decode cX7_init 100 = .ok (.invokespecial 71, 3) := by decide +kernel
theorem dX7_init_103 : decode cX7_init 103 = .ok (.putfield 72, 3) := by decide +kernel
theorem dX7_init_106 : decode cX7_init 106 = .ok (.aload_n 0, 1) := by decide +kernel
theorem dX7_init_107 : decode cX7_init 107 = .ok (.iconst 1, 1) := by decide +kernel
theorem dX7_init_108 : decode cX7_init 108 = .ok (.putfield 76, 3) := by decide +kernel
theorem dX7_init_111 : decode cX7_init 111 = .ok (.iconst 0, 1) := by decide +kernel
theorem dX7_init_112 : decode cX7_init 112 = .ok (.istore_n 1, 1) := by decide +kernel
theorem dX7_init_113 : decode cX7_init 113 = .ok (.iload_n 1, 1) := by decide +kernel
theorem dX7_init_114 : decode cX7_init 114 = .ok (.iconst 4, 1) := by decide +kernel
theorem dX7_init_115 : decode cX7_init 115 = .ok (.if_icmp .ge 22, 3) := by decide +kernel
theorem dX7_init_118 : decode cX7_init 118 = .ok (.aload_n 0, 1) := by decide +kernel
theorem dX7_init_119 : decode cX7_init 119 = .ok (.getfield 13, 3) := by decide +kernel
theorem dX7_init_122 : decode cX7_init 122 = .ok (.iload_n 1, 1) := by decide +kernel
theorem dX7_init_123 : decode cX7_init 123 = .ok (.new 11, 3) := by decide +kernel
theorem dX7_init_126 : decode cX7_init 126 = .ok (.dup, 1) := by decide +kernel
theorem dX7_init_127 : decode cX7_init 127 = .ok (.invokespecial 80, 3) := by decide +kernel
theorem dX7_init_130 : decode cX7_init 130 = .ok (.aastore, 1) := by decide +kernel
theorem dX7_init_131 : decode cX7_init 131 = .ok (.iinc 1 1, 3) := by decide +kernel
theorem dX7_init_134 : decode cX7_init 134 = .ok (.goto (-21), 3) := by decide +kernel
theorem dX7_init_137 : decode cX7_init 137 = .ok (.iconst 0, 1) := by decide +kernel
theorem dX7_init_138 : decode cX7_init 138 = .ok (.istore_n 1, 1) := by decide +kernel
theorem dX7_init_139 : decode cX7_init 139 = .ok (.iload_n 1, 1) := by decide +kernel
theorem dX7_init_140 : decode cX7_init 140 = .ok (.bipush 8, 2) := by decide +kernel
theorem dX7_init_142 : decode cX7_init 142 = .ok (.if_icmp .ge 22, 3) := by decide +kernel
theorem dX7_init_145 : decode cX7_init 145 = .ok (.aload_n 0, 1) := by decide +kernel
theorem dX7_init_146 : decode cX7_init 146 = .ok (.getfield 41, 3) := by decide +kernel
theorem dX7_init_149 : decode cX7_init 149 = .ok (.iload_n 1, 1) := by decide +kernel
theorem dX7_init_150 : decode cX7_init 150 = .ok (.new 39, 3) := by decide +kernel
theorem dX7_init_153 : decode cX7_init 153 = .ok (.dup, 1) := by decide +kernel
theorem dX7_init_154 : decode cX7_init 154 = .ok (.invokespecial 81, 3) := by decide +kernel
theorem dX7_init_157 : decode cX7_init 157 = .ok (.aastore, 1) := by decide +kernel
theorem dX7_init_158 : decode cX7_init 158 = .ok (.iinc 1 1, 3) := by decide +kernel
theorem dX7_init_161 : decode cX7_init 161 = .ok (.goto (-22), 3) := by decide +kernel
theorem dX7_init_164 : decode cX7_init 164 = .ok (.return_, 1) := by decide +kernel
theorem dX7_words_0 : decode cX7_words 0 = .ok (.aload_n 0, 1) := by decide +kernel
theorem dX7_words_1 : decode cX7_words 1 = .ok (.iconst 0, 1) := by decide +kernel
theorem dX7_words_2 : decode cX7_words 2 = .ok (.putfield 82, 3) := by decide +kernel
theorem dX7_words_5 : decode cX7_words 5 = .ok (.iload_n 1, 1) := by decide +kernel
theorem dX7_words_6 : decode cX7_words 6 = .ok (.invokestatic 86, 3) := by decide +kernel
theorem dX7_words_9 : decode cX7_words 9 = .ok (.ifCond .ne 5, 3) := by decide +kernel
theorem dX7_words_12 : decode cX7_words 12 = .ok (.iconst (-1), 1) := by decide +kernel
theorem dX7_words_13 : decode cX7_words 13 = .ok (.ireturn, 1) := by decide +kernel
theorem dX7_words_14 : decode cX7_words 14 = .ok (.iload_n 2, 1) := by decide +kernel
theorem dX7_words_15 : decode cX7_words 15 = .ok (.iconst 3, 1) := by decide +kernel
theorem dX7_words_16 : decode cX7_words 16 = .ok (.invokestatic 90, 3) := by decide +kernel
theorem dX7_words_19 : decode cX7_words 19 = .ok (.ifCond .ne 6, 3) := by decide +kernel
theorem dX7_words_22 : decode cX7_words 22 = .ok (.bipush (-2), 2) := by decide +kernel
theorem dX7_words_24 : decode cX7_words 24 = .ok (.ireturn, 1) := by decide +kernel
theorem dX7_words_25 : decode cX7_words 25 = .ok (.aload_n 0, 1) := by decide +kernel
theorem dX7_words_26 : decode cX7_words 26 = .ok (.getfield 13, 3) := by decide +kernel
theorem dX7_words_29 : decode cX7_words 29 = .ok (.iload_n 1, 1) := by decide +kernel
theorem dX7_words_30 : decode cX7_words 30 = .ok (.aaload, 1) := by decide +kernel
theorem dX7_words_31 : decode cX7_words 31 = .ok (.iload_n 2, 1) := by decide +kernel
theorem dX7_words_32 : decode cX7_words 32 = .ok (.iload_n 3, 1) := by decide +kernel
theorem dX7_words_33 : decode cX7_words 33 = .ok (.iload 4, 2) := by decide +kernel
theorem dX7_words_35 : decode cX7_words 35 = .ok (.invokevirtual 94, 3) := by decide +kernel
theorem dX7_words_38 : decode cX7_words 38 = .ok (.istore 5, 2) := by decide +kernel
theorem dX7_words_40 : decode cX7_words 40 = .ok (.iload 5, 2) := by decide +kernel
theorem dX7_words_42 : decode cX7_words 42 = .ok (.ifCond .eq 10, 3) := by decide +kernel
theorem dX7_words_45 : decode cX7_words 45 = .ok (.aload_n 0, 1) := by decide +kernel
theorem dX7_words_46 : decode cX7_words 46 = .ok (.iload 5, 2) := by decide +kernel
theorem dX7_words_48 : decode cX7_words 48 = .ok (.invokevirtual 98, 3) := by decide +kernel
theorem dX7_words_51 : decode cX7_words 51 = .ok (.ireturn, 1) := by decide +kernel
theorem dX7_words_52 : decode cX7_words 52 = .ok (.aload_n 0, 1) := by decide +kernel
theorem dX7_words_53 : decode cX7_words 53 = .ok (.getfield 20, 3) := by decide +kernel
theorem dX7_words_56 : decode cX7_words 56 = .ok (.aload_n 0, 1) := by decide +kernel
theorem dX7_words_57 : decode cX7_words 57 = .ok (.getfield 13, 3) := by decide +kernel
theorem dX7_words_60 : decode cX7_words 60 = .ok (.iload_n 1, 1) := by decide +kernel
theorem dX7_words_61 : decode cX7_words 61 = .ok (.aaload, 1) := by decide +kernel
theorem dX7_words_62 : decode cX7_words 62 = .ok (.iload_n 3, 1) := by decide +kernel
theorem dX7_words_63 : decode cX7_words 63 = .ok (.iload 4, 2) := by decide +kernel
theorem dX7_words_65 : decode cX7_words 65 = .ok (.invokevirtual 102, 3) := by decide +kernel
theorem dX7_words_68 : decode cX7_words 68 = .ok (.istore 6, 2) := by decide +kernel
theorem dX7_words_70 : decode cX7_words 70 = .ok (.iload 6, 2) := by decide +kernel
theorem dX7_words_72 : decode cX7_words 72 = .ok (.bipush (-9), 2) := by decide +kernel
theorem dX7_words_74 : decode cX7_words 74 = .ok (.if_icmp .eq 9, 3) := by decide +kernel
theorem dX7_words_77 : decode cX7_words 77 = .ok (.bipush (-100), 2) := by decide +kernel
theorem dX7_words_79 : decode cX7_words 79 = .ok (.iload 6, 2) := by decide +kernel
theorem dX7_words_81 : decode cX7_words 81 = .ok (.isub, 1) := by decide +kernel
theorem dX7_words_82 : decode cX7_words 82 = .ok (.ireturn, 1) := by decide +kernel
theorem dX7_words_83 : decode cX7_words 83 = .ok (.aload_n 0, 1) := by decide +kernel
theorem dX7_words_84 : decode cX7_words 84 = .ok (.invokevirtual 106, 3) := by decide +kernel
theorem dX7_words_87 : decode cX7_words 87 = .ok (.aload_n 0, 1) := by decide +kernel
theorem dX7_words_88 : decode cX7_words 88 = .ok (.getfield 109, 3) := by decide +kernel
theorem dX7_words_91 : decode cX7_words 91 = .ok (.ireturn, 1) := by decide +kernel
theorem dX7_ofWord_0 : decode cX7_ofWord 0 = .ok (.aload_n 0, 1) := by decide +kernel
theorem dX7_ofWord_1 : decode cX7_ofWord 1 = .ok (.iload_n 1, 1) := by decide +kernel
theorem dX7_ofWord_2 : decode cX7_ofWord 2 = .ok (.invokevirtual 112, 3) := by decide +kernel
theorem dX7_ofWord_5 : decode cX7_ofWord 5 = .ok (.ifCond .ne 5, 3) := by decide +kernel
theorem dX7_ofWord_8 : decode cX7_ofWord 8 = .ok (.iconst (-1), 1) := by decide +kernel
theorem dX7_ofWord_9 : decode cX7_ofWord 9 = .ok (.ireturn, 1) := by decide +kernel
theorem dX7_ofWord_10 : decode cX7_ofWord 10 = .ok (.aload_n 0, 1) := by decide +kernel
theorem dX7_ofWord_11 : decode cX7_ofWord 11 = .ok (.getfield 28, 3) := by decide +kernel
theorem dX7_ofWord_14 : decode cX7_ofWord 14 = .ok (.iload_n 1, 1) := by decide +kernel
theorem dX7_ofWord_15 : decode cX7_ofWord 15 = .ok (.aaload, 1) := by decide +kernel
theorem dX7_ofWord_16 : decode cX7_ofWord 16 = .ok (.astore_n 3, 1) := by decide +kernel
theorem dX7_ofWord_17 : decode cX7_ofWord 17 = .ok (.iload_n 2, 1) := by decide +kernel
theorem dX7_ofWord_18 : decode cX7_ofWord 18 = .ok (.ifCond .ne 8, 3) := by decide +kernel
theorem dX7_ofWord_21 : decode cX7_ofWord 21 = .ok (.aload_n 3, 1) := by decide +kernel
theorem dX7_ofWord_22 : decode cX7_ofWord 22 = .ok (.getfield 115, 3) := by decide +kernel
theorem dX7_ofWord_25 : decode cX7_ofWord 25 = .ok (.ireturn, 1) := by decide +kernel
theorem dX7_ofWord_26 : decode cX7_ofWord 26 = .ok (.iload_n 2, 1) := by decide +kernel
theorem dX7_ofWord_27 : decode cX7_ofWord 27 = .ok (.iconst 1, 1) := by decide +kernel
theorem dX7_ofWord_28 : decode cX7_ofWord 28 = .ok (.if_icmp .ne 8, 3) := by decide +kernel
theorem dX7_ofWord_31 : decode cX7_ofWord 31 = .ok (.aload_n 3, 1) := by decide +kernel
theorem dX7_ofWord_32 : decode cX7_ofWord 32 = .ok (.getfield 118, 3) := by decide +kernel
theorem dX7_ofWord_35 : decode cX7_ofWord 35 = .ok (.ireturn, 1) := by decide +kernel
theorem dX7_ofWord_36 : decode cX7_ofWord 36 = .ok (.iload_n 2, 1) := by decide +kernel
theorem dX7_ofWord_37 : decode cX7_ofWord 37 = .ok (.iconst 2, 1) := by decide +kernel
theorem dX7_ofWord_38 : decode cX7_ofWord 38 = .ok (.if_icmp .ne 8, 3) := by decide +kernel
theorem dX7_ofWord_41 : decode cX7_ofWord 41 = .ok (.aload_n 3, 1) := by decide +kernel
theorem dX7_ofWord_42 : decode cX7_ofWord 42 = .ok (.invokevirtual 121, 3) := by decide +kernel
theorem dX7_ofWord_45 : decode cX7_ofWord 45 = .ok (.ireturn, 1) := by decide +kernel
theorem dX7_ofWord_46 : decode cX7_ofWord 46 = .ok (.iload_n 2, 1) := by decide +kernel
theorem dX7_ofWord_47 : decode cX7_ofWord 47 = .ok (.iconst 3, 1) := by decide +kernel
theorem dX7_ofWord_48 : decode cX7_ofWord 48 = .ok (.if_icmp .ne 16, 3) := by decide +kernel
theorem dX7_ofWord_51 : decode cX7_ofWord 51 = .ok (.aload_n 3, 1) := by decide +kernel
theorem dX7_ofWord_52 : decode cX7_ofWord 52 = .ok (.aload_n 0, 1) := by decide +kernel
theorem dX7_ofWord_53 : decode cX7_ofWord 53 = .ok (.getfield 32, 3) := by decide +kernel
theorem dX7_ofWord_56 : decode cX7_ofWord 56 = .ok (.aload_n 0, 1) := by decide +kernel
theorem dX7_ofWord_57 : decode cX7_ofWord 57 = .ok (.getfield 125, 3) := by decide +kernel
theorem dX7_ofWord_60 : decode cX7_ofWord 60 = .ok (.invokevirtual 128, 3) := by decide +kernel
theorem dX7_ofWord_63 : decode cX7_ofWord 63 = .ok (.ireturn, 1) := by decide +kernel
theorem dX7_ofWord_64 : decode cX7_ofWord 64 = .ok (.iload_n 2, 1) := by decide +kernel
theorem dX7_ofWord_65 : decode cX7_ofWord 65 = .ok (.bipush 10, 2) := by decide +kernel
theorem dX7_ofWord_67 : decode cX7_ofWord 67 = .ok (.if_icmp .lt 9, 3) := by decide +kernel
theorem dX7_ofWord_70 : decode cX7_ofWord 70 = .ok (.iload_n 2, 1) := by decide +kernel
theorem dX7_ofWord_71 : decode cX7_ofWord 71 = .ok (.bipush 14, 2) := by decide +kernel
theorem dX7_ofWord_73 : decode cX7_ofWord 73 = .ok (.if_icmp .lt 6, 3) := by decide +kernel
theorem dX7_ofWord_76 : decode cX7_ofWord 76 = .ok (.bipush (-2), 2) := by decide +kernel
theorem dX7_ofWord_78 : decode cX7_ofWord 78 = .ok (.ireturn, 1) := by decide +kernel
theorem dX7_ofWord_79 : decode cX7_ofWord 79 = .ok (.iload_n 2, 1) := by decide +kernel
theorem dX7_ofWord_80 : decode cX7_ofWord 80 = .ok (.bipush 10, 2) := by decide +kernel
theorem dX7_ofWord_82 : decode cX7_ofWord 82 = .ok (.isub, 1) := by decide +kernel
theorem dX7_ofWord_83 : decode cX7_ofWord 83 = .ok (.istore 4, 2) := by decide +kernel
theorem dX7_ofWord_85 : decode cX7_ofWord 85 = .ok (.iload 4, 2) := by decide +kernel
theorem dX7_ofWord_87 : decode cX7_ofWord 87 = .ok (.aload_n 3, 1) := by decide +kernel
theorem dX7_ofWord_88 : decode cX7_ofWord 88 = .ok (.getfield 118, 3) := by decide +kernel
theorem dX7_ofWord_91 : decode cX7_ofWord 91 = .ok (.if_icmp .ge 13, 3) := by decide +kernel
theorem dX7_ofWord_94 : decode cX7_ofWord 94 = .ok (.aload_n 3, 1) := by decide +kernel
theorem dX7_ofWord_95 : decode cX7_ofWord 95 = .ok (.getfield 132, 3) := by decide +kernel
theorem dX7_ofWord_98 : decode cX7_ofWord 98 = .ok (.iload 4, 2) := by decide +kernel
theorem dX7_ofWord_100 : decode cX7_ofWord 100 = .ok (.iaload, 1) := by decide +kernel
theorem dX7_ofWord_101 : decode cX7_ofWord 101 = .ok (.goto 5, 3) := by decide +kernel
theorem dX7_ofWord_104 : decode cX7_ofWord 104 = .ok (.bipush (-9), 2) := by decide +kernel
theorem dX7_ofWord_106 : decode cX7_ofWord 106 = .ok (.ireturn, 1) := by decide +kernel
theorem dX7_spell_0 : decode cX7_spell 0 = .ok (.aload_n 0, 1) := by decide +kernel
theorem dX7_spell_1 : decode cX7_spell 1 = .ok (.iload_n 1, 1) := by decide +kernel
theorem dX7_spell_2 : decode cX7_spell 2 = .ok (.invokevirtual 112, 3) := by decide +kernel
theorem dX7_spell_5 : decode cX7_spell 5 = .ok (.ifCond .eq 19, 3) := by decide +kernel
theorem dX7_spell_8 : decode cX7_spell 8 = .ok (.iload_n 2, 1) := by decide +kernel
theorem dX7_spell_9 : decode cX7_spell 9 = .ok (.aload_n 0, 1) := by decide +kernel
theorem dX7_spell_10 : decode cX7_spell 10 = .ok (.getfield 28, 3) := by decide +kernel
theorem dX7_spell_13 : decode cX7_spell 13 = .ok (.iload_n 1, 1) := by decide +kernel
theorem dX7_spell_14 : decode cX7_spell 14 = .ok (.aaload, 1) := by decide +kernel
theorem dX7_spell_15 : decode cX7_spell 15 = .ok (.getfield 118, 3) := by decide +kernel
theorem dX7_spell_18 : decode cX7_spell 18 = .ok (.invokestatic 90, 3) := by decide +kernel
theorem dX7_spell_21 : decode cX7_spell 21 = .ok (.ifCond .ne 5, 3) := by decide +kernel
theorem dX7_spell_24 : decode cX7_spell 24 = .ok (.iconst (-1), 1) := by decide +kernel
theorem dX7_spell_25 : decode cX7_spell 25 = .ok (.ireturn, 1) := by decide +kernel
theorem dX7_spell_26 : decode cX7_spell 26 = .ok (.iload_n 3, 1) := by decide +kernel
theorem dX7_spell_27 : decode cX7_spell 27 = .ok (.iconst 3, 1) := by decide +kernel
theorem dX7_spell_28 : decode cX7_spell 28 = .ok (.invokestatic 90, 3) := by decide +kernel
theorem dX7_spell_31 : decode cX7_spell 31 = .ok (.ifCond .ne 6, 3) := by decide +kernel
theorem dX7_spell_34 : decode cX7_spell 34 = .ok (.bipush (-2), 2) := by decide +kernel
theorem dX7_spell_36 : decode cX7_spell 36 = .ok (.ireturn, 1) := by decide +kernel
theorem dX7_spell_37 : decode cX7_spell 37 = .ok (.aload_n 0, 1) := by decide +kernel
theorem dX7_spell_38 : decode cX7_spell 38 = .ok (.getfield 28, 3) := by decide +kernel
theorem dX7_spell_41 : decode cX7_spell 41 = .ok (.iload_n 1, 1) := by decide +kernel
theorem dX7_spell_42 : decode cX7_spell 42 = .ok (.aaload, 1) := by decide +kernel
theorem dX7_spell_43 : decode cX7_spell 43 = .ok (.getfield 132, 3) := by decide +kernel
theorem dX7_spell_46 : decode cX7_spell 46 = .ok (.iload_n 2, 1) := by decide +kernel
theorem dX7_spell_47 : decode cX7_spell 47 = .ok (.iaload, 1) := by decide +kernel
theorem dX7_spell_48 : decode cX7_spell 48 = .ok (.istore 4, 2) := by decide +kernel
theorem dX7_spell_50 : decode cX7_spell 50 = .ok (.aload_n 0, 1) := by decide +kernel
theorem dX7_spell_51 : decode cX7_spell 51 = .ok (.getfield 28, 3) := by decide +kernel
theorem dX7_spell_54 : decode cX7_spell 54 = .ok (.iload_n 1, 1) := by decide +kernel
theorem dX7_spell_55 : decode cX7_spell 55 = .ok (.aaload, 1) := by decide +kernel
theorem dX7_spell_56 : decode cX7_spell 56 = .ok (.getfield 132, 3) := by decide +kernel
theorem dX7_spell_59 : decode cX7_spell 59 = .ok (.iload_n 2, 1) := by decide +kernel
theorem dX7_spell_60 : decode cX7_spell 60 = .ok (.iload_n 3, 1) := by decide +kernel
theorem dX7_spell_61 : decode cX7_spell 61 = .ok (.iastore, 1) := by decide +kernel
theorem dX7_spell_62 : decode cX7_spell 62 = .ok (.aload_n 0, 1) := by decide +kernel
theorem dX7_spell_63 : decode cX7_spell 63 = .ok (.iconst 1, 1) := by decide +kernel
theorem dX7_spell_64 : decode cX7_spell 64 = .ok (.putfield 76, 3) := by decide +kernel
theorem dX7_spell_67 : decode cX7_spell 67 = .ok (.iload 4, 2) := by decide +kernel
theorem dX7_spell_69 : decode cX7_spell 69 = .ok (.ireturn, 1) := by decide +kernel
theorem dX7_say_0 : decode cX7_say 0 = .ok (.iload_n 1, 1) := by decide +kernel
theorem dX7_say_1 : decode cX7_say 1 = .ok (.iconst 3, 1) := by decide +kernel
theorem dX7_say_2 : decode cX7_say 2 = .ok (.invokestatic 90, 3) := by decide +kernel
theorem dX7_say_5 : decode cX7_say 5 = .ok (.ifCond .ne 6, 3) := by decide +kernel
theorem dX7_say_8 : decode cX7_say 8 = .ok (.bipush (-2), 2) := by decide +kernel
theorem dX7_say_10 : decode cX7_say 10 = .ok (.ireturn, 1) := by decide +kernel
theorem dX7_say_11 : decode cX7_say 11 = .ok (.aload_n 0, 1) := by decide +kernel
theorem dX7_say_12 : decode cX7_say 12 = .ok (.getfield 109, 3) := by decide +kernel
theorem dX7_say_15 : decode cX7_say 15 = .ok (.ifCond .ne 6, 3) := by decide +kernel
theorem dX7_say_18 : decode cX7_say 18 = .ok (.bipush (-3), 2) := by decide +kernel
theorem dX7_say_20 : decode cX7_say 20 = .ok (.ireturn, 1) := by decide +kernel
theorem dX7_say_21 : decode cX7_say 21 = .ok (.aload_n 0, 1) := by decide +kernel
theorem dX7_say_22 : decode cX7_say 22 = .ok (.getfield 125, 3) := by decide +kernel
theorem dX7_say_25 : decode cX7_say 25 = .ok (.bipush 60, 2) := by decide +kernel
theorem dX7_say_27 : decode cX7_say 27 = .ok (.if_icmp .lt 6, 3) := by decide +kernel
theorem dX7_say_30 : decode cX7_say 30 = .ok (.bipush (-4), 2) := by decide +kernel
theorem dX7_say_32 : decode cX7_say 32 = .ok (.ireturn, 1) := by decide +kernel
theorem dX7_say_33 : decode cX7_say 33 = .ok (.aload_n 0, 1) := by decide +kernel
theorem dX7_say_34 : decode cX7_say 34 = .ok (.getfield 32, 3) := by decide +kernel
theorem dX7_say_37 : decode cX7_say 37 = .ok (.aload_n 0, 1) := by decide +kernel
theorem dX7_say_38 : decode cX7_say 38 = .ok (.getfield 125, 3) := by decide +kernel
theorem dX7_say_41 : decode cX7_say 41 = .ok (.iload_n 1, 1) := by decide +kernel
theorem dX7_say_42 : decode cX7_say 42 = .ok (.iastore, 1) := by decide +kernel
theorem dX7_say_43 : decode cX7_say 43 = .ok (.aload_n 0, 1) := by decide +kernel
theorem dX7_say_44 : decode cX7_say 44 = .ok (.dup, 1) := by decide +kernel
theorem dX7_say_45 : decode cX7_say 45 = .ok (.getfield 125, 3) := by decide +kernel
theorem dX7_say_48 : decode cX7_say 48 = .ok (.iconst 1, 1) := by decide +kernel
theorem dX7_say_49 : decode cX7_say 49 = .ok (.iadd, 1) := by decide +kernel
theorem dX7_say_50 : decode cX7_say 50 = .ok (.putfield 125, 3) := by decide +kernel
theorem dX7_say_53 : decode cX7_say 53 = .ok (.aload_n 0, 1) := by decide +kernel
theorem dX7_say_54 : decode cX7_say 54 = .ok (.getfield 28, 3) := by decide +kernel
theorem dX7_say_57 : decode cX7_say 57 = .ok (.aload_n 0, 1) := by decide +kernel
theorem dX7_say_58 : decode cX7_say 58 = .ok (.getfield 109, 3) := by decide +kernel
theorem dX7_say_61 : decode cX7_say 61 = .ok (.aload_n 0, 1) := by decide +kernel
theorem dX7_say_62 : decode cX7_say 62 = .ok (.getfield 32, 3) := by decide +kernel
theorem dX7_say_65 : decode cX7_say 65 = .ok (.aload_n 0, 1) := by decide +kernel
theorem dX7_say_66 : decode cX7_say 66 = .ok (.getfield 125, 3) := by decide +kernel
theorem dX7_say_69 : decode cX7_say 69 = .ok (.invokestatic 135, 3) := by decide +kernel
theorem dX7_say_72 : decode cX7_say 72 = .ok (.ireturn, 1) := by decide +kernel
theorem dX7_hush_0 : decode cX7_hush 0 = .ok (.aload_n 0, 1) := by decide +kernel
theorem dX7_hush_1 : decode cX7_hush 1 = .ok (.getfield 109, 3) := by decide +kernel
theorem dX7_hush_4 : decode cX7_hush 4 = .ok (.ifCond .ne 6, 3) := by decide +kernel
theorem dX7_hush_7 : decode cX7_hush 7 = .ok (.bipush (-3), 2) := by decide +kernel
theorem dX7_hush_9 : decode cX7_hush 9 = .ok (.ireturn, 1) := by decide +kernel
theorem dX7_hush_10 : decode cX7_hush 10 = .ok (.aload_n 0, 1) := by decide +kernel
theorem dX7_hush_11 : decode cX7_hush 11 = .ok (.getfield 125, 3) := by decide +kernel
theorem dX7_hush_14 : decode cX7_hush 14 = .ok (.istore_n 1, 1) := by decide +kernel
theorem dX7_hush_15 : decode cX7_hush 15 = .ok (.aload_n 0, 1) := by decide +kernel
theorem dX7_hush_16 : decode cX7_hush 16 = .ok (.iconst 0, 1) := by decide +kernel
theorem dX7_hush_17 : decode cX7_hush 17 = .ok (.putfield 125, 3) := by decide +kernel
theorem dX7_hush_20 : decode cX7_hush 20 = .ok (.iload_n 1, 1) := by decide +kernel
theorem dX7_hush_21 : decode cX7_hush 21 = .ok (.ireturn, 1) := by decide +kernel
theorem dX7_row_0 : decode cX7_row 0 = .ok (.aload_n 0, 1) := by decide +kernel
theorem dX7_row_1 : decode cX7_row 1 = .ok (.iconst 0, 1) := by decide +kernel
theorem dX7_row_2 : decode cX7_row 2 = .ok (.putfield 82, 3) := by decide +kernel
theorem dX7_row_5 : decode cX7_row 5 = .ok (.iload_n 1, 1) := by decide +kernel
theorem dX7_row_6 : decode cX7_row 6 = .ok (.invokestatic 86, 3) := by decide +kernel
theorem dX7_row_9 : decode cX7_row 9 = .ok (.ifCond .ne 5, 3) := by decide +kernel
theorem dX7_row_12 : decode cX7_row 12 = .ok (.iconst (-1), 1) := by decide +kernel
theorem dX7_row_13 : decode cX7_row 13 = .ok (.ireturn, 1) := by decide +kernel
theorem dX7_row_14 : decode cX7_row 14 = .ok (.iload_n 2, 1) := by decide +kernel
theorem dX7_row_15 : decode cX7_row 15 = .ok (.iconst 3, 1) := by decide +kernel
theorem dX7_row_16 : decode cX7_row 16 = .ok (.invokestatic 90, 3) := by decide +kernel
theorem dX7_row_19 : decode cX7_row 19 = .ok (.ifCond .eq 23, 3) := by decide +kernel
theorem dX7_row_22 : decode cX7_row 22 = .ok (.iload 4, 2) := by decide +kernel
theorem dX7_row_24 : decode cX7_row 24 = .ok (.ifCond .lt 18, 3) := by decide +kernel
theorem dX7_row_27 : decode cX7_row 27 = .ok (.iload 4, 2) := by decide +kernel
theorem dX7_row_29 : decode cX7_row 29 = .ok (.bipush 40, 2) := by decide +kernel
theorem dX7_row_31 : decode cX7_row 31 = .ok (.if_icmp .gt 11, 3) := by decide +kernel
theorem dX7_row_34 : decode cX7_row 34 = .ok (.iload 5, 2) := by decide +kernel
theorem dX7_row_36 : decode cX7_row 36 = .ok (.invokestatic 139, 3) := by decide +kernel
theorem dX7_row_39 : decode cX7_row 39 = .ok (.ifCond .ne 6, 3) := by decide +kernel
theorem dX7_row_42 : decode cX7_row 42 = .ok (.bipush (-2), 2) := by decide +kernel
theorem dX7_row_44 : decode cX7_row 44 = .ok (.ireturn, 1) := by decide +kernel
theorem dX7_row_45 : decode cX7_row 45 = .ok (.aload_n 0, 1) := by decide +kernel
theorem dX7_row_46 : decode cX7_row 46 = .ok (.getfield 13, 3) := by decide +kernel
theorem dX7_row_49 : decode cX7_row 49 = .ok (.iload_n 1, 1) := by decide +kernel
theorem dX7_row_50 : decode cX7_row 50 = .ok (.aaload, 1) := by decide +kernel
theorem dX7_row_51 : decode cX7_row 51 = .ok (.iload_n 2, 1) := by decide +kernel
theorem dX7_row_52 : decode cX7_row 52 = .ok (.iload_n 3, 1) := by decide +kernel
theorem dX7_row_53 : decode cX7_row 53 = .ok (.iload 4, 2) := by decide +kernel
theorem dX7_row_55 : decode cX7_row 55 = .ok (.invokevirtual 94, 3) := by decide +kernel
theorem dX7_row_58 : decode cX7_row 58 = .ok (.istore 6, 2) := by decide +kernel
theorem dX7_row_60 : decode cX7_row 60 = .ok (.iload 6, 2) := by decide +kernel
theorem dX7_row_62 : decode cX7_row 62 = .ok (.ifCond .eq 10, 3) := by decide +kernel
theorem dX7_row_65 : decode cX7_row 65 = .ok (.aload_n 0, 1) := by decide +kernel
theorem dX7_row_66 : decode cX7_row 66 = .ok (.iload 6, 2) := by decide +kernel
theorem dX7_row_68 : decode cX7_row 68 = .ok (.invokevirtual 98, 3) := by decide +kernel
theorem dX7_row_71 : decode cX7_row 71 = .ok (.ireturn, 1) := by decide +kernel
theorem dX7_row_72 : decode cX7_row 72 = .ok (.aload_n 0, 1) := by decide +kernel
theorem dX7_row_73 : decode cX7_row 73 = .ok (.getfield 109, 3) := by decide +kernel
theorem dX7_row_76 : decode cX7_row 76 = .ok (.ifCond .ne 6, 3) := by decide +kernel
theorem dX7_row_79 : decode cX7_row 79 = .ok (.bipush (-3), 2) := by decide +kernel
theorem dX7_row_81 : decode cX7_row 81 = .ok (.ireturn, 1) := by decide +kernel
theorem dX7_row_82 : decode cX7_row 82 = .ok (.aload_n 0, 1) := by decide +kernel
theorem dX7_row_83 : decode cX7_row 83 = .ok (.getfield 13, 3) := by decide +kernel
theorem dX7_row_86 : decode cX7_row 86 = .ok (.iload_n 1, 1) := by decide +kernel
theorem dX7_row_87 : decode cX7_row 87 = .ok (.aaload, 1) := by decide +kernel
theorem dX7_row_88 : decode cX7_row 88 = .ok (.aload_n 0, 1) := by decide +kernel
theorem dX7_row_89 : decode cX7_row 89 = .ok (.getfield 36, 3) := by decide +kernel
theorem dX7_row_92 : decode cX7_row 92 = .ok (.iload_n 3, 1) := by decide +kernel
theorem dX7_row_93 : decode cX7_row 93 = .ok (.iload 4, 2) := by decide +kernel
theorem dX7_row_95 : decode cX7_row 95 = .ok (.invokevirtual 142, 3) := by decide +kernel
theorem dX7_row_98 : decode cX7_row 98 = .ok (.ifCond .ne 6, 3) := by decide +kernel
theorem dX7_row_101 : decode cX7_row 101 = .ok (.bipush (-2), 2) := by decide +kernel
theorem dX7_row_103 : decode cX7_row 103 = .ok (.ireturn, 1) := by decide +kernel
theorem dX7_row_104 : decode cX7_row 104 = .ok (.iload 5, 2) := by decide +kernel
theorem dX7_row_106 : decode cX7_row 106 = .ok (.bipush 10, 2) := by decide +kernel
theorem dX7_row_108 : decode cX7_row 108 = .ok (.if_icmp .ge 12, 3) := by decide +kernel
theorem dX7_row_111 : decode cX7_row 111 = .ok (.aload_n 0, 1) := by decide +kernel
theorem dX7_row_112 : decode cX7_row 112 = .ok (.iload 4, 2) := by decide +kernel
theorem dX7_row_114 : decode cX7_row 114 = .ok (.iload 5, 2) := by decide +kernel
theorem dX7_row_116 : decode cX7_row 116 = .ok (.invokevirtual 146, 3) := by decide +kernel
theorem dX7_row_119 : decode cX7_row 119 = .ok (.ireturn, 1) := by decide +kernel
theorem dX7_row_120 : decode cX7_row 120 = .ok (.iload 5, 2) := by decide +kernel
theorem dX7_row_122 : decode cX7_row 122 = .ok (.bipush 10, 2) := by decide +kernel
theorem dX7_row_124 : decode cX7_row 124 = .ok (.isub, 1) := by decide +kernel
theorem dX7_row_125 : decode cX7_row 125 = .ok (.istore 7, 2) := by decide +kernel
theorem dX7_row_127 : decode cX7_row 127 = .ok (.aload_n 0, 1) := by decide +kernel
theorem dX7_row_128 : decode cX7_row 128 = .ok (.iload 7, 2) := by decide +kernel
theorem dX7_row_130 : decode cX7_row 130 = .ok (.invokevirtual 112, 3) := by decide +kernel
theorem dX7_row_133 : decode cX7_row 133 = .ok (.ifCond .eq 22, 3) := by decide +kernel
theorem dX7_row_136 : decode cX7_row 136 = .ok (.aload_n 0, 1) := by decide +kernel
theorem dX7_row_137 : decode cX7_row 137 = .ok (.getfield 28, 3) := by decide +kernel
theorem dX7_row_140 : decode cX7_row 140 = .ok (.iload 7, 2) := by decide +kernel
theorem dX7_row_142 : decode cX7_row 142 = .ok (.aaload, 1) := by decide +kernel
theorem dX7_row_143 : decode cX7_row 143 = .ok (.aload_n 0, 1) := by decide +kernel
theorem dX7_row_144 : decode cX7_row 144 = .ok (.getfield 36, 3) := by decide +kernel
theorem dX7_row_147 : decode cX7_row 147 = .ok (.iload 4, 2) := by decide +kernel
theorem dX7_row_149 : decode cX7_row 149 = .ok (.invokevirtual 128, 3) := by decide +kernel
theorem dX7_row_152 : decode cX7_row 152 = .ok (.goto 5, 3) := by decide +kernel
theorem dX7_row_155 : decode cX7_row 155 = .ok (.bipush (-9), 2) := by decide +kernel
theorem dX7_row_157 : decode cX7_row 157 = .ok (.ireturn, 1) := by decide +kernel
theorem dX7_over_0 : decode cX7_over 0 = .ok (.aload_n 0, 1) := by decide +kernel
theorem dX7_over_1 : decode cX7_over 1 = .ok (.iload_n 1, 1) := by decide +kernel
theorem dX7_over_2 : decode cX7_over 2 = .ok (.invokevirtual 112, 3) := by decide +kernel
theorem dX7_over_5 : decode cX7_over 5 = .ok (.ifCond .eq 11, 3) := by decide +kernel
theorem dX7_over_8 : decode cX7_over 8 = .ok (.aload_n 0, 1) := by decide +kernel
theorem dX7_over_9 : decode cX7_over 9 = .ok (.iload_n 2, 1) := by decide +kernel
theorem dX7_over_10 : decode cX7_over 10 = .ok (.invokevirtual 112, 3) := by decide +kernel
theorem dX7_over_13 : decode cX7_over 13 = .ok (.ifCond .ne 5, 3) := by decide +kernel
theorem dX7_over_16 : decode cX7_over 16 = .ok (.iconst (-1), 1) := by decide +kernel
theorem dX7_over_17 : decode cX7_over 17 = .ok (.ireturn, 1) := by decide +kernel
theorem dX7_over_18 : decode cX7_over 18 = .ok (.aload_n 0, 1) := by decide +kernel
theorem dX7_over_19 : decode cX7_over 19 = .ok (.getfield 28, 3) := by decide +kernel
theorem dX7_over_22 : decode cX7_over 22 = .ok (.iload_n 1, 1) := by decide +kernel
theorem dX7_over_23 : decode cX7_over 23 = .ok (.aaload, 1) := by decide +kernel
theorem dX7_over_24 : decode cX7_over 24 = .ok (.aload_n 0, 1) := by decide +kernel
theorem dX7_over_25 : decode cX7_over 25 = .ok (.getfield 28, 3) := by decide +kernel
theorem dX7_over_28 : decode cX7_over 28 = .ok (.iload_n 2, 1) := by decide +kernel
theorem dX7_over_29 : decode cX7_over 29 = .ok (.aaload, 1) := by decide +kernel
theorem dX7_over_30 : decode cX7_over 30 = .ok (.invokevirtual 150, 3) := by decide +kernel
theorem dX7_over_33 : decode cX7_over 33 = .ok (.ireturn, 1) := by decide +kernel
theorem dX7_all_0 : decode cX7_all 0 = .ok (.iload_n 1, 1) := by decide +kernel
theorem dX7_all_1 : decode cX7_all 1 = .ok (.iconst (-1), 1) := by decide +kernel
theorem dX7_all_2 : decode cX7_all 2 = .ok (.if_icmp .lt 9, 3) := by decide +kernel
theorem dX7_all_5 : decode cX7_all 5 = .ok (.iload_n 1, 1) := by decide +kernel
theorem dX7_all_6 : decode cX7_all 6 = .ok (.bipush 16, 2) := by decide +kernel
theorem dX7_all_8 : decode cX7_all 8 = .ok (.if_icmp .lt 6, 3) := by decide +kernel
theorem dX7_all_11 : decode cX7_all 11 = .ok (.bipush (-2), 2) := by decide +kernel
theorem dX7_all_13 : decode cX7_all 13 = .ok (.ireturn, 1) := by decide +kernel
theorem dX7_all_14 : decode cX7_all 14 = .ok (.aload_n 0, 1) := by decide +kernel
theorem dX7_all_15 : decode cX7_all 15 = .ok (.getfield 109, 3) := by decide +kernel
theorem dX7_all_18 : decode cX7_all 18 = .ok (.ifCond .ne 6, 3) := by decide +kernel
theorem dX7_all_21 : decode cX7_all 21 = .ok (.bipush (-3), 2) := by decide +kernel
theorem dX7_all_23 : decode cX7_all 23 = .ok (.ireturn, 1) := by decide +kernel
theorem dX7_all_24 : decode cX7_all 24 = .ok (.aload_n 0, 1) := by decide +kernel
theorem dX7_all_25 : decode cX7_all 25 = .ok (.invokevirtual 154, 3) := by decide +kernel
theorem dX7_all_28 : decode cX7_all 28 = .ok (.iload_n 1, 1) := by decide +kernel
theorem dX7_all_29 : decode cX7_all 29 = .ok (.ifCond .ge 11, 3) := by decide +kernel
theorem dX7_all_32 : decode cX7_all 32 = .ok (.aload_n 0, 1) := by decide +kernel
theorem dX7_all_33 : decode cX7_all 33 = .ok (.getfield 65, 3) := by decide +kernel
theorem dX7_all_36 : decode cX7_all 36 = .ok (.getfield 157, 3) := by decide +kernel
theorem dX7_all_39 : decode cX7_all 39 = .ok (.ireturn, 1) := by decide +kernel
theorem dX7_all_40 : decode cX7_all 40 = .ok (.iload_n 1, 1) := by decide +kernel
theorem dX7_all_41 : decode cX7_all 41 = .ok (.aload_n 0, 1) := by decide +kernel
theorem dX7_all_42 : decode cX7_all 42 = .ok (.getfield 65, 3) := by decide +kernel
theorem dX7_all_45 : decode cX7_all 45 = .ok (.getfield 157, 3) := by decide +kernel
theorem dX7_all_48 : decode cX7_all 48 = .ok (.if_icmp .ge 15, 3) := by decide +kernel
theorem dX7_all_51 : decode cX7_all 51 = .ok (.aload_n 0, 1) := by decide +kernel
theorem dX7_all_52 : decode cX7_all 52 = .ok (.getfield 65, 3) := by decide +kernel
theorem dX7_all_55 : decode cX7_all 55 = .ok (.getfield 158, 3) := by decide +kernel
theorem dX7_all_58 : decode cX7_all 58 = .ok (.iload_n 1, 1) := by decide +kernel
theorem dX7_all_59 : decode cX7_all 59 = .ok (.iaload, 1) := by decide +kernel
theorem dX7_all_60 : decode cX7_all 60 = .ok (.goto 5, 3) := by decide +kernel
theorem dX7_all_63 : decode cX7_all 63 = .ok (.bipush (-9), 2) := by decide +kernel
theorem dX7_all_65 : decode cX7_all 65 = .ok (.ireturn, 1) := by decide +kernel
theorem dX7_have_0 : decode cX7_have 0 = .ok (.iload_n 1, 1) := by decide +kernel
theorem dX7_have_1 : decode cX7_have 1 = .ok (.invokestatic 159, 3) := by decide +kernel
theorem dX7_have_4 : decode cX7_have 4 = .ok (.ifCond .eq 10, 3) := by decide +kernel
theorem dX7_have_7 : decode cX7_have 7 = .ok (.aload_n 0, 1) := by decide +kernel
theorem dX7_have_8 : decode cX7_have 8 = .ok (.getfield 109, 3) := by decide +kernel
theorem dX7_have_11 : decode cX7_have 11 = .ok (.ifCond .ne 7, 3) := by decide +kernel
theorem dX7_have_14 : decode cX7_have 14 = .ok (.ldc2_w 162, 3) := by decide +kernel
theorem dX7_have_17 : decode cX7_have 17 = .ok (.lreturn, 1) := by decide +kernel
theorem dX7_have_18 : decode cX7_have 18 = .ok (.aload_n 0, 1) := by decide +kernel
theorem dX7_have_19 : decode cX7_have 19 = .ok (.invokevirtual 154, 3) := by decide +kernel
theorem dX7_have_22 : decode cX7_have 22 = .ok (.aload_n 0, 1) := by decide +kernel
theorem dX7_have_23 : decode cX7_have 23 = .ok (.getfield 72, 3) := by decide +kernel
theorem dX7_have_26 : decode cX7_have 26 = .ok (.aload_n 0, 1) := by decide +kernel
theorem dX7_have_27 : decode cX7_have 27 = .ok (.getfield 65, 3) := by decide +kernel
theorem dX7_have_30 : decode cX7_have 30 = .ok (.iload_n 1, 1) := by decide +kernel
theorem dX7_have_31 : decode cX7_have 31 = .ok (.invokevirtual 164, 3) := by decide +kernel
theorem dX7_have_34 : decode cX7_have 34 = .ok (.aload_n 0, 1) := by decide +kernel
theorem dX7_have_35 : decode cX7_have 35 = .ok (.getfield 72, 3) := by decide +kernel
theorem dX7_have_38 : decode cX7_have 38 = .ok (.getfield 168, 3) := by decide +kernel
theorem dX7_have_41 : decode cX7_have 41 = .ok (.iload_n 1, 1) := by decide +kernel
theorem dX7_have_42 : decode cX7_have 42 = .ok (.laload, 1) := by decide +kernel
theorem dX7_have_43 : decode cX7_have 43 = .ok (.lreturn, 1) := by decide +kernel
theorem dX7_free_0 : decode cX7_free 0 = .ok (.iload_n 1, 1) := by decide +kernel
theorem dX7_free_1 : decode cX7_free 1 = .ok (.invokestatic 159, 3) := by decide +kernel
theorem dX7_free_4 : decode cX7_free 4 = .ok (.ifCond .eq 10, 3) := by decide +kernel
theorem dX7_free_7 : decode cX7_free 7 = .ok (.aload_n 0, 1) := by decide +kernel
theorem dX7_free_8 : decode cX7_free 8 = .ok (.getfield 109, 3) := by decide +kernel
theorem dX7_free_11 : decode cX7_free 11 = .ok (.ifCond .ne 7, 3) := by decide +kernel
theorem dX7_free_14 : decode cX7_free 14 = .ok (.ldc2_w 162, 3) := by decide +kernel
theorem dX7_free_17 : decode cX7_free 17 = .ok (.lreturn, 1) := by decide +kernel
theorem dX7_free_18 : decode cX7_free 18 = .ok (.aload_n 0, 1) := by decide +kernel
theorem dX7_free_19 : decode cX7_free 19 = .ok (.invokevirtual 154, 3) := by decide +kernel
theorem dX7_free_22 : decode cX7_free 22 = .ok (.aload_n 0, 1) := by decide +kernel
theorem dX7_free_23 : decode cX7_free 23 = .ok (.getfield 72, 3) := by decide +kernel
theorem dX7_free_26 : decode cX7_free 26 = .ok (.aload_n 0, 1) := by decide +kernel
theorem dX7_free_27 : decode cX7_free 27 = .ok (.getfield 65, 3) := by decide +kernel
theorem dX7_free_30 : decode cX7_free 30 = .ok (.iload_n 1, 1) := by decide +kernel
theorem dX7_free_31 : decode cX7_free 31 = .ok (.invokevirtual 164, 3) := by decide +kernel
theorem dX7_free_34 : decode cX7_free 34 = .ok (.aload_n 0, 1) := by decide +kernel
theorem dX7_free_35 : decode cX7_free 35 = .ok (.getfield 72, 3) := by decide +kernel
theorem dX7_free_38 : decode cX7_free 38 = .ok (.getfield 172, 3) := by decide +kernel
theorem dX7_free_41 : decode cX7_free 41 = .ok (.iload_n 1, 1) := by decide +kernel
theorem dX7_free_42 : decode cX7_free 42 = .ok (.laload, 1) := by decide +kernel
theorem dX7_free_43 : decode cX7_free 43 = .ok (.lreturn, 1) := by decide +kernel
theorem dX7_longest_0 : decode cX7_longest 0 = .ok (.aload_n 0, 1) := by decide +kernel
theorem dX7_longest_1 : decode cX7_longest 1 = .ok (.getfield 109, 3) := by decide +kernel
theorem dX7_longest_4 : decode cX7_longest 4 = .ok (.ifCond .ne 6, 3) := by decide +kernel
theorem dX7_longest_7 : decode cX7_longest 7 = .ok (.bipush (-3), 2) := by decide +kernel
theorem dX7_longest_9 : decode cX7_longest 9 = .ok (.ireturn, 1) := by decide +kernel
theorem dX7_longest_10 : decode cX7_longest 10 = .ok (.aload_n 0, 1) := by decide +kernel
theorem dX7_longest_11 : decode cX7_longest 11 = .ok (.invokevirtual 154, 3) := by decide +kernel
theorem dX7_longest_14 : decode cX7_longest 14 = .ok (.aload_n 0, 1) := by decide +kernel
theorem dX7_longest_15 : decode cX7_longest 15 = .ok (.getfield 58, 3) := by decide +kernel
theorem dX7_longest_18 : decode cX7_longest 18 = .ok (.invokevirtual 175, 3) := by decide +kernel
theorem dX7_longest_21 : decode cX7_longest 21 = .ok (.ireturn, 1) := by decide +kernel
theorem dX7_spare_0 : decode cX7_spare 0 = .ok (.aload_n 0, 1) := by decide +kernel
theorem dX7_spare_1 : decode cX7_spare 1 = .ok (.getfield 109, 3) := by decide +kernel
theorem dX7_spare_4 : decode cX7_spare 4 = .ok (.ifCond .ne 6, 3) := by decide +kernel
theorem dX7_spare_7 : decode cX7_spare 7 = .ok (.bipush (-3), 2) := by decide +kernel
theorem dX7_spare_9 : decode cX7_spare 9 = .ok (.ireturn, 1) := by decide +kernel
theorem dX7_spare_10 : decode cX7_spare 10 = .ok (.iconst 0, 1) := by decide +kernel
theorem dX7_spare_11 : decode cX7_spare 11 = .ok (.istore_n 1, 1) := by decide +kernel
theorem dX7_spare_12 : decode cX7_spare 12 = .ok (.iconst 0, 1) := by decide +kernel
theorem dX7_spare_13 : decode cX7_spare 13 = .ok (.istore_n 2, 1) := by decide +kernel
theorem dX7_spare_14 : decode cX7_spare 14 = .ok (.iload_n 2, 1) := by decide +kernel
theorem dX7_spare_15 : decode cX7_spare 15 = .ok (.aload_n 0, 1) := by decide +kernel
theorem dX7_spare_16 : decode cX7_spare 16 = .ok (.getfield 109, 3) := by decide +kernel
theorem dX7_spare_19 : decode cX7_spare 19 = .ok (.if_icmp .ge 55, 3) := by decide +kernel
theorem dX7_spare_22 : decode cX7_spare 22 = .ok (.iconst 0, 1) := by decide +kernel
theorem dX7_spare_23 : decode cX7_spare 23 = .ok (.istore_n 3, 1) := by decide +kernel
theorem dX7_spare_24 : decode cX7_spare 24 = .ok (.iload_n 3, 1) := by decide +kernel
theorem dX7_spare_25 : decode cX7_spare 25 = .ok (.aload_n 0, 1) := by decide +kernel
theorem dX7_spare_26 : decode cX7_spare 26 = .ok (.getfield 109, 3) := by decide +kernel
theorem dX7_spare_29 : decode cX7_spare 29 = .ok (.if_icmp .ge 39, 3) := by decide +kernel
theorem dX7_spare_32 : decode cX7_spare 32 = .ok (.iload_n 3, 1) := by decide +kernel
theorem dX7_spare_33 : decode cX7_spare 33 = .ok (.iload_n 2, 1) := by decide +kernel
theorem dX7_spare_34 : decode cX7_spare 34 = .ok (.if_icmp .eq 28, 3) := by decide +kernel
theorem dX7_spare_37 : decode cX7_spare 37 = .ok (.aload_n 0, 1) := by decide +kernel
theorem dX7_spare_38 : decode cX7_spare 38 = .ok (.aload_n 0, 1) := by decide +kernel
theorem dX7_spare_39 : decode cX7_spare 39 = .ok (.getfield 28, 3) := by decide +kernel
theorem dX7_spare_42 : decode cX7_spare 42 = .ok (.iload_n 2, 1) := by decide +kernel
theorem dX7_spare_43 : decode cX7_spare 43 = .ok (.aaload, 1) := by decide +kernel
theorem dX7_spare_44 : decode cX7_spare 44 = .ok (.aload_n 0, 1) := by decide +kernel
theorem dX7_spare_45 : decode cX7_spare 45 = .ok (.getfield 28, 3) := by decide +kernel
theorem dX7_spare_48 : decode cX7_spare 48 = .ok (.iload_n 3, 1) := by decide +kernel
theorem dX7_spare_49 : decode cX7_spare 49 = .ok (.aaload, 1) := by decide +kernel
theorem dX7_spare_50 : decode cX7_spare 50 = .ok (.invokevirtual 178, 3) := by decide +kernel
theorem dX7_spare_53 : decode cX7_spare 53 = .ok (.ifCond .eq 9, 3) := by decide +kernel
theorem dX7_spare_56 : decode cX7_spare 56 = .ok (.iload_n 1, 1) := by decide +kernel
theorem dX7_spare_57 : decode cX7_spare 57 = .ok (.iconst 1, 1) := by decide +kernel
theorem dX7_spare_58 : decode cX7_spare 58 = .ok (.iload_n 2, 1) := by decide +kernel
theorem dX7_spare_59 : decode cX7_spare 59 = .ok (.ishl, 1) := by decide +kernel
theorem dX7_spare_60 : decode cX7_spare 60 = .ok (.ior, 1) := by decide +kernel
theorem dX7_spare_61 : decode cX7_spare 61 = .ok (.istore_n 1, 1) := by decide +kernel
theorem dX7_spare_62 : decode cX7_spare 62 = .ok (.iinc 3 1, 3) := by decide +kernel
theorem dX7_spare_65 : decode cX7_spare 65 = .ok (.goto (-41), 3) := by decide +kernel
theorem dX7_spare_68 : decode cX7_spare 68 = .ok (.iinc 2 1, 3) := by decide +kernel
theorem dX7_spare_71 : decode cX7_spare 71 = .ok (.goto (-57), 3) := by decide +kernel
theorem dX7_spare_74 : decode cX7_spare 74 = .ok (.iload_n 1, 1) := by decide +kernel
theorem dX7_spare_75 : decode cX7_spare 75 = .ok (.ireturn, 1) := by decide +kernel
theorem dX7_reading_0 : decode cX7_reading 0 = .ok (.aload_n 0, 1) := by decide +kernel
theorem dX7_reading_1 : decode cX7_reading 1 = .ok (.iconst 0, 1) := by decide +kernel
theorem dX7_reading_2 : decode cX7_reading 2 = .ok (.putfield 82, 3) := by decide +kernel
theorem dX7_reading_5 : decode cX7_reading 5 = .ok (.aload_n 0, 1) := by decide +kernel
theorem dX7_reading_6 : decode cX7_reading 6 = .ok (.iload_n 1, 1) := by decide +kernel
theorem dX7_reading_7 : decode cX7_reading 7 = .ok (.invokevirtual 112, 3) := by decide +kernel
theorem dX7_reading_10 : decode cX7_reading 10 = .ok (.ifCond .eq 10, 3) := by decide +kernel
theorem dX7_reading_13 : decode cX7_reading 13 = .ok (.iload_n 2, 1) := by decide +kernel
theorem dX7_reading_14 : decode cX7_reading 14 = .ok (.invokestatic 86, 3) := by decide +kernel
theorem dX7_reading_17 : decode cX7_reading 17 = .ok (.ifCond .ne 5, 3) := by decide +kernel
theorem dX7_reading_20 : decode cX7_reading 20 = .ok (.iconst (-1), 1) := by decide +kernel
theorem dX7_reading_21 : decode cX7_reading 21 = .ok (.ireturn, 1) := by decide +kernel
theorem dX7_reading_22 : decode cX7_reading 22 = .ok (.iload_n 3, 1) := by decide +kernel
theorem dX7_reading_23 : decode cX7_reading 23 = .ok (.iconst 3, 1) := by decide +kernel
theorem dX7_reading_24 : decode cX7_reading 24 = .ok (.invokestatic 90, 3) := by decide +kernel
theorem dX7_reading_27 : decode cX7_reading 27 = .ok (.ifCond .eq 24, 3) := by decide +kernel
theorem dX7_reading_30 : decode cX7_reading 30 = .ok (.iload 5, 2) := by decide +kernel
theorem dX7_reading_32 : decode cX7_reading 32 = .ok (.ifCond .lt 19, 3) := by decide +kernel
theorem dX7_reading_35 : decode cX7_reading 35 = .ok (.iload 5, 2) := by decide +kernel
theorem dX7_reading_37 : decode cX7_reading 37 = .ok (.bipush 8, 2) := by decide +kernel
theorem dX7_reading_39 : decode cX7_reading 39 = .ok (.if_icmp .gt 12, 3) := by decide +kernel
theorem dX7_reading_42 : decode cX7_reading 42 = .ok (.iload 6, 2) := by decide +kernel
theorem dX7_reading_44 : decode cX7_reading 44 = .ok (.iconst 2, 1) := by decide +kernel
theorem dX7_reading_45 : decode cX7_reading 45 = .ok (.invokestatic 90, 3) := by decide +kernel
theorem dX7_reading_48 : decode cX7_reading 48 = .ok (.ifCond .ne 6, 3) := by decide +kernel
theorem dX7_reading_51 : decode cX7_reading 51 = .ok (.bipush (-2), 2) := by decide +kernel
theorem dX7_reading_53 : decode cX7_reading 53 = .ok (.ireturn, 1) := by decide +kernel
theorem dX7_reading_54 : decode cX7_reading 54 = .ok (.aload_n 0, 1) := by decide +kernel
theorem dX7_reading_55 : decode cX7_reading 55 = .ok (.getfield 13, 3) := by decide +kernel
theorem dX7_reading_58 : decode cX7_reading 58 = .ok (.iload_n 2, 1) := by decide +kernel
theorem dX7_reading_59 : decode cX7_reading 59 = .ok (.aaload, 1) := by decide +kernel
theorem dX7_reading_60 : decode cX7_reading 60 = .ok (.iload_n 3, 1) := by decide +kernel
theorem dX7_reading_61 : decode cX7_reading 61 = .ok (.iload 4, 2) := by decide +kernel
theorem dX7_reading_63 : decode cX7_reading 63 = .ok (.iload 5, 2) := by decide +kernel
theorem dX7_reading_65 : decode cX7_reading 65 = .ok (.invokevirtual 94, 3) := by decide +kernel
theorem dX7_reading_68 : decode cX7_reading 68 = .ok (.istore 7, 2) := by decide +kernel
theorem dX7_reading_70 : decode cX7_reading 70 = .ok (.iload 7, 2) := by decide +kernel
theorem dX7_reading_72 : decode cX7_reading 72 = .ok (.ifCond .eq 10, 3) := by decide +kernel
theorem dX7_reading_75 : decode cX7_reading 75 = .ok (.aload_n 0, 1) := by decide +kernel
theorem dX7_reading_76 : decode cX7_reading 76 = .ok (.iload 7, 2) := by decide +kernel
theorem dX7_reading_78 : decode cX7_reading 78 = .ok (.invokevirtual 98, 3) := by decide +kernel
theorem dX7_reading_81 : decode cX7_reading 81 = .ok (.ireturn, 1) := by decide +kernel
theorem dX7_reading_82 : decode cX7_reading 82 = .ok (.aload_n 0, 1) := by decide +kernel
theorem dX7_reading_83 : decode cX7_reading 83 = .ok (.getfield 13, 3) := by decide +kernel
theorem dX7_reading_86 : decode cX7_reading 86 = .ok (.iload_n 2, 1) := by decide +kernel
theorem dX7_reading_87 : decode cX7_reading 87 = .ok (.aaload, 1) := by decide +kernel
theorem dX7_reading_88 : decode cX7_reading 88 = .ok (.aload_n 0, 1) := by decide +kernel
theorem dX7_reading_89 : decode cX7_reading 89 = .ok (.getfield 36, 3) := by decide +kernel
theorem dX7_reading_92 : decode cX7_reading 92 = .ok (.iload 4, 2) := by decide +kernel
theorem dX7_reading_94 : decode cX7_reading 94 = .ok (.iload 5, 2) := by decide +kernel
theorem dX7_reading_96 : decode cX7_reading 96 = .ok (.invokevirtual 142, 3) := by decide +kernel
theorem dX7_reading_99 : decode cX7_reading 99 = .ok (.ifCond .ne 6, 3) := by decide +kernel
theorem dX7_reading_102 : decode cX7_reading 102 = .ok (.bipush (-2), 2) := by decide +kernel
theorem dX7_reading_104 : decode cX7_reading 104 = .ok (.ireturn, 1) := by decide +kernel
theorem dX7_reading_105 : decode cX7_reading 105 = .ok (.aload_n 0, 1) := by decide +kernel
theorem dX7_reading_106 : decode cX7_reading 106 = .ok (.getfield 182, 3) := by decide +kernel
theorem dX7_reading_109 : decode cX7_reading 109 = .ok (.bipush 8, 2) := by decide +kernel
theorem dX7_reading_111 : decode cX7_reading 111 = .ok (.if_icmp .lt 6, 3) := by decide +kernel
theorem dX7_reading_114 : decode cX7_reading 114 = .ok (.bipush (-4), 2) := by decide +kernel
theorem dX7_reading_116 : decode cX7_reading 116 = .ok (.ireturn, 1) := by decide +kernel
theorem dX7_reading_117 : decode cX7_reading 117 = .ok (.aload_n 0, 1) := by decide +kernel
theorem dX7_reading_118 : decode cX7_reading 118 = .ok (.getfield 41, 3) := by decide +kernel
theorem dX7_reading_121 : decode cX7_reading 121 = .ok (.aload_n 0, 1) := by decide +kernel
theorem dX7_reading_122 : decode cX7_reading 122 = .ok (.getfield 182, 3) := by decide +kernel
theorem dX7_reading_125 : decode cX7_reading 125 = .ok (.aaload, 1) := by decide +kernel
theorem dX7_reading_126 : decode cX7_reading 126 = .ok (.iload_n 1, 1) := by decide +kernel
theorem dX7_reading_127 : decode cX7_reading 127 = .ok (.aload_n 0, 1) := by decide +kernel
theorem dX7_reading_128 : decode cX7_reading 128 = .ok (.getfield 36, 3) := by decide +kernel
theorem dX7_reading_131 : decode cX7_reading 131 = .ok (.iload 5, 2) := by decide +kernel
theorem dX7_reading_133 : decode cX7_reading 133 = .ok (.iload 6, 2) := by decide +kernel
theorem dX7_reading_135 : decode cX7_reading 135 = .ok (.iconst 1, 1) := by decide +kernel
theorem dX7_reading_136 : decode cX7_reading 136 = .ok (.if_icmp .ne 7, 3) := by decide +kernel
theorem dX7_reading_139 : decode cX7_reading 139 = .ok (.iconst 1, 1) := by decide +kernel
theorem dX7_reading_140 : decode cX7_reading 140 = .ok (.goto 4, 3) := by decide +kernel
theorem dX7_reading_143 : decode cX7_reading 143 = .ok (.iconst 0, 1) := by decide +kernel
theorem dX7_reading_144 : decode cX7_reading 144 = .ok (.invokevirtual 185, 3) := by decide +kernel
theorem dX7_reading_147 : decode cX7_reading 147 = .ok (.aload_n 0, 1) := by decide +kernel
theorem dX7_reading_148 : decode cX7_reading 148 = .ok (.dup, 1) := by decide +kernel
theorem dX7_reading_149 : decode cX7_reading 149 = .ok (.getfield 182, 3) := by decide +kernel
theorem dX7_reading_152 : decode cX7_reading 152 = .ok (.iconst 1, 1) := by decide +kernel
theorem dX7_reading_153 : decode cX7_reading 153 = .ok (.iadd, 1) := by decide +kernel
theorem dX7_reading_154 : decode cX7_reading 154 = .ok (.putfield 182, 3) := by decide +kernel
theorem dX7_reading_157 : decode cX7_reading 157 = .ok (.aload_n 0, 1) := by decide +kernel
theorem dX7_reading_158 : decode cX7_reading 158 = .ok (.getfield 182, 3) := by decide +kernel
theorem dX7_reading_161 : decode cX7_reading 161 = .ok (.iconst 1, 1) := by decide +kernel
theorem dX7_reading_162 : decode cX7_reading 162 = .ok (.isub, 1) := by decide +kernel
theorem dX7_reading_163 : decode cX7_reading 163 = .ok (.ireturn, 1) := by decide +kernel
theorem dX7_back_0 : decode cX7_back 0 = .ok (.iload_n 1, 1) := by decide +kernel
theorem dX7_back_1 : decode cX7_back 1 = .ok (.ifCond .lt 11, 3) := by decide +kernel
theorem dX7_back_4 : decode cX7_back 4 = .ok (.iload_n 1, 1) := by decide +kernel
theorem dX7_back_5 : decode cX7_back 5 = .ok (.aload_n 0, 1) := by decide +kernel
theorem dX7_back_6 : decode cX7_back 6 = .ok (.getfield 182, 3) := by decide +kernel
theorem dX7_back_9 : decode cX7_back 9 = .ok (.if_icmp .le 6, 3) := by decide +kernel
theorem dX7_back_12 : decode cX7_back 12 = .ok (.bipush (-2), 2) := by decide +kernel
theorem dX7_back_14 : decode cX7_back 14 = .ok (.ireturn, 1) := by decide +kernel
theorem dX7_back_15 : decode cX7_back 15 = .ok (.aload_n 0, 1) := by decide +kernel
theorem dX7_back_16 : decode cX7_back 16 = .ok (.dup, 1) := by decide +kernel
theorem dX7_back_17 : decode cX7_back 17 = .ok (.getfield 182, 3) := by decide +kernel
theorem dX7_back_20 : decode cX7_back 20 = .ok (.iload_n 1, 1) := by decide +kernel
theorem dX7_back_21 : decode cX7_back 21 = .ok (.isub, 1) := by decide +kernel
theorem dX7_back_22 : decode cX7_back 22 = .ok (.putfield 182, 3) := by decide +kernel
theorem dX7_back_25 : decode cX7_back 25 = .ok (.aload_n 0, 1) := by decide +kernel
theorem dX7_back_26 : decode cX7_back 26 = .ok (.getfield 182, 3) := by decide +kernel
theorem dX7_back_29 : decode cX7_back 29 = .ok (.ireturn, 1) := by decide +kernel
theorem dX7_kinds_0 : decode cX7_kinds 0 = .ok (.aload_n 0, 1) := by decide +kernel
theorem dX7_kinds_1 : decode cX7_kinds 1 = .ok (.iload_n 1, 1) := by decide +kernel
theorem dX7_kinds_2 : decode cX7_kinds 2 = .ok (.invokevirtual 112, 3) := by decide +kernel
theorem dX7_kinds_5 : decode cX7_kinds 5 = .ok (.ifCond .ne 5, 3) := by decide +kernel
theorem dX7_kinds_8 : decode cX7_kinds 8 = .ok (.iconst (-1), 1) := by decide +kernel
theorem dX7_kinds_9 : decode cX7_kinds 9 = .ok (.ireturn, 1) := by decide +kernel
theorem dX7_kinds_10 : decode cX7_kinds 10 = .ok (.aload_n 0, 1) := by decide +kernel
theorem dX7_kinds_11 : decode cX7_kinds 11 = .ok (.getfield 48, 3) := by decide +kernel
theorem dX7_kinds_14 : decode cX7_kinds 14 = .ok (.aload_n 0, 1) := by decide +kernel
theorem dX7_kinds_15 : decode cX7_kinds 15 = .ok (.getfield 28, 3) := by decide +kernel
theorem dX7_kinds_18 : decode cX7_kinds 18 = .ok (.iload_n 1, 1) := by decide +kernel
theorem dX7_kinds_19 : decode cX7_kinds 19 = .ok (.aaload, 1) := by decide +kernel
theorem dX7_kinds_20 : decode cX7_kinds 20 = .ok (.invokevirtual 189, 3) := by decide +kernel
theorem dX7_kinds_23 : decode cX7_kinds 23 = .ok (.iconst 0, 1) := by decide +kernel
theorem dX7_kinds_24 : decode cX7_kinds 24 = .ok (.istore_n 2, 1) := by decide +kernel
theorem dX7_kinds_25 : decode cX7_kinds 25 = .ok (.iconst 0, 1) := by decide +kernel
theorem dX7_kinds_26 : decode cX7_kinds 26 = .ok (.istore_n 3, 1) := by decide +kernel
theorem dX7_kinds_27 : decode cX7_kinds 27 = .ok (.iload_n 3, 1) := by decide +kernel
theorem dX7_kinds_28 : decode cX7_kinds 28 = .ok (.iconst 3, 1) := by decide +kernel
theorem dX7_kinds_29 : decode cX7_kinds 29 = .ok (.if_icmp .ge 31, 3) := by decide +kernel
theorem dX7_kinds_32 : decode cX7_kinds 32 = .ok (.aload_n 0, 1) := by decide +kernel
theorem dX7_kinds_33 : decode cX7_kinds 33 = .ok (.getfield 48, 3) := by decide +kernel
theorem dX7_kinds_36 : decode cX7_kinds 36 = .ok (.iload_n 3, 1) := by decide +kernel
theorem dX7_kinds_37 : decode cX7_kinds 37 = .ok (.putfield 115, 3) := by decide +kernel
theorem dX7_kinds_40 : decode cX7_kinds 40 = .ok (.aload_n 0, 1) := by decide +kernel
theorem dX7_kinds_41 : decode cX7_kinds 41 = .ok (.iload_n 1, 1) := by decide +kernel
theorem dX7_kinds_42 : decode cX7_kinds 42 = .ok (.invokevirtual 193, 3) := by decide +kernel
theorem dX7_kinds_45 : decode cX7_kinds 45 = .ok (.ifCond .eq 9, 3) := by decide +kernel
theorem dX7_kinds_48 : decode cX7_kinds 48 = .ok (.iload_n 2, 1) := by decide +kernel
theorem dX7_kinds_49 : decode cX7_kinds 49 = .ok (.iconst 1, 1) := by decide +kernel
theorem dX7_kinds_50 : decode cX7_kinds 50 = .ok (.iload_n 3, 1) := by decide +kernel
theorem dX7_kinds_51 : decode cX7_kinds 51 = .ok (.ishl, 1) := by decide +kernel
theorem dX7_kinds_52 : decode cX7_kinds 52 = .ok (.ior, 1) := by decide +kernel
theorem dX7_kinds_53 : decode cX7_kinds 53 = .ok (.istore_n 2, 1) := by decide +kernel
theorem dX7_kinds_54 : decode cX7_kinds 54 = .ok (.iinc 3 1, 3) := by decide +kernel
theorem dX7_kinds_57 : decode cX7_kinds 57 = .ok (.goto (-30), 3) := by decide +kernel
theorem dX7_kinds_60 : decode cX7_kinds 60 = .ok (.iload_n 2, 1) := by decide +kernel
theorem dX7_kinds_61 : decode cX7_kinds 61 = .ok (.ireturn, 1) := by decide +kernel
theorem dX7_lasts_0 : decode cX7_lasts 0 = .ok (.aload_n 0, 1) := by decide +kernel
theorem dX7_lasts_1 : decode cX7_lasts 1 = .ok (.iload_n 1, 1) := by decide +kernel
theorem dX7_lasts_2 : decode cX7_lasts 2 = .ok (.invokevirtual 112, 3) := by decide +kernel
theorem dX7_lasts_5 : decode cX7_lasts 5 = .ok (.ifCond .ne 5, 3) := by decide +kernel
theorem dX7_lasts_8 : decode cX7_lasts 8 = .ok (.iconst (-1), 1) := by decide +kernel
theorem dX7_lasts_9 : decode cX7_lasts 9 = .ok (.ireturn, 1) := by decide +kernel
theorem dX7_lasts_10 : decode cX7_lasts 10 = .ok (.aload_n 0, 1) := by decide +kernel
theorem dX7_lasts_11 : decode cX7_lasts 11 = .ok (.getfield 48, 3) := by decide +kernel
theorem dX7_lasts_14 : decode cX7_lasts 14 = .ok (.aload_n 0, 1) := by decide +kernel
theorem dX7_lasts_15 : decode cX7_lasts 15 = .ok (.getfield 28, 3) := by decide +kernel
theorem dX7_lasts_18 : decode cX7_lasts 18 = .ok (.iload_n 1, 1) := by decide +kernel
theorem dX7_lasts_19 : decode cX7_lasts 19 = .ok (.aaload, 1) := by decide +kernel
theorem dX7_lasts_20 : decode cX7_lasts 20 = .ok (.invokevirtual 189, 3) := by decide +kernel
theorem dX7_lasts_23 : decode cX7_lasts 23 = .ok (.iconst 0, 1) := by decide +kernel
theorem dX7_lasts_24 : decode cX7_lasts 24 = .ok (.istore_n 2, 1) := by decide +kernel
theorem dX7_lasts_25 : decode cX7_lasts 25 = .ok (.iconst 0, 1) := by decide +kernel
theorem dX7_lasts_26 : decode cX7_lasts 26 = .ok (.istore_n 3, 1) := by decide +kernel
theorem dX7_lasts_27 : decode cX7_lasts 27 = .ok (.iload_n 3, 1) := by decide +kernel
theorem dX7_lasts_28 : decode cX7_lasts 28 = .ok (.iconst 3, 1) := by decide +kernel
theorem dX7_lasts_29 : decode cX7_lasts 29 = .ok (.if_icmp .ge 31, 3) := by decide +kernel
theorem dX7_lasts_32 : decode cX7_lasts 32 = .ok (.aload_n 0, 1) := by decide +kernel
theorem dX7_lasts_33 : decode cX7_lasts 33 = .ok (.getfield 48, 3) := by decide +kernel
theorem dX7_lasts_36 : decode cX7_lasts 36 = .ok (.iload_n 3, 1) := by decide +kernel
theorem dX7_lasts_37 : decode cX7_lasts 37 = .ok (.invokevirtual 196, 3) := by decide +kernel
theorem dX7_lasts_40 : decode cX7_lasts 40 = .ok (.aload_n 0, 1) := by decide +kernel
theorem dX7_lasts_41 : decode cX7_lasts 41 = .ok (.iload_n 1, 1) := by decide +kernel
theorem dX7_lasts_42 : decode cX7_lasts 42 = .ok (.invokevirtual 193, 3) := by decide +kernel
theorem dX7_lasts_45 : decode cX7_lasts 45 = .ok (.ifCond .eq 9, 3) := by decide +kernel
theorem dX7_lasts_48 : decode cX7_lasts 48 = .ok (.iload_n 2, 1) := by decide +kernel
theorem dX7_lasts_49 : decode cX7_lasts 49 = .ok (.iconst 1, 1) := by decide +kernel
theorem dX7_lasts_50 : decode cX7_lasts 50 = .ok (.iload_n 3, 1) := by decide +kernel
theorem dX7_lasts_51 : decode cX7_lasts 51 = .ok (.ishl, 1) := by decide +kernel
theorem dX7_lasts_52 : decode cX7_lasts 52 = .ok (.ior, 1) := by decide +kernel
theorem dX7_lasts_53 : decode cX7_lasts 53 = .ok (.istore_n 2, 1) := by decide +kernel
theorem dX7_lasts_54 : decode cX7_lasts 54 = .ok (.iinc 3 1, 3) := by decide +kernel
theorem dX7_lasts_57 : decode cX7_lasts 57 = .ok (.goto (-30), 3) := by decide +kernel
theorem dX7_lasts_60 : decode cX7_lasts 60 = .ok (.iload_n 2, 1) := by decide +kernel
theorem dX7_lasts_61 : decode cX7_lasts 61 = .ok (.ireturn, 1) := by decide +kernel
theorem dX7_odds_0 : decode cX7_odds 0 = .ok (.iload_n 1, 1) := by decide +kernel
theorem dX7_odds_1 : decode cX7_odds 1 = .ok (.invokestatic 159, 3) := by decide +kernel
theorem dX7_odds_4 : decode cX7_odds 4 = .ok (.ifCond .eq 18, 3) := by decide +kernel
theorem dX7_odds_7 : decode cX7_odds 7 = .ok (.iload_n 2, 1) := by decide +kernel
theorem dX7_odds_8 : decode cX7_odds 8 = .ok (.iconst 2, 1) := by decide +kernel
theorem dX7_odds_9 : decode cX7_odds 9 = .ok (.invokestatic 90, 3) := by decide +kernel
theorem dX7_odds_12 : decode cX7_odds 12 = .ok (.ifCond .eq 10, 3) := by decide +kernel
theorem dX7_odds_15 : decode cX7_odds 15 = .ok (.aload_n 0, 1) := by decide +kernel
theorem dX7_odds_16 : decode cX7_odds 16 = .ok (.getfield 109, 3) := by decide +kernel
theorem dX7_odds_19 : decode cX7_odds 19 = .ok (.ifCond .ne 7, 3) := by decide +kernel
theorem dX7_odds_22 : decode cX7_odds 22 = .ok (.ldc2_w 162, 3) := by decide +kernel
theorem dX7_odds_25 : decode cX7_odds 25 = .ok (.lreturn, 1) := by decide +kernel
theorem dX7_odds_26 : decode cX7_odds 26 = .ok (.aload_n 0, 1) := by decide +kernel
theorem dX7_odds_27 : decode cX7_odds 27 = .ok (.invokevirtual 154, 3) := by decide +kernel
theorem dX7_odds_30 : decode cX7_odds 30 = .ok (.aload_n 0, 1) := by decide +kernel
theorem dX7_odds_31 : decode cX7_odds 31 = .ok (.getfield 72, 3) := by decide +kernel
theorem dX7_odds_34 : decode cX7_odds 34 = .ok (.aload_n 0, 1) := by decide +kernel
theorem dX7_odds_35 : decode cX7_odds 35 = .ok (.getfield 65, 3) := by decide +kernel
theorem dX7_odds_38 : decode cX7_odds 38 = .ok (.iload_n 1, 1) := by decide +kernel
theorem dX7_odds_39 : decode cX7_odds 39 = .ok (.invokevirtual 164, 3) := by decide +kernel
theorem dX7_odds_42 : decode cX7_odds 42 = .ok (.aload_n 0, 1) := by decide +kernel
theorem dX7_odds_43 : decode cX7_odds 43 = .ok (.getfield 72, 3) := by decide +kernel
theorem dX7_odds_46 : decode cX7_odds 46 = .ok (.getfield 168, 3) := by decide +kernel
theorem dX7_odds_49 : decode cX7_odds 49 = .ok (.iload_n 1, 1) := by decide +kernel
theorem dX7_odds_50 : decode cX7_odds 50 = .ok (.laload, 1) := by decide +kernel
theorem dX7_odds_51 : decode cX7_odds 51 = .ok (.lstore_n 3, 1) := by decide +kernel
theorem dX7_odds_52 : decode cX7_odds 52 = .ok (.lconst 1, 1) := by decide +kernel
theorem dX7_odds_53 : decode cX7_odds 53 = .ok (.lstore 5, 2) := by decide +kernel
theorem dX7_odds_55 : decode cX7_odds 55 = .ok (.iconst 0, 1) := by decide +kernel
theorem dX7_odds_56 : decode cX7_odds 56 = .ok (.istore 7, 2) := by decide +kernel
theorem dX7_odds_58 : decode cX7_odds 58 = .ok (.iload 7, 2) := by decide +kernel
theorem dX7_odds_60 : decode cX7_odds 60 = .ok (.iload_n 1, 1) := by decide +kernel
theorem dX7_odds_61 : decode cX7_odds 61 = .ok (.if_icmp .ge 36, 3) := by decide +kernel
theorem dX7_odds_64 : decode cX7_odds 64 = .ok (.lload_n 3, 1) := by decide +kernel
theorem dX7_odds_65 : decode cX7_odds 65 = .ok (.ldc2_w 200, 3) := by decide +kernel
theorem dX7_odds_68 : decode cX7_odds 68 = .ok (.lrem, 1) := by decide +kernel
theorem dX7_odds_69 : decode cX7_odds 69 = .ok (.lconst 0, 1) := by decide +kernel
theorem dX7_odds_70 : decode cX7_odds 70 = .ok (.lcmp, 1) := by decide +kernel
theorem dX7_odds_71 : decode cX7_odds 71 = .ok (.ifCond .ne 12, 3) := by decide +kernel
theorem dX7_odds_74 : decode cX7_odds 74 = .ok (.lload_n 3, 1) := by decide +kernel
theorem dX7_odds_75 : decode cX7_odds 75 = .ok (.ldc2_w 200, 3) := by decide +kernel
theorem dX7_odds_78 : decode cX7_odds 78 = .ok (.ldiv, 1) := by decide +kernel
theorem dX7_odds_79 : decode cX7_odds 79 = .ok (.lstore_n 3, 1) := by decide +kernel
theorem dX7_odds_80 : decode cX7_odds 80 = .ok (.goto 11, 3) := by decide +kernel
theorem dX7_odds_83 : decode cX7_odds 83 = .ok (.lload 5, 2) := by decide +kernel
theorem dX7_odds_85 : decode cX7_odds 85 = .ok (.ldc2_w 200, 3) := by decide +kernel
theorem dX7_odds_88 : decode cX7_odds 88 = .ok (.lmul, 1) := by decide +kernel
theorem dX7_odds_89 : decode cX7_odds 89 = .ok (.lstore 5, 2) := by decide +kernel
theorem dX7_odds_91 : decode cX7_odds 91 = .ok (.iinc 7 1, 3) := by decide +kernel
theorem dX7_odds_94 : decode cX7_odds 94 = .ok (.goto (-36), 3) := by decide +kernel
theorem dX7_odds_97 : decode cX7_odds 97 = .ok (.iload_n 2, 1) := by decide +kernel
theorem dX7_odds_98 : decode cX7_odds 98 = .ok (.ifCond .ne 7, 3) := by decide +kernel
theorem dX7_odds_101 : decode cX7_odds 101 = .ok (.lload_n 3, 1) := by decide +kernel
theorem dX7_odds_102 : decode cX7_odds 102 = .ok (.goto 5, 3) := by decide +kernel
theorem dX7_odds_105 : decode cX7_odds 105 = .ok (.lload 5, 2) := by decide +kernel
theorem dX7_odds_107 : decode cX7_odds 107 = .ok (.lreturn, 1) := by decide +kernel
theorem dX7_sheet_0 : decode cX7_sheet 0 = .ok (.aload_n 0, 1) := by decide +kernel
theorem dX7_sheet_1 : decode cX7_sheet 1 = .ok (.iconst 0, 1) := by decide +kernel
theorem dX7_sheet_2 : decode cX7_sheet 2 = .ok (.putfield 82, 3) := by decide +kernel
theorem dX7_sheet_5 : decode cX7_sheet 5 = .ok (.iload_n 1, 1) := by decide +kernel
theorem dX7_sheet_6 : decode cX7_sheet 6 = .ok (.invokestatic 86, 3) := by decide +kernel
theorem dX7_sheet_9 : decode cX7_sheet 9 = .ok (.ifCond .ne 5, 3) := by decide +kernel
theorem dX7_sheet_12 : decode cX7_sheet 12 = .ok (.iconst (-1), 1) := by decide +kernel
theorem dX7_sheet_13 : decode cX7_sheet 13 = .ok (.ireturn, 1) := by decide +kernel
theorem dX7_sheet_14 : decode cX7_sheet 14 = .ok (.iload_n 2, 1) := by decide +kernel
theorem dX7_sheet_15 : decode cX7_sheet 15 = .ok (.iconst 3, 1) := by decide +kernel
theorem dX7_sheet_16 : decode cX7_sheet 16 = .ok (.invokestatic 90, 3) := by decide +kernel
theorem dX7_sheet_19 : decode cX7_sheet 19 = .ok (.ifCond .eq 9, 3) := by decide +kernel
theorem dX7_sheet_22 : decode cX7_sheet 22 = .ok (.iload_n 3, 1) := by decide +kernel
theorem dX7_sheet_23 : decode cX7_sheet 23 = .ok (.bipush 60, 2) := by decide +kernel
theorem dX7_sheet_25 : decode cX7_sheet 25 = .ok (.if_icmp .le 6, 3) := by decide +kernel
theorem dX7_sheet_28 : decode cX7_sheet 28 = .ok (.bipush (-2), 2) := by decide +kernel
theorem dX7_sheet_30 : decode cX7_sheet 30 = .ok (.ireturn, 1) := by decide +kernel
theorem dX7_sheet_31 : decode cX7_sheet 31 = .ok (.iload_n 3, 1) := by decide +kernel
theorem dX7_sheet_32 : decode cX7_sheet 32 = .ok (.ifCond .ge 9, 3) := by decide +kernel
theorem dX7_sheet_35 : decode cX7_sheet 35 = .ok (.aload_n 0, 1) := by decide +kernel
theorem dX7_sheet_36 : decode cX7_sheet 36 = .ok (.iconst 4, 1) := by decide +kernel
theorem dX7_sheet_37 : decode cX7_sheet 37 = .ok (.invokevirtual 98, 3) := by decide +kernel
theorem dX7_sheet_40 : decode cX7_sheet 40 = .ok (.ireturn, 1) := by decide +kernel
theorem dX7_sheet_41 : decode cX7_sheet 41 = .ok (.aload_n 0, 1) := by decide +kernel
theorem dX7_sheet_42 : decode cX7_sheet 42 = .ok (.getfield 13, 3) := by decide +kernel
theorem dX7_sheet_45 : decode cX7_sheet 45 = .ok (.iload_n 1, 1) := by decide +kernel
theorem dX7_sheet_46 : decode cX7_sheet 46 = .ok (.aaload, 1) := by decide +kernel
theorem dX7_sheet_47 : decode cX7_sheet 47 = .ok (.iload_n 2, 1) := by decide +kernel
theorem dX7_sheet_48 : decode cX7_sheet 48 = .ok (.iload_n 3, 1) := by decide +kernel
theorem dX7_sheet_49 : decode cX7_sheet 49 = .ok (.invokevirtual 202, 3) := by decide +kernel
theorem dX7_sheet_52 : decode cX7_sheet 52 = .ok (.iconst 1, 1) := by decide +kernel
theorem dX7_sheet_53 : decode cX7_sheet 53 = .ok (.ireturn, 1) := by decide +kernel
theorem dX7_lose_0 : decode cX7_lose 0 = .ok (.iload_n 1, 1) := by decide +kernel
theorem dX7_lose_1 : decode cX7_lose 1 = .ok (.invokestatic 86, 3) := by decide +kernel
theorem dX7_lose_4 : decode cX7_lose 4 = .ok (.ifCond .ne 5, 3) := by decide +kernel
theorem dX7_lose_7 : decode cX7_lose 7 = .ok (.iconst (-1), 1) := by decide +kernel
theorem dX7_lose_8 : decode cX7_lose 8 = .ok (.ireturn, 1) := by decide +kernel
theorem dX7_lose_9 : decode cX7_lose 9 = .ok (.aload_n 0, 1) := by decide +kernel
theorem dX7_lose_10 : decode cX7_lose 10 = .ok (.getfield 13, 3) := by decide +kernel
theorem dX7_lose_13 : decode cX7_lose 13 = .ok (.iload_n 1, 1) := by decide +kernel
theorem dX7_lose_14 : decode cX7_lose 14 = .ok (.aaload, 1) := by decide +kernel
theorem dX7_lose_15 : decode cX7_lose 15 = .ok (.getfield 206, 3) := by decide +kernel
theorem dX7_lose_18 : decode cX7_lose 18 = .ok (.ifCond .eq 7, 3) := by decide +kernel
theorem dX7_lose_21 : decode cX7_lose 21 = .ok (.iconst 1, 1) := by decide +kernel
theorem dX7_lose_22 : decode cX7_lose 22 = .ok (.goto 4, 3) := by decide +kernel
theorem dX7_lose_25 : decode cX7_lose 25 = .ok (.iconst 0, 1) := by decide +kernel
theorem dX7_lose_26 : decode cX7_lose 26 = .ok (.istore_n 2, 1) := by decide +kernel
theorem dX7_lose_27 : decode cX7_lose 27 = .ok (.aload_n 0, 1) := by decide +kernel
theorem dX7_lose_28 : decode cX7_lose 28 = .ok (.getfield 13, 3) := by decide +kernel
theorem dX7_lose_31 : decode cX7_lose 31 = .ok (.iload_n 1, 1) := by decide +kernel
theorem dX7_lose_32 : decode cX7_lose 32 = .ok (.aaload, 1) := by decide +kernel
theorem dX7_lose_33 : decode cX7_lose 33 = .ok (.iconst 0, 1) := by decide +kernel
