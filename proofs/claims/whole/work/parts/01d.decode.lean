theorem dX7_lose_34 : decode cX7_lose 34 = .ok (.putfield 206, 3) := by decide +kernel
theorem dX7_lose_37 : decode cX7_lose 37 = .ok (.iload_n 2, 1) := by decide +kernel
theorem dX7_lose_38 : decode cX7_lose 38 = .ok (.ireturn, 1) := by decide +kernel
theorem dX7_put_0 : decode cX7_put 0 = .ok (.aload_n 0, 1) := by decide +kernel
theorem dX7_put_1 : decode cX7_put 1 = .ok (.iconst 0, 1) := by decide +kernel
theorem dX7_put_2 : decode cX7_put 2 = .ok (.putfield 82, 3) := by decide +kernel
theorem dX7_put_5 : decode cX7_put 5 = .ok (.iload_n 1, 1) := by decide +kernel
theorem dX7_put_6 : decode cX7_put 6 = .ok (.invokestatic 86, 3) := by decide +kernel
theorem dX7_put_9 : decode cX7_put 9 = .ok (.ifCond .ne 5, 3) := by decide +kernel
theorem dX7_put_12 : decode cX7_put 12 = .ok (.iconst (-1), 1) := by decide +kernel
theorem dX7_put_13 : decode cX7_put 13 = .ok (.ireturn, 1) := by decide +kernel
theorem dX7_put_14 : decode cX7_put 14 = .ok (.aload_n 0, 1) := by decide +kernel
theorem dX7_put_15 : decode cX7_put 15 = .ok (.getfield 13, 3) := by decide +kernel
theorem dX7_put_18 : decode cX7_put 18 = .ok (.iload_n 1, 1) := by decide +kernel
theorem dX7_put_19 : decode cX7_put 19 = .ok (.aaload, 1) := by decide +kernel
theorem dX7_put_20 : decode cX7_put 20 = .ok (.getfield 206, 3) := by decide +kernel
theorem dX7_put_23 : decode cX7_put 23 = .ok (.ifCond .ne 9, 3) := by decide +kernel
theorem dX7_put_26 : decode cX7_put 26 = .ok (.aload_n 0, 1) := by decide +kernel
theorem dX7_put_27 : decode cX7_put 27 = .ok (.iconst 1, 1) := by decide +kernel
theorem dX7_put_28 : decode cX7_put 28 = .ok (.invokevirtual 98, 3) := by decide +kernel
theorem dX7_put_31 : decode cX7_put 31 = .ok (.ireturn, 1) := by decide +kernel
theorem dX7_put_32 : decode cX7_put 32 = .ok (.iload_n 2, 1) := by decide +kernel
theorem dX7_put_33 : decode cX7_put 33 = .ok (.aload_n 0, 1) := by decide +kernel
theorem dX7_put_34 : decode cX7_put 34 = .ok (.getfield 13, 3) := by decide +kernel
theorem dX7_put_37 : decode cX7_put 37 = .ok (.iload_n 1, 1) := by decide +kernel
theorem dX7_put_38 : decode cX7_put 38 = .ok (.aaload, 1) := by decide +kernel
theorem dX7_put_39 : decode cX7_put 39 = .ok (.getfield 209, 3) := by decide +kernel
theorem dX7_put_42 : decode cX7_put 42 = .ok (.invokestatic 90, 3) := by decide +kernel
theorem dX7_put_45 : decode cX7_put 45 = .ok (.ifCond .ne 9, 3) := by decide +kernel
theorem dX7_put_48 : decode cX7_put 48 = .ok (.aload_n 0, 1) := by decide +kernel
theorem dX7_put_49 : decode cX7_put 49 = .ok (.iconst 3, 1) := by decide +kernel
theorem dX7_put_50 : decode cX7_put 50 = .ok (.invokevirtual 98, 3) := by decide +kernel
theorem dX7_put_53 : decode cX7_put 53 = .ok (.ireturn, 1) := by decide +kernel
theorem dX7_put_54 : decode cX7_put 54 = .ok (.aload_n 0, 1) := by decide +kernel
theorem dX7_put_55 : decode cX7_put 55 = .ok (.getfield 13, 3) := by decide +kernel
theorem dX7_put_58 : decode cX7_put 58 = .ok (.iload_n 1, 1) := by decide +kernel
theorem dX7_put_59 : decode cX7_put 59 = .ok (.aaload, 1) := by decide +kernel
theorem dX7_put_60 : decode cX7_put 60 = .ok (.iload_n 2, 1) := by decide +kernel
theorem dX7_put_61 : decode cX7_put 61 = .ok (.iload_n 3, 1) := by decide +kernel
theorem dX7_put_62 : decode cX7_put 62 = .ok (.invokevirtual 210, 3) := by decide +kernel
theorem dX7_put_65 : decode cX7_put 65 = .ok (.iconst 1, 1) := by decide +kernel
theorem dX7_put_66 : decode cX7_put 66 = .ok (.ireturn, 1) := by decide +kernel
theorem dX7_cell_0 : decode cX7_cell 0 = .ok (.aload_n 0, 1) := by decide +kernel
theorem dX7_cell_1 : decode cX7_cell 1 = .ok (.iconst 0, 1) := by decide +kernel
theorem dX7_cell_2 : decode cX7_cell 2 = .ok (.putfield 82, 3) := by decide +kernel
theorem dX7_cell_5 : decode cX7_cell 5 = .ok (.iload_n 1, 1) := by decide +kernel
theorem dX7_cell_6 : decode cX7_cell 6 = .ok (.invokestatic 86, 3) := by decide +kernel
theorem dX7_cell_9 : decode cX7_cell 9 = .ok (.ifCond .eq 11, 3) := by decide +kernel
theorem dX7_cell_12 : decode cX7_cell 12 = .ok (.iload_n 3, 1) := by decide +kernel
theorem dX7_cell_13 : decode cX7_cell 13 = .ok (.iconst 3, 1) := by decide +kernel
theorem dX7_cell_14 : decode cX7_cell 14 = .ok (.invokestatic 90, 3) := by decide +kernel
theorem dX7_cell_17 : decode cX7_cell 17 = .ok (.ifCond .ne 7, 3) := by decide +kernel
theorem dX7_cell_20 : decode cX7_cell 20 = .ok (.ldc2_w 162, 3) := by decide +kernel
theorem dX7_cell_23 : decode cX7_cell 23 = .ok (.lreturn, 1) := by decide +kernel
theorem dX7_cell_24 : decode cX7_cell 24 = .ok (.aload_n 0, 1) := by decide +kernel
theorem dX7_cell_25 : decode cX7_cell 25 = .ok (.getfield 13, 3) := by decide +kernel
theorem dX7_cell_28 : decode cX7_cell 28 = .ok (.iload_n 1, 1) := by decide +kernel
theorem dX7_cell_29 : decode cX7_cell 29 = .ok (.aaload, 1) := by decide +kernel
theorem dX7_cell_30 : decode cX7_cell 30 = .ok (.iload_n 3, 1) := by decide +kernel
theorem dX7_cell_31 : decode cX7_cell 31 = .ok (.invokevirtual 213, 3) := by decide +kernel
theorem dX7_cell_34 : decode cX7_cell 34 = .ok (.istore 4, 2) := by decide +kernel
theorem dX7_cell_36 : decode cX7_cell 36 = .ok (.iload 4, 2) := by decide +kernel
theorem dX7_cell_38 : decode cX7_cell 38 = .ok (.ifCond .ne 22, 3) := by decide +kernel
theorem dX7_cell_41 : decode cX7_cell 41 = .ok (.iload_n 2, 1) := by decide +kernel
theorem dX7_cell_42 : decode cX7_cell 42 = .ok (.aload_n 0, 1) := by decide +kernel
theorem dX7_cell_43 : decode cX7_cell 43 = .ok (.getfield 13, 3) := by decide +kernel
theorem dX7_cell_46 : decode cX7_cell 46 = .ok (.iload_n 1, 1) := by decide +kernel
theorem dX7_cell_47 : decode cX7_cell 47 = .ok (.aaload, 1) := by decide +kernel
theorem dX7_cell_48 : decode cX7_cell 48 = .ok (.getfield 209, 3) := by decide +kernel
theorem dX7_cell_51 : decode cX7_cell 51 = .ok (.invokestatic 90, 3) := by decide +kernel
theorem dX7_cell_54 : decode cX7_cell 54 = .ok (.ifCond .ne 6, 3) := by decide +kernel
theorem dX7_cell_57 : decode cX7_cell 57 = .ok (.iconst 3, 1) := by decide +kernel
theorem dX7_cell_58 : decode cX7_cell 58 = .ok (.istore 4, 2) := by decide +kernel
theorem dX7_cell_60 : decode cX7_cell 60 = .ok (.iload 4, 2) := by decide +kernel
theorem dX7_cell_62 : decode cX7_cell 62 = .ok (.ifCond .eq 13, 3) := by decide +kernel
theorem dX7_cell_65 : decode cX7_cell 65 = .ok (.aload_n 0, 1) := by decide +kernel
theorem dX7_cell_66 : decode cX7_cell 66 = .ok (.iload 4, 2) := by decide +kernel
theorem dX7_cell_68 : decode cX7_cell 68 = .ok (.putfield 82, 3) := by decide +kernel
theorem dX7_cell_71 : decode cX7_cell 71 = .ok (.ldc2_w 162, 3) := by decide +kernel
theorem dX7_cell_74 : decode cX7_cell 74 = .ok (.lreturn, 1) := by decide +kernel
theorem dX7_cell_75 : decode cX7_cell 75 = .ok (.aload_n 0, 1) := by decide +kernel
theorem dX7_cell_76 : decode cX7_cell 76 = .ok (.getfield 13, 3) := by decide +kernel
theorem dX7_cell_79 : decode cX7_cell 79 = .ok (.iload_n 1, 1) := by decide +kernel
theorem dX7_cell_80 : decode cX7_cell 80 = .ok (.aaload, 1) := by decide +kernel
theorem dX7_cell_81 : decode cX7_cell 81 = .ok (.getfield 216, 3) := by decide +kernel
theorem dX7_cell_84 : decode cX7_cell 84 = .ok (.iload_n 2, 1) := by decide +kernel
theorem dX7_cell_85 : decode cX7_cell 85 = .ok (.iaload, 1) := by decide +kernel
theorem dX7_cell_86 : decode cX7_cell 86 = .ok (.i2l, 1) := by decide +kernel
theorem dX7_cell_87 : decode cX7_cell 87 = .ok (.lreturn, 1) := by decide +kernel
theorem dX7_copy_0 : decode cX7_copy 0 = .ok (.aload_n 0, 1) := by decide +kernel
theorem dX7_copy_1 : decode cX7_copy 1 = .ok (.iconst 0, 1) := by decide +kernel
theorem dX7_copy_2 : decode cX7_copy 2 = .ok (.putfield 82, 3) := by decide +kernel
theorem dX7_copy_5 : decode cX7_copy 5 = .ok (.iload_n 1, 1) := by decide +kernel
theorem dX7_copy_6 : decode cX7_copy 6 = .ok (.invokestatic 86, 3) := by decide +kernel
theorem dX7_copy_9 : decode cX7_copy 9 = .ok (.ifCond .eq 10, 3) := by decide +kernel
theorem dX7_copy_12 : decode cX7_copy 12 = .ok (.iload_n 3, 1) := by decide +kernel
theorem dX7_copy_13 : decode cX7_copy 13 = .ok (.invokestatic 86, 3) := by decide +kernel
theorem dX7_copy_16 : decode cX7_copy 16 = .ok (.ifCond .ne 5, 3) := by decide +kernel
theorem dX7_copy_19 : decode cX7_copy 19 = .ok (.iconst (-1), 1) := by decide +kernel
theorem dX7_copy_20 : decode cX7_copy 20 = .ok (.ireturn, 1) := by decide +kernel
theorem dX7_copy_21 : decode cX7_copy 21 = .ok (.aload_n 0, 1) := by decide +kernel
theorem dX7_copy_22 : decode cX7_copy 22 = .ok (.getfield 13, 3) := by decide +kernel
theorem dX7_copy_25 : decode cX7_copy 25 = .ok (.iload_n 1, 1) := by decide +kernel
theorem dX7_copy_26 : decode cX7_copy 26 = .ok (.aaload, 1) := by decide +kernel
theorem dX7_copy_27 : decode cX7_copy 27 = .ok (.astore 6, 2) := by decide +kernel
theorem dX7_copy_29 : decode cX7_copy 29 = .ok (.aload_n 0, 1) := by decide +kernel
theorem dX7_copy_30 : decode cX7_copy 30 = .ok (.getfield 13, 3) := by decide +kernel
theorem dX7_copy_33 : decode cX7_copy 33 = .ok (.iload_n 3, 1) := by decide +kernel
theorem dX7_copy_34 : decode cX7_copy 34 = .ok (.aaload, 1) := by decide +kernel
theorem dX7_copy_35 : decode cX7_copy 35 = .ok (.astore 7, 2) := by decide +kernel
theorem dX7_copy_37 : decode cX7_copy 37 = .ok (.aload 6, 2) := by decide +kernel
theorem dX7_copy_39 : decode cX7_copy 39 = .ok (.getfield 206, 3) := by decide +kernel
theorem dX7_copy_42 : decode cX7_copy 42 = .ok (.ifCond .eq 11, 3) := by decide +kernel
theorem dX7_copy_45 : decode cX7_copy 45 = .ok (.aload 7, 2) := by decide +kernel
theorem dX7_copy_47 : decode cX7_copy 47 = .ok (.getfield 206, 3) := by decide +kernel
theorem dX7_copy_50 : decode cX7_copy 50 = .ok (.ifCond .ne 9, 3) := by decide +kernel
theorem dX7_copy_53 : decode cX7_copy 53 = .ok (.aload_n 0, 1) := by decide +kernel
theorem dX7_copy_54 : decode cX7_copy 54 = .ok (.iconst 1, 1) := by decide +kernel
theorem dX7_copy_55 : decode cX7_copy 55 = .ok (.invokevirtual 98, 3) := by decide +kernel
theorem dX7_copy_58 : decode cX7_copy 58 = .ok (.ireturn, 1) := by decide +kernel
theorem dX7_copy_59 : decode cX7_copy 59 = .ok (.aload 6, 2) := by decide +kernel
theorem dX7_copy_61 : decode cX7_copy 61 = .ok (.getfield 219, 3) := by decide +kernel
theorem dX7_copy_64 : decode cX7_copy 64 = .ok (.aload 7, 2) := by decide +kernel
theorem dX7_copy_66 : decode cX7_copy 66 = .ok (.getfield 219, 3) := by decide +kernel
theorem dX7_copy_69 : decode cX7_copy 69 = .ok (.if_icmp .eq 9, 3) := by decide +kernel
theorem dX7_copy_72 : decode cX7_copy 72 = .ok (.aload_n 0, 1) := by decide +kernel
theorem dX7_copy_73 : decode cX7_copy 73 = .ok (.iconst 2, 1) := by decide +kernel
theorem dX7_copy_74 : decode cX7_copy 74 = .ok (.invokevirtual 98, 3) := by decide +kernel
theorem dX7_copy_77 : decode cX7_copy 77 = .ok (.ireturn, 1) := by decide +kernel
theorem dX7_copy_78 : decode cX7_copy 78 = .ok (.aload 6, 2) := by decide +kernel
theorem dX7_copy_80 : decode cX7_copy 80 = .ok (.iload_n 2, 1) := by decide +kernel
theorem dX7_copy_81 : decode cX7_copy 81 = .ok (.iload 5, 2) := by decide +kernel
theorem dX7_copy_83 : decode cX7_copy 83 = .ok (.invokevirtual 222, 3) := by decide +kernel
theorem dX7_copy_86 : decode cX7_copy 86 = .ok (.ifCond .eq 15, 3) := by decide +kernel
theorem dX7_copy_89 : decode cX7_copy 89 = .ok (.aload 7, 2) := by decide +kernel
theorem dX7_copy_91 : decode cX7_copy 91 = .ok (.iload 4, 2) := by decide +kernel
theorem dX7_copy_93 : decode cX7_copy 93 = .ok (.iload 5, 2) := by decide +kernel
theorem dX7_copy_95 : decode cX7_copy 95 = .ok (.invokevirtual 222, 3) := by decide +kernel
theorem dX7_copy_98 : decode cX7_copy 98 = .ok (.ifCond .ne 9, 3) := by decide +kernel
theorem dX7_copy_101 : decode cX7_copy 101 = .ok (.aload_n 0, 1) := by decide +kernel
theorem dX7_copy_102 : decode cX7_copy 102 = .ok (.iconst 3, 1) := by decide +kernel
theorem dX7_copy_103 : decode cX7_copy 103 = .ok (.invokevirtual 98, 3) := by decide +kernel
theorem dX7_copy_106 : decode cX7_copy 106 = .ok (.ireturn, 1) := by decide +kernel
theorem dX7_copy_107 : decode cX7_copy 107 = .ok (.aload 6, 2) := by decide +kernel
theorem dX7_copy_109 : decode cX7_copy 109 = .ok (.getfield 216, 3) := by decide +kernel
theorem dX7_copy_112 : decode cX7_copy 112 = .ok (.iload_n 2, 1) := by decide +kernel
theorem dX7_copy_113 : decode cX7_copy 113 = .ok (.aload 7, 2) := by decide +kernel
theorem dX7_copy_115 : decode cX7_copy 115 = .ok (.getfield 216, 3) := by decide +kernel
theorem dX7_copy_118 : decode cX7_copy 118 = .ok (.iload 4, 2) := by decide +kernel
theorem dX7_copy_120 : decode cX7_copy 120 = .ok (.iload 5, 2) := by decide +kernel
theorem dX7_copy_122 : decode cX7_copy 122 = .ok (.invokestatic 225, 3) := by decide +kernel
theorem dX7_copy_125 : decode cX7_copy 125 = .ok (.iload 5, 2) := by decide +kernel
theorem dX7_copy_127 : decode cX7_copy 127 = .ok (.ireturn, 1) := by decide +kernel
theorem dX7_tell_0 : decode cX7_tell 0 = .ok (.aload_n 0, 1) := by decide +kernel
theorem dX7_tell_1 : decode cX7_tell 1 = .ok (.iload_n 1, 1) := by decide +kernel
theorem dX7_tell_2 : decode cX7_tell 2 = .ok (.invokevirtual 112, 3) := by decide +kernel
theorem dX7_tell_5 : decode cX7_tell 5 = .ok (.ifCond .ne 5, 3) := by decide +kernel
theorem dX7_tell_8 : decode cX7_tell 8 = .ok (.iconst (-1), 1) := by decide +kernel
theorem dX7_tell_9 : decode cX7_tell 9 = .ok (.ireturn, 1) := by decide +kernel
theorem dX7_tell_10 : decode cX7_tell 10 = .ok (.aload_n 0, 1) := by decide +kernel
theorem dX7_tell_11 : decode cX7_tell 11 = .ok (.getfield 28, 3) := by decide +kernel
theorem dX7_tell_14 : decode cX7_tell 14 = .ok (.iload_n 1, 1) := by decide +kernel
theorem dX7_tell_15 : decode cX7_tell 15 = .ok (.aaload, 1) := by decide +kernel
theorem dX7_tell_16 : decode cX7_tell 16 = .ok (.astore_n 2, 1) := by decide +kernel
theorem dX7_tell_17 : decode cX7_tell 17 = .ok (.aload_n 2, 1) := by decide +kernel
theorem dX7_tell_18 : decode cX7_tell 18 = .ok (.getfield 115, 3) := by decide +kernel
theorem dX7_tell_21 : decode cX7_tell 21 = .ok (.iconst 2, 1) := by decide +kernel
theorem dX7_tell_22 : decode cX7_tell 22 = .ok (.if_icmp .ne 9, 3) := by decide +kernel
theorem dX7_tell_25 : decode cX7_tell 25 = .ok (.aload_n 0, 1) := by decide +kernel
theorem dX7_tell_26 : decode cX7_tell 26 = .ok (.aload_n 2, 1) := by decide +kernel
theorem dX7_tell_27 : decode cX7_tell 27 = .ok (.invokevirtual 231, 3) := by decide +kernel
theorem dX7_tell_30 : decode cX7_tell 30 = .ok (.ireturn, 1) := by decide +kernel
theorem dX7_tell_31 : decode cX7_tell 31 = .ok (.aload_n 2, 1) := by decide +kernel
theorem dX7_tell_32 : decode cX7_tell 32 = .ok (.getfield 115, 3) := by decide +kernel
theorem dX7_tell_35 : decode cX7_tell 35 = .ok (.iconst 1, 1) := by decide +kernel
theorem dX7_tell_36 : decode cX7_tell 36 = .ok (.if_icmp .ne 11, 3) := by decide +kernel
theorem dX7_tell_39 : decode cX7_tell 39 = .ok (.aload_n 0, 1) := by decide +kernel
theorem dX7_tell_40 : decode cX7_tell 40 = .ok (.aload_n 2, 1) := by decide +kernel
theorem dX7_tell_41 : decode cX7_tell 41 = .ok (.invokevirtual 234, 3) := by decide +kernel
theorem dX7_tell_44 : decode cX7_tell 44 = .ok (.goto 8, 3) := by decide +kernel
theorem dX7_tell_47 : decode cX7_tell 47 = .ok (.aload_n 0, 1) := by decide +kernel
theorem dX7_tell_48 : decode cX7_tell 48 = .ok (.aload_n 2, 1) := by decide +kernel
theorem dX7_tell_49 : decode cX7_tell 49 = .ok (.invokevirtual 237, 3) := by decide +kernel
theorem dX7_tell_52 : decode cX7_tell 52 = .ok (.ireturn, 1) := by decide +kernel
theorem dX7_spelt_0 : decode cX7_spelt 0 = .ok (.aload_n 0, 1) := by decide +kernel
theorem dX7_spelt_1 : decode cX7_spelt 1 = .ok (.iload_n 1, 1) := by decide +kernel
theorem dX7_spelt_2 : decode cX7_spelt 2 = .ok (.invokevirtual 112, 3) := by decide +kernel
theorem dX7_spelt_5 : decode cX7_spelt 5 = .ok (.ifCond .ne 5, 3) := by decide +kernel
theorem dX7_spelt_8 : decode cX7_spelt 8 = .ok (.iconst (-1), 1) := by decide +kernel
theorem dX7_spelt_9 : decode cX7_spelt 9 = .ok (.ireturn, 1) := by decide +kernel
theorem dX7_spelt_10 : decode cX7_spelt 10 = .ok (.aload_n 0, 1) := by decide +kernel
theorem dX7_spelt_11 : decode cX7_spelt 11 = .ok (.getfield 28, 3) := by decide +kernel
theorem dX7_spelt_14 : decode cX7_spelt 14 = .ok (.iload_n 1, 1) := by decide +kernel
theorem dX7_spelt_15 : decode cX7_spelt 15 = .ok (.aaload, 1) := by decide +kernel
theorem dX7_spelt_16 : decode cX7_spelt 16 = .ok (.getfield 115, 3) := by decide +kernel
theorem dX7_spelt_19 : decode cX7_spelt 19 = .ok (.iconst 2, 1) := by decide +kernel
theorem dX7_spelt_20 : decode cX7_spelt 20 = .ok (.if_icmp .ne 11, 3) := by decide +kernel
theorem dX7_spelt_23 : decode cX7_spelt 23 = .ok (.aload_n 0, 1) := by decide +kernel
theorem dX7_spelt_24 : decode cX7_spelt 24 = .ok (.iconst 5, 1) := by decide +kernel
theorem dX7_spelt_25 : decode cX7_spelt 25 = .ok (.invokevirtual 240, 3) := by decide +kernel
theorem dX7_spelt_28 : decode cX7_spelt 28 = .ok (.bipush 30, 2) := by decide +kernel
theorem dX7_spelt_30 : decode cX7_spelt 30 = .ok (.ireturn, 1) := by decide +kernel
theorem dX7_spelt_31 : decode cX7_spelt 31 = .ok (.aload_n 0, 1) := by decide +kernel
theorem dX7_spelt_32 : decode cX7_spelt 32 = .ok (.iconst 4, 1) := by decide +kernel
theorem dX7_spelt_33 : decode cX7_spelt 33 = .ok (.invokevirtual 240, 3) := by decide +kernel
theorem dX7_spelt_36 : decode cX7_spelt 36 = .ok (.aload_n 0, 1) := by decide +kernel
theorem dX7_spelt_37 : decode cX7_spelt 37 = .ok (.getfield 28, 3) := by decide +kernel
theorem dX7_spelt_40 : decode cX7_spelt 40 = .ok (.iload_n 1, 1) := by decide +kernel
theorem dX7_spelt_41 : decode cX7_spelt 41 = .ok (.aaload, 1) := by decide +kernel
theorem dX7_spelt_42 : decode cX7_spelt 42 = .ok (.getfield 132, 3) := by decide +kernel
theorem dX7_spelt_45 : decode cX7_spelt 45 = .ok (.iconst 0, 1) := by decide +kernel
theorem dX7_spelt_46 : decode cX7_spelt 46 = .ok (.iaload, 1) := by decide +kernel
theorem dX7_spelt_47 : decode cX7_spelt 47 = .ok (.ireturn, 1) := by decide +kernel
theorem dX7_as_0 : decode cX7_as 0 = .ok (.aload_n 0, 1) := by decide +kernel
theorem dX7_as_1 : decode cX7_as 1 = .ok (.iconst 0, 1) := by decide +kernel
theorem dX7_as_2 : decode cX7_as 2 = .ok (.putfield 82, 3) := by decide +kernel
theorem dX7_as_5 : decode cX7_as 5 = .ok (.aload_n 0, 1) := by decide +kernel
theorem dX7_as_6 : decode cX7_as 6 = .ok (.iload_n 1, 1) := by decide +kernel
theorem dX7_as_7 : decode cX7_as 7 = .ok (.invokevirtual 112, 3) := by decide +kernel
theorem dX7_as_10 : decode cX7_as 10 = .ok (.ifCond .ne 5, 3) := by decide +kernel
theorem dX7_as_13 : decode cX7_as 13 = .ok (.iconst (-1), 1) := by decide +kernel
theorem dX7_as_14 : decode cX7_as 14 = .ok (.ireturn, 1) := by decide +kernel
theorem dX7_as_15 : decode cX7_as 15 = .ok (.iload_n 2, 1) := by decide +kernel
theorem dX7_as_16 : decode cX7_as 16 = .ok (.iconst 3, 1) := by decide +kernel
theorem dX7_as_17 : decode cX7_as 17 = .ok (.invokestatic 90, 3) := by decide +kernel
theorem dX7_as_20 : decode cX7_as 20 = .ok (.ifCond .ne 6, 3) := by decide +kernel
theorem dX7_as_23 : decode cX7_as 23 = .ok (.bipush (-2), 2) := by decide +kernel
theorem dX7_as_25 : decode cX7_as 25 = .ok (.ireturn, 1) := by decide +kernel
theorem dX7_as_26 : decode cX7_as 26 = .ok (.aload_n 0, 1) := by decide +kernel
theorem dX7_as_27 : decode cX7_as 27 = .ok (.getfield 28, 3) := by decide +kernel
theorem dX7_as_30 : decode cX7_as 30 = .ok (.iload_n 1, 1) := by decide +kernel
theorem dX7_as_31 : decode cX7_as 31 = .ok (.aaload, 1) := by decide +kernel
theorem dX7_as_32 : decode cX7_as 32 = .ok (.getfield 115, 3) := by decide +kernel
theorem dX7_as_35 : decode cX7_as 35 = .ok (.iload_n 2, 1) := by decide +kernel
theorem dX7_as_36 : decode cX7_as 36 = .ok (.if_icmp .lt 7, 3) := by decide +kernel
theorem dX7_as_39 : decode cX7_as 39 = .ok (.iconst 1, 1) := by decide +kernel
theorem dX7_as_40 : decode cX7_as 40 = .ok (.goto 8, 3) := by decide +kernel
theorem dX7_as_43 : decode cX7_as 43 = .ok (.aload_n 0, 1) := by decide +kernel
theorem dX7_as_44 : decode cX7_as 44 = .ok (.iconst 2, 1) := by decide +kernel
theorem dX7_as_45 : decode cX7_as 45 = .ok (.invokevirtual 98, 3) := by decide +kernel
theorem dX7_as_48 : decode cX7_as 48 = .ok (.ireturn, 1) := by decide +kernel
theorem dX7_trace_0 : decode cX7_trace 0 = .ok (.aload_n 0, 1) := by decide +kernel
theorem dX7_trace_1 : decode cX7_trace 1 = .ok (.getfield 243, 3) := by decide +kernel
theorem dX7_trace_4 : decode cX7_trace 4 = .ok (.ireturn, 1) := by decide +kernel
theorem dX7_fault_0 : decode cX7_fault 0 = .ok (.aload_n 0, 1) := by decide +kernel
theorem dX7_fault_1 : decode cX7_fault 1 = .ok (.getfield 82, 3) := by decide +kernel
theorem dX7_fault_4 : decode cX7_fault 4 = .ok (.ireturn, 1) := by decide +kernel
theorem dX7_many_0 : decode cX7_many 0 = .ok (.iload_n 1, 1) := by decide +kernel
theorem dX7_many_1 : decode cX7_many 1 = .ok (.tableswitch 59 0 3 #[31, 36, 41, 54], 31) := by decide +kernel
theorem dX7_many_32 : decode cX7_many 32 = .ok (.aload_n 0, 1) := by decide +kernel
theorem dX7_many_33 : decode cX7_many 33 = .ok (.getfield 109, 3) := by decide +kernel
theorem dX7_many_36 : decode cX7_many 36 = .ok (.ireturn, 1) := by decide +kernel
theorem dX7_many_37 : decode cX7_many 37 = .ok (.aload_n 0, 1) := by decide +kernel
theorem dX7_many_38 : decode cX7_many 38 = .ok (.getfield 125, 3) := by decide +kernel
theorem dX7_many_41 : decode cX7_many 41 = .ok (.ireturn, 1) := by decide +kernel
theorem dX7_many_42 : decode cX7_many 42 = .ok (.aload_n 0, 1) := by decide +kernel
theorem dX7_many_43 : decode cX7_many 43 = .ok (.aload_n 0, 1) := by decide +kernel
theorem dX7_many_44 : decode cX7_many 44 = .ok (.getfield 32, 3) := by decide +kernel
theorem dX7_many_47 : decode cX7_many 47 = .ok (.aload_n 0, 1) := by decide +kernel
theorem dX7_many_48 : decode cX7_many 48 = .ok (.getfield 125, 3) := by decide +kernel
theorem dX7_many_51 : decode cX7_many 51 = .ok (.invokevirtual 246, 3) := by decide +kernel
theorem dX7_many_54 : decode cX7_many 54 = .ok (.ireturn, 1) := by decide +kernel
theorem dX7_many_55 : decode cX7_many 55 = .ok (.aload_n 0, 1) := by decide +kernel
theorem dX7_many_56 : decode cX7_many 56 = .ok (.getfield 182, 3) := by decide +kernel
theorem dX7_many_59 : decode cX7_many 59 = .ok (.ireturn, 1) := by decide +kernel
theorem dX7_many_60 : decode cX7_many 60 = .ok (.bipush (-2), 2) := by decide +kernel
theorem dX7_many_62 : decode cX7_many 62 = .ok (.ireturn, 1) := by decide +kernel
theorem dX7_isBelow_0 : decode cX7_isBelow 0 = .ok (.iload_n 0, 1) := by decide +kernel
theorem dX7_isBelow_1 : decode cX7_isBelow 1 = .ok (.ifCond .lt 12, 3) := by decide +kernel
theorem dX7_isBelow_4 : decode cX7_isBelow 4 = .ok (.iload_n 0, 1) := by decide +kernel
theorem dX7_isBelow_5 : decode cX7_isBelow 5 = .ok (.iload_n 1, 1) := by decide +kernel
theorem dX7_isBelow_6 : decode cX7_isBelow 6 = .ok (.if_icmp .ge 7, 3) := by decide +kernel
theorem dX7_isBelow_9 : decode cX7_isBelow 9 = .ok (.iconst 1, 1) := by decide +kernel
theorem dX7_isBelow_10 : decode cX7_isBelow 10 = .ok (.goto 4, 3) := by decide +kernel
theorem dX7_isBelow_13 : decode cX7_isBelow 13 = .ok (.iconst 0, 1) := by decide +kernel
theorem dX7_isBelow_14 : decode cX7_isBelow 14 = .ok (.ireturn, 1) := by decide +kernel
theorem dX7_isSheet_0 : decode cX7_isSheet 0 = .ok (.iload_n 0, 1) := by decide +kernel
theorem dX7_isSheet_1 : decode cX7_isSheet 1 = .ok (.iconst 4, 1) := by decide +kernel
theorem dX7_isSheet_2 : decode cX7_isSheet 2 = .ok (.invokestatic 90, 3) := by decide +kernel
theorem dX7_isSheet_5 : decode cX7_isSheet 5 = .ok (.ireturn, 1) := by decide +kernel
theorem dX7_isCounted_0 : decode cX7_isCounted 0 = .ok (.iload_n 0, 1) := by decide +kernel
theorem dX7_isCounted_1 : decode cX7_isCounted 1 = .ok (.ifCond .lt 13, 3) := by decide +kernel
theorem dX7_isCounted_4 : decode cX7_isCounted 4 = .ok (.iload_n 0, 1) := by decide +kernel
theorem dX7_isCounted_5 : decode cX7_isCounted 5 = .ok (.bipush 30, 2) := by decide +kernel
theorem dX7_isCounted_7 : decode cX7_isCounted 7 = .ok (.if_icmp .gt 7, 3) := by decide +kernel
theorem dX7_isCounted_10 : decode cX7_isCounted 10 = .ok (.iconst 1, 1) := by decide +kernel
theorem dX7_isCounted_11 : decode cX7_isCounted 11 = .ok (.goto 4, 3) := by decide +kernel
theorem dX7_isCounted_14 : decode cX7_isCounted 14 = .ok (.iconst 0, 1) := by decide +kernel
theorem dX7_isCounted_15 : decode cX7_isCounted 15 = .ok (.ireturn, 1) := by decide +kernel
theorem dX7_isOfRow_0 : decode cX7_isOfRow 0 = .ok (.iload_n 0, 1) := by decide +kernel
theorem dX7_isOfRow_1 : decode cX7_isOfRow 1 = .ok (.iconst 4, 1) := by decide +kernel
theorem dX7_isOfRow_2 : decode cX7_isOfRow 2 = .ok (.invokestatic 90, 3) := by decide +kernel
theorem dX7_isOfRow_5 : decode cX7_isOfRow 5 = .ok (.ifCond .ne 15, 3) := by decide +kernel
theorem dX7_isOfRow_8 : decode cX7_isOfRow 8 = .ok (.iload_n 0, 1) := by decide +kernel
theorem dX7_isOfRow_9 : decode cX7_isOfRow 9 = .ok (.bipush 10, 2) := by decide +kernel
theorem dX7_isOfRow_11 : decode cX7_isOfRow 11 = .ok (.if_icmp .lt 13, 3) := by decide +kernel
theorem dX7_isOfRow_14 : decode cX7_isOfRow 14 = .ok (.iload_n 0, 1) := by decide +kernel
theorem dX7_isOfRow_15 : decode cX7_isOfRow 15 = .ok (.bipush 14, 2) := by decide +kernel
theorem dX7_isOfRow_17 : decode cX7_isOfRow 17 = .ok (.if_icmp .ge 7, 3) := by decide +kernel
theorem dX7_isOfRow_20 : decode cX7_isOfRow 20 = .ok (.iconst 1, 1) := by decide +kernel
theorem dX7_isOfRow_21 : decode cX7_isOfRow 21 = .ok (.goto 4, 3) := by decide +kernel
theorem dX7_isOfRow_24 : decode cX7_isOfRow 24 = .ok (.iconst 0, 1) := by decide +kernel
theorem dX7_isOfRow_25 : decode cX7_isOfRow 25 = .ok (.ireturn, 1) := by decide +kernel
theorem dX7_isWord_0 : decode cX7_isWord 0 = .ok (.iload_n 1, 1) := by decide +kernel
theorem dX7_isWord_1 : decode cX7_isWord 1 = .ok (.aload_n 0, 1) := by decide +kernel
theorem dX7_isWord_2 : decode cX7_isWord 2 = .ok (.getfield 109, 3) := by decide +kernel
theorem dX7_isWord_5 : decode cX7_isWord 5 = .ok (.invokestatic 90, 3) := by decide +kernel
theorem dX7_isWord_8 : decode cX7_isWord 8 = .ok (.ireturn, 1) := by decide +kernel
theorem dX7_failWith_0 : decode cX7_failWith 0 = .ok (.aload_n 0, 1) := by decide +kernel
theorem dX7_failWith_1 : decode cX7_failWith 1 = .ok (.iload_n 1, 1) := by decide +kernel
theorem dX7_failWith_2 : decode cX7_failWith 2 = .ok (.putfield 82, 3) := by decide +kernel
theorem dX7_failWith_5 : decode cX7_failWith 5 = .ok (.bipush (-10), 2) := by decide +kernel
theorem dX7_failWith_7 : decode cX7_failWith 7 = .ok (.iload_n 1, 1) := by decide +kernel
theorem dX7_failWith_8 : decode cX7_failWith 8 = .ok (.isub, 1) := by decide +kernel
theorem dX7_failWith_9 : decode cX7_failWith 9 = .ok (.ireturn, 1) := by decide +kernel
theorem dX7_newWords_0 : decode cX7_newWords 0 = .ok (.iconst 4, 1) := by decide +kernel
theorem dX7_newWords_1 : decode cX7_newWords 1 = .ok (.anewarray 45, 3) := by decide +kernel
theorem dX7_newWords_4 : decode cX7_newWords 4 = .ok (.astore_n 0, 1) := by decide +kernel
theorem dX7_newWords_5 : decode cX7_newWords 5 = .ok (.iconst 0, 1) := by decide +kernel
theorem dX7_newWords_6 : decode cX7_newWords 6 = .ok (.istore_n 1, 1) := by decide +kernel
theorem dX7_newWords_7 : decode cX7_newWords 7 = .ok (.iload_n 1, 1) := by decide +kernel
theorem dX7_newWords_8 : decode cX7_newWords 8 = .ok (.iconst 4, 1) := by decide +kernel
theorem dX7_newWords_9 : decode cX7_newWords 9 = .ok (.if_icmp .ge 19, 3) := by decide +kernel
theorem dX7_newWords_12 : decode cX7_newWords 12 = .ok (.aload_n 0, 1) := by decide +kernel
theorem dX7_newWords_13 : decode cX7_newWords 13 = .ok (.iload_n 1, 1) := by decide +kernel
theorem dX7_newWords_14 : decode cX7_newWords 14 = .ok (.new 45, 3) := by decide +kernel
theorem dX7_newWords_17 : decode cX7_newWords 17 = .ok (.dup, 1) := by decide +kernel
theorem dX7_newWords_18 : decode cX7_newWords 18 = .ok (.invokespecial 47, 3) := by decide +kernel
theorem dX7_newWords_21 : decode cX7_newWords 21 = .ok (.aastore, 1) := by decide +kernel
theorem dX7_newWords_22 : decode cX7_newWords 22 = .ok (.iinc 1 1, 3) := by decide +kernel
theorem dX7_newWords_25 : decode cX7_newWords 25 = .ok (.goto (-18), 3) := by decide +kernel
theorem dX7_newWords_28 : decode cX7_newWords 28 = .ok (.aload_n 0, 1) := by decide +kernel
theorem dX7_newWords_29 : decode cX7_newWords 29 = .ok (.areturn, 1) := by decide +kernel
theorem dX7_takeText_0 : decode cX7_takeText 0 = .ok (.aload_n 0, 1) := by decide +kernel
theorem dX7_takeText_1 : decode cX7_takeText 1 = .ok (.getfield 28, 3) := by decide +kernel
theorem dX7_takeText_4 : decode cX7_takeText 4 = .ok (.astore_n 1, 1) := by decide +kernel
theorem dX7_takeText_5 : decode cX7_takeText 5 = .ok (.aload_n 0, 1) := by decide +kernel
theorem dX7_takeText_6 : decode cX7_takeText 6 = .ok (.aload_n 0, 1) := by decide +kernel
theorem dX7_takeText_7 : decode cX7_takeText 7 = .ok (.getfield 20, 3) := by decide +kernel
theorem dX7_takeText_10 : decode cX7_takeText 10 = .ok (.getfield 249, 3) := by decide +kernel
theorem dX7_takeText_13 : decode cX7_takeText 13 = .ok (.putfield 28, 3) := by decide +kernel
theorem dX7_takeText_16 : decode cX7_takeText 16 = .ok (.aload_n 0, 1) := by decide +kernel
theorem dX7_takeText_17 : decode cX7_takeText 17 = .ok (.getfield 20, 3) := by decide +kernel
theorem dX7_takeText_20 : decode cX7_takeText 20 = .ok (.aload_n 1, 1) := by decide +kernel
theorem dX7_takeText_21 : decode cX7_takeText 21 = .ok (.putfield 249, 3) := by decide +kernel
theorem dX7_takeText_24 : decode cX7_takeText 24 = .ok (.aload_n 0, 1) := by decide +kernel
theorem dX7_takeText_25 : decode cX7_takeText 25 = .ok (.aload_n 0, 1) := by decide +kernel
theorem dX7_takeText_26 : decode cX7_takeText 26 = .ok (.getfield 20, 3) := by decide +kernel
theorem dX7_takeText_29 : decode cX7_takeText 29 = .ok (.getfield 252, 3) := by decide +kernel
theorem dX7_takeText_32 : decode cX7_takeText 32 = .ok (.putfield 109, 3) := by decide +kernel
theorem dX7_takeText_35 : decode cX7_takeText 35 = .ok (.aload_n 0, 1) := by decide +kernel
theorem dX7_takeText_36 : decode cX7_takeText 36 = .ok (.iconst 0, 1) := by decide +kernel
theorem dX7_takeText_37 : decode cX7_takeText 37 = .ok (.putfield 125, 3) := by decide +kernel
theorem dX7_takeText_40 : decode cX7_takeText 40 = .ok (.aload_n 0, 1) := by decide +kernel
theorem dX7_takeText_41 : decode cX7_takeText 41 = .ok (.iconst 0, 1) := by decide +kernel
theorem dX7_takeText_42 : decode cX7_takeText 42 = .ok (.putfield 182, 3) := by decide +kernel
theorem dX7_takeText_45 : decode cX7_takeText 45 = .ok (.aload_n 0, 1) := by decide +kernel
theorem dX7_takeText_46 : decode cX7_takeText 46 = .ok (.iconst 1, 1) := by decide +kernel
theorem dX7_takeText_47 : decode cX7_takeText 47 = .ok (.putfield 76, 3) := by decide +kernel
theorem dX7_takeText_50 : decode cX7_takeText 50 = .ok (.return_, 1) := by decide +kernel
theorem dX7_renewNet_0 : decode cX7_renewNet 0 = .ok (.aload_n 0, 1) := by decide +kernel
theorem dX7_renewNet_1 : decode cX7_renewNet 1 = .ok (.getfield 76, 3) := by decide +kernel
theorem dX7_renewNet_4 : decode cX7_renewNet 4 = .ok (.ifCond .eq 45, 3) := by decide +kernel
theorem dX7_renewNet_7 : decode cX7_renewNet 7 = .ok (.aload_n 0, 1) := by decide +kernel
theorem dX7_renewNet_8 : decode cX7_renewNet 8 = .ok (.getfield 58, 3) := by decide +kernel
theorem dX7_renewNet_11 : decode cX7_renewNet 11 = .ok (.aload_n 0, 1) := by decide +kernel
theorem dX7_renewNet_12 : decode cX7_renewNet 12 = .ok (.getfield 28, 3) := by decide +kernel
theorem dX7_renewNet_15 : decode cX7_renewNet 15 = .ok (.aload_n 0, 1) := by decide +kernel
theorem dX7_renewNet_16 : decode cX7_renewNet 16 = .ok (.getfield 109, 3) := by decide +kernel
theorem dX7_renewNet_19 : decode cX7_renewNet 19 = .ok (.invokevirtual 255, 3) := by decide +kernel
theorem dX7_renewNet_22 : decode cX7_renewNet 22 = .ok (.aload_n 0, 1) := by decide +kernel
theorem dX7_renewNet_23 : decode cX7_renewNet 23 = .ok (.getfield 65, 3) := by decide +kernel
theorem dX7_renewNet_26 : decode cX7_renewNet 26 = .ok (.aload_n 0, 1) := by decide +kernel
theorem dX7_renewNet_27 : decode cX7_renewNet 27 = .ok (.getfield 58, 3) := by decide +kernel
theorem dX7_renewNet_30 : decode cX7_renewNet 30 = .ok (.invokevirtual 259, 3) := by decide +kernel
theorem dX7_renewNet_33 : decode cX7_renewNet 33 = .ok (.aload_n 0, 1) := by decide +kernel
theorem dX7_renewNet_34 : decode cX7_renewNet 34 = .ok (.getfield 72, 3) := by decide +kernel
theorem dX7_renewNet_37 : decode cX7_renewNet 37 = .ok (.aload_n 0, 1) := by decide +kernel
theorem dX7_renewNet_38 : decode cX7_renewNet 38 = .ok (.getfield 65, 3) := by decide +kernel
theorem dX7_renewNet_41 : decode cX7_renewNet 41 = .ok (.invokevirtual 263, 3) := by decide +kernel
theorem dX7_renewNet_44 : decode cX7_renewNet 44 = .ok (.aload_n 0, 1) := by decide +kernel
theorem dX7_renewNet_45 : decode cX7_renewNet 45 = .ok (.iconst 0, 1) := by decide +kernel
theorem dX7_renewNet_46 : decode cX7_renewNet 46 = .ok (.putfield 76, 3) := by decide +kernel
theorem dX7_renewNet_49 : decode cX7_renewNet 49 = .ok (.return_, 1) := by decide +kernel
theorem dX7_heardBy_0 : decode cX7_heardBy 0 = .ok (.iconst 0, 1) := by decide +kernel
theorem dX7_heardBy_1 : decode cX7_heardBy 1 = .ok (.istore 4, 2) := by decide +kernel
theorem dX7_heardBy_3 : decode cX7_heardBy 3 = .ok (.iconst 0, 1) := by decide +kernel
theorem dX7_heardBy_4 : decode cX7_heardBy 4 = .ok (.istore 5, 2) := by decide +kernel
theorem dX7_heardBy_6 : decode cX7_heardBy 6 = .ok (.iload 5, 2) := by decide +kernel
theorem dX7_heardBy_8 : decode cX7_heardBy 8 = .ok (.iload_n 1, 1) := by decide +kernel
theorem dX7_heardBy_9 : decode cX7_heardBy 9 = .ok (.if_icmp .ge 30, 3) := by decide +kernel
theorem dX7_heardBy_12 : decode cX7_heardBy 12 = .ok (.aload_n 0, 1) := by decide +kernel
theorem dX7_heardBy_13 : decode cX7_heardBy 13 = .ok (.iload 5, 2) := by decide +kernel
theorem dX7_heardBy_15 : decode cX7_heardBy 15 = .ok (.aaload, 1) := by decide +kernel
theorem dX7_heardBy_16 : decode cX7_heardBy 16 = .ok (.aload_n 2, 1) := by decide +kernel
theorem dX7_heardBy_17 : decode cX7_heardBy 17 = .ok (.iload_n 3, 1) := by decide +kernel
theorem dX7_heardBy_18 : decode cX7_heardBy 18 = .ok (.invokevirtual 266, 3) := by decide +kernel
theorem dX7_heardBy_21 : decode cX7_heardBy 21 = .ok (.ifCond .eq 12, 3) := by decide +kernel
theorem dX7_heardBy_24 : decode cX7_heardBy 24 = .ok (.iload 4, 2) := by decide +kernel
theorem dX7_heardBy_26 : decode cX7_heardBy 26 = .ok (.iconst 1, 1) := by decide +kernel
theorem dX7_heardBy_27 : decode cX7_heardBy 27 = .ok (.iload 5, 2) := by decide +kernel
theorem dX7_heardBy_29 : decode cX7_heardBy 29 = .ok (.ishl, 1) := by decide +kernel
theorem dX7_heardBy_30 : decode cX7_heardBy 30 = .ok (.ior, 1) := by decide +kernel
theorem dX7_heardBy_31 : decode cX7_heardBy 31 = .ok (.istore 4, 2) := by decide +kernel
theorem dX7_heardBy_33 : decode cX7_heardBy 33 = .ok (.iinc 5 1, 3) := by decide +kernel
theorem dX7_heardBy_36 : decode cX7_heardBy 36 = .ok (.goto (-30), 3) := by decide +kernel
theorem dX7_heardBy_39 : decode cX7_heardBy 39 = .ok (.iload 4, 2) := by decide +kernel
theorem dX7_heardBy_41 : decode cX7_heardBy 41 = .ok (.ireturn, 1) := by decide +kernel
theorem dX7_standIn_0 : decode cX7_standIn 0 = .ok (.iconst 0, 1) := by decide +kernel
theorem dX7_standIn_1 : decode cX7_standIn 1 = .ok (.istore_n 3, 1) := by decide +kernel
theorem dX7_standIn_2 : decode cX7_standIn 2 = .ok (.iconst 1, 1) := by decide +kernel
theorem dX7_standIn_3 : decode cX7_standIn 3 = .ok (.istore 4, 2) := by decide +kernel
theorem dX7_standIn_5 : decode cX7_standIn 5 = .ok (.iload 4, 2) := by decide +kernel
theorem dX7_standIn_7 : decode cX7_standIn 7 = .ok (.iload_n 2, 1) := by decide +kernel
theorem dX7_standIn_8 : decode cX7_standIn 8 = .ok (.if_icmp .gt 26, 3) := by decide +kernel
theorem dX7_standIn_11 : decode cX7_standIn 11 = .ok (.iload_n 3, 1) := by decide +kernel
theorem dX7_standIn_12 : decode cX7_standIn 12 = .ok (.aload_n 0, 1) := by decide +kernel
theorem dX7_standIn_13 : decode cX7_standIn 13 = .ok (.getfield 28, 3) := by decide +kernel
theorem dX7_standIn_16 : decode cX7_standIn 16 = .ok (.aload_n 0, 1) := by decide +kernel
theorem dX7_standIn_17 : decode cX7_standIn 17 = .ok (.getfield 109, 3) := by decide +kernel
theorem dX7_standIn_20 : decode cX7_standIn 20 = .ok (.aload_n 1, 1) := by decide +kernel
theorem dX7_standIn_21 : decode cX7_standIn 21 = .ok (.iload 4, 2) := by decide +kernel
theorem dX7_standIn_23 : decode cX7_standIn 23 = .ok (.invokestatic 135, 3) := by decide +kernel
theorem dX7_standIn_26 : decode cX7_standIn 26 = .ok (.ior, 1) := by decide +kernel
theorem dX7_standIn_27 : decode cX7_standIn 27 = .ok (.istore_n 3, 1) := by decide +kernel
theorem dX7_standIn_28 : decode cX7_standIn 28 = .ok (.iinc 4 1, 3) := by decide +kernel
theorem dX7_standIn_31 : decode cX7_standIn 31 = .ok (.goto (-26), 3) := by decide +kernel
theorem dX7_standIn_34 : decode cX7_standIn 34 = .ok (.iload_n 3, 1) := by decide +kernel
theorem dX7_standIn_35 : decode cX7_standIn 35 = .ok (.ireturn, 1) := by decide +kernel
theorem dX7_heardInTold_0 : decode cX7_heardInTold 0 = .ok (.iconst 1, 1) := by decide +kernel
theorem dX7_heardInTold_1 : decode cX7_heardInTold 1 = .ok (.aload_n 0, 1) := by decide +kernel
theorem dX7_heardInTold_2 : decode cX7_heardInTold 2 = .ok (.getfield 109, 3) := by decide +kernel
theorem dX7_heardInTold_5 : decode cX7_heardInTold 5 = .ok (.ishl, 1) := by decide +kernel
theorem dX7_heardInTold_6 : decode cX7_heardInTold 6 = .ok (.iconst 1, 1) := by decide +kernel
theorem dX7_heardInTold_7 : decode cX7_heardInTold 7 = .ok (.isub, 1) := by decide +kernel
theorem dX7_heardInTold_8 : decode cX7_heardInTold 8 = .ok (.istore_n 3, 1) := by decide +kernel
theorem dX7_heardInTold_9 : decode cX7_heardInTold 9 = .ok (.iconst 0, 1) := by decide +kernel
theorem dX7_heardInTold_10 : decode cX7_heardInTold 10 = .ok (.istore 4, 2) := by decide +kernel
theorem dX7_heardInTold_12 : decode cX7_heardInTold 12 = .ok (.iconst 0, 1) := by decide +kernel
theorem dX7_heardInTold_13 : decode cX7_heardInTold 13 = .ok (.istore 5, 2) := by decide +kernel
theorem dX7_heardInTold_15 : decode cX7_heardInTold 15 = .ok (.bipush (-9), 2) := by decide +kernel
theorem dX7_heardInTold_17 : decode cX7_heardInTold 17 = .ok (.istore 6, 2) := by decide +kernel
theorem dX7_heardInTold_19 : decode cX7_heardInTold 19 = .ok (.bipush (-9), 2) := by decide +kernel
theorem dX7_heardInTold_21 : decode cX7_heardInTold 21 = .ok (.istore 7, 2) := by decide +kernel
theorem dX7_heardInTold_23 : decode cX7_heardInTold 23 = .ok (.iconst 1, 1) := by decide +kernel
theorem dX7_heardInTold_24 : decode cX7_heardInTold 24 = .ok (.istore 8, 2) := by decide +kernel
theorem dX7_heardInTold_26 : decode cX7_heardInTold 26 = .ok (.iload 8, 2) := by decide +kernel
theorem dX7_heardInTold_28 : decode cX7_heardInTold 28 = .ok (.iload_n 1, 1) := by decide +kernel
theorem dX7_heardInTold_29 : decode cX7_heardInTold 29 = .ok (.if_icmp .gt 78, 3) := by decide +kernel
theorem dX7_heardInTold_32 : decode cX7_heardInTold 32 = .ok (.aload_n 0, 1) := by decide +kernel
theorem dX7_heardInTold_33 : decode cX7_heardInTold 33 = .ok (.getfield 28, 3) := by decide +kernel
theorem dX7_heardInTold_36 : decode cX7_heardInTold 36 = .ok (.aload_n 0, 1) := by decide +kernel
theorem dX7_heardInTold_37 : decode cX7_heardInTold 37 = .ok (.getfield 109, 3) := by decide +kernel
theorem dX7_heardInTold_40 : decode cX7_heardInTold 40 = .ok (.aload_n 0, 1) := by decide +kernel
theorem dX7_heardInTold_41 : decode cX7_heardInTold 41 = .ok (.getfield 36, 3) := by decide +kernel
theorem dX7_heardInTold_44 : decode cX7_heardInTold 44 = .ok (.iload 8, 2) := by decide +kernel
theorem dX7_heardInTold_46 : decode cX7_heardInTold 46 = .ok (.invokestatic 135, 3) := by decide +kernel
theorem dX7_heardInTold_49 : decode cX7_heardInTold 49 = .ok (.istore 9, 2) := by decide +kernel
theorem dX7_heardInTold_51 : decode cX7_heardInTold 51 = .ok (.iload 4, 2) := by decide +kernel
theorem dX7_heardInTold_53 : decode cX7_heardInTold 53 = .ok (.iload 9, 2) := by decide +kernel
theorem dX7_heardInTold_55 : decode cX7_heardInTold 55 = .ok (.ior, 1) := by decide +kernel
theorem dX7_heardInTold_56 : decode cX7_heardInTold 56 = .ok (.istore 4, 2) := by decide +kernel
theorem dX7_heardInTold_58 : decode cX7_heardInTold 58 = .ok (.iload 5, 2) := by decide +kernel
theorem dX7_heardInTold_60 : decode cX7_heardInTold 60 = .ok (.iload 9, 2) := by decide +kernel
theorem dX7_heardInTold_62 : decode cX7_heardInTold 62 = .ok (.invokestatic 270, 3) := by decide +kernel
theorem dX7_heardInTold_65 : decode cX7_heardInTold 65 = .ok (.iadd, 1) := by decide +kernel
theorem dX7_heardInTold_66 : decode cX7_heardInTold 66 = .ok (.istore 5, 2) := by decide +kernel
theorem dX7_heardInTold_68 : decode cX7_heardInTold 68 = .ok (.iload 6, 2) := by decide +kernel
theorem dX7_heardInTold_70 : decode cX7_heardInTold 70 = .ok (.bipush (-9), 2) := by decide +kernel
theorem dX7_heardInTold_72 : decode cX7_heardInTold 72 = .ok (.if_icmp .ne 12, 3) := by decide +kernel
theorem dX7_heardInTold_75 : decode cX7_heardInTold 75 = .ok (.iload 4, 2) := by decide +kernel
theorem dX7_heardInTold_77 : decode cX7_heardInTold 77 = .ok (.ifCond .eq 7, 3) := by decide +kernel
theorem dX7_heardInTold_80 : decode cX7_heardInTold 80 = .ok (.iload 8, 2) := by decide +kernel
theorem dX7_heardInTold_82 : decode cX7_heardInTold 82 = .ok (.istore 6, 2) := by decide +kernel
theorem dX7_heardInTold_84 : decode cX7_heardInTold 84 = .ok (.iload 7, 2) := by decide +kernel
theorem dX7_heardInTold_86 : decode cX7_heardInTold 86 = .ok (.bipush (-9), 2) := by decide +kernel
theorem dX7_heardInTold_88 : decode cX7_heardInTold 88 = .ok (.if_icmp .ne 13, 3) := by decide +kernel
theorem dX7_heardInTold_91 : decode cX7_heardInTold 91 = .ok (.iload 4, 2) := by decide +kernel
theorem dX7_heardInTold_93 : decode cX7_heardInTold 93 = .ok (.iload_n 3, 1) := by decide +kernel
theorem dX7_heardInTold_94 : decode cX7_heardInTold 94 = .ok (.if_icmp .ne 7, 3) := by decide +kernel
theorem dX7_heardInTold_97 : decode cX7_heardInTold 97 = .ok (.iload 8, 2) := by decide +kernel
theorem dX7_heardInTold_99 : decode cX7_heardInTold 99 = .ok (.istore 7, 2) := by decide +kernel
theorem dX7_heardInTold_101 : decode cX7_heardInTold 101 = .ok (.iinc 8 1, 3) := by decide +kernel
theorem dX7_heardInTold_104 : decode cX7_heardInTold 104 = .ok (.goto (-78), 3) := by decide +kernel
theorem dX7_heardInTold_107 : decode cX7_heardInTold 107 = .ok (.iload_n 2, 1) := by decide +kernel
theorem dX7_heardInTold_108 : decode cX7_heardInTold 108 = .ok (.ifCond .ne 6, 3) := by decide +kernel
theorem dX7_heardInTold_111 : decode cX7_heardInTold 111 = .ok (.iload 4, 2) := by decide +kernel
theorem dX7_heardInTold_113 : decode cX7_heardInTold 113 = .ok (.ireturn, 1) := by decide +kernel
theorem dX7_heardInTold_114 : decode cX7_heardInTold 114 = .ok (.iload_n 2, 1) := by decide +kernel
theorem dX7_heardInTold_115 : decode cX7_heardInTold 115 = .ok (.iconst 1, 1) := by decide +kernel
theorem dX7_heardInTold_116 : decode cX7_heardInTold 116 = .ok (.if_icmp .ne 6, 3) := by decide +kernel
theorem dX7_heardInTold_119 : decode cX7_heardInTold 119 = .ok (.iload 6, 2) := by decide +kernel
theorem dX7_heardInTold_121 : decode cX7_heardInTold 121 = .ok (.ireturn, 1) := by decide +kernel
theorem dX7_heardInTold_122 : decode cX7_heardInTold 122 = .ok (.iload_n 2, 1) := by decide +kernel
theorem dX7_heardInTold_123 : decode cX7_heardInTold 123 = .ok (.iconst 2, 1) := by decide +kernel
theorem dX7_heardInTold_124 : decode cX7_heardInTold 124 = .ok (.if_icmp .ne 8, 3) := by decide +kernel
theorem dX7_heardInTold_127 : decode cX7_heardInTold 127 = .ok (.iload 7, 2) := by decide +kernel
theorem dX7_heardInTold_129 : decode cX7_heardInTold 129 = .ok (.goto 5, 3) := by decide +kernel
theorem dX7_heardInTold_132 : decode cX7_heardInTold 132 = .ok (.iload 5, 2) := by decide +kernel
theorem dX7_heardInTold_134 : decode cX7_heardInTold 134 = .ok (.ireturn, 1) := by decide +kernel
theorem dX7_standsInEachForm_0 : decode cX7_standsInEachForm 0 = .ok (.iconst 0, 1) := by decide +kernel
theorem dX7_standsInEachForm_1 : decode cX7_standsInEachForm 1 = .ok (.istore_n 3, 1) := by decide +kernel
theorem dX7_standsInEachForm_2 : decode cX7_standsInEachForm 2 = .ok (.iload_n 3, 1) := by decide +kernel
theorem dX7_standsInEachForm_3 : decode cX7_standsInEachForm 3 = .ok (.iconst 2, 1) := by decide +kernel
theorem dX7_standsInEachForm_4 : decode cX7_standsInEachForm 4 = .ok (.if_icmp .ge 58, 3) := by decide +kernel
theorem dX7_standsInEachForm_7 : decode cX7_standsInEachForm 7 = .ok (.iconst 0, 1) := by decide +kernel
theorem dX7_standsInEachForm_8 : decode cX7_standsInEachForm 8 = .ok (.istore 4, 2) := by decide +kernel
theorem dX7_standsInEachForm_10 : decode cX7_standsInEachForm 10 = .ok (.iload 4, 2) := by decide +kernel
theorem dX7_standsInEachForm_12 : decode cX7_standsInEachForm 12 = .ok (.aload_n 2, 1) := by decide +kernel
theorem dX7_standsInEachForm_13 : decode cX7_standsInEachForm 13 = .ok (.getfield 118, 3) := by decide +kernel
theorem dX7_standsInEachForm_16 : decode cX7_standsInEachForm 16 = .ok (.if_icmp .ge 23, 3) := by decide +kernel
theorem dX7_standsInEachForm_19 : decode cX7_standsInEachForm 19 = .ok (.aload_n 0, 1) := by decide +kernel
theorem dX7_standsInEachForm_20 : decode cX7_standsInEachForm 20 = .ok (.getfield 52, 3) := by decide +kernel
theorem dX7_standsInEachForm_23 : decode cX7_standsInEachForm 23 = .ok (.iload 4, 2) := by decide +kernel
theorem dX7_standsInEachForm_25 : decode cX7_standsInEachForm 25 = .ok (.aload_n 2, 1) := by decide +kernel
theorem dX7_standsInEachForm_26 : decode cX7_standsInEachForm 26 = .ok (.iload_n 3, 1) := by decide +kernel
theorem dX7_standsInEachForm_27 : decode cX7_standsInEachForm 27 = .ok (.iload 4, 2) := by decide +kernel
theorem dX7_standsInEachForm_29 : decode cX7_standsInEachForm 29 = .ok (.invokevirtual 275, 3) := by decide +kernel
theorem dX7_standsInEachForm_32 : decode cX7_standsInEachForm 32 = .ok (.iastore, 1) := by decide +kernel
theorem dX7_standsInEachForm_33 : decode cX7_standsInEachForm 33 = .ok (.iinc 4 1, 3) := by decide +kernel
theorem dX7_standsInEachForm_36 : decode cX7_standsInEachForm 36 = .ok (.goto (-26), 3) := by decide +kernel
theorem dX7_standsInEachForm_39 : decode cX7_standsInEachForm 39 = .ok (.aload_n 1, 1) := by decide +kernel
theorem dX7_standsInEachForm_40 : decode cX7_standsInEachForm 40 = .ok (.aload_n 0, 1) := by decide +kernel
theorem dX7_standsInEachForm_41 : decode cX7_standsInEachForm 41 = .ok (.getfield 52, 3) := by decide +kernel
theorem dX7_standsInEachForm_44 : decode cX7_standsInEachForm 44 = .ok (.aload_n 2, 1) := by decide +kernel
theorem dX7_standsInEachForm_45 : decode cX7_standsInEachForm 45 = .ok (.getfield 118, 3) := by decide +kernel
theorem dX7_standsInEachForm_48 : decode cX7_standsInEachForm 48 = .ok (.invokevirtual 278, 3) := by decide +kernel
theorem dX7_standsInEachForm_51 : decode cX7_standsInEachForm 51 = .ok (.ifCond .ne 5, 3) := by decide +kernel
theorem dX7_standsInEachForm_54 : decode cX7_standsInEachForm 54 = .ok (.iconst 0, 1) := by decide +kernel
theorem dX7_standsInEachForm_55 : decode cX7_standsInEachForm 55 = .ok (.ireturn, 1) := by decide +kernel
theorem dX7_standsInEachForm_56 : decode cX7_standsInEachForm 56 = .ok (.iinc 3 1, 3) := by decide +kernel
theorem dX7_standsInEachForm_59 : decode cX7_standsInEachForm 59 = .ok (.goto (-57), 3) := by decide +kernel
theorem dX7_standsInEachForm_62 : decode cX7_standsInEachForm 62 = .ok (.iconst 1, 1) := by decide +kernel
theorem dX7_standsInEachForm_63 : decode cX7_standsInEachForm 63 = .ok (.ireturn, 1) := by decide +kernel
theorem dX7_readingsAreSo_0 : decode cX7_readingsAreSo 0 = .ok (.iconst 0, 1) := by decide +kernel
theorem dX7_readingsAreSo_1 : decode cX7_readingsAreSo 1 = .ok (.istore_n 2, 1) := by decide +kernel
theorem dX7_readingsAreSo_2 : decode cX7_readingsAreSo 2 = .ok (.iload_n 2, 1) := by decide +kernel
theorem dX7_readingsAreSo_3 : decode cX7_readingsAreSo 3 = .ok (.aload_n 0, 1) := by decide +kernel
theorem dX7_readingsAreSo_4 : decode cX7_readingsAreSo 4 = .ok (.getfield 182, 3) := by decide +kernel
theorem dX7_readingsAreSo_7 : decode cX7_readingsAreSo 7 = .ok (.if_icmp .ge 64, 3) := by decide +kernel
theorem dX7_readingsAreSo_10 : decode cX7_readingsAreSo 10 = .ok (.aload_n 0, 1) := by decide +kernel
theorem dX7_readingsAreSo_11 : decode cX7_readingsAreSo 11 = .ok (.getfield 41, 3) := by decide +kernel
theorem dX7_readingsAreSo_14 : decode cX7_readingsAreSo 14 = .ok (.iload_n 2, 1) := by decide +kernel
theorem dX7_readingsAreSo_15 : decode cX7_readingsAreSo 15 = .ok (.aaload, 1) := by decide +kernel
theorem dX7_readingsAreSo_16 : decode cX7_readingsAreSo 16 = .ok (.astore_n 3, 1) := by decide +kernel
theorem dX7_readingsAreSo_17 : decode cX7_readingsAreSo 17 = .ok (.aload_n 3, 1) := by decide +kernel
theorem dX7_readingsAreSo_18 : decode cX7_readingsAreSo 18 = .ok (.getfield 281, 3) := by decide +kernel
theorem dX7_readingsAreSo_21 : decode cX7_readingsAreSo 21 = .ok (.iload_n 1, 1) := by decide +kernel
theorem dX7_readingsAreSo_22 : decode cX7_readingsAreSo 22 = .ok (.if_icmp .ne 10, 3) := by decide +kernel
theorem dX7_readingsAreSo_25 : decode cX7_readingsAreSo 25 = .ok (.aload_n 0, 1) := by decide +kernel
theorem dX7_readingsAreSo_26 : decode cX7_readingsAreSo 26 = .ok (.getfield 48, 3) := by decide +kernel
theorem dX7_readingsAreSo_29 : decode cX7_readingsAreSo 29 = .ok (.goto 12, 3) := by decide +kernel
theorem dX7_readingsAreSo_32 : decode cX7_readingsAreSo 32 = .ok (.aload_n 0, 1) := by decide +kernel
theorem dX7_readingsAreSo_33 : decode cX7_readingsAreSo 33 = .ok (.getfield 28, 3) := by decide +kernel
theorem dX7_readingsAreSo_36 : decode cX7_readingsAreSo 36 = .ok (.aload_n 3, 1) := by decide +kernel
theorem dX7_readingsAreSo_37 : decode cX7_readingsAreSo 37 = .ok (.getfield 281, 3) := by decide +kernel
theorem dX7_readingsAreSo_40 : decode cX7_readingsAreSo 40 = .ok (.aaload, 1) := by decide +kernel
theorem dX7_readingsAreSo_41 : decode cX7_readingsAreSo 41 = .ok (.astore 4, 2) := by decide +kernel
theorem dX7_readingsAreSo_43 : decode cX7_readingsAreSo 43 = .ok (.aload 4, 2) := by decide +kernel
theorem dX7_readingsAreSo_45 : decode cX7_readingsAreSo 45 = .ok (.aload_n 3, 1) := by decide +kernel
theorem dX7_readingsAreSo_46 : decode cX7_readingsAreSo 46 = .ok (.getfield 284, 3) := by decide +kernel
theorem dX7_readingsAreSo_49 : decode cX7_readingsAreSo 49 = .ok (.aload_n 3, 1) := by decide +kernel
theorem dX7_readingsAreSo_50 : decode cX7_readingsAreSo 50 = .ok (.getfield 285, 3) := by decide +kernel
theorem dX7_readingsAreSo_53 : decode cX7_readingsAreSo 53 = .ok (.invokevirtual 278, 3) := by decide +kernel
theorem dX7_readingsAreSo_56 : decode cX7_readingsAreSo 56 = .ok (.aload_n 3, 1) := by decide +kernel
theorem dX7_readingsAreSo_57 : decode cX7_readingsAreSo 57 = .ok (.getfield 286, 3) := by decide +kernel
theorem dX7_readingsAreSo_60 : decode cX7_readingsAreSo 60 = .ok (.if_icmp .eq 5, 3) := by decide +kernel
theorem dX7_readingsAreSo_63 : decode cX7_readingsAreSo 63 = .ok (.iconst 0, 1) := by decide +kernel
theorem dX7_readingsAreSo_64 : decode cX7_readingsAreSo 64 = .ok (.ireturn, 1) := by decide +kernel
theorem dX7_readingsAreSo_65 : decode cX7_readingsAreSo 65 = .ok (.iinc 2 1, 3) := by decide +kernel
theorem dX7_readingsAreSo_68 : decode cX7_readingsAreSo 68 = .ok (.goto (-66), 3) := by decide +kernel
theorem dX7_readingsAreSo_71 : decode cX7_readingsAreSo 71 = .ok (.iconst 1, 1) := by decide +kernel
theorem dX7_readingsAreSo_72 : decode cX7_readingsAreSo 72 = .ok (.ireturn, 1) := by decide +kernel
theorem dX7_leaveTrace_0 : decode cX7_leaveTrace 0 = .ok (.aload_n 0, 1) := by decide +kernel
theorem dX7_leaveTrace_1 : decode cX7_leaveTrace 1 = .ok (.bipush 31, 2) := by decide +kernel
theorem dX7_leaveTrace_3 : decode cX7_leaveTrace 3 = .ok (.aload_n 0, 1) := by decide +kernel
theorem dX7_leaveTrace_4 : decode cX7_leaveTrace 4 = .ok (.getfield 243, 3) := by decide +kernel
theorem dX7_leaveTrace_7 : decode cX7_leaveTrace 7 = .ok (.imul, 1) := by decide +kernel
theorem dX7_leaveTrace_8 : decode cX7_leaveTrace 8 = .ok (.iload_n 1, 1) := by decide +kernel
theorem dX7_leaveTrace_9 : decode cX7_leaveTrace 9 = .ok (.iadd, 1) := by decide +kernel
theorem dX7_leaveTrace_10 : decode cX7_leaveTrace 10 = .ok (.putfield 243, 3) := by decide +kernel
theorem dX7_leaveTrace_13 : decode cX7_leaveTrace 13 = .ok (.return_, 1) := by decide +kernel
theorem dX7_tellPlain_0 : decode cX7_tellPlain 0 = .ok (.aload_n 0, 1) := by decide +kernel
theorem dX7_tellPlain_1 : decode cX7_tellPlain 1 = .ok (.iconst 1, 1) := by decide +kernel
theorem dX7_tellPlain_2 : decode cX7_tellPlain 2 = .ok (.invokevirtual 240, 3) := by decide +kernel
theorem dX7_tellPlain_5 : decode cX7_tellPlain 5 = .ok (.aload_n 1, 1) := by decide +kernel
theorem dX7_tellPlain_6 : decode cX7_tellPlain 6 = .ok (.getfield 118, 3) := by decide +kernel
theorem dX7_tellPlain_9 : decode cX7_tellPlain 9 = .ok (.ireturn, 1) := by decide +kernel
theorem dX7_tellBoth_0 : decode cX7_tellBoth 0 = .ok (.aload_n 0, 1) := by decide +kernel
theorem dX7_tellBoth_1 : decode cX7_tellBoth 1 = .ok (.iconst 2, 1) := by decide +kernel
theorem dX7_tellBoth_2 : decode cX7_tellBoth 2 = .ok (.invokevirtual 240, 3) := by decide +kernel
theorem dX7_tellBoth_5 : decode cX7_tellBoth 5 = .ok (.aload_n 0, 1) := by decide +kernel
theorem dX7_tellBoth_6 : decode cX7_tellBoth 6 = .ok (.aload_n 1, 1) := by decide +kernel
theorem dX7_tellBoth_7 : decode cX7_tellBoth 7 = .ok (.invokevirtual 237, 3) := by decide +kernel
theorem dX7_tellBoth_10 : decode cX7_tellBoth 10 = .ok (.bipush 100, 2) := by decide +kernel
theorem dX7_tellBoth_12 : decode cX7_tellBoth 12 = .ok (.iadd, 1) := by decide +kernel
theorem dX7_tellBoth_13 : decode cX7_tellBoth 13 = .ok (.ireturn, 1) := by decide +kernel
theorem dX7_tellTurned_0 : decode cX7_tellTurned 0 = .ok (.aload_n 0, 1) := by decide +kernel
theorem dX7_tellTurned_1 : decode cX7_tellTurned 1 = .ok (.iconst 3, 1) := by decide +kernel
theorem dX7_tellTurned_2 : decode cX7_tellTurned 2 = .ok (.invokevirtual 240, 3) := by decide +kernel
theorem dX7_tellTurned_5 : decode cX7_tellTurned 5 = .ok (.aload_n 0, 1) := by decide +kernel
theorem dX7_tellTurned_6 : decode cX7_tellTurned 6 = .ok (.aload_n 1, 1) := by decide +kernel
theorem dX7_tellTurned_7 : decode cX7_tellTurned 7 = .ok (.invokevirtual 234, 3) := by decide +kernel
theorem dX7_tellTurned_10 : decode cX7_tellTurned 10 = .ok (.istore_n 2, 1) := by decide +kernel
theorem dX7_tellTurned_11 : decode cX7_tellTurned 11 = .ok (.iload_n 2, 1) := by decide +kernel
theorem dX7_tellTurned_12 : decode cX7_tellTurned 12 = .ok (.aload_n 0, 1) := by decide +kernel
theorem dX7_tellTurned_13 : decode cX7_tellTurned 13 = .ok (.aload_n 1, 1) := by decide +kernel
theorem dX7_tellTurned_14 : decode cX7_tellTurned 14 = .ok (.invokevirtual 237, 3) := by decide +kernel
theorem dX7_tellTurned_17 : decode cX7_tellTurned 17 = .ok (.iadd, 1) := by decide +kernel
theorem dX7_tellTurned_18 : decode cX7_tellTurned 18 = .ok (.ireturn, 1) := by decide +kernel
theorem dX8_init_0 : decode cX8_init 0 = .ok (.aload_n 0, 1) := by decide +kernel
theorem dX8_init_1 : decode cX8_init 1 = .ok (.invokespecial 1, 3) := by decide +kernel
theorem dX8_init_4 : decode cX8_init 4 = .ok (.aload_n 0, 1) := by decide +kernel
theorem dX8_init_5 : decode cX8_init 5 = .ok (.iconst 4, 1) := by decide +kernel
theorem dX8_init_6 : decode cX8_init 6 = .ok (.newarray .int, 2) := by decide +kernel
theorem dX8_init_8 : decode cX8_init 8 = .ok (.dup, 1) := by decide +kernel
theorem dX8_init_9 : decode cX8_init 9 = .ok (.iconst 0, 1) := by decide +kernel
theorem dX8_init_10 : decode cX8_init 10 = .ok (.bipush (-9), 2) := by decide +kernel
theorem dX8_init_12 : decode cX8_init 12 = .ok (.iastore, 1) := by decide +kernel
theorem dX8_init_13 : decode cX8_init 13 = .ok (.dup, 1) := by decide +kernel
theorem dX8_init_14 : decode cX8_init 14 = .ok (.iconst 1, 1) := by decide +kernel
theorem dX8_init_15 : decode cX8_init 15 = .ok (.bipush (-9), 2) := by decide +kernel
theorem dX8_init_17 : decode cX8_init 17 = .ok (.iastore, 1) := by decide +kernel
theorem dX8_init_18 : decode cX8_init 18 = .ok (.dup, 1) := by decide +kernel
theorem dX8_init_19 : decode cX8_init 19 = .ok (.iconst 2, 1) := by decide +kernel
theorem dX8_init_20 : decode cX8_init 20 = .ok (.bipush (-9), 2) := by decide +kernel
theorem dX8_init_22 : decode cX8_init 22 = .ok (.iastore, 1) := by decide +kernel
theorem dX8_init_23 : decode cX8_init 23 = .ok (.dup, 1) := by decide +kernel
theorem dX8_init_24 : decode cX8_init 24 = .ok (.iconst 3, 1) := by decide +kernel
theorem dX8_init_25 : decode cX8_init 25 = .ok (.bipush (-9), 2) := by decide +kernel
theorem dX8_init_27 : decode cX8_init 27 = .ok (.iastore, 1) := by decide +kernel
theorem dX8_init_28 : decode cX8_init 28 = .ok (.putfield 9, 3) := by decide +kernel
theorem dX8_init_31 : decode cX8_init 31 = .ok (.aload_n 0, 1) := by decide +kernel
theorem dX8_init_32 : decode cX8_init 32 = .ok (.iconst 4, 1) := by decide +kernel
theorem dX8_init_33 : decode cX8_init 33 = .ok (.newarray .int, 2) := by decide +kernel
theorem dX8_init_35 : decode cX8_init 35 = .ok (.putfield 13, 3) := by decide +kernel
theorem dX8_init_38 : decode cX8_init 38 = .ok (.aload_n 0, 1) := by decide +kernel
theorem dX8_init_39 : decode cX8_init 39 = .ok (.sipush 240, 3) := by decide +kernel
theorem dX8_init_42 : decode cX8_init 42 = .ok (.newarray .int, 2) := by decide +kernel
theorem dX8_init_44 : decode cX8_init 44 = .ok (.putfield 16, 3) := by decide +kernel
theorem dX8_init_47 : decode cX8_init 47 = .ok (.aload_n 0, 1) := by decide +kernel
theorem dX8_init_48 : decode cX8_init 48 = .ok (.iconst 4, 1) := by decide +kernel
theorem dX8_init_49 : decode cX8_init 49 = .ok (.newarray .int, 2) := by decide +kernel
theorem dX8_init_51 : decode cX8_init 51 = .ok (.putfield 19, 3) := by decide +kernel
theorem dX8_init_54 : decode cX8_init 54 = .ok (.aload_n 0, 1) := by decide +kernel
theorem dX8_init_55 : decode cX8_init 55 = .ok (.iconst 4, 1) := by decide +kernel
theorem dX8_init_56 : decode cX8_init 56 = .ok (.newarray .int, 2) := by decide +kernel
theorem dX8_init_58 : decode cX8_init 58 = .ok (.putfield 22, 3) := by decide +kernel
theorem dX8_init_61 : decode cX8_init 61 = .ok (.aload_n 0, 1) := by decide +kernel
theorem dX8_init_62 : decode cX8_init 62 = .ok (.bipush 16, 2) := by decide +kernel
theorem dX8_init_64 : decode cX8_init 64 = .ok (.newarray .int, 2) := by decide +kernel
theorem dX8_init_66 : decode cX8_init 66 = .ok (.putfield 25, 3) := by decide +kernel
theorem dX8_init_69 : decode cX8_init 69 = .ok (.aload_n 0, 1) := by decide +kernel
theorem dX8_init_70 : decode cX8_init 70 = .ok (.bipush 60, 2) := by decide +kernel
theorem dX8_init_72 : decode cX8_init 72 = .ok (.newarray .int, 2) := by decide +kernel
theorem dX8_init_74 : decode cX8_init 74 = .ok (.putfield 28, 3) := by decide +kernel
theorem dX8_init_77 : decode cX8_init 77 = .ok (.aload_n 0, 1) := by decide +kernel
theorem dX8_init_78 : decode cX8_init 78 = .ok (.iconst 4, 1) := by decide +kernel
theorem dX8_init_79 : decode cX8_init 79 = .ok (.newarray .int, 2) := by decide +kernel
theorem dX8_init_81 : decode cX8_init 81 = .ok (.putfield 31, 3) := by decide +kernel
theorem dX8_init_84 : decode cX8_init 84 = .ok (.aload_n 0, 1) := by decide +kernel
theorem dX8_init_85 : decode cX8_init 85 = .ok (.iconst 4, 1) := by decide +kernel
theorem dX8_init_86 : decode cX8_init 86 = .ok (.newarray .int, 2) := by decide +kernel
theorem dX8_init_88 : decode cX8_init 88 = .ok (.putfield 34, 3) := by decide +kernel
theorem dX8_init_91 : decode cX8_init 91 = .ok (.aload_n 0, 1) := by decide +kernel
theorem dX8_init_92 : decode cX8_init 92 = .ok (.bipush 16, 2) := by decide +kernel
theorem dX8_init_94 : decode cX8_init 94 = .ok (.newarray .int, 2) := by decide +kernel
theorem dX8_init_96 : decode cX8_init 96 = .ok (.putfield 37, 3) := by decide +kernel
theorem dX8_init_99 : decode cX8_init 99 = .ok (.aload_n 0, 1) := by decide +kernel
theorem dX8_init_100 : decode cX8_init 100 = .ok (.bipush 60, 2) := by decide +kernel
theorem dX8_init_102 : decode cX8_init 102 = .ok (.newarray .int, 2) := by decide +kernel
theorem dX8_init_104 : decode cX8_init 104 = .ok (.putfield 40, 3) := by decide +kernel
theorem dX8_init_107 : decode cX8_init 107 = .ok (.aload_n 0, 1) := by decide +kernel
theorem dX8_init_108 : decode cX8_init 108 = .ok (.bipush 120, 2) := by decide +kernel
theorem dX8_init_110 : decode cX8_init 110 = .ok (.newarray .int, 2) := by decide +kernel
theorem dX8_init_112 : decode cX8_init 112 = .ok (.putfield 43, 3) := by decide +kernel
theorem dX8_init_115 : decode cX8_init 115 = .ok (.aload_n 0, 1) := by decide +kernel
theorem dX8_init_116 : decode cX8_init 116 = .ok (.bipush 120, 2) := by decide +kernel
theorem dX8_init_118 : decode cX8_init 118 = .ok (.newarray .int, 2) := by decide +kernel
theorem dX8_init_120 : decode cX8_init 120 = .ok (.putfield 46, 3) := by decide +kernel
theorem dX8_init_123 : decode cX8_init 123 = .ok (.aload_n 0, 1) := by decide +kernel
theorem dX8_init_124 : decode cX8_init 124 = .ok (.sipush 640, 3) := by decide +kernel
theorem dX8_init_127 : decode cX8_init 127 = .ok (.newarray .int, 2) := by decide +kernel
theorem dX8_init_129 : decode cX8_init 129 = .ok (.putfield 49, 3) := by decide +kernel
theorem dX8_init_132 : decode cX8_init 132 = .ok (.aload_n 0, 1) := by decide +kernel
theorem dX8_init_133 : decode cX8_init 133 = .ok (.sipush 640, 3) := by decide +kernel
theorem dX8_init_136 : decode cX8_init 136 = .ok (.newarray .long, 2) := by decide +kernel
theorem dX8_init_138 : decode cX8_init 138 = .ok (.putfield 52, 3) := by decide +kernel
theorem dX8_init_141 : decode cX8_init 141 = .ok (.aload_n 0, 1) := by decide +kernel
theorem dX8_init_142 : decode cX8_init 142 = .ok (.sipush 640, 3) := by decide +kernel
theorem dX8_init_145 : decode cX8_init 145 = .ok (.newarray .long, 2) := by decide +kernel
theorem dX8_init_147 : decode cX8_init 147 = .ok (.putfield 56, 3) := by decide +kernel
theorem dX8_init_150 : decode cX8_init 150 = .ok (.aload_n 0, 1) := by decide +kernel
theorem dX8_init_151 : decode cX8_init 151 = .ok (.bipush 40, 2) := by decide +kernel
theorem dX8_init_153 : decode cX8_init 153 = .ok (.newarray .int, 2) := by decide +kernel
theorem dX8_init_155 : decode cX8_init 155 = .ok (.putfield 59, 3) := by decide +kernel
theorem dX8_init_158 : decode cX8_init 158 = .ok (.aload_n 0, 1) := by decide +kernel
theorem dX8_init_159 : decode cX8_init 159 = .ok (.bipush 40, 2) := by decide +kernel
theorem dX8_init_161 : decode cX8_init 161 = .ok (.newarray .int, 2) := by decide +kernel
theorem dX8_init_163 : decode cX8_init 163 = .ok (.putfield 62, 3) := by decide +kernel
theorem dX8_init_166 : decode cX8_init 166 = .ok (.aload_n 0, 1) := by decide +kernel
theorem dX8_init_167 : decode cX8_init 167 = .ok (.bipush 8, 2) := by decide +kernel
theorem dX8_init_169 : decode cX8_init 169 = .ok (.newarray .int, 2) := by decide +kernel
theorem dX8_init_171 : decode cX8_init 171 = .ok (.putfield 65, 3) := by decide +kernel
theorem dX8_init_174 : decode cX8_init 174 = .ok (.aload_n 0, 1) := by decide +kernel
theorem dX8_init_175 : decode cX8_init 175 = .ok (.bipush 8, 2) := by decide +kernel
theorem dX8_init_177 : decode cX8_init 177 = .ok (.newarray .int, 2) := by decide +kernel
theorem dX8_init_179 : decode cX8_init 179 = .ok (.putfield 68, 3) := by decide +kernel
theorem dX8_init_182 : decode cX8_init 182 = .ok (.aload_n 0, 1) := by decide +kernel
theorem dX8_init_183 : decode cX8_init 183 = .ok (.bipush 8, 2) := by decide +kernel
theorem dX8_init_185 : decode cX8_init 185 = .ok (.newarray .int, 2) := by decide +kernel
theorem dX8_init_187 : decode cX8_init 187 = .ok (.putfield 71, 3) := by decide +kernel
theorem dX8_init_190 : decode cX8_init 190 = .ok (.aload_n 0, 1) := by decide +kernel
theorem dX8_init_191 : decode cX8_init 191 = .ok (.bipush 64, 2) := by decide +kernel
theorem dX8_init_193 : decode cX8_init 193 = .ok (.newarray .int, 2) := by decide +kernel
theorem dX8_init_195 : decode cX8_init 195 = .ok (.putfield 74, 3) := by decide +kernel
theorem dX8_init_198 : decode cX8_init 198 = .ok (.return_, 1) := by decide +kernel
theorem dX8_fails_0 : decode cX8_fails 0 = .ok (.aload_n 0, 1) := by decide +kernel
theorem dX8_fails_1 : decode cX8_fails 1 = .ok (.iload_n 1, 1) := by decide +kernel
theorem dX8_fails_2 : decode cX8_fails 2 = .ok (.putfield 77, 3) := by decide +kernel
theorem dX8_fails_5 : decode cX8_fails 5 = .ok (.bipush (-10), 2) := by decide +kernel
theorem dX8_fails_7 : decode cX8_fails 7 = .ok (.iload_n 1, 1) := by decide +kernel
theorem dX8_fails_8 : decode cX8_fails 8 = .ok (.isub, 1) := by decide +kernel
theorem dX8_fails_9 : decode cX8_fails 9 = .ok (.ireturn, 1) := by decide +kernel
theorem dX8_lost_0 : decode cX8_lost 0 = .ok (.aload_n 0, 1) := by decide +kernel
theorem dX8_lost_1 : decode cX8_lost 1 = .ok (.iload_n 1, 1) := by decide +kernel
theorem dX8_lost_2 : decode cX8_lost 2 = .ok (.putfield 77, 3) := by decide +kernel
theorem dX8_lost_5 : decode cX8_lost 5 = .ok (.ldc2_w 81, 3) := by decide +kernel
theorem dX8_lost_8 : decode cX8_lost 8 = .ok (.lreturn, 1) := by decide +kernel
theorem dX8_within_0 : decode cX8_within 0 = .ok (.iload_n 0, 1) := by decide +kernel
theorem dX8_within_1 : decode cX8_within 1 = .ok (.iload_n 1, 1) := by decide +kernel
theorem dX8_within_2 : decode cX8_within 2 = .ok (.if_icmp .lt 12, 3) := by decide +kernel
theorem dX8_within_5 : decode cX8_within 5 = .ok (.iload_n 0, 1) := by decide +kernel
theorem dX8_within_6 : decode cX8_within 6 = .ok (.iload_n 2, 1) := by decide +kernel
theorem dX8_within_7 : decode cX8_within 7 = .ok (.if_icmp .gt 7, 3) := by decide +kernel
theorem dX8_within_10 : decode cX8_within 10 = .ok (.iconst 1, 1) := by decide +kernel
theorem dX8_within_11 : decode cX8_within 11 = .ok (.goto 4, 3) := by decide +kernel
theorem dX8_within_14 : decode cX8_within 14 = .ok (.iconst 0, 1) := by decide +kernel
theorem dX8_within_15 : decode cX8_within 15 = .ok (.ireturn, 1) := by decide +kernel
theorem dX8_isSheet_0 : decode cX8_isSheet 0 = .ok (.iload_n 0, 1) := by decide +kernel
theorem dX8_isSheet_1 : decode cX8_isSheet 1 = .ok (.iconst 0, 1) := by decide +kernel
theorem dX8_isSheet_2 : decode cX8_isSheet 2 = .ok (.iconst 3, 1) := by decide +kernel
theorem dX8_isSheet_3 : decode cX8_isSheet 3 = .ok (.invokestatic 83, 3) := by decide +kernel
theorem dX8_isSheet_6 : decode cX8_isSheet 6 = .ok (.ireturn, 1) := by decide +kernel
theorem dX8_isSort_0 : decode cX8_isSort 0 = .ok (.iload_n 0, 1) := by decide +kernel
theorem dX8_isSort_1 : decode cX8_isSort 1 = .ok (.iconst 0, 1) := by decide +kernel
theorem dX8_isSort_2 : decode cX8_isSort 2 = .ok (.iconst 2, 1) := by decide +kernel
theorem dX8_isSort_3 : decode cX8_isSort 3 = .ok (.invokestatic 83, 3) := by decide +kernel
theorem dX8_isSort_6 : decode cX8_isSort 6 = .ok (.ireturn, 1) := by decide +kernel
theorem dX8_against_0 : decode cX8_against 0 = .ok (.aload_n 0, 1) := by decide +kernel
theorem dX8_against_1 : decode cX8_against 1 = .ok (.getfield 9, 3) := by decide +kernel
theorem dX8_against_4 : decode cX8_against 4 = .ok (.iload_n 1, 1) := by decide +kernel
theorem dX8_against_5 : decode cX8_against 5 = .ok (.iaload, 1) := by decide +kernel
theorem dX8_against_6 : decode cX8_against 6 = .ok (.bipush (-9), 2) := by decide +kernel
theorem dX8_against_8 : decode cX8_against 8 = .ok (.if_icmp .eq 15, 3) := by decide +kernel
theorem dX8_against_11 : decode cX8_against 11 = .ok (.aload_n 0, 1) := by decide +kernel
theorem dX8_against_12 : decode cX8_against 12 = .ok (.getfield 9, 3) := by decide +kernel
theorem dX8_against_15 : decode cX8_against 15 = .ok (.iload_n 1, 1) := by decide +kernel
theorem dX8_against_16 : decode cX8_against 16 = .ok (.iaload, 1) := by decide +kernel
theorem dX8_against_17 : decode cX8_against 17 = .ok (.iload_n 2, 1) := by decide +kernel
theorem dX8_against_18 : decode cX8_against 18 = .ok (.if_icmp .eq 5, 3) := by decide +kernel
theorem dX8_against_21 : decode cX8_against 21 = .ok (.iconst 2, 1) := by decide +kernel
theorem dX8_against_22 : decode cX8_against 22 = .ok (.ireturn, 1) := by decide +kernel
theorem dX8_against_23 : decode cX8_against 23 = .ok (.aload_n 0, 1) := by decide +kernel
theorem dX8_against_24 : decode cX8_against 24 = .ok (.getfield 9, 3) := by decide +kernel
theorem dX8_against_27 : decode cX8_against 27 = .ok (.iload_n 1, 1) := by decide +kernel
theorem dX8_against_28 : decode cX8_against 28 = .ok (.iaload, 1) := by decide +kernel
theorem dX8_against_29 : decode cX8_against 29 = .ok (.bipush (-9), 2) := by decide +kernel
theorem dX8_against_31 : decode cX8_against 31 = .ok (.if_icmp .ne 5, 3) := by decide +kernel
theorem dX8_against_34 : decode cX8_against 34 = .ok (.iconst 1, 1) := by decide +kernel
theorem dX8_against_35 : decode cX8_against 35 = .ok (.ireturn, 1) := by decide +kernel
theorem dX8_against_36 : decode cX8_against 36 = .ok (.iload 4, 2) := by decide +kernel
theorem dX8_against_38 : decode cX8_against 38 = .ok (.ifCond .ge 5, 3) := by decide +kernel
theorem dX8_against_41 : decode cX8_against 41 = .ok (.iconst 4, 1) := by decide +kernel
theorem dX8_against_42 : decode cX8_against 42 = .ok (.ireturn, 1) := by decide +kernel
theorem dX8_against_43 : decode cX8_against 43 = .ok (.iload_n 3, 1) := by decide +kernel
theorem dX8_against_44 : decode cX8_against 44 = .ok (.ifCond .lt 26, 3) := by decide +kernel
theorem dX8_against_47 : decode cX8_against 47 = .ok (.iload_n 3, 1) := by decide +kernel
theorem dX8_against_48 : decode cX8_against 48 = .ok (.aload_n 0, 1) := by decide +kernel
theorem dX8_against_49 : decode cX8_against 49 = .ok (.getfield 13, 3) := by decide +kernel
theorem dX8_against_52 : decode cX8_against 52 = .ok (.iload_n 1, 1) := by decide +kernel
theorem dX8_against_53 : decode cX8_against 53 = .ok (.iaload, 1) := by decide +kernel
theorem dX8_against_54 : decode cX8_against 54 = .ok (.if_icmp .gt 16, 3) := by decide +kernel
theorem dX8_against_57 : decode cX8_against 57 = .ok (.iload 4, 2) := by decide +kernel
theorem dX8_against_59 : decode cX8_against 59 = .ok (.aload_n 0, 1) := by decide +kernel
theorem dX8_against_60 : decode cX8_against 60 = .ok (.getfield 13, 3) := by decide +kernel
theorem dX8_against_63 : decode cX8_against 63 = .ok (.iload_n 1, 1) := by decide +kernel
theorem dX8_against_64 : decode cX8_against 64 = .ok (.iaload, 1) := by decide +kernel
theorem dX8_against_65 : decode cX8_against 65 = .ok (.iload_n 3, 1) := by decide +kernel
theorem dX8_against_66 : decode cX8_against 66 = .ok (.isub, 1) := by decide +kernel
theorem dX8_against_67 : decode cX8_against 67 = .ok (.if_icmp .le 7, 3) := by decide +kernel
theorem dX8_against_70 : decode cX8_against 70 = .ok (.iconst 3, 1) := by decide +kernel
theorem dX8_against_71 : decode cX8_against 71 = .ok (.goto 4, 3) := by decide +kernel
theorem dX8_against_74 : decode cX8_against 74 = .ok (.iconst 0, 1) := by decide +kernel
theorem dX8_against_75 : decode cX8_against 75 = .ok (.ireturn, 1) := by decide +kernel
theorem dX8_isWord_0 : decode cX8_isWord 0 = .ok (.iload_n 1, 1) := by decide +kernel
theorem dX8_isWord_1 : decode cX8_isWord 1 = .ok (.ifCond .lt 15, 3) := by decide +kernel
theorem dX8_isWord_4 : decode cX8_isWord 4 = .ok (.iload_n 1, 1) := by decide +kernel
theorem dX8_isWord_5 : decode cX8_isWord 5 = .ok (.aload_n 0, 1) := by decide +kernel
theorem dX8_isWord_6 : decode cX8_isWord 6 = .ok (.getfield 87, 3) := by decide +kernel
theorem dX8_isWord_9 : decode cX8_isWord 9 = .ok (.if_icmp .ge 7, 3) := by decide +kernel
theorem dX8_isWord_12 : decode cX8_isWord 12 = .ok (.iconst 1, 1) := by decide +kernel
theorem dX8_isWord_13 : decode cX8_isWord 13 = .ok (.goto 4, 3) := by decide +kernel
theorem dX8_isWord_16 : decode cX8_isWord 16 = .ok (.iconst 0, 1) := by decide +kernel
theorem dX8_isWord_17 : decode cX8_isWord 17 = .ok (.ireturn, 1) := by decide +kernel
theorem dX8_isSign_0 : decode cX8_isSign 0 = .ok (.aload_n 0, 1) := by decide +kernel
theorem dX8_isSign_1 : decode cX8_isSign 1 = .ok (.getfield 90, 3) := by decide +kernel
theorem dX8_isSign_4 : decode cX8_isSign 4 = .ok (.iload_n 1, 1) := by decide +kernel
theorem dX8_isSign_5 : decode cX8_isSign 5 = .ok (.if_icmp .ge 16, 3) := by decide +kernel
theorem dX8_isSign_8 : decode cX8_isSign 8 = .ok (.aload_n 0, 1) := by decide +kernel
theorem dX8_isSign_9 : decode cX8_isSign 9 = .ok (.getfield 16, 3) := by decide +kernel
theorem dX8_isSign_12 : decode cX8_isSign 12 = .ok (.aload_n 0, 1) := by decide +kernel
theorem dX8_isSign_13 : decode cX8_isSign 13 = .ok (.getfield 90, 3) := by decide +kernel
theorem dX8_isSign_16 : decode cX8_isSign 16 = .ok (.iaload, 1) := by decide +kernel
theorem dX8_isSign_17 : decode cX8_isSign 17 = .ok (.iload_n 2, 1) := by decide +kernel
theorem dX8_isSign_18 : decode cX8_isSign 18 = .ok (.if_icmp .eq 5, 3) := by decide +kernel
theorem dX8_isSign_21 : decode cX8_isSign 21 = .ok (.iconst 0, 1) := by decide +kernel
theorem dX8_isSign_22 : decode cX8_isSign 22 = .ok (.ireturn, 1) := by decide +kernel
theorem dX8_isSign_23 : decode cX8_isSign 23 = .ok (.aload_n 0, 1) := by decide +kernel
theorem dX8_isSign_24 : decode cX8_isSign 24 = .ok (.dup, 1) := by decide +kernel
theorem dX8_isSign_25 : decode cX8_isSign 25 = .ok (.getfield 90, 3) := by decide +kernel
theorem dX8_isSign_28 : decode cX8_isSign 28 = .ok (.iconst 1, 1) := by decide +kernel
theorem dX8_isSign_29 : decode cX8_isSign 29 = .ok (.iadd, 1) := by decide +kernel
theorem dX8_isSign_30 : decode cX8_isSign 30 = .ok (.putfield 90, 3) := by decide +kernel
theorem dX8_isSign_33 : decode cX8_isSign 33 = .ok (.iconst 1, 1) := by decide +kernel
theorem dX8_isSign_34 : decode cX8_isSign 34 = .ok (.ireturn, 1) := by decide +kernel
theorem dX8_words_0 : decode cX8_words 0 = .ok (.aload_n 0, 1) := by decide +kernel
theorem dX8_words_1 : decode cX8_words 1 = .ok (.iconst 0, 1) := by decide +kernel
theorem dX8_words_2 : decode cX8_words 2 = .ok (.putfield 77, 3) := by decide +kernel
theorem dX8_words_5 : decode cX8_words 5 = .ok (.iload_n 1, 1) := by decide +kernel
theorem dX8_words_6 : decode cX8_words 6 = .ok (.invokestatic 93, 3) := by decide +kernel
theorem dX8_words_9 : decode cX8_words 9 = .ok (.ifCond .ne 5, 3) := by decide +kernel
theorem dX8_words_12 : decode cX8_words 12 = .ok (.iconst (-1), 1) := by decide +kernel
theorem dX8_words_13 : decode cX8_words 13 = .ok (.ireturn, 1) := by decide +kernel
theorem dX8_words_14 : decode cX8_words 14 = .ok (.iload_n 2, 1) := by decide +kernel
theorem dX8_words_15 : decode cX8_words 15 = .ok (.invokestatic 97, 3) := by decide +kernel
theorem dX8_words_18 : decode cX8_words 18 = .ok (.ifCond .ne 6, 3) := by decide +kernel
theorem dX8_words_21 : decode cX8_words 21 = .ok (.bipush (-2), 2) := by decide +kernel
theorem dX8_words_23 : decode cX8_words 23 = .ok (.ireturn, 1) := by decide +kernel
theorem dX8_words_24 : decode cX8_words 24 = .ok (.aload_n 0, 1) := by decide +kernel
theorem dX8_words_25 : decode cX8_words 25 = .ok (.iload_n 1, 1) := by decide +kernel
theorem dX8_words_26 : decode cX8_words 26 = .ok (.iload_n 2, 1) := by decide +kernel
theorem dX8_words_27 : decode cX8_words 27 = .ok (.iload_n 3, 1) := by decide +kernel
theorem dX8_words_28 : decode cX8_words 28 = .ok (.iload 4, 2) := by decide +kernel
theorem dX8_words_30 : decode cX8_words 30 = .ok (.invokevirtual 100, 3) := by decide +kernel
theorem dX8_words_33 : decode cX8_words 33 = .ok (.istore 5, 2) := by decide +kernel
theorem dX8_words_35 : decode cX8_words 35 = .ok (.iload 5, 2) := by decide +kernel
theorem dX8_words_37 : decode cX8_words 37 = .ok (.ifCond .eq 10, 3) := by decide +kernel
theorem dX8_words_40 : decode cX8_words 40 = .ok (.aload_n 0, 1) := by decide +kernel
theorem dX8_words_41 : decode cX8_words 41 = .ok (.iload 5, 2) := by decide +kernel
theorem dX8_words_43 : decode cX8_words 43 = .ok (.invokevirtual 104, 3) := by decide +kernel
theorem dX8_words_46 : decode cX8_words 46 = .ok (.ireturn, 1) := by decide +kernel
theorem dX8_words_47 : decode cX8_words 47 = .ok (.bipush 60, 2) := by decide +kernel
theorem dX8_words_49 : decode cX8_words 49 = .ok (.iload_n 1, 1) := by decide +kernel
theorem dX8_words_50 : decode cX8_words 50 = .ok (.imul, 1) := by decide +kernel
theorem dX8_words_51 : decode cX8_words 51 = .ok (.iload_n 3, 1) := by decide +kernel
theorem dX8_words_52 : decode cX8_words 52 = .ok (.iadd, 1) := by decide +kernel
theorem dX8_words_53 : decode cX8_words 53 = .ok (.istore 6, 2) := by decide +kernel
theorem dX8_words_55 : decode cX8_words 55 = .ok (.aload_n 0, 1) := by decide +kernel
theorem dX8_words_56 : decode cX8_words 56 = .ok (.iload 6, 2) := by decide +kernel
theorem dX8_words_58 : decode cX8_words 58 = .ok (.putfield 90, 3) := by decide +kernel
theorem dX8_words_61 : decode cX8_words 61 = .ok (.aload_n 0, 1) := by decide +kernel
theorem dX8_words_62 : decode cX8_words 62 = .ok (.iload 6, 2) := by decide +kernel
theorem dX8_words_64 : decode cX8_words 64 = .ok (.iload 4, 2) := by decide +kernel
theorem dX8_words_66 : decode cX8_words 66 = .ok (.iadd, 1) := by decide +kernel
theorem dX8_words_67 : decode cX8_words 67 = .ok (.invokevirtual 108, 3) := by decide +kernel
theorem dX8_words_70 : decode cX8_words 70 = .ok (.ifCond .ne 14, 3) := by decide +kernel
theorem dX8_words_73 : decode cX8_words 73 = .ok (.bipush (-100), 2) := by decide +kernel
theorem dX8_words_75 : decode cX8_words 75 = .ok (.aload_n 0, 1) := by decide +kernel
theorem dX8_words_76 : decode cX8_words 76 = .ok (.getfield 90, 3) := by decide +kernel
theorem dX8_words_79 : decode cX8_words 79 = .ok (.iload 6, 2) := by decide +kernel
theorem dX8_words_81 : decode cX8_words 81 = .ok (.isub, 1) := by decide +kernel
theorem dX8_words_82 : decode cX8_words 82 = .ok (.isub, 1) := by decide +kernel
theorem dX8_words_83 : decode cX8_words 83 = .ok (.ireturn, 1) := by decide +kernel
theorem dX8_words_84 : decode cX8_words 84 = .ok (.aload_n 0, 1) := by decide +kernel
theorem dX8_words_85 : decode cX8_words 85 = .ok (.aload_n 0, 1) := by decide +kernel
theorem dX8_words_86 : decode cX8_words 86 = .ok (.getfield 111, 3) := by decide +kernel
theorem dX8_words_89 : decode cX8_words 89 = .ok (.putfield 87, 3) := by decide +kernel
theorem dX8_words_92 : decode cX8_words 92 = .ok (.iconst 0, 1) := by decide +kernel
theorem dX8_words_93 : decode cX8_words 93 = .ok (.istore 7, 2) := by decide +kernel
theorem dX8_words_95 : decode cX8_words 95 = .ok (.iload 7, 2) := by decide +kernel
theorem dX8_words_97 : decode cX8_words 97 = .ok (.aload_n 0, 1) := by decide +kernel
theorem dX8_words_98 : decode cX8_words 98 = .ok (.getfield 87, 3) := by decide +kernel
theorem dX8_words_101 : decode cX8_words 101 = .ok (.if_icmp .ge 76, 3) := by decide +kernel
theorem dX8_words_104 : decode cX8_words 104 = .ok (.aload_n 0, 1) := by decide +kernel
theorem dX8_words_105 : decode cX8_words 105 = .ok (.getfield 19, 3) := by decide +kernel
theorem dX8_words_108 : decode cX8_words 108 = .ok (.iload 7, 2) := by decide +kernel
theorem dX8_words_110 : decode cX8_words 110 = .ok (.aload_n 0, 1) := by decide +kernel
theorem dX8_words_111 : decode cX8_words 111 = .ok (.getfield 31, 3) := by decide +kernel
theorem dX8_words_114 : decode cX8_words 114 = .ok (.iload 7, 2) := by decide +kernel
theorem dX8_words_116 : decode cX8_words 116 = .ok (.iaload, 1) := by decide +kernel
theorem dX8_words_117 : decode cX8_words 117 = .ok (.iastore, 1) := by decide +kernel
theorem dX8_words_118 : decode cX8_words 118 = .ok (.aload_n 0, 1) := by decide +kernel
theorem dX8_words_119 : decode cX8_words 119 = .ok (.getfield 22, 3) := by decide +kernel
theorem dX8_words_122 : decode cX8_words 122 = .ok (.iload 7, 2) := by decide +kernel
theorem dX8_words_124 : decode cX8_words 124 = .ok (.aload_n 0, 1) := by decide +kernel
theorem dX8_words_125 : decode cX8_words 125 = .ok (.getfield 34, 3) := by decide +kernel
theorem dX8_words_128 : decode cX8_words 128 = .ok (.iload 7, 2) := by decide +kernel
theorem dX8_words_130 : decode cX8_words 130 = .ok (.iaload, 1) := by decide +kernel
theorem dX8_words_131 : decode cX8_words 131 = .ok (.iastore, 1) := by decide +kernel
theorem dX8_words_132 : decode cX8_words 132 = .ok (.iconst 0, 1) := by decide +kernel
theorem dX8_words_133 : decode cX8_words 133 = .ok (.istore 8, 2) := by decide +kernel
theorem dX8_words_135 : decode cX8_words 135 = .ok (.iload 8, 2) := by decide +kernel
theorem dX8_words_137 : decode cX8_words 137 = .ok (.iconst 4, 1) := by decide +kernel
theorem dX8_words_138 : decode cX8_words 138 = .ok (.if_icmp .ge 33, 3) := by decide +kernel
theorem dX8_words_141 : decode cX8_words 141 = .ok (.aload_n 0, 1) := by decide +kernel
theorem dX8_words_142 : decode cX8_words 142 = .ok (.getfield 25, 3) := by decide +kernel
theorem dX8_words_145 : decode cX8_words 145 = .ok (.iconst 4, 1) := by decide +kernel
theorem dX8_words_146 : decode cX8_words 146 = .ok (.iload 7, 2) := by decide +kernel
theorem dX8_words_148 : decode cX8_words 148 = .ok (.imul, 1) := by decide +kernel
theorem dX8_words_149 : decode cX8_words 149 = .ok (.iload 8, 2) := by decide +kernel
theorem dX8_words_151 : decode cX8_words 151 = .ok (.iadd, 1) := by decide +kernel
theorem dX8_words_152 : decode cX8_words 152 = .ok (.aload_n 0, 1) := by decide +kernel
theorem dX8_words_153 : decode cX8_words 153 = .ok (.getfield 37, 3) := by decide +kernel
theorem dX8_words_156 : decode cX8_words 156 = .ok (.iconst 4, 1) := by decide +kernel
theorem dX8_words_157 : decode cX8_words 157 = .ok (.iload 7, 2) := by decide +kernel
theorem dX8_words_159 : decode cX8_words 159 = .ok (.imul, 1) := by decide +kernel
theorem dX8_words_160 : decode cX8_words 160 = .ok (.iload 8, 2) := by decide +kernel
theorem dX8_words_162 : decode cX8_words 162 = .ok (.iadd, 1) := by decide +kernel
theorem dX8_words_163 : decode cX8_words 163 = .ok (.iaload, 1) := by decide +kernel
theorem dX8_words_164 : decode cX8_words 164 = .ok (.iastore, 1) := by decide +kernel
theorem dX8_words_165 : decode cX8_words 165 = .ok (.iinc 8 1, 3) := by decide +kernel
theorem dX8_words_168 : decode cX8_words 168 = .ok (.goto (-33), 3) := by decide +kernel
theorem dX8_words_171 : decode cX8_words 171 = .ok (.iinc 7 1, 3) := by decide +kernel
theorem dX8_words_174 : decode cX8_words 174 = .ok (.goto (-79), 3) := by decide +kernel
theorem dX8_words_177 : decode cX8_words 177 = .ok (.aload_n 0, 1) := by decide +kernel
theorem dX8_words_178 : decode cX8_words 178 = .ok (.iconst 0, 1) := by decide +kernel
theorem dX8_words_179 : decode cX8_words 179 = .ok (.putfield 114, 3) := by decide +kernel
theorem dX8_words_182 : decode cX8_words 182 = .ok (.aload_n 0, 1) := by decide +kernel
theorem dX8_words_183 : decode cX8_words 183 = .ok (.iconst 0, 1) := by decide +kernel
theorem dX8_words_184 : decode cX8_words 184 = .ok (.putfield 117, 3) := by decide +kernel
theorem dX8_words_187 : decode cX8_words 187 = .ok (.aload_n 0, 1) := by decide +kernel
theorem dX8_words_188 : decode cX8_words 188 = .ok (.getfield 87, 3) := by decide +kernel
theorem dX8_words_191 : decode cX8_words 191 = .ok (.ireturn, 1) := by decide +kernel
theorem dX8_readAll_0 : decode cX8_readAll 0 = .ok (.aload_n 0, 1) := by decide +kernel
theorem dX8_readAll_1 : decode cX8_readAll 1 = .ok (.iconst 0, 1) := by decide +kernel
theorem dX8_readAll_2 : decode cX8_readAll 2 = .ok (.putfield 111, 3) := by decide +kernel
theorem dX8_readAll_5 : decode cX8_readAll 5 = .ok (.aload_n 0, 1) := by decide +kernel
theorem dX8_readAll_6 : decode cX8_readAll 6 = .ok (.iload_n 1, 1) := by decide +kernel
theorem dX8_readAll_7 : decode cX8_readAll 7 = .ok (.bipush 119, 2) := by decide +kernel
theorem dX8_readAll_9 : decode cX8_readAll 9 = .ok (.invokevirtual 120, 3) := by decide +kernel
theorem dX8_readAll_12 : decode cX8_readAll 12 = .ok (.ifCond .ne 5, 3) := by decide +kernel
theorem dX8_readAll_15 : decode cX8_readAll 15 = .ok (.iconst 0, 1) := by decide +kernel
theorem dX8_readAll_16 : decode cX8_readAll 16 = .ok (.ireturn, 1) := by decide +kernel
theorem dX8_readAll_17 : decode cX8_readAll 17 = .ok (.aload_n 0, 1) := by decide +kernel
theorem dX8_readAll_18 : decode cX8_readAll 18 = .ok (.getfield 111, 3) := by decide +kernel
theorem dX8_readAll_21 : decode cX8_readAll 21 = .ok (.ifCond .eq 19, 3) := by decide +kernel
theorem dX8_readAll_24 : decode cX8_readAll 24 = .ok (.aload_n 0, 1) := by decide +kernel
theorem dX8_readAll_25 : decode cX8_readAll 25 = .ok (.getfield 111, 3) := by decide +kernel
theorem dX8_readAll_28 : decode cX8_readAll 28 = .ok (.iconst 4, 1) := by decide +kernel
theorem dX8_readAll_29 : decode cX8_readAll 29 = .ok (.if_icmp .ge 48, 3) := by decide +kernel
theorem dX8_readAll_32 : decode cX8_readAll 32 = .ok (.aload_n 0, 1) := by decide +kernel
theorem dX8_readAll_33 : decode cX8_readAll 33 = .ok (.getfield 90, 3) := by decide +kernel
theorem dX8_readAll_36 : decode cX8_readAll 36 = .ok (.iload_n 1, 1) := by decide +kernel
theorem dX8_readAll_37 : decode cX8_readAll 37 = .ok (.if_icmp .ge 40, 3) := by decide +kernel
theorem dX8_readAll_40 : decode cX8_readAll 40 = .ok (.aload_n 0, 1) := by decide +kernel
theorem dX8_readAll_41 : decode cX8_readAll 41 = .ok (.iload_n 1, 1) := by decide +kernel
theorem dX8_readAll_42 : decode cX8_readAll 42 = .ok (.bipush 59, 2) := by decide +kernel
theorem dX8_readAll_44 : decode cX8_readAll 44 = .ok (.invokevirtual 120, 3) := by decide +kernel
theorem dX8_readAll_47 : decode cX8_readAll 47 = .ok (.ifCond .eq 15, 3) := by decide +kernel
theorem dX8_readAll_50 : decode cX8_readAll 50 = .ok (.aload_n 0, 1) := by decide +kernel
theorem dX8_readAll_51 : decode cX8_readAll 51 = .ok (.iload_n 1, 1) := by decide +kernel
theorem dX8_readAll_52 : decode cX8_readAll 52 = .ok (.aload_n 0, 1) := by decide +kernel
theorem dX8_readAll_53 : decode cX8_readAll 53 = .ok (.getfield 111, 3) := by decide +kernel
theorem dX8_readAll_56 : decode cX8_readAll 56 = .ok (.invokevirtual 124, 3) := by decide +kernel
theorem dX8_readAll_59 : decode cX8_readAll 59 = .ok (.ifCond .ne 5, 3) := by decide +kernel
theorem dX8_readAll_62 : decode cX8_readAll 62 = .ok (.iconst 0, 1) := by decide +kernel
theorem dX8_readAll_63 : decode cX8_readAll 63 = .ok (.ireturn, 1) := by decide +kernel
theorem dX8_readAll_64 : decode cX8_readAll 64 = .ok (.aload_n 0, 1) := by decide +kernel
theorem dX8_readAll_65 : decode cX8_readAll 65 = .ok (.dup, 1) := by decide +kernel
theorem dX8_readAll_66 : decode cX8_readAll 66 = .ok (.getfield 111, 3) := by decide +kernel
theorem dX8_readAll_69 : decode cX8_readAll 69 = .ok (.iconst 1, 1) := by decide +kernel
theorem dX8_readAll_70 : decode cX8_readAll 70 = .ok (.iadd, 1) := by decide +kernel
theorem dX8_readAll_71 : decode cX8_readAll 71 = .ok (.putfield 111, 3) := by decide +kernel
theorem dX8_readAll_74 : decode cX8_readAll 74 = .ok (.goto (-57), 3) := by decide +kernel
theorem dX8_readAll_77 : decode cX8_readAll 77 = .ok (.aload_n 0, 1) := by decide +kernel
theorem dX8_readAll_78 : decode cX8_readAll 78 = .ok (.getfield 90, 3) := by decide +kernel
theorem dX8_readAll_81 : decode cX8_readAll 81 = .ok (.iload_n 1, 1) := by decide +kernel
theorem dX8_readAll_82 : decode cX8_readAll 82 = .ok (.if_icmp .ne 7, 3) := by decide +kernel
theorem dX8_readAll_85 : decode cX8_readAll 85 = .ok (.iconst 1, 1) := by decide +kernel
theorem dX8_readAll_86 : decode cX8_readAll 86 = .ok (.goto 4, 3) := by decide +kernel
theorem dX8_readAll_89 : decode cX8_readAll 89 = .ok (.iconst 0, 1) := by decide +kernel
theorem dX8_readAll_90 : decode cX8_readAll 90 = .ok (.ireturn, 1) := by decide +kernel
theorem dX8_readWord_0 : decode cX8_readWord 0 = .ok (.aload_n 0, 1) := by decide +kernel
theorem dX8_readWord_1 : decode cX8_readWord 1 = .ok (.getfield 90, 3) := by decide +kernel
theorem dX8_readWord_4 : decode cX8_readWord 4 = .ok (.iload_n 1, 1) := by decide +kernel
theorem dX8_readWord_5 : decode cX8_readWord 5 = .ok (.if_icmp .ge 15, 3) := by decide +kernel
theorem dX8_readWord_8 : decode cX8_readWord 8 = .ok (.aload_n 0, 1) := by decide +kernel
theorem dX8_readWord_9 : decode cX8_readWord 9 = .ok (.getfield 16, 3) := by decide +kernel
theorem dX8_readWord_12 : decode cX8_readWord 12 = .ok (.aload_n 0, 1) := by decide +kernel
theorem dX8_readWord_13 : decode cX8_readWord 13 = .ok (.getfield 90, 3) := by decide +kernel
theorem dX8_readWord_16 : decode cX8_readWord 16 = .ok (.iaload, 1) := by decide +kernel
theorem dX8_readWord_17 : decode cX8_readWord 17 = .ok (.goto 4, 3) := by decide +kernel
theorem dX8_readWord_20 : decode cX8_readWord 20 = .ok (.iconst 0, 1) := by decide +kernel
theorem dX8_readWord_21 : decode cX8_readWord 21 = .ok (.istore_n 3, 1) := by decide +kernel
theorem dX8_readWord_22 : decode cX8_readWord 22 = .ok (.aload_n 0, 1) := by decide +kernel
theorem dX8_readWord_23 : decode cX8_readWord 23 = .ok (.getfield 31, 3) := by decide +kernel
theorem dX8_readWord_26 : decode cX8_readWord 26 = .ok (.iload_n 2, 1) := by decide +kernel
theorem dX8_readWord_27 : decode cX8_readWord 27 = .ok (.iload_n 3, 1) := by decide +kernel
theorem dX8_readWord_28 : decode cX8_readWord 28 = .ok (.bipush 112, 2) := by decide +kernel
theorem dX8_readWord_30 : decode cX8_readWord 30 = .ok (.if_icmp .ne 7, 3) := by decide +kernel
theorem dX8_readWord_33 : decode cX8_readWord 33 = .ok (.iconst 0, 1) := by decide +kernel
theorem dX8_readWord_34 : decode cX8_readWord 34 = .ok (.goto 25, 3) := by decide +kernel
theorem dX8_readWord_37 : decode cX8_readWord 37 = .ok (.iload_n 3, 1) := by decide +kernel
theorem dX8_readWord_38 : decode cX8_readWord 38 = .ok (.bipush 98, 2) := by decide +kernel
theorem dX8_readWord_40 : decode cX8_readWord 40 = .ok (.if_icmp .ne 7, 3) := by decide +kernel
theorem dX8_readWord_43 : decode cX8_readWord 43 = .ok (.iconst 1, 1) := by decide +kernel
theorem dX8_readWord_44 : decode cX8_readWord 44 = .ok (.goto 15, 3) := by decide +kernel
theorem dX8_readWord_47 : decode cX8_readWord 47 = .ok (.iload_n 3, 1) := by decide +kernel
theorem dX8_readWord_48 : decode cX8_readWord 48 = .ok (.bipush 116, 2) := by decide +kernel
theorem dX8_readWord_50 : decode cX8_readWord 50 = .ok (.if_icmp .ne 7, 3) := by decide +kernel
theorem dX8_readWord_53 : decode cX8_readWord 53 = .ok (.iconst 2, 1) := by decide +kernel
theorem dX8_readWord_54 : decode cX8_readWord 54 = .ok (.goto 5, 3) := by decide +kernel
theorem dX8_readWord_57 : decode cX8_readWord 57 = .ok (.bipush (-9), 2) := by decide +kernel
theorem dX8_readWord_59 : decode cX8_readWord 59 = .ok (.iastore, 1) := by decide +kernel
theorem dX8_readWord_60 : decode cX8_readWord 60 = .ok (.aload_n 0, 1) := by decide +kernel
theorem dX8_readWord_61 : decode cX8_readWord 61 = .ok (.getfield 31, 3) := by decide +kernel
theorem dX8_readWord_64 : decode cX8_readWord 64 = .ok (.iload_n 2, 1) := by decide +kernel
theorem dX8_readWord_65 : decode cX8_readWord 65 = .ok (.iaload, 1) := by decide +kernel
theorem dX8_readWord_66 : decode cX8_readWord 66 = .ok (.bipush (-9), 2) := by decide +kernel
theorem dX8_readWord_68 : decode cX8_readWord 68 = .ok (.if_icmp .ne 5, 3) := by decide +kernel
theorem dX8_readWord_71 : decode cX8_readWord 71 = .ok (.iconst 0, 1) := by decide +kernel
theorem dX8_readWord_72 : decode cX8_readWord 72 = .ok (.ireturn, 1) := by decide +kernel
theorem dX8_readWord_73 : decode cX8_readWord 73 = .ok (.aload_n 0, 1) := by decide +kernel
theorem dX8_readWord_74 : decode cX8_readWord 74 = .ok (.dup, 1) := by decide +kernel
theorem dX8_readWord_75 : decode cX8_readWord 75 = .ok (.getfield 90, 3) := by decide +kernel
theorem dX8_readWord_78 : decode cX8_readWord 78 = .ok (.iconst 1, 1) := by decide +kernel
theorem dX8_readWord_79 : decode cX8_readWord 79 = .ok (.iadd, 1) := by decide +kernel
theorem dX8_readWord_80 : decode cX8_readWord 80 = .ok (.putfield 90, 3) := by decide +kernel
theorem dX8_readWord_83 : decode cX8_readWord 83 = .ok (.aload_n 0, 1) := by decide +kernel
theorem dX8_readWord_84 : decode cX8_readWord 84 = .ok (.iload_n 1, 1) := by decide +kernel
theorem dX8_readWord_85 : decode cX8_readWord 85 = .ok (.bipush 47, 2) := by decide +kernel
theorem dX8_readWord_87 : decode cX8_readWord 87 = .ok (.invokevirtual 120, 3) := by decide +kernel
theorem dX8_readWord_90 : decode cX8_readWord 90 = .ok (.ifCond .ne 5, 3) := by decide +kernel
theorem dX8_readWord_93 : decode cX8_readWord 93 = .ok (.iconst 0, 1) := by decide +kernel
theorem dX8_readWord_94 : decode cX8_readWord 94 = .ok (.ireturn, 1) := by decide +kernel
theorem dX8_readWord_95 : decode cX8_readWord 95 = .ok (.aload_n 0, 1) := by decide +kernel
theorem dX8_readWord_96 : decode cX8_readWord 96 = .ok (.getfield 34, 3) := by decide +kernel
theorem dX8_readWord_99 : decode cX8_readWord 99 = .ok (.iload_n 2, 1) := by decide +kernel
theorem dX8_readWord_100 : decode cX8_readWord 100 = .ok (.iconst 0, 1) := by decide +kernel
theorem dX8_readWord_101 : decode cX8_readWord 101 = .ok (.iastore, 1) := by decide +kernel
theorem dX8_readWord_102 : decode cX8_readWord 102 = .ok (.aload_n 0, 1) := by decide +kernel
theorem dX8_readWord_103 : decode cX8_readWord 103 = .ok (.getfield 34, 3) := by decide +kernel
theorem dX8_readWord_106 : decode cX8_readWord 106 = .ok (.iload_n 2, 1) := by decide +kernel
theorem dX8_readWord_107 : decode cX8_readWord 107 = .ok (.iaload, 1) := by decide +kernel
theorem dX8_readWord_108 : decode cX8_readWord 108 = .ok (.iconst 4, 1) := by decide +kernel
theorem dX8_readWord_109 : decode cX8_readWord 109 = .ok (.if_icmp .ge 80, 3) := by decide +kernel
theorem dX8_readWord_112 : decode cX8_readWord 112 = .ok (.aload_n 0, 1) := by decide +kernel
theorem dX8_readWord_113 : decode cX8_readWord 113 = .ok (.getfield 90, 3) := by decide +kernel
theorem dX8_readWord_116 : decode cX8_readWord 116 = .ok (.iload_n 1, 1) := by decide +kernel
theorem dX8_readWord_117 : decode cX8_readWord 117 = .ok (.if_icmp .ge 72, 3) := by decide +kernel
theorem dX8_readWord_120 : decode cX8_readWord 120 = .ok (.aload_n 0, 1) := by decide +kernel
theorem dX8_readWord_121 : decode cX8_readWord 121 = .ok (.getfield 16, 3) := by decide +kernel
theorem dX8_readWord_124 : decode cX8_readWord 124 = .ok (.aload_n 0, 1) := by decide +kernel
theorem dX8_readWord_125 : decode cX8_readWord 125 = .ok (.getfield 90, 3) := by decide +kernel
theorem dX8_readWord_128 : decode cX8_readWord 128 = .ok (.iaload, 1) := by decide +kernel
theorem dX8_readWord_129 : decode cX8_readWord 129 = .ok (.bipush 97, 2) := by decide +kernel
theorem dX8_readWord_131 : decode cX8_readWord 131 = .ok (.bipush 99, 2) := by decide +kernel
theorem dX8_readWord_133 : decode cX8_readWord 133 = .ok (.invokestatic 83, 3) := by decide +kernel
theorem dX8_readWord_136 : decode cX8_readWord 136 = .ok (.ifCond .eq 53, 3) := by decide +kernel
theorem dX8_readWord_139 : decode cX8_readWord 139 = .ok (.aload_n 0, 1) := by decide +kernel
theorem dX8_readWord_140 : decode cX8_readWord 140 = .ok (.getfield 37, 3) := by decide +kernel
theorem dX8_readWord_143 : decode cX8_readWord 143 = .ok (.iconst 4, 1) := by decide +kernel
theorem dX8_readWord_144 : decode cX8_readWord 144 = .ok (.iload_n 2, 1) := by decide +kernel
theorem dX8_readWord_145 : decode cX8_readWord 145 = .ok (.imul, 1) := by decide +kernel
theorem dX8_readWord_146 : decode cX8_readWord 146 = .ok (.aload_n 0, 1) := by decide +kernel
theorem dX8_readWord_147 : decode cX8_readWord 147 = .ok (.getfield 34, 3) := by decide +kernel
theorem dX8_readWord_150 : decode cX8_readWord 150 = .ok (.iload_n 2, 1) := by decide +kernel
theorem dX8_readWord_151 : decode cX8_readWord 151 = .ok (.iaload, 1) := by decide +kernel
theorem dX8_readWord_152 : decode cX8_readWord 152 = .ok (.iadd, 1) := by decide +kernel
theorem dX8_readWord_153 : decode cX8_readWord 153 = .ok (.aload_n 0, 1) := by decide +kernel
theorem dX8_readWord_154 : decode cX8_readWord 154 = .ok (.getfield 16, 3) := by decide +kernel
theorem dX8_readWord_157 : decode cX8_readWord 157 = .ok (.aload_n 0, 1) := by decide +kernel
theorem dX8_readWord_158 : decode cX8_readWord 158 = .ok (.getfield 90, 3) := by decide +kernel
theorem dX8_readWord_161 : decode cX8_readWord 161 = .ok (.iaload, 1) := by decide +kernel
theorem dX8_readWord_162 : decode cX8_readWord 162 = .ok (.bipush 97, 2) := by decide +kernel
theorem dX8_readWord_164 : decode cX8_readWord 164 = .ok (.isub, 1) := by decide +kernel
theorem dX8_readWord_165 : decode cX8_readWord 165 = .ok (.iastore, 1) := by decide +kernel
theorem dX8_readWord_166 : decode cX8_readWord 166 = .ok (.aload_n 0, 1) := by decide +kernel
theorem dX8_readWord_167 : decode cX8_readWord 167 = .ok (.getfield 34, 3) := by decide +kernel
theorem dX8_readWord_170 : decode cX8_readWord 170 = .ok (.iload_n 2, 1) := by decide +kernel
theorem dX8_readWord_171 : decode cX8_readWord 171 = .ok (.dup2, 1) := by decide +kernel
theorem dX8_readWord_172 : decode cX8_readWord 172 = .ok (.iaload, 1) := by decide +kernel
theorem dX8_readWord_173 : decode cX8_readWord 173 = .ok (.iconst 1, 1) := by decide +kernel
theorem dX8_readWord_174 : decode cX8_readWord 174 = .ok (.iadd, 1) := by decide +kernel
theorem dX8_readWord_175 : decode cX8_readWord 175 = .ok (.iastore, 1) := by decide +kernel
theorem dX8_readWord_176 : decode cX8_readWord 176 = .ok (.aload_n 0, 1) := by decide +kernel
theorem dX8_readWord_177 : decode cX8_readWord 177 = .ok (.dup, 1) := by decide +kernel
theorem dX8_readWord_178 : decode cX8_readWord 178 = .ok (.getfield 90, 3) := by decide +kernel
theorem dX8_readWord_181 : decode cX8_readWord 181 = .ok (.iconst 1, 1) := by decide +kernel
theorem dX8_readWord_182 : decode cX8_readWord 182 = .ok (.iadd, 1) := by decide +kernel
theorem dX8_readWord_183 : decode cX8_readWord 183 = .ok (.putfield 90, 3) := by decide +kernel
theorem dX8_readWord_186 : decode cX8_readWord 186 = .ok (.goto (-84), 3) := by decide +kernel
theorem dX8_readWord_189 : decode cX8_readWord 189 = .ok (.aload_n 0, 1) := by decide +kernel
theorem dX8_readWord_190 : decode cX8_readWord 190 = .ok (.getfield 34, 3) := by decide +kernel
theorem dX8_readWord_193 : decode cX8_readWord 193 = .ok (.iload_n 2, 1) := by decide +kernel
theorem dX8_readWord_194 : decode cX8_readWord 194 = .ok (.iaload, 1) := by decide +kernel
theorem dX8_readWord_195 : decode cX8_readWord 195 = .ok (.ifCond .le 7, 3) := by decide +kernel
theorem dX8_readWord_198 : decode cX8_readWord 198 = .ok (.iconst 1, 1) := by decide +kernel
theorem dX8_readWord_199 : decode cX8_readWord 199 = .ok (.goto 4, 3) := by decide +kernel
theorem dX8_readWord_202 : decode cX8_readWord 202 = .ok (.iconst 0, 1) := by decide +kernel
theorem dX8_readWord_203 : decode cX8_readWord 203 = .ok (.ireturn, 1) := by decide +kernel
theorem dX8_letterOf_0 : decode cX8_letterOf 0 = .ok (.aload_n 0, 1) := by decide +kernel
theorem dX8_letterOf_1 : decode cX8_letterOf 1 = .ok (.getfield 22, 3) := by decide +kernel
theorem dX8_letterOf_4 : decode cX8_letterOf 4 = .ok (.iload_n 1, 1) := by decide +kernel
theorem dX8_letterOf_5 : decode cX8_letterOf 5 = .ok (.iaload, 1) := by decide +kernel
theorem dX8_letterOf_6 : decode cX8_letterOf 6 = .ok (.istore 4, 2) := by decide +kernel
theorem dX8_letterOf_8 : decode cX8_letterOf 8 = .ok (.iload_n 2, 1) := by decide +kernel
theorem dX8_letterOf_9 : decode cX8_letterOf 9 = .ok (.ifCond .eq 12, 3) := by decide +kernel
theorem dX8_letterOf_12 : decode cX8_letterOf 12 = .ok (.aload_n 0, 1) := by decide +kernel
theorem dX8_letterOf_13 : decode cX8_letterOf 13 = .ok (.getfield 19, 3) := by decide +kernel
theorem dX8_letterOf_16 : decode cX8_letterOf 16 = .ok (.iload_n 1, 1) := by decide +kernel
theorem dX8_letterOf_17 : decode cX8_letterOf 17 = .ok (.iaload, 1) := by decide +kernel
theorem dX8_letterOf_18 : decode cX8_letterOf 18 = .ok (.ifCond .ne 7, 3) := by decide +kernel
theorem dX8_letterOf_21 : decode cX8_letterOf 21 = .ok (.iload_n 3, 1) := by decide +kernel
theorem dX8_letterOf_22 : decode cX8_letterOf 22 = .ok (.goto 28, 3) := by decide +kernel
theorem dX8_letterOf_25 : decode cX8_letterOf 25 = .ok (.aload_n 0, 1) := by decide +kernel
theorem dX8_letterOf_26 : decode cX8_letterOf 26 = .ok (.getfield 19, 3) := by decide +kernel
theorem dX8_letterOf_29 : decode cX8_letterOf 29 = .ok (.iload_n 1, 1) := by decide +kernel
theorem dX8_letterOf_30 : decode cX8_letterOf 30 = .ok (.iaload, 1) := by decide +kernel
theorem dX8_letterOf_31 : decode cX8_letterOf 31 = .ok (.iconst 1, 1) := by decide +kernel
theorem dX8_letterOf_32 : decode cX8_letterOf 32 = .ok (.if_icmp .ne 12, 3) := by decide +kernel
theorem dX8_letterOf_35 : decode cX8_letterOf 35 = .ok (.iload 4, 2) := by decide +kernel
theorem dX8_letterOf_37 : decode cX8_letterOf 37 = .ok (.iconst 1, 1) := by decide +kernel
theorem dX8_letterOf_38 : decode cX8_letterOf 38 = .ok (.isub, 1) := by decide +kernel
theorem dX8_letterOf_39 : decode cX8_letterOf 39 = .ok (.iload_n 3, 1) := by decide +kernel
theorem dX8_letterOf_40 : decode cX8_letterOf 40 = .ok (.isub, 1) := by decide +kernel
theorem dX8_letterOf_41 : decode cX8_letterOf 41 = .ok (.goto 9, 3) := by decide +kernel
theorem dX8_letterOf_44 : decode cX8_letterOf 44 = .ok (.iload_n 3, 1) := by decide +kernel
theorem dX8_letterOf_45 : decode cX8_letterOf 45 = .ok (.iconst 1, 1) := by decide +kernel
theorem dX8_letterOf_46 : decode cX8_letterOf 46 = .ok (.iadd, 1) := by decide +kernel
theorem dX8_letterOf_47 : decode cX8_letterOf 47 = .ok (.iload 4, 2) := by decide +kernel
theorem dX8_letterOf_49 : decode cX8_letterOf 49 = .ok (.irem, 1) := by decide +kernel
theorem dX8_letterOf_50 : decode cX8_letterOf 50 = .ok (.istore 5, 2) := by decide +kernel
theorem dX8_letterOf_52 : decode cX8_letterOf 52 = .ok (.aload_n 0, 1) := by decide +kernel
theorem dX8_letterOf_53 : decode cX8_letterOf 53 = .ok (.getfield 25, 3) := by decide +kernel
theorem dX8_letterOf_56 : decode cX8_letterOf 56 = .ok (.iconst 4, 1) := by decide +kernel
theorem dX8_letterOf_57 : decode cX8_letterOf 57 = .ok (.iload_n 1, 1) := by decide +kernel
theorem dX8_letterOf_58 : decode cX8_letterOf 58 = .ok (.imul, 1) := by decide +kernel
theorem dX8_letterOf_59 : decode cX8_letterOf 59 = .ok (.iload 5, 2) := by decide +kernel
theorem dX8_letterOf_61 : decode cX8_letterOf 61 = .ok (.iadd, 1) := by decide +kernel
theorem dX8_letterOf_62 : decode cX8_letterOf 62 = .ok (.iaload, 1) := by decide +kernel
theorem dX8_letterOf_63 : decode cX8_letterOf 63 = .ok (.ireturn, 1) := by decide +kernel
theorem dX8_areForms_0 : decode cX8_areForms 0 = .ok (.iconst 0, 1) := by decide +kernel
theorem dX8_areForms_1 : decode cX8_areForms 1 = .ok (.istore_n 2, 1) := by decide +kernel
theorem dX8_areForms_2 : decode cX8_areForms 2 = .ok (.iload_n 2, 1) := by decide +kernel
theorem dX8_areForms_3 : decode cX8_areForms 3 = .ok (.aload_n 0, 1) := by decide +kernel
theorem dX8_areForms_4 : decode cX8_areForms 4 = .ok (.getfield 22, 3) := by decide +kernel
theorem dX8_areForms_7 : decode cX8_areForms 7 = .ok (.iload_n 1, 1) := by decide +kernel
theorem dX8_areForms_8 : decode cX8_areForms 8 = .ok (.iaload, 1) := by decide +kernel
theorem dX8_areForms_9 : decode cX8_areForms 9 = .ok (.if_icmp .ge 28, 3) := by decide +kernel
theorem dX8_areForms_12 : decode cX8_areForms 12 = .ok (.aload_n 0, 1) := by decide +kernel
theorem dX8_areForms_13 : decode cX8_areForms 13 = .ok (.iload_n 1, 1) := by decide +kernel
theorem dX8_areForms_14 : decode cX8_areForms 14 = .ok (.iconst 0, 1) := by decide +kernel
theorem dX8_areForms_15 : decode cX8_areForms 15 = .ok (.iload_n 2, 1) := by decide +kernel
theorem dX8_areForms_16 : decode cX8_areForms 16 = .ok (.invokevirtual 126, 3) := by decide +kernel
theorem dX8_areForms_19 : decode cX8_areForms 19 = .ok (.aload_n 0, 1) := by decide +kernel
theorem dX8_areForms_20 : decode cX8_areForms 20 = .ok (.iload_n 1, 1) := by decide +kernel
theorem dX8_areForms_21 : decode cX8_areForms 21 = .ok (.iconst 1, 1) := by decide +kernel
theorem dX8_areForms_22 : decode cX8_areForms 22 = .ok (.iload_n 2, 1) := by decide +kernel
theorem dX8_areForms_23 : decode cX8_areForms 23 = .ok (.invokevirtual 126, 3) := by decide +kernel
theorem dX8_areForms_26 : decode cX8_areForms 26 = .ok (.if_icmp .eq 5, 3) := by decide +kernel
theorem dX8_areForms_29 : decode cX8_areForms 29 = .ok (.iconst 1, 1) := by decide +kernel
theorem dX8_areForms_30 : decode cX8_areForms 30 = .ok (.ireturn, 1) := by decide +kernel
theorem dX8_areForms_31 : decode cX8_areForms 31 = .ok (.iinc 2 1, 3) := by decide +kernel
theorem dX8_areForms_34 : decode cX8_areForms 34 = .ok (.goto (-32), 3) := by decide +kernel
theorem dX8_areForms_37 : decode cX8_areForms 37 = .ok (.iconst 0, 1) := by decide +kernel
theorem dX8_areForms_38 : decode cX8_areForms 38 = .ok (.ireturn, 1) := by decide +kernel
theorem dX8_isHeard_0 : decode cX8_isHeard 0 = .ok (.iload_n 2, 1) := by decide +kernel
theorem dX8_isHeard_1 : decode cX8_isHeard 1 = .ok (.aload_n 0, 1) := by decide +kernel
theorem dX8_isHeard_2 : decode cX8_isHeard 2 = .ok (.getfield 22, 3) := by decide +kernel
theorem dX8_isHeard_5 : decode cX8_isHeard 5 = .ok (.iload_n 1, 1) := by decide +kernel
theorem dX8_isHeard_6 : decode cX8_isHeard 6 = .ok (.iaload, 1) := by decide +kernel
theorem dX8_isHeard_7 : decode cX8_isHeard 7 = .ok (.if_icmp .ge 5, 3) := by decide +kernel
theorem dX8_isHeard_10 : decode cX8_isHeard 10 = .ok (.iconst 0, 1) := by decide +kernel
theorem dX8_isHeard_11 : decode cX8_isHeard 11 = .ok (.ireturn, 1) := by decide +kernel
theorem dX8_isHeard_12 : decode cX8_isHeard 12 = .ok (.iconst 0, 1) := by decide +kernel
theorem dX8_isHeard_13 : decode cX8_isHeard 13 = .ok (.istore_n 3, 1) := by decide +kernel
theorem dX8_isHeard_14 : decode cX8_isHeard 14 = .ok (.iload_n 3, 1) := by decide +kernel
theorem dX8_isHeard_15 : decode cX8_isHeard 15 = .ok (.iconst 2, 1) := by decide +kernel
theorem dX8_isHeard_16 : decode cX8_isHeard 16 = .ok (.if_icmp .ge 78, 3) := by decide +kernel
theorem dX8_isHeard_19 : decode cX8_isHeard 19 = .ok (.iconst 1, 1) := by decide +kernel
theorem dX8_isHeard_20 : decode cX8_isHeard 20 = .ok (.istore 4, 2) := by decide +kernel
theorem dX8_isHeard_22 : decode cX8_isHeard 22 = .ok (.iconst 0, 1) := by decide +kernel
theorem dX8_isHeard_23 : decode cX8_isHeard 23 = .ok (.istore 5, 2) := by decide +kernel
theorem dX8_isHeard_25 : decode cX8_isHeard 25 = .ok (.iload 5, 2) := by decide +kernel
theorem dX8_isHeard_27 : decode cX8_isHeard 27 = .ok (.aload_n 0, 1) := by decide +kernel
theorem dX8_isHeard_28 : decode cX8_isHeard 28 = .ok (.getfield 22, 3) := by decide +kernel
theorem dX8_isHeard_31 : decode cX8_isHeard 31 = .ok (.iload_n 1, 1) := by decide +kernel
theorem dX8_isHeard_32 : decode cX8_isHeard 32 = .ok (.iaload, 1) := by decide +kernel
theorem dX8_isHeard_33 : decode cX8_isHeard 33 = .ok (.if_icmp .ge 48, 3) := by decide +kernel
theorem dX8_isHeard_36 : decode cX8_isHeard 36 = .ok (.iload 4, 2) := by decide +kernel
theorem dX8_isHeard_38 : decode cX8_isHeard 38 = .ok (.ifCond .eq 43, 3) := by decide +kernel
theorem dX8_isHeard_41 : decode cX8_isHeard 41 = .ok (.aload_n 0, 1) := by decide +kernel
theorem dX8_isHeard_42 : decode cX8_isHeard 42 = .ok (.getfield 40, 3) := by decide +kernel
theorem dX8_isHeard_45 : decode cX8_isHeard 45 = .ok (.iload_n 2, 1) := by decide +kernel
theorem dX8_isHeard_46 : decode cX8_isHeard 46 = .ok (.aload_n 0, 1) := by decide +kernel
theorem dX8_isHeard_47 : decode cX8_isHeard 47 = .ok (.getfield 22, 3) := by decide +kernel
theorem dX8_isHeard_50 : decode cX8_isHeard 50 = .ok (.iload_n 1, 1) := by decide +kernel
theorem dX8_isHeard_51 : decode cX8_isHeard 51 = .ok (.iaload, 1) := by decide +kernel
theorem dX8_isHeard_52 : decode cX8_isHeard 52 = .ok (.isub, 1) := by decide +kernel
theorem dX8_isHeard_53 : decode cX8_isHeard 53 = .ok (.iload 5, 2) := by decide +kernel
theorem dX8_isHeard_55 : decode cX8_isHeard 55 = .ok (.iadd, 1) := by decide +kernel
theorem dX8_isHeard_56 : decode cX8_isHeard 56 = .ok (.iaload, 1) := by decide +kernel
theorem dX8_isHeard_57 : decode cX8_isHeard 57 = .ok (.aload_n 0, 1) := by decide +kernel
theorem dX8_isHeard_58 : decode cX8_isHeard 58 = .ok (.iload_n 1, 1) := by decide +kernel
theorem dX8_isHeard_59 : decode cX8_isHeard 59 = .ok (.iload_n 3, 1) := by decide +kernel
theorem dX8_isHeard_60 : decode cX8_isHeard 60 = .ok (.iload 5, 2) := by decide +kernel
theorem dX8_isHeard_62 : decode cX8_isHeard 62 = .ok (.invokevirtual 126, 3) := by decide +kernel
theorem dX8_isHeard_65 : decode cX8_isHeard 65 = .ok (.if_icmp .ne 7, 3) := by decide +kernel
theorem dX8_isHeard_68 : decode cX8_isHeard 68 = .ok (.iconst 1, 1) := by decide +kernel
theorem dX8_isHeard_69 : decode cX8_isHeard 69 = .ok (.goto 4, 3) := by decide +kernel
theorem dX8_isHeard_72 : decode cX8_isHeard 72 = .ok (.iconst 0, 1) := by decide +kernel
theorem dX8_isHeard_73 : decode cX8_isHeard 73 = .ok (.istore 4, 2) := by decide +kernel
theorem dX8_isHeard_75 : decode cX8_isHeard 75 = .ok (.iinc 5 1, 3) := by decide +kernel
theorem dX8_isHeard_78 : decode cX8_isHeard 78 = .ok (.goto (-53), 3) := by decide +kernel
theorem dX8_isHeard_81 : decode cX8_isHeard 81 = .ok (.iload 4, 2) := by decide +kernel
theorem dX8_isHeard_83 : decode cX8_isHeard 83 = .ok (.ifCond .eq 5, 3) := by decide +kernel
theorem dX8_isHeard_86 : decode cX8_isHeard 86 = .ok (.iconst 1, 1) := by decide +kernel
theorem dX8_isHeard_87 : decode cX8_isHeard 87 = .ok (.ireturn, 1) := by decide +kernel
theorem dX8_isHeard_88 : decode cX8_isHeard 88 = .ok (.iinc 3 1, 3) := by decide +kernel
theorem dX8_isHeard_91 : decode cX8_isHeard 91 = .ok (.goto (-77), 3) := by decide +kernel
theorem dX8_isHeard_94 : decode cX8_isHeard 94 = .ok (.iconst 0, 1) := by decide +kernel
theorem dX8_isHeard_95 : decode cX8_isHeard 95 = .ok (.ireturn, 1) := by decide +kernel
theorem dX8_heardBehind_0 : decode cX8_heardBehind 0 = .ok (.iconst 0, 1) := by decide +kernel
theorem dX8_heardBehind_1 : decode cX8_heardBehind 1 = .ok (.istore_n 2, 1) := by decide +kernel
theorem dX8_heardBehind_2 : decode cX8_heardBehind 2 = .ok (.iconst 0, 1) := by decide +kernel
theorem dX8_heardBehind_3 : decode cX8_heardBehind 3 = .ok (.istore_n 3, 1) := by decide +kernel
theorem dX8_heardBehind_4 : decode cX8_heardBehind 4 = .ok (.iload_n 3, 1) := by decide +kernel
theorem dX8_heardBehind_5 : decode cX8_heardBehind 5 = .ok (.aload_n 0, 1) := by decide +kernel
theorem dX8_heardBehind_6 : decode cX8_heardBehind 6 = .ok (.getfield 87, 3) := by decide +kernel
theorem dX8_heardBehind_9 : decode cX8_heardBehind 9 = .ok (.if_icmp .ge 28, 3) := by decide +kernel
theorem dX8_heardBehind_12 : decode cX8_heardBehind 12 = .ok (.iload_n 2, 1) := by decide +kernel
theorem dX8_heardBehind_13 : decode cX8_heardBehind 13 = .ok (.aload_n 0, 1) := by decide +kernel
theorem dX8_heardBehind_14 : decode cX8_heardBehind 14 = .ok (.iload_n 3, 1) := by decide +kernel
theorem dX8_heardBehind_15 : decode cX8_heardBehind 15 = .ok (.iload_n 1, 1) := by decide +kernel
theorem dX8_heardBehind_16 : decode cX8_heardBehind 16 = .ok (.invokevirtual 130, 3) := by decide +kernel
theorem dX8_heardBehind_19 : decode cX8_heardBehind 19 = .ok (.ifCond .eq 9, 3) := by decide +kernel
theorem dX8_heardBehind_22 : decode cX8_heardBehind 22 = .ok (.iconst 1, 1) := by decide +kernel
theorem dX8_heardBehind_23 : decode cX8_heardBehind 23 = .ok (.iload_n 3, 1) := by decide +kernel
theorem dX8_heardBehind_24 : decode cX8_heardBehind 24 = .ok (.ishl, 1) := by decide +kernel
theorem dX8_heardBehind_25 : decode cX8_heardBehind 25 = .ok (.goto 4, 3) := by decide +kernel
theorem dX8_heardBehind_28 : decode cX8_heardBehind 28 = .ok (.iconst 0, 1) := by decide +kernel
theorem dX8_heardBehind_29 : decode cX8_heardBehind 29 = .ok (.ior, 1) := by decide +kernel
theorem dX8_heardBehind_30 : decode cX8_heardBehind 30 = .ok (.istore_n 2, 1) := by decide +kernel
theorem dX8_heardBehind_31 : decode cX8_heardBehind 31 = .ok (.iinc 3 1, 3) := by decide +kernel
theorem dX8_heardBehind_34 : decode cX8_heardBehind 34 = .ok (.goto (-30), 3) := by decide +kernel
theorem dX8_heardBehind_37 : decode cX8_heardBehind 37 = .ok (.iload_n 2, 1) := by decide +kernel
theorem dX8_heardBehind_38 : decode cX8_heardBehind 38 = .ok (.ireturn, 1) := by decide +kernel
theorem dX8_timesHeard_0 : decode cX8_timesHeard 0 = .ok (.iconst 0, 1) := by decide +kernel
theorem dX8_timesHeard_1 : decode cX8_timesHeard 1 = .ok (.istore_n 2, 1) := by decide +kernel
theorem dX8_timesHeard_2 : decode cX8_timesHeard 2 = .ok (.iconst 1, 1) := by decide +kernel
theorem dX8_timesHeard_3 : decode cX8_timesHeard 3 = .ok (.istore_n 3, 1) := by decide +kernel
theorem dX8_timesHeard_4 : decode cX8_timesHeard 4 = .ok (.iload_n 3, 1) := by decide +kernel
theorem dX8_timesHeard_5 : decode cX8_timesHeard 5 = .ok (.aload_n 0, 1) := by decide +kernel
theorem dX8_timesHeard_6 : decode cX8_timesHeard 6 = .ok (.getfield 133, 3) := by decide +kernel
theorem dX8_timesHeard_9 : decode cX8_timesHeard 9 = .ok (.if_icmp .gt 26, 3) := by decide +kernel
theorem dX8_timesHeard_12 : decode cX8_timesHeard 12 = .ok (.iload_n 2, 1) := by decide +kernel
theorem dX8_timesHeard_13 : decode cX8_timesHeard 13 = .ok (.aload_n 0, 1) := by decide +kernel
theorem dX8_timesHeard_14 : decode cX8_timesHeard 14 = .ok (.iload_n 1, 1) := by decide +kernel
theorem dX8_timesHeard_15 : decode cX8_timesHeard 15 = .ok (.iload_n 3, 1) := by decide +kernel
theorem dX8_timesHeard_16 : decode cX8_timesHeard 16 = .ok (.invokevirtual 130, 3) := by decide +kernel
theorem dX8_timesHeard_19 : decode cX8_timesHeard 19 = .ok (.ifCond .eq 7, 3) := by decide +kernel
theorem dX8_timesHeard_22 : decode cX8_timesHeard 22 = .ok (.iconst 1, 1) := by decide +kernel
theorem dX8_timesHeard_23 : decode cX8_timesHeard 23 = .ok (.goto 4, 3) := by decide +kernel
theorem dX8_timesHeard_26 : decode cX8_timesHeard 26 = .ok (.iconst 0, 1) := by decide +kernel
theorem dX8_timesHeard_27 : decode cX8_timesHeard 27 = .ok (.iadd, 1) := by decide +kernel
theorem dX8_timesHeard_28 : decode cX8_timesHeard 28 = .ok (.istore_n 2, 1) := by decide +kernel
theorem dX8_timesHeard_29 : decode cX8_timesHeard 29 = .ok (.iinc 3 1, 3) := by decide +kernel
theorem dX8_timesHeard_32 : decode cX8_timesHeard 32 = .ok (.goto (-28), 3) := by decide +kernel
theorem dX8_timesHeard_35 : decode cX8_timesHeard 35 = .ok (.iload_n 2, 1) := by decide +kernel
theorem dX8_timesHeard_36 : decode cX8_timesHeard 36 = .ok (.ireturn, 1) := by decide +kernel
theorem dX8_standing_0 : decode cX8_standing 0 = .ok (.iconst 0, 1) := by decide +kernel
theorem dX8_standing_1 : decode cX8_standing 1 = .ok (.istore_n 1, 1) := by decide +kernel
theorem dX8_standing_2 : decode cX8_standing 2 = .ok (.iconst 0, 1) := by decide +kernel
theorem dX8_standing_3 : decode cX8_standing 3 = .ok (.istore_n 2, 1) := by decide +kernel
theorem dX8_standing_4 : decode cX8_standing 4 = .ok (.iload_n 2, 1) := by decide +kernel
theorem dX8_standing_5 : decode cX8_standing 5 = .ok (.aload_n 0, 1) := by decide +kernel
theorem dX8_standing_6 : decode cX8_standing 6 = .ok (.getfield 87, 3) := by decide +kernel
theorem dX8_standing_9 : decode cX8_standing 9 = .ok (.if_icmp .ge 27, 3) := by decide +kernel
theorem dX8_standing_12 : decode cX8_standing 12 = .ok (.iload_n 1, 1) := by decide +kernel
theorem dX8_standing_13 : decode cX8_standing 13 = .ok (.aload_n 0, 1) := by decide +kernel
theorem dX8_standing_14 : decode cX8_standing 14 = .ok (.iload_n 2, 1) := by decide +kernel
theorem dX8_standing_15 : decode cX8_standing 15 = .ok (.invokevirtual 136, 3) := by decide +kernel
theorem dX8_standing_18 : decode cX8_standing 18 = .ok (.ifCond .le 9, 3) := by decide +kernel
theorem dX8_standing_21 : decode cX8_standing 21 = .ok (.iconst 1, 1) := by decide +kernel
theorem dX8_standing_22 : decode cX8_standing 22 = .ok (.iload_n 2, 1) := by decide +kernel
theorem dX8_standing_23 : decode cX8_standing 23 = .ok (.ishl, 1) := by decide +kernel
theorem dX8_standing_24 : decode cX8_standing 24 = .ok (.goto 4, 3) := by decide +kernel
theorem dX8_standing_27 : decode cX8_standing 27 = .ok (.iconst 0, 1) := by decide +kernel
theorem dX8_standing_28 : decode cX8_standing 28 = .ok (.ior, 1) := by decide +kernel
theorem dX8_standing_29 : decode cX8_standing 29 = .ok (.istore_n 1, 1) := by decide +kernel
theorem dX8_standing_30 : decode cX8_standing 30 = .ok (.iinc 2 1, 3) := by decide +kernel
theorem dX8_standing_33 : decode cX8_standing 33 = .ok (.goto (-29), 3) := by decide +kernel
theorem dX8_standing_36 : decode cX8_standing 36 = .ok (.iload_n 1, 1) := by decide +kernel
theorem dX8_standing_37 : decode cX8_standing 37 = .ok (.ireturn, 1) := by decide +kernel
theorem dX8_lookAtSaid_0 : decode cX8_lookAtSaid 0 = .ok (.aload_n 0, 1) := by decide +kernel
theorem dX8_lookAtSaid_1 : decode cX8_lookAtSaid 1 = .ok (.aload_n 0, 1) := by decide +kernel
theorem dX8_lookAtSaid_2 : decode cX8_lookAtSaid 2 = .ok (.getfield 114, 3) := by decide +kernel
theorem dX8_lookAtSaid_5 : decode cX8_lookAtSaid 5 = .ok (.putfield 133, 3) := by decide +kernel
theorem dX8_lookAtSaid_8 : decode cX8_lookAtSaid 8 = .ok (.iconst 0, 1) := by decide +kernel
theorem dX8_lookAtSaid_9 : decode cX8_lookAtSaid 9 = .ok (.istore_n 1, 1) := by decide +kernel
theorem dX8_lookAtSaid_10 : decode cX8_lookAtSaid 10 = .ok (.iload_n 1, 1) := by decide +kernel
theorem dX8_lookAtSaid_11 : decode cX8_lookAtSaid 11 = .ok (.aload_n 0, 1) := by decide +kernel
theorem dX8_lookAtSaid_12 : decode cX8_lookAtSaid 12 = .ok (.getfield 114, 3) := by decide +kernel
theorem dX8_lookAtSaid_15 : decode cX8_lookAtSaid 15 = .ok (.if_icmp .ge 21, 3) := by decide +kernel
theorem dX8_lookAtSaid_18 : decode cX8_lookAtSaid 18 = .ok (.aload_n 0, 1) := by decide +kernel
theorem dX8_lookAtSaid_19 : decode cX8_lookAtSaid 19 = .ok (.getfield 40, 3) := by decide +kernel
theorem dX8_lookAtSaid_22 : decode cX8_lookAtSaid 22 = .ok (.iload_n 1, 1) := by decide +kernel
theorem dX8_lookAtSaid_23 : decode cX8_lookAtSaid 23 = .ok (.aload_n 0, 1) := by decide +kernel
theorem dX8_lookAtSaid_24 : decode cX8_lookAtSaid 24 = .ok (.getfield 28, 3) := by decide +kernel
theorem dX8_lookAtSaid_27 : decode cX8_lookAtSaid 27 = .ok (.iload_n 1, 1) := by decide +kernel
theorem dX8_lookAtSaid_28 : decode cX8_lookAtSaid 28 = .ok (.iaload, 1) := by decide +kernel
theorem dX8_lookAtSaid_29 : decode cX8_lookAtSaid 29 = .ok (.iastore, 1) := by decide +kernel
theorem dX8_lookAtSaid_30 : decode cX8_lookAtSaid 30 = .ok (.iinc 1 1, 3) := by decide +kernel
theorem dX8_lookAtSaid_33 : decode cX8_lookAtSaid 33 = .ok (.goto (-23), 3) := by decide +kernel
theorem dX8_lookAtSaid_36 : decode cX8_lookAtSaid 36 = .ok (.return_, 1) := by decide +kernel
theorem dX8_lookAtCells_0 : decode cX8_lookAtCells 0 = .ok (.aload_n 0, 1) := by decide +kernel
theorem dX8_lookAtCells_1 : decode cX8_lookAtCells 1 = .ok (.iload_n 2, 1) := by decide +kernel
theorem dX8_lookAtCells_2 : decode cX8_lookAtCells 2 = .ok (.putfield 133, 3) := by decide +kernel
theorem dX8_lookAtCells_5 : decode cX8_lookAtCells 5 = .ok (.iconst 0, 1) := by decide +kernel
theorem dX8_lookAtCells_6 : decode cX8_lookAtCells 6 = .ok (.istore_n 3, 1) := by decide +kernel
theorem dX8_lookAtCells_7 : decode cX8_lookAtCells 7 = .ok (.iload_n 3, 1) := by decide +kernel
theorem dX8_lookAtCells_8 : decode cX8_lookAtCells 8 = .ok (.iload_n 2, 1) := by decide +kernel
theorem dX8_lookAtCells_9 : decode cX8_lookAtCells 9 = .ok (.if_icmp .ge 23, 3) := by decide +kernel
theorem dX8_lookAtCells_12 : decode cX8_lookAtCells 12 = .ok (.aload_n 0, 1) := by decide +kernel
theorem dX8_lookAtCells_13 : decode cX8_lookAtCells 13 = .ok (.getfield 40, 3) := by decide +kernel
theorem dX8_lookAtCells_16 : decode cX8_lookAtCells 16 = .ok (.iload_n 3, 1) := by decide +kernel
theorem dX8_lookAtCells_17 : decode cX8_lookAtCells 17 = .ok (.aload_n 0, 1) := by decide +kernel
theorem dX8_lookAtCells_18 : decode cX8_lookAtCells 18 = .ok (.getfield 16, 3) := by decide +kernel
theorem dX8_lookAtCells_21 : decode cX8_lookAtCells 21 = .ok (.iload_n 1, 1) := by decide +kernel
theorem dX8_lookAtCells_22 : decode cX8_lookAtCells 22 = .ok (.iload_n 3, 1) := by decide +kernel
theorem dX8_lookAtCells_23 : decode cX8_lookAtCells 23 = .ok (.iadd, 1) := by decide +kernel
theorem dX8_lookAtCells_24 : decode cX8_lookAtCells 24 = .ok (.iaload, 1) := by decide +kernel
theorem dX8_lookAtCells_25 : decode cX8_lookAtCells 25 = .ok (.iastore, 1) := by decide +kernel
theorem dX8_lookAtCells_26 : decode cX8_lookAtCells 26 = .ok (.iinc 3 1, 3) := by decide +kernel
theorem dX8_lookAtCells_29 : decode cX8_lookAtCells 29 = .ok (.goto (-22), 3) := by decide +kernel
theorem dX8_lookAtCells_32 : decode cX8_lookAtCells 32 = .ok (.return_, 1) := by decide +kernel
theorem dX8_ofWord_0 : decode cX8_ofWord 0 = .ok (.aload_n 0, 1) := by decide +kernel
theorem dX8_ofWord_1 : decode cX8_ofWord 1 = .ok (.iload_n 1, 1) := by decide +kernel
theorem dX8_ofWord_2 : decode cX8_ofWord 2 = .ok (.invokevirtual 139, 3) := by decide +kernel
theorem dX8_ofWord_5 : decode cX8_ofWord 5 = .ok (.ifCond .ne 5, 3) := by decide +kernel
theorem dX8_ofWord_8 : decode cX8_ofWord 8 = .ok (.iconst (-1), 1) := by decide +kernel
theorem dX8_ofWord_9 : decode cX8_ofWord 9 = .ok (.ireturn, 1) := by decide +kernel
theorem dX8_ofWord_10 : decode cX8_ofWord 10 = .ok (.iload_n 2, 1) := by decide +kernel
theorem dX8_ofWord_11 : decode cX8_ofWord 11 = .ok (.bipush 10, 2) := by decide +kernel
theorem dX8_ofWord_13 : decode cX8_ofWord 13 = .ok (.bipush 13, 2) := by decide +kernel
theorem dX8_ofWord_15 : decode cX8_ofWord 15 = .ok (.invokestatic 83, 3) := by decide +kernel
theorem dX8_ofWord_18 : decode cX8_ofWord 18 = .ok (.ifCond .eq 35, 3) := by decide +kernel
theorem dX8_ofWord_21 : decode cX8_ofWord 21 = .ok (.iload_n 2, 1) := by decide +kernel
theorem dX8_ofWord_22 : decode cX8_ofWord 22 = .ok (.bipush 10, 2) := by decide +kernel
theorem dX8_ofWord_24 : decode cX8_ofWord 24 = .ok (.isub, 1) := by decide +kernel
theorem dX8_ofWord_25 : decode cX8_ofWord 25 = .ok (.aload_n 0, 1) := by decide +kernel
theorem dX8_ofWord_26 : decode cX8_ofWord 26 = .ok (.getfield 22, 3) := by decide +kernel
theorem dX8_ofWord_29 : decode cX8_ofWord 29 = .ok (.iload_n 1, 1) := by decide +kernel
theorem dX8_ofWord_30 : decode cX8_ofWord 30 = .ok (.iaload, 1) := by decide +kernel
theorem dX8_ofWord_31 : decode cX8_ofWord 31 = .ok (.if_icmp .ge 19, 3) := by decide +kernel
theorem dX8_ofWord_34 : decode cX8_ofWord 34 = .ok (.aload_n 0, 1) := by decide +kernel
theorem dX8_ofWord_35 : decode cX8_ofWord 35 = .ok (.getfield 25, 3) := by decide +kernel
theorem dX8_ofWord_38 : decode cX8_ofWord 38 = .ok (.iconst 4, 1) := by decide +kernel
theorem dX8_ofWord_39 : decode cX8_ofWord 39 = .ok (.iload_n 1, 1) := by decide +kernel
theorem dX8_ofWord_40 : decode cX8_ofWord 40 = .ok (.imul, 1) := by decide +kernel
theorem dX8_ofWord_41 : decode cX8_ofWord 41 = .ok (.iload_n 2, 1) := by decide +kernel
theorem dX8_ofWord_42 : decode cX8_ofWord 42 = .ok (.iadd, 1) := by decide +kernel
theorem dX8_ofWord_43 : decode cX8_ofWord 43 = .ok (.bipush 10, 2) := by decide +kernel
theorem dX8_ofWord_45 : decode cX8_ofWord 45 = .ok (.isub, 1) := by decide +kernel
theorem dX8_ofWord_46 : decode cX8_ofWord 46 = .ok (.iaload, 1) := by decide +kernel
theorem dX8_ofWord_47 : decode cX8_ofWord 47 = .ok (.goto 5, 3) := by decide +kernel
theorem dX8_ofWord_50 : decode cX8_ofWord 50 = .ok (.bipush (-9), 2) := by decide +kernel
theorem dX8_ofWord_52 : decode cX8_ofWord 52 = .ok (.ireturn, 1) := by decide +kernel
theorem dX8_ofWord_53 : decode cX8_ofWord 53 = .ok (.iload_n 2, 1) := by decide +kernel
theorem dX8_ofWord_54 : decode cX8_ofWord 54 = .ok (.tableswitch 68 0 3 #[30, 37, 44, 58], 30) := by decide +kernel
theorem dX8_ofWord_84 : decode cX8_ofWord 84 = .ok (.aload_n 0, 1) := by decide +kernel
theorem dX8_ofWord_85 : decode cX8_ofWord 85 = .ok (.getfield 19, 3) := by decide +kernel
theorem dX8_ofWord_88 : decode cX8_ofWord 88 = .ok (.iload_n 1, 1) := by decide +kernel
theorem dX8_ofWord_89 : decode cX8_ofWord 89 = .ok (.iaload, 1) := by decide +kernel
theorem dX8_ofWord_90 : decode cX8_ofWord 90 = .ok (.ireturn, 1) := by decide +kernel
theorem dX8_ofWord_91 : decode cX8_ofWord 91 = .ok (.aload_n 0, 1) := by decide +kernel
theorem dX8_ofWord_92 : decode cX8_ofWord 92 = .ok (.getfield 22, 3) := by decide +kernel
theorem dX8_ofWord_95 : decode cX8_ofWord 95 = .ok (.iload_n 1, 1) := by decide +kernel
theorem dX8_ofWord_96 : decode cX8_ofWord 96 = .ok (.iaload, 1) := by decide +kernel
theorem dX8_ofWord_97 : decode cX8_ofWord 97 = .ok (.ireturn, 1) := by decide +kernel
theorem dX8_ofWord_98 : decode cX8_ofWord 98 = .ok (.aload_n 0, 1) := by decide +kernel
theorem dX8_ofWord_99 : decode cX8_ofWord 99 = .ok (.iload_n 1, 1) := by decide +kernel
theorem dX8_ofWord_100 : decode cX8_ofWord 100 = .ok (.invokevirtual 142, 3) := by decide +kernel
theorem dX8_ofWord_103 : decode cX8_ofWord 103 = .ok (.ifCond .eq 7, 3) := by decide +kernel
theorem dX8_ofWord_106 : decode cX8_ofWord 106 = .ok (.iconst 2, 1) := by decide +kernel
theorem dX8_ofWord_107 : decode cX8_ofWord 107 = .ok (.goto 4, 3) := by decide +kernel
theorem dX8_ofWord_110 : decode cX8_ofWord 110 = .ok (.iconst 1, 1) := by decide +kernel
theorem dX8_ofWord_111 : decode cX8_ofWord 111 = .ok (.ireturn, 1) := by decide +kernel
theorem dX8_ofWord_112 : decode cX8_ofWord 112 = .ok (.aload_n 0, 1) := by decide +kernel
theorem dX8_ofWord_113 : decode cX8_ofWord 113 = .ok (.invokevirtual 145, 3) := by decide +kernel
theorem dX8_ofWord_116 : decode cX8_ofWord 116 = .ok (.aload_n 0, 1) := by decide +kernel
theorem dX8_ofWord_117 : decode cX8_ofWord 117 = .ok (.iload_n 1, 1) := by decide +kernel
theorem dX8_ofWord_118 : decode cX8_ofWord 118 = .ok (.invokevirtual 136, 3) := by decide +kernel
theorem dX8_ofWord_121 : decode cX8_ofWord 121 = .ok (.ireturn, 1) := by decide +kernel
theorem dX8_ofWord_122 : decode cX8_ofWord 122 = .ok (.bipush (-2), 2) := by decide +kernel
theorem dX8_ofWord_124 : decode cX8_ofWord 124 = .ok (.ireturn, 1) := by decide +kernel
theorem dX8_spell_0 : decode cX8_spell 0 = .ok (.aload_n 0, 1) := by decide +kernel
theorem dX8_spell_1 : decode cX8_spell 1 = .ok (.iload_n 1, 1) := by decide +kernel
theorem dX8_spell_2 : decode cX8_spell 2 = .ok (.invokevirtual 139, 3) := by decide +kernel
theorem dX8_spell_5 : decode cX8_spell 5 = .ok (.ifCond .eq 19, 3) := by decide +kernel
theorem dX8_spell_8 : decode cX8_spell 8 = .ok (.iload_n 2, 1) := by decide +kernel
theorem dX8_spell_9 : decode cX8_spell 9 = .ok (.iconst 0, 1) := by decide +kernel
theorem dX8_spell_10 : decode cX8_spell 10 = .ok (.aload_n 0, 1) := by decide +kernel
theorem dX8_spell_11 : decode cX8_spell 11 = .ok (.getfield 22, 3) := by decide +kernel
theorem dX8_spell_14 : decode cX8_spell 14 = .ok (.iload_n 1, 1) := by decide +kernel
theorem dX8_spell_15 : decode cX8_spell 15 = .ok (.iaload, 1) := by decide +kernel
theorem dX8_spell_16 : decode cX8_spell 16 = .ok (.iconst 1, 1) := by decide +kernel
theorem dX8_spell_17 : decode cX8_spell 17 = .ok (.isub, 1) := by decide +kernel
theorem dX8_spell_18 : decode cX8_spell 18 = .ok (.invokestatic 83, 3) := by decide +kernel
theorem dX8_spell_21 : decode cX8_spell 21 = .ok (.ifCond .ne 5, 3) := by decide +kernel
theorem dX8_spell_24 : decode cX8_spell 24 = .ok (.iconst (-1), 1) := by decide +kernel
theorem dX8_spell_25 : decode cX8_spell 25 = .ok (.ireturn, 1) := by decide +kernel
theorem dX8_spell_26 : decode cX8_spell 26 = .ok (.iload_n 3, 1) := by decide +kernel
theorem dX8_spell_27 : decode cX8_spell 27 = .ok (.iconst 0, 1) := by decide +kernel
theorem dX8_spell_28 : decode cX8_spell 28 = .ok (.iconst 2, 1) := by decide +kernel
theorem dX8_spell_29 : decode cX8_spell 29 = .ok (.invokestatic 83, 3) := by decide +kernel
theorem dX8_spell_32 : decode cX8_spell 32 = .ok (.ifCond .ne 6, 3) := by decide +kernel
theorem dX8_spell_35 : decode cX8_spell 35 = .ok (.bipush (-2), 2) := by decide +kernel
theorem dX8_spell_37 : decode cX8_spell 37 = .ok (.ireturn, 1) := by decide +kernel
theorem dX8_spell_38 : decode cX8_spell 38 = .ok (.aload_n 0, 1) := by decide +kernel
theorem dX8_spell_39 : decode cX8_spell 39 = .ok (.getfield 25, 3) := by decide +kernel
theorem dX8_spell_42 : decode cX8_spell 42 = .ok (.iconst 4, 1) := by decide +kernel
theorem dX8_spell_43 : decode cX8_spell 43 = .ok (.iload_n 1, 1) := by decide +kernel
theorem dX8_spell_44 : decode cX8_spell 44 = .ok (.imul, 1) := by decide +kernel
theorem dX8_spell_45 : decode cX8_spell 45 = .ok (.iload_n 2, 1) := by decide +kernel
theorem dX8_spell_46 : decode cX8_spell 46 = .ok (.iadd, 1) := by decide +kernel
theorem dX8_spell_47 : decode cX8_spell 47 = .ok (.iaload, 1) := by decide +kernel
theorem dX8_spell_48 : decode cX8_spell 48 = .ok (.istore 4, 2) := by decide +kernel
theorem dX8_spell_50 : decode cX8_spell 50 = .ok (.aload_n 0, 1) := by decide +kernel
theorem dX8_spell_51 : decode cX8_spell 51 = .ok (.getfield 25, 3) := by decide +kernel
theorem dX8_spell_54 : decode cX8_spell 54 = .ok (.iconst 4, 1) := by decide +kernel
theorem dX8_spell_55 : decode cX8_spell 55 = .ok (.iload_n 1, 1) := by decide +kernel
theorem dX8_spell_56 : decode cX8_spell 56 = .ok (.imul, 1) := by decide +kernel
theorem dX8_spell_57 : decode cX8_spell 57 = .ok (.iload_n 2, 1) := by decide +kernel
theorem dX8_spell_58 : decode cX8_spell 58 = .ok (.iadd, 1) := by decide +kernel
theorem dX8_spell_59 : decode cX8_spell 59 = .ok (.iload_n 3, 1) := by decide +kernel
theorem dX8_spell_60 : decode cX8_spell 60 = .ok (.iastore, 1) := by decide +kernel
theorem dX8_spell_61 : decode cX8_spell 61 = .ok (.iload 4, 2) := by decide +kernel
theorem dX8_spell_63 : decode cX8_spell 63 = .ok (.ireturn, 1) := by decide +kernel
theorem dX8_say_0 : decode cX8_say 0 = .ok (.iload_n 1, 1) := by decide +kernel
theorem dX8_say_1 : decode cX8_say 1 = .ok (.iconst 0, 1) := by decide +kernel
theorem dX8_say_2 : decode cX8_say 2 = .ok (.iconst 2, 1) := by decide +kernel
theorem dX8_say_3 : decode cX8_say 3 = .ok (.invokestatic 83, 3) := by decide +kernel
theorem dX8_say_6 : decode cX8_say 6 = .ok (.ifCond .ne 6, 3) := by decide +kernel
theorem dX8_say_9 : decode cX8_say 9 = .ok (.bipush (-2), 2) := by decide +kernel
theorem dX8_say_11 : decode cX8_say 11 = .ok (.ireturn, 1) := by decide +kernel
theorem dX8_say_12 : decode cX8_say 12 = .ok (.aload_n 0, 1) := by decide +kernel
theorem dX8_say_13 : decode cX8_say 13 = .ok (.getfield 87, 3) := by decide +kernel
theorem dX8_say_16 : decode cX8_say 16 = .ok (.ifCond .ne 6, 3) := by decide +kernel
theorem dX8_say_19 : decode cX8_say 19 = .ok (.bipush (-3), 2) := by decide +kernel
theorem dX8_say_21 : decode cX8_say 21 = .ok (.ireturn, 1) := by decide +kernel
theorem dX8_say_22 : decode cX8_say 22 = .ok (.aload_n 0, 1) := by decide +kernel
theorem dX8_say_23 : decode cX8_say 23 = .ok (.getfield 114, 3) := by decide +kernel
theorem dX8_say_26 : decode cX8_say 26 = .ok (.bipush 60, 2) := by decide +kernel
theorem dX8_say_28 : decode cX8_say 28 = .ok (.if_icmp .ne 6, 3) := by decide +kernel
theorem dX8_say_31 : decode cX8_say 31 = .ok (.bipush (-4), 2) := by decide +kernel
theorem dX8_say_33 : decode cX8_say 33 = .ok (.ireturn, 1) := by decide +kernel
theorem dX8_say_34 : decode cX8_say 34 = .ok (.aload_n 0, 1) := by decide +kernel
theorem dX8_say_35 : decode cX8_say 35 = .ok (.getfield 28, 3) := by decide +kernel
theorem dX8_say_38 : decode cX8_say 38 = .ok (.aload_n 0, 1) := by decide +kernel
theorem dX8_say_39 : decode cX8_say 39 = .ok (.getfield 114, 3) := by decide +kernel
theorem dX8_say_42 : decode cX8_say 42 = .ok (.iload_n 1, 1) := by decide +kernel
theorem dX8_say_43 : decode cX8_say 43 = .ok (.iastore, 1) := by decide +kernel
theorem dX8_say_44 : decode cX8_say 44 = .ok (.aload_n 0, 1) := by decide +kernel
theorem dX8_say_45 : decode cX8_say 45 = .ok (.dup, 1) := by decide +kernel
theorem dX8_say_46 : decode cX8_say 46 = .ok (.getfield 114, 3) := by decide +kernel
theorem dX8_say_49 : decode cX8_say 49 = .ok (.iconst 1, 1) := by decide +kernel
theorem dX8_say_50 : decode cX8_say 50 = .ok (.iadd, 1) := by decide +kernel
theorem dX8_say_51 : decode cX8_say 51 = .ok (.putfield 114, 3) := by decide +kernel
theorem dX8_say_54 : decode cX8_say 54 = .ok (.aload_n 0, 1) := by decide +kernel
theorem dX8_say_55 : decode cX8_say 55 = .ok (.invokevirtual 145, 3) := by decide +kernel
theorem dX8_say_58 : decode cX8_say 58 = .ok (.aload_n 0, 1) := by decide +kernel
theorem dX8_say_59 : decode cX8_say 59 = .ok (.aload_n 0, 1) := by decide +kernel
theorem dX8_say_60 : decode cX8_say 60 = .ok (.getfield 114, 3) := by decide +kernel
theorem dX8_say_63 : decode cX8_say 63 = .ok (.invokevirtual 148, 3) := by decide +kernel
theorem dX8_say_66 : decode cX8_say 66 = .ok (.ireturn, 1) := by decide +kernel
theorem dX8_hush_0 : decode cX8_hush 0 = .ok (.aload_n 0, 1) := by decide +kernel
theorem dX8_hush_1 : decode cX8_hush 1 = .ok (.getfield 87, 3) := by decide +kernel
theorem dX8_hush_4 : decode cX8_hush 4 = .ok (.ifCond .ne 6, 3) := by decide +kernel
theorem dX8_hush_7 : decode cX8_hush 7 = .ok (.bipush (-3), 2) := by decide +kernel
theorem dX8_hush_9 : decode cX8_hush 9 = .ok (.ireturn, 1) := by decide +kernel
theorem dX8_hush_10 : decode cX8_hush 10 = .ok (.aload_n 0, 1) := by decide +kernel
theorem dX8_hush_11 : decode cX8_hush 11 = .ok (.getfield 114, 3) := by decide +kernel
theorem dX8_hush_14 : decode cX8_hush 14 = .ok (.istore_n 1, 1) := by decide +kernel
theorem dX8_hush_15 : decode cX8_hush 15 = .ok (.aload_n 0, 1) := by decide +kernel
theorem dX8_hush_16 : decode cX8_hush 16 = .ok (.iconst 0, 1) := by decide +kernel
theorem dX8_hush_17 : decode cX8_hush 17 = .ok (.putfield 114, 3) := by decide +kernel
theorem dX8_hush_20 : decode cX8_hush 20 = .ok (.iload_n 1, 1) := by decide +kernel
theorem dX8_hush_21 : decode cX8_hush 21 = .ok (.ireturn, 1) := by decide +kernel
theorem dX8_areLetters_0 : decode cX8_areLetters 0 = .ok (.iconst 0, 1) := by decide +kernel
theorem dX8_areLetters_1 : decode cX8_areLetters 1 = .ok (.istore_n 3, 1) := by decide +kernel
theorem dX8_areLetters_2 : decode cX8_areLetters 2 = .ok (.iload_n 3, 1) := by decide +kernel
theorem dX8_areLetters_3 : decode cX8_areLetters 3 = .ok (.iload_n 2, 1) := by decide +kernel
theorem dX8_areLetters_4 : decode cX8_areLetters 4 = .ok (.if_icmp .ge 27, 3) := by decide +kernel
theorem dX8_areLetters_7 : decode cX8_areLetters 7 = .ok (.aload_n 0, 1) := by decide +kernel
theorem dX8_areLetters_8 : decode cX8_areLetters 8 = .ok (.getfield 16, 3) := by decide +kernel
theorem dX8_areLetters_11 : decode cX8_areLetters 11 = .ok (.iload_n 1, 1) := by decide +kernel
theorem dX8_areLetters_12 : decode cX8_areLetters 12 = .ok (.iload_n 3, 1) := by decide +kernel
theorem dX8_areLetters_13 : decode cX8_areLetters 13 = .ok (.iadd, 1) := by decide +kernel
theorem dX8_areLetters_14 : decode cX8_areLetters 14 = .ok (.iaload, 1) := by decide +kernel
theorem dX8_areLetters_15 : decode cX8_areLetters 15 = .ok (.iconst 0, 1) := by decide +kernel
theorem dX8_areLetters_16 : decode cX8_areLetters 16 = .ok (.iconst 2, 1) := by decide +kernel
theorem dX8_areLetters_17 : decode cX8_areLetters 17 = .ok (.invokestatic 83, 3) := by decide +kernel
theorem dX8_areLetters_20 : decode cX8_areLetters 20 = .ok (.ifCond .ne 5, 3) := by decide +kernel
theorem dX8_areLetters_23 : decode cX8_areLetters 23 = .ok (.iconst 0, 1) := by decide +kernel
theorem dX8_areLetters_24 : decode cX8_areLetters 24 = .ok (.ireturn, 1) := by decide +kernel
theorem dX8_areLetters_25 : decode cX8_areLetters 25 = .ok (.iinc 3 1, 3) := by decide +kernel
theorem dX8_areLetters_28 : decode cX8_areLetters 28 = .ok (.goto (-26), 3) := by decide +kernel
theorem dX8_areLetters_31 : decode cX8_areLetters 31 = .ok (.iconst 1, 1) := by decide +kernel
theorem dX8_areLetters_32 : decode cX8_areLetters 32 = .ok (.ireturn, 1) := by decide +kernel
theorem dX8_row_0 : decode cX8_row 0 = .ok (.aload_n 0, 1) := by decide +kernel
theorem dX8_row_1 : decode cX8_row 1 = .ok (.iconst 0, 1) := by decide +kernel
theorem dX8_row_2 : decode cX8_row 2 = .ok (.putfield 77, 3) := by decide +kernel
theorem dX8_row_5 : decode cX8_row 5 = .ok (.iload_n 1, 1) := by decide +kernel
theorem dX8_row_6 : decode cX8_row 6 = .ok (.invokestatic 93, 3) := by decide +kernel
theorem dX8_row_9 : decode cX8_row 9 = .ok (.ifCond .ne 5, 3) := by decide +kernel
theorem dX8_row_12 : decode cX8_row 12 = .ok (.iconst (-1), 1) := by decide +kernel
theorem dX8_row_13 : decode cX8_row 13 = .ok (.ireturn, 1) := by decide +kernel
theorem dX8_row_14 : decode cX8_row 14 = .ok (.iload_n 2, 1) := by decide +kernel
theorem dX8_row_15 : decode cX8_row 15 = .ok (.invokestatic 97, 3) := by decide +kernel
theorem dX8_row_18 : decode cX8_row 18 = .ok (.ifCond .eq 36, 3) := by decide +kernel
theorem dX8_row_21 : decode cX8_row 21 = .ok (.iload 4, 2) := by decide +kernel
theorem dX8_row_23 : decode cX8_row 23 = .ok (.iconst 0, 1) := by decide +kernel
theorem dX8_row_24 : decode cX8_row 24 = .ok (.bipush 40, 2) := by decide +kernel
theorem dX8_row_26 : decode cX8_row 26 = .ok (.invokestatic 83, 3) := by decide +kernel
theorem dX8_row_29 : decode cX8_row 29 = .ok (.ifCond .eq 25, 3) := by decide +kernel
theorem dX8_row_32 : decode cX8_row 32 = .ok (.iload 5, 2) := by decide +kernel
theorem dX8_row_34 : decode cX8_row 34 = .ok (.iconst 0, 1) := by decide +kernel
theorem dX8_row_35 : decode cX8_row 35 = .ok (.iconst 3, 1) := by decide +kernel
theorem dX8_row_36 : decode cX8_row 36 = .ok (.invokestatic 83, 3) := by decide +kernel
theorem dX8_row_39 : decode cX8_row 39 = .ok (.ifCond .ne 18, 3) := by decide +kernel
theorem dX8_row_42 : decode cX8_row 42 = .ok (.iload 5, 2) := by decide +kernel
theorem dX8_row_44 : decode cX8_row 44 = .ok (.bipush 10, 2) := by decide +kernel
theorem dX8_row_46 : decode cX8_row 46 = .ok (.bipush 13, 2) := by decide +kernel
theorem dX8_row_48 : decode cX8_row 48 = .ok (.invokestatic 83, 3) := by decide +kernel
theorem dX8_row_51 : decode cX8_row 51 = .ok (.ifCond .ne 6, 3) := by decide +kernel
theorem dX8_row_54 : decode cX8_row 54 = .ok (.bipush (-2), 2) := by decide +kernel
theorem dX8_row_56 : decode cX8_row 56 = .ok (.ireturn, 1) := by decide +kernel
theorem dX8_row_57 : decode cX8_row 57 = .ok (.aload_n 0, 1) := by decide +kernel
theorem dX8_row_58 : decode cX8_row 58 = .ok (.iload_n 1, 1) := by decide +kernel
theorem dX8_row_59 : decode cX8_row 59 = .ok (.iload_n 2, 1) := by decide +kernel
theorem dX8_row_60 : decode cX8_row 60 = .ok (.iload_n 3, 1) := by decide +kernel
theorem dX8_row_61 : decode cX8_row 61 = .ok (.iload 4, 2) := by decide +kernel
theorem dX8_row_63 : decode cX8_row 63 = .ok (.invokevirtual 100, 3) := by decide +kernel
theorem dX8_row_66 : decode cX8_row 66 = .ok (.istore 6, 2) := by decide +kernel
theorem dX8_row_68 : decode cX8_row 68 = .ok (.iload 6, 2) := by decide +kernel
theorem dX8_row_70 : decode cX8_row 70 = .ok (.ifCond .eq 10, 3) := by decide +kernel
theorem dX8_row_73 : decode cX8_row 73 = .ok (.aload_n 0, 1) := by decide +kernel
theorem dX8_row_74 : decode cX8_row 74 = .ok (.iload 6, 2) := by decide +kernel
theorem dX8_row_76 : decode cX8_row 76 = .ok (.invokevirtual 104, 3) := by decide +kernel
theorem dX8_row_79 : decode cX8_row 79 = .ok (.ireturn, 1) := by decide +kernel
theorem dX8_row_80 : decode cX8_row 80 = .ok (.aload_n 0, 1) := by decide +kernel
theorem dX8_row_81 : decode cX8_row 81 = .ok (.getfield 87, 3) := by decide +kernel
theorem dX8_row_84 : decode cX8_row 84 = .ok (.ifCond .ne 6, 3) := by decide +kernel
theorem dX8_row_87 : decode cX8_row 87 = .ok (.bipush (-3), 2) := by decide +kernel
theorem dX8_row_89 : decode cX8_row 89 = .ok (.ireturn, 1) := by decide +kernel
theorem dX8_row_90 : decode cX8_row 90 = .ok (.bipush 60, 2) := by decide +kernel
theorem dX8_row_92 : decode cX8_row 92 = .ok (.iload_n 1, 1) := by decide +kernel
theorem dX8_row_93 : decode cX8_row 93 = .ok (.imul, 1) := by decide +kernel
theorem dX8_row_94 : decode cX8_row 94 = .ok (.iload_n 3, 1) := by decide +kernel
theorem dX8_row_95 : decode cX8_row 95 = .ok (.iadd, 1) := by decide +kernel
theorem dX8_row_96 : decode cX8_row 96 = .ok (.istore 7, 2) := by decide +kernel
theorem dX8_row_98 : decode cX8_row 98 = .ok (.aload_n 0, 1) := by decide +kernel
theorem dX8_row_99 : decode cX8_row 99 = .ok (.iload 7, 2) := by decide +kernel
theorem dX8_row_101 : decode cX8_row 101 = .ok (.iload 4, 2) := by decide +kernel
theorem dX8_row_103 : decode cX8_row 103 = .ok (.invokevirtual 151, 3) := by decide +kernel
theorem dX8_row_106 : decode cX8_row 106 = .ok (.ifCond .ne 6, 3) := by decide +kernel
theorem dX8_row_109 : decode cX8_row 109 = .ok (.bipush (-2), 2) := by decide +kernel
theorem dX8_row_111 : decode cX8_row 111 = .ok (.ireturn, 1) := by decide +kernel
theorem dX8_row_112 : decode cX8_row 112 = .ok (.aload_n 0, 1) := by decide +kernel
theorem dX8_row_113 : decode cX8_row 113 = .ok (.iload 7, 2) := by decide +kernel
theorem dX8_row_115 : decode cX8_row 115 = .ok (.iload 4, 2) := by decide +kernel
theorem dX8_row_117 : decode cX8_row 117 = .ok (.invokevirtual 154, 3) := by decide +kernel
theorem dX8_row_120 : decode cX8_row 120 = .ok (.iload 5, 2) := by decide +kernel
theorem dX8_row_122 : decode cX8_row 122 = .ok (.bipush 10, 2) := by decide +kernel
theorem dX8_row_124 : decode cX8_row 124 = .ok (.if_icmp .lt 30, 3) := by decide +kernel
theorem dX8_row_127 : decode cX8_row 127 = .ok (.aload_n 0, 1) := by decide +kernel
theorem dX8_row_128 : decode cX8_row 128 = .ok (.iload 5, 2) := by decide +kernel
theorem dX8_row_130 : decode cX8_row 130 = .ok (.bipush 10, 2) := by decide +kernel
theorem dX8_row_132 : decode cX8_row 132 = .ok (.isub, 1) := by decide +kernel
theorem dX8_row_133 : decode cX8_row 133 = .ok (.invokevirtual 139, 3) := by decide +kernel
theorem dX8_row_136 : decode cX8_row 136 = .ok (.ifCond .eq 15, 3) := by decide +kernel
theorem dX8_row_139 : decode cX8_row 139 = .ok (.aload_n 0, 1) := by decide +kernel
theorem dX8_row_140 : decode cX8_row 140 = .ok (.iload 5, 2) := by decide +kernel
theorem dX8_row_142 : decode cX8_row 142 = .ok (.bipush 10, 2) := by decide +kernel
theorem dX8_row_144 : decode cX8_row 144 = .ok (.isub, 1) := by decide +kernel
theorem dX8_row_145 : decode cX8_row 145 = .ok (.invokevirtual 136, 3) := by decide +kernel
theorem dX8_row_148 : decode cX8_row 148 = .ok (.goto 5, 3) := by decide +kernel
theorem dX8_row_151 : decode cX8_row 151 = .ok (.bipush (-9), 2) := by decide +kernel
theorem dX8_row_153 : decode cX8_row 153 = .ok (.ireturn, 1) := by decide +kernel
theorem dX8_row_154 : decode cX8_row 154 = .ok (.iload 5, 2) := by decide +kernel
theorem dX8_row_156 : decode cX8_row 156 = .ok (.ifCond .ne 10, 3) := by decide +kernel
theorem dX8_row_159 : decode cX8_row 159 = .ok (.aload_n 0, 1) := by decide +kernel
theorem dX8_row_160 : decode cX8_row 160 = .ok (.invokevirtual 158, 3) := by decide +kernel
theorem dX8_row_163 : decode cX8_row 163 = .ok (.goto 31, 3) := by decide +kernel
theorem dX8_row_166 : decode cX8_row 166 = .ok (.iload 5, 2) := by decide +kernel
theorem dX8_row_168 : decode cX8_row 168 = .ok (.iconst 3, 1) := by decide +kernel
theorem dX8_row_169 : decode cX8_row 169 = .ok (.if_icmp .ne 10, 3) := by decide +kernel
theorem dX8_row_172 : decode cX8_row 172 = .ok (.aload_n 0, 1) := by decide +kernel
theorem dX8_row_173 : decode cX8_row 173 = .ok (.invokevirtual 162, 3) := by decide +kernel
theorem dX8_row_176 : decode cX8_row 176 = .ok (.goto 18, 3) := by decide +kernel
theorem dX8_row_179 : decode cX8_row 179 = .ok (.aload_n 0, 1) := by decide +kernel
theorem dX8_row_180 : decode cX8_row 180 = .ok (.iload 5, 2) := by decide +kernel
theorem dX8_row_182 : decode cX8_row 182 = .ok (.iconst 1, 1) := by decide +kernel
theorem dX8_row_183 : decode cX8_row 183 = .ok (.if_icmp .ne 7, 3) := by decide +kernel
theorem dX8_row_186 : decode cX8_row 186 = .ok (.iconst 1, 1) := by decide +kernel
theorem dX8_row_187 : decode cX8_row 187 = .ok (.goto 4, 3) := by decide +kernel
theorem dX8_row_190 : decode cX8_row 190 = .ok (.iconst 0, 1) := by decide +kernel
theorem dX8_row_191 : decode cX8_row 191 = .ok (.invokevirtual 165, 3) := by decide +kernel
theorem dX8_row_194 : decode cX8_row 194 = .ok (.ireturn, 1) := by decide +kernel
theorem dX8_allHeard_0 : decode cX8_allHeard 0 = .ok (.iconst 0, 1) := by decide +kernel
theorem dX8_allHeard_1 : decode cX8_allHeard 1 = .ok (.istore_n 1, 1) := by decide +kernel
theorem dX8_allHeard_2 : decode cX8_allHeard 2 = .ok (.iconst 0, 1) := by decide +kernel
theorem dX8_allHeard_3 : decode cX8_allHeard 3 = .ok (.istore_n 2, 1) := by decide +kernel
theorem dX8_allHeard_4 : decode cX8_allHeard 4 = .ok (.iload_n 2, 1) := by decide +kernel
theorem dX8_allHeard_5 : decode cX8_allHeard 5 = .ok (.aload_n 0, 1) := by decide +kernel
theorem dX8_allHeard_6 : decode cX8_allHeard 6 = .ok (.getfield 87, 3) := by decide +kernel
theorem dX8_allHeard_9 : decode cX8_allHeard 9 = .ok (.if_icmp .ge 17, 3) := by decide +kernel
theorem dX8_allHeard_12 : decode cX8_allHeard 12 = .ok (.iload_n 1, 1) := by decide +kernel
theorem dX8_allHeard_13 : decode cX8_allHeard 13 = .ok (.aload_n 0, 1) := by decide +kernel
theorem dX8_allHeard_14 : decode cX8_allHeard 14 = .ok (.iload_n 2, 1) := by decide +kernel
theorem dX8_allHeard_15 : decode cX8_allHeard 15 = .ok (.invokevirtual 136, 3) := by decide +kernel
theorem dX8_allHeard_18 : decode cX8_allHeard 18 = .ok (.iadd, 1) := by decide +kernel
theorem dX8_allHeard_19 : decode cX8_allHeard 19 = .ok (.istore_n 1, 1) := by decide +kernel
theorem dX8_allHeard_20 : decode cX8_allHeard 20 = .ok (.iinc 2 1, 3) := by decide +kernel
theorem dX8_allHeard_23 : decode cX8_allHeard 23 = .ok (.goto (-19), 3) := by decide +kernel
theorem dX8_allHeard_26 : decode cX8_allHeard 26 = .ok (.iload_n 1, 1) := by decide +kernel
theorem dX8_allHeard_27 : decode cX8_allHeard 27 = .ok (.ireturn, 1) := by decide +kernel
theorem dX8_heardBy_0 : decode cX8_heardBy 0 = .ok (.iconst 0, 1) := by decide +kernel
theorem dX8_heardBy_1 : decode cX8_heardBy 1 = .ok (.istore_n 2, 1) := by decide +kernel
theorem dX8_heardBy_2 : decode cX8_heardBy 2 = .ok (.iconst 1, 1) := by decide +kernel
theorem dX8_heardBy_3 : decode cX8_heardBy 3 = .ok (.istore_n 3, 1) := by decide +kernel
theorem dX8_heardBy_4 : decode cX8_heardBy 4 = .ok (.iload_n 3, 1) := by decide +kernel
theorem dX8_heardBy_5 : decode cX8_heardBy 5 = .ok (.aload_n 0, 1) := by decide +kernel
theorem dX8_heardBy_6 : decode cX8_heardBy 6 = .ok (.getfield 133, 3) := by decide +kernel
theorem dX8_heardBy_9 : decode cX8_heardBy 9 = .ok (.if_icmp .gt 39, 3) := by decide +kernel
theorem dX8_heardBy_12 : decode cX8_heardBy 12 = .ok (.iload_n 2, 1) := by decide +kernel
theorem dX8_heardBy_13 : decode cX8_heardBy 13 = .ok (.aload_n 0, 1) := by decide +kernel
theorem dX8_heardBy_14 : decode cX8_heardBy 14 = .ok (.iload_n 3, 1) := by decide +kernel
theorem dX8_heardBy_15 : decode cX8_heardBy 15 = .ok (.invokevirtual 148, 3) := by decide +kernel
theorem dX8_heardBy_18 : decode cX8_heardBy 18 = .ok (.ior, 1) := by decide +kernel
theorem dX8_heardBy_19 : decode cX8_heardBy 19 = .ok (.istore_n 2, 1) := by decide +kernel
theorem dX8_heardBy_20 : decode cX8_heardBy 20 = .ok (.iload_n 1, 1) := by decide +kernel
theorem dX8_heardBy_21 : decode cX8_heardBy 21 = .ok (.ifCond .eq 7, 3) := by decide +kernel
theorem dX8_heardBy_24 : decode cX8_heardBy 24 = .ok (.iload_n 2, 1) := by decide +kernel
theorem dX8_heardBy_25 : decode cX8_heardBy 25 = .ok (.ifCond .ne 15, 3) := by decide +kernel
theorem dX8_heardBy_28 : decode cX8_heardBy 28 = .ok (.iload_n 2, 1) := by decide +kernel
theorem dX8_heardBy_29 : decode cX8_heardBy 29 = .ok (.iconst 1, 1) := by decide +kernel
theorem dX8_heardBy_30 : decode cX8_heardBy 30 = .ok (.aload_n 0, 1) := by decide +kernel
theorem dX8_heardBy_31 : decode cX8_heardBy 31 = .ok (.getfield 87, 3) := by decide +kernel
theorem dX8_heardBy_34 : decode cX8_heardBy 34 = .ok (.ishl, 1) := by decide +kernel
theorem dX8_heardBy_35 : decode cX8_heardBy 35 = .ok (.iconst 1, 1) := by decide +kernel
theorem dX8_heardBy_36 : decode cX8_heardBy 36 = .ok (.isub, 1) := by decide +kernel
theorem dX8_heardBy_37 : decode cX8_heardBy 37 = .ok (.if_icmp .ne 5, 3) := by decide +kernel
theorem dX8_heardBy_40 : decode cX8_heardBy 40 = .ok (.iload_n 3, 1) := by decide +kernel
theorem dX8_heardBy_41 : decode cX8_heardBy 41 = .ok (.ireturn, 1) := by decide +kernel
theorem dX8_heardBy_42 : decode cX8_heardBy 42 = .ok (.iinc 3 1, 3) := by decide +kernel
theorem dX8_heardBy_45 : decode cX8_heardBy 45 = .ok (.goto (-41), 3) := by decide +kernel
theorem dX8_heardBy_48 : decode cX8_heardBy 48 = .ok (.bipush (-9), 2) := by decide +kernel
theorem dX8_heardBy_50 : decode cX8_heardBy 50 = .ok (.ireturn, 1) := by decide +kernel
theorem dX8_over_0 : decode cX8_over 0 = .ok (.aload_n 0, 1) := by decide +kernel
theorem dX8_over_1 : decode cX8_over 1 = .ok (.iload_n 1, 1) := by decide +kernel
theorem dX8_over_2 : decode cX8_over 2 = .ok (.invokevirtual 139, 3) := by decide +kernel
theorem dX8_over_5 : decode cX8_over 5 = .ok (.ifCond .eq 11, 3) := by decide +kernel
theorem dX8_over_8 : decode cX8_over 8 = .ok (.aload_n 0, 1) := by decide +kernel
theorem dX8_over_9 : decode cX8_over 9 = .ok (.iload_n 2, 1) := by decide +kernel
theorem dX8_over_10 : decode cX8_over 10 = .ok (.invokevirtual 139, 3) := by decide +kernel
theorem dX8_over_13 : decode cX8_over 13 = .ok (.ifCond .ne 5, 3) := by decide +kernel
theorem dX8_over_16 : decode cX8_over 16 = .ok (.iconst (-1), 1) := by decide +kernel
theorem dX8_over_17 : decode cX8_over 17 = .ok (.ireturn, 1) := by decide +kernel
theorem dX8_over_18 : decode cX8_over 18 = .ok (.aload_n 0, 1) := by decide +kernel
theorem dX8_over_19 : decode cX8_over 19 = .ok (.getfield 22, 3) := by decide +kernel
theorem dX8_over_22 : decode cX8_over 22 = .ok (.iload_n 1, 1) := by decide +kernel
theorem dX8_over_23 : decode cX8_over 23 = .ok (.iaload, 1) := by decide +kernel
theorem dX8_over_24 : decode cX8_over 24 = .ok (.aload_n 0, 1) := by decide +kernel
theorem dX8_over_25 : decode cX8_over 25 = .ok (.getfield 22, 3) := by decide +kernel
theorem dX8_over_28 : decode cX8_over 28 = .ok (.iload_n 2, 1) := by decide +kernel
theorem dX8_over_29 : decode cX8_over 29 = .ok (.iaload, 1) := by decide +kernel
theorem dX8_over_30 : decode cX8_over 30 = .ok (.if_icmp .ge 12, 3) := by decide +kernel
theorem dX8_over_33 : decode cX8_over 33 = .ok (.aload_n 0, 1) := by decide +kernel
theorem dX8_over_34 : decode cX8_over 34 = .ok (.getfield 22, 3) := by decide +kernel
theorem dX8_over_37 : decode cX8_over 37 = .ok (.iload_n 1, 1) := by decide +kernel
theorem dX8_over_38 : decode cX8_over 38 = .ok (.iaload, 1) := by decide +kernel
theorem dX8_over_39 : decode cX8_over 39 = .ok (.goto 9, 3) := by decide +kernel
theorem dX8_over_42 : decode cX8_over 42 = .ok (.aload_n 0, 1) := by decide +kernel
theorem dX8_over_43 : decode cX8_over 43 = .ok (.getfield 22, 3) := by decide +kernel
theorem dX8_over_46 : decode cX8_over 46 = .ok (.iload_n 2, 1) := by decide +kernel
theorem dX8_over_47 : decode cX8_over 47 = .ok (.iaload, 1) := by decide +kernel
theorem dX8_over_48 : decode cX8_over 48 = .ok (.istore_n 3, 1) := by decide +kernel
theorem dX8_over_49 : decode cX8_over 49 = .ok (.iload_n 3, 1) := by decide +kernel
theorem dX8_over_50 : decode cX8_over 50 = .ok (.istore 4, 2) := by decide +kernel
theorem dX8_over_52 : decode cX8_over 52 = .ok (.iload 4, 2) := by decide +kernel
theorem dX8_over_54 : decode cX8_over 54 = .ok (.ifCond .le 83, 3) := by decide +kernel
theorem dX8_over_57 : decode cX8_over 57 = .ok (.iconst 1, 1) := by decide +kernel
theorem dX8_over_58 : decode cX8_over 58 = .ok (.istore 5, 2) := by decide +kernel
theorem dX8_over_60 : decode cX8_over 60 = .ok (.iconst 0, 1) := by decide +kernel
theorem dX8_over_61 : decode cX8_over 61 = .ok (.istore 6, 2) := by decide +kernel
theorem dX8_over_63 : decode cX8_over 63 = .ok (.iload 6, 2) := by decide +kernel
theorem dX8_over_65 : decode cX8_over 65 = .ok (.iload 4, 2) := by decide +kernel
theorem dX8_over_67 : decode cX8_over 67 = .ok (.if_icmp .ge 56, 3) := by decide +kernel
theorem dX8_over_70 : decode cX8_over 70 = .ok (.iload 5, 2) := by decide +kernel
theorem dX8_over_72 : decode cX8_over 72 = .ok (.ifCond .eq 51, 3) := by decide +kernel
theorem dX8_over_75 : decode cX8_over 75 = .ok (.aload_n 0, 1) := by decide +kernel
theorem dX8_over_76 : decode cX8_over 76 = .ok (.getfield 25, 3) := by decide +kernel
theorem dX8_over_79 : decode cX8_over 79 = .ok (.iconst 4, 1) := by decide +kernel
theorem dX8_over_80 : decode cX8_over 80 = .ok (.iload_n 1, 1) := by decide +kernel
theorem dX8_over_81 : decode cX8_over 81 = .ok (.imul, 1) := by decide +kernel
theorem dX8_over_82 : decode cX8_over 82 = .ok (.aload_n 0, 1) := by decide +kernel
theorem dX8_over_83 : decode cX8_over 83 = .ok (.getfield 22, 3) := by decide +kernel
theorem dX8_over_86 : decode cX8_over 86 = .ok (.iload_n 1, 1) := by decide +kernel
theorem dX8_over_87 : decode cX8_over 87 = .ok (.iaload, 1) := by decide +kernel
theorem dX8_over_88 : decode cX8_over 88 = .ok (.iadd, 1) := by decide +kernel
theorem dX8_over_89 : decode cX8_over 89 = .ok (.iload 4, 2) := by decide +kernel
theorem dX8_over_91 : decode cX8_over 91 = .ok (.isub, 1) := by decide +kernel
theorem dX8_over_92 : decode cX8_over 92 = .ok (.iload 6, 2) := by decide +kernel
theorem dX8_over_94 : decode cX8_over 94 = .ok (.iadd, 1) := by decide +kernel
theorem dX8_over_95 : decode cX8_over 95 = .ok (.iaload, 1) := by decide +kernel
theorem dX8_over_96 : decode cX8_over 96 = .ok (.aload_n 0, 1) := by decide +kernel
theorem dX8_over_97 : decode cX8_over 97 = .ok (.getfield 25, 3) := by decide +kernel
theorem dX8_over_100 : decode cX8_over 100 = .ok (.iconst 4, 1) := by decide +kernel
theorem dX8_over_101 : decode cX8_over 101 = .ok (.iload_n 2, 1) := by decide +kernel
theorem dX8_over_102 : decode cX8_over 102 = .ok (.imul, 1) := by decide +kernel
theorem dX8_over_103 : decode cX8_over 103 = .ok (.iload 6, 2) := by decide +kernel
theorem dX8_over_105 : decode cX8_over 105 = .ok (.iadd, 1) := by decide +kernel
theorem dX8_over_106 : decode cX8_over 106 = .ok (.iaload, 1) := by decide +kernel
theorem dX8_over_107 : decode cX8_over 107 = .ok (.if_icmp .ne 7, 3) := by decide +kernel
theorem dX8_over_110 : decode cX8_over 110 = .ok (.iconst 1, 1) := by decide +kernel
theorem dX8_over_111 : decode cX8_over 111 = .ok (.goto 4, 3) := by decide +kernel
theorem dX8_over_114 : decode cX8_over 114 = .ok (.iconst 0, 1) := by decide +kernel
theorem dX8_over_115 : decode cX8_over 115 = .ok (.istore 5, 2) := by decide +kernel
theorem dX8_over_117 : decode cX8_over 117 = .ok (.iinc 6 1, 3) := by decide +kernel
theorem dX8_over_120 : decode cX8_over 120 = .ok (.goto (-57), 3) := by decide +kernel
theorem dX8_over_123 : decode cX8_over 123 = .ok (.iload 5, 2) := by decide +kernel
theorem dX8_over_125 : decode cX8_over 125 = .ok (.ifCond .eq 6, 3) := by decide +kernel
theorem dX8_over_128 : decode cX8_over 128 = .ok (.iload 4, 2) := by decide +kernel
theorem dX8_over_130 : decode cX8_over 130 = .ok (.ireturn, 1) := by decide +kernel
theorem dX8_over_131 : decode cX8_over 131 = .ok (.iinc 4 (-1), 3) := by decide +kernel
theorem dX8_over_134 : decode cX8_over 134 = .ok (.goto (-82), 3) := by decide +kernel
theorem dX8_over_137 : decode cX8_over 137 = .ok (.iconst 0, 1) := by decide +kernel
theorem dX8_over_138 : decode cX8_over 138 = .ok (.ireturn, 1) := by decide +kernel
theorem dX8_endOf_0 : decode cX8_endOf 0 = .ok (.iload_n 1, 1) := by decide +kernel
theorem dX8_endOf_1 : decode cX8_endOf 1 = .ok (.iconst 3, 1) := by decide +kernel
theorem dX8_endOf_2 : decode cX8_endOf 2 = .ok (.if_icmp .ge 7, 3) := by decide +kernel
theorem dX8_endOf_5 : decode cX8_endOf 5 = .ok (.iload_n 1, 1) := by decide +kernel
theorem dX8_endOf_6 : decode cX8_endOf 6 = .ok (.goto 4, 3) := by decide +kernel
theorem dX8_endOf_9 : decode cX8_endOf 9 = .ok (.iconst 3, 1) := by decide +kernel
theorem dX8_endOf_10 : decode cX8_endOf 10 = .ok (.istore_n 2, 1) := by decide +kernel
theorem dX8_endOf_11 : decode cX8_endOf 11 = .ok (.iload_n 2, 1) := by decide +kernel
theorem dX8_endOf_12 : decode cX8_endOf 12 = .ok (.ifCond .ne 7, 3) := by decide +kernel
theorem dX8_endOf_15 : decode cX8_endOf 15 = .ok (.iconst 0, 1) := by decide +kernel
theorem dX8_endOf_16 : decode cX8_endOf 16 = .ok (.goto 23, 3) := by decide +kernel
theorem dX8_endOf_19 : decode cX8_endOf 19 = .ok (.iload_n 2, 1) := by decide +kernel
theorem dX8_endOf_20 : decode cX8_endOf 20 = .ok (.iconst 1, 1) := by decide +kernel
theorem dX8_endOf_21 : decode cX8_endOf 21 = .ok (.if_icmp .ne 7, 3) := by decide +kernel
theorem dX8_endOf_24 : decode cX8_endOf 24 = .ok (.iconst 1, 1) := by decide +kernel
theorem dX8_endOf_25 : decode cX8_endOf 25 = .ok (.goto 14, 3) := by decide +kernel
theorem dX8_endOf_28 : decode cX8_endOf 28 = .ok (.iload_n 2, 1) := by decide +kernel
theorem dX8_endOf_29 : decode cX8_endOf 29 = .ok (.iconst 2, 1) := by decide +kernel
theorem dX8_endOf_30 : decode cX8_endOf 30 = .ok (.if_icmp .ne 7, 3) := by decide +kernel
theorem dX8_endOf_33 : decode cX8_endOf 33 = .ok (.iconst 4, 1) := by decide +kernel
theorem dX8_endOf_34 : decode cX8_endOf 34 = .ok (.goto 5, 3) := by decide +kernel
theorem dX8_endOf_37 : decode cX8_endOf 37 = .ok (.bipush 13, 2) := by decide +kernel
theorem dX8_endOf_39 : decode cX8_endOf 39 = .ok (.istore_n 3, 1) := by decide +kernel
theorem dX8_endOf_40 : decode cX8_endOf 40 = .ok (.iconst 0, 1) := by decide +kernel
theorem dX8_endOf_41 : decode cX8_endOf 41 = .ok (.istore 4, 2) := by decide +kernel
theorem dX8_endOf_43 : decode cX8_endOf 43 = .ok (.iload_n 1, 1) := by decide +kernel
theorem dX8_endOf_44 : decode cX8_endOf 44 = .ok (.iload_n 2, 1) := by decide +kernel
theorem dX8_endOf_45 : decode cX8_endOf 45 = .ok (.isub, 1) := by decide +kernel
theorem dX8_endOf_46 : decode cX8_endOf 46 = .ok (.istore 5, 2) := by decide +kernel
theorem dX8_endOf_48 : decode cX8_endOf 48 = .ok (.iload 5, 2) := by decide +kernel
theorem dX8_endOf_50 : decode cX8_endOf 50 = .ok (.iload_n 1, 1) := by decide +kernel
theorem dX8_endOf_51 : decode cX8_endOf 51 = .ok (.if_icmp .ge 23, 3) := by decide +kernel
theorem dX8_endOf_54 : decode cX8_endOf 54 = .ok (.iconst 3, 1) := by decide +kernel
theorem dX8_endOf_55 : decode cX8_endOf 55 = .ok (.iload 4, 2) := by decide +kernel
theorem dX8_endOf_57 : decode cX8_endOf 57 = .ok (.imul, 1) := by decide +kernel
theorem dX8_endOf_58 : decode cX8_endOf 58 = .ok (.aload_n 0, 1) := by decide +kernel
theorem dX8_endOf_59 : decode cX8_endOf 59 = .ok (.getfield 40, 3) := by decide +kernel
theorem dX8_endOf_62 : decode cX8_endOf 62 = .ok (.iload 5, 2) := by decide +kernel
theorem dX8_endOf_64 : decode cX8_endOf 64 = .ok (.iaload, 1) := by decide +kernel
theorem dX8_endOf_65 : decode cX8_endOf 65 = .ok (.iadd, 1) := by decide +kernel
theorem dX8_endOf_66 : decode cX8_endOf 66 = .ok (.istore 4, 2) := by decide +kernel
theorem dX8_endOf_68 : decode cX8_endOf 68 = .ok (.iinc 5 1, 3) := by decide +kernel
theorem dX8_endOf_71 : decode cX8_endOf 71 = .ok (.goto (-23), 3) := by decide +kernel
theorem dX8_endOf_74 : decode cX8_endOf 74 = .ok (.iload_n 3, 1) := by decide +kernel
theorem dX8_endOf_75 : decode cX8_endOf 75 = .ok (.iload 4, 2) := by decide +kernel
theorem dX8_endOf_77 : decode cX8_endOf 77 = .ok (.iadd, 1) := by decide +kernel
theorem dX8_endOf_78 : decode cX8_endOf 78 = .ok (.ireturn, 1) := by decide +kernel
theorem dX8_findNext_0 : decode cX8_findNext 0 = .ok (.iconst 0, 1) := by decide +kernel
theorem dX8_findNext_1 : decode cX8_findNext 1 = .ok (.istore_n 1, 1) := by decide +kernel
theorem dX8_findNext_2 : decode cX8_findNext 2 = .ok (.iload_n 1, 1) := by decide +kernel
theorem dX8_findNext_3 : decode cX8_findNext 3 = .ok (.bipush 40, 2) := by decide +kernel
theorem dX8_findNext_5 : decode cX8_findNext 5 = .ok (.if_icmp .ge 158, 3) := by decide +kernel
theorem dX8_findNext_8 : decode cX8_findNext 8 = .ok (.iload_n 1, 1) := by decide +kernel
theorem dX8_findNext_9 : decode cX8_findNext 9 = .ok (.ifCond .ne 7, 3) := by decide +kernel
theorem dX8_findNext_12 : decode cX8_findNext 12 = .ok (.iconst 0, 1) := by decide +kernel
theorem dX8_findNext_13 : decode cX8_findNext 13 = .ok (.goto 23, 3) := by decide +kernel
theorem dX8_findNext_16 : decode cX8_findNext 16 = .ok (.iload_n 1, 1) := by decide +kernel
theorem dX8_findNext_17 : decode cX8_findNext 17 = .ok (.iconst 4, 1) := by decide +kernel
theorem dX8_findNext_18 : decode cX8_findNext 18 = .ok (.if_icmp .ge 7, 3) := by decide +kernel
theorem dX8_findNext_21 : decode cX8_findNext 21 = .ok (.iconst 1, 1) := by decide +kernel
theorem dX8_findNext_22 : decode cX8_findNext 22 = .ok (.goto 14, 3) := by decide +kernel
theorem dX8_findNext_25 : decode cX8_findNext 25 = .ok (.iload_n 1, 1) := by decide +kernel
theorem dX8_findNext_26 : decode cX8_findNext 26 = .ok (.bipush 13, 2) := by decide +kernel
theorem dX8_findNext_28 : decode cX8_findNext 28 = .ok (.if_icmp .ge 7, 3) := by decide +kernel
theorem dX8_findNext_31 : decode cX8_findNext 31 = .ok (.iconst 2, 1) := by decide +kernel
theorem dX8_findNext_32 : decode cX8_findNext 32 = .ok (.goto 4, 3) := by decide +kernel
theorem dX8_findNext_35 : decode cX8_findNext 35 = .ok (.iconst 3, 1) := by decide +kernel
theorem dX8_findNext_36 : decode cX8_findNext 36 = .ok (.istore_n 2, 1) := by decide +kernel
theorem dX8_findNext_37 : decode cX8_findNext 37 = .ok (.iload_n 1, 1) := by decide +kernel
theorem dX8_findNext_38 : decode cX8_findNext 38 = .ok (.iload_n 2, 1) := by decide +kernel
theorem dX8_findNext_39 : decode cX8_findNext 39 = .ok (.ifCond .ne 7, 3) := by decide +kernel
theorem dX8_findNext_42 : decode cX8_findNext 42 = .ok (.iconst 0, 1) := by decide +kernel
theorem dX8_findNext_43 : decode cX8_findNext 43 = .ok (.goto 23, 3) := by decide +kernel
theorem dX8_findNext_46 : decode cX8_findNext 46 = .ok (.iload_n 2, 1) := by decide +kernel
theorem dX8_findNext_47 : decode cX8_findNext 47 = .ok (.iconst 1, 1) := by decide +kernel
theorem dX8_findNext_48 : decode cX8_findNext 48 = .ok (.if_icmp .ne 7, 3) := by decide +kernel
theorem dX8_findNext_51 : decode cX8_findNext 51 = .ok (.iconst 1, 1) := by decide +kernel
theorem dX8_findNext_52 : decode cX8_findNext 52 = .ok (.goto 14, 3) := by decide +kernel
theorem dX8_findNext_55 : decode cX8_findNext 55 = .ok (.iload_n 2, 1) := by decide +kernel
theorem dX8_findNext_56 : decode cX8_findNext 56 = .ok (.iconst 2, 1) := by decide +kernel
theorem dX8_findNext_57 : decode cX8_findNext 57 = .ok (.if_icmp .ne 7, 3) := by decide +kernel
theorem dX8_findNext_60 : decode cX8_findNext 60 = .ok (.iconst 4, 1) := by decide +kernel
theorem dX8_findNext_61 : decode cX8_findNext 61 = .ok (.goto 5, 3) := by decide +kernel
theorem dX8_findNext_64 : decode cX8_findNext 64 = .ok (.bipush 13, 2) := by decide +kernel
theorem dX8_findNext_66 : decode cX8_findNext 66 = .ok (.isub, 1) := by decide +kernel
theorem dX8_findNext_67 : decode cX8_findNext 67 = .ok (.istore_n 3, 1) := by decide +kernel
theorem dX8_findNext_68 : decode cX8_findNext 68 = .ok (.iload_n 2, 1) := by decide +kernel
theorem dX8_findNext_69 : decode cX8_findNext 69 = .ok (.iconst 1, 1) := by decide +kernel
theorem dX8_findNext_70 : decode cX8_findNext 70 = .ok (.isub, 1) := by decide +kernel
theorem dX8_findNext_71 : decode cX8_findNext 71 = .ok (.istore 4, 2) := by decide +kernel
theorem dX8_findNext_73 : decode cX8_findNext 73 = .ok (.iload 4, 2) := by decide +kernel
theorem dX8_findNext_75 : decode cX8_findNext 75 = .ok (.ifCond .lt 23, 3) := by decide +kernel
theorem dX8_findNext_78 : decode cX8_findNext 78 = .ok (.aload_n 0, 1) := by decide +kernel
theorem dX8_findNext_79 : decode cX8_findNext 79 = .ok (.getfield 40, 3) := by decide +kernel
theorem dX8_findNext_82 : decode cX8_findNext 82 = .ok (.iload 4, 2) := by decide +kernel
theorem dX8_findNext_84 : decode cX8_findNext 84 = .ok (.iload_n 3, 1) := by decide +kernel
theorem dX8_findNext_85 : decode cX8_findNext 85 = .ok (.iconst 3, 1) := by decide +kernel
theorem dX8_findNext_86 : decode cX8_findNext 86 = .ok (.irem, 1) := by decide +kernel
theorem dX8_findNext_87 : decode cX8_findNext 87 = .ok (.iastore, 1) := by decide +kernel
theorem dX8_findNext_88 : decode cX8_findNext 88 = .ok (.iload_n 3, 1) := by decide +kernel
theorem dX8_findNext_89 : decode cX8_findNext 89 = .ok (.iconst 3, 1) := by decide +kernel
theorem dX8_findNext_90 : decode cX8_findNext 90 = .ok (.idiv, 1) := by decide +kernel
theorem dX8_findNext_91 : decode cX8_findNext 91 = .ok (.istore_n 3, 1) := by decide +kernel
theorem dX8_findNext_92 : decode cX8_findNext 92 = .ok (.iinc 4 (-1), 3) := by decide +kernel
theorem dX8_findNext_95 : decode cX8_findNext 95 = .ok (.goto (-22), 3) := by decide +kernel
theorem dX8_findNext_98 : decode cX8_findNext 98 = .ok (.iconst 0, 1) := by decide +kernel
theorem dX8_findNext_99 : decode cX8_findNext 99 = .ok (.istore 4, 2) := by decide +kernel
theorem dX8_findNext_101 : decode cX8_findNext 101 = .ok (.iload 4, 2) := by decide +kernel
theorem dX8_findNext_103 : decode cX8_findNext 103 = .ok (.iconst 3, 1) := by decide +kernel
theorem dX8_findNext_104 : decode cX8_findNext 104 = .ok (.if_icmp .ge 53, 3) := by decide +kernel
theorem dX8_findNext_107 : decode cX8_findNext 107 = .ok (.aload_n 0, 1) := by decide +kernel
theorem dX8_findNext_108 : decode cX8_findNext 108 = .ok (.getfield 40, 3) := by decide +kernel
theorem dX8_findNext_111 : decode cX8_findNext 111 = .ok (.iload_n 2, 1) := by decide +kernel
theorem dX8_findNext_112 : decode cX8_findNext 112 = .ok (.iload 4, 2) := by decide +kernel
theorem dX8_findNext_114 : decode cX8_findNext 114 = .ok (.iastore, 1) := by decide +kernel
theorem dX8_findNext_115 : decode cX8_findNext 115 = .ok (.aload_n 0, 1) := by decide +kernel
theorem dX8_findNext_116 : decode cX8_findNext 116 = .ok (.getfield 43, 3) := by decide +kernel
theorem dX8_findNext_119 : decode cX8_findNext 119 = .ok (.iconst 3, 1) := by decide +kernel
theorem dX8_findNext_120 : decode cX8_findNext 120 = .ok (.iload_n 1, 1) := by decide +kernel
theorem dX8_findNext_121 : decode cX8_findNext 121 = .ok (.imul, 1) := by decide +kernel
theorem dX8_findNext_122 : decode cX8_findNext 122 = .ok (.iload 4, 2) := by decide +kernel
theorem dX8_findNext_124 : decode cX8_findNext 124 = .ok (.iadd, 1) := by decide +kernel
theorem dX8_findNext_125 : decode cX8_findNext 125 = .ok (.aload_n 0, 1) := by decide +kernel
theorem dX8_findNext_126 : decode cX8_findNext 126 = .ok (.iload_n 2, 1) := by decide +kernel
theorem dX8_findNext_127 : decode cX8_findNext 127 = .ok (.iconst 1, 1) := by decide +kernel
theorem dX8_findNext_128 : decode cX8_findNext 128 = .ok (.iadd, 1) := by decide +kernel
theorem dX8_findNext_129 : decode cX8_findNext 129 = .ok (.invokevirtual 169, 3) := by decide +kernel
theorem dX8_findNext_132 : decode cX8_findNext 132 = .ok (.iastore, 1) := by decide +kernel
theorem dX8_findNext_133 : decode cX8_findNext 133 = .ok (.aload_n 0, 1) := by decide +kernel
theorem dX8_findNext_134 : decode cX8_findNext 134 = .ok (.getfield 46, 3) := by decide +kernel
theorem dX8_findNext_137 : decode cX8_findNext 137 = .ok (.iconst 3, 1) := by decide +kernel
theorem dX8_findNext_138 : decode cX8_findNext 138 = .ok (.iload_n 1, 1) := by decide +kernel
theorem dX8_findNext_139 : decode cX8_findNext 139 = .ok (.imul, 1) := by decide +kernel
theorem dX8_findNext_140 : decode cX8_findNext 140 = .ok (.iload 4, 2) := by decide +kernel
theorem dX8_findNext_142 : decode cX8_findNext 142 = .ok (.iadd, 1) := by decide +kernel
theorem dX8_findNext_143 : decode cX8_findNext 143 = .ok (.aload_n 0, 1) := by decide +kernel
theorem dX8_findNext_144 : decode cX8_findNext 144 = .ok (.iload_n 2, 1) := by decide +kernel
theorem dX8_findNext_145 : decode cX8_findNext 145 = .ok (.iconst 1, 1) := by decide +kernel
theorem dX8_findNext_146 : decode cX8_findNext 146 = .ok (.iadd, 1) := by decide +kernel
theorem dX8_findNext_147 : decode cX8_findNext 147 = .ok (.invokevirtual 148, 3) := by decide +kernel
theorem dX8_findNext_150 : decode cX8_findNext 150 = .ok (.iastore, 1) := by decide +kernel
theorem dX8_findNext_151 : decode cX8_findNext 151 = .ok (.iinc 4 1, 3) := by decide +kernel
theorem dX8_findNext_154 : decode cX8_findNext 154 = .ok (.goto (-53), 3) := by decide +kernel
theorem dX8_findNext_157 : decode cX8_findNext 157 = .ok (.iinc 1 1, 3) := by decide +kernel
theorem dX8_findNext_160 : decode cX8_findNext 160 = .ok (.goto (-158), 3) := by decide +kernel
theorem dX8_findNext_163 : decode cX8_findNext 163 = .ok (.return_, 1) := by decide +kernel
theorem dX8_allWords_0 : decode cX8_allWords 0 = .ok (.iconst 1, 1) := by decide +kernel
theorem dX8_allWords_1 : decode cX8_allWords 1 = .ok (.aload_n 0, 1) := by decide +kernel
theorem dX8_allWords_2 : decode cX8_allWords 2 = .ok (.getfield 87, 3) := by decide +kernel
theorem dX8_allWords_5 : decode cX8_allWords 5 = .ok (.ishl, 1) := by decide +kernel
theorem dX8_allWords_6 : decode cX8_allWords 6 = .ok (.iconst 1, 1) := by decide +kernel
theorem dX8_allWords_7 : decode cX8_allWords 7 = .ok (.isub, 1) := by decide +kernel
theorem dX8_allWords_8 : decode cX8_allWords 8 = .ok (.ireturn, 1) := by decide +kernel
theorem dX8_findFar_0 : decode cX8_findFar 0 = .ok (.aload_n 0, 1) := by decide +kernel
theorem dX8_findFar_1 : decode cX8_findFar 1 = .ok (.invokevirtual 172, 3) := by decide +kernel
theorem dX8_findFar_4 : decode cX8_findFar 4 = .ok (.iconst 0, 1) := by decide +kernel
theorem dX8_findFar_5 : decode cX8_findFar 5 = .ok (.istore_n 1, 1) := by decide +kernel
theorem dX8_findFar_6 : decode cX8_findFar 6 = .ok (.iload_n 1, 1) := by decide +kernel
theorem dX8_findFar_7 : decode cX8_findFar 7 = .ok (.sipush 640, 3) := by decide +kernel
theorem dX8_findFar_10 : decode cX8_findFar 10 = .ok (.if_icmp .ge 32, 3) := by decide +kernel
theorem dX8_findFar_13 : decode cX8_findFar 13 = .ok (.aload_n 0, 1) := by decide +kernel
theorem dX8_findFar_14 : decode cX8_findFar 14 = .ok (.getfield 49, 3) := by decide +kernel
theorem dX8_findFar_17 : decode cX8_findFar 17 = .ok (.iload_n 1, 1) := by decide +kernel
theorem dX8_findFar_18 : decode cX8_findFar 18 = .ok (.iload_n 1, 1) := by decide +kernel
theorem dX8_findFar_19 : decode cX8_findFar 19 = .ok (.bipush 16, 2) := by decide +kernel
theorem dX8_findFar_21 : decode cX8_findFar 21 = .ok (.irem, 1) := by decide +kernel
theorem dX8_findFar_22 : decode cX8_findFar 22 = .ok (.aload_n 0, 1) := by decide +kernel
theorem dX8_findFar_23 : decode cX8_findFar 23 = .ok (.invokevirtual 175, 3) := by decide +kernel
theorem dX8_findFar_26 : decode cX8_findFar 26 = .ok (.if_icmp .ne 7, 3) := by decide +kernel
theorem dX8_findFar_29 : decode cX8_findFar 29 = .ok (.iconst 0, 1) := by decide +kernel
theorem dX8_findFar_30 : decode cX8_findFar 30 = .ok (.goto 5, 3) := by decide +kernel
theorem dX8_findFar_33 : decode cX8_findFar 33 = .ok (.bipush (-9), 2) := by decide +kernel
theorem dX8_findFar_35 : decode cX8_findFar 35 = .ok (.iastore, 1) := by decide +kernel
theorem dX8_findFar_36 : decode cX8_findFar 36 = .ok (.iinc 1 1, 3) := by decide +kernel
theorem dX8_findFar_39 : decode cX8_findFar 39 = .ok (.goto (-33), 3) := by decide +kernel
theorem dX8_findFar_42 : decode cX8_findFar 42 = .ok (.iconst 1, 1) := by decide +kernel
theorem dX8_findFar_43 : decode cX8_findFar 43 = .ok (.istore_n 1, 1) := by decide +kernel
theorem dX8_findFar_44 : decode cX8_findFar 44 = .ok (.iconst 1, 1) := by decide +kernel
theorem dX8_findFar_45 : decode cX8_findFar 45 = .ok (.istore_n 2, 1) := by decide +kernel
theorem dX8_findFar_46 : decode cX8_findFar 46 = .ok (.iload_n 1, 1) := by decide +kernel
theorem dX8_findFar_47 : decode cX8_findFar 47 = .ok (.ifCond .eq 79, 3) := by decide +kernel
theorem dX8_findFar_50 : decode cX8_findFar 50 = .ok (.iconst 0, 1) := by decide +kernel
theorem dX8_findFar_51 : decode cX8_findFar 51 = .ok (.istore_n 1, 1) := by decide +kernel
theorem dX8_findFar_52 : decode cX8_findFar 52 = .ok (.iconst 0, 1) := by decide +kernel
theorem dX8_findFar_53 : decode cX8_findFar 53 = .ok (.istore_n 3, 1) := by decide +kernel
theorem dX8_findFar_54 : decode cX8_findFar 54 = .ok (.iload_n 3, 1) := by decide +kernel
theorem dX8_findFar_55 : decode cX8_findFar 55 = .ok (.sipush 640, 3) := by decide +kernel
theorem dX8_findFar_58 : decode cX8_findFar 58 = .ok (.if_icmp .ge 62, 3) := by decide +kernel
theorem dX8_findFar_61 : decode cX8_findFar 61 = .ok (.iconst 0, 1) := by decide +kernel
theorem dX8_findFar_62 : decode cX8_findFar 62 = .ok (.istore 4, 2) := by decide +kernel
theorem dX8_findFar_64 : decode cX8_findFar 64 = .ok (.iload 4, 2) := by decide +kernel
theorem dX8_findFar_66 : decode cX8_findFar 66 = .ok (.iconst 3, 1) := by decide +kernel
theorem dX8_findFar_67 : decode cX8_findFar 67 = .ok (.if_icmp .ge 47, 3) := by decide +kernel
theorem dX8_findFar_70 : decode cX8_findFar 70 = .ok (.aload_n 0, 1) := by decide +kernel
theorem dX8_findFar_71 : decode cX8_findFar 71 = .ok (.getfield 49, 3) := by decide +kernel
theorem dX8_findFar_74 : decode cX8_findFar 74 = .ok (.iload_n 3, 1) := by decide +kernel
theorem dX8_findFar_75 : decode cX8_findFar 75 = .ok (.iaload, 1) := by decide +kernel
theorem dX8_findFar_76 : decode cX8_findFar 76 = .ok (.bipush (-9), 2) := by decide +kernel
theorem dX8_findFar_78 : decode cX8_findFar 78 = .ok (.if_icmp .ne 36, 3) := by decide +kernel
theorem dX8_findFar_81 : decode cX8_findFar 81 = .ok (.aload_n 0, 1) := by decide +kernel
theorem dX8_findFar_82 : decode cX8_findFar 82 = .ok (.getfield 49, 3) := by decide +kernel
theorem dX8_findFar_85 : decode cX8_findFar 85 = .ok (.aload_n 0, 1) := by decide +kernel
theorem dX8_findFar_86 : decode cX8_findFar 86 = .ok (.iload_n 3, 1) := by decide +kernel
theorem dX8_findFar_87 : decode cX8_findFar 87 = .ok (.iload 4, 2) := by decide +kernel
theorem dX8_findFar_89 : decode cX8_findFar 89 = .ok (.invokevirtual 178, 3) := by decide +kernel
theorem dX8_findFar_92 : decode cX8_findFar 92 = .ok (.iaload, 1) := by decide +kernel
theorem dX8_findFar_93 : decode cX8_findFar 93 = .ok (.iload_n 2, 1) := by decide +kernel
theorem dX8_findFar_94 : decode cX8_findFar 94 = .ok (.iconst 1, 1) := by decide +kernel
theorem dX8_findFar_95 : decode cX8_findFar 95 = .ok (.isub, 1) := by decide +kernel
theorem dX8_findFar_96 : decode cX8_findFar 96 = .ok (.if_icmp .ne 12, 3) := by decide +kernel
theorem dX8_findFar_99 : decode cX8_findFar 99 = .ok (.aload_n 0, 1) := by decide +kernel
theorem dX8_findFar_100 : decode cX8_findFar 100 = .ok (.getfield 49, 3) := by decide +kernel
theorem dX8_findFar_103 : decode cX8_findFar 103 = .ok (.iload_n 3, 1) := by decide +kernel
theorem dX8_findFar_104 : decode cX8_findFar 104 = .ok (.iload_n 2, 1) := by decide +kernel
theorem dX8_findFar_105 : decode cX8_findFar 105 = .ok (.iastore, 1) := by decide +kernel
theorem dX8_findFar_106 : decode cX8_findFar 106 = .ok (.iconst 1, 1) := by decide +kernel
theorem dX8_findFar_107 : decode cX8_findFar 107 = .ok (.istore_n 1, 1) := by decide +kernel
theorem dX8_findFar_108 : decode cX8_findFar 108 = .ok (.iinc 4 1, 3) := by decide +kernel
theorem dX8_findFar_111 : decode cX8_findFar 111 = .ok (.goto (-47), 3) := by decide +kernel
theorem dX8_findFar_114 : decode cX8_findFar 114 = .ok (.iinc 3 1, 3) := by decide +kernel
theorem dX8_findFar_117 : decode cX8_findFar 117 = .ok (.goto (-63), 3) := by decide +kernel
theorem dX8_findFar_120 : decode cX8_findFar 120 = .ok (.iinc 2 1, 3) := by decide +kernel
theorem dX8_findFar_123 : decode cX8_findFar 123 = .ok (.goto (-77), 3) := by decide +kernel
theorem dX8_findFar_126 : decode cX8_findFar 126 = .ok (.return_, 1) := by decide +kernel
theorem dX8_behindLetter_0 : decode cX8_behindLetter 0 = .ok (.iconst 3, 1) := by decide +kernel
theorem dX8_behindLetter_1 : decode cX8_behindLetter 1 = .ok (.iload_n 1, 1) := by decide +kernel
theorem dX8_behindLetter_2 : decode cX8_behindLetter 2 = .ok (.bipush 16, 2) := by decide +kernel
theorem dX8_behindLetter_4 : decode cX8_behindLetter 4 = .ok (.idiv, 1) := by decide +kernel
theorem dX8_behindLetter_5 : decode cX8_behindLetter 5 = .ok (.imul, 1) := by decide +kernel
theorem dX8_behindLetter_6 : decode cX8_behindLetter 6 = .ok (.iload_n 2, 1) := by decide +kernel
theorem dX8_behindLetter_7 : decode cX8_behindLetter 7 = .ok (.iadd, 1) := by decide +kernel
theorem dX8_behindLetter_8 : decode cX8_behindLetter 8 = .ok (.istore_n 3, 1) := by decide +kernel
theorem dX8_behindLetter_9 : decode cX8_behindLetter 9 = .ok (.bipush 16, 2) := by decide +kernel
theorem dX8_behindLetter_11 : decode cX8_behindLetter 11 = .ok (.aload_n 0, 1) := by decide +kernel
theorem dX8_behindLetter_12 : decode cX8_behindLetter 12 = .ok (.getfield 43, 3) := by decide +kernel
theorem dX8_behindLetter_15 : decode cX8_behindLetter 15 = .ok (.iload_n 3, 1) := by decide +kernel
theorem dX8_behindLetter_16 : decode cX8_behindLetter 16 = .ok (.iaload, 1) := by decide +kernel
theorem dX8_behindLetter_17 : decode cX8_behindLetter 17 = .ok (.imul, 1) := by decide +kernel
theorem dX8_behindLetter_18 : decode cX8_behindLetter 18 = .ok (.iload_n 1, 1) := by decide +kernel
theorem dX8_behindLetter_19 : decode cX8_behindLetter 19 = .ok (.bipush 16, 2) := by decide +kernel
theorem dX8_behindLetter_21 : decode cX8_behindLetter 21 = .ok (.irem, 1) := by decide +kernel
theorem dX8_behindLetter_22 : decode cX8_behindLetter 22 = .ok (.aload_n 0, 1) := by decide +kernel
theorem dX8_behindLetter_23 : decode cX8_behindLetter 23 = .ok (.getfield 46, 3) := by decide +kernel
theorem dX8_behindLetter_26 : decode cX8_behindLetter 26 = .ok (.iload_n 3, 1) := by decide +kernel
theorem dX8_behindLetter_27 : decode cX8_behindLetter 27 = .ok (.iaload, 1) := by decide +kernel
theorem dX8_behindLetter_28 : decode cX8_behindLetter 28 = .ok (.ior, 1) := by decide +kernel
theorem dX8_behindLetter_29 : decode cX8_behindLetter 29 = .ok (.iadd, 1) := by decide +kernel
theorem dX8_behindLetter_30 : decode cX8_behindLetter 30 = .ok (.ireturn, 1) := by decide +kernel
theorem dX8_all_0 : decode cX8_all 0 = .ok (.iload_n 1, 1) := by decide +kernel
theorem dX8_all_1 : decode cX8_all 1 = .ok (.iconst (-1), 1) := by decide +kernel
theorem dX8_all_2 : decode cX8_all 2 = .ok (.bipush 15, 2) := by decide +kernel
theorem dX8_all_4 : decode cX8_all 4 = .ok (.invokestatic 83, 3) := by decide +kernel
theorem dX8_all_7 : decode cX8_all 7 = .ok (.ifCond .ne 6, 3) := by decide +kernel
theorem dX8_all_10 : decode cX8_all 10 = .ok (.bipush (-2), 2) := by decide +kernel
theorem dX8_all_12 : decode cX8_all 12 = .ok (.ireturn, 1) := by decide +kernel
theorem dX8_all_13 : decode cX8_all 13 = .ok (.aload_n 0, 1) := by decide +kernel
theorem dX8_all_14 : decode cX8_all 14 = .ok (.getfield 87, 3) := by decide +kernel
theorem dX8_all_17 : decode cX8_all 17 = .ok (.ifCond .ne 6, 3) := by decide +kernel
theorem dX8_all_20 : decode cX8_all 20 = .ok (.bipush (-3), 2) := by decide +kernel
theorem dX8_all_22 : decode cX8_all 22 = .ok (.ireturn, 1) := by decide +kernel
theorem dX8_all_23 : decode cX8_all 23 = .ok (.aload_n 0, 1) := by decide +kernel
theorem dX8_all_24 : decode cX8_all 24 = .ok (.invokevirtual 182, 3) := by decide +kernel
theorem dX8_all_27 : decode cX8_all 27 = .ok (.iload_n 1, 1) := by decide +kernel
theorem dX8_all_28 : decode cX8_all 28 = .ok (.iconst (-1), 1) := by decide +kernel
theorem dX8_all_29 : decode cX8_all 29 = .ok (.if_icmp .ne 10, 3) := by decide +kernel
theorem dX8_all_32 : decode cX8_all 32 = .ok (.aload_n 0, 1) := by decide +kernel
theorem dX8_all_33 : decode cX8_all 33 = .ok (.getfield 49, 3) := by decide +kernel
theorem dX8_all_36 : decode cX8_all 36 = .ok (.iconst 0, 1) := by decide +kernel
theorem dX8_all_37 : decode cX8_all 37 = .ok (.iaload, 1) := by decide +kernel
theorem dX8_all_38 : decode cX8_all 38 = .ok (.ireturn, 1) := by decide +kernel
theorem dX8_all_39 : decode cX8_all 39 = .ok (.iload_n 1, 1) := by decide +kernel
theorem dX8_all_40 : decode cX8_all 40 = .ok (.aload_n 0, 1) := by decide +kernel
theorem dX8_all_41 : decode cX8_all 41 = .ok (.getfield 49, 3) := by decide +kernel
theorem dX8_all_44 : decode cX8_all 44 = .ok (.iconst 0, 1) := by decide +kernel
theorem dX8_all_45 : decode cX8_all 45 = .ok (.iaload, 1) := by decide +kernel
theorem dX8_all_46 : decode cX8_all 46 = .ok (.if_icmp .lt 6, 3) := by decide +kernel
theorem dX8_all_49 : decode cX8_all 49 = .ok (.bipush (-9), 2) := by decide +kernel
theorem dX8_all_51 : decode cX8_all 51 = .ok (.ireturn, 1) := by decide +kernel
theorem dX8_all_52 : decode cX8_all 52 = .ok (.iconst 0, 1) := by decide +kernel
theorem dX8_all_53 : decode cX8_all 53 = .ok (.istore_n 2, 1) := by decide +kernel
theorem dX8_all_54 : decode cX8_all 54 = .ok (.iconst 0, 1) := by decide +kernel
theorem dX8_all_55 : decode cX8_all 55 = .ok (.istore_n 3, 1) := by decide +kernel
theorem dX8_all_56 : decode cX8_all 56 = .ok (.iconst 0, 1) := by decide +kernel
theorem dX8_all_57 : decode cX8_all 57 = .ok (.istore 4, 2) := by decide +kernel
theorem dX8_all_59 : decode cX8_all 59 = .ok (.iload 4, 2) := by decide +kernel
theorem dX8_all_61 : decode cX8_all 61 = .ok (.iload_n 1, 1) := by decide +kernel
theorem dX8_all_62 : decode cX8_all 62 = .ok (.if_icmp .gt 46, 3) := by decide +kernel
theorem dX8_all_65 : decode cX8_all 65 = .ok (.iconst 0, 1) := by decide +kernel
theorem dX8_all_66 : decode cX8_all 66 = .ok (.istore_n 3, 1) := by decide +kernel
theorem dX8_all_67 : decode cX8_all 67 = .ok (.aload_n 0, 1) := by decide +kernel
theorem dX8_all_68 : decode cX8_all 68 = .ok (.getfield 49, 3) := by decide +kernel
theorem dX8_all_71 : decode cX8_all 71 = .ok (.aload_n 0, 1) := by decide +kernel
theorem dX8_all_72 : decode cX8_all 72 = .ok (.iload_n 2, 1) := by decide +kernel
theorem dX8_all_73 : decode cX8_all 73 = .ok (.iload_n 3, 1) := by decide +kernel
theorem dX8_all_74 : decode cX8_all 74 = .ok (.invokevirtual 178, 3) := by decide +kernel
theorem dX8_all_77 : decode cX8_all 77 = .ok (.iaload, 1) := by decide +kernel
theorem dX8_all_78 : decode cX8_all 78 = .ok (.aload_n 0, 1) := by decide +kernel
theorem dX8_all_79 : decode cX8_all 79 = .ok (.getfield 49, 3) := by decide +kernel
theorem dX8_all_82 : decode cX8_all 82 = .ok (.iload_n 2, 1) := by decide +kernel
theorem dX8_all_83 : decode cX8_all 83 = .ok (.iaload, 1) := by decide +kernel
theorem dX8_all_84 : decode cX8_all 84 = .ok (.iconst 1, 1) := by decide +kernel
theorem dX8_all_85 : decode cX8_all 85 = .ok (.isub, 1) := by decide +kernel
theorem dX8_all_86 : decode cX8_all 86 = .ok (.if_icmp .eq 9, 3) := by decide +kernel
theorem dX8_all_89 : decode cX8_all 89 = .ok (.iinc 3 1, 3) := by decide +kernel
theorem dX8_all_92 : decode cX8_all 92 = .ok (.goto (-25), 3) := by decide +kernel
theorem dX8_all_95 : decode cX8_all 95 = .ok (.aload_n 0, 1) := by decide +kernel
theorem dX8_all_96 : decode cX8_all 96 = .ok (.iload_n 2, 1) := by decide +kernel
theorem dX8_all_97 : decode cX8_all 97 = .ok (.iload_n 3, 1) := by decide +kernel
theorem dX8_all_98 : decode cX8_all 98 = .ok (.invokevirtual 178, 3) := by decide +kernel
theorem dX8_all_101 : decode cX8_all 101 = .ok (.istore_n 2, 1) := by decide +kernel
theorem dX8_all_102 : decode cX8_all 102 = .ok (.iinc 4 1, 3) := by decide +kernel
theorem dX8_all_105 : decode cX8_all 105 = .ok (.goto (-46), 3) := by decide +kernel
theorem dX8_all_108 : decode cX8_all 108 = .ok (.iload_n 3, 1) := by decide +kernel
theorem dX8_all_109 : decode cX8_all 109 = .ok (.ireturn, 1) := by decide +kernel
theorem dX8_findWays_0 : decode cX8_findWays 0 = .ok (.aload_n 0, 1) := by decide +kernel
theorem dX8_findWays_1 : decode cX8_findWays 1 = .ok (.invokevirtual 172, 3) := by decide +kernel
theorem dX8_findWays_4 : decode cX8_findWays 4 = .ok (.iconst 0, 1) := by decide +kernel
theorem dX8_findWays_5 : decode cX8_findWays 5 = .ok (.istore_n 2, 1) := by decide +kernel
theorem dX8_findWays_6 : decode cX8_findWays 6 = .ok (.iload_n 2, 1) := by decide +kernel
theorem dX8_findWays_7 : decode cX8_findWays 7 = .ok (.sipush 640, 3) := by decide +kernel
theorem dX8_findWays_10 : decode cX8_findWays 10 = .ok (.if_icmp .ge 24, 3) := by decide +kernel
theorem dX8_findWays_13 : decode cX8_findWays 13 = .ok (.aload_n 0, 1) := by decide +kernel
theorem dX8_findWays_14 : decode cX8_findWays 14 = .ok (.getfield 52, 3) := by decide +kernel
theorem dX8_findWays_17 : decode cX8_findWays 17 = .ok (.iload_n 2, 1) := by decide +kernel
theorem dX8_findWays_18 : decode cX8_findWays 18 = .ok (.iload_n 2, 1) := by decide +kernel
theorem dX8_findWays_19 : decode cX8_findWays 19 = .ok (.ifCond .ne 7, 3) := by decide +kernel
theorem dX8_findWays_22 : decode cX8_findWays 22 = .ok (.lconst 1, 1) := by decide +kernel
theorem dX8_findWays_23 : decode cX8_findWays 23 = .ok (.goto 4, 3) := by decide +kernel
theorem dX8_findWays_26 : decode cX8_findWays 26 = .ok (.lconst 0, 1) := by decide +kernel
theorem dX8_findWays_27 : decode cX8_findWays 27 = .ok (.lastore, 1) := by decide +kernel
theorem dX8_findWays_28 : decode cX8_findWays 28 = .ok (.iinc 2 1, 3) := by decide +kernel
theorem dX8_findWays_31 : decode cX8_findWays 31 = .ok (.goto (-25), 3) := by decide +kernel
theorem dX8_findWays_34 : decode cX8_findWays 34 = .ok (.iconst 0, 1) := by decide +kernel
theorem dX8_findWays_35 : decode cX8_findWays 35 = .ok (.istore_n 2, 1) := by decide +kernel
theorem dX8_findWays_36 : decode cX8_findWays 36 = .ok (.iload_n 2, 1) := by decide +kernel
theorem dX8_findWays_37 : decode cX8_findWays 37 = .ok (.iload_n 1, 1) := by decide +kernel
theorem dX8_findWays_38 : decode cX8_findWays 38 = .ok (.if_icmp .ge 120, 3) := by decide +kernel
theorem dX8_findWays_41 : decode cX8_findWays 41 = .ok (.iconst 0, 1) := by decide +kernel
theorem dX8_findWays_42 : decode cX8_findWays 42 = .ok (.istore_n 3, 1) := by decide +kernel
theorem dX8_findWays_43 : decode cX8_findWays 43 = .ok (.iload_n 3, 1) := by decide +kernel
theorem dX8_findWays_44 : decode cX8_findWays 44 = .ok (.sipush 640, 3) := by decide +kernel
theorem dX8_findWays_47 : decode cX8_findWays 47 = .ok (.if_icmp .ge 16, 3) := by decide +kernel
theorem dX8_findWays_50 : decode cX8_findWays 50 = .ok (.aload_n 0, 1) := by decide +kernel
theorem dX8_findWays_51 : decode cX8_findWays 51 = .ok (.getfield 56, 3) := by decide +kernel
theorem dX8_findWays_54 : decode cX8_findWays 54 = .ok (.iload_n 3, 1) := by decide +kernel
theorem dX8_findWays_55 : decode cX8_findWays 55 = .ok (.lconst 0, 1) := by decide +kernel
theorem dX8_findWays_56 : decode cX8_findWays 56 = .ok (.lastore, 1) := by decide +kernel
theorem dX8_findWays_57 : decode cX8_findWays 57 = .ok (.iinc 3 1, 3) := by decide +kernel
theorem dX8_findWays_60 : decode cX8_findWays 60 = .ok (.goto (-17), 3) := by decide +kernel
theorem dX8_findWays_63 : decode cX8_findWays 63 = .ok (.iconst 0, 1) := by decide +kernel
theorem dX8_findWays_64 : decode cX8_findWays 64 = .ok (.istore_n 3, 1) := by decide +kernel
theorem dX8_findWays_65 : decode cX8_findWays 65 = .ok (.iload_n 3, 1) := by decide +kernel
theorem dX8_findWays_66 : decode cX8_findWays 66 = .ok (.sipush 640, 3) := by decide +kernel
theorem dX8_findWays_69 : decode cX8_findWays 69 = .ok (.if_icmp .ge 56, 3) := by decide +kernel
theorem dX8_findWays_72 : decode cX8_findWays 72 = .ok (.iconst 0, 1) := by decide +kernel
theorem dX8_findWays_73 : decode cX8_findWays 73 = .ok (.istore 4, 2) := by decide +kernel
theorem dX8_findWays_75 : decode cX8_findWays 75 = .ok (.iload 4, 2) := by decide +kernel
theorem dX8_findWays_77 : decode cX8_findWays 77 = .ok (.iconst 3, 1) := by decide +kernel
