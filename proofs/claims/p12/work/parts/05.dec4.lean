theorem dX4_init_0 : decode cX4_init 0 = .ok (.aload_n 0, 1) := by decide +kernel
theorem dX4_init_1 : decode cX4_init 1 = .ok (.invokespecial 3, 3) := by decide +kernel
theorem dX4_init_4 : decode cX4_init 4 = .ok (.aload_n 0, 1) := by decide +kernel
theorem dX4_init_5 : decode cX4_init 5 = .ok (.new 9, 3) := by decide +kernel
theorem dX4_init_8 : decode cX4_init 8 = .ok (.dup, 1) := by decide +kernel
theorem dX4_init_9 : decode cX4_init 9 = .ok (.invokespecial 11, 3) := by decide +kernel
theorem dX4_init_12 : decode cX4_init 12 = .ok (.putfield 12, 3) := by decide +kernel
theorem dX4_init_15 : decode cX4_init 15 = .ok (.aload_n 0, 1) := by decide +kernel
theorem dX4_init_16 : decode cX4_init 16 = .ok (.new 16, 3) := by decide +kernel
theorem dX4_init_19 : decode cX4_init 19 = .ok (.dup, 1) := by decide +kernel
theorem dX4_init_20 : decode cX4_init 20 = .ok (.aload_n 0, 1) := by decide +kernel
theorem dX4_init_21 : decode cX4_init 21 = .ok (.getfield 12, 3) := by decide +kernel
theorem dX4_init_24 : decode cX4_init 24 = .ok (.invokespecial 18, 3) := by decide +kernel
theorem dX4_init_27 : decode cX4_init 27 = .ok (.putfield 21, 3) := by decide +kernel
theorem dX4_init_30 : decode cX4_init 30 = .ok (.aload_n 0, 1) := by decide +kernel
theorem dX4_init_31 : decode cX4_init 31 = .ok (.new 25, 3) := by decide +kernel
theorem dX4_init_34 : decode cX4_init 34 = .ok (.dup, 1) := by decide +kernel
theorem dX4_init_35 : decode cX4_init 35 = .ok (.aload_n 0, 1) := by decide +kernel
theorem dX4_init_36 : decode cX4_init 36 = .ok (.getfield 12, 3) := by decide +kernel
theorem dX4_init_39 : decode cX4_init 39 = .ok (.aload_n 0, 1) := by decide +kernel
theorem dX4_init_40 : decode cX4_init 40 = .ok (.getfield 21, 3) := by decide +kernel
theorem dX4_init_43 : decode cX4_init 43 = .ok (.invokespecial 27, 3) := by decide +kernel
theorem dX4_init_46 : decode cX4_init 46 = .ok (.putfield 30, 3) := by decide +kernel
theorem dX4_init_49 : decode cX4_init 49 = .ok (.aload_n 0, 1) := by decide +kernel
theorem dX4_init_50 : decode cX4_init 50 = .ok (.bipush 64, 2) := by decide +kernel
theorem dX4_init_52 : decode cX4_init 52 = .ok (.invokevirtual 34, 3) := by decide +kernel
theorem dX4_init_55 : decode cX4_init 55 = .ok (.return_, 1) := by decide +kernel
theorem dX4_open_0 : decode cX4_open 0 = .ok (.iload_n 1, 1) := by decide +kernel
theorem dX4_open_1 : decode cX4_open 1 = .ok (.bipush 16, 2) := by decide +kernel
theorem dX4_open_3 : decode cX4_open 3 = .ok (.if_icmp .lt 10, 3) := by decide +kernel
theorem dX4_open_6 : decode cX4_open 6 = .ok (.iload_n 1, 1) := by decide +kernel
theorem dX4_open_7 : decode cX4_open 7 = .ok (.sipush 2048, 3) := by decide +kernel
theorem dX4_open_10 : decode cX4_open 10 = .ok (.if_icmp .le 6, 3) := by decide +kernel
theorem dX4_open_13 : decode cX4_open 13 = .ok (.bipush (-2), 2) := by decide +kernel
theorem dX4_open_15 : decode cX4_open 15 = .ok (.ireturn, 1) := by decide +kernel
theorem dX4_open_16 : decode cX4_open 16 = .ok (.aload_n 0, 1) := by decide +kernel
theorem dX4_open_17 : decode cX4_open 17 = .ok (.iload_n 1, 1) := by decide +kernel
theorem dX4_open_18 : decode cX4_open 18 = .ok (.invokevirtual 34, 3) := by decide +kernel
theorem dX4_open_21 : decode cX4_open 21 = .ok (.iconst 1, 1) := by decide +kernel
theorem dX4_open_22 : decode cX4_open 22 = .ok (.ireturn, 1) := by decide +kernel
theorem dX4_alloc_0 : decode cX4_alloc 0 = .ok (.iload_n 1, 1) := by decide +kernel
theorem dX4_alloc_1 : decode cX4_alloc 1 = .ok (.invokestatic 38, 3) := by decide +kernel
theorem dX4_alloc_4 : decode cX4_alloc 4 = .ok (.ifCond .ne 6, 3) := by decide +kernel
theorem dX4_alloc_7 : decode cX4_alloc 7 = .ok (.bipush (-2), 2) := by decide +kernel
theorem dX4_alloc_9 : decode cX4_alloc 9 = .ok (.ireturn, 1) := by decide +kernel
theorem dX4_alloc_10 : decode cX4_alloc 10 = .ok (.aload_n 0, 1) := by decide +kernel
theorem dX4_alloc_11 : decode cX4_alloc 11 = .ok (.getfield 42, 3) := by decide +kernel
theorem dX4_alloc_14 : decode cX4_alloc 14 = .ok (.ifCond .eq 6, 3) := by decide +kernel
theorem dX4_alloc_17 : decode cX4_alloc 17 = .ok (.bipush (-3), 2) := by decide +kernel
theorem dX4_alloc_19 : decode cX4_alloc 19 = .ok (.ireturn, 1) := by decide +kernel
theorem dX4_alloc_20 : decode cX4_alloc 20 = .ok (.iload_n 1, 1) := by decide +kernel
theorem dX4_alloc_21 : decode cX4_alloc 21 = .ok (.invokestatic 46, 3) := by decide +kernel
theorem dX4_alloc_24 : decode cX4_alloc 24 = .ok (.istore_n 2, 1) := by decide +kernel
theorem dX4_alloc_25 : decode cX4_alloc 25 = .ok (.aload_n 0, 1) := by decide +kernel
theorem dX4_alloc_26 : decode cX4_alloc 26 = .ok (.getfield 21, 3) := by decide +kernel
theorem dX4_alloc_29 : decode cX4_alloc 29 = .ok (.iload_n 2, 1) := by decide +kernel
theorem dX4_alloc_30 : decode cX4_alloc 30 = .ok (.invokevirtual 50, 3) := by decide +kernel
theorem dX4_alloc_33 : decode cX4_alloc 33 = .ok (.istore_n 3, 1) := by decide +kernel
theorem dX4_alloc_34 : decode cX4_alloc 34 = .ok (.iload_n 3, 1) := by decide +kernel
theorem dX4_alloc_35 : decode cX4_alloc 35 = .ok (.iconst (-1), 1) := by decide +kernel
theorem dX4_alloc_36 : decode cX4_alloc 36 = .ok (.if_icmp .ne 8, 3) := by decide +kernel
theorem dX4_alloc_39 : decode cX4_alloc 39 = .ok (.aload_n 0, 1) := by decide +kernel
theorem dX4_alloc_40 : decode cX4_alloc 40 = .ok (.invokevirtual 53, 3) := by decide +kernel
theorem dX4_alloc_43 : decode cX4_alloc 43 = .ok (.ireturn, 1) := by decide +kernel
theorem dX4_alloc_44 : decode cX4_alloc 44 = .ok (.aload_n 0, 1) := by decide +kernel
theorem dX4_alloc_45 : decode cX4_alloc 45 = .ok (.getfield 21, 3) := by decide +kernel
theorem dX4_alloc_48 : decode cX4_alloc 48 = .ok (.invokevirtual 57, 3) := by decide +kernel
theorem dX4_alloc_51 : decode cX4_alloc 51 = .ok (.aload_n 0, 1) := by decide +kernel
theorem dX4_alloc_52 : decode cX4_alloc 52 = .ok (.iload_n 3, 1) := by decide +kernel
theorem dX4_alloc_53 : decode cX4_alloc 53 = .ok (.invokevirtual 60, 3) := by decide +kernel
theorem dX4_alloc_56 : decode cX4_alloc 56 = .ok (.aload_n 0, 1) := by decide +kernel
theorem dX4_alloc_57 : decode cX4_alloc 57 = .ok (.iload_n 3, 1) := by decide +kernel
theorem dX4_alloc_58 : decode cX4_alloc 58 = .ok (.iload_n 2, 1) := by decide +kernel
theorem dX4_alloc_59 : decode cX4_alloc 59 = .ok (.invokevirtual 63, 3) := by decide +kernel
theorem dX4_alloc_62 : decode cX4_alloc 62 = .ok (.iload_n 3, 1) := by decide +kernel
theorem dX4_alloc_63 : decode cX4_alloc 63 = .ok (.iconst 1, 1) := by decide +kernel
theorem dX4_alloc_64 : decode cX4_alloc 64 = .ok (.iadd, 1) := by decide +kernel
theorem dX4_alloc_65 : decode cX4_alloc 65 = .ok (.ireturn, 1) := by decide +kernel
theorem dX4_aligned_0 : decode cX4_aligned 0 = .ok (.iload_n 1, 1) := by decide +kernel
theorem dX4_aligned_1 : decode cX4_aligned 1 = .ok (.invokestatic 38, 3) := by decide +kernel
theorem dX4_aligned_4 : decode cX4_aligned 4 = .ok (.ifCond .eq 10, 3) := by decide +kernel
theorem dX4_aligned_7 : decode cX4_aligned 7 = .ok (.iload_n 2, 1) := by decide +kernel
theorem dX4_aligned_8 : decode cX4_aligned 8 = .ok (.invokestatic 67, 3) := by decide +kernel
theorem dX4_aligned_11 : decode cX4_aligned 11 = .ok (.ifCond .ne 6, 3) := by decide +kernel
theorem dX4_aligned_14 : decode cX4_aligned 14 = .ok (.bipush (-2), 2) := by decide +kernel
theorem dX4_aligned_16 : decode cX4_aligned 16 = .ok (.ireturn, 1) := by decide +kernel
theorem dX4_aligned_17 : decode cX4_aligned 17 = .ok (.aload_n 0, 1) := by decide +kernel
theorem dX4_aligned_18 : decode cX4_aligned 18 = .ok (.getfield 42, 3) := by decide +kernel
theorem dX4_aligned_21 : decode cX4_aligned 21 = .ok (.ifCond .eq 6, 3) := by decide +kernel
theorem dX4_aligned_24 : decode cX4_aligned 24 = .ok (.bipush (-3), 2) := by decide +kernel
theorem dX4_aligned_26 : decode cX4_aligned 26 = .ok (.ireturn, 1) := by decide +kernel
theorem dX4_aligned_27 : decode cX4_aligned 27 = .ok (.iload_n 1, 1) := by decide +kernel
theorem dX4_aligned_28 : decode cX4_aligned 28 = .ok (.invokestatic 46, 3) := by decide +kernel
theorem dX4_aligned_31 : decode cX4_aligned 31 = .ok (.istore_n 3, 1) := by decide +kernel
theorem dX4_aligned_32 : decode cX4_aligned 32 = .ok (.aload_n 0, 1) := by decide +kernel
theorem dX4_aligned_33 : decode cX4_aligned 33 = .ok (.getfield 21, 3) := by decide +kernel
theorem dX4_aligned_36 : decode cX4_aligned 36 = .ok (.iload_n 3, 1) := by decide +kernel
theorem dX4_aligned_37 : decode cX4_aligned 37 = .ok (.iload_n 2, 1) := by decide +kernel
theorem dX4_aligned_38 : decode cX4_aligned 38 = .ok (.invokestatic 70, 3) := by decide +kernel
theorem dX4_aligned_41 : decode cX4_aligned 41 = .ok (.iadd, 1) := by decide +kernel
theorem dX4_aligned_42 : decode cX4_aligned 42 = .ok (.invokevirtual 50, 3) := by decide +kernel
theorem dX4_aligned_45 : decode cX4_aligned 45 = .ok (.istore 4, 2) := by decide +kernel
theorem dX4_aligned_47 : decode cX4_aligned 47 = .ok (.iload 4, 2) := by decide +kernel
theorem dX4_aligned_49 : decode cX4_aligned 49 = .ok (.iconst (-1), 1) := by decide +kernel
theorem dX4_aligned_50 : decode cX4_aligned 50 = .ok (.if_icmp .ne 8, 3) := by decide +kernel
theorem dX4_aligned_53 : decode cX4_aligned 53 = .ok (.aload_n 0, 1) := by decide +kernel
theorem dX4_aligned_54 : decode cX4_aligned 54 = .ok (.invokevirtual 53, 3) := by decide +kernel
theorem dX4_aligned_57 : decode cX4_aligned 57 = .ok (.ireturn, 1) := by decide +kernel
theorem dX4_aligned_58 : decode cX4_aligned 58 = .ok (.aload_n 0, 1) := by decide +kernel
theorem dX4_aligned_59 : decode cX4_aligned 59 = .ok (.getfield 21, 3) := by decide +kernel
theorem dX4_aligned_62 : decode cX4_aligned 62 = .ok (.invokevirtual 57, 3) := by decide +kernel
theorem dX4_aligned_65 : decode cX4_aligned 65 = .ok (.aload_n 0, 1) := by decide +kernel
theorem dX4_aligned_66 : decode cX4_aligned 66 = .ok (.iload 4, 2) := by decide +kernel
theorem dX4_aligned_68 : decode cX4_aligned 68 = .ok (.invokevirtual 60, 3) := by decide +kernel
theorem dX4_aligned_71 : decode cX4_aligned 71 = .ok (.iload 4, 2) := by decide +kernel
theorem dX4_aligned_73 : decode cX4_aligned 73 = .ok (.iconst 1, 1) := by decide +kernel
theorem dX4_aligned_74 : decode cX4_aligned 74 = .ok (.iadd, 1) := by decide +kernel
theorem dX4_aligned_75 : decode cX4_aligned 75 = .ok (.iload_n 2, 1) := by decide +kernel
theorem dX4_aligned_76 : decode cX4_aligned 76 = .ok (.invokestatic 73, 3) := by decide +kernel
theorem dX4_aligned_79 : decode cX4_aligned 79 = .ok (.istore 5, 2) := by decide +kernel
theorem dX4_aligned_81 : decode cX4_aligned 81 = .ok (.iload 5, 2) := by decide +kernel
theorem dX4_aligned_83 : decode cX4_aligned 83 = .ok (.iload 4, 2) := by decide +kernel
theorem dX4_aligned_85 : decode cX4_aligned 85 = .ok (.iconst 1, 1) := by decide +kernel
theorem dX4_aligned_86 : decode cX4_aligned 86 = .ok (.iadd, 1) := by decide +kernel
theorem dX4_aligned_87 : decode cX4_aligned 87 = .ok (.if_icmp .eq 13, 3) := by decide +kernel
theorem dX4_aligned_90 : decode cX4_aligned 90 = .ok (.aload_n 0, 1) := by decide +kernel
theorem dX4_aligned_91 : decode cX4_aligned 91 = .ok (.iload 4, 2) := by decide +kernel
theorem dX4_aligned_93 : decode cX4_aligned 93 = .ok (.iload 5, 2) := by decide +kernel
theorem dX4_aligned_95 : decode cX4_aligned 95 = .ok (.iconst 1, 1) := by decide +kernel
theorem dX4_aligned_96 : decode cX4_aligned 96 = .ok (.isub, 1) := by decide +kernel
theorem dX4_aligned_97 : decode cX4_aligned 97 = .ok (.invokevirtual 77, 3) := by decide +kernel
theorem dX4_aligned_100 : decode cX4_aligned 100 = .ok (.aload_n 0, 1) := by decide +kernel
theorem dX4_aligned_101 : decode cX4_aligned 101 = .ok (.iload 5, 2) := by decide +kernel
theorem dX4_aligned_103 : decode cX4_aligned 103 = .ok (.iconst 1, 1) := by decide +kernel
theorem dX4_aligned_104 : decode cX4_aligned 104 = .ok (.isub, 1) := by decide +kernel
theorem dX4_aligned_105 : decode cX4_aligned 105 = .ok (.iload_n 3, 1) := by decide +kernel
theorem dX4_aligned_106 : decode cX4_aligned 106 = .ok (.invokevirtual 63, 3) := by decide +kernel
theorem dX4_aligned_109 : decode cX4_aligned 109 = .ok (.iload 5, 2) := by decide +kernel
theorem dX4_aligned_111 : decode cX4_aligned 111 = .ok (.ireturn, 1) := by decide +kernel
theorem dX4_free_0 : decode cX4_free 0 = .ok (.aload_n 0, 1) := by decide +kernel
theorem dX4_free_1 : decode cX4_free 1 = .ok (.iload_n 1, 1) := by decide +kernel
theorem dX4_free_2 : decode cX4_free 2 = .ok (.invokevirtual 80, 3) := by decide +kernel
theorem dX4_free_5 : decode cX4_free 5 = .ok (.istore_n 2, 1) := by decide +kernel
theorem dX4_free_6 : decode cX4_free 6 = .ok (.iload_n 2, 1) := by decide +kernel
theorem dX4_free_7 : decode cX4_free 7 = .ok (.ifCond .eq 5, 3) := by decide +kernel
theorem dX4_free_10 : decode cX4_free 10 = .ok (.iload_n 2, 1) := by decide +kernel
theorem dX4_free_11 : decode cX4_free 11 = .ok (.ireturn, 1) := by decide +kernel
theorem dX4_free_12 : decode cX4_free 12 = .ok (.aload_n 0, 1) := by decide +kernel
theorem dX4_free_13 : decode cX4_free 13 = .ok (.getfield 21, 3) := by decide +kernel
theorem dX4_free_16 : decode cX4_free 16 = .ok (.invokevirtual 57, 3) := by decide +kernel
theorem dX4_free_19 : decode cX4_free 19 = .ok (.aload_n 0, 1) := by decide +kernel
theorem dX4_free_20 : decode cX4_free 20 = .ok (.iload_n 1, 1) := by decide +kernel
theorem dX4_free_21 : decode cX4_free 21 = .ok (.iconst 1, 1) := by decide +kernel
theorem dX4_free_22 : decode cX4_free 22 = .ok (.isub, 1) := by decide +kernel
theorem dX4_free_23 : decode cX4_free 23 = .ok (.invokevirtual 83, 3) := by decide +kernel
theorem dX4_free_26 : decode cX4_free 26 = .ok (.ireturn, 1) := by decide +kernel
theorem dX4_resize_0 : decode cX4_resize 0 = .ok (.aload_n 0, 1) := by decide +kernel
theorem dX4_resize_1 : decode cX4_resize 1 = .ok (.iload_n 1, 1) := by decide +kernel
theorem dX4_resize_2 : decode cX4_resize 2 = .ok (.invokevirtual 80, 3) := by decide +kernel
theorem dX4_resize_5 : decode cX4_resize 5 = .ok (.istore_n 3, 1) := by decide +kernel
theorem dX4_resize_6 : decode cX4_resize 6 = .ok (.iload_n 3, 1) := by decide +kernel
theorem dX4_resize_7 : decode cX4_resize 7 = .ok (.ifCond .eq 5, 3) := by decide +kernel
theorem dX4_resize_10 : decode cX4_resize 10 = .ok (.iload_n 3, 1) := by decide +kernel
theorem dX4_resize_11 : decode cX4_resize 11 = .ok (.ireturn, 1) := by decide +kernel
theorem dX4_resize_12 : decode cX4_resize 12 = .ok (.iload_n 2, 1) := by decide +kernel
theorem dX4_resize_13 : decode cX4_resize 13 = .ok (.invokestatic 38, 3) := by decide +kernel
theorem dX4_resize_16 : decode cX4_resize 16 = .ok (.ifCond .ne 6, 3) := by decide +kernel
theorem dX4_resize_19 : decode cX4_resize 19 = .ok (.bipush (-2), 2) := by decide +kernel
theorem dX4_resize_21 : decode cX4_resize 21 = .ok (.ireturn, 1) := by decide +kernel
theorem dX4_resize_22 : decode cX4_resize 22 = .ok (.iload_n 1, 1) := by decide +kernel
theorem dX4_resize_23 : decode cX4_resize 23 = .ok (.iconst 1, 1) := by decide +kernel
theorem dX4_resize_24 : decode cX4_resize 24 = .ok (.isub, 1) := by decide +kernel
theorem dX4_resize_25 : decode cX4_resize 25 = .ok (.istore 4, 2) := by decide +kernel
theorem dX4_resize_27 : decode cX4_resize 27 = .ok (.iload_n 2, 1) := by decide +kernel
theorem dX4_resize_28 : decode cX4_resize 28 = .ok (.invokestatic 46, 3) := by decide +kernel
theorem dX4_resize_31 : decode cX4_resize 31 = .ok (.istore 5, 2) := by decide +kernel
theorem dX4_resize_33 : decode cX4_resize 33 = .ok (.iload 5, 2) := by decide +kernel
theorem dX4_resize_35 : decode cX4_resize 35 = .ok (.aload_n 0, 1) := by decide +kernel
theorem dX4_resize_36 : decode cX4_resize 36 = .ok (.iload 4, 2) := by decide +kernel
theorem dX4_resize_38 : decode cX4_resize 38 = .ok (.invokevirtual 86, 3) := by decide +kernel
theorem dX4_resize_41 : decode cX4_resize 41 = .ok (.if_icmp .gt 40, 3) := by decide +kernel
theorem dX4_resize_44 : decode cX4_resize 44 = .ok (.aload_n 0, 1) := by decide +kernel
theorem dX4_resize_45 : decode cX4_resize 45 = .ok (.getfield 21, 3) := by decide +kernel
theorem dX4_resize_48 : decode cX4_resize 48 = .ok (.invokevirtual 57, 3) := by decide +kernel
theorem dX4_resize_51 : decode cX4_resize 51 = .ok (.iload 5, 2) := by decide +kernel
theorem dX4_resize_53 : decode cX4_resize 53 = .ok (.aload_n 0, 1) := by decide +kernel
theorem dX4_resize_54 : decode cX4_resize 54 = .ok (.getfield 12, 3) := by decide +kernel
theorem dX4_resize_57 : decode cX4_resize 57 = .ok (.iload 4, 2) := by decide +kernel
theorem dX4_resize_59 : decode cX4_resize 59 = .ok (.invokevirtual 89, 3) := by decide +kernel
theorem dX4_resize_62 : decode cX4_resize 62 = .ok (.if_icmp .le 9, 3) := by decide +kernel
theorem dX4_resize_65 : decode cX4_resize 65 = .ok (.aload_n 0, 1) := by decide +kernel
theorem dX4_resize_66 : decode cX4_resize 66 = .ok (.iload 4, 2) := by decide +kernel
theorem dX4_resize_68 : decode cX4_resize 68 = .ok (.invokevirtual 92, 3) := by decide +kernel
theorem dX4_resize_71 : decode cX4_resize 71 = .ok (.aload_n 0, 1) := by decide +kernel
theorem dX4_resize_72 : decode cX4_resize 72 = .ok (.iload 4, 2) := by decide +kernel
theorem dX4_resize_74 : decode cX4_resize 74 = .ok (.iload 5, 2) := by decide +kernel
theorem dX4_resize_76 : decode cX4_resize 76 = .ok (.invokevirtual 63, 3) := by decide +kernel
theorem dX4_resize_79 : decode cX4_resize 79 = .ok (.iload_n 1, 1) := by decide +kernel
theorem dX4_resize_80 : decode cX4_resize 80 = .ok (.ireturn, 1) := by decide +kernel
theorem dX4_resize_81 : decode cX4_resize 81 = .ok (.aload_n 0, 1) := by decide +kernel
theorem dX4_resize_82 : decode cX4_resize 82 = .ok (.getfield 21, 3) := by decide +kernel
theorem dX4_resize_85 : decode cX4_resize 85 = .ok (.iload 5, 2) := by decide +kernel
theorem dX4_resize_87 : decode cX4_resize 87 = .ok (.invokevirtual 50, 3) := by decide +kernel
theorem dX4_resize_90 : decode cX4_resize 90 = .ok (.istore 6, 2) := by decide +kernel
theorem dX4_resize_92 : decode cX4_resize 92 = .ok (.iload 6, 2) := by decide +kernel
theorem dX4_resize_94 : decode cX4_resize 94 = .ok (.iconst (-1), 1) := by decide +kernel
theorem dX4_resize_95 : decode cX4_resize 95 = .ok (.if_icmp .ne 8, 3) := by decide +kernel
theorem dX4_resize_98 : decode cX4_resize 98 = .ok (.aload_n 0, 1) := by decide +kernel
theorem dX4_resize_99 : decode cX4_resize 99 = .ok (.invokevirtual 53, 3) := by decide +kernel
theorem dX4_resize_102 : decode cX4_resize 102 = .ok (.ireturn, 1) := by decide +kernel
theorem dX4_resize_103 : decode cX4_resize 103 = .ok (.aload_n 0, 1) := by decide +kernel
theorem dX4_resize_104 : decode cX4_resize 104 = .ok (.getfield 21, 3) := by decide +kernel
theorem dX4_resize_107 : decode cX4_resize 107 = .ok (.invokevirtual 57, 3) := by decide +kernel
theorem dX4_resize_110 : decode cX4_resize 110 = .ok (.aload_n 0, 1) := by decide +kernel
theorem dX4_resize_111 : decode cX4_resize 111 = .ok (.iload 6, 2) := by decide +kernel
theorem dX4_resize_113 : decode cX4_resize 113 = .ok (.invokevirtual 60, 3) := by decide +kernel
theorem dX4_resize_116 : decode cX4_resize 116 = .ok (.aload_n 0, 1) := by decide +kernel
theorem dX4_resize_117 : decode cX4_resize 117 = .ok (.iload 6, 2) := by decide +kernel
theorem dX4_resize_119 : decode cX4_resize 119 = .ok (.iload 5, 2) := by decide +kernel
theorem dX4_resize_121 : decode cX4_resize 121 = .ok (.invokevirtual 63, 3) := by decide +kernel
theorem dX4_resize_124 : decode cX4_resize 124 = .ok (.aload_n 0, 1) := by decide +kernel
theorem dX4_resize_125 : decode cX4_resize 125 = .ok (.iload 4, 2) := by decide +kernel
theorem dX4_resize_127 : decode cX4_resize 127 = .ok (.iload 6, 2) := by decide +kernel
theorem dX4_resize_129 : decode cX4_resize 129 = .ok (.invokevirtual 95, 3) := by decide +kernel
theorem dX4_resize_132 : decode cX4_resize 132 = .ok (.aload_n 0, 1) := by decide +kernel
theorem dX4_resize_133 : decode cX4_resize 133 = .ok (.iload 4, 2) := by decide +kernel
theorem dX4_resize_135 : decode cX4_resize 135 = .ok (.invokevirtual 83, 3) := by decide +kernel
theorem dX4_resize_138 : decode cX4_resize 138 = .ok (.pop, 1) := by decide +kernel
theorem dX4_resize_139 : decode cX4_resize 139 = .ok (.iload 6, 2) := by decide +kernel
theorem dX4_resize_141 : decode cX4_resize 141 = .ok (.iconst 1, 1) := by decide +kernel
theorem dX4_resize_142 : decode cX4_resize 142 = .ok (.iadd, 1) := by decide +kernel
theorem dX4_resize_143 : decode cX4_resize 143 = .ok (.ireturn, 1) := by decide +kernel
theorem dX4_grow_0 : decode cX4_grow 0 = .ok (.iload_n 1, 1) := by decide +kernel
theorem dX4_grow_1 : decode cX4_grow 1 = .ok (.iconst 4, 1) := by decide +kernel
theorem dX4_grow_2 : decode cX4_grow 2 = .ok (.if_icmp .lt 10, 3) := by decide +kernel
theorem dX4_grow_5 : decode cX4_grow 5 = .ok (.iload_n 1, 1) := by decide +kernel
theorem dX4_grow_6 : decode cX4_grow 6 = .ok (.sipush 1024, 3) := by decide +kernel
theorem dX4_grow_9 : decode cX4_grow 9 = .ok (.if_icmp .le 6, 3) := by decide +kernel
theorem dX4_grow_12 : decode cX4_grow 12 = .ok (.bipush (-2), 2) := by decide +kernel
theorem dX4_grow_14 : decode cX4_grow 14 = .ok (.ireturn, 1) := by decide +kernel
theorem dX4_grow_15 : decode cX4_grow 15 = .ok (.aload_n 0, 1) := by decide +kernel
theorem dX4_grow_16 : decode cX4_grow 16 = .ok (.getfield 42, 3) := by decide +kernel
theorem dX4_grow_19 : decode cX4_grow 19 = .ok (.ifCond .eq 6, 3) := by decide +kernel
theorem dX4_grow_22 : decode cX4_grow 22 = .ok (.bipush (-3), 2) := by decide +kernel
theorem dX4_grow_24 : decode cX4_grow 24 = .ok (.ireturn, 1) := by decide +kernel
theorem dX4_grow_25 : decode cX4_grow 25 = .ok (.aload_n 0, 1) := by decide +kernel
theorem dX4_grow_26 : decode cX4_grow 26 = .ok (.getfield 12, 3) := by decide +kernel
theorem dX4_grow_29 : decode cX4_grow 29 = .ok (.getfield 98, 3) := by decide +kernel
theorem dX4_grow_32 : decode cX4_grow 32 = .ok (.istore_n 2, 1) := by decide +kernel
theorem dX4_grow_33 : decode cX4_grow 33 = .ok (.iload_n 2, 1) := by decide +kernel
theorem dX4_grow_34 : decode cX4_grow 34 = .ok (.iload_n 1, 1) := by decide +kernel
theorem dX4_grow_35 : decode cX4_grow 35 = .ok (.iadd, 1) := by decide +kernel
theorem dX4_grow_36 : decode cX4_grow 36 = .ok (.sipush 2048, 3) := by decide +kernel
theorem dX4_grow_39 : decode cX4_grow 39 = .ok (.if_icmp .le 6, 3) := by decide +kernel
theorem dX4_grow_42 : decode cX4_grow 42 = .ok (.bipush (-4), 2) := by decide +kernel
theorem dX4_grow_44 : decode cX4_grow 44 = .ok (.ireturn, 1) := by decide +kernel
theorem dX4_grow_45 : decode cX4_grow 45 = .ok (.aload_n 0, 1) := by decide +kernel
theorem dX4_grow_46 : decode cX4_grow 46 = .ok (.getfield 12, 3) := by decide +kernel
theorem dX4_grow_49 : decode cX4_grow 49 = .ok (.aload_n 0, 1) := by decide +kernel
theorem dX4_grow_50 : decode cX4_grow 50 = .ok (.invokevirtual 102, 3) := by decide +kernel
theorem dX4_grow_53 : decode cX4_grow 53 = .ok (.invokevirtual 105, 3) := by decide +kernel
theorem dX4_grow_56 : decode cX4_grow 56 = .ok (.istore_n 3, 1) := by decide +kernel
theorem dX4_grow_57 : decode cX4_grow 57 = .ok (.aload_n 0, 1) := by decide +kernel
theorem dX4_grow_58 : decode cX4_grow 58 = .ok (.getfield 21, 3) := by decide +kernel
theorem dX4_grow_61 : decode cX4_grow 61 = .ok (.invokevirtual 57, 3) := by decide +kernel
theorem dX4_grow_64 : decode cX4_grow 64 = .ok (.aload_n 0, 1) := by decide +kernel
theorem dX4_grow_65 : decode cX4_grow 65 = .ok (.getfield 12, 3) := by decide +kernel
theorem dX4_grow_68 : decode cX4_grow 68 = .ok (.iload_n 2, 1) := by decide +kernel
theorem dX4_grow_69 : decode cX4_grow 69 = .ok (.iload_n 1, 1) := by decide +kernel
theorem dX4_grow_70 : decode cX4_grow 70 = .ok (.iadd, 1) := by decide +kernel
theorem dX4_grow_71 : decode cX4_grow 71 = .ok (.putfield 98, 3) := by decide +kernel
theorem dX4_grow_74 : decode cX4_grow 74 = .ok (.aload_n 0, 1) := by decide +kernel
theorem dX4_grow_75 : decode cX4_grow 75 = .ok (.getfield 12, 3) := by decide +kernel
theorem dX4_grow_78 : decode cX4_grow 78 = .ok (.iload_n 2, 1) := by decide +kernel
theorem dX4_grow_79 : decode cX4_grow 79 = .ok (.iload_n 1, 1) := by decide +kernel
theorem dX4_grow_80 : decode cX4_grow 80 = .ok (.iconst 1, 1) := by decide +kernel
theorem dX4_grow_81 : decode cX4_grow 81 = .ok (.isub, 1) := by decide +kernel
theorem dX4_grow_82 : decode cX4_grow 82 = .ok (.iload_n 3, 1) := by decide +kernel
theorem dX4_grow_83 : decode cX4_grow 83 = .ok (.ifCond .eq 7, 3) := by decide +kernel
theorem dX4_grow_86 : decode cX4_grow 86 = .ok (.iconst 2, 1) := by decide +kernel
theorem dX4_grow_87 : decode cX4_grow 87 = .ok (.goto 4, 3) := by decide +kernel
theorem dX4_grow_90 : decode cX4_grow 90 = .ok (.iconst 0, 1) := by decide +kernel
theorem dX4_grow_91 : decode cX4_grow 91 = .ok (.invokevirtual 108, 3) := by decide +kernel
theorem dX4_grow_94 : decode cX4_grow 94 = .ok (.aload_n 0, 1) := by decide +kernel
theorem dX4_grow_95 : decode cX4_grow 95 = .ok (.iload_n 2, 1) := by decide +kernel
theorem dX4_grow_96 : decode cX4_grow 96 = .ok (.invokevirtual 83, 3) := by decide +kernel
theorem dX4_grow_99 : decode cX4_grow 99 = .ok (.pop, 1) := by decide +kernel
theorem dX4_grow_100 : decode cX4_grow 100 = .ok (.aload_n 0, 1) := by decide +kernel
theorem dX4_grow_101 : decode cX4_grow 101 = .ok (.getfield 12, 3) := by decide +kernel
theorem dX4_grow_104 : decode cX4_grow 104 = .ok (.getfield 98, 3) := by decide +kernel
theorem dX4_grow_107 : decode cX4_grow 107 = .ok (.ireturn, 1) := by decide +kernel
theorem dX4_size_0 : decode cX4_size 0 = .ok (.aload_n 0, 1) := by decide +kernel
theorem dX4_size_1 : decode cX4_size 1 = .ok (.iload_n 1, 1) := by decide +kernel
theorem dX4_size_2 : decode cX4_size 2 = .ok (.invokevirtual 80, 3) := by decide +kernel
theorem dX4_size_5 : decode cX4_size 5 = .ok (.istore_n 2, 1) := by decide +kernel
theorem dX4_size_6 : decode cX4_size 6 = .ok (.iload_n 2, 1) := by decide +kernel
theorem dX4_size_7 : decode cX4_size 7 = .ok (.ifCond .eq 7, 3) := by decide +kernel
theorem dX4_size_10 : decode cX4_size 10 = .ok (.iload_n 2, 1) := by decide +kernel
theorem dX4_size_11 : decode cX4_size 11 = .ok (.goto 13, 3) := by decide +kernel
theorem dX4_size_14 : decode cX4_size 14 = .ok (.aload_n 0, 1) := by decide +kernel
theorem dX4_size_15 : decode cX4_size 15 = .ok (.getfield 12, 3) := by decide +kernel
theorem dX4_size_18 : decode cX4_size 18 = .ok (.iload_n 1, 1) := by decide +kernel
theorem dX4_size_19 : decode cX4_size 19 = .ok (.iconst 1, 1) := by decide +kernel
theorem dX4_size_20 : decode cX4_size 20 = .ok (.isub, 1) := by decide +kernel
theorem dX4_size_21 : decode cX4_size 21 = .ok (.invokevirtual 89, 3) := by decide +kernel
theorem dX4_size_24 : decode cX4_size 24 = .ok (.ireturn, 1) := by decide +kernel
theorem dX4_put_0 : decode cX4_put 0 = .ok (.aload_n 0, 1) := by decide +kernel
theorem dX4_put_1 : decode cX4_put 1 = .ok (.iload_n 1, 1) := by decide +kernel
theorem dX4_put_2 : decode cX4_put 2 = .ok (.invokevirtual 80, 3) := by decide +kernel
theorem dX4_put_5 : decode cX4_put 5 = .ok (.istore 5, 2) := by decide +kernel
theorem dX4_put_7 : decode cX4_put 7 = .ok (.iload 5, 2) := by decide +kernel
theorem dX4_put_9 : decode cX4_put 9 = .ok (.ifCond .eq 6, 3) := by decide +kernel
theorem dX4_put_12 : decode cX4_put 12 = .ok (.iload 5, 2) := by decide +kernel
theorem dX4_put_14 : decode cX4_put 14 = .ok (.ireturn, 1) := by decide +kernel
theorem dX4_put_15 : decode cX4_put 15 = .ok (.iload_n 2, 1) := by decide +kernel
theorem dX4_put_16 : decode cX4_put 16 = .ok (.ifCond .lt 17, 3) := by decide +kernel
theorem dX4_put_19 : decode cX4_put 19 = .ok (.iload_n 2, 1) := by decide +kernel
theorem dX4_put_20 : decode cX4_put 20 = .ok (.aload_n 0, 1) := by decide +kernel
theorem dX4_put_21 : decode cX4_put 21 = .ok (.getfield 12, 3) := by decide +kernel
theorem dX4_put_24 : decode cX4_put 24 = .ok (.iload_n 1, 1) := by decide +kernel
theorem dX4_put_25 : decode cX4_put 25 = .ok (.iconst 1, 1) := by decide +kernel
theorem dX4_put_26 : decode cX4_put 26 = .ok (.isub, 1) := by decide +kernel
theorem dX4_put_27 : decode cX4_put 27 = .ok (.invokevirtual 89, 3) := by decide +kernel
theorem dX4_put_30 : decode cX4_put 30 = .ok (.if_icmp .lt 6, 3) := by decide +kernel
theorem dX4_put_33 : decode cX4_put 33 = .ok (.bipush (-2), 2) := by decide +kernel
theorem dX4_put_35 : decode cX4_put 35 = .ok (.ireturn, 1) := by decide +kernel
theorem dX4_put_36 : decode cX4_put 36 = .ok (.aload_n 0, 1) := by decide +kernel
theorem dX4_put_37 : decode cX4_put 37 = .ok (.getfield 12, 3) := by decide +kernel
theorem dX4_put_40 : decode cX4_put 40 = .ok (.iload_n 1, 1) := by decide +kernel
theorem dX4_put_41 : decode cX4_put 41 = .ok (.iload_n 2, 1) := by decide +kernel
theorem dX4_put_42 : decode cX4_put 42 = .ok (.iadd, 1) := by decide +kernel
theorem dX4_put_43 : decode cX4_put 43 = .ok (.lload_n 3, 1) := by decide +kernel
theorem dX4_put_44 : decode cX4_put 44 = .ok (.invokevirtual 112, 3) := by decide +kernel
theorem dX4_put_47 : decode cX4_put 47 = .ok (.iconst 1, 1) := by decide +kernel
theorem dX4_put_48 : decode cX4_put 48 = .ok (.ireturn, 1) := by decide +kernel
theorem dX4_word_0 : decode cX4_word 0 = .ok (.aload_n 0, 1) := by decide +kernel
theorem dX4_word_1 : decode cX4_word 1 = .ok (.getfield 12, 3) := by decide +kernel
theorem dX4_word_4 : decode cX4_word 4 = .ok (.iload_n 1, 1) := by decide +kernel
theorem dX4_word_5 : decode cX4_word 5 = .ok (.invokevirtual 116, 3) := by decide +kernel
theorem dX4_word_8 : decode cX4_word 8 = .ok (.lreturn, 1) := by decide +kernel
theorem dX4_spoil_0 : decode cX4_spoil 0 = .ok (.aload_n 0, 1) := by decide +kernel
theorem dX4_spoil_1 : decode cX4_spoil 1 = .ok (.getfield 12, 3) := by decide +kernel
theorem dX4_spoil_4 : decode cX4_spoil 4 = .ok (.iload_n 1, 1) := by decide +kernel
theorem dX4_spoil_5 : decode cX4_spoil 5 = .ok (.invokevirtual 120, 3) := by decide +kernel
theorem dX4_spoil_8 : decode cX4_spoil 8 = .ok (.ifCond .ne 6, 3) := by decide +kernel
theorem dX4_spoil_11 : decode cX4_spoil 11 = .ok (.bipush (-2), 2) := by decide +kernel
theorem dX4_spoil_13 : decode cX4_spoil 13 = .ok (.ireturn, 1) := by decide +kernel
theorem dX4_spoil_14 : decode cX4_spoil 14 = .ok (.aload_n 0, 1) := by decide +kernel
theorem dX4_spoil_15 : decode cX4_spoil 15 = .ok (.getfield 12, 3) := by decide +kernel
theorem dX4_spoil_18 : decode cX4_spoil 18 = .ok (.iload_n 1, 1) := by decide +kernel
theorem dX4_spoil_19 : decode cX4_spoil 19 = .ok (.lload_n 2, 1) := by decide +kernel
theorem dX4_spoil_20 : decode cX4_spoil 20 = .ok (.invokevirtual 112, 3) := by decide +kernel
theorem dX4_spoil_23 : decode cX4_spoil 23 = .ok (.aload_n 0, 1) := by decide +kernel
theorem dX4_spoil_24 : decode cX4_spoil 24 = .ok (.iconst 1, 1) := by decide +kernel
theorem dX4_spoil_25 : decode cX4_spoil 25 = .ok (.putfield 42, 3) := by decide +kernel
theorem dX4_spoil_28 : decode cX4_spoil 28 = .ok (.iconst 1, 1) := by decide +kernel
theorem dX4_spoil_29 : decode cX4_spoil 29 = .ok (.ireturn, 1) := by decide +kernel
theorem dX4_check_0 : decode cX4_check 0 = .ok (.aload_n 0, 1) := by decide +kernel
theorem dX4_check_1 : decode cX4_check 1 = .ok (.getfield 30, 3) := by decide +kernel
theorem dX4_check_4 : decode cX4_check 4 = .ok (.invokevirtual 123, 3) := by decide +kernel
theorem dX4_check_7 : decode cX4_check 7 = .ok (.istore_n 1, 1) := by decide +kernel
theorem dX4_check_8 : decode cX4_check 8 = .ok (.iload_n 1, 1) := by decide +kernel
theorem dX4_check_9 : decode cX4_check 9 = .ok (.ifCond .ne 8, 3) := by decide +kernel
theorem dX4_check_12 : decode cX4_check 12 = .ok (.aload_n 0, 1) := by decide +kernel
theorem dX4_check_13 : decode cX4_check 13 = .ok (.iconst 0, 1) := by decide +kernel
theorem dX4_check_14 : decode cX4_check 14 = .ok (.putfield 42, 3) := by decide +kernel
theorem dX4_check_17 : decode cX4_check 17 = .ok (.iload_n 1, 1) := by decide +kernel
theorem dX4_check_18 : decode cX4_check 18 = .ok (.ireturn, 1) := by decide +kernel
theorem dX4_where_0 : decode cX4_where 0 = .ok (.aload_n 0, 1) := by decide +kernel
theorem dX4_where_1 : decode cX4_where 1 = .ok (.getfield 30, 3) := by decide +kernel
theorem dX4_where_4 : decode cX4_where 4 = .ok (.getfield 126, 3) := by decide +kernel
theorem dX4_where_7 : decode cX4_where 7 = .ok (.ireturn, 1) := by decide +kernel
theorem dX4_classOf_0 : decode cX4_classOf 0 = .ok (.iload_n 1, 1) := by decide +kernel
theorem dX4_classOf_1 : decode cX4_classOf 1 = .ok (.iconst 1, 1) := by decide +kernel
theorem dX4_classOf_2 : decode cX4_classOf 2 = .ok (.if_icmp .lt 10, 3) := by decide +kernel
theorem dX4_classOf_5 : decode cX4_classOf 5 = .ok (.iload_n 1, 1) := by decide +kernel
theorem dX4_classOf_6 : decode cX4_classOf 6 = .ok (.sipush 4095, 3) := by decide +kernel
theorem dX4_classOf_9 : decode cX4_classOf 9 = .ok (.if_icmp .le 6, 3) := by decide +kernel
theorem dX4_classOf_12 : decode cX4_classOf 12 = .ok (.bipush (-2), 2) := by decide +kernel
theorem dX4_classOf_14 : decode cX4_classOf 14 = .ok (.ireturn, 1) := by decide +kernel
theorem dX4_classOf_15 : decode cX4_classOf 15 = .ok (.iload_n 2, 1) := by decide +kernel
theorem dX4_classOf_16 : decode cX4_classOf 16 = .ok (.ifCond .eq 10, 3) := by decide +kernel
theorem dX4_classOf_19 : decode cX4_classOf 19 = .ok (.iload_n 1, 1) := by decide +kernel
theorem dX4_classOf_20 : decode cX4_classOf 20 = .ok (.invokestatic 129, 3) := by decide +kernel
theorem dX4_classOf_23 : decode cX4_classOf 23 = .ok (.goto 7, 3) := by decide +kernel
theorem dX4_classOf_26 : decode cX4_classOf 26 = .ok (.iload_n 1, 1) := by decide +kernel
theorem dX4_classOf_27 : decode cX4_classOf 27 = .ok (.invokestatic 134, 3) := by decide +kernel
theorem dX4_classOf_30 : decode cX4_classOf 30 = .ok (.ireturn, 1) := by decide +kernel
theorem dX4_listed_0 : decode cX4_listed 0 = .ok (.iload_n 1, 1) := by decide +kernel
theorem dX4_listed_1 : decode cX4_listed 1 = .ok (.ifCond .lt 13, 3) := by decide +kernel
theorem dX4_listed_4 : decode cX4_listed 4 = .ok (.iload_n 1, 1) := by decide +kernel
theorem dX4_listed_5 : decode cX4_listed 5 = .ok (.bipush 72, 2) := by decide +kernel
theorem dX4_listed_7 : decode cX4_listed 7 = .ok (.if_icmp .ge 7, 3) := by decide +kernel
theorem dX4_listed_10 : decode cX4_listed 10 = .ok (.iload_n 2, 1) := by decide +kernel
theorem dX4_listed_11 : decode cX4_listed 11 = .ok (.ifCond .ge 6, 3) := by decide +kernel
theorem dX4_listed_14 : decode cX4_listed 14 = .ok (.bipush (-2), 2) := by decide +kernel
theorem dX4_listed_16 : decode cX4_listed 16 = .ok (.ireturn, 1) := by decide +kernel
theorem dX4_listed_17 : decode cX4_listed 17 = .ok (.aload_n 0, 1) := by decide +kernel
theorem dX4_listed_18 : decode cX4_listed 18 = .ok (.getfield 42, 3) := by decide +kernel
theorem dX4_listed_21 : decode cX4_listed 21 = .ok (.ifCond .eq 6, 3) := by decide +kernel
theorem dX4_listed_24 : decode cX4_listed 24 = .ok (.bipush (-3), 2) := by decide +kernel
theorem dX4_listed_26 : decode cX4_listed 26 = .ok (.ireturn, 1) := by decide +kernel
theorem dX4_listed_27 : decode cX4_listed 27 = .ok (.aload_n 0, 1) := by decide +kernel
theorem dX4_listed_28 : decode cX4_listed 28 = .ok (.getfield 21, 3) := by decide +kernel
theorem dX4_listed_31 : decode cX4_listed 31 = .ok (.iload_n 1, 1) := by decide +kernel
theorem dX4_listed_32 : decode cX4_listed 32 = .ok (.iload_n 2, 1) := by decide +kernel
theorem dX4_listed_33 : decode cX4_listed 33 = .ok (.invokevirtual 137, 3) := by decide +kernel
theorem dX4_listed_36 : decode cX4_listed 36 = .ok (.ireturn, 1) := by decide +kernel
theorem dX4_bits_0 : decode cX4_bits 0 = .ok (.iload_n 1, 1) := by decide +kernel
theorem dX4_bits_1 : decode cX4_bits 1 = .ok (.ifCond .lt 9, 3) := by decide +kernel
theorem dX4_bits_4 : decode cX4_bits 4 = .ok (.iload_n 1, 1) := by decide +kernel
theorem dX4_bits_5 : decode cX4_bits 5 = .ok (.bipush 9, 2) := by decide +kernel
theorem dX4_bits_7 : decode cX4_bits 7 = .ok (.if_icmp .le 6, 3) := by decide +kernel
theorem dX4_bits_10 : decode cX4_bits 10 = .ok (.bipush (-2), 2) := by decide +kernel
theorem dX4_bits_12 : decode cX4_bits 12 = .ok (.ireturn, 1) := by decide +kernel
theorem dX4_bits_13 : decode cX4_bits 13 = .ok (.iload_n 1, 1) := by decide +kernel
theorem dX4_bits_14 : decode cX4_bits 14 = .ok (.bipush 9, 2) := by decide +kernel
theorem dX4_bits_16 : decode cX4_bits 16 = .ok (.if_icmp .ne 13, 3) := by decide +kernel
theorem dX4_bits_19 : decode cX4_bits 19 = .ok (.aload_n 0, 1) := by decide +kernel
theorem dX4_bits_20 : decode cX4_bits 20 = .ok (.getfield 21, 3) := by decide +kernel
theorem dX4_bits_23 : decode cX4_bits 23 = .ok (.invokevirtual 140, 3) := by decide +kernel
theorem dX4_bits_26 : decode cX4_bits 26 = .ok (.goto 11, 3) := by decide +kernel
theorem dX4_bits_29 : decode cX4_bits 29 = .ok (.aload_n 0, 1) := by decide +kernel
theorem dX4_bits_30 : decode cX4_bits 30 = .ok (.getfield 21, 3) := by decide +kernel
theorem dX4_bits_33 : decode cX4_bits 33 = .ok (.iload_n 1, 1) := by decide +kernel
theorem dX4_bits_34 : decode cX4_bits 34 = .ok (.invokevirtual 143, 3) := by decide +kernel
theorem dX4_bits_37 : decode cX4_bits 37 = .ok (.ireturn, 1) := by decide +kernel
theorem dX4_block_0 : decode cX4_block 0 = .ok (.iload_n 1, 1) := by decide +kernel
theorem dX4_block_1 : decode cX4_block 1 = .ok (.ifCond .lt 12, 3) := by decide +kernel
theorem dX4_block_4 : decode cX4_block 4 = .ok (.iload_n 2, 1) := by decide +kernel
theorem dX4_block_5 : decode cX4_block 5 = .ok (.ifCond .lt 8, 3) := by decide +kernel
theorem dX4_block_8 : decode cX4_block 8 = .ok (.iload_n 2, 1) := by decide +kernel
theorem dX4_block_9 : decode cX4_block 9 = .ok (.iconst 2, 1) := by decide +kernel
theorem dX4_block_10 : decode cX4_block 10 = .ok (.if_icmp .le 6, 3) := by decide +kernel
theorem dX4_block_13 : decode cX4_block 13 = .ok (.bipush (-2), 2) := by decide +kernel
theorem dX4_block_15 : decode cX4_block 15 = .ok (.ireturn, 1) := by decide +kernel
theorem dX4_block_16 : decode cX4_block 16 = .ok (.aload_n 0, 1) := by decide +kernel
theorem dX4_block_17 : decode cX4_block 17 = .ok (.getfield 42, 3) := by decide +kernel
theorem dX4_block_20 : decode cX4_block 20 = .ok (.ifCond .eq 6, 3) := by decide +kernel
theorem dX4_block_23 : decode cX4_block 23 = .ok (.bipush (-3), 2) := by decide +kernel
theorem dX4_block_25 : decode cX4_block 25 = .ok (.ireturn, 1) := by decide +kernel
theorem dX4_block_26 : decode cX4_block 26 = .ok (.aload_n 0, 1) := by decide +kernel
theorem dX4_block_27 : decode cX4_block 27 = .ok (.iload_n 1, 1) := by decide +kernel
theorem dX4_block_28 : decode cX4_block 28 = .ok (.invokevirtual 146, 3) := by decide +kernel
theorem dX4_block_31 : decode cX4_block 31 = .ok (.istore_n 3, 1) := by decide +kernel
theorem dX4_block_32 : decode cX4_block 32 = .ok (.iload_n 3, 1) := by decide +kernel
theorem dX4_block_33 : decode cX4_block 33 = .ok (.iconst (-1), 1) := by decide +kernel
theorem dX4_block_34 : decode cX4_block 34 = .ok (.if_icmp .ne 5, 3) := by decide +kernel
theorem dX4_block_37 : decode cX4_block 37 = .ok (.iconst (-1), 1) := by decide +kernel
theorem dX4_block_38 : decode cX4_block 38 = .ok (.ireturn, 1) := by decide +kernel
theorem dX4_block_39 : decode cX4_block 39 = .ok (.iload_n 2, 1) := by decide +kernel
theorem dX4_block_40 : decode cX4_block 40 = .ok (.lookupswitch 41 #[(0, 28), (1, 32)], 28) := by decide +kernel
theorem dX4_block_68 : decode cX4_block 68 = .ok (.iload_n 3, 1) := by decide +kernel
theorem dX4_block_69 : decode cX4_block 69 = .ok (.iconst 1, 1) := by decide +kernel
theorem dX4_block_70 : decode cX4_block 70 = .ok (.iadd, 1) := by decide +kernel
theorem dX4_block_71 : decode cX4_block 71 = .ok (.ireturn, 1) := by decide +kernel
theorem dX4_block_72 : decode cX4_block 72 = .ok (.aload_n 0, 1) := by decide +kernel
theorem dX4_block_73 : decode cX4_block 73 = .ok (.getfield 12, 3) := by decide +kernel
theorem dX4_block_76 : decode cX4_block 76 = .ok (.iload_n 3, 1) := by decide +kernel
theorem dX4_block_77 : decode cX4_block 77 = .ok (.invokevirtual 89, 3) := by decide +kernel
theorem dX4_block_80 : decode cX4_block 80 = .ok (.ireturn, 1) := by decide +kernel
theorem dX4_block_81 : decode cX4_block 81 = .ok (.aload_n 0, 1) := by decide +kernel
theorem dX4_block_82 : decode cX4_block 82 = .ok (.getfield 12, 3) := by decide +kernel
theorem dX4_block_85 : decode cX4_block 85 = .ok (.iload_n 3, 1) := by decide +kernel
theorem dX4_block_86 : decode cX4_block 86 = .ok (.invokevirtual 105, 3) := by decide +kernel
theorem dX4_block_89 : decode cX4_block 89 = .ok (.ifCond .eq 7, 3) := by decide +kernel
theorem dX4_block_92 : decode cX4_block 92 = .ok (.iconst 1, 1) := by decide +kernel
theorem dX4_block_93 : decode cX4_block 93 = .ok (.goto 4, 3) := by decide +kernel
theorem dX4_block_96 : decode cX4_block 96 = .ok (.iconst 0, 1) := by decide +kernel
theorem dX4_block_97 : decode cX4_block 97 = .ok (.ireturn, 1) := by decide +kernel
theorem dX4_found_0 : decode cX4_found 0 = .ok (.iload_n 1, 1) := by decide +kernel
theorem dX4_found_1 : decode cX4_found 1 = .ok (.invokestatic 38, 3) := by decide +kernel
theorem dX4_found_4 : decode cX4_found 4 = .ok (.ifCond .ne 6, 3) := by decide +kernel
theorem dX4_found_7 : decode cX4_found 7 = .ok (.bipush (-2), 2) := by decide +kernel
theorem dX4_found_9 : decode cX4_found 9 = .ok (.ireturn, 1) := by decide +kernel
theorem dX4_found_10 : decode cX4_found 10 = .ok (.aload_n 0, 1) := by decide +kernel
theorem dX4_found_11 : decode cX4_found 11 = .ok (.getfield 42, 3) := by decide +kernel
theorem dX4_found_14 : decode cX4_found 14 = .ok (.ifCond .eq 6, 3) := by decide +kernel
theorem dX4_found_17 : decode cX4_found 17 = .ok (.bipush (-3), 2) := by decide +kernel
theorem dX4_found_19 : decode cX4_found 19 = .ok (.ireturn, 1) := by decide +kernel
theorem dX4_found_20 : decode cX4_found 20 = .ok (.aload_n 0, 1) := by decide +kernel
theorem dX4_found_21 : decode cX4_found 21 = .ok (.getfield 21, 3) := by decide +kernel
theorem dX4_found_24 : decode cX4_found 24 = .ok (.iload_n 1, 1) := by decide +kernel
theorem dX4_found_25 : decode cX4_found 25 = .ok (.invokestatic 46, 3) := by decide +kernel
theorem dX4_found_28 : decode cX4_found 28 = .ok (.invokevirtual 50, 3) := by decide +kernel
theorem dX4_found_31 : decode cX4_found 31 = .ok (.istore_n 2, 1) := by decide +kernel
theorem dX4_found_32 : decode cX4_found 32 = .ok (.iload_n 2, 1) := by decide +kernel
theorem dX4_found_33 : decode cX4_found 33 = .ok (.iconst (-1), 1) := by decide +kernel
theorem dX4_found_34 : decode cX4_found 34 = .ok (.if_icmp .ne 7, 3) := by decide +kernel
theorem dX4_found_37 : decode cX4_found 37 = .ok (.iconst (-1), 1) := by decide +kernel
theorem dX4_found_38 : decode cX4_found 38 = .ok (.goto 6, 3) := by decide +kernel
theorem dX4_found_41 : decode cX4_found 41 = .ok (.iload_n 2, 1) := by decide +kernel
theorem dX4_found_42 : decode cX4_found 42 = .ok (.iconst 1, 1) := by decide +kernel
theorem dX4_found_43 : decode cX4_found 43 = .ok (.iadd, 1) := by decide +kernel
theorem dX4_found_44 : decode cX4_found 44 = .ok (.ireturn, 1) := by decide +kernel
theorem dX4_count_0 : decode cX4_count 0 = .ok (.iload_n 1, 1) := by decide +kernel
theorem dX4_count_1 : decode cX4_count 1 = .ok (.tableswitch 174 0 8 #[51, 59, 67, 80, 85, 103, 121, 139, 157], 51) := by decide +kernel
theorem dX4_count_52 : decode cX4_count 52 = .ok (.aload_n 0, 1) := by decide +kernel
theorem dX4_count_53 : decode cX4_count 53 = .ok (.getfield 12, 3) := by decide +kernel
theorem dX4_count_56 : decode cX4_count 56 = .ok (.getfield 98, 3) := by decide +kernel
theorem dX4_count_59 : decode cX4_count 59 = .ok (.ireturn, 1) := by decide +kernel
theorem dX4_count_60 : decode cX4_count 60 = .ok (.aload_n 0, 1) := by decide +kernel
theorem dX4_count_61 : decode cX4_count 61 = .ok (.getfield 21, 3) := by decide +kernel
theorem dX4_count_64 : decode cX4_count 64 = .ok (.getfield 149, 3) := by decide +kernel
theorem dX4_count_67 : decode cX4_count 67 = .ok (.ireturn, 1) := by decide +kernel
theorem dX4_count_68 : decode cX4_count 68 = .ok (.aload_n 0, 1) := by decide +kernel
theorem dX4_count_69 : decode cX4_count 69 = .ok (.getfield 42, 3) := by decide +kernel
theorem dX4_count_72 : decode cX4_count 72 = .ok (.ifCond .eq 7, 3) := by decide +kernel
theorem dX4_count_75 : decode cX4_count 75 = .ok (.iconst 1, 1) := by decide +kernel
theorem dX4_count_76 : decode cX4_count 76 = .ok (.goto 4, 3) := by decide +kernel
theorem dX4_count_79 : decode cX4_count 79 = .ok (.iconst 0, 1) := by decide +kernel
theorem dX4_count_80 : decode cX4_count 80 = .ok (.ireturn, 1) := by decide +kernel
theorem dX4_count_81 : decode cX4_count 81 = .ok (.aload_n 0, 1) := by decide +kernel
theorem dX4_count_82 : decode cX4_count 82 = .ok (.getfield 152, 3) := by decide +kernel
theorem dX4_count_85 : decode cX4_count 85 = .ok (.ireturn, 1) := by decide +kernel
theorem dX4_count_86 : decode cX4_count 86 = .ok (.aload_n 0, 1) := by decide +kernel
theorem dX4_count_87 : decode cX4_count 87 = .ok (.getfield 42, 3) := by decide +kernel
theorem dX4_count_90 : decode cX4_count 90 = .ok (.ifCond .eq 8, 3) := by decide +kernel
theorem dX4_count_93 : decode cX4_count 93 = .ok (.bipush (-3), 2) := by decide +kernel
theorem dX4_count_95 : decode cX4_count 95 = .ok (.goto 8, 3) := by decide +kernel
theorem dX4_count_98 : decode cX4_count 98 = .ok (.aload_n 0, 1) := by decide +kernel
theorem dX4_count_99 : decode cX4_count 99 = .ok (.iconst 0, 1) := by decide +kernel
theorem dX4_count_100 : decode cX4_count 100 = .ok (.invokevirtual 155, 3) := by decide +kernel
theorem dX4_count_103 : decode cX4_count 103 = .ok (.ireturn, 1) := by decide +kernel
theorem dX4_count_104 : decode cX4_count 104 = .ok (.aload_n 0, 1) := by decide +kernel
theorem dX4_count_105 : decode cX4_count 105 = .ok (.getfield 42, 3) := by decide +kernel
theorem dX4_count_108 : decode cX4_count 108 = .ok (.ifCond .eq 8, 3) := by decide +kernel
theorem dX4_count_111 : decode cX4_count 111 = .ok (.bipush (-3), 2) := by decide +kernel
theorem dX4_count_113 : decode cX4_count 113 = .ok (.goto 8, 3) := by decide +kernel
theorem dX4_count_116 : decode cX4_count 116 = .ok (.aload_n 0, 1) := by decide +kernel
theorem dX4_count_117 : decode cX4_count 117 = .ok (.iconst 1, 1) := by decide +kernel
theorem dX4_count_118 : decode cX4_count 118 = .ok (.invokevirtual 155, 3) := by decide +kernel
theorem dX4_count_121 : decode cX4_count 121 = .ok (.ireturn, 1) := by decide +kernel
theorem dX4_count_122 : decode cX4_count 122 = .ok (.aload_n 0, 1) := by decide +kernel
theorem dX4_count_123 : decode cX4_count 123 = .ok (.getfield 42, 3) := by decide +kernel
theorem dX4_count_126 : decode cX4_count 126 = .ok (.ifCond .eq 8, 3) := by decide +kernel
theorem dX4_count_129 : decode cX4_count 129 = .ok (.bipush (-3), 2) := by decide +kernel
theorem dX4_count_131 : decode cX4_count 131 = .ok (.goto 8, 3) := by decide +kernel
theorem dX4_count_134 : decode cX4_count 134 = .ok (.aload_n 0, 1) := by decide +kernel
theorem dX4_count_135 : decode cX4_count 135 = .ok (.iconst 0, 1) := by decide +kernel
theorem dX4_count_136 : decode cX4_count 136 = .ok (.invokevirtual 159, 3) := by decide +kernel
theorem dX4_count_139 : decode cX4_count 139 = .ok (.ireturn, 1) := by decide +kernel
theorem dX4_count_140 : decode cX4_count 140 = .ok (.aload_n 0, 1) := by decide +kernel
theorem dX4_count_141 : decode cX4_count 141 = .ok (.getfield 42, 3) := by decide +kernel
theorem dX4_count_144 : decode cX4_count 144 = .ok (.ifCond .eq 8, 3) := by decide +kernel
theorem dX4_count_147 : decode cX4_count 147 = .ok (.bipush (-3), 2) := by decide +kernel
theorem dX4_count_149 : decode cX4_count 149 = .ok (.goto 8, 3) := by decide +kernel
theorem dX4_count_152 : decode cX4_count 152 = .ok (.aload_n 0, 1) := by decide +kernel
theorem dX4_count_153 : decode cX4_count 153 = .ok (.iconst 1, 1) := by decide +kernel
theorem dX4_count_154 : decode cX4_count 154 = .ok (.invokevirtual 159, 3) := by decide +kernel
theorem dX4_count_157 : decode cX4_count 157 = .ok (.ireturn, 1) := by decide +kernel
theorem dX4_count_158 : decode cX4_count 158 = .ok (.aload_n 0, 1) := by decide +kernel
theorem dX4_count_159 : decode cX4_count 159 = .ok (.getfield 42, 3) := by decide +kernel
theorem dX4_count_162 : decode cX4_count 162 = .ok (.ifCond .eq 8, 3) := by decide +kernel
theorem dX4_count_165 : decode cX4_count 165 = .ok (.bipush (-3), 2) := by decide +kernel
theorem dX4_count_167 : decode cX4_count 167 = .ok (.goto 7, 3) := by decide +kernel
theorem dX4_count_170 : decode cX4_count 170 = .ok (.aload_n 0, 1) := by decide +kernel
theorem dX4_count_171 : decode cX4_count 171 = .ok (.invokevirtual 162, 3) := by decide +kernel
theorem dX4_count_174 : decode cX4_count 174 = .ok (.ireturn, 1) := by decide +kernel
theorem dX4_count_175 : decode cX4_count 175 = .ok (.bipush (-2), 2) := by decide +kernel
theorem dX4_count_177 : decode cX4_count 177 = .ok (.ireturn, 1) := by decide +kernel
theorem dX4_begin_0 : decode cX4_begin 0 = .ok (.aload_n 0, 1) := by decide +kernel
theorem dX4_begin_1 : decode cX4_begin 1 = .ok (.getfield 12, 3) := by decide +kernel
theorem dX4_begin_4 : decode cX4_begin 4 = .ok (.iload_n 1, 1) := by decide +kernel
theorem dX4_begin_5 : decode cX4_begin 5 = .ok (.invokevirtual 165, 3) := by decide +kernel
theorem dX4_begin_8 : decode cX4_begin 8 = .ok (.aload_n 0, 1) := by decide +kernel
theorem dX4_begin_9 : decode cX4_begin 9 = .ok (.getfield 21, 3) := by decide +kernel
theorem dX4_begin_12 : decode cX4_begin 12 = .ok (.invokevirtual 168, 3) := by decide +kernel
theorem dX4_begin_15 : decode cX4_begin 15 = .ok (.aload_n 0, 1) := by decide +kernel
theorem dX4_begin_16 : decode cX4_begin 16 = .ok (.iconst 0, 1) := by decide +kernel
theorem dX4_begin_17 : decode cX4_begin 17 = .ok (.iload_n 1, 1) := by decide +kernel
theorem dX4_begin_18 : decode cX4_begin 18 = .ok (.iconst 1, 1) := by decide +kernel
theorem dX4_begin_19 : decode cX4_begin 19 = .ok (.isub, 1) := by decide +kernel
theorem dX4_begin_20 : decode cX4_begin 20 = .ok (.invokevirtual 170, 3) := by decide +kernel
theorem dX4_begin_23 : decode cX4_begin 23 = .ok (.aload_n 0, 1) := by decide +kernel
theorem dX4_begin_24 : decode cX4_begin 24 = .ok (.getfield 21, 3) := by decide +kernel
theorem dX4_begin_27 : decode cX4_begin 27 = .ok (.invokevirtual 57, 3) := by decide +kernel
theorem dX4_begin_30 : decode cX4_begin 30 = .ok (.aload_n 0, 1) := by decide +kernel
theorem dX4_begin_31 : decode cX4_begin 31 = .ok (.getfield 30, 3) := by decide +kernel
theorem dX4_begin_34 : decode cX4_begin 34 = .ok (.iconst (-1), 1) := by decide +kernel
theorem dX4_begin_35 : decode cX4_begin 35 = .ok (.putfield 126, 3) := by decide +kernel
theorem dX4_begin_38 : decode cX4_begin 38 = .ok (.aload_n 0, 1) := by decide +kernel
theorem dX4_begin_39 : decode cX4_begin 39 = .ok (.iconst 0, 1) := by decide +kernel
theorem dX4_begin_40 : decode cX4_begin 40 = .ok (.putfield 42, 3) := by decide +kernel
theorem dX4_begin_43 : decode cX4_begin 43 = .ok (.aload_n 0, 1) := by decide +kernel
theorem dX4_begin_44 : decode cX4_begin 44 = .ok (.iconst 0, 1) := by decide +kernel
theorem dX4_begin_45 : decode cX4_begin 45 = .ok (.putfield 152, 3) := by decide +kernel
theorem dX4_begin_48 : decode cX4_begin 48 = .ok (.return_, 1) := by decide +kernel
theorem dX4_isWish_0 : decode cX4_isWish 0 = .ok (.iload_n 0, 1) := by decide +kernel
theorem dX4_isWish_1 : decode cX4_isWish 1 = .ok (.iconst 1, 1) := by decide +kernel
theorem dX4_isWish_2 : decode cX4_isWish 2 = .ok (.if_icmp .lt 14, 3) := by decide +kernel
theorem dX4_isWish_5 : decode cX4_isWish 5 = .ok (.iload_n 0, 1) := by decide +kernel
theorem dX4_isWish_6 : decode cX4_isWish 6 = .ok (.sipush 2048, 3) := by decide +kernel
theorem dX4_isWish_9 : decode cX4_isWish 9 = .ok (.if_icmp .gt 7, 3) := by decide +kernel
theorem dX4_isWish_12 : decode cX4_isWish 12 = .ok (.iconst 1, 1) := by decide +kernel
theorem dX4_isWish_13 : decode cX4_isWish 13 = .ok (.goto 4, 3) := by decide +kernel
theorem dX4_isWish_16 : decode cX4_isWish 16 = .ok (.iconst 0, 1) := by decide +kernel
theorem dX4_isWish_17 : decode cX4_isWish 17 = .ok (.ireturn, 1) := by decide +kernel
theorem dX4_bodyFor_0 : decode cX4_bodyFor 0 = .ok (.iload_n 0, 1) := by decide +kernel
theorem dX4_bodyFor_1 : decode cX4_bodyFor 1 = .ok (.iconst 3, 1) := by decide +kernel
theorem dX4_bodyFor_2 : decode cX4_bodyFor 2 = .ok (.invokestatic 173, 3) := by decide +kernel
theorem dX4_bodyFor_5 : decode cX4_bodyFor 5 = .ok (.ireturn, 1) := by decide +kernel
theorem dX4_isAlignment_0 : decode cX4_isAlignment 0 = .ok (.iload_n 0, 1) := by decide +kernel
theorem dX4_isAlignment_1 : decode cX4_isAlignment 1 = .ok (.iconst 2, 1) := by decide +kernel
theorem dX4_isAlignment_2 : decode cX4_isAlignment 2 = .ok (.if_icmp .lt 21, 3) := by decide +kernel
theorem dX4_isAlignment_5 : decode cX4_isAlignment 5 = .ok (.iload_n 0, 1) := by decide +kernel
theorem dX4_isAlignment_6 : decode cX4_isAlignment 6 = .ok (.bipush 64, 2) := by decide +kernel
theorem dX4_isAlignment_8 : decode cX4_isAlignment 8 = .ok (.if_icmp .gt 15, 3) := by decide +kernel
theorem dX4_isAlignment_11 : decode cX4_isAlignment 11 = .ok (.iload_n 0, 1) := by decide +kernel
theorem dX4_isAlignment_12 : decode cX4_isAlignment 12 = .ok (.iload_n 0, 1) := by decide +kernel
theorem dX4_isAlignment_13 : decode cX4_isAlignment 13 = .ok (.iconst 1, 1) := by decide +kernel
theorem dX4_isAlignment_14 : decode cX4_isAlignment 14 = .ok (.isub, 1) := by decide +kernel
theorem dX4_isAlignment_15 : decode cX4_isAlignment 15 = .ok (.iand, 1) := by decide +kernel
theorem dX4_isAlignment_16 : decode cX4_isAlignment 16 = .ok (.ifCond .ne 7, 3) := by decide +kernel
theorem dX4_isAlignment_19 : decode cX4_isAlignment 19 = .ok (.iconst 1, 1) := by decide +kernel
theorem dX4_isAlignment_20 : decode cX4_isAlignment 20 = .ok (.goto 4, 3) := by decide +kernel
theorem dX4_isAlignment_23 : decode cX4_isAlignment 23 = .ok (.iconst 0, 1) := by decide +kernel
theorem dX4_isAlignment_24 : decode cX4_isAlignment 24 = .ok (.ireturn, 1) := by decide +kernel
theorem dX4_alignedPlace_0 : decode cX4_alignedPlace 0 = .ok (.iload_n 1, 1) := by decide +kernel
theorem dX4_alignedPlace_1 : decode cX4_alignedPlace 1 = .ok (.iconst 1, 1) := by decide +kernel
theorem dX4_alignedPlace_2 : decode cX4_alignedPlace 2 = .ok (.isub, 1) := by decide +kernel
theorem dX4_alignedPlace_3 : decode cX4_alignedPlace 3 = .ok (.istore_n 2, 1) := by decide +kernel
theorem dX4_alignedPlace_4 : decode cX4_alignedPlace 4 = .ok (.iload_n 0, 1) := by decide +kernel
theorem dX4_alignedPlace_5 : decode cX4_alignedPlace 5 = .ok (.iload_n 2, 1) := by decide +kernel
theorem dX4_alignedPlace_6 : decode cX4_alignedPlace 6 = .ok (.iand, 1) := by decide +kernel
theorem dX4_alignedPlace_7 : decode cX4_alignedPlace 7 = .ok (.ifCond .ne 7, 3) := by decide +kernel
theorem dX4_alignedPlace_10 : decode cX4_alignedPlace 10 = .ok (.iload_n 0, 1) := by decide +kernel
theorem dX4_alignedPlace_11 : decode cX4_alignedPlace 11 = .ok (.goto 12, 3) := by decide +kernel
theorem dX4_alignedPlace_14 : decode cX4_alignedPlace 14 = .ok (.iload_n 0, 1) := by decide +kernel
theorem dX4_alignedPlace_15 : decode cX4_alignedPlace 15 = .ok (.iconst 4, 1) := by decide +kernel
theorem dX4_alignedPlace_16 : decode cX4_alignedPlace 16 = .ok (.iadd, 1) := by decide +kernel
theorem dX4_alignedPlace_17 : decode cX4_alignedPlace 17 = .ok (.iload_n 2, 1) := by decide +kernel
theorem dX4_alignedPlace_18 : decode cX4_alignedPlace 18 = .ok (.iadd, 1) := by decide +kernel
theorem dX4_alignedPlace_19 : decode cX4_alignedPlace 19 = .ok (.iload_n 2, 1) := by decide +kernel
theorem dX4_alignedPlace_20 : decode cX4_alignedPlace 20 = .ok (.iconst (-1), 1) := by decide +kernel
theorem dX4_alignedPlace_21 : decode cX4_alignedPlace 21 = .ok (.ixor, 1) := by decide +kernel
theorem dX4_alignedPlace_22 : decode cX4_alignedPlace 22 = .ok (.iand, 1) := by decide +kernel
theorem dX4_alignedPlace_23 : decode cX4_alignedPlace 23 = .ok (.ireturn, 1) := by decide +kernel
theorem dX4_mostAhead_0 : decode cX4_mostAhead 0 = .ok (.iconst 4, 1) := by decide +kernel
theorem dX4_mostAhead_1 : decode cX4_mostAhead 1 = .ok (.iload_n 0, 1) := by decide +kernel
theorem dX4_mostAhead_2 : decode cX4_mostAhead 2 = .ok (.iadd, 1) := by decide +kernel
theorem dX4_mostAhead_3 : decode cX4_mostAhead 3 = .ok (.iconst 1, 1) := by decide +kernel
theorem dX4_mostAhead_4 : decode cX4_mostAhead 4 = .ok (.isub, 1) := by decide +kernel
theorem dX4_mostAhead_5 : decode cX4_mostAhead 5 = .ok (.ireturn, 1) := by decide +kernel
theorem dX4_refuse_0 : decode cX4_refuse 0 = .ok (.aload_n 0, 1) := by decide +kernel
theorem dX4_refuse_1 : decode cX4_refuse 1 = .ok (.dup, 1) := by decide +kernel
theorem dX4_refuse_2 : decode cX4_refuse 2 = .ok (.getfield 152, 3) := by decide +kernel
theorem dX4_refuse_5 : decode cX4_refuse 5 = .ok (.iconst 1, 1) := by decide +kernel
theorem dX4_refuse_6 : decode cX4_refuse 6 = .ok (.iadd, 1) := by decide +kernel
theorem dX4_refuse_7 : decode cX4_refuse 7 = .ok (.putfield 152, 3) := by decide +kernel
theorem dX4_refuse_10 : decode cX4_refuse 10 = .ok (.iconst (-1), 1) := by decide +kernel
theorem dX4_refuse_11 : decode cX4_refuse 11 = .ok (.ireturn, 1) := by decide +kernel
theorem dX4_refusalOf_0 : decode cX4_refusalOf 0 = .ok (.iload_n 1, 1) := by decide +kernel
theorem dX4_refusalOf_1 : decode cX4_refusalOf 1 = .ok (.iconst 1, 1) := by decide +kernel
theorem dX4_refusalOf_2 : decode cX4_refusalOf 2 = .ok (.if_icmp .lt 14, 3) := by decide +kernel
theorem dX4_refusalOf_5 : decode cX4_refusalOf 5 = .ok (.iload_n 1, 1) := by decide +kernel
theorem dX4_refusalOf_6 : decode cX4_refusalOf 6 = .ok (.aload_n 0, 1) := by decide +kernel
theorem dX4_refusalOf_7 : decode cX4_refusalOf 7 = .ok (.getfield 12, 3) := by decide +kernel
theorem dX4_refusalOf_10 : decode cX4_refusalOf 10 = .ok (.getfield 98, 3) := by decide +kernel
theorem dX4_refusalOf_13 : decode cX4_refusalOf 13 = .ok (.if_icmp .lt 6, 3) := by decide +kernel
theorem dX4_refusalOf_16 : decode cX4_refusalOf 16 = .ok (.bipush (-2), 2) := by decide +kernel
theorem dX4_refusalOf_18 : decode cX4_refusalOf 18 = .ok (.ireturn, 1) := by decide +kernel
theorem dX4_refusalOf_19 : decode cX4_refusalOf 19 = .ok (.aload_n 0, 1) := by decide +kernel
theorem dX4_refusalOf_20 : decode cX4_refusalOf 20 = .ok (.getfield 42, 3) := by decide +kernel
theorem dX4_refusalOf_23 : decode cX4_refusalOf 23 = .ok (.ifCond .eq 6, 3) := by decide +kernel
theorem dX4_refusalOf_26 : decode cX4_refusalOf 26 = .ok (.bipush (-3), 2) := by decide +kernel
theorem dX4_refusalOf_28 : decode cX4_refusalOf 28 = .ok (.ireturn, 1) := by decide +kernel
theorem dX4_refusalOf_29 : decode cX4_refusalOf 29 = .ok (.aload_n 0, 1) := by decide +kernel
theorem dX4_refusalOf_30 : decode cX4_refusalOf 30 = .ok (.iload_n 1, 1) := by decide +kernel
theorem dX4_refusalOf_31 : decode cX4_refusalOf 31 = .ok (.invokevirtual 178, 3) := by decide +kernel
theorem dX4_refusalOf_34 : decode cX4_refusalOf 34 = .ok (.ifCond .eq 7, 3) := by decide +kernel
theorem dX4_refusalOf_37 : decode cX4_refusalOf 37 = .ok (.iconst 0, 1) := by decide +kernel
theorem dX4_refusalOf_38 : decode cX4_refusalOf 38 = .ok (.goto 5, 3) := by decide +kernel
theorem dX4_refusalOf_41 : decode cX4_refusalOf 41 = .ok (.bipush (-2), 2) := by decide +kernel
theorem dX4_refusalOf_43 : decode cX4_refusalOf 43 = .ok (.ireturn, 1) := by decide +kernel
theorem dX4_isUsedPlace_0 : decode cX4_isUsedPlace 0 = .ok (.iconst 0, 1) := by decide +kernel
theorem dX4_isUsedPlace_1 : decode cX4_isUsedPlace 1 = .ok (.istore_n 2, 1) := by decide +kernel
theorem dX4_isUsedPlace_2 : decode cX4_isUsedPlace 2 = .ok (.iconst 0, 1) := by decide +kernel
theorem dX4_isUsedPlace_3 : decode cX4_isUsedPlace 3 = .ok (.istore_n 3, 1) := by decide +kernel
theorem dX4_isUsedPlace_4 : decode cX4_isUsedPlace 4 = .ok (.iload_n 3, 1) := by decide +kernel
theorem dX4_isUsedPlace_5 : decode cX4_isUsedPlace 5 = .ok (.sipush 512, 3) := by decide +kernel
theorem dX4_isUsedPlace_8 : decode cX4_isUsedPlace 8 = .ok (.if_icmp .ge 25, 3) := by decide +kernel
theorem dX4_isUsedPlace_11 : decode cX4_isUsedPlace 11 = .ok (.iload_n 2, 1) := by decide +kernel
theorem dX4_isUsedPlace_12 : decode cX4_isUsedPlace 12 = .ok (.iload_n 1, 1) := by decide +kernel
theorem dX4_isUsedPlace_13 : decode cX4_isUsedPlace 13 = .ok (.iconst 1, 1) := by decide +kernel
theorem dX4_isUsedPlace_14 : decode cX4_isUsedPlace 14 = .ok (.isub, 1) := by decide +kernel
theorem dX4_isUsedPlace_15 : decode cX4_isUsedPlace 15 = .ok (.if_icmp .ge 18, 3) := by decide +kernel
theorem dX4_isUsedPlace_18 : decode cX4_isUsedPlace 18 = .ok (.aload_n 0, 1) := by decide +kernel
theorem dX4_isUsedPlace_19 : decode cX4_isUsedPlace 19 = .ok (.getfield 12, 3) := by decide +kernel
theorem dX4_isUsedPlace_22 : decode cX4_isUsedPlace 22 = .ok (.iload_n 2, 1) := by decide +kernel
theorem dX4_isUsedPlace_23 : decode cX4_isUsedPlace 23 = .ok (.invokevirtual 181, 3) := by decide +kernel
theorem dX4_isUsedPlace_26 : decode cX4_isUsedPlace 26 = .ok (.istore_n 2, 1) := by decide +kernel
theorem dX4_isUsedPlace_27 : decode cX4_isUsedPlace 27 = .ok (.iinc 3 1, 3) := by decide +kernel
theorem dX4_isUsedPlace_30 : decode cX4_isUsedPlace 30 = .ok (.goto (-26), 3) := by decide +kernel
theorem dX4_isUsedPlace_33 : decode cX4_isUsedPlace 33 = .ok (.iload_n 2, 1) := by decide +kernel
theorem dX4_isUsedPlace_34 : decode cX4_isUsedPlace 34 = .ok (.iload_n 1, 1) := by decide +kernel
theorem dX4_isUsedPlace_35 : decode cX4_isUsedPlace 35 = .ok (.iconst 1, 1) := by decide +kernel
theorem dX4_isUsedPlace_36 : decode cX4_isUsedPlace 36 = .ok (.isub, 1) := by decide +kernel
theorem dX4_isUsedPlace_37 : decode cX4_isUsedPlace 37 = .ok (.if_icmp .ne 29, 3) := by decide +kernel
theorem dX4_isUsedPlace_40 : decode cX4_isUsedPlace 40 = .ok (.aload_n 0, 1) := by decide +kernel
theorem dX4_isUsedPlace_41 : decode cX4_isUsedPlace 41 = .ok (.getfield 12, 3) := by decide +kernel
theorem dX4_isUsedPlace_44 : decode cX4_isUsedPlace 44 = .ok (.iload_n 2, 1) := by decide +kernel
theorem dX4_isUsedPlace_45 : decode cX4_isUsedPlace 45 = .ok (.invokevirtual 120, 3) := by decide +kernel
theorem dX4_isUsedPlace_48 : decode cX4_isUsedPlace 48 = .ok (.ifCond .eq 18, 3) := by decide +kernel
theorem dX4_isUsedPlace_51 : decode cX4_isUsedPlace 51 = .ok (.aload_n 0, 1) := by decide +kernel
theorem dX4_isUsedPlace_52 : decode cX4_isUsedPlace 52 = .ok (.getfield 12, 3) := by decide +kernel
theorem dX4_isUsedPlace_55 : decode cX4_isUsedPlace 55 = .ok (.iload_n 2, 1) := by decide +kernel
theorem dX4_isUsedPlace_56 : decode cX4_isUsedPlace 56 = .ok (.invokevirtual 105, 3) := by decide +kernel
theorem dX4_isUsedPlace_59 : decode cX4_isUsedPlace 59 = .ok (.ifCond .ne 7, 3) := by decide +kernel
theorem dX4_isUsedPlace_62 : decode cX4_isUsedPlace 62 = .ok (.iconst 1, 1) := by decide +kernel
theorem dX4_isUsedPlace_63 : decode cX4_isUsedPlace 63 = .ok (.goto 4, 3) := by decide +kernel
theorem dX4_isUsedPlace_66 : decode cX4_isUsedPlace 66 = .ok (.iconst 0, 1) := by decide +kernel
theorem dX4_isUsedPlace_67 : decode cX4_isUsedPlace 67 = .ok (.ireturn, 1) := by decide +kernel
theorem dX4_headerOfBlock_0 : decode cX4_headerOfBlock 0 = .ok (.iconst 0, 1) := by decide +kernel
theorem dX4_headerOfBlock_1 : decode cX4_headerOfBlock 1 = .ok (.istore_n 2, 1) := by decide +kernel
theorem dX4_headerOfBlock_2 : decode cX4_headerOfBlock 2 = .ok (.iconst 0, 1) := by decide +kernel
theorem dX4_headerOfBlock_3 : decode cX4_headerOfBlock 3 = .ok (.istore_n 3, 1) := by decide +kernel
theorem dX4_headerOfBlock_4 : decode cX4_headerOfBlock 4 = .ok (.iload_n 3, 1) := by decide +kernel
theorem dX4_headerOfBlock_5 : decode cX4_headerOfBlock 5 = .ok (.sipush 512, 3) := by decide +kernel
theorem dX4_headerOfBlock_8 : decode cX4_headerOfBlock 8 = .ok (.if_icmp .ge 34, 3) := by decide +kernel
theorem dX4_headerOfBlock_11 : decode cX4_headerOfBlock 11 = .ok (.iload_n 3, 1) := by decide +kernel
theorem dX4_headerOfBlock_12 : decode cX4_headerOfBlock 12 = .ok (.iload_n 1, 1) := by decide +kernel
theorem dX4_headerOfBlock_13 : decode cX4_headerOfBlock 13 = .ok (.if_icmp .ge 29, 3) := by decide +kernel
theorem dX4_headerOfBlock_16 : decode cX4_headerOfBlock 16 = .ok (.iload_n 2, 1) := by decide +kernel
theorem dX4_headerOfBlock_17 : decode cX4_headerOfBlock 17 = .ok (.aload_n 0, 1) := by decide +kernel
theorem dX4_headerOfBlock_18 : decode cX4_headerOfBlock 18 = .ok (.getfield 12, 3) := by decide +kernel
theorem dX4_headerOfBlock_21 : decode cX4_headerOfBlock 21 = .ok (.getfield 98, 3) := by decide +kernel
theorem dX4_headerOfBlock_24 : decode cX4_headerOfBlock 24 = .ok (.if_icmp .ge 18, 3) := by decide +kernel
theorem dX4_headerOfBlock_27 : decode cX4_headerOfBlock 27 = .ok (.aload_n 0, 1) := by decide +kernel
theorem dX4_headerOfBlock_28 : decode cX4_headerOfBlock 28 = .ok (.getfield 12, 3) := by decide +kernel
theorem dX4_headerOfBlock_31 : decode cX4_headerOfBlock 31 = .ok (.iload_n 2, 1) := by decide +kernel
theorem dX4_headerOfBlock_32 : decode cX4_headerOfBlock 32 = .ok (.invokevirtual 181, 3) := by decide +kernel
theorem dX4_headerOfBlock_35 : decode cX4_headerOfBlock 35 = .ok (.istore_n 2, 1) := by decide +kernel
theorem dX4_headerOfBlock_36 : decode cX4_headerOfBlock 36 = .ok (.iinc 3 1, 3) := by decide +kernel
theorem dX4_headerOfBlock_39 : decode cX4_headerOfBlock 39 = .ok (.goto (-35), 3) := by decide +kernel
theorem dX4_headerOfBlock_42 : decode cX4_headerOfBlock 42 = .ok (.iload_n 1, 1) := by decide +kernel
theorem dX4_headerOfBlock_43 : decode cX4_headerOfBlock 43 = .ok (.sipush 512, 3) := by decide +kernel
theorem dX4_headerOfBlock_46 : decode cX4_headerOfBlock 46 = .ok (.if_icmp .ge 18, 3) := by decide +kernel
theorem dX4_headerOfBlock_49 : decode cX4_headerOfBlock 49 = .ok (.aload_n 0, 1) := by decide +kernel
theorem dX4_headerOfBlock_50 : decode cX4_headerOfBlock 50 = .ok (.getfield 12, 3) := by decide +kernel
theorem dX4_headerOfBlock_53 : decode cX4_headerOfBlock 53 = .ok (.iload_n 2, 1) := by decide +kernel
theorem dX4_headerOfBlock_54 : decode cX4_headerOfBlock 54 = .ok (.invokevirtual 120, 3) := by decide +kernel
theorem dX4_headerOfBlock_57 : decode cX4_headerOfBlock 57 = .ok (.ifCond .eq 7, 3) := by decide +kernel
theorem dX4_headerOfBlock_60 : decode cX4_headerOfBlock 60 = .ok (.iload_n 2, 1) := by decide +kernel
theorem dX4_headerOfBlock_61 : decode cX4_headerOfBlock 61 = .ok (.goto 4, 3) := by decide +kernel
theorem dX4_headerOfBlock_64 : decode cX4_headerOfBlock 64 = .ok (.iconst (-1), 1) := by decide +kernel
theorem dX4_headerOfBlock_65 : decode cX4_headerOfBlock 65 = .ok (.ireturn, 1) := by decide +kernel
theorem dX4_lastHeader_0 : decode cX4_lastHeader 0 = .ok (.iconst 0, 1) := by decide +kernel
theorem dX4_lastHeader_1 : decode cX4_lastHeader 1 = .ok (.istore_n 1, 1) := by decide +kernel
theorem dX4_lastHeader_2 : decode cX4_lastHeader 2 = .ok (.iconst 0, 1) := by decide +kernel
theorem dX4_lastHeader_3 : decode cX4_lastHeader 3 = .ok (.istore_n 2, 1) := by decide +kernel
theorem dX4_lastHeader_4 : decode cX4_lastHeader 4 = .ok (.iload_n 2, 1) := by decide +kernel
theorem dX4_lastHeader_5 : decode cX4_lastHeader 5 = .ok (.sipush 512, 3) := by decide +kernel
theorem dX4_lastHeader_8 : decode cX4_lastHeader 8 = .ok (.if_icmp .ge 36, 3) := by decide +kernel
theorem dX4_lastHeader_11 : decode cX4_lastHeader 11 = .ok (.aload_n 0, 1) := by decide +kernel
theorem dX4_lastHeader_12 : decode cX4_lastHeader 12 = .ok (.getfield 12, 3) := by decide +kernel
theorem dX4_lastHeader_15 : decode cX4_lastHeader 15 = .ok (.iload_n 1, 1) := by decide +kernel
theorem dX4_lastHeader_16 : decode cX4_lastHeader 16 = .ok (.invokevirtual 181, 3) := by decide +kernel
theorem dX4_lastHeader_19 : decode cX4_lastHeader 19 = .ok (.aload_n 0, 1) := by decide +kernel
theorem dX4_lastHeader_20 : decode cX4_lastHeader 20 = .ok (.getfield 12, 3) := by decide +kernel
theorem dX4_lastHeader_23 : decode cX4_lastHeader 23 = .ok (.getfield 98, 3) := by decide +kernel
theorem dX4_lastHeader_26 : decode cX4_lastHeader 26 = .ok (.if_icmp .ge 18, 3) := by decide +kernel
theorem dX4_lastHeader_29 : decode cX4_lastHeader 29 = .ok (.aload_n 0, 1) := by decide +kernel
theorem dX4_lastHeader_30 : decode cX4_lastHeader 30 = .ok (.getfield 12, 3) := by decide +kernel
theorem dX4_lastHeader_33 : decode cX4_lastHeader 33 = .ok (.iload_n 1, 1) := by decide +kernel
theorem dX4_lastHeader_34 : decode cX4_lastHeader 34 = .ok (.invokevirtual 181, 3) := by decide +kernel
theorem dX4_lastHeader_37 : decode cX4_lastHeader 37 = .ok (.istore_n 1, 1) := by decide +kernel
theorem dX4_lastHeader_38 : decode cX4_lastHeader 38 = .ok (.iinc 2 1, 3) := by decide +kernel
theorem dX4_lastHeader_41 : decode cX4_lastHeader 41 = .ok (.goto (-37), 3) := by decide +kernel
theorem dX4_lastHeader_44 : decode cX4_lastHeader 44 = .ok (.iload_n 1, 1) := by decide +kernel
theorem dX4_lastHeader_45 : decode cX4_lastHeader 45 = .ok (.ireturn, 1) := by decide +kernel
theorem dX4_wordsOf_0 : decode cX4_wordsOf 0 = .ok (.iconst 0, 1) := by decide +kernel
theorem dX4_wordsOf_1 : decode cX4_wordsOf 1 = .ok (.istore_n 2, 1) := by decide +kernel
theorem dX4_wordsOf_2 : decode cX4_wordsOf 2 = .ok (.iconst 0, 1) := by decide +kernel
theorem dX4_wordsOf_3 : decode cX4_wordsOf 3 = .ok (.istore_n 3, 1) := by decide +kernel
theorem dX4_wordsOf_4 : decode cX4_wordsOf 4 = .ok (.iconst 0, 1) := by decide +kernel
theorem dX4_wordsOf_5 : decode cX4_wordsOf 5 = .ok (.istore 4, 2) := by decide +kernel
theorem dX4_wordsOf_7 : decode cX4_wordsOf 7 = .ok (.iload 4, 2) := by decide +kernel
theorem dX4_wordsOf_9 : decode cX4_wordsOf 9 = .ok (.sipush 512, 3) := by decide +kernel
theorem dX4_wordsOf_12 : decode cX4_wordsOf 12 = .ok (.if_icmp .ge 52, 3) := by decide +kernel
theorem dX4_wordsOf_15 : decode cX4_wordsOf 15 = .ok (.iload_n 3, 1) := by decide +kernel
theorem dX4_wordsOf_16 : decode cX4_wordsOf 16 = .ok (.aload_n 0, 1) := by decide +kernel
theorem dX4_wordsOf_17 : decode cX4_wordsOf 17 = .ok (.getfield 12, 3) := by decide +kernel
theorem dX4_wordsOf_20 : decode cX4_wordsOf 20 = .ok (.getfield 98, 3) := by decide +kernel
theorem dX4_wordsOf_23 : decode cX4_wordsOf 23 = .ok (.if_icmp .ge 41, 3) := by decide +kernel
theorem dX4_wordsOf_26 : decode cX4_wordsOf 26 = .ok (.aload_n 0, 1) := by decide +kernel
theorem dX4_wordsOf_27 : decode cX4_wordsOf 27 = .ok (.getfield 12, 3) := by decide +kernel
theorem dX4_wordsOf_30 : decode cX4_wordsOf 30 = .ok (.iload_n 3, 1) := by decide +kernel
theorem dX4_wordsOf_31 : decode cX4_wordsOf 31 = .ok (.invokevirtual 105, 3) := by decide +kernel
theorem dX4_wordsOf_34 : decode cX4_wordsOf 34 = .ok (.iload_n 1, 1) := by decide +kernel
theorem dX4_wordsOf_35 : decode cX4_wordsOf 35 = .ok (.if_icmp .ne 14, 3) := by decide +kernel
theorem dX4_wordsOf_38 : decode cX4_wordsOf 38 = .ok (.iload_n 2, 1) := by decide +kernel
theorem dX4_wordsOf_39 : decode cX4_wordsOf 39 = .ok (.aload_n 0, 1) := by decide +kernel
theorem dX4_wordsOf_40 : decode cX4_wordsOf 40 = .ok (.getfield 12, 3) := by decide +kernel
theorem dX4_wordsOf_43 : decode cX4_wordsOf 43 = .ok (.iload_n 3, 1) := by decide +kernel
theorem dX4_wordsOf_44 : decode cX4_wordsOf 44 = .ok (.invokevirtual 89, 3) := by decide +kernel
theorem dX4_wordsOf_47 : decode cX4_wordsOf 47 = .ok (.iadd, 1) := by decide +kernel
theorem dX4_wordsOf_48 : decode cX4_wordsOf 48 = .ok (.istore_n 2, 1) := by decide +kernel
theorem dX4_wordsOf_49 : decode cX4_wordsOf 49 = .ok (.aload_n 0, 1) := by decide +kernel
theorem dX4_wordsOf_50 : decode cX4_wordsOf 50 = .ok (.getfield 12, 3) := by decide +kernel
theorem dX4_wordsOf_53 : decode cX4_wordsOf 53 = .ok (.iload_n 3, 1) := by decide +kernel
theorem dX4_wordsOf_54 : decode cX4_wordsOf 54 = .ok (.invokevirtual 181, 3) := by decide +kernel
theorem dX4_wordsOf_57 : decode cX4_wordsOf 57 = .ok (.istore_n 3, 1) := by decide +kernel
theorem dX4_wordsOf_58 : decode cX4_wordsOf 58 = .ok (.iinc 4 1, 3) := by decide +kernel
theorem dX4_wordsOf_61 : decode cX4_wordsOf 61 = .ok (.goto (-54), 3) := by decide +kernel
theorem dX4_wordsOf_64 : decode cX4_wordsOf 64 = .ok (.iload_n 2, 1) := by decide +kernel
theorem dX4_wordsOf_65 : decode cX4_wordsOf 65 = .ok (.ireturn, 1) := by decide +kernel
theorem dX4_blocksOf_0 : decode cX4_blocksOf 0 = .ok (.iconst 0, 1) := by decide +kernel
theorem dX4_blocksOf_1 : decode cX4_blocksOf 1 = .ok (.istore_n 2, 1) := by decide +kernel
theorem dX4_blocksOf_2 : decode cX4_blocksOf 2 = .ok (.iconst 0, 1) := by decide +kernel
theorem dX4_blocksOf_3 : decode cX4_blocksOf 3 = .ok (.istore_n 3, 1) := by decide +kernel
theorem dX4_blocksOf_4 : decode cX4_blocksOf 4 = .ok (.iconst 0, 1) := by decide +kernel
theorem dX4_blocksOf_5 : decode cX4_blocksOf 5 = .ok (.istore 4, 2) := by decide +kernel
theorem dX4_blocksOf_7 : decode cX4_blocksOf 7 = .ok (.iload 4, 2) := by decide +kernel
theorem dX4_blocksOf_9 : decode cX4_blocksOf 9 = .ok (.sipush 512, 3) := by decide +kernel
theorem dX4_blocksOf_12 : decode cX4_blocksOf 12 = .ok (.if_icmp .ge 44, 3) := by decide +kernel
theorem dX4_blocksOf_15 : decode cX4_blocksOf 15 = .ok (.iload_n 3, 1) := by decide +kernel
theorem dX4_blocksOf_16 : decode cX4_blocksOf 16 = .ok (.aload_n 0, 1) := by decide +kernel
theorem dX4_blocksOf_17 : decode cX4_blocksOf 17 = .ok (.getfield 12, 3) := by decide +kernel
theorem dX4_blocksOf_20 : decode cX4_blocksOf 20 = .ok (.getfield 98, 3) := by decide +kernel
theorem dX4_blocksOf_23 : decode cX4_blocksOf 23 = .ok (.if_icmp .ge 33, 3) := by decide +kernel
theorem dX4_blocksOf_26 : decode cX4_blocksOf 26 = .ok (.aload_n 0, 1) := by decide +kernel
theorem dX4_blocksOf_27 : decode cX4_blocksOf 27 = .ok (.getfield 12, 3) := by decide +kernel
theorem dX4_blocksOf_30 : decode cX4_blocksOf 30 = .ok (.iload_n 3, 1) := by decide +kernel
theorem dX4_blocksOf_31 : decode cX4_blocksOf 31 = .ok (.invokevirtual 105, 3) := by decide +kernel
theorem dX4_blocksOf_34 : decode cX4_blocksOf 34 = .ok (.iload_n 1, 1) := by decide +kernel
theorem dX4_blocksOf_35 : decode cX4_blocksOf 35 = .ok (.if_icmp .ne 6, 3) := by decide +kernel
theorem dX4_blocksOf_38 : decode cX4_blocksOf 38 = .ok (.iinc 2 1, 3) := by decide +kernel
theorem dX4_blocksOf_41 : decode cX4_blocksOf 41 = .ok (.aload_n 0, 1) := by decide +kernel
theorem dX4_blocksOf_42 : decode cX4_blocksOf 42 = .ok (.getfield 12, 3) := by decide +kernel
theorem dX4_blocksOf_45 : decode cX4_blocksOf 45 = .ok (.iload_n 3, 1) := by decide +kernel
theorem dX4_blocksOf_46 : decode cX4_blocksOf 46 = .ok (.invokevirtual 181, 3) := by decide +kernel
theorem dX4_blocksOf_49 : decode cX4_blocksOf 49 = .ok (.istore_n 3, 1) := by decide +kernel
theorem dX4_blocksOf_50 : decode cX4_blocksOf 50 = .ok (.iinc 4 1, 3) := by decide +kernel
theorem dX4_blocksOf_53 : decode cX4_blocksOf 53 = .ok (.goto (-46), 3) := by decide +kernel
theorem dX4_blocksOf_56 : decode cX4_blocksOf 56 = .ok (.iload_n 2, 1) := by decide +kernel
theorem dX4_blocksOf_57 : decode cX4_blocksOf 57 = .ok (.ireturn, 1) := by decide +kernel
theorem dX4_mostFree_0 : decode cX4_mostFree 0 = .ok (.iconst 0, 1) := by decide +kernel
theorem dX4_mostFree_1 : decode cX4_mostFree 1 = .ok (.istore_n 1, 1) := by decide +kernel
theorem dX4_mostFree_2 : decode cX4_mostFree 2 = .ok (.iconst 0, 1) := by decide +kernel
theorem dX4_mostFree_3 : decode cX4_mostFree 3 = .ok (.istore_n 2, 1) := by decide +kernel
theorem dX4_mostFree_4 : decode cX4_mostFree 4 = .ok (.iconst 0, 1) := by decide +kernel
theorem dX4_mostFree_5 : decode cX4_mostFree 5 = .ok (.istore_n 3, 1) := by decide +kernel
theorem dX4_mostFree_6 : decode cX4_mostFree 6 = .ok (.iload_n 3, 1) := by decide +kernel
theorem dX4_mostFree_7 : decode cX4_mostFree 7 = .ok (.sipush 512, 3) := by decide +kernel
theorem dX4_mostFree_10 : decode cX4_mostFree 10 = .ok (.if_icmp .ge 53, 3) := by decide +kernel
theorem dX4_mostFree_13 : decode cX4_mostFree 13 = .ok (.iload_n 2, 1) := by decide +kernel
theorem dX4_mostFree_14 : decode cX4_mostFree 14 = .ok (.aload_n 0, 1) := by decide +kernel
theorem dX4_mostFree_15 : decode cX4_mostFree 15 = .ok (.getfield 12, 3) := by decide +kernel
theorem dX4_mostFree_18 : decode cX4_mostFree 18 = .ok (.getfield 98, 3) := by decide +kernel
theorem dX4_mostFree_21 : decode cX4_mostFree 21 = .ok (.if_icmp .ge 42, 3) := by decide +kernel
theorem dX4_mostFree_24 : decode cX4_mostFree 24 = .ok (.aload_n 0, 1) := by decide +kernel
theorem dX4_mostFree_25 : decode cX4_mostFree 25 = .ok (.getfield 12, 3) := by decide +kernel
theorem dX4_mostFree_28 : decode cX4_mostFree 28 = .ok (.iload_n 2, 1) := by decide +kernel
theorem dX4_mostFree_29 : decode cX4_mostFree 29 = .ok (.invokevirtual 105, 3) := by decide +kernel
theorem dX4_mostFree_32 : decode cX4_mostFree 32 = .ok (.ifCond .eq 16, 3) := by decide +kernel
theorem dX4_mostFree_35 : decode cX4_mostFree 35 = .ok (.iload_n 1, 1) := by decide +kernel
theorem dX4_mostFree_36 : decode cX4_mostFree 36 = .ok (.aload_n 0, 1) := by decide +kernel
theorem dX4_mostFree_37 : decode cX4_mostFree 37 = .ok (.getfield 12, 3) := by decide +kernel
theorem dX4_mostFree_40 : decode cX4_mostFree 40 = .ok (.iload_n 2, 1) := by decide +kernel
theorem dX4_mostFree_41 : decode cX4_mostFree 41 = .ok (.invokevirtual 89, 3) := by decide +kernel
theorem dX4_mostFree_44 : decode cX4_mostFree 44 = .ok (.invokestatic 173, 3) := by decide +kernel
theorem dX4_mostFree_47 : decode cX4_mostFree 47 = .ok (.istore_n 1, 1) := by decide +kernel
theorem dX4_mostFree_48 : decode cX4_mostFree 48 = .ok (.aload_n 0, 1) := by decide +kernel
theorem dX4_mostFree_49 : decode cX4_mostFree 49 = .ok (.getfield 12, 3) := by decide +kernel
theorem dX4_mostFree_52 : decode cX4_mostFree 52 = .ok (.iload_n 2, 1) := by decide +kernel
theorem dX4_mostFree_53 : decode cX4_mostFree 53 = .ok (.invokevirtual 181, 3) := by decide +kernel
theorem dX4_mostFree_56 : decode cX4_mostFree 56 = .ok (.istore_n 2, 1) := by decide +kernel
theorem dX4_mostFree_57 : decode cX4_mostFree 57 = .ok (.iinc 3 1, 3) := by decide +kernel
theorem dX4_mostFree_60 : decode cX4_mostFree 60 = .ok (.goto (-54), 3) := by decide +kernel
theorem dX4_mostFree_63 : decode cX4_mostFree 63 = .ok (.iload_n 1, 1) := by decide +kernel
theorem dX4_mostFree_64 : decode cX4_mostFree 64 = .ok (.ireturn, 1) := by decide +kernel
theorem dX4_take_0 : decode cX4_take 0 = .ok (.aload_n 0, 1) := by decide +kernel
theorem dX4_take_1 : decode cX4_take 1 = .ok (.getfield 21, 3) := by decide +kernel
theorem dX4_take_4 : decode cX4_take 4 = .ok (.iload_n 1, 1) := by decide +kernel
theorem dX4_take_5 : decode cX4_take 5 = .ok (.invokevirtual 184, 3) := by decide +kernel
theorem dX4_take_8 : decode cX4_take 8 = .ok (.aload_n 0, 1) := by decide +kernel
theorem dX4_take_9 : decode cX4_take 9 = .ok (.getfield 12, 3) := by decide +kernel
theorem dX4_take_12 : decode cX4_take 12 = .ok (.iload_n 1, 1) := by decide +kernel
theorem dX4_take_13 : decode cX4_take 13 = .ok (.aload_n 0, 1) := by decide +kernel
theorem dX4_take_14 : decode cX4_take 14 = .ok (.getfield 12, 3) := by decide +kernel
theorem dX4_take_17 : decode cX4_take 17 = .ok (.iload_n 1, 1) := by decide +kernel
theorem dX4_take_18 : decode cX4_take 18 = .ok (.invokevirtual 89, 3) := by decide +kernel
theorem dX4_take_21 : decode cX4_take 21 = .ok (.iconst 0, 1) := by decide +kernel
theorem dX4_take_22 : decode cX4_take 22 = .ok (.invokevirtual 108, 3) := by decide +kernel
theorem dX4_take_25 : decode cX4_take 25 = .ok (.aload_n 0, 1) := by decide +kernel
theorem dX4_take_26 : decode cX4_take 26 = .ok (.getfield 12, 3) := by decide +kernel
theorem dX4_take_29 : decode cX4_take 29 = .ok (.iload_n 1, 1) := by decide +kernel
theorem dX4_take_30 : decode cX4_take 30 = .ok (.invokevirtual 187, 3) := by decide +kernel
theorem dX4_take_33 : decode cX4_take 33 = .ok (.return_, 1) := by decide +kernel
theorem dX4_cutTo_0 : decode cX4_cutTo 0 = .ok (.aload_n 0, 1) := by decide +kernel
theorem dX4_cutTo_1 : decode cX4_cutTo 1 = .ok (.getfield 12, 3) := by decide +kernel
theorem dX4_cutTo_4 : decode cX4_cutTo 4 = .ok (.iload_n 1, 1) := by decide +kernel
theorem dX4_cutTo_5 : decode cX4_cutTo 5 = .ok (.invokevirtual 89, 3) := by decide +kernel
theorem dX4_cutTo_8 : decode cX4_cutTo 8 = .ok (.iload_n 2, 1) := by decide +kernel
theorem dX4_cutTo_9 : decode cX4_cutTo 9 = .ok (.isub, 1) := by decide +kernel
theorem dX4_cutTo_10 : decode cX4_cutTo 10 = .ok (.istore_n 3, 1) := by decide +kernel
theorem dX4_cutTo_11 : decode cX4_cutTo 11 = .ok (.iload_n 3, 1) := by decide +kernel
theorem dX4_cutTo_12 : decode cX4_cutTo 12 = .ok (.iconst 4, 1) := by decide +kernel
theorem dX4_cutTo_13 : decode cX4_cutTo 13 = .ok (.if_icmp .ge 4, 3) := by decide +kernel
theorem dX4_cutTo_16 : decode cX4_cutTo 16 = .ok (.return_, 1) := by decide +kernel
theorem dX4_cutTo_17 : decode cX4_cutTo 17 = .ok (.aload_n 0, 1) := by decide +kernel
theorem dX4_cutTo_18 : decode cX4_cutTo 18 = .ok (.getfield 12, 3) := by decide +kernel
theorem dX4_cutTo_21 : decode cX4_cutTo 21 = .ok (.iload_n 1, 1) := by decide +kernel
theorem dX4_cutTo_22 : decode cX4_cutTo 22 = .ok (.iload_n 2, 1) := by decide +kernel
theorem dX4_cutTo_23 : decode cX4_cutTo 23 = .ok (.invokevirtual 190, 3) := by decide +kernel
theorem dX4_cutTo_26 : decode cX4_cutTo 26 = .ok (.aload_n 0, 1) := by decide +kernel
theorem dX4_cutTo_27 : decode cX4_cutTo 27 = .ok (.getfield 12, 3) := by decide +kernel
theorem dX4_cutTo_30 : decode cX4_cutTo 30 = .ok (.iload_n 1, 1) := by decide +kernel
theorem dX4_cutTo_31 : decode cX4_cutTo 31 = .ok (.invokevirtual 181, 3) := by decide +kernel
theorem dX4_cutTo_34 : decode cX4_cutTo 34 = .ok (.istore 4, 2) := by decide +kernel
theorem dX4_cutTo_36 : decode cX4_cutTo 36 = .ok (.aload_n 0, 1) := by decide +kernel
theorem dX4_cutTo_37 : decode cX4_cutTo 37 = .ok (.getfield 12, 3) := by decide +kernel
theorem dX4_cutTo_40 : decode cX4_cutTo 40 = .ok (.iload 4, 2) := by decide +kernel
theorem dX4_cutTo_42 : decode cX4_cutTo 42 = .ok (.iload_n 3, 1) := by decide +kernel
theorem dX4_cutTo_43 : decode cX4_cutTo 43 = .ok (.iconst 1, 1) := by decide +kernel
theorem dX4_cutTo_44 : decode cX4_cutTo 44 = .ok (.isub, 1) := by decide +kernel
theorem dX4_cutTo_45 : decode cX4_cutTo 45 = .ok (.iconst 0, 1) := by decide +kernel
theorem dX4_cutTo_46 : decode cX4_cutTo 46 = .ok (.invokevirtual 108, 3) := by decide +kernel
theorem dX4_cutTo_49 : decode cX4_cutTo 49 = .ok (.aload_n 0, 1) := by decide +kernel
theorem dX4_cutTo_50 : decode cX4_cutTo 50 = .ok (.iload 4, 2) := by decide +kernel
theorem dX4_cutTo_52 : decode cX4_cutTo 52 = .ok (.invokevirtual 83, 3) := by decide +kernel
theorem dX4_cutTo_55 : decode cX4_cutTo 55 = .ok (.pop, 1) := by decide +kernel
theorem dX4_cutTo_56 : decode cX4_cutTo 56 = .ok (.return_, 1) := by decide +kernel
theorem dX4_splitBefore_0 : decode cX4_splitBefore 0 = .ok (.aload_n 0, 1) := by decide +kernel
theorem dX4_splitBefore_1 : decode cX4_splitBefore 1 = .ok (.getfield 12, 3) := by decide +kernel
theorem dX4_splitBefore_4 : decode cX4_splitBefore 4 = .ok (.iload_n 2, 1) := by decide +kernel
theorem dX4_splitBefore_5 : decode cX4_splitBefore 5 = .ok (.aload_n 0, 1) := by decide +kernel
theorem dX4_splitBefore_6 : decode cX4_splitBefore 6 = .ok (.getfield 12, 3) := by decide +kernel
theorem dX4_splitBefore_9 : decode cX4_splitBefore 9 = .ok (.iload_n 1, 1) := by decide +kernel
theorem dX4_splitBefore_10 : decode cX4_splitBefore 10 = .ok (.invokevirtual 89, 3) := by decide +kernel
theorem dX4_splitBefore_13 : decode cX4_splitBefore 13 = .ok (.iload_n 2, 1) := by decide +kernel
theorem dX4_splitBefore_14 : decode cX4_splitBefore 14 = .ok (.iload_n 1, 1) := by decide +kernel
theorem dX4_splitBefore_15 : decode cX4_splitBefore 15 = .ok (.isub, 1) := by decide +kernel
theorem dX4_splitBefore_16 : decode cX4_splitBefore 16 = .ok (.isub, 1) := by decide +kernel
theorem dX4_splitBefore_17 : decode cX4_splitBefore 17 = .ok (.iconst 0, 1) := by decide +kernel
theorem dX4_splitBefore_18 : decode cX4_splitBefore 18 = .ok (.invokevirtual 108, 3) := by decide +kernel
theorem dX4_splitBefore_21 : decode cX4_splitBefore 21 = .ok (.aload_n 0, 1) := by decide +kernel
theorem dX4_splitBefore_22 : decode cX4_splitBefore 22 = .ok (.iload_n 1, 1) := by decide +kernel
theorem dX4_splitBefore_23 : decode cX4_splitBefore 23 = .ok (.iload_n 2, 1) := by decide +kernel
theorem dX4_splitBefore_24 : decode cX4_splitBefore 24 = .ok (.iload_n 1, 1) := by decide +kernel
theorem dX4_splitBefore_25 : decode cX4_splitBefore 25 = .ok (.isub, 1) := by decide +kernel
theorem dX4_splitBefore_26 : decode cX4_splitBefore 26 = .ok (.iconst 1, 1) := by decide +kernel
theorem dX4_splitBefore_27 : decode cX4_splitBefore 27 = .ok (.isub, 1) := by decide +kernel
theorem dX4_splitBefore_28 : decode cX4_splitBefore 28 = .ok (.invokevirtual 170, 3) := by decide +kernel
theorem dX4_splitBefore_31 : decode cX4_splitBefore 31 = .ok (.return_, 1) := by decide +kernel
theorem dX4_release_0 : decode cX4_release 0 = .ok (.iload_n 1, 1) := by decide +kernel
theorem dX4_release_1 : decode cX4_release 1 = .ok (.istore_n 2, 1) := by decide +kernel
theorem dX4_release_2 : decode cX4_release 2 = .ok (.aload_n 0, 1) := by decide +kernel
theorem dX4_release_3 : decode cX4_release 3 = .ok (.getfield 12, 3) := by decide +kernel
theorem dX4_release_6 : decode cX4_release 6 = .ok (.iload_n 1, 1) := by decide +kernel
theorem dX4_release_7 : decode cX4_release 7 = .ok (.invokevirtual 89, 3) := by decide +kernel
theorem dX4_release_10 : decode cX4_release 10 = .ok (.istore_n 3, 1) := by decide +kernel
theorem dX4_release_11 : decode cX4_release 11 = .ok (.aload_n 0, 1) := by decide +kernel
theorem dX4_release_12 : decode cX4_release 12 = .ok (.getfield 12, 3) := by decide +kernel
theorem dX4_release_15 : decode cX4_release 15 = .ok (.iload_n 1, 1) := by decide +kernel
theorem dX4_release_16 : decode cX4_release 16 = .ok (.invokevirtual 181, 3) := by decide +kernel
theorem dX4_release_19 : decode cX4_release 19 = .ok (.istore 4, 2) := by decide +kernel
theorem dX4_release_21 : decode cX4_release 21 = .ok (.aload_n 0, 1) := by decide +kernel
theorem dX4_release_22 : decode cX4_release 22 = .ok (.getfield 12, 3) := by decide +kernel
theorem dX4_release_25 : decode cX4_release 25 = .ok (.iload 4, 2) := by decide +kernel
theorem dX4_release_27 : decode cX4_release 27 = .ok (.invokevirtual 105, 3) := by decide +kernel
theorem dX4_release_30 : decode cX4_release 30 = .ok (.ifCond .eq 26, 3) := by decide +kernel
theorem dX4_release_33 : decode cX4_release 33 = .ok (.aload_n 0, 1) := by decide +kernel
theorem dX4_release_34 : decode cX4_release 34 = .ok (.getfield 21, 3) := by decide +kernel
theorem dX4_release_37 : decode cX4_release 37 = .ok (.iload 4, 2) := by decide +kernel
theorem dX4_release_39 : decode cX4_release 39 = .ok (.invokevirtual 184, 3) := by decide +kernel
theorem dX4_release_42 : decode cX4_release 42 = .ok (.iload_n 3, 1) := by decide +kernel
theorem dX4_release_43 : decode cX4_release 43 = .ok (.iconst 1, 1) := by decide +kernel
theorem dX4_release_44 : decode cX4_release 44 = .ok (.aload_n 0, 1) := by decide +kernel
theorem dX4_release_45 : decode cX4_release 45 = .ok (.getfield 12, 3) := by decide +kernel
theorem dX4_release_48 : decode cX4_release 48 = .ok (.iload 4, 2) := by decide +kernel
theorem dX4_release_50 : decode cX4_release 50 = .ok (.invokevirtual 89, 3) := by decide +kernel
theorem dX4_release_53 : decode cX4_release 53 = .ok (.iadd, 1) := by decide +kernel
theorem dX4_release_54 : decode cX4_release 54 = .ok (.iadd, 1) := by decide +kernel
theorem dX4_release_55 : decode cX4_release 55 = .ok (.istore_n 3, 1) := by decide +kernel
theorem dX4_release_56 : decode cX4_release 56 = .ok (.aload_n 0, 1) := by decide +kernel
theorem dX4_release_57 : decode cX4_release 57 = .ok (.getfield 12, 3) := by decide +kernel
theorem dX4_release_60 : decode cX4_release 60 = .ok (.iload_n 1, 1) := by decide +kernel
theorem dX4_release_61 : decode cX4_release 61 = .ok (.invokevirtual 193, 3) := by decide +kernel
theorem dX4_release_64 : decode cX4_release 64 = .ok (.ifCond .eq 33, 3) := by decide +kernel
theorem dX4_release_67 : decode cX4_release 67 = .ok (.aload_n 0, 1) := by decide +kernel
theorem dX4_release_68 : decode cX4_release 68 = .ok (.getfield 12, 3) := by decide +kernel
theorem dX4_release_71 : decode cX4_release 71 = .ok (.iload_n 1, 1) := by decide +kernel
theorem dX4_release_72 : decode cX4_release 72 = .ok (.invokevirtual 196, 3) := by decide +kernel
theorem dX4_release_75 : decode cX4_release 75 = .ok (.istore_n 2, 1) := by decide +kernel
theorem dX4_release_76 : decode cX4_release 76 = .ok (.aload_n 0, 1) := by decide +kernel
theorem dX4_release_77 : decode cX4_release 77 = .ok (.getfield 21, 3) := by decide +kernel
theorem dX4_release_80 : decode cX4_release 80 = .ok (.iload_n 2, 1) := by decide +kernel
theorem dX4_release_81 : decode cX4_release 81 = .ok (.invokevirtual 184, 3) := by decide +kernel
theorem dX4_release_84 : decode cX4_release 84 = .ok (.iload_n 3, 1) := by decide +kernel
theorem dX4_release_85 : decode cX4_release 85 = .ok (.iconst 1, 1) := by decide +kernel
theorem dX4_release_86 : decode cX4_release 86 = .ok (.aload_n 0, 1) := by decide +kernel
theorem dX4_release_87 : decode cX4_release 87 = .ok (.getfield 12, 3) := by decide +kernel
theorem dX4_release_90 : decode cX4_release 90 = .ok (.iload_n 2, 1) := by decide +kernel
theorem dX4_release_91 : decode cX4_release 91 = .ok (.invokevirtual 89, 3) := by decide +kernel
theorem dX4_release_94 : decode cX4_release 94 = .ok (.iadd, 1) := by decide +kernel
theorem dX4_release_95 : decode cX4_release 95 = .ok (.iadd, 1) := by decide +kernel
theorem dX4_release_96 : decode cX4_release 96 = .ok (.istore_n 3, 1) := by decide +kernel
theorem dX4_release_97 : decode cX4_release 97 = .ok (.aload_n 0, 1) := by decide +kernel
theorem dX4_release_98 : decode cX4_release 98 = .ok (.iload_n 2, 1) := by decide +kernel
theorem dX4_release_99 : decode cX4_release 99 = .ok (.iload_n 3, 1) := by decide +kernel
theorem dX4_release_100 : decode cX4_release 100 = .ok (.invokevirtual 170, 3) := by decide +kernel
theorem dX4_release_103 : decode cX4_release 103 = .ok (.iload_n 3, 1) := by decide +kernel
theorem dX4_release_104 : decode cX4_release 104 = .ok (.ireturn, 1) := by decide +kernel
theorem dX4_makeFree_0 : decode cX4_makeFree 0 = .ok (.aload_n 0, 1) := by decide +kernel
theorem dX4_makeFree_1 : decode cX4_makeFree 1 = .ok (.getfield 12, 3) := by decide +kernel
theorem dX4_makeFree_4 : decode cX4_makeFree 4 = .ok (.iload_n 1, 1) := by decide +kernel
theorem dX4_makeFree_5 : decode cX4_makeFree 5 = .ok (.iload_n 2, 1) := by decide +kernel
theorem dX4_makeFree_6 : decode cX4_makeFree 6 = .ok (.iconst 1, 1) := by decide +kernel
theorem dX4_makeFree_7 : decode cX4_makeFree 7 = .ok (.invokevirtual 108, 3) := by decide +kernel
theorem dX4_makeFree_10 : decode cX4_makeFree 10 = .ok (.aload_n 0, 1) := by decide +kernel
theorem dX4_makeFree_11 : decode cX4_makeFree 11 = .ok (.getfield 12, 3) := by decide +kernel
theorem dX4_makeFree_14 : decode cX4_makeFree 14 = .ok (.iload_n 1, 1) := by decide +kernel
theorem dX4_makeFree_15 : decode cX4_makeFree 15 = .ok (.iload_n 2, 1) := by decide +kernel
theorem dX4_makeFree_16 : decode cX4_makeFree 16 = .ok (.iadd, 1) := by decide +kernel
theorem dX4_makeFree_17 : decode cX4_makeFree 17 = .ok (.iload_n 2, 1) := by decide +kernel
theorem dX4_makeFree_18 : decode cX4_makeFree 18 = .ok (.i2l, 1) := by decide +kernel
theorem dX4_makeFree_19 : decode cX4_makeFree 19 = .ok (.invokevirtual 112, 3) := by decide +kernel
theorem dX4_makeFree_22 : decode cX4_makeFree 22 = .ok (.aload_n 0, 1) := by decide +kernel
theorem dX4_makeFree_23 : decode cX4_makeFree 23 = .ok (.getfield 21, 3) := by decide +kernel
theorem dX4_makeFree_26 : decode cX4_makeFree 26 = .ok (.iload_n 1, 1) := by decide +kernel
theorem dX4_makeFree_27 : decode cX4_makeFree 27 = .ok (.invokevirtual 199, 3) := by decide +kernel
theorem dX4_makeFree_30 : decode cX4_makeFree 30 = .ok (.aload_n 0, 1) := by decide +kernel
theorem dX4_makeFree_31 : decode cX4_makeFree 31 = .ok (.getfield 12, 3) := by decide +kernel
theorem dX4_makeFree_34 : decode cX4_makeFree 34 = .ok (.iload_n 1, 1) := by decide +kernel
theorem dX4_makeFree_35 : decode cX4_makeFree 35 = .ok (.invokevirtual 187, 3) := by decide +kernel
theorem dX4_makeFree_38 : decode cX4_makeFree 38 = .ok (.return_, 1) := by decide +kernel
theorem dX4_bodyWithBehind_0 : decode cX4_bodyWithBehind 0 = .ok (.aload_n 0, 1) := by decide +kernel
theorem dX4_bodyWithBehind_1 : decode cX4_bodyWithBehind 1 = .ok (.getfield 12, 3) := by decide +kernel
theorem dX4_bodyWithBehind_4 : decode cX4_bodyWithBehind 4 = .ok (.iload_n 1, 1) := by decide +kernel
theorem dX4_bodyWithBehind_5 : decode cX4_bodyWithBehind 5 = .ok (.invokevirtual 89, 3) := by decide +kernel
theorem dX4_bodyWithBehind_8 : decode cX4_bodyWithBehind 8 = .ok (.istore_n 2, 1) := by decide +kernel
theorem dX4_bodyWithBehind_9 : decode cX4_bodyWithBehind 9 = .ok (.aload_n 0, 1) := by decide +kernel
theorem dX4_bodyWithBehind_10 : decode cX4_bodyWithBehind 10 = .ok (.getfield 12, 3) := by decide +kernel
theorem dX4_bodyWithBehind_13 : decode cX4_bodyWithBehind 13 = .ok (.iload_n 1, 1) := by decide +kernel
theorem dX4_bodyWithBehind_14 : decode cX4_bodyWithBehind 14 = .ok (.invokevirtual 181, 3) := by decide +kernel
theorem dX4_bodyWithBehind_17 : decode cX4_bodyWithBehind 17 = .ok (.istore_n 3, 1) := by decide +kernel
theorem dX4_bodyWithBehind_18 : decode cX4_bodyWithBehind 18 = .ok (.aload_n 0, 1) := by decide +kernel
theorem dX4_bodyWithBehind_19 : decode cX4_bodyWithBehind 19 = .ok (.getfield 12, 3) := by decide +kernel
theorem dX4_bodyWithBehind_22 : decode cX4_bodyWithBehind 22 = .ok (.iload_n 3, 1) := by decide +kernel
theorem dX4_bodyWithBehind_23 : decode cX4_bodyWithBehind 23 = .ok (.invokevirtual 105, 3) := by decide +kernel
theorem dX4_bodyWithBehind_26 : decode cX4_bodyWithBehind 26 = .ok (.ifCond .eq 18, 3) := by decide +kernel
theorem dX4_bodyWithBehind_29 : decode cX4_bodyWithBehind 29 = .ok (.iload_n 2, 1) := by decide +kernel
theorem dX4_bodyWithBehind_30 : decode cX4_bodyWithBehind 30 = .ok (.iconst 1, 1) := by decide +kernel
theorem dX4_bodyWithBehind_31 : decode cX4_bodyWithBehind 31 = .ok (.iadd, 1) := by decide +kernel
theorem dX4_bodyWithBehind_32 : decode cX4_bodyWithBehind 32 = .ok (.aload_n 0, 1) := by decide +kernel
theorem dX4_bodyWithBehind_33 : decode cX4_bodyWithBehind 33 = .ok (.getfield 12, 3) := by decide +kernel
theorem dX4_bodyWithBehind_36 : decode cX4_bodyWithBehind 36 = .ok (.iload_n 3, 1) := by decide +kernel
theorem dX4_bodyWithBehind_37 : decode cX4_bodyWithBehind 37 = .ok (.invokevirtual 89, 3) := by decide +kernel
theorem dX4_bodyWithBehind_40 : decode cX4_bodyWithBehind 40 = .ok (.iadd, 1) := by decide +kernel
theorem dX4_bodyWithBehind_41 : decode cX4_bodyWithBehind 41 = .ok (.goto 4, 3) := by decide +kernel
theorem dX4_bodyWithBehind_44 : decode cX4_bodyWithBehind 44 = .ok (.iload_n 2, 1) := by decide +kernel
theorem dX4_bodyWithBehind_45 : decode cX4_bodyWithBehind 45 = .ok (.ireturn, 1) := by decide +kernel
theorem dX4_joinBehind_0 : decode cX4_joinBehind 0 = .ok (.aload_n 0, 1) := by decide +kernel
theorem dX4_joinBehind_1 : decode cX4_joinBehind 1 = .ok (.getfield 12, 3) := by decide +kernel
theorem dX4_joinBehind_4 : decode cX4_joinBehind 4 = .ok (.iload_n 1, 1) := by decide +kernel
theorem dX4_joinBehind_5 : decode cX4_joinBehind 5 = .ok (.invokevirtual 181, 3) := by decide +kernel
theorem dX4_joinBehind_8 : decode cX4_joinBehind 8 = .ok (.istore_n 2, 1) := by decide +kernel
theorem dX4_joinBehind_9 : decode cX4_joinBehind 9 = .ok (.aload_n 0, 1) := by decide +kernel
theorem dX4_joinBehind_10 : decode cX4_joinBehind 10 = .ok (.getfield 21, 3) := by decide +kernel
theorem dX4_joinBehind_13 : decode cX4_joinBehind 13 = .ok (.iload_n 2, 1) := by decide +kernel
theorem dX4_joinBehind_14 : decode cX4_joinBehind 14 = .ok (.invokevirtual 184, 3) := by decide +kernel
theorem dX4_joinBehind_17 : decode cX4_joinBehind 17 = .ok (.aload_n 0, 1) := by decide +kernel
theorem dX4_joinBehind_18 : decode cX4_joinBehind 18 = .ok (.getfield 12, 3) := by decide +kernel
theorem dX4_joinBehind_21 : decode cX4_joinBehind 21 = .ok (.iload_n 1, 1) := by decide +kernel
theorem dX4_joinBehind_22 : decode cX4_joinBehind 22 = .ok (.aload_n 0, 1) := by decide +kernel
theorem dX4_joinBehind_23 : decode cX4_joinBehind 23 = .ok (.getfield 12, 3) := by decide +kernel
theorem dX4_joinBehind_26 : decode cX4_joinBehind 26 = .ok (.iload_n 1, 1) := by decide +kernel
theorem dX4_joinBehind_27 : decode cX4_joinBehind 27 = .ok (.invokevirtual 89, 3) := by decide +kernel
theorem dX4_joinBehind_30 : decode cX4_joinBehind 30 = .ok (.iconst 1, 1) := by decide +kernel
theorem dX4_joinBehind_31 : decode cX4_joinBehind 31 = .ok (.iadd, 1) := by decide +kernel
theorem dX4_joinBehind_32 : decode cX4_joinBehind 32 = .ok (.aload_n 0, 1) := by decide +kernel
theorem dX4_joinBehind_33 : decode cX4_joinBehind 33 = .ok (.getfield 12, 3) := by decide +kernel
theorem dX4_joinBehind_36 : decode cX4_joinBehind 36 = .ok (.iload_n 2, 1) := by decide +kernel
theorem dX4_joinBehind_37 : decode cX4_joinBehind 37 = .ok (.invokevirtual 89, 3) := by decide +kernel
theorem dX4_joinBehind_40 : decode cX4_joinBehind 40 = .ok (.iadd, 1) := by decide +kernel
theorem dX4_joinBehind_41 : decode cX4_joinBehind 41 = .ok (.invokevirtual 190, 3) := by decide +kernel
theorem dX4_joinBehind_44 : decode cX4_joinBehind 44 = .ok (.aload_n 0, 1) := by decide +kernel
theorem dX4_joinBehind_45 : decode cX4_joinBehind 45 = .ok (.getfield 12, 3) := by decide +kernel
theorem dX4_joinBehind_48 : decode cX4_joinBehind 48 = .ok (.iload_n 1, 1) := by decide +kernel
theorem dX4_joinBehind_49 : decode cX4_joinBehind 49 = .ok (.invokevirtual 187, 3) := by decide +kernel
theorem dX4_joinBehind_52 : decode cX4_joinBehind 52 = .ok (.return_, 1) := by decide +kernel
theorem dX4_copyBody_0 : decode cX4_copyBody 0 = .ok (.aload_n 0, 1) := by decide +kernel
theorem dX4_copyBody_1 : decode cX4_copyBody 1 = .ok (.getfield 12, 3) := by decide +kernel
theorem dX4_copyBody_4 : decode cX4_copyBody 4 = .ok (.iload_n 1, 1) := by decide +kernel
theorem dX4_copyBody_5 : decode cX4_copyBody 5 = .ok (.invokevirtual 89, 3) := by decide +kernel
theorem dX4_copyBody_8 : decode cX4_copyBody 8 = .ok (.sipush 2048, 3) := by decide +kernel
theorem dX4_copyBody_11 : decode cX4_copyBody 11 = .ok (.invokestatic 202, 3) := by decide +kernel
theorem dX4_copyBody_14 : decode cX4_copyBody 14 = .ok (.istore_n 3, 1) := by decide +kernel
theorem dX4_copyBody_15 : decode cX4_copyBody 15 = .ok (.iconst 1, 1) := by decide +kernel
theorem dX4_copyBody_16 : decode cX4_copyBody 16 = .ok (.istore 4, 2) := by decide +kernel
theorem dX4_copyBody_18 : decode cX4_copyBody 18 = .ok (.iload 4, 2) := by decide +kernel
theorem dX4_copyBody_20 : decode cX4_copyBody 20 = .ok (.iload_n 3, 1) := by decide +kernel
theorem dX4_copyBody_21 : decode cX4_copyBody 21 = .ok (.if_icmp .gt 31, 3) := by decide +kernel
theorem dX4_copyBody_24 : decode cX4_copyBody 24 = .ok (.aload_n 0, 1) := by decide +kernel
theorem dX4_copyBody_25 : decode cX4_copyBody 25 = .ok (.getfield 12, 3) := by decide +kernel
theorem dX4_copyBody_28 : decode cX4_copyBody 28 = .ok (.iload_n 2, 1) := by decide +kernel
theorem dX4_copyBody_29 : decode cX4_copyBody 29 = .ok (.iload 4, 2) := by decide +kernel
theorem dX4_copyBody_31 : decode cX4_copyBody 31 = .ok (.iadd, 1) := by decide +kernel
theorem dX4_copyBody_32 : decode cX4_copyBody 32 = .ok (.aload_n 0, 1) := by decide +kernel
theorem dX4_copyBody_33 : decode cX4_copyBody 33 = .ok (.getfield 12, 3) := by decide +kernel
theorem dX4_copyBody_36 : decode cX4_copyBody 36 = .ok (.iload_n 1, 1) := by decide +kernel
theorem dX4_copyBody_37 : decode cX4_copyBody 37 = .ok (.iload 4, 2) := by decide +kernel
theorem dX4_copyBody_39 : decode cX4_copyBody 39 = .ok (.iadd, 1) := by decide +kernel
theorem dX4_copyBody_40 : decode cX4_copyBody 40 = .ok (.invokevirtual 116, 3) := by decide +kernel
theorem dX4_copyBody_43 : decode cX4_copyBody 43 = .ok (.invokevirtual 112, 3) := by decide +kernel
theorem dX4_copyBody_46 : decode cX4_copyBody 46 = .ok (.iinc 4 1, 3) := by decide +kernel
theorem dX4_copyBody_49 : decode cX4_copyBody 49 = .ok (.goto (-31), 3) := by decide +kernel
theorem dX4_copyBody_52 : decode cX4_copyBody 52 = .ok (.return_, 1) := by decide +kernel
