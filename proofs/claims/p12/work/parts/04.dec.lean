theorem dX0_init_0 : decode cX0_init 0 = .ok (.aload_n 0, 1) := by decide +kernel
theorem dX0_init_1 : decode cX0_init 1 = .ok (.invokespecial 3, 3) := by decide +kernel
theorem dX0_init_4 : decode cX0_init 4 = .ok (.aload_n 0, 1) := by decide +kernel
theorem dX0_init_5 : decode cX0_init 5 = .ok (.sipush 2048, 3) := by decide +kernel
theorem dX0_init_8 : decode cX0_init 8 = .ok (.newarray .int, 2) := by decide +kernel
theorem dX0_init_10 : decode cX0_init 10 = .ok (.putfield 9, 3) := by decide +kernel
theorem dX0_init_13 : decode cX0_init 13 = .ok (.aload_n 0, 1) := by decide +kernel
theorem dX0_init_14 : decode cX0_init 14 = .ok (.aload_n 1, 1) := by decide +kernel
theorem dX0_init_15 : decode cX0_init 15 = .ok (.putfield 15, 3) := by decide +kernel
theorem dX0_init_18 : decode cX0_init 18 = .ok (.aload_n 0, 1) := by decide +kernel
theorem dX0_init_19 : decode cX0_init 19 = .ok (.aload_n 2, 1) := by decide +kernel
theorem dX0_init_20 : decode cX0_init 20 = .ok (.putfield 19, 3) := by decide +kernel
theorem dX0_init_23 : decode cX0_init 23 = .ok (.return_, 1) := by decide +kernel
theorem dX0_run_0 : decode cX0_run 0 = .ok (.aload_n 0, 1) := by decide +kernel
theorem dX0_run_1 : decode cX0_run 1 = .ok (.getfield 9, 3) := by decide +kernel
theorem dX0_run_4 : decode cX0_run 4 = .ok (.iconst 0, 1) := by decide +kernel
theorem dX0_run_5 : decode cX0_run 5 = .ok (.invokestatic 23, 3) := by decide +kernel
theorem dX0_run_8 : decode cX0_run 8 = .ok (.aload_n 0, 1) := by decide +kernel
theorem dX0_run_9 : decode cX0_run 9 = .ok (.iconst (-1), 1) := by decide +kernel
theorem dX0_run_10 : decode cX0_run 10 = .ok (.putfield 29, 3) := by decide +kernel
theorem dX0_run_13 : decode cX0_run 13 = .ok (.aload_n 0, 1) := by decide +kernel
theorem dX0_run_14 : decode cX0_run 14 = .ok (.invokevirtual 33, 3) := by decide +kernel
theorem dX0_run_17 : decode cX0_run 17 = .ok (.istore_n 1, 1) := by decide +kernel
theorem dX0_run_18 : decode cX0_run 18 = .ok (.iconst 0, 1) := by decide +kernel
theorem dX0_run_19 : decode cX0_run 19 = .ok (.istore_n 2, 1) := by decide +kernel
theorem dX0_run_20 : decode cX0_run 20 = .ok (.iload_n 2, 1) := by decide +kernel
theorem dX0_run_21 : decode cX0_run 21 = .ok (.bipush 72, 2) := by decide +kernel
theorem dX0_run_23 : decode cX0_run 23 = .ok (.if_icmp .ge 19, 3) := by decide +kernel
theorem dX0_run_26 : decode cX0_run 26 = .ok (.iload_n 1, 1) := by decide +kernel
theorem dX0_run_27 : decode cX0_run 27 = .ok (.ifCond .ne 15, 3) := by decide +kernel
theorem dX0_run_30 : decode cX0_run 30 = .ok (.aload_n 0, 1) := by decide +kernel
theorem dX0_run_31 : decode cX0_run 31 = .ok (.iload_n 2, 1) := by decide +kernel
theorem dX0_run_32 : decode cX0_run 32 = .ok (.invokevirtual 37, 3) := by decide +kernel
theorem dX0_run_35 : decode cX0_run 35 = .ok (.istore_n 1, 1) := by decide +kernel
theorem dX0_run_36 : decode cX0_run 36 = .ok (.iinc 2 1, 3) := by decide +kernel
theorem dX0_run_39 : decode cX0_run 39 = .ok (.goto (-19), 3) := by decide +kernel
theorem dX0_run_42 : decode cX0_run 42 = .ok (.iload_n 1, 1) := by decide +kernel
theorem dX0_run_43 : decode cX0_run 43 = .ok (.ifCond .eq 7, 3) := by decide +kernel
theorem dX0_run_46 : decode cX0_run 46 = .ok (.iload_n 1, 1) := by decide +kernel
theorem dX0_run_47 : decode cX0_run 47 = .ok (.goto 7, 3) := by decide +kernel
theorem dX0_run_50 : decode cX0_run 50 = .ok (.aload_n 0, 1) := by decide +kernel
theorem dX0_run_51 : decode cX0_run 51 = .ok (.invokevirtual 41, 3) := by decide +kernel
theorem dX0_run_54 : decode cX0_run 54 = .ok (.ireturn, 1) := by decide +kernel
theorem dX0_tell_0 : decode cX0_tell 0 = .ok (.aload_n 0, 1) := by decide +kernel
theorem dX0_tell_1 : decode cX0_tell 1 = .ok (.iload_n 2, 1) := by decide +kernel
theorem dX0_tell_2 : decode cX0_tell 2 = .ok (.putfield 29, 3) := by decide +kernel
theorem dX0_tell_5 : decode cX0_tell 5 = .ok (.iload_n 1, 1) := by decide +kernel
theorem dX0_tell_6 : decode cX0_tell 6 = .ok (.ireturn, 1) := by decide +kernel
theorem dX0_markOf_0 : decode cX0_markOf 0 = .ok (.iload_n 1, 1) := by decide +kernel
theorem dX0_markOf_1 : decode cX0_markOf 1 = .ok (.ifCond .lt 19, 3) := by decide +kernel
theorem dX0_markOf_4 : decode cX0_markOf 4 = .ok (.iload_n 1, 1) := by decide +kernel
theorem dX0_markOf_5 : decode cX0_markOf 5 = .ok (.sipush 2048, 3) := by decide +kernel
theorem dX0_markOf_8 : decode cX0_markOf 8 = .ok (.if_icmp .ge 12, 3) := by decide +kernel
theorem dX0_markOf_11 : decode cX0_markOf 11 = .ok (.aload_n 0, 1) := by decide +kernel
theorem dX0_markOf_12 : decode cX0_markOf 12 = .ok (.getfield 9, 3) := by decide +kernel
theorem dX0_markOf_15 : decode cX0_markOf 15 = .ok (.iload_n 1, 1) := by decide +kernel
theorem dX0_markOf_16 : decode cX0_markOf 16 = .ok (.iaload, 1) := by decide +kernel
theorem dX0_markOf_17 : decode cX0_markOf 17 = .ok (.goto 4, 3) := by decide +kernel
theorem dX0_markOf_20 : decode cX0_markOf 20 = .ok (.iconst 0, 1) := by decide +kernel
theorem dX0_markOf_21 : decode cX0_markOf 21 = .ok (.ireturn, 1) := by decide +kernel
theorem dX0_mark_0 : decode cX0_mark 0 = .ok (.iload_n 1, 1) := by decide +kernel
theorem dX0_mark_1 : decode cX0_mark 1 = .ok (.ifCond .lt 17, 3) := by decide +kernel
theorem dX0_mark_4 : decode cX0_mark 4 = .ok (.iload_n 1, 1) := by decide +kernel
theorem dX0_mark_5 : decode cX0_mark 5 = .ok (.sipush 2048, 3) := by decide +kernel
theorem dX0_mark_8 : decode cX0_mark 8 = .ok (.if_icmp .ge 10, 3) := by decide +kernel
theorem dX0_mark_11 : decode cX0_mark 11 = .ok (.aload_n 0, 1) := by decide +kernel
theorem dX0_mark_12 : decode cX0_mark 12 = .ok (.getfield 9, 3) := by decide +kernel
theorem dX0_mark_15 : decode cX0_mark 15 = .ok (.iload_n 1, 1) := by decide +kernel
theorem dX0_mark_16 : decode cX0_mark 16 = .ok (.iload_n 2, 1) := by decide +kernel
theorem dX0_mark_17 : decode cX0_mark 17 = .ok (.iastore, 1) := by decide +kernel
theorem dX0_mark_18 : decode cX0_mark 18 = .ok (.return_, 1) := by decide +kernel
theorem dX0_readBlocks_0 : decode cX0_readBlocks 0 = .ok (.iconst 0, 1) := by decide +kernel
theorem dX0_readBlocks_1 : decode cX0_readBlocks 1 = .ok (.istore_n 1, 1) := by decide +kernel
theorem dX0_readBlocks_2 : decode cX0_readBlocks 2 = .ok (.iconst 0, 1) := by decide +kernel
theorem dX0_readBlocks_3 : decode cX0_readBlocks 3 = .ok (.istore_n 2, 1) := by decide +kernel
theorem dX0_readBlocks_4 : decode cX0_readBlocks 4 = .ok (.iconst 0, 1) := by decide +kernel
theorem dX0_readBlocks_5 : decode cX0_readBlocks 5 = .ok (.istore_n 3, 1) := by decide +kernel
theorem dX0_readBlocks_6 : decode cX0_readBlocks 6 = .ok (.iload_n 3, 1) := by decide +kernel
theorem dX0_readBlocks_7 : decode cX0_readBlocks 7 = .ok (.sipush 512, 3) := by decide +kernel
theorem dX0_readBlocks_10 : decode cX0_readBlocks 10 = .ok (.if_icmp .ge 69, 3) := by decide +kernel
theorem dX0_readBlocks_13 : decode cX0_readBlocks 13 = .ok (.iload_n 1, 1) := by decide +kernel
theorem dX0_readBlocks_14 : decode cX0_readBlocks 14 = .ok (.aload_n 0, 1) := by decide +kernel
theorem dX0_readBlocks_15 : decode cX0_readBlocks 15 = .ok (.getfield 15, 3) := by decide +kernel
theorem dX0_readBlocks_18 : decode cX0_readBlocks 18 = .ok (.getfield 44, 3) := by decide +kernel
theorem dX0_readBlocks_21 : decode cX0_readBlocks 21 = .ok (.if_icmp .ge 58, 3) := by decide +kernel
theorem dX0_readBlocks_24 : decode cX0_readBlocks 24 = .ok (.aload_n 0, 1) := by decide +kernel
theorem dX0_readBlocks_25 : decode cX0_readBlocks 25 = .ok (.iload_n 1, 1) := by decide +kernel
theorem dX0_readBlocks_26 : decode cX0_readBlocks 26 = .ok (.iload_n 2, 1) := by decide +kernel
theorem dX0_readBlocks_27 : decode cX0_readBlocks 27 = .ok (.invokevirtual 49, 3) := by decide +kernel
theorem dX0_readBlocks_30 : decode cX0_readBlocks 30 = .ok (.istore 4, 2) := by decide +kernel
theorem dX0_readBlocks_32 : decode cX0_readBlocks 32 = .ok (.iload 4, 2) := by decide +kernel
theorem dX0_readBlocks_34 : decode cX0_readBlocks 34 = .ok (.ifCond .eq 11, 3) := by decide +kernel
theorem dX0_readBlocks_37 : decode cX0_readBlocks 37 = .ok (.aload_n 0, 1) := by decide +kernel
theorem dX0_readBlocks_38 : decode cX0_readBlocks 38 = .ok (.iload 4, 2) := by decide +kernel
theorem dX0_readBlocks_40 : decode cX0_readBlocks 40 = .ok (.iload_n 1, 1) := by decide +kernel
theorem dX0_readBlocks_41 : decode cX0_readBlocks 41 = .ok (.invokevirtual 53, 3) := by decide +kernel
theorem dX0_readBlocks_44 : decode cX0_readBlocks 44 = .ok (.ireturn, 1) := by decide +kernel
theorem dX0_readBlocks_45 : decode cX0_readBlocks 45 = .ok (.aload_n 0, 1) := by decide +kernel
theorem dX0_readBlocks_46 : decode cX0_readBlocks 46 = .ok (.getfield 15, 3) := by decide +kernel
theorem dX0_readBlocks_49 : decode cX0_readBlocks 49 = .ok (.iload_n 1, 1) := by decide +kernel
theorem dX0_readBlocks_50 : decode cX0_readBlocks 50 = .ok (.invokevirtual 57, 3) := by decide +kernel
theorem dX0_readBlocks_53 : decode cX0_readBlocks 53 = .ok (.istore_n 2, 1) := by decide +kernel
theorem dX0_readBlocks_54 : decode cX0_readBlocks 54 = .ok (.iload_n 2, 1) := by decide +kernel
theorem dX0_readBlocks_55 : decode cX0_readBlocks 55 = .ok (.ifCond .eq 9, 3) := by decide +kernel
theorem dX0_readBlocks_58 : decode cX0_readBlocks 58 = .ok (.aload_n 0, 1) := by decide +kernel
theorem dX0_readBlocks_59 : decode cX0_readBlocks 59 = .ok (.iload_n 1, 1) := by decide +kernel
theorem dX0_readBlocks_60 : decode cX0_readBlocks 60 = .ok (.iconst 1, 1) := by decide +kernel
theorem dX0_readBlocks_61 : decode cX0_readBlocks 61 = .ok (.invokevirtual 61, 3) := by decide +kernel
theorem dX0_readBlocks_64 : decode cX0_readBlocks 64 = .ok (.aload_n 0, 1) := by decide +kernel
theorem dX0_readBlocks_65 : decode cX0_readBlocks 65 = .ok (.getfield 15, 3) := by decide +kernel
theorem dX0_readBlocks_68 : decode cX0_readBlocks 68 = .ok (.iload_n 1, 1) := by decide +kernel
theorem dX0_readBlocks_69 : decode cX0_readBlocks 69 = .ok (.invokevirtual 65, 3) := by decide +kernel
theorem dX0_readBlocks_72 : decode cX0_readBlocks 72 = .ok (.istore_n 1, 1) := by decide +kernel
theorem dX0_readBlocks_73 : decode cX0_readBlocks 73 = .ok (.iinc 3 1, 3) := by decide +kernel
theorem dX0_readBlocks_76 : decode cX0_readBlocks 76 = .ok (.goto (-70), 3) := by decide +kernel
theorem dX0_readBlocks_79 : decode cX0_readBlocks 79 = .ok (.iconst 0, 1) := by decide +kernel
theorem dX0_readBlocks_80 : decode cX0_readBlocks 80 = .ok (.ireturn, 1) := by decide +kernel
theorem dX0_wrongOfBlock_0 : decode cX0_wrongOfBlock 0 = .ok (.aload_n 0, 1) := by decide +kernel
theorem dX0_wrongOfBlock_1 : decode cX0_wrongOfBlock 1 = .ok (.getfield 15, 3) := by decide +kernel
theorem dX0_wrongOfBlock_4 : decode cX0_wrongOfBlock 4 = .ok (.iload_n 1, 1) := by decide +kernel
theorem dX0_wrongOfBlock_5 : decode cX0_wrongOfBlock 5 = .ok (.invokevirtual 68, 3) := by decide +kernel
theorem dX0_wrongOfBlock_8 : decode cX0_wrongOfBlock 8 = .ok (.lstore_n 3, 1) := by decide +kernel
theorem dX0_wrongOfBlock_9 : decode cX0_wrongOfBlock 9 = .ok (.lload_n 3, 1) := by decide +kernel
theorem dX0_wrongOfBlock_10 : decode cX0_wrongOfBlock 10 = .ok (.ldc2_w 72, 3) := by decide +kernel
theorem dX0_wrongOfBlock_13 : decode cX0_wrongOfBlock 13 = .ok (.ldiv, 1) := by decide +kernel
theorem dX0_wrongOfBlock_14 : decode cX0_wrongOfBlock 14 = .ok (.lstore 5, 2) := by decide +kernel
theorem dX0_wrongOfBlock_16 : decode cX0_wrongOfBlock 16 = .ok (.lload_n 3, 1) := by decide +kernel
theorem dX0_wrongOfBlock_17 : decode cX0_wrongOfBlock 17 = .ok (.lconst 0, 1) := by decide +kernel
theorem dX0_wrongOfBlock_18 : decode cX0_wrongOfBlock 18 = .ok (.lcmp, 1) := by decide +kernel
theorem dX0_wrongOfBlock_19 : decode cX0_wrongOfBlock 19 = .ok (.ifCond .lt 30, 3) := by decide +kernel
theorem dX0_wrongOfBlock_22 : decode cX0_wrongOfBlock 22 = .ok (.lload 5, 2) := by decide +kernel
theorem dX0_wrongOfBlock_24 : decode cX0_wrongOfBlock 24 = .ok (.ldc2_w 74, 3) := by decide +kernel
theorem dX0_wrongOfBlock_27 : decode cX0_wrongOfBlock 27 = .ok (.lcmp, 1) := by decide +kernel
theorem dX0_wrongOfBlock_28 : decode cX0_wrongOfBlock 28 = .ok (.ifCond .lt 21, 3) := by decide +kernel
theorem dX0_wrongOfBlock_31 : decode cX0_wrongOfBlock 31 = .ok (.lload 5, 2) := by decide +kernel
theorem dX0_wrongOfBlock_33 : decode cX0_wrongOfBlock 33 = .ok (.aload_n 0, 1) := by decide +kernel
theorem dX0_wrongOfBlock_34 : decode cX0_wrongOfBlock 34 = .ok (.getfield 15, 3) := by decide +kernel
theorem dX0_wrongOfBlock_37 : decode cX0_wrongOfBlock 37 = .ok (.getfield 44, 3) := by decide +kernel
theorem dX0_wrongOfBlock_40 : decode cX0_wrongOfBlock 40 = .ok (.iload_n 1, 1) := by decide +kernel
theorem dX0_wrongOfBlock_41 : decode cX0_wrongOfBlock 41 = .ok (.isub, 1) := by decide +kernel
theorem dX0_wrongOfBlock_42 : decode cX0_wrongOfBlock 42 = .ok (.iconst 1, 1) := by decide +kernel
theorem dX0_wrongOfBlock_43 : decode cX0_wrongOfBlock 43 = .ok (.isub, 1) := by decide +kernel
theorem dX0_wrongOfBlock_44 : decode cX0_wrongOfBlock 44 = .ok (.i2l, 1) := by decide +kernel
theorem dX0_wrongOfBlock_45 : decode cX0_wrongOfBlock 45 = .ok (.lcmp, 1) := by decide +kernel
theorem dX0_wrongOfBlock_46 : decode cX0_wrongOfBlock 46 = .ok (.ifCond .le 5, 3) := by decide +kernel
theorem dX0_wrongOfBlock_49 : decode cX0_wrongOfBlock 49 = .ok (.iconst 1, 1) := by decide +kernel
theorem dX0_wrongOfBlock_50 : decode cX0_wrongOfBlock 50 = .ok (.ireturn, 1) := by decide +kernel
theorem dX0_wrongOfBlock_51 : decode cX0_wrongOfBlock 51 = .ok (.aload_n 0, 1) := by decide +kernel
theorem dX0_wrongOfBlock_52 : decode cX0_wrongOfBlock 52 = .ok (.getfield 15, 3) := by decide +kernel
theorem dX0_wrongOfBlock_55 : decode cX0_wrongOfBlock 55 = .ok (.iload_n 1, 1) := by decide +kernel
theorem dX0_wrongOfBlock_56 : decode cX0_wrongOfBlock 56 = .ok (.invokevirtual 76, 3) := by decide +kernel
theorem dX0_wrongOfBlock_59 : decode cX0_wrongOfBlock 59 = .ok (.iload_n 2, 1) := by decide +kernel
theorem dX0_wrongOfBlock_60 : decode cX0_wrongOfBlock 60 = .ok (.if_icmp .eq 5, 3) := by decide +kernel
theorem dX0_wrongOfBlock_63 : decode cX0_wrongOfBlock 63 = .ok (.iconst 2, 1) := by decide +kernel
theorem dX0_wrongOfBlock_64 : decode cX0_wrongOfBlock 64 = .ok (.ireturn, 1) := by decide +kernel
theorem dX0_wrongOfBlock_65 : decode cX0_wrongOfBlock 65 = .ok (.aload_n 0, 1) := by decide +kernel
theorem dX0_wrongOfBlock_66 : decode cX0_wrongOfBlock 66 = .ok (.getfield 15, 3) := by decide +kernel
theorem dX0_wrongOfBlock_69 : decode cX0_wrongOfBlock 69 = .ok (.iload_n 1, 1) := by decide +kernel
theorem dX0_wrongOfBlock_70 : decode cX0_wrongOfBlock 70 = .ok (.invokevirtual 57, 3) := by decide +kernel
theorem dX0_wrongOfBlock_73 : decode cX0_wrongOfBlock 73 = .ok (.ifCond .ne 5, 3) := by decide +kernel
theorem dX0_wrongOfBlock_76 : decode cX0_wrongOfBlock 76 = .ok (.iconst 0, 1) := by decide +kernel
theorem dX0_wrongOfBlock_77 : decode cX0_wrongOfBlock 77 = .ok (.ireturn, 1) := by decide +kernel
theorem dX0_wrongOfBlock_78 : decode cX0_wrongOfBlock 78 = .ok (.iload_n 2, 1) := by decide +kernel
theorem dX0_wrongOfBlock_79 : decode cX0_wrongOfBlock 79 = .ok (.ifCond .eq 5, 3) := by decide +kernel
theorem dX0_wrongOfBlock_82 : decode cX0_wrongOfBlock 82 = .ok (.iconst 3, 1) := by decide +kernel
theorem dX0_wrongOfBlock_83 : decode cX0_wrongOfBlock 83 = .ok (.ireturn, 1) := by decide +kernel
theorem dX0_wrongOfBlock_84 : decode cX0_wrongOfBlock 84 = .ok (.aload_n 0, 1) := by decide +kernel
theorem dX0_wrongOfBlock_85 : decode cX0_wrongOfBlock 85 = .ok (.getfield 15, 3) := by decide +kernel
theorem dX0_wrongOfBlock_88 : decode cX0_wrongOfBlock 88 = .ok (.iload_n 1, 1) := by decide +kernel
theorem dX0_wrongOfBlock_89 : decode cX0_wrongOfBlock 89 = .ok (.lload 5, 2) := by decide +kernel
theorem dX0_wrongOfBlock_91 : decode cX0_wrongOfBlock 91 = .ok (.l2i, 1) := by decide +kernel
theorem dX0_wrongOfBlock_92 : decode cX0_wrongOfBlock 92 = .ok (.iadd, 1) := by decide +kernel
theorem dX0_wrongOfBlock_93 : decode cX0_wrongOfBlock 93 = .ok (.invokevirtual 68, 3) := by decide +kernel
theorem dX0_wrongOfBlock_96 : decode cX0_wrongOfBlock 96 = .ok (.lload 5, 2) := by decide +kernel
theorem dX0_wrongOfBlock_98 : decode cX0_wrongOfBlock 98 = .ok (.lcmp, 1) := by decide +kernel
theorem dX0_wrongOfBlock_99 : decode cX0_wrongOfBlock 99 = .ok (.ifCond .eq 7, 3) := by decide +kernel
theorem dX0_wrongOfBlock_102 : decode cX0_wrongOfBlock 102 = .ok (.iconst 4, 1) := by decide +kernel
theorem dX0_wrongOfBlock_103 : decode cX0_wrongOfBlock 103 = .ok (.goto 4, 3) := by decide +kernel
theorem dX0_wrongOfBlock_106 : decode cX0_wrongOfBlock 106 = .ok (.iconst 0, 1) := by decide +kernel
theorem dX0_wrongOfBlock_107 : decode cX0_wrongOfBlock 107 = .ok (.ireturn, 1) := by decide +kernel
theorem dX0_readList_0 : decode cX0_readList 0 = .ok (.iconst 0, 1) := by decide +kernel
theorem dX0_readList_1 : decode cX0_readList 1 = .ok (.istore_n 2, 1) := by decide +kernel
theorem dX0_readList_2 : decode cX0_readList 2 = .ok (.aload_n 0, 1) := by decide +kernel
theorem dX0_readList_3 : decode cX0_readList 3 = .ok (.getfield 19, 3) := by decide +kernel
theorem dX0_readList_6 : decode cX0_readList 6 = .ok (.iload_n 1, 1) := by decide +kernel
theorem dX0_readList_7 : decode cX0_readList 7 = .ok (.invokevirtual 79, 3) := by decide +kernel
theorem dX0_readList_10 : decode cX0_readList 10 = .ok (.i2l, 1) := by decide +kernel
theorem dX0_readList_11 : decode cX0_readList 11 = .ok (.lstore_n 3, 1) := by decide +kernel
theorem dX0_readList_12 : decode cX0_readList 12 = .ok (.iconst 0, 1) := by decide +kernel
theorem dX0_readList_13 : decode cX0_readList 13 = .ok (.istore 5, 2) := by decide +kernel
theorem dX0_readList_15 : decode cX0_readList 15 = .ok (.iload 5, 2) := by decide +kernel
theorem dX0_readList_17 : decode cX0_readList 17 = .ok (.sipush 512, 3) := by decide +kernel
theorem dX0_readList_20 : decode cX0_readList 20 = .ok (.if_icmp .gt 62, 3) := by decide +kernel
theorem dX0_readList_23 : decode cX0_readList 23 = .ok (.lload_n 3, 1) := by decide +kernel
theorem dX0_readList_24 : decode cX0_readList 24 = .ok (.lconst 0, 1) := by decide +kernel
theorem dX0_readList_25 : decode cX0_readList 25 = .ok (.lcmp, 1) := by decide +kernel
theorem dX0_readList_26 : decode cX0_readList 26 = .ok (.ifCond .eq 56, 3) := by decide +kernel
theorem dX0_readList_29 : decode cX0_readList 29 = .ok (.aload_n 0, 1) := by decide +kernel
theorem dX0_readList_30 : decode cX0_readList 30 = .ok (.lload_n 3, 1) := by decide +kernel
theorem dX0_readList_31 : decode cX0_readList 31 = .ok (.iload_n 2, 1) := by decide +kernel
theorem dX0_readList_32 : decode cX0_readList 32 = .ok (.iload_n 1, 1) := by decide +kernel
theorem dX0_readList_33 : decode cX0_readList 33 = .ok (.invokevirtual 84, 3) := by decide +kernel
theorem dX0_readList_36 : decode cX0_readList 36 = .ok (.ifCond .ne 20, 3) := by decide +kernel
theorem dX0_readList_39 : decode cX0_readList 39 = .ok (.aload_n 0, 1) := by decide +kernel
theorem dX0_readList_40 : decode cX0_readList 40 = .ok (.iconst 5, 1) := by decide +kernel
theorem dX0_readList_41 : decode cX0_readList 41 = .ok (.iload_n 2, 1) := by decide +kernel
theorem dX0_readList_42 : decode cX0_readList 42 = .ok (.ifCond .ne 7, 3) := by decide +kernel
theorem dX0_readList_45 : decode cX0_readList 45 = .ok (.iconst (-1), 1) := by decide +kernel
theorem dX0_readList_46 : decode cX0_readList 46 = .ok (.goto 6, 3) := by decide +kernel
theorem dX0_readList_49 : decode cX0_readList 49 = .ok (.iload_n 2, 1) := by decide +kernel
theorem dX0_readList_50 : decode cX0_readList 50 = .ok (.iconst 1, 1) := by decide +kernel
theorem dX0_readList_51 : decode cX0_readList 51 = .ok (.isub, 1) := by decide +kernel
theorem dX0_readList_52 : decode cX0_readList 52 = .ok (.invokevirtual 53, 3) := by decide +kernel
theorem dX0_readList_55 : decode cX0_readList 55 = .ok (.ireturn, 1) := by decide +kernel
theorem dX0_readList_56 : decode cX0_readList 56 = .ok (.lload_n 3, 1) := by decide +kernel
theorem dX0_readList_57 : decode cX0_readList 57 = .ok (.l2i, 1) := by decide +kernel
theorem dX0_readList_58 : decode cX0_readList 58 = .ok (.istore_n 2, 1) := by decide +kernel
theorem dX0_readList_59 : decode cX0_readList 59 = .ok (.aload_n 0, 1) := by decide +kernel
theorem dX0_readList_60 : decode cX0_readList 60 = .ok (.iload_n 2, 1) := by decide +kernel
theorem dX0_readList_61 : decode cX0_readList 61 = .ok (.iconst 1, 1) := by decide +kernel
theorem dX0_readList_62 : decode cX0_readList 62 = .ok (.isub, 1) := by decide +kernel
theorem dX0_readList_63 : decode cX0_readList 63 = .ok (.iconst 2, 1) := by decide +kernel
theorem dX0_readList_64 : decode cX0_readList 64 = .ok (.invokevirtual 61, 3) := by decide +kernel
theorem dX0_readList_67 : decode cX0_readList 67 = .ok (.aload_n 0, 1) := by decide +kernel
theorem dX0_readList_68 : decode cX0_readList 68 = .ok (.getfield 15, 3) := by decide +kernel
theorem dX0_readList_71 : decode cX0_readList 71 = .ok (.iload_n 2, 1) := by decide +kernel
theorem dX0_readList_72 : decode cX0_readList 72 = .ok (.invokevirtual 68, 3) := by decide +kernel
theorem dX0_readList_75 : decode cX0_readList 75 = .ok (.lstore_n 3, 1) := by decide +kernel
theorem dX0_readList_76 : decode cX0_readList 76 = .ok (.iinc 5 1, 3) := by decide +kernel
theorem dX0_readList_79 : decode cX0_readList 79 = .ok (.goto (-64), 3) := by decide +kernel
theorem dX0_readList_82 : decode cX0_readList 82 = .ok (.iconst 0, 1) := by decide +kernel
theorem dX0_readList_83 : decode cX0_readList 83 = .ok (.ireturn, 1) := by decide +kernel
theorem dX0_isLinked_0 : decode cX0_isLinked 0 = .ok (.lload_n 1, 1) := by decide +kernel
theorem dX0_isLinked_1 : decode cX0_isLinked 1 = .ok (.lconst 1, 1) := by decide +kernel
theorem dX0_isLinked_2 : decode cX0_isLinked 2 = .ok (.lcmp, 1) := by decide +kernel
theorem dX0_isLinked_3 : decode cX0_isLinked 3 = .ok (.ifCond .lt 16, 3) := by decide +kernel
theorem dX0_isLinked_6 : decode cX0_isLinked 6 = .ok (.lload_n 1, 1) := by decide +kernel
theorem dX0_isLinked_7 : decode cX0_isLinked 7 = .ok (.aload_n 0, 1) := by decide +kernel
theorem dX0_isLinked_8 : decode cX0_isLinked 8 = .ok (.getfield 15, 3) := by decide +kernel
theorem dX0_isLinked_11 : decode cX0_isLinked 11 = .ok (.getfield 44, 3) := by decide +kernel
theorem dX0_isLinked_14 : decode cX0_isLinked 14 = .ok (.i2l, 1) := by decide +kernel
theorem dX0_isLinked_15 : decode cX0_isLinked 15 = .ok (.lcmp, 1) := by decide +kernel
theorem dX0_isLinked_16 : decode cX0_isLinked 16 = .ok (.ifCond .lt 5, 3) := by decide +kernel
theorem dX0_isLinked_19 : decode cX0_isLinked 19 = .ok (.iconst 0, 1) := by decide +kernel
theorem dX0_isLinked_20 : decode cX0_isLinked 20 = .ok (.ireturn, 1) := by decide +kernel
theorem dX0_isLinked_21 : decode cX0_isLinked 21 = .ok (.lload_n 1, 1) := by decide +kernel
theorem dX0_isLinked_22 : decode cX0_isLinked 22 = .ok (.l2i, 1) := by decide +kernel
theorem dX0_isLinked_23 : decode cX0_isLinked 23 = .ok (.iconst 1, 1) := by decide +kernel
theorem dX0_isLinked_24 : decode cX0_isLinked 24 = .ok (.isub, 1) := by decide +kernel
theorem dX0_isLinked_25 : decode cX0_isLinked 25 = .ok (.istore 5, 2) := by decide +kernel
theorem dX0_isLinked_27 : decode cX0_isLinked 27 = .ok (.aload_n 0, 1) := by decide +kernel
theorem dX0_isLinked_28 : decode cX0_isLinked 28 = .ok (.iload 5, 2) := by decide +kernel
theorem dX0_isLinked_30 : decode cX0_isLinked 30 = .ok (.invokevirtual 88, 3) := by decide +kernel
theorem dX0_isLinked_33 : decode cX0_isLinked 33 = .ok (.iconst 1, 1) := by decide +kernel
theorem dX0_isLinked_34 : decode cX0_isLinked 34 = .ok (.if_icmp .ne 41, 3) := by decide +kernel
theorem dX0_isLinked_37 : decode cX0_isLinked 37 = .ok (.aload_n 0, 1) := by decide +kernel
theorem dX0_isLinked_38 : decode cX0_isLinked 38 = .ok (.getfield 15, 3) := by decide +kernel
theorem dX0_isLinked_41 : decode cX0_isLinked 41 = .ok (.iload 5, 2) := by decide +kernel
theorem dX0_isLinked_43 : decode cX0_isLinked 43 = .ok (.invokevirtual 91, 3) := by decide +kernel
theorem dX0_isLinked_46 : decode cX0_isLinked 46 = .ok (.invokestatic 94, 3) := by decide +kernel
theorem dX0_isLinked_49 : decode cX0_isLinked 49 = .ok (.iload 4, 2) := by decide +kernel
theorem dX0_isLinked_51 : decode cX0_isLinked 51 = .ok (.if_icmp .ne 24, 3) := by decide +kernel
theorem dX0_isLinked_54 : decode cX0_isLinked 54 = .ok (.aload_n 0, 1) := by decide +kernel
theorem dX0_isLinked_55 : decode cX0_isLinked 55 = .ok (.getfield 15, 3) := by decide +kernel
theorem dX0_isLinked_58 : decode cX0_isLinked 58 = .ok (.iload 5, 2) := by decide +kernel
theorem dX0_isLinked_60 : decode cX0_isLinked 60 = .ok (.iconst 2, 1) := by decide +kernel
theorem dX0_isLinked_61 : decode cX0_isLinked 61 = .ok (.iadd, 1) := by decide +kernel
theorem dX0_isLinked_62 : decode cX0_isLinked 62 = .ok (.invokevirtual 68, 3) := by decide +kernel
theorem dX0_isLinked_65 : decode cX0_isLinked 65 = .ok (.iload_n 3, 1) := by decide +kernel
theorem dX0_isLinked_66 : decode cX0_isLinked 66 = .ok (.i2l, 1) := by decide +kernel
theorem dX0_isLinked_67 : decode cX0_isLinked 67 = .ok (.lcmp, 1) := by decide +kernel
theorem dX0_isLinked_68 : decode cX0_isLinked 68 = .ok (.ifCond .ne 7, 3) := by decide +kernel
theorem dX0_isLinked_71 : decode cX0_isLinked 71 = .ok (.iconst 1, 1) := by decide +kernel
theorem dX0_isLinked_72 : decode cX0_isLinked 72 = .ok (.goto 4, 3) := by decide +kernel
theorem dX0_isLinked_75 : decode cX0_isLinked 75 = .ok (.iconst 0, 1) := by decide +kernel
theorem dX0_isLinked_76 : decode cX0_isLinked 76 = .ok (.ireturn, 1) := by decide +kernel
theorem dX0_seekLost_0 : decode cX0_seekLost 0 = .ok (.iconst 0, 1) := by decide +kernel
theorem dX0_seekLost_1 : decode cX0_seekLost 1 = .ok (.istore_n 1, 1) := by decide +kernel
theorem dX0_seekLost_2 : decode cX0_seekLost 2 = .ok (.iload_n 1, 1) := by decide +kernel
theorem dX0_seekLost_3 : decode cX0_seekLost 3 = .ok (.aload_n 0, 1) := by decide +kernel
theorem dX0_seekLost_4 : decode cX0_seekLost 4 = .ok (.getfield 15, 3) := by decide +kernel
theorem dX0_seekLost_7 : decode cX0_seekLost 7 = .ok (.getfield 44, 3) := by decide +kernel
theorem dX0_seekLost_10 : decode cX0_seekLost 10 = .ok (.if_icmp .ge 26, 3) := by decide +kernel
theorem dX0_seekLost_13 : decode cX0_seekLost 13 = .ok (.aload_n 0, 1) := by decide +kernel
theorem dX0_seekLost_14 : decode cX0_seekLost 14 = .ok (.iload_n 1, 1) := by decide +kernel
theorem dX0_seekLost_15 : decode cX0_seekLost 15 = .ok (.invokevirtual 88, 3) := by decide +kernel
theorem dX0_seekLost_18 : decode cX0_seekLost 18 = .ok (.iconst 1, 1) := by decide +kernel
theorem dX0_seekLost_19 : decode cX0_seekLost 19 = .ok (.if_icmp .ne 11, 3) := by decide +kernel
theorem dX0_seekLost_22 : decode cX0_seekLost 22 = .ok (.aload_n 0, 1) := by decide +kernel
theorem dX0_seekLost_23 : decode cX0_seekLost 23 = .ok (.bipush 6, 2) := by decide +kernel
theorem dX0_seekLost_25 : decode cX0_seekLost 25 = .ok (.iload_n 1, 1) := by decide +kernel
theorem dX0_seekLost_26 : decode cX0_seekLost 26 = .ok (.invokevirtual 53, 3) := by decide +kernel
theorem dX0_seekLost_29 : decode cX0_seekLost 29 = .ok (.ireturn, 1) := by decide +kernel
theorem dX0_seekLost_30 : decode cX0_seekLost 30 = .ok (.iinc 1 1, 3) := by decide +kernel
theorem dX0_seekLost_33 : decode cX0_seekLost 33 = .ok (.goto (-31), 3) := by decide +kernel
theorem dX0_seekLost_36 : decode cX0_seekLost 36 = .ok (.iconst 0, 1) := by decide +kernel
theorem dX0_seekLost_37 : decode cX0_seekLost 37 = .ok (.ireturn, 1) := by decide +kernel
theorem dX1_ofBody_0 : decode cX1_ofBody 0 = .ok (.iload_n 0, 1) := by decide +kernel
theorem dX1_ofBody_1 : decode cX1_ofBody 1 = .ok (.bipush 8, 2) := by decide +kernel
theorem dX1_ofBody_3 : decode cX1_ofBody 3 = .ok (.if_icmp .ge 5, 3) := by decide +kernel
theorem dX1_ofBody_6 : decode cX1_ofBody 6 = .ok (.iload_n 0, 1) := by decide +kernel
theorem dX1_ofBody_7 : decode cX1_ofBody 7 = .ok (.ireturn, 1) := by decide +kernel
theorem dX1_ofBody_8 : decode cX1_ofBody 8 = .ok (.iload_n 0, 1) := by decide +kernel
theorem dX1_ofBody_9 : decode cX1_ofBody 9 = .ok (.invokestatic 9, 3) := by decide +kernel
theorem dX1_ofBody_12 : decode cX1_ofBody 12 = .ok (.istore_n 1, 1) := by decide +kernel
theorem dX1_ofBody_13 : decode cX1_ofBody 13 = .ok (.bipush 8, 2) := by decide +kernel
theorem dX1_ofBody_15 : decode cX1_ofBody 15 = .ok (.iload_n 1, 1) := by decide +kernel
theorem dX1_ofBody_16 : decode cX1_ofBody 16 = .ok (.iconst 1, 1) := by decide +kernel
theorem dX1_ofBody_17 : decode cX1_ofBody 17 = .ok (.iadd, 1) := by decide +kernel
theorem dX1_ofBody_18 : decode cX1_ofBody 18 = .ok (.imul, 1) := by decide +kernel
theorem dX1_ofBody_19 : decode cX1_ofBody 19 = .ok (.iload_n 0, 1) := by decide +kernel
theorem dX1_ofBody_20 : decode cX1_ofBody 20 = .ok (.iload_n 1, 1) := by decide +kernel
theorem dX1_ofBody_21 : decode cX1_ofBody 21 = .ok (.ishr, 1) := by decide +kernel
theorem dX1_ofBody_22 : decode cX1_ofBody 22 = .ok (.iadd, 1) := by decide +kernel
theorem dX1_ofBody_23 : decode cX1_ofBody 23 = .ok (.bipush 8, 2) := by decide +kernel
theorem dX1_ofBody_25 : decode cX1_ofBody 25 = .ok (.isub, 1) := by decide +kernel
theorem dX1_ofBody_26 : decode cX1_ofBody 26 = .ok (.ireturn, 1) := by decide +kernel
theorem dX1_ofWish_0 : decode cX1_ofWish 0 = .ok (.iload_n 0, 1) := by decide +kernel
theorem dX1_ofWish_1 : decode cX1_ofWish 1 = .ok (.invokestatic 15, 3) := by decide +kernel
theorem dX1_ofWish_4 : decode cX1_ofWish 4 = .ok (.istore_n 1, 1) := by decide +kernel
theorem dX1_ofWish_5 : decode cX1_ofWish 5 = .ok (.iload_n 1, 1) := by decide +kernel
theorem dX1_ofWish_6 : decode cX1_ofWish 6 = .ok (.bipush 8, 2) := by decide +kernel
theorem dX1_ofWish_8 : decode cX1_ofWish 8 = .ok (.if_icmp .ge 8, 3) := by decide +kernel
theorem dX1_ofWish_11 : decode cX1_ofWish 11 = .ok (.iload_n 1, 1) := by decide +kernel
theorem dX1_ofWish_12 : decode cX1_ofWish 12 = .ok (.invokestatic 18, 3) := by decide +kernel
theorem dX1_ofWish_15 : decode cX1_ofWish 15 = .ok (.ireturn, 1) := by decide +kernel
theorem dX1_ofWish_16 : decode cX1_ofWish 16 = .ok (.iload_n 1, 1) := by decide +kernel
theorem dX1_ofWish_17 : decode cX1_ofWish 17 = .ok (.iconst 1, 1) := by decide +kernel
theorem dX1_ofWish_18 : decode cX1_ofWish 18 = .ok (.iload_n 1, 1) := by decide +kernel
theorem dX1_ofWish_19 : decode cX1_ofWish 19 = .ok (.invokestatic 9, 3) := by decide +kernel
theorem dX1_ofWish_22 : decode cX1_ofWish 22 = .ok (.ishl, 1) := by decide +kernel
theorem dX1_ofWish_23 : decode cX1_ofWish 23 = .ok (.iadd, 1) := by decide +kernel
theorem dX1_ofWish_24 : decode cX1_ofWish 24 = .ok (.iconst 1, 1) := by decide +kernel
theorem dX1_ofWish_25 : decode cX1_ofWish 25 = .ok (.isub, 1) := by decide +kernel
theorem dX1_ofWish_26 : decode cX1_ofWish 26 = .ok (.invokestatic 18, 3) := by decide +kernel
theorem dX1_ofWish_29 : decode cX1_ofWish 29 = .ok (.ireturn, 1) := by decide +kernel
theorem dX1_stepShift_0 : decode cX1_stepShift 0 = .ok (.bipush 28, 2) := by decide +kernel
theorem dX1_stepShift_2 : decode cX1_stepShift 2 = .ok (.iload_n 0, 1) := by decide +kernel
theorem dX1_stepShift_3 : decode cX1_stepShift 3 = .ok (.invokestatic 21, 3) := by decide +kernel
theorem dX1_stepShift_6 : decode cX1_stepShift 6 = .ok (.isub, 1) := by decide +kernel
theorem dX1_stepShift_7 : decode cX1_stepShift 7 = .ok (.ireturn, 1) := by decide +kernel
theorem dX2_init_0 : decode cX2_init 0 = .ok (.aload_n 0, 1) := by decide +kernel
theorem dX2_init_1 : decode cX2_init 1 = .ok (.invokespecial 3, 3) := by decide +kernel
theorem dX2_init_4 : decode cX2_init 4 = .ok (.aload_n 0, 1) := by decide +kernel
theorem dX2_init_5 : decode cX2_init 5 = .ok (.bipush 72, 2) := by decide +kernel
theorem dX2_init_7 : decode cX2_init 7 = .ok (.newarray .int, 2) := by decide +kernel
theorem dX2_init_9 : decode cX2_init 9 = .ok (.putfield 9, 3) := by decide +kernel
theorem dX2_init_12 : decode cX2_init 12 = .ok (.aload_n 0, 1) := by decide +kernel
theorem dX2_init_13 : decode cX2_init 13 = .ok (.aload_n 1, 1) := by decide +kernel
theorem dX2_init_14 : decode cX2_init 14 = .ok (.putfield 15, 3) := by decide +kernel
theorem dX2_init_17 : decode cX2_init 17 = .ok (.return_, 1) := by decide +kernel
theorem dX2_clear_0 : decode cX2_clear 0 = .ok (.aload_n 0, 1) := by decide +kernel
theorem dX2_clear_1 : decode cX2_clear 1 = .ok (.getfield 9, 3) := by decide +kernel
theorem dX2_clear_4 : decode cX2_clear 4 = .ok (.iconst 0, 1) := by decide +kernel
theorem dX2_clear_5 : decode cX2_clear 5 = .ok (.invokestatic 19, 3) := by decide +kernel
theorem dX2_clear_8 : decode cX2_clear 8 = .ok (.return_, 1) := by decide +kernel
theorem dX2_forgetMoves_0 : decode cX2_forgetMoves 0 = .ok (.aload_n 0, 1) := by decide +kernel
theorem dX2_forgetMoves_1 : decode cX2_forgetMoves 1 = .ok (.iconst 0, 1) := by decide +kernel
theorem dX2_forgetMoves_2 : decode cX2_forgetMoves 2 = .ok (.putfield 25, 3) := by decide +kernel
theorem dX2_forgetMoves_5 : decode cX2_forgetMoves 5 = .ok (.return_, 1) := by decide +kernel
theorem dX2_firstOf_0 : decode cX2_firstOf 0 = .ok (.iload_n 1, 1) := by decide +kernel
theorem dX2_firstOf_1 : decode cX2_firstOf 1 = .ok (.ifCond .lt 18, 3) := by decide +kernel
theorem dX2_firstOf_4 : decode cX2_firstOf 4 = .ok (.iload_n 1, 1) := by decide +kernel
theorem dX2_firstOf_5 : decode cX2_firstOf 5 = .ok (.bipush 72, 2) := by decide +kernel
theorem dX2_firstOf_7 : decode cX2_firstOf 7 = .ok (.if_icmp .ge 12, 3) := by decide +kernel
theorem dX2_firstOf_10 : decode cX2_firstOf 10 = .ok (.aload_n 0, 1) := by decide +kernel
theorem dX2_firstOf_11 : decode cX2_firstOf 11 = .ok (.getfield 9, 3) := by decide +kernel
theorem dX2_firstOf_14 : decode cX2_firstOf 14 = .ok (.iload_n 1, 1) := by decide +kernel
theorem dX2_firstOf_15 : decode cX2_firstOf 15 = .ok (.iaload, 1) := by decide +kernel
theorem dX2_firstOf_16 : decode cX2_firstOf 16 = .ok (.goto 4, 3) := by decide +kernel
theorem dX2_firstOf_19 : decode cX2_firstOf 19 = .ok (.iconst 0, 1) := by decide +kernel
theorem dX2_firstOf_20 : decode cX2_firstOf 20 = .ok (.ireturn, 1) := by decide +kernel
theorem dX2_layFirst_0 : decode cX2_layFirst 0 = .ok (.iload_n 1, 1) := by decide +kernel
theorem dX2_layFirst_1 : decode cX2_layFirst 1 = .ok (.ifCond .lt 16, 3) := by decide +kernel
theorem dX2_layFirst_4 : decode cX2_layFirst 4 = .ok (.iload_n 1, 1) := by decide +kernel
theorem dX2_layFirst_5 : decode cX2_layFirst 5 = .ok (.bipush 72, 2) := by decide +kernel
theorem dX2_layFirst_7 : decode cX2_layFirst 7 = .ok (.if_icmp .ge 10, 3) := by decide +kernel
theorem dX2_layFirst_10 : decode cX2_layFirst 10 = .ok (.aload_n 0, 1) := by decide +kernel
theorem dX2_layFirst_11 : decode cX2_layFirst 11 = .ok (.getfield 9, 3) := by decide +kernel
theorem dX2_layFirst_14 : decode cX2_layFirst 14 = .ok (.iload_n 1, 1) := by decide +kernel
theorem dX2_layFirst_15 : decode cX2_layFirst 15 = .ok (.iload_n 2, 1) := by decide +kernel
theorem dX2_layFirst_16 : decode cX2_layFirst 16 = .ok (.iastore, 1) := by decide +kernel
theorem dX2_layFirst_17 : decode cX2_layFirst 17 = .ok (.return_, 1) := by decide +kernel
theorem dX2_come_0 : decode cX2_come 0 = .ok (.aload_n 0, 1) := by decide +kernel
theorem dX2_come_1 : decode cX2_come 1 = .ok (.getfield 15, 3) := by decide +kernel
theorem dX2_come_4 : decode cX2_come 4 = .ok (.iload_n 1, 1) := by decide +kernel
theorem dX2_come_5 : decode cX2_come 5 = .ok (.invokevirtual 29, 3) := by decide +kernel
theorem dX2_come_8 : decode cX2_come 8 = .ok (.invokestatic 35, 3) := by decide +kernel
theorem dX2_come_11 : decode cX2_come 11 = .ok (.istore_n 2, 1) := by decide +kernel
theorem dX2_come_12 : decode cX2_come 12 = .ok (.iload_n 1, 1) := by decide +kernel
theorem dX2_come_13 : decode cX2_come 13 = .ok (.iconst 1, 1) := by decide +kernel
theorem dX2_come_14 : decode cX2_come 14 = .ok (.iadd, 1) := by decide +kernel
theorem dX2_come_15 : decode cX2_come 15 = .ok (.istore_n 3, 1) := by decide +kernel
theorem dX2_come_16 : decode cX2_come 16 = .ok (.aload_n 0, 1) := by decide +kernel
theorem dX2_come_17 : decode cX2_come 17 = .ok (.iload_n 2, 1) := by decide +kernel
theorem dX2_come_18 : decode cX2_come 18 = .ok (.invokevirtual 40, 3) := by decide +kernel
theorem dX2_come_21 : decode cX2_come 21 = .ok (.istore 4, 2) := by decide +kernel
theorem dX2_come_23 : decode cX2_come 23 = .ok (.aload_n 0, 1) := by decide +kernel
theorem dX2_come_24 : decode cX2_come 24 = .ok (.getfield 15, 3) := by decide +kernel
theorem dX2_come_27 : decode cX2_come 27 = .ok (.iload_n 3, 1) := by decide +kernel
theorem dX2_come_28 : decode cX2_come 28 = .ok (.iload 4, 2) := by decide +kernel
theorem dX2_come_30 : decode cX2_come 30 = .ok (.i2l, 1) := by decide +kernel
theorem dX2_come_31 : decode cX2_come 31 = .ok (.invokevirtual 43, 3) := by decide +kernel
theorem dX2_come_34 : decode cX2_come 34 = .ok (.aload_n 0, 1) := by decide +kernel
theorem dX2_come_35 : decode cX2_come 35 = .ok (.getfield 15, 3) := by decide +kernel
theorem dX2_come_38 : decode cX2_come 38 = .ok (.iload_n 3, 1) := by decide +kernel
theorem dX2_come_39 : decode cX2_come 39 = .ok (.iconst 1, 1) := by decide +kernel
theorem dX2_come_40 : decode cX2_come 40 = .ok (.iadd, 1) := by decide +kernel
theorem dX2_come_41 : decode cX2_come 41 = .ok (.lconst 0, 1) := by decide +kernel
theorem dX2_come_42 : decode cX2_come 42 = .ok (.invokevirtual 43, 3) := by decide +kernel
theorem dX2_come_45 : decode cX2_come 45 = .ok (.iload 4, 2) := by decide +kernel
theorem dX2_come_47 : decode cX2_come 47 = .ok (.ifCond .eq 16, 3) := by decide +kernel
theorem dX2_come_50 : decode cX2_come 50 = .ok (.aload_n 0, 1) := by decide +kernel
theorem dX2_come_51 : decode cX2_come 51 = .ok (.getfield 15, 3) := by decide +kernel
theorem dX2_come_54 : decode cX2_come 54 = .ok (.iload 4, 2) := by decide +kernel
theorem dX2_come_56 : decode cX2_come 56 = .ok (.iconst 1, 1) := by decide +kernel
theorem dX2_come_57 : decode cX2_come 57 = .ok (.iadd, 1) := by decide +kernel
theorem dX2_come_58 : decode cX2_come 58 = .ok (.iload_n 3, 1) := by decide +kernel
theorem dX2_come_59 : decode cX2_come 59 = .ok (.i2l, 1) := by decide +kernel
theorem dX2_come_60 : decode cX2_come 60 = .ok (.invokevirtual 43, 3) := by decide +kernel
theorem dX2_come_63 : decode cX2_come 63 = .ok (.aload_n 0, 1) := by decide +kernel
theorem dX2_come_64 : decode cX2_come 64 = .ok (.iload_n 2, 1) := by decide +kernel
theorem dX2_come_65 : decode cX2_come 65 = .ok (.iload_n 3, 1) := by decide +kernel
theorem dX2_come_66 : decode cX2_come 66 = .ok (.invokevirtual 47, 3) := by decide +kernel
theorem dX2_come_69 : decode cX2_come 69 = .ok (.aload_n 0, 1) := by decide +kernel
theorem dX2_come_70 : decode cX2_come 70 = .ok (.dup, 1) := by decide +kernel
theorem dX2_come_71 : decode cX2_come 71 = .ok (.getfield 25, 3) := by decide +kernel
theorem dX2_come_74 : decode cX2_come 74 = .ok (.iconst 1, 1) := by decide +kernel
theorem dX2_come_75 : decode cX2_come 75 = .ok (.iadd, 1) := by decide +kernel
theorem dX2_come_76 : decode cX2_come 76 = .ok (.putfield 25, 3) := by decide +kernel
theorem dX2_come_79 : decode cX2_come 79 = .ok (.return_, 1) := by decide +kernel
theorem dX2_leave_0 : decode cX2_leave 0 = .ok (.iload_n 1, 1) := by decide +kernel
theorem dX2_leave_1 : decode cX2_leave 1 = .ok (.iconst 1, 1) := by decide +kernel
theorem dX2_leave_2 : decode cX2_leave 2 = .ok (.iadd, 1) := by decide +kernel
theorem dX2_leave_3 : decode cX2_leave 3 = .ok (.istore_n 2, 1) := by decide +kernel
theorem dX2_leave_4 : decode cX2_leave 4 = .ok (.aload_n 0, 1) := by decide +kernel
theorem dX2_leave_5 : decode cX2_leave 5 = .ok (.getfield 15, 3) := by decide +kernel
theorem dX2_leave_8 : decode cX2_leave 8 = .ok (.iload_n 2, 1) := by decide +kernel
theorem dX2_leave_9 : decode cX2_leave 9 = .ok (.invokevirtual 51, 3) := by decide +kernel
theorem dX2_leave_12 : decode cX2_leave 12 = .ok (.l2i, 1) := by decide +kernel
theorem dX2_leave_13 : decode cX2_leave 13 = .ok (.istore_n 3, 1) := by decide +kernel
theorem dX2_leave_14 : decode cX2_leave 14 = .ok (.aload_n 0, 1) := by decide +kernel
theorem dX2_leave_15 : decode cX2_leave 15 = .ok (.getfield 15, 3) := by decide +kernel
theorem dX2_leave_18 : decode cX2_leave 18 = .ok (.iload_n 2, 1) := by decide +kernel
theorem dX2_leave_19 : decode cX2_leave 19 = .ok (.iconst 1, 1) := by decide +kernel
theorem dX2_leave_20 : decode cX2_leave 20 = .ok (.iadd, 1) := by decide +kernel
theorem dX2_leave_21 : decode cX2_leave 21 = .ok (.invokevirtual 51, 3) := by decide +kernel
theorem dX2_leave_24 : decode cX2_leave 24 = .ok (.l2i, 1) := by decide +kernel
theorem dX2_leave_25 : decode cX2_leave 25 = .ok (.istore 4, 2) := by decide +kernel
theorem dX2_leave_27 : decode cX2_leave 27 = .ok (.iload_n 3, 1) := by decide +kernel
theorem dX2_leave_28 : decode cX2_leave 28 = .ok (.ifCond .eq 16, 3) := by decide +kernel
theorem dX2_leave_31 : decode cX2_leave 31 = .ok (.aload_n 0, 1) := by decide +kernel
theorem dX2_leave_32 : decode cX2_leave 32 = .ok (.getfield 15, 3) := by decide +kernel
theorem dX2_leave_35 : decode cX2_leave 35 = .ok (.iload_n 3, 1) := by decide +kernel
theorem dX2_leave_36 : decode cX2_leave 36 = .ok (.iconst 1, 1) := by decide +kernel
theorem dX2_leave_37 : decode cX2_leave 37 = .ok (.iadd, 1) := by decide +kernel
theorem dX2_leave_38 : decode cX2_leave 38 = .ok (.iload 4, 2) := by decide +kernel
theorem dX2_leave_40 : decode cX2_leave 40 = .ok (.i2l, 1) := by decide +kernel
theorem dX2_leave_41 : decode cX2_leave 41 = .ok (.invokevirtual 43, 3) := by decide +kernel
theorem dX2_leave_44 : decode cX2_leave 44 = .ok (.iload 4, 2) := by decide +kernel
theorem dX2_leave_46 : decode cX2_leave 46 = .ok (.ifCond .eq 17, 3) := by decide +kernel
theorem dX2_leave_49 : decode cX2_leave 49 = .ok (.aload_n 0, 1) := by decide +kernel
theorem dX2_leave_50 : decode cX2_leave 50 = .ok (.getfield 15, 3) := by decide +kernel
theorem dX2_leave_53 : decode cX2_leave 53 = .ok (.iload 4, 2) := by decide +kernel
theorem dX2_leave_55 : decode cX2_leave 55 = .ok (.iload_n 3, 1) := by decide +kernel
theorem dX2_leave_56 : decode cX2_leave 56 = .ok (.i2l, 1) := by decide +kernel
theorem dX2_leave_57 : decode cX2_leave 57 = .ok (.invokevirtual 43, 3) := by decide +kernel
theorem dX2_leave_60 : decode cX2_leave 60 = .ok (.goto 19, 3) := by decide +kernel
theorem dX2_leave_63 : decode cX2_leave 63 = .ok (.aload_n 0, 1) := by decide +kernel
theorem dX2_leave_64 : decode cX2_leave 64 = .ok (.aload_n 0, 1) := by decide +kernel
theorem dX2_leave_65 : decode cX2_leave 65 = .ok (.getfield 15, 3) := by decide +kernel
theorem dX2_leave_68 : decode cX2_leave 68 = .ok (.iload_n 1, 1) := by decide +kernel
theorem dX2_leave_69 : decode cX2_leave 69 = .ok (.invokevirtual 29, 3) := by decide +kernel
theorem dX2_leave_72 : decode cX2_leave 72 = .ok (.invokestatic 35, 3) := by decide +kernel
theorem dX2_leave_75 : decode cX2_leave 75 = .ok (.iload_n 3, 1) := by decide +kernel
theorem dX2_leave_76 : decode cX2_leave 76 = .ok (.invokevirtual 47, 3) := by decide +kernel
theorem dX2_leave_79 : decode cX2_leave 79 = .ok (.aload_n 0, 1) := by decide +kernel
theorem dX2_leave_80 : decode cX2_leave 80 = .ok (.dup, 1) := by decide +kernel
theorem dX2_leave_81 : decode cX2_leave 81 = .ok (.getfield 25, 3) := by decide +kernel
theorem dX2_leave_84 : decode cX2_leave 84 = .ok (.iconst 1, 1) := by decide +kernel
theorem dX2_leave_85 : decode cX2_leave 85 = .ok (.iadd, 1) := by decide +kernel
theorem dX2_leave_86 : decode cX2_leave 86 = .ok (.putfield 25, 3) := by decide +kernel
theorem dX2_leave_89 : decode cX2_leave 89 = .ok (.return_, 1) := by decide +kernel
theorem dX2_headerFor_0 : decode cX2_headerFor 0 = .ok (.iload_n 1, 1) := by decide +kernel
theorem dX2_headerFor_1 : decode cX2_headerFor 1 = .ok (.invokestatic 55, 3) := by decide +kernel
theorem dX2_headerFor_4 : decode cX2_headerFor 4 = .ok (.istore_n 2, 1) := by decide +kernel
theorem dX2_headerFor_5 : decode cX2_headerFor 5 = .ok (.iload_n 2, 1) := by decide +kernel
theorem dX2_headerFor_6 : decode cX2_headerFor 6 = .ok (.bipush 72, 2) := by decide +kernel
theorem dX2_headerFor_8 : decode cX2_headerFor 8 = .ok (.if_icmp .ge 25, 3) := by decide +kernel
theorem dX2_headerFor_11 : decode cX2_headerFor 11 = .ok (.aload_n 0, 1) := by decide +kernel
theorem dX2_headerFor_12 : decode cX2_headerFor 12 = .ok (.iload_n 2, 1) := by decide +kernel
theorem dX2_headerFor_13 : decode cX2_headerFor 13 = .ok (.invokevirtual 40, 3) := by decide +kernel
theorem dX2_headerFor_16 : decode cX2_headerFor 16 = .ok (.ifCond .eq 11, 3) := by decide +kernel
theorem dX2_headerFor_19 : decode cX2_headerFor 19 = .ok (.aload_n 0, 1) := by decide +kernel
theorem dX2_headerFor_20 : decode cX2_headerFor 20 = .ok (.iload_n 2, 1) := by decide +kernel
theorem dX2_headerFor_21 : decode cX2_headerFor 21 = .ok (.invokevirtual 40, 3) := by decide +kernel
theorem dX2_headerFor_24 : decode cX2_headerFor 24 = .ok (.iconst 1, 1) := by decide +kernel
theorem dX2_headerFor_25 : decode cX2_headerFor 25 = .ok (.isub, 1) := by decide +kernel
theorem dX2_headerFor_26 : decode cX2_headerFor 26 = .ok (.ireturn, 1) := by decide +kernel
theorem dX2_headerFor_27 : decode cX2_headerFor 27 = .ok (.iinc 2 1, 3) := by decide +kernel
theorem dX2_headerFor_30 : decode cX2_headerFor 30 = .ok (.goto (-25), 3) := by decide +kernel
theorem dX2_headerFor_33 : decode cX2_headerFor 33 = .ok (.iconst (-1), 1) := by decide +kernel
theorem dX2_headerFor_34 : decode cX2_headerFor 34 = .ok (.ireturn, 1) := by decide +kernel
theorem dX2_placeInList_0 : decode cX2_placeInList 0 = .ok (.aload_n 0, 1) := by decide +kernel
theorem dX2_placeInList_1 : decode cX2_placeInList 1 = .ok (.iload_n 1, 1) := by decide +kernel
theorem dX2_placeInList_2 : decode cX2_placeInList 2 = .ok (.invokevirtual 40, 3) := by decide +kernel
theorem dX2_placeInList_5 : decode cX2_placeInList 5 = .ok (.istore_n 3, 1) := by decide +kernel
theorem dX2_placeInList_6 : decode cX2_placeInList 6 = .ok (.iconst 0, 1) := by decide +kernel
theorem dX2_placeInList_7 : decode cX2_placeInList 7 = .ok (.istore 4, 2) := by decide +kernel
theorem dX2_placeInList_9 : decode cX2_placeInList 9 = .ok (.iload 4, 2) := by decide +kernel
theorem dX2_placeInList_11 : decode cX2_placeInList 11 = .ok (.sipush 512, 3) := by decide +kernel
theorem dX2_placeInList_14 : decode cX2_placeInList 14 = .ok (.if_icmp .ge 29, 3) := by decide +kernel
theorem dX2_placeInList_17 : decode cX2_placeInList 17 = .ok (.iload 4, 2) := by decide +kernel
theorem dX2_placeInList_19 : decode cX2_placeInList 19 = .ok (.iload_n 2, 1) := by decide +kernel
theorem dX2_placeInList_20 : decode cX2_placeInList 20 = .ok (.if_icmp .ge 23, 3) := by decide +kernel
theorem dX2_placeInList_23 : decode cX2_placeInList 23 = .ok (.iload_n 3, 1) := by decide +kernel
theorem dX2_placeInList_24 : decode cX2_placeInList 24 = .ok (.ifCond .eq 19, 3) := by decide +kernel
theorem dX2_placeInList_27 : decode cX2_placeInList 27 = .ok (.aload_n 0, 1) := by decide +kernel
theorem dX2_placeInList_28 : decode cX2_placeInList 28 = .ok (.getfield 15, 3) := by decide +kernel
theorem dX2_placeInList_31 : decode cX2_placeInList 31 = .ok (.iload_n 3, 1) := by decide +kernel
theorem dX2_placeInList_32 : decode cX2_placeInList 32 = .ok (.invokevirtual 51, 3) := by decide +kernel
theorem dX2_placeInList_35 : decode cX2_placeInList 35 = .ok (.l2i, 1) := by decide +kernel
theorem dX2_placeInList_36 : decode cX2_placeInList 36 = .ok (.istore_n 3, 1) := by decide +kernel
theorem dX2_placeInList_37 : decode cX2_placeInList 37 = .ok (.iinc 4 1, 3) := by decide +kernel
theorem dX2_placeInList_40 : decode cX2_placeInList 40 = .ok (.goto (-31), 3) := by decide +kernel
theorem dX2_placeInList_43 : decode cX2_placeInList 43 = .ok (.iload_n 2, 1) := by decide +kernel
theorem dX2_placeInList_44 : decode cX2_placeInList 44 = .ok (.sipush 512, 3) := by decide +kernel
theorem dX2_placeInList_47 : decode cX2_placeInList 47 = .ok (.if_icmp .ge 11, 3) := by decide +kernel
theorem dX2_placeInList_50 : decode cX2_placeInList 50 = .ok (.iload_n 3, 1) := by decide +kernel
theorem dX2_placeInList_51 : decode cX2_placeInList 51 = .ok (.ifCond .eq 7, 3) := by decide +kernel
theorem dX2_placeInList_54 : decode cX2_placeInList 54 = .ok (.iload_n 3, 1) := by decide +kernel
theorem dX2_placeInList_55 : decode cX2_placeInList 55 = .ok (.goto 4, 3) := by decide +kernel
theorem dX2_placeInList_58 : decode cX2_placeInList 58 = .ok (.iconst (-1), 1) := by decide +kernel
theorem dX2_placeInList_59 : decode cX2_placeInList 59 = .ok (.ireturn, 1) := by decide +kernel
theorem dX2_stepBits_0 : decode cX2_stepBits 0 = .ok (.iconst 0, 1) := by decide +kernel
theorem dX2_stepBits_1 : decode cX2_stepBits 1 = .ok (.istore_n 2, 1) := by decide +kernel
theorem dX2_stepBits_2 : decode cX2_stepBits 2 = .ok (.iconst 0, 1) := by decide +kernel
theorem dX2_stepBits_3 : decode cX2_stepBits 3 = .ok (.istore_n 3, 1) := by decide +kernel
theorem dX2_stepBits_4 : decode cX2_stepBits 4 = .ok (.iload_n 3, 1) := by decide +kernel
theorem dX2_stepBits_5 : decode cX2_stepBits 5 = .ok (.bipush 8, 2) := by decide +kernel
theorem dX2_stepBits_7 : decode cX2_stepBits 7 = .ok (.if_icmp .ge 28, 3) := by decide +kernel
theorem dX2_stepBits_10 : decode cX2_stepBits 10 = .ok (.aload_n 0, 1) := by decide +kernel
theorem dX2_stepBits_11 : decode cX2_stepBits 11 = .ok (.bipush 8, 2) := by decide +kernel
theorem dX2_stepBits_13 : decode cX2_stepBits 13 = .ok (.iload_n 1, 1) := by decide +kernel
theorem dX2_stepBits_14 : decode cX2_stepBits 14 = .ok (.imul, 1) := by decide +kernel
theorem dX2_stepBits_15 : decode cX2_stepBits 15 = .ok (.iload_n 3, 1) := by decide +kernel
theorem dX2_stepBits_16 : decode cX2_stepBits 16 = .ok (.iadd, 1) := by decide +kernel
theorem dX2_stepBits_17 : decode cX2_stepBits 17 = .ok (.invokevirtual 40, 3) := by decide +kernel
theorem dX2_stepBits_20 : decode cX2_stepBits 20 = .ok (.ifCond .eq 9, 3) := by decide +kernel
theorem dX2_stepBits_23 : decode cX2_stepBits 23 = .ok (.iload_n 2, 1) := by decide +kernel
theorem dX2_stepBits_24 : decode cX2_stepBits 24 = .ok (.iconst 1, 1) := by decide +kernel
theorem dX2_stepBits_25 : decode cX2_stepBits 25 = .ok (.iload_n 3, 1) := by decide +kernel
theorem dX2_stepBits_26 : decode cX2_stepBits 26 = .ok (.ishl, 1) := by decide +kernel
theorem dX2_stepBits_27 : decode cX2_stepBits 27 = .ok (.ior, 1) := by decide +kernel
theorem dX2_stepBits_28 : decode cX2_stepBits 28 = .ok (.istore_n 2, 1) := by decide +kernel
theorem dX2_stepBits_29 : decode cX2_stepBits 29 = .ok (.iinc 3 1, 3) := by decide +kernel
theorem dX2_stepBits_32 : decode cX2_stepBits 32 = .ok (.goto (-28), 3) := by decide +kernel
theorem dX2_stepBits_35 : decode cX2_stepBits 35 = .ok (.iload_n 2, 1) := by decide +kernel
theorem dX2_stepBits_36 : decode cX2_stepBits 36 = .ok (.ireturn, 1) := by decide +kernel
theorem dX2_levelBits_0 : decode cX2_levelBits 0 = .ok (.iconst 0, 1) := by decide +kernel
theorem dX2_levelBits_1 : decode cX2_levelBits 1 = .ok (.istore_n 1, 1) := by decide +kernel
theorem dX2_levelBits_2 : decode cX2_levelBits 2 = .ok (.iconst 0, 1) := by decide +kernel
theorem dX2_levelBits_3 : decode cX2_levelBits 3 = .ok (.istore_n 2, 1) := by decide +kernel
theorem dX2_levelBits_4 : decode cX2_levelBits 4 = .ok (.iload_n 2, 1) := by decide +kernel
theorem dX2_levelBits_5 : decode cX2_levelBits 5 = .ok (.bipush 9, 2) := by decide +kernel
theorem dX2_levelBits_7 : decode cX2_levelBits 7 = .ok (.if_icmp .ge 23, 3) := by decide +kernel
theorem dX2_levelBits_10 : decode cX2_levelBits 10 = .ok (.aload_n 0, 1) := by decide +kernel
theorem dX2_levelBits_11 : decode cX2_levelBits 11 = .ok (.iload_n 2, 1) := by decide +kernel
theorem dX2_levelBits_12 : decode cX2_levelBits 12 = .ok (.invokevirtual 58, 3) := by decide +kernel
theorem dX2_levelBits_15 : decode cX2_levelBits 15 = .ok (.ifCond .eq 9, 3) := by decide +kernel
theorem dX2_levelBits_18 : decode cX2_levelBits 18 = .ok (.iload_n 1, 1) := by decide +kernel
theorem dX2_levelBits_19 : decode cX2_levelBits 19 = .ok (.iconst 1, 1) := by decide +kernel
theorem dX2_levelBits_20 : decode cX2_levelBits 20 = .ok (.iload_n 2, 1) := by decide +kernel
theorem dX2_levelBits_21 : decode cX2_levelBits 21 = .ok (.ishl, 1) := by decide +kernel
theorem dX2_levelBits_22 : decode cX2_levelBits 22 = .ok (.ior, 1) := by decide +kernel
theorem dX2_levelBits_23 : decode cX2_levelBits 23 = .ok (.istore_n 1, 1) := by decide +kernel
theorem dX2_levelBits_24 : decode cX2_levelBits 24 = .ok (.iinc 2 1, 3) := by decide +kernel
theorem dX2_levelBits_27 : decode cX2_levelBits 27 = .ok (.goto (-23), 3) := by decide +kernel
theorem dX2_levelBits_30 : decode cX2_levelBits 30 = .ok (.iload_n 1, 1) := by decide +kernel
theorem dX2_levelBits_31 : decode cX2_levelBits 31 = .ok (.ireturn, 1) := by decide +kernel
theorem dX3_init_0 : decode cX3_init 0 = .ok (.aload_n 0, 1) := by decide +kernel
theorem dX3_init_1 : decode cX3_init 1 = .ok (.invokespecial 3, 3) := by decide +kernel
theorem dX3_init_4 : decode cX3_init 4 = .ok (.aload_n 0, 1) := by decide +kernel
theorem dX3_init_5 : decode cX3_init 5 = .ok (.sipush 2048, 3) := by decide +kernel
theorem dX3_init_8 : decode cX3_init 8 = .ok (.newarray .long, 2) := by decide +kernel
theorem dX3_init_10 : decode cX3_init 10 = .ok (.putfield 9, 3) := by decide +kernel
theorem dX3_init_13 : decode cX3_init 13 = .ok (.return_, 1) := by decide +kernel
theorem dX3_clear_0 : decode cX3_clear 0 = .ok (.aload_n 0, 1) := by decide +kernel
theorem dX3_clear_1 : decode cX3_clear 1 = .ok (.getfield 9, 3) := by decide +kernel
theorem dX3_clear_4 : decode cX3_clear 4 = .ok (.lconst 0, 1) := by decide +kernel
theorem dX3_clear_5 : decode cX3_clear 5 = .ok (.invokestatic 15, 3) := by decide +kernel
theorem dX3_clear_8 : decode cX3_clear 8 = .ok (.aload_n 0, 1) := by decide +kernel
theorem dX3_clear_9 : decode cX3_clear 9 = .ok (.iload_n 1, 1) := by decide +kernel
theorem dX3_clear_10 : decode cX3_clear 10 = .ok (.putfield 21, 3) := by decide +kernel
theorem dX3_clear_13 : decode cX3_clear 13 = .ok (.return_, 1) := by decide +kernel
theorem dX3_has_0 : decode cX3_has 0 = .ok (.iload_n 1, 1) := by decide +kernel
theorem dX3_has_1 : decode cX3_has 1 = .ok (.ifCond .lt 15, 3) := by decide +kernel
theorem dX3_has_4 : decode cX3_has 4 = .ok (.iload_n 1, 1) := by decide +kernel
theorem dX3_has_5 : decode cX3_has 5 = .ok (.aload_n 0, 1) := by decide +kernel
theorem dX3_has_6 : decode cX3_has 6 = .ok (.getfield 21, 3) := by decide +kernel
theorem dX3_has_9 : decode cX3_has 9 = .ok (.if_icmp .ge 7, 3) := by decide +kernel
theorem dX3_has_12 : decode cX3_has 12 = .ok (.iconst 1, 1) := by decide +kernel
theorem dX3_has_13 : decode cX3_has 13 = .ok (.goto 4, 3) := by decide +kernel
theorem dX3_has_16 : decode cX3_has 16 = .ok (.iconst 0, 1) := by decide +kernel
theorem dX3_has_17 : decode cX3_has 17 = .ok (.ireturn, 1) := by decide +kernel
theorem dX3_at_0 : decode cX3_at 0 = .ok (.iload_n 1, 1) := by decide +kernel
theorem dX3_at_1 : decode cX3_at 1 = .ok (.ifCond .lt 20, 3) := by decide +kernel
theorem dX3_at_4 : decode cX3_at 4 = .ok (.iload_n 1, 1) := by decide +kernel
theorem dX3_at_5 : decode cX3_at 5 = .ok (.aload_n 0, 1) := by decide +kernel
theorem dX3_at_6 : decode cX3_at 6 = .ok (.getfield 21, 3) := by decide +kernel
theorem dX3_at_9 : decode cX3_at 9 = .ok (.if_icmp .ge 12, 3) := by decide +kernel
theorem dX3_at_12 : decode cX3_at 12 = .ok (.aload_n 0, 1) := by decide +kernel
theorem dX3_at_13 : decode cX3_at 13 = .ok (.getfield 9, 3) := by decide +kernel
theorem dX3_at_16 : decode cX3_at 16 = .ok (.iload_n 1, 1) := by decide +kernel
theorem dX3_at_17 : decode cX3_at 17 = .ok (.laload, 1) := by decide +kernel
theorem dX3_at_18 : decode cX3_at 18 = .ok (.goto 4, 3) := by decide +kernel
theorem dX3_at_21 : decode cX3_at 21 = .ok (.lconst 0, 1) := by decide +kernel
theorem dX3_at_22 : decode cX3_at 22 = .ok (.lreturn, 1) := by decide +kernel
theorem dX3_lay_0 : decode cX3_lay 0 = .ok (.iload_n 1, 1) := by decide +kernel
theorem dX3_lay_1 : decode cX3_lay 1 = .ok (.ifCond .lt 18, 3) := by decide +kernel
theorem dX3_lay_4 : decode cX3_lay 4 = .ok (.iload_n 1, 1) := by decide +kernel
theorem dX3_lay_5 : decode cX3_lay 5 = .ok (.aload_n 0, 1) := by decide +kernel
theorem dX3_lay_6 : decode cX3_lay 6 = .ok (.getfield 21, 3) := by decide +kernel
theorem dX3_lay_9 : decode cX3_lay 9 = .ok (.if_icmp .ge 10, 3) := by decide +kernel
theorem dX3_lay_12 : decode cX3_lay 12 = .ok (.aload_n 0, 1) := by decide +kernel
theorem dX3_lay_13 : decode cX3_lay 13 = .ok (.getfield 9, 3) := by decide +kernel
theorem dX3_lay_16 : decode cX3_lay 16 = .ok (.iload_n 1, 1) := by decide +kernel
theorem dX3_lay_17 : decode cX3_lay 17 = .ok (.lload_n 2, 1) := by decide +kernel
theorem dX3_lay_18 : decode cX3_lay 18 = .ok (.lastore, 1) := by decide +kernel
theorem dX3_lay_19 : decode cX3_lay 19 = .ok (.return_, 1) := by decide +kernel
theorem dX3_bodyOf_0 : decode cX3_bodyOf 0 = .ok (.aload_n 0, 1) := by decide +kernel
theorem dX3_bodyOf_1 : decode cX3_bodyOf 1 = .ok (.iload_n 1, 1) := by decide +kernel
theorem dX3_bodyOf_2 : decode cX3_bodyOf 2 = .ok (.invokevirtual 25, 3) := by decide +kernel
theorem dX3_bodyOf_5 : decode cX3_bodyOf 5 = .ok (.ldc2_w 29, 3) := by decide +kernel
theorem dX3_bodyOf_8 : decode cX3_bodyOf 8 = .ok (.ldiv, 1) := by decide +kernel
theorem dX3_bodyOf_9 : decode cX3_bodyOf 9 = .ok (.l2i, 1) := by decide +kernel
theorem dX3_bodyOf_10 : decode cX3_bodyOf 10 = .ok (.ireturn, 1) := by decide +kernel
theorem dX3_isFree_0 : decode cX3_isFree 0 = .ok (.aload_n 0, 1) := by decide +kernel
theorem dX3_isFree_1 : decode cX3_isFree 1 = .ok (.iload_n 1, 1) := by decide +kernel
theorem dX3_isFree_2 : decode cX3_isFree 2 = .ok (.invokevirtual 25, 3) := by decide +kernel
theorem dX3_isFree_5 : decode cX3_isFree 5 = .ok (.lconst 1, 1) := by decide +kernel
theorem dX3_isFree_6 : decode cX3_isFree 6 = .ok (.land, 1) := by decide +kernel
theorem dX3_isFree_7 : decode cX3_isFree 7 = .ok (.lconst 0, 1) := by decide +kernel
theorem dX3_isFree_8 : decode cX3_isFree 8 = .ok (.lcmp, 1) := by decide +kernel
theorem dX3_isFree_9 : decode cX3_isFree 9 = .ok (.ifCond .eq 7, 3) := by decide +kernel
theorem dX3_isFree_12 : decode cX3_isFree 12 = .ok (.iconst 1, 1) := by decide +kernel
theorem dX3_isFree_13 : decode cX3_isFree 13 = .ok (.goto 4, 3) := by decide +kernel
theorem dX3_isFree_16 : decode cX3_isFree 16 = .ok (.iconst 0, 1) := by decide +kernel
theorem dX3_isFree_17 : decode cX3_isFree 17 = .ok (.ireturn, 1) := by decide +kernel
theorem dX3_isAheadFree_0 : decode cX3_isAheadFree 0 = .ok (.aload_n 0, 1) := by decide +kernel
theorem dX3_isAheadFree_1 : decode cX3_isAheadFree 1 = .ok (.iload_n 1, 1) := by decide +kernel
theorem dX3_isAheadFree_2 : decode cX3_isAheadFree 2 = .ok (.invokevirtual 25, 3) := by decide +kernel
theorem dX3_isAheadFree_5 : decode cX3_isAheadFree 5 = .ok (.ldc2_w 31, 3) := by decide +kernel
theorem dX3_isAheadFree_8 : decode cX3_isAheadFree 8 = .ok (.land, 1) := by decide +kernel
theorem dX3_isAheadFree_9 : decode cX3_isAheadFree 9 = .ok (.lconst 0, 1) := by decide +kernel
theorem dX3_isAheadFree_10 : decode cX3_isAheadFree 10 = .ok (.lcmp, 1) := by decide +kernel
theorem dX3_isAheadFree_11 : decode cX3_isAheadFree 11 = .ok (.ifCond .eq 7, 3) := by decide +kernel
theorem dX3_isAheadFree_14 : decode cX3_isAheadFree 14 = .ok (.iconst 1, 1) := by decide +kernel
theorem dX3_isAheadFree_15 : decode cX3_isAheadFree 15 = .ok (.goto 4, 3) := by decide +kernel
theorem dX3_isAheadFree_18 : decode cX3_isAheadFree 18 = .ok (.iconst 0, 1) := by decide +kernel
theorem dX3_isAheadFree_19 : decode cX3_isAheadFree 19 = .ok (.ireturn, 1) := by decide +kernel
theorem dX3_behind_0 : decode cX3_behind 0 = .ok (.iload_n 1, 1) := by decide +kernel
theorem dX3_behind_1 : decode cX3_behind 1 = .ok (.iconst 1, 1) := by decide +kernel
theorem dX3_behind_2 : decode cX3_behind 2 = .ok (.iadd, 1) := by decide +kernel
theorem dX3_behind_3 : decode cX3_behind 3 = .ok (.aload_n 0, 1) := by decide +kernel
theorem dX3_behind_4 : decode cX3_behind 4 = .ok (.iload_n 1, 1) := by decide +kernel
theorem dX3_behind_5 : decode cX3_behind 5 = .ok (.invokevirtual 25, 3) := by decide +kernel
theorem dX3_behind_8 : decode cX3_behind 8 = .ok (.ldc2_w 29, 3) := by decide +kernel
theorem dX3_behind_11 : decode cX3_behind 11 = .ok (.ldiv, 1) := by decide +kernel
theorem dX3_behind_12 : decode cX3_behind 12 = .ok (.l2i, 1) := by decide +kernel
theorem dX3_behind_13 : decode cX3_behind 13 = .ok (.iadd, 1) := by decide +kernel
theorem dX3_behind_14 : decode cX3_behind 14 = .ok (.ireturn, 1) := by decide +kernel
theorem dX3_freeAhead_0 : decode cX3_freeAhead 0 = .ok (.iload_n 1, 1) := by decide +kernel
theorem dX3_freeAhead_1 : decode cX3_freeAhead 1 = .ok (.iconst 1, 1) := by decide +kernel
theorem dX3_freeAhead_2 : decode cX3_freeAhead 2 = .ok (.isub, 1) := by decide +kernel
theorem dX3_freeAhead_3 : decode cX3_freeAhead 3 = .ok (.aload_n 0, 1) := by decide +kernel
theorem dX3_freeAhead_4 : decode cX3_freeAhead 4 = .ok (.iload_n 1, 1) := by decide +kernel
theorem dX3_freeAhead_5 : decode cX3_freeAhead 5 = .ok (.iconst 1, 1) := by decide +kernel
theorem dX3_freeAhead_6 : decode cX3_freeAhead 6 = .ok (.isub, 1) := by decide +kernel
theorem dX3_freeAhead_7 : decode cX3_freeAhead 7 = .ok (.invokevirtual 25, 3) := by decide +kernel
theorem dX3_freeAhead_10 : decode cX3_freeAhead 10 = .ok (.l2i, 1) := by decide +kernel
theorem dX3_freeAhead_11 : decode cX3_freeAhead 11 = .ok (.isub, 1) := by decide +kernel
theorem dX3_freeAhead_12 : decode cX3_freeAhead 12 = .ok (.ireturn, 1) := by decide +kernel
theorem dX3_layHeader_0 : decode cX3_layHeader 0 = .ok (.aload_n 0, 1) := by decide +kernel
theorem dX3_layHeader_1 : decode cX3_layHeader 1 = .ok (.iload_n 1, 1) := by decide +kernel
theorem dX3_layHeader_2 : decode cX3_layHeader 2 = .ok (.iload_n 2, 1) := by decide +kernel
theorem dX3_layHeader_3 : decode cX3_layHeader 3 = .ok (.i2l, 1) := by decide +kernel
theorem dX3_layHeader_4 : decode cX3_layHeader 4 = .ok (.ldc2_w 29, 3) := by decide +kernel
theorem dX3_layHeader_7 : decode cX3_layHeader 7 = .ok (.lmul, 1) := by decide +kernel
theorem dX3_layHeader_8 : decode cX3_layHeader 8 = .ok (.iload_n 3, 1) := by decide +kernel
theorem dX3_layHeader_9 : decode cX3_layHeader 9 = .ok (.i2l, 1) := by decide +kernel
theorem dX3_layHeader_10 : decode cX3_layHeader 10 = .ok (.ladd, 1) := by decide +kernel
theorem dX3_layHeader_11 : decode cX3_layHeader 11 = .ok (.invokevirtual 33, 3) := by decide +kernel
theorem dX3_layHeader_14 : decode cX3_layHeader 14 = .ok (.return_, 1) := by decide +kernel
theorem dX3_layBody_0 : decode cX3_layBody 0 = .ok (.aload_n 0, 1) := by decide +kernel
theorem dX3_layBody_1 : decode cX3_layBody 1 = .ok (.iload_n 1, 1) := by decide +kernel
theorem dX3_layBody_2 : decode cX3_layBody 2 = .ok (.iload_n 2, 1) := by decide +kernel
theorem dX3_layBody_3 : decode cX3_layBody 3 = .ok (.aload_n 0, 1) := by decide +kernel
theorem dX3_layBody_4 : decode cX3_layBody 4 = .ok (.iload_n 1, 1) := by decide +kernel
theorem dX3_layBody_5 : decode cX3_layBody 5 = .ok (.invokevirtual 25, 3) := by decide +kernel
theorem dX3_layBody_8 : decode cX3_layBody 8 = .ok (.ldc2_w 37, 3) := by decide +kernel
theorem dX3_layBody_11 : decode cX3_layBody 11 = .ok (.land, 1) := by decide +kernel
theorem dX3_layBody_12 : decode cX3_layBody 12 = .ok (.l2i, 1) := by decide +kernel
theorem dX3_layBody_13 : decode cX3_layBody 13 = .ok (.invokevirtual 39, 3) := by decide +kernel
theorem dX3_layBody_16 : decode cX3_layBody 16 = .ok (.return_, 1) := by decide +kernel
theorem dX3_tellBehind_0 : decode cX3_tellBehind 0 = .ok (.aload_n 0, 1) := by decide +kernel
theorem dX3_tellBehind_1 : decode cX3_tellBehind 1 = .ok (.iload_n 1, 1) := by decide +kernel
theorem dX3_tellBehind_2 : decode cX3_tellBehind 2 = .ok (.invokevirtual 43, 3) := by decide +kernel
theorem dX3_tellBehind_5 : decode cX3_tellBehind 5 = .ok (.istore_n 2, 1) := by decide +kernel
theorem dX3_tellBehind_6 : decode cX3_tellBehind 6 = .ok (.aload_n 0, 1) := by decide +kernel
theorem dX3_tellBehind_7 : decode cX3_tellBehind 7 = .ok (.iload_n 2, 1) := by decide +kernel
theorem dX3_tellBehind_8 : decode cX3_tellBehind 8 = .ok (.invokevirtual 25, 3) := by decide +kernel
theorem dX3_tellBehind_11 : decode cX3_tellBehind 11 = .ok (.ldc2_w 47, 3) := by decide +kernel
theorem dX3_tellBehind_14 : decode cX3_tellBehind 14 = .ok (.land, 1) := by decide +kernel
theorem dX3_tellBehind_15 : decode cX3_tellBehind 15 = .ok (.lstore_n 3, 1) := by decide +kernel
theorem dX3_tellBehind_16 : decode cX3_tellBehind 16 = .ok (.aload_n 0, 1) := by decide +kernel
theorem dX3_tellBehind_17 : decode cX3_tellBehind 17 = .ok (.iload_n 2, 1) := by decide +kernel
theorem dX3_tellBehind_18 : decode cX3_tellBehind 18 = .ok (.aload_n 0, 1) := by decide +kernel
theorem dX3_tellBehind_19 : decode cX3_tellBehind 19 = .ok (.iload_n 1, 1) := by decide +kernel
theorem dX3_tellBehind_20 : decode cX3_tellBehind 20 = .ok (.invokevirtual 49, 3) := by decide +kernel
theorem dX3_tellBehind_23 : decode cX3_tellBehind 23 = .ok (.ifCond .eq 11, 3) := by decide +kernel
theorem dX3_tellBehind_26 : decode cX3_tellBehind 26 = .ok (.lload_n 3, 1) := by decide +kernel
theorem dX3_tellBehind_27 : decode cX3_tellBehind 27 = .ok (.ldc2_w 31, 3) := by decide +kernel
theorem dX3_tellBehind_30 : decode cX3_tellBehind 30 = .ok (.ladd, 1) := by decide +kernel
theorem dX3_tellBehind_31 : decode cX3_tellBehind 31 = .ok (.goto 4, 3) := by decide +kernel
theorem dX3_tellBehind_34 : decode cX3_tellBehind 34 = .ok (.lload_n 3, 1) := by decide +kernel
theorem dX3_tellBehind_35 : decode cX3_tellBehind 35 = .ok (.invokevirtual 33, 3) := by decide +kernel
theorem dX3_tellBehind_38 : decode cX3_tellBehind 38 = .ok (.return_, 1) := by decide +kernel
theorem dJ6_numberOfLeadingZeros_0f7a4_0 : decode cJ6_numberOfLeadingZeros_0f7a4 0 = .ok (.iload_n 0, 1) := by decide +kernel
theorem dJ6_numberOfLeadingZeros_0f7a4_1 : decode cJ6_numberOfLeadingZeros_0f7a4 1 = .ok (.ifCond .gt 14, 3) := by decide +kernel
theorem dJ6_numberOfLeadingZeros_0f7a4_4 : decode cJ6_numberOfLeadingZeros_0f7a4 4 = .ok (.iload_n 0, 1) := by decide +kernel
theorem dJ6_numberOfLeadingZeros_0f7a4_5 : decode cJ6_numberOfLeadingZeros_0f7a4 5 = .ok (.ifCond .ne 8, 3) := by decide +kernel
theorem dJ6_numberOfLeadingZeros_0f7a4_8 : decode cJ6_numberOfLeadingZeros_0f7a4 8 = .ok (.bipush 32, 2) := by decide +kernel
theorem dJ6_numberOfLeadingZeros_0f7a4_10 : decode cJ6_numberOfLeadingZeros_0f7a4 10 = .ok (.goto 4, 3) := by decide +kernel
theorem dJ6_numberOfLeadingZeros_0f7a4_13 : decode cJ6_numberOfLeadingZeros_0f7a4 13 = .ok (.iconst 0, 1) := by decide +kernel
theorem dJ6_numberOfLeadingZeros_0f7a4_14 : decode cJ6_numberOfLeadingZeros_0f7a4 14 = .ok (.ireturn, 1) := by decide +kernel
theorem dJ6_numberOfLeadingZeros_0f7a4_15 : decode cJ6_numberOfLeadingZeros_0f7a4 15 = .ok (.bipush 31, 2) := by decide +kernel
theorem dJ6_numberOfLeadingZeros_0f7a4_17 : decode cJ6_numberOfLeadingZeros_0f7a4 17 = .ok (.istore_n 1, 1) := by decide +kernel
theorem dJ6_numberOfLeadingZeros_0f7a4_18 : decode cJ6_numberOfLeadingZeros_0f7a4 18 = .ok (.iload_n 0, 1) := by decide +kernel
theorem dJ6_numberOfLeadingZeros_0f7a4_19 : decode cJ6_numberOfLeadingZeros_0f7a4 19 = .ok (.ldc_w 264, 3) := by decide +kernel
theorem dJ6_numberOfLeadingZeros_0f7a4_22 : decode cJ6_numberOfLeadingZeros_0f7a4 22 = .ok (.if_icmp .lt 11, 3) := by decide +kernel
theorem dJ6_numberOfLeadingZeros_0f7a4_25 : decode cJ6_numberOfLeadingZeros_0f7a4 25 = .ok (.iinc 1 (-16), 3) := by decide +kernel
theorem dJ6_numberOfLeadingZeros_0f7a4_28 : decode cJ6_numberOfLeadingZeros_0f7a4 28 = .ok (.iload_n 0, 1) := by decide +kernel
theorem dJ6_numberOfLeadingZeros_0f7a4_29 : decode cJ6_numberOfLeadingZeros_0f7a4 29 = .ok (.bipush 16, 2) := by decide +kernel
theorem dJ6_numberOfLeadingZeros_0f7a4_31 : decode cJ6_numberOfLeadingZeros_0f7a4 31 = .ok (.iushr, 1) := by decide +kernel
theorem dJ6_numberOfLeadingZeros_0f7a4_32 : decode cJ6_numberOfLeadingZeros_0f7a4 32 = .ok (.istore_n 0, 1) := by decide +kernel
theorem dJ6_numberOfLeadingZeros_0f7a4_33 : decode cJ6_numberOfLeadingZeros_0f7a4 33 = .ok (.iload_n 0, 1) := by decide +kernel
theorem dJ6_numberOfLeadingZeros_0f7a4_34 : decode cJ6_numberOfLeadingZeros_0f7a4 34 = .ok (.sipush 256, 3) := by decide +kernel
theorem dJ6_numberOfLeadingZeros_0f7a4_37 : decode cJ6_numberOfLeadingZeros_0f7a4 37 = .ok (.if_icmp .lt 11, 3) := by decide +kernel
theorem dJ6_numberOfLeadingZeros_0f7a4_40 : decode cJ6_numberOfLeadingZeros_0f7a4 40 = .ok (.iinc 1 (-8), 3) := by decide +kernel
theorem dJ6_numberOfLeadingZeros_0f7a4_43 : decode cJ6_numberOfLeadingZeros_0f7a4 43 = .ok (.iload_n 0, 1) := by decide +kernel
theorem dJ6_numberOfLeadingZeros_0f7a4_44 : decode cJ6_numberOfLeadingZeros_0f7a4 44 = .ok (.bipush 8, 2) := by decide +kernel
theorem dJ6_numberOfLeadingZeros_0f7a4_46 : decode cJ6_numberOfLeadingZeros_0f7a4 46 = .ok (.iushr, 1) := by decide +kernel
theorem dJ6_numberOfLeadingZeros_0f7a4_47 : decode cJ6_numberOfLeadingZeros_0f7a4 47 = .ok (.istore_n 0, 1) := by decide +kernel
theorem dJ6_numberOfLeadingZeros_0f7a4_48 : decode cJ6_numberOfLeadingZeros_0f7a4 48 = .ok (.iload_n 0, 1) := by decide +kernel
theorem dJ6_numberOfLeadingZeros_0f7a4_49 : decode cJ6_numberOfLeadingZeros_0f7a4 49 = .ok (.bipush 16, 2) := by decide +kernel
theorem dJ6_numberOfLeadingZeros_0f7a4_51 : decode cJ6_numberOfLeadingZeros_0f7a4 51 = .ok (.if_icmp .lt 10, 3) := by decide +kernel
theorem dJ6_numberOfLeadingZeros_0f7a4_54 : decode cJ6_numberOfLeadingZeros_0f7a4 54 = .ok (.iinc 1 (-4), 3) := by decide +kernel
theorem dJ6_numberOfLeadingZeros_0f7a4_57 : decode cJ6_numberOfLeadingZeros_0f7a4 57 = .ok (.iload_n 0, 1) := by decide +kernel
theorem dJ6_numberOfLeadingZeros_0f7a4_58 : decode cJ6_numberOfLeadingZeros_0f7a4 58 = .ok (.iconst 4, 1) := by decide +kernel
theorem dJ6_numberOfLeadingZeros_0f7a4_59 : decode cJ6_numberOfLeadingZeros_0f7a4 59 = .ok (.iushr, 1) := by decide +kernel
theorem dJ6_numberOfLeadingZeros_0f7a4_60 : decode cJ6_numberOfLeadingZeros_0f7a4 60 = .ok (.istore_n 0, 1) := by decide +kernel
theorem dJ6_numberOfLeadingZeros_0f7a4_61 : decode cJ6_numberOfLeadingZeros_0f7a4 61 = .ok (.iload_n 0, 1) := by decide +kernel
theorem dJ6_numberOfLeadingZeros_0f7a4_62 : decode cJ6_numberOfLeadingZeros_0f7a4 62 = .ok (.iconst 4, 1) := by decide +kernel
theorem dJ6_numberOfLeadingZeros_0f7a4_63 : decode cJ6_numberOfLeadingZeros_0f7a4 63 = .ok (.if_icmp .lt 10, 3) := by decide +kernel
theorem dJ6_numberOfLeadingZeros_0f7a4_66 : decode cJ6_numberOfLeadingZeros_0f7a4 66 = .ok (.iinc 1 (-2), 3) := by decide +kernel
theorem dJ6_numberOfLeadingZeros_0f7a4_69 : decode cJ6_numberOfLeadingZeros_0f7a4 69 = .ok (.iload_n 0, 1) := by decide +kernel
theorem dJ6_numberOfLeadingZeros_0f7a4_70 : decode cJ6_numberOfLeadingZeros_0f7a4 70 = .ok (.iconst 2, 1) := by decide +kernel
theorem dJ6_numberOfLeadingZeros_0f7a4_71 : decode cJ6_numberOfLeadingZeros_0f7a4 71 = .ok (.iushr, 1) := by decide +kernel
theorem dJ6_numberOfLeadingZeros_0f7a4_72 : decode cJ6_numberOfLeadingZeros_0f7a4 72 = .ok (.istore_n 0, 1) := by decide +kernel
theorem dJ6_numberOfLeadingZeros_0f7a4_73 : decode cJ6_numberOfLeadingZeros_0f7a4 73 = .ok (.iload_n 1, 1) := by decide +kernel
theorem dJ6_numberOfLeadingZeros_0f7a4_74 : decode cJ6_numberOfLeadingZeros_0f7a4 74 = .ok (.iload_n 0, 1) := by decide +kernel
theorem dJ6_numberOfLeadingZeros_0f7a4_75 : decode cJ6_numberOfLeadingZeros_0f7a4 75 = .ok (.iconst 1, 1) := by decide +kernel
theorem dJ6_numberOfLeadingZeros_0f7a4_76 : decode cJ6_numberOfLeadingZeros_0f7a4 76 = .ok (.iushr, 1) := by decide +kernel
theorem dJ6_numberOfLeadingZeros_0f7a4_77 : decode cJ6_numberOfLeadingZeros_0f7a4 77 = .ok (.isub, 1) := by decide +kernel
theorem dJ6_numberOfLeadingZeros_0f7a4_78 : decode cJ6_numberOfLeadingZeros_0f7a4 78 = .ok (.ireturn, 1) := by decide +kernel
theorem dJ7_fill_d0a16_0 : decode cJ7_fill_d0a16 0 = .ok (.iconst 0, 1) := by decide +kernel
theorem dJ7_fill_d0a16_1 : decode cJ7_fill_d0a16 1 = .ok (.istore_n 3, 1) := by decide +kernel
theorem dJ7_fill_d0a16_2 : decode cJ7_fill_d0a16 2 = .ok (.aload_n 0, 1) := by decide +kernel
theorem dJ7_fill_d0a16_3 : decode cJ7_fill_d0a16 3 = .ok (.arraylength, 1) := by decide +kernel
theorem dJ7_fill_d0a16_4 : decode cJ7_fill_d0a16 4 = .ok (.istore 4, 2) := by decide +kernel
theorem dJ7_fill_d0a16_6 : decode cJ7_fill_d0a16 6 = .ok (.iload_n 3, 1) := by decide +kernel
theorem dJ7_fill_d0a16_7 : decode cJ7_fill_d0a16 7 = .ok (.iload 4, 2) := by decide +kernel
theorem dJ7_fill_d0a16_9 : decode cJ7_fill_d0a16 9 = .ok (.if_icmp .ge 13, 3) := by decide +kernel
theorem dJ7_fill_d0a16_12 : decode cJ7_fill_d0a16 12 = .ok (.aload_n 0, 1) := by decide +kernel
theorem dJ7_fill_d0a16_13 : decode cJ7_fill_d0a16 13 = .ok (.iload_n 3, 1) := by decide +kernel
theorem dJ7_fill_d0a16_14 : decode cJ7_fill_d0a16 14 = .ok (.lload_n 1, 1) := by decide +kernel
theorem dJ7_fill_d0a16_15 : decode cJ7_fill_d0a16 15 = .ok (.lastore, 1) := by decide +kernel
theorem dJ7_fill_d0a16_16 : decode cJ7_fill_d0a16 16 = .ok (.iinc 3 1, 3) := by decide +kernel
theorem dJ7_fill_d0a16_19 : decode cJ7_fill_d0a16 19 = .ok (.goto (-13), 3) := by decide +kernel
theorem dJ7_fill_d0a16_22 : decode cJ7_fill_d0a16 22 = .ok (.return_, 1) := by decide +kernel
theorem dJ7_fill_53178_0 : decode cJ7_fill_53178 0 = .ok (.iconst 0, 1) := by decide +kernel
theorem dJ7_fill_53178_1 : decode cJ7_fill_53178 1 = .ok (.istore_n 2, 1) := by decide +kernel
theorem dJ7_fill_53178_2 : decode cJ7_fill_53178 2 = .ok (.aload_n 0, 1) := by decide +kernel
theorem dJ7_fill_53178_3 : decode cJ7_fill_53178 3 = .ok (.arraylength, 1) := by decide +kernel
theorem dJ7_fill_53178_4 : decode cJ7_fill_53178 4 = .ok (.istore_n 3, 1) := by decide +kernel
theorem dJ7_fill_53178_5 : decode cJ7_fill_53178 5 = .ok (.iload_n 2, 1) := by decide +kernel
theorem dJ7_fill_53178_6 : decode cJ7_fill_53178 6 = .ok (.iload_n 3, 1) := by decide +kernel
theorem dJ7_fill_53178_7 : decode cJ7_fill_53178 7 = .ok (.if_icmp .ge 13, 3) := by decide +kernel
theorem dJ7_fill_53178_10 : decode cJ7_fill_53178 10 = .ok (.aload_n 0, 1) := by decide +kernel
theorem dJ7_fill_53178_11 : decode cJ7_fill_53178 11 = .ok (.iload_n 2, 1) := by decide +kernel
theorem dJ7_fill_53178_12 : decode cJ7_fill_53178 12 = .ok (.iload_n 1, 1) := by decide +kernel
theorem dJ7_fill_53178_13 : decode cJ7_fill_53178 13 = .ok (.iastore, 1) := by decide +kernel
theorem dJ7_fill_53178_14 : decode cJ7_fill_53178 14 = .ok (.iinc 2 1, 3) := by decide +kernel
theorem dJ7_fill_53178_17 : decode cJ7_fill_53178 17 = .ok (.goto (-12), 3) := by decide +kernel
theorem dJ7_fill_53178_20 : decode cJ7_fill_53178 20 = .ok (.return_, 1) := by decide +kernel
theorem dJ9_max_7cf53_0 : decode cJ9_max_7cf53 0 = .ok (.iload_n 0, 1) := by decide +kernel
theorem dJ9_max_7cf53_1 : decode cJ9_max_7cf53 1 = .ok (.iload_n 1, 1) := by decide +kernel
theorem dJ9_max_7cf53_2 : decode cJ9_max_7cf53 2 = .ok (.if_icmp .lt 7, 3) := by decide +kernel
theorem dJ9_max_7cf53_5 : decode cJ9_max_7cf53 5 = .ok (.iload_n 0, 1) := by decide +kernel
theorem dJ9_max_7cf53_6 : decode cJ9_max_7cf53 6 = .ok (.goto 4, 3) := by decide +kernel
theorem dJ9_max_7cf53_9 : decode cJ9_max_7cf53 9 = .ok (.iload_n 1, 1) := by decide +kernel
theorem dJ9_max_7cf53_10 : decode cJ9_max_7cf53 10 = .ok (.ireturn, 1) := by decide +kernel
theorem dJ9_min_7cf53_0 : decode cJ9_min_7cf53 0 = .ok (.iload_n 0, 1) := by decide +kernel
theorem dJ9_min_7cf53_1 : decode cJ9_min_7cf53 1 = .ok (.iload_n 1, 1) := by decide +kernel
theorem dJ9_min_7cf53_2 : decode cJ9_min_7cf53 2 = .ok (.if_icmp .gt 7, 3) := by decide +kernel
theorem dJ9_min_7cf53_5 : decode cJ9_min_7cf53 5 = .ok (.iload_n 0, 1) := by decide +kernel
theorem dJ9_min_7cf53_6 : decode cJ9_min_7cf53 6 = .ok (.goto 4, 3) := by decide +kernel
theorem dJ9_min_7cf53_9 : decode cJ9_min_7cf53 9 = .ok (.iload_n 1, 1) := by decide +kernel
theorem dJ9_min_7cf53_10 : decode cJ9_min_7cf53 10 = .ok (.ireturn, 1) := by decide +kernel
