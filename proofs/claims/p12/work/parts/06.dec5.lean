theorem dX5_init_0 : decode cX5_init 0 = .ok (.aload_n 0, 1) := by decide +kernel
theorem dX5_init_1 : decode cX5_init 1 = .ok (.invokespecial 1, 3) := by decide +kernel
theorem dX5_init_4 : decode cX5_init 4 = .ok (.aload_n 0, 1) := by decide +kernel
theorem dX5_init_5 : decode cX5_init 5 = .ok (.sipush 2048, 3) := by decide +kernel
theorem dX5_init_8 : decode cX5_init 8 = .ok (.newarray .long, 2) := by decide +kernel
theorem dX5_init_10 : decode cX5_init 10 = .ok (.putfield 7, 3) := by decide +kernel
theorem dX5_init_13 : decode cX5_init 13 = .ok (.aload_n 0, 1) := by decide +kernel
theorem dX5_init_14 : decode cX5_init 14 = .ok (.bipush 72, 2) := by decide +kernel
theorem dX5_init_16 : decode cX5_init 16 = .ok (.newarray .int, 2) := by decide +kernel
theorem dX5_init_18 : decode cX5_init 18 = .ok (.putfield 13, 3) := by decide +kernel
theorem dX5_init_21 : decode cX5_init 21 = .ok (.aload_n 0, 1) := by decide +kernel
theorem dX5_init_22 : decode cX5_init 22 = .ok (.iconst (-1), 1) := by decide +kernel
theorem dX5_init_23 : decode cX5_init 23 = .ok (.putfield 17, 3) := by decide +kernel
theorem dX5_init_26 : decode cX5_init 26 = .ok (.aload_n 0, 1) := by decide +kernel
theorem dX5_init_27 : decode cX5_init 27 = .ok (.sipush 2049, 3) := by decide +kernel
theorem dX5_init_30 : decode cX5_init 30 = .ok (.newarray .boolean, 2) := by decide +kernel
theorem dX5_init_32 : decode cX5_init 32 = .ok (.putfield 21, 3) := by decide +kernel
theorem dX5_init_35 : decode cX5_init 35 = .ok (.aload_n 0, 1) := by decide +kernel
theorem dX5_init_36 : decode cX5_init 36 = .ok (.sipush 2049, 3) := by decide +kernel
theorem dX5_init_39 : decode cX5_init 39 = .ok (.newarray .boolean, 2) := by decide +kernel
theorem dX5_init_41 : decode cX5_init 41 = .ok (.putfield 25, 3) := by decide +kernel
theorem dX5_init_44 : decode cX5_init 44 = .ok (.aload_n 0, 1) := by decide +kernel
theorem dX5_init_45 : decode cX5_init 45 = .ok (.bipush 64, 2) := by decide +kernel
theorem dX5_init_47 : decode cX5_init 47 = .ok (.invokevirtual 28, 3) := by decide +kernel
theorem dX5_init_50 : decode cX5_init 50 = .ok (.return_, 1) := by decide +kernel
theorem dX5_in_0 : decode cX5_in 0 = .ok (.lload_n 0, 1) := by decide +kernel
theorem dX5_in_1 : decode cX5_in 1 = .ok (.lload_n 2, 1) := by decide +kernel
theorem dX5_in_2 : decode cX5_in 2 = .ok (.lcmp, 1) := by decide +kernel
theorem dX5_in_3 : decode cX5_in 3 = .ok (.ifCond .lt 14, 3) := by decide +kernel
theorem dX5_in_6 : decode cX5_in 6 = .ok (.lload_n 0, 1) := by decide +kernel
theorem dX5_in_7 : decode cX5_in 7 = .ok (.lload 4, 2) := by decide +kernel
theorem dX5_in_9 : decode cX5_in 9 = .ok (.lcmp, 1) := by decide +kernel
theorem dX5_in_10 : decode cX5_in 10 = .ok (.ifCond .gt 7, 3) := by decide +kernel
theorem dX5_in_13 : decode cX5_in 13 = .ok (.iconst 1, 1) := by decide +kernel
theorem dX5_in_14 : decode cX5_in 14 = .ok (.goto 4, 3) := by decide +kernel
theorem dX5_in_17 : decode cX5_in 17 = .ok (.iconst 0, 1) := by decide +kernel
theorem dX5_in_18 : decode cX5_in 18 = .ok (.ireturn, 1) := by decide +kernel
theorem dX5_lay_0 : decode cX5_lay 0 = .ok (.iconst 0, 1) := by decide +kernel
theorem dX5_lay_1 : decode cX5_lay 1 = .ok (.istore_n 2, 1) := by decide +kernel
theorem dX5_lay_2 : decode cX5_lay 2 = .ok (.iload_n 2, 1) := by decide +kernel
theorem dX5_lay_3 : decode cX5_lay 3 = .ok (.sipush 2048, 3) := by decide +kernel
theorem dX5_lay_6 : decode cX5_lay 6 = .ok (.if_icmp .ge 16, 3) := by decide +kernel
theorem dX5_lay_9 : decode cX5_lay 9 = .ok (.aload_n 0, 1) := by decide +kernel
theorem dX5_lay_10 : decode cX5_lay 10 = .ok (.getfield 7, 3) := by decide +kernel
theorem dX5_lay_13 : decode cX5_lay 13 = .ok (.iload_n 2, 1) := by decide +kernel
theorem dX5_lay_14 : decode cX5_lay 14 = .ok (.lconst 0, 1) := by decide +kernel
theorem dX5_lay_15 : decode cX5_lay 15 = .ok (.lastore, 1) := by decide +kernel
theorem dX5_lay_16 : decode cX5_lay 16 = .ok (.iinc 2 1, 3) := by decide +kernel
theorem dX5_lay_19 : decode cX5_lay 19 = .ok (.goto (-17), 3) := by decide +kernel
theorem dX5_lay_22 : decode cX5_lay 22 = .ok (.iconst 0, 1) := by decide +kernel
theorem dX5_lay_23 : decode cX5_lay 23 = .ok (.istore_n 2, 1) := by decide +kernel
theorem dX5_lay_24 : decode cX5_lay 24 = .ok (.iload_n 2, 1) := by decide +kernel
theorem dX5_lay_25 : decode cX5_lay 25 = .ok (.bipush 72, 2) := by decide +kernel
theorem dX5_lay_27 : decode cX5_lay 27 = .ok (.if_icmp .ge 16, 3) := by decide +kernel
theorem dX5_lay_30 : decode cX5_lay 30 = .ok (.aload_n 0, 1) := by decide +kernel
theorem dX5_lay_31 : decode cX5_lay 31 = .ok (.getfield 13, 3) := by decide +kernel
theorem dX5_lay_34 : decode cX5_lay 34 = .ok (.iload_n 2, 1) := by decide +kernel
theorem dX5_lay_35 : decode cX5_lay 35 = .ok (.iconst 0, 1) := by decide +kernel
theorem dX5_lay_36 : decode cX5_lay 36 = .ok (.iastore, 1) := by decide +kernel
theorem dX5_lay_37 : decode cX5_lay 37 = .ok (.iinc 2 1, 3) := by decide +kernel
theorem dX5_lay_40 : decode cX5_lay 40 = .ok (.goto (-16), 3) := by decide +kernel
theorem dX5_lay_43 : decode cX5_lay 43 = .ok (.aload_n 0, 1) := by decide +kernel
theorem dX5_lay_44 : decode cX5_lay 44 = .ok (.iload_n 1, 1) := by decide +kernel
theorem dX5_lay_45 : decode cX5_lay 45 = .ok (.putfield 32, 3) := by decide +kernel
theorem dX5_lay_48 : decode cX5_lay 48 = .ok (.aload_n 0, 1) := by decide +kernel
theorem dX5_lay_49 : decode cX5_lay 49 = .ok (.iconst 0, 1) := by decide +kernel
theorem dX5_lay_50 : decode cX5_lay 50 = .ok (.putfield 35, 3) := by decide +kernel
theorem dX5_lay_53 : decode cX5_lay 53 = .ok (.aload_n 0, 1) := by decide +kernel
theorem dX5_lay_54 : decode cX5_lay 54 = .ok (.iconst 0, 1) := by decide +kernel
theorem dX5_lay_55 : decode cX5_lay 55 = .ok (.putfield 39, 3) := by decide +kernel
theorem dX5_lay_58 : decode cX5_lay 58 = .ok (.aload_n 0, 1) := by decide +kernel
theorem dX5_lay_59 : decode cX5_lay 59 = .ok (.iconst (-1), 1) := by decide +kernel
theorem dX5_lay_60 : decode cX5_lay 60 = .ok (.putfield 17, 3) := by decide +kernel
theorem dX5_lay_63 : decode cX5_lay 63 = .ok (.aload_n 0, 1) := by decide +kernel
theorem dX5_lay_64 : decode cX5_lay 64 = .ok (.iconst 1, 1) := by decide +kernel
theorem dX5_lay_65 : decode cX5_lay 65 = .ok (.iload_n 1, 1) := by decide +kernel
theorem dX5_lay_66 : decode cX5_lay 66 = .ok (.iconst 1, 1) := by decide +kernel
theorem dX5_lay_67 : decode cX5_lay 67 = .ok (.isub, 1) := by decide +kernel
theorem dX5_lay_68 : decode cX5_lay 68 = .ok (.lconst 0, 1) := by decide +kernel
theorem dX5_lay_69 : decode cX5_lay 69 = .ok (.invokevirtual 42, 3) := by decide +kernel
theorem dX5_lay_72 : decode cX5_lay 72 = .ok (.aload_n 0, 1) := by decide +kernel
theorem dX5_lay_73 : decode cX5_lay 73 = .ok (.iconst 0, 1) := by decide +kernel
theorem dX5_lay_74 : decode cX5_lay 74 = .ok (.putfield 46, 3) := by decide +kernel
theorem dX5_lay_77 : decode cX5_lay 77 = .ok (.return_, 1) := by decide +kernel
theorem dX5_open_0 : decode cX5_open 0 = .ok (.iload_n 1, 1) := by decide +kernel
theorem dX5_open_1 : decode cX5_open 1 = .ok (.i2l, 1) := by decide +kernel
theorem dX5_open_2 : decode cX5_open 2 = .ok (.ldc2_w 49, 3) := by decide +kernel
theorem dX5_open_5 : decode cX5_open 5 = .ok (.ldc2_w 51, 3) := by decide +kernel
theorem dX5_open_8 : decode cX5_open 8 = .ok (.invokestatic 53, 3) := by decide +kernel
theorem dX5_open_11 : decode cX5_open 11 = .ok (.ifCond .ne 6, 3) := by decide +kernel
theorem dX5_open_14 : decode cX5_open 14 = .ok (.bipush (-2), 2) := by decide +kernel
theorem dX5_open_16 : decode cX5_open 16 = .ok (.ireturn, 1) := by decide +kernel
theorem dX5_open_17 : decode cX5_open 17 = .ok (.aload_n 0, 1) := by decide +kernel
theorem dX5_open_18 : decode cX5_open 18 = .ok (.iload_n 1, 1) := by decide +kernel
theorem dX5_open_19 : decode cX5_open 19 = .ok (.invokevirtual 28, 3) := by decide +kernel
theorem dX5_open_22 : decode cX5_open 22 = .ok (.iconst 1, 1) := by decide +kernel
theorem dX5_open_23 : decode cX5_open 23 = .ok (.ireturn, 1) := by decide +kernel
theorem dX5_classIn_0 : decode cX5_classIn 0 = .ok (.iload_n 0, 1) := by decide +kernel
theorem dX5_classIn_1 : decode cX5_classIn 1 = .ok (.bipush 8, 2) := by decide +kernel
theorem dX5_classIn_3 : decode cX5_classIn 3 = .ok (.if_icmp .ge 5, 3) := by decide +kernel
theorem dX5_classIn_6 : decode cX5_classIn 6 = .ok (.iload_n 0, 1) := by decide +kernel
theorem dX5_classIn_7 : decode cX5_classIn 7 = .ok (.ireturn, 1) := by decide +kernel
theorem dX5_classIn_8 : decode cX5_classIn 8 = .ok (.iconst 3, 1) := by decide +kernel
theorem dX5_classIn_9 : decode cX5_classIn 9 = .ok (.istore_n 1, 1) := by decide +kernel
theorem dX5_classIn_10 : decode cX5_classIn 10 = .ok (.iload_n 0, 1) := by decide +kernel
theorem dX5_classIn_11 : decode cX5_classIn 11 = .ok (.iload_n 1, 1) := by decide +kernel
theorem dX5_classIn_12 : decode cX5_classIn 12 = .ok (.iconst 1, 1) := by decide +kernel
theorem dX5_classIn_13 : decode cX5_classIn 13 = .ok (.iadd, 1) := by decide +kernel
theorem dX5_classIn_14 : decode cX5_classIn 14 = .ok (.ishr, 1) := by decide +kernel
theorem dX5_classIn_15 : decode cX5_classIn 15 = .ok (.ifCond .le 9, 3) := by decide +kernel
theorem dX5_classIn_18 : decode cX5_classIn 18 = .ok (.iinc 1 1, 3) := by decide +kernel
theorem dX5_classIn_21 : decode cX5_classIn 21 = .ok (.goto (-11), 3) := by decide +kernel
theorem dX5_classIn_24 : decode cX5_classIn 24 = .ok (.bipush 8, 2) := by decide +kernel
theorem dX5_classIn_26 : decode cX5_classIn 26 = .ok (.iload_n 1, 1) := by decide +kernel
theorem dX5_classIn_27 : decode cX5_classIn 27 = .ok (.iconst 2, 1) := by decide +kernel
theorem dX5_classIn_28 : decode cX5_classIn 28 = .ok (.isub, 1) := by decide +kernel
theorem dX5_classIn_29 : decode cX5_classIn 29 = .ok (.imul, 1) := by decide +kernel
theorem dX5_classIn_30 : decode cX5_classIn 30 = .ok (.iload_n 0, 1) := by decide +kernel
theorem dX5_classIn_31 : decode cX5_classIn 31 = .ok (.iload_n 1, 1) := by decide +kernel
theorem dX5_classIn_32 : decode cX5_classIn 32 = .ok (.iconst 3, 1) := by decide +kernel
theorem dX5_classIn_33 : decode cX5_classIn 33 = .ok (.isub, 1) := by decide +kernel
theorem dX5_classIn_34 : decode cX5_classIn 34 = .ok (.ishr, 1) := by decide +kernel
theorem dX5_classIn_35 : decode cX5_classIn 35 = .ok (.iadd, 1) := by decide +kernel
theorem dX5_classIn_36 : decode cX5_classIn 36 = .ok (.bipush 8, 2) := by decide +kernel
theorem dX5_classIn_38 : decode cX5_classIn 38 = .ok (.isub, 1) := by decide +kernel
theorem dX5_classIn_39 : decode cX5_classIn 39 = .ok (.ireturn, 1) := by decide +kernel
theorem dX5_wishIn_0 : decode cX5_wishIn 0 = .ok (.iload_n 0, 1) := by decide +kernel
theorem dX5_wishIn_1 : decode cX5_wishIn 1 = .ok (.bipush 8, 2) := by decide +kernel
theorem dX5_wishIn_3 : decode cX5_wishIn 3 = .ok (.if_icmp .ge 14, 3) := by decide +kernel
theorem dX5_wishIn_6 : decode cX5_wishIn 6 = .ok (.iload_n 0, 1) := by decide +kernel
theorem dX5_wishIn_7 : decode cX5_wishIn 7 = .ok (.iconst 3, 1) := by decide +kernel
theorem dX5_wishIn_8 : decode cX5_wishIn 8 = .ok (.if_icmp .ge 7, 3) := by decide +kernel
theorem dX5_wishIn_11 : decode cX5_wishIn 11 = .ok (.iconst 3, 1) := by decide +kernel
theorem dX5_wishIn_12 : decode cX5_wishIn 12 = .ok (.goto 4, 3) := by decide +kernel
theorem dX5_wishIn_15 : decode cX5_wishIn 15 = .ok (.iload_n 0, 1) := by decide +kernel
theorem dX5_wishIn_16 : decode cX5_wishIn 16 = .ok (.ireturn, 1) := by decide +kernel
theorem dX5_wishIn_17 : decode cX5_wishIn 17 = .ok (.iconst 3, 1) := by decide +kernel
theorem dX5_wishIn_18 : decode cX5_wishIn 18 = .ok (.istore_n 1, 1) := by decide +kernel
theorem dX5_wishIn_19 : decode cX5_wishIn 19 = .ok (.iload_n 0, 1) := by decide +kernel
theorem dX5_wishIn_20 : decode cX5_wishIn 20 = .ok (.iload_n 1, 1) := by decide +kernel
theorem dX5_wishIn_21 : decode cX5_wishIn 21 = .ok (.iconst 1, 1) := by decide +kernel
theorem dX5_wishIn_22 : decode cX5_wishIn 22 = .ok (.iadd, 1) := by decide +kernel
theorem dX5_wishIn_23 : decode cX5_wishIn 23 = .ok (.ishr, 1) := by decide +kernel
theorem dX5_wishIn_24 : decode cX5_wishIn 24 = .ok (.ifCond .le 9, 3) := by decide +kernel
theorem dX5_wishIn_27 : decode cX5_wishIn 27 = .ok (.iinc 1 1, 3) := by decide +kernel
theorem dX5_wishIn_30 : decode cX5_wishIn 30 = .ok (.goto (-11), 3) := by decide +kernel
theorem dX5_wishIn_33 : decode cX5_wishIn 33 = .ok (.iload_n 0, 1) := by decide +kernel
theorem dX5_wishIn_34 : decode cX5_wishIn 34 = .ok (.iconst 1, 1) := by decide +kernel
theorem dX5_wishIn_35 : decode cX5_wishIn 35 = .ok (.iload_n 1, 1) := by decide +kernel
theorem dX5_wishIn_36 : decode cX5_wishIn 36 = .ok (.iconst 3, 1) := by decide +kernel
theorem dX5_wishIn_37 : decode cX5_wishIn 37 = .ok (.isub, 1) := by decide +kernel
theorem dX5_wishIn_38 : decode cX5_wishIn 38 = .ok (.ishl, 1) := by decide +kernel
theorem dX5_wishIn_39 : decode cX5_wishIn 39 = .ok (.iadd, 1) := by decide +kernel
theorem dX5_wishIn_40 : decode cX5_wishIn 40 = .ok (.iconst 1, 1) := by decide +kernel
theorem dX5_wishIn_41 : decode cX5_wishIn 41 = .ok (.isub, 1) := by decide +kernel
theorem dX5_wishIn_42 : decode cX5_wishIn 42 = .ok (.invokestatic 57, 3) := by decide +kernel
theorem dX5_wishIn_45 : decode cX5_wishIn 45 = .ok (.ireturn, 1) := by decide +kernel
theorem dX5_classOf_0 : decode cX5_classOf 0 = .ok (.iload_n 1, 1) := by decide +kernel
theorem dX5_classOf_1 : decode cX5_classOf 1 = .ok (.i2l, 1) := by decide +kernel
theorem dX5_classOf_2 : decode cX5_classOf 2 = .ok (.lconst 1, 1) := by decide +kernel
theorem dX5_classOf_3 : decode cX5_classOf 3 = .ok (.ldc2_w 61, 3) := by decide +kernel
theorem dX5_classOf_6 : decode cX5_classOf 6 = .ok (.invokestatic 53, 3) := by decide +kernel
theorem dX5_classOf_9 : decode cX5_classOf 9 = .ok (.ifCond .ne 8, 3) := by decide +kernel
theorem dX5_classOf_12 : decode cX5_classOf 12 = .ok (.bipush (-2), 2) := by decide +kernel
theorem dX5_classOf_14 : decode cX5_classOf 14 = .ok (.goto 18, 3) := by decide +kernel
theorem dX5_classOf_17 : decode cX5_classOf 17 = .ok (.iload_n 2, 1) := by decide +kernel
theorem dX5_classOf_18 : decode cX5_classOf 18 = .ok (.ifCond .eq 10, 3) := by decide +kernel
theorem dX5_classOf_21 : decode cX5_classOf 21 = .ok (.iload_n 1, 1) := by decide +kernel
theorem dX5_classOf_22 : decode cX5_classOf 22 = .ok (.invokestatic 63, 3) := by decide +kernel
theorem dX5_classOf_25 : decode cX5_classOf 25 = .ok (.goto 7, 3) := by decide +kernel
theorem dX5_classOf_28 : decode cX5_classOf 28 = .ok (.iload_n 1, 1) := by decide +kernel
theorem dX5_classOf_29 : decode cX5_classOf 29 = .ok (.invokestatic 57, 3) := by decide +kernel
theorem dX5_classOf_32 : decode cX5_classOf 32 = .ok (.ireturn, 1) := by decide +kernel
theorem dX5_lookFor_0 : decode cX5_lookFor 0 = .ok (.iload_n 1, 1) := by decide +kernel
theorem dX5_lookFor_1 : decode cX5_lookFor 1 = .ok (.invokestatic 63, 3) := by decide +kernel
theorem dX5_lookFor_4 : decode cX5_lookFor 4 = .ok (.istore_n 2, 1) := by decide +kernel
theorem dX5_lookFor_5 : decode cX5_lookFor 5 = .ok (.iload_n 2, 1) := by decide +kernel
theorem dX5_lookFor_6 : decode cX5_lookFor 6 = .ok (.bipush 72, 2) := by decide +kernel
theorem dX5_lookFor_8 : decode cX5_lookFor 8 = .ok (.if_icmp .ge 25, 3) := by decide +kernel
theorem dX5_lookFor_11 : decode cX5_lookFor 11 = .ok (.aload_n 0, 1) := by decide +kernel
theorem dX5_lookFor_12 : decode cX5_lookFor 12 = .ok (.getfield 13, 3) := by decide +kernel
theorem dX5_lookFor_15 : decode cX5_lookFor 15 = .ok (.iload_n 2, 1) := by decide +kernel
theorem dX5_lookFor_16 : decode cX5_lookFor 16 = .ok (.iaload, 1) := by decide +kernel
theorem dX5_lookFor_17 : decode cX5_lookFor 17 = .ok (.ifCond .eq 10, 3) := by decide +kernel
theorem dX5_lookFor_20 : decode cX5_lookFor 20 = .ok (.aload_n 0, 1) := by decide +kernel
theorem dX5_lookFor_21 : decode cX5_lookFor 21 = .ok (.getfield 13, 3) := by decide +kernel
theorem dX5_lookFor_24 : decode cX5_lookFor 24 = .ok (.iload_n 2, 1) := by decide +kernel
theorem dX5_lookFor_25 : decode cX5_lookFor 25 = .ok (.iaload, 1) := by decide +kernel
theorem dX5_lookFor_26 : decode cX5_lookFor 26 = .ok (.ireturn, 1) := by decide +kernel
theorem dX5_lookFor_27 : decode cX5_lookFor 27 = .ok (.iinc 2 1, 3) := by decide +kernel
theorem dX5_lookFor_30 : decode cX5_lookFor 30 = .ok (.goto (-25), 3) := by decide +kernel
theorem dX5_lookFor_33 : decode cX5_lookFor 33 = .ok (.iconst 0, 1) := by decide +kernel
theorem dX5_lookFor_34 : decode cX5_lookFor 34 = .ok (.ireturn, 1) := by decide +kernel
theorem dX5_words_0 : decode cX5_words 0 = .ok (.aload_n 0, 1) := by decide +kernel
theorem dX5_words_1 : decode cX5_words 1 = .ok (.getfield 7, 3) := by decide +kernel
theorem dX5_words_4 : decode cX5_words 4 = .ok (.iload_n 1, 1) := by decide +kernel
theorem dX5_words_5 : decode cX5_words 5 = .ok (.iconst 1, 1) := by decide +kernel
theorem dX5_words_6 : decode cX5_words 6 = .ok (.isub, 1) := by decide +kernel
theorem dX5_words_7 : decode cX5_words 7 = .ok (.laload, 1) := by decide +kernel
theorem dX5_words_8 : decode cX5_words 8 = .ok (.iconst 2, 1) := by decide +kernel
theorem dX5_words_9 : decode cX5_words 9 = .ok (.lshr, 1) := by decide +kernel
theorem dX5_words_10 : decode cX5_words 10 = .ok (.l2i, 1) := by decide +kernel
theorem dX5_words_11 : decode cX5_words 11 = .ok (.ireturn, 1) := by decide +kernel
theorem dX5_isFree_0 : decode cX5_isFree 0 = .ok (.aload_n 0, 1) := by decide +kernel
theorem dX5_isFree_1 : decode cX5_isFree 1 = .ok (.getfield 7, 3) := by decide +kernel
theorem dX5_isFree_4 : decode cX5_isFree 4 = .ok (.iload_n 1, 1) := by decide +kernel
theorem dX5_isFree_5 : decode cX5_isFree 5 = .ok (.iconst 1, 1) := by decide +kernel
theorem dX5_isFree_6 : decode cX5_isFree 6 = .ok (.isub, 1) := by decide +kernel
theorem dX5_isFree_7 : decode cX5_isFree 7 = .ok (.laload, 1) := by decide +kernel
theorem dX5_isFree_8 : decode cX5_isFree 8 = .ok (.lconst 1, 1) := by decide +kernel
theorem dX5_isFree_9 : decode cX5_isFree 9 = .ok (.land, 1) := by decide +kernel
theorem dX5_isFree_10 : decode cX5_isFree 10 = .ok (.lconst 1, 1) := by decide +kernel
theorem dX5_isFree_11 : decode cX5_isFree 11 = .ok (.lcmp, 1) := by decide +kernel
theorem dX5_isFree_12 : decode cX5_isFree 12 = .ok (.ifCond .ne 7, 3) := by decide +kernel
theorem dX5_isFree_15 : decode cX5_isFree 15 = .ok (.iconst 1, 1) := by decide +kernel
theorem dX5_isFree_16 : decode cX5_isFree 16 = .ok (.goto 4, 3) := by decide +kernel
theorem dX5_isFree_19 : decode cX5_isFree 19 = .ok (.iconst 0, 1) := by decide +kernel
theorem dX5_isFree_20 : decode cX5_isFree 20 = .ok (.ireturn, 1) := by decide +kernel
theorem dX5_behind_0 : decode cX5_behind 0 = .ok (.iload_n 1, 1) := by decide +kernel
theorem dX5_behind_1 : decode cX5_behind 1 = .ok (.aload_n 0, 1) := by decide +kernel
theorem dX5_behind_2 : decode cX5_behind 2 = .ok (.iload_n 1, 1) := by decide +kernel
theorem dX5_behind_3 : decode cX5_behind 3 = .ok (.invokevirtual 66, 3) := by decide +kernel
theorem dX5_behind_6 : decode cX5_behind 6 = .ok (.iadd, 1) := by decide +kernel
theorem dX5_behind_7 : decode cX5_behind 7 = .ok (.iconst 1, 1) := by decide +kernel
theorem dX5_behind_8 : decode cX5_behind 8 = .ok (.iadd, 1) := by decide +kernel
theorem dX5_behind_9 : decode cX5_behind 9 = .ok (.istore_n 2, 1) := by decide +kernel
theorem dX5_behind_10 : decode cX5_behind 10 = .ok (.iload_n 2, 1) := by decide +kernel
theorem dX5_behind_11 : decode cX5_behind 11 = .ok (.aload_n 0, 1) := by decide +kernel
theorem dX5_behind_12 : decode cX5_behind 12 = .ok (.getfield 32, 3) := by decide +kernel
theorem dX5_behind_15 : decode cX5_behind 15 = .ok (.if_icmp .le 7, 3) := by decide +kernel
theorem dX5_behind_18 : decode cX5_behind 18 = .ok (.iconst 0, 1) := by decide +kernel
theorem dX5_behind_19 : decode cX5_behind 19 = .ok (.goto 4, 3) := by decide +kernel
theorem dX5_behind_22 : decode cX5_behind 22 = .ok (.iload_n 2, 1) := by decide +kernel
theorem dX5_behind_23 : decode cX5_behind 23 = .ok (.ireturn, 1) := by decide +kernel
theorem dX5_tell_0 : decode cX5_tell 0 = .ok (.iload_n 1, 1) := by decide +kernel
theorem dX5_tell_1 : decode cX5_tell 1 = .ok (.ifCond .le 42, 3) := by decide +kernel
theorem dX5_tell_4 : decode cX5_tell 4 = .ok (.aload_n 0, 1) := by decide +kernel
theorem dX5_tell_5 : decode cX5_tell 5 = .ok (.getfield 7, 3) := by decide +kernel
theorem dX5_tell_8 : decode cX5_tell 8 = .ok (.iload_n 1, 1) := by decide +kernel
theorem dX5_tell_9 : decode cX5_tell 9 = .ok (.iconst 1, 1) := by decide +kernel
theorem dX5_tell_10 : decode cX5_tell 10 = .ok (.isub, 1) := by decide +kernel
theorem dX5_tell_11 : decode cX5_tell 11 = .ok (.iload_n 2, 1) := by decide +kernel
theorem dX5_tell_12 : decode cX5_tell 12 = .ok (.ifCond .eq 18, 3) := by decide +kernel
theorem dX5_tell_15 : decode cX5_tell 15 = .ok (.aload_n 0, 1) := by decide +kernel
theorem dX5_tell_16 : decode cX5_tell 16 = .ok (.getfield 7, 3) := by decide +kernel
theorem dX5_tell_19 : decode cX5_tell 19 = .ok (.iload_n 1, 1) := by decide +kernel
theorem dX5_tell_20 : decode cX5_tell 20 = .ok (.iconst 1, 1) := by decide +kernel
theorem dX5_tell_21 : decode cX5_tell 21 = .ok (.isub, 1) := by decide +kernel
theorem dX5_tell_22 : decode cX5_tell 22 = .ok (.laload, 1) := by decide +kernel
theorem dX5_tell_23 : decode cX5_tell 23 = .ok (.ldc2_w 69, 3) := by decide +kernel
theorem dX5_tell_26 : decode cX5_tell 26 = .ok (.lor, 1) := by decide +kernel
theorem dX5_tell_27 : decode cX5_tell 27 = .ok (.goto 15, 3) := by decide +kernel
theorem dX5_tell_30 : decode cX5_tell 30 = .ok (.aload_n 0, 1) := by decide +kernel
theorem dX5_tell_31 : decode cX5_tell 31 = .ok (.getfield 7, 3) := by decide +kernel
theorem dX5_tell_34 : decode cX5_tell 34 = .ok (.iload_n 1, 1) := by decide +kernel
theorem dX5_tell_35 : decode cX5_tell 35 = .ok (.iconst 1, 1) := by decide +kernel
theorem dX5_tell_36 : decode cX5_tell 36 = .ok (.isub, 1) := by decide +kernel
theorem dX5_tell_37 : decode cX5_tell 37 = .ok (.laload, 1) := by decide +kernel
theorem dX5_tell_38 : decode cX5_tell 38 = .ok (.ldc2_w 71, 3) := by decide +kernel
theorem dX5_tell_41 : decode cX5_tell 41 = .ok (.land, 1) := by decide +kernel
theorem dX5_tell_42 : decode cX5_tell 42 = .ok (.lastore, 1) := by decide +kernel
theorem dX5_tell_43 : decode cX5_tell 43 = .ok (.return_, 1) := by decide +kernel
theorem dX5_lend_0 : decode cX5_lend 0 = .ok (.iload_n 2, 1) := by decide +kernel
theorem dX5_lend_1 : decode cX5_lend 1 = .ok (.invokestatic 57, 3) := by decide +kernel
theorem dX5_lend_4 : decode cX5_lend 4 = .ok (.istore 5, 2) := by decide +kernel
theorem dX5_lend_6 : decode cX5_lend 6 = .ok (.aload_n 0, 1) := by decide +kernel
theorem dX5_lend_7 : decode cX5_lend 7 = .ok (.getfield 7, 3) := by decide +kernel
theorem dX5_lend_10 : decode cX5_lend 10 = .ok (.iload_n 1, 1) := by decide +kernel
theorem dX5_lend_11 : decode cX5_lend 11 = .ok (.iconst 1, 1) := by decide +kernel
theorem dX5_lend_12 : decode cX5_lend 12 = .ok (.isub, 1) := by decide +kernel
theorem dX5_lend_13 : decode cX5_lend 13 = .ok (.ldc2_w 73, 3) := by decide +kernel
theorem dX5_lend_16 : decode cX5_lend 16 = .ok (.iload_n 2, 1) := by decide +kernel
theorem dX5_lend_17 : decode cX5_lend 17 = .ok (.i2l, 1) := by decide +kernel
theorem dX5_lend_18 : decode cX5_lend 18 = .ok (.lmul, 1) := by decide +kernel
theorem dX5_lend_19 : decode cX5_lend 19 = .ok (.lload_n 3, 1) := by decide +kernel
theorem dX5_lend_20 : decode cX5_lend 20 = .ok (.ladd, 1) := by decide +kernel
theorem dX5_lend_21 : decode cX5_lend 21 = .ok (.lconst 1, 1) := by decide +kernel
theorem dX5_lend_22 : decode cX5_lend 22 = .ok (.ladd, 1) := by decide +kernel
theorem dX5_lend_23 : decode cX5_lend 23 = .ok (.lastore, 1) := by decide +kernel
theorem dX5_lend_24 : decode cX5_lend 24 = .ok (.aload_n 0, 1) := by decide +kernel
theorem dX5_lend_25 : decode cX5_lend 25 = .ok (.getfield 7, 3) := by decide +kernel
theorem dX5_lend_28 : decode cX5_lend 28 = .ok (.iload_n 1, 1) := by decide +kernel
theorem dX5_lend_29 : decode cX5_lend 29 = .ok (.aload_n 0, 1) := by decide +kernel
theorem dX5_lend_30 : decode cX5_lend 30 = .ok (.getfield 13, 3) := by decide +kernel
theorem dX5_lend_33 : decode cX5_lend 33 = .ok (.iload 5, 2) := by decide +kernel
theorem dX5_lend_35 : decode cX5_lend 35 = .ok (.iaload, 1) := by decide +kernel
theorem dX5_lend_36 : decode cX5_lend 36 = .ok (.i2l, 1) := by decide +kernel
theorem dX5_lend_37 : decode cX5_lend 37 = .ok (.lastore, 1) := by decide +kernel
theorem dX5_lend_38 : decode cX5_lend 38 = .ok (.aload_n 0, 1) := by decide +kernel
theorem dX5_lend_39 : decode cX5_lend 39 = .ok (.getfield 7, 3) := by decide +kernel
theorem dX5_lend_42 : decode cX5_lend 42 = .ok (.iload_n 1, 1) := by decide +kernel
theorem dX5_lend_43 : decode cX5_lend 43 = .ok (.iconst 1, 1) := by decide +kernel
theorem dX5_lend_44 : decode cX5_lend 44 = .ok (.iadd, 1) := by decide +kernel
theorem dX5_lend_45 : decode cX5_lend 45 = .ok (.lconst 0, 1) := by decide +kernel
theorem dX5_lend_46 : decode cX5_lend 46 = .ok (.lastore, 1) := by decide +kernel
theorem dX5_lend_47 : decode cX5_lend 47 = .ok (.aload_n 0, 1) := by decide +kernel
theorem dX5_lend_48 : decode cX5_lend 48 = .ok (.getfield 7, 3) := by decide +kernel
theorem dX5_lend_51 : decode cX5_lend 51 = .ok (.iload_n 1, 1) := by decide +kernel
theorem dX5_lend_52 : decode cX5_lend 52 = .ok (.iload_n 2, 1) := by decide +kernel
theorem dX5_lend_53 : decode cX5_lend 53 = .ok (.iadd, 1) := by decide +kernel
theorem dX5_lend_54 : decode cX5_lend 54 = .ok (.iconst 1, 1) := by decide +kernel
theorem dX5_lend_55 : decode cX5_lend 55 = .ok (.isub, 1) := by decide +kernel
theorem dX5_lend_56 : decode cX5_lend 56 = .ok (.iload_n 2, 1) := by decide +kernel
theorem dX5_lend_57 : decode cX5_lend 57 = .ok (.i2l, 1) := by decide +kernel
theorem dX5_lend_58 : decode cX5_lend 58 = .ok (.lastore, 1) := by decide +kernel
theorem dX5_lend_59 : decode cX5_lend 59 = .ok (.aload_n 0, 1) := by decide +kernel
theorem dX5_lend_60 : decode cX5_lend 60 = .ok (.getfield 13, 3) := by decide +kernel
theorem dX5_lend_63 : decode cX5_lend 63 = .ok (.iload 5, 2) := by decide +kernel
theorem dX5_lend_65 : decode cX5_lend 65 = .ok (.iaload, 1) := by decide +kernel
theorem dX5_lend_66 : decode cX5_lend 66 = .ok (.ifCond .eq 19, 3) := by decide +kernel
theorem dX5_lend_69 : decode cX5_lend 69 = .ok (.aload_n 0, 1) := by decide +kernel
theorem dX5_lend_70 : decode cX5_lend 70 = .ok (.getfield 7, 3) := by decide +kernel
theorem dX5_lend_73 : decode cX5_lend 73 = .ok (.aload_n 0, 1) := by decide +kernel
theorem dX5_lend_74 : decode cX5_lend 74 = .ok (.getfield 13, 3) := by decide +kernel
theorem dX5_lend_77 : decode cX5_lend 77 = .ok (.iload 5, 2) := by decide +kernel
theorem dX5_lend_79 : decode cX5_lend 79 = .ok (.iaload, 1) := by decide +kernel
theorem dX5_lend_80 : decode cX5_lend 80 = .ok (.iconst 1, 1) := by decide +kernel
theorem dX5_lend_81 : decode cX5_lend 81 = .ok (.iadd, 1) := by decide +kernel
theorem dX5_lend_82 : decode cX5_lend 82 = .ok (.iload_n 1, 1) := by decide +kernel
theorem dX5_lend_83 : decode cX5_lend 83 = .ok (.i2l, 1) := by decide +kernel
theorem dX5_lend_84 : decode cX5_lend 84 = .ok (.lastore, 1) := by decide +kernel
theorem dX5_lend_85 : decode cX5_lend 85 = .ok (.aload_n 0, 1) := by decide +kernel
theorem dX5_lend_86 : decode cX5_lend 86 = .ok (.getfield 13, 3) := by decide +kernel
theorem dX5_lend_89 : decode cX5_lend 89 = .ok (.iload 5, 2) := by decide +kernel
theorem dX5_lend_91 : decode cX5_lend 91 = .ok (.iload_n 1, 1) := by decide +kernel
theorem dX5_lend_92 : decode cX5_lend 92 = .ok (.iastore, 1) := by decide +kernel
theorem dX5_lend_93 : decode cX5_lend 93 = .ok (.aload_n 0, 1) := by decide +kernel
theorem dX5_lend_94 : decode cX5_lend 94 = .ok (.dup, 1) := by decide +kernel
theorem dX5_lend_95 : decode cX5_lend 95 = .ok (.getfield 46, 3) := by decide +kernel
theorem dX5_lend_98 : decode cX5_lend 98 = .ok (.iconst 1, 1) := by decide +kernel
theorem dX5_lend_99 : decode cX5_lend 99 = .ok (.iadd, 1) := by decide +kernel
theorem dX5_lend_100 : decode cX5_lend 100 = .ok (.putfield 46, 3) := by decide +kernel
theorem dX5_lend_103 : decode cX5_lend 103 = .ok (.aload_n 0, 1) := by decide +kernel
theorem dX5_lend_104 : decode cX5_lend 104 = .ok (.aload_n 0, 1) := by decide +kernel
theorem dX5_lend_105 : decode cX5_lend 105 = .ok (.iload_n 1, 1) := by decide +kernel
theorem dX5_lend_106 : decode cX5_lend 106 = .ok (.invokevirtual 75, 3) := by decide +kernel
theorem dX5_lend_109 : decode cX5_lend 109 = .ok (.iconst 1, 1) := by decide +kernel
theorem dX5_lend_110 : decode cX5_lend 110 = .ok (.invokevirtual 78, 3) := by decide +kernel
theorem dX5_lend_113 : decode cX5_lend 113 = .ok (.return_, 1) := by decide +kernel
theorem dX5_leave_0 : decode cX5_leave 0 = .ok (.aload_n 0, 1) := by decide +kernel
theorem dX5_leave_1 : decode cX5_leave 1 = .ok (.getfield 7, 3) := by decide +kernel
theorem dX5_leave_4 : decode cX5_leave 4 = .ok (.iload_n 1, 1) := by decide +kernel
theorem dX5_leave_5 : decode cX5_leave 5 = .ok (.laload, 1) := by decide +kernel
theorem dX5_leave_6 : decode cX5_leave 6 = .ok (.l2i, 1) := by decide +kernel
theorem dX5_leave_7 : decode cX5_leave 7 = .ok (.istore_n 2, 1) := by decide +kernel
theorem dX5_leave_8 : decode cX5_leave 8 = .ok (.aload_n 0, 1) := by decide +kernel
theorem dX5_leave_9 : decode cX5_leave 9 = .ok (.getfield 7, 3) := by decide +kernel
theorem dX5_leave_12 : decode cX5_leave 12 = .ok (.iload_n 1, 1) := by decide +kernel
theorem dX5_leave_13 : decode cX5_leave 13 = .ok (.iconst 1, 1) := by decide +kernel
theorem dX5_leave_14 : decode cX5_leave 14 = .ok (.iadd, 1) := by decide +kernel
theorem dX5_leave_15 : decode cX5_leave 15 = .ok (.laload, 1) := by decide +kernel
theorem dX5_leave_16 : decode cX5_leave 16 = .ok (.l2i, 1) := by decide +kernel
theorem dX5_leave_17 : decode cX5_leave 17 = .ok (.istore_n 3, 1) := by decide +kernel
theorem dX5_leave_18 : decode cX5_leave 18 = .ok (.iload_n 3, 1) := by decide +kernel
theorem dX5_leave_19 : decode cX5_leave 19 = .ok (.ifCond .ne 20, 3) := by decide +kernel
theorem dX5_leave_22 : decode cX5_leave 22 = .ok (.aload_n 0, 1) := by decide +kernel
theorem dX5_leave_23 : decode cX5_leave 23 = .ok (.getfield 13, 3) := by decide +kernel
theorem dX5_leave_26 : decode cX5_leave 26 = .ok (.aload_n 0, 1) := by decide +kernel
theorem dX5_leave_27 : decode cX5_leave 27 = .ok (.iload_n 1, 1) := by decide +kernel
theorem dX5_leave_28 : decode cX5_leave 28 = .ok (.invokevirtual 66, 3) := by decide +kernel
theorem dX5_leave_31 : decode cX5_leave 31 = .ok (.invokestatic 57, 3) := by decide +kernel
theorem dX5_leave_34 : decode cX5_leave 34 = .ok (.iload_n 2, 1) := by decide +kernel
theorem dX5_leave_35 : decode cX5_leave 35 = .ok (.iastore, 1) := by decide +kernel
theorem dX5_leave_36 : decode cX5_leave 36 = .ok (.goto 11, 3) := by decide +kernel
theorem dX5_leave_39 : decode cX5_leave 39 = .ok (.aload_n 0, 1) := by decide +kernel
theorem dX5_leave_40 : decode cX5_leave 40 = .ok (.getfield 7, 3) := by decide +kernel
theorem dX5_leave_43 : decode cX5_leave 43 = .ok (.iload_n 3, 1) := by decide +kernel
theorem dX5_leave_44 : decode cX5_leave 44 = .ok (.iload_n 2, 1) := by decide +kernel
theorem dX5_leave_45 : decode cX5_leave 45 = .ok (.i2l, 1) := by decide +kernel
theorem dX5_leave_46 : decode cX5_leave 46 = .ok (.lastore, 1) := by decide +kernel
theorem dX5_leave_47 : decode cX5_leave 47 = .ok (.iload_n 2, 1) := by decide +kernel
theorem dX5_leave_48 : decode cX5_leave 48 = .ok (.ifCond .eq 13, 3) := by decide +kernel
theorem dX5_leave_51 : decode cX5_leave 51 = .ok (.aload_n 0, 1) := by decide +kernel
theorem dX5_leave_52 : decode cX5_leave 52 = .ok (.getfield 7, 3) := by decide +kernel
theorem dX5_leave_55 : decode cX5_leave 55 = .ok (.iload_n 2, 1) := by decide +kernel
theorem dX5_leave_56 : decode cX5_leave 56 = .ok (.iconst 1, 1) := by decide +kernel
theorem dX5_leave_57 : decode cX5_leave 57 = .ok (.iadd, 1) := by decide +kernel
theorem dX5_leave_58 : decode cX5_leave 58 = .ok (.iload_n 3, 1) := by decide +kernel
theorem dX5_leave_59 : decode cX5_leave 59 = .ok (.i2l, 1) := by decide +kernel
theorem dX5_leave_60 : decode cX5_leave 60 = .ok (.lastore, 1) := by decide +kernel
theorem dX5_leave_61 : decode cX5_leave 61 = .ok (.aload_n 0, 1) := by decide +kernel
theorem dX5_leave_62 : decode cX5_leave 62 = .ok (.dup, 1) := by decide +kernel
theorem dX5_leave_63 : decode cX5_leave 63 = .ok (.getfield 46, 3) := by decide +kernel
theorem dX5_leave_66 : decode cX5_leave 66 = .ok (.iconst 1, 1) := by decide +kernel
theorem dX5_leave_67 : decode cX5_leave 67 = .ok (.iadd, 1) := by decide +kernel
theorem dX5_leave_68 : decode cX5_leave 68 = .ok (.putfield 46, 3) := by decide +kernel
theorem dX5_leave_71 : decode cX5_leave 71 = .ok (.return_, 1) := by decide +kernel
theorem dX5_take_0 : decode cX5_take 0 = .ok (.iload_n 2, 1) := by decide +kernel
theorem dX5_take_1 : decode cX5_take 1 = .ok (.iload_n 3, 1) := by decide +kernel
theorem dX5_take_2 : decode cX5_take 2 = .ok (.iconst 4, 1) := by decide +kernel
theorem dX5_take_3 : decode cX5_take 3 = .ok (.iadd, 1) := by decide +kernel
theorem dX5_take_4 : decode cX5_take 4 = .ok (.if_icmp .ge 31, 3) := by decide +kernel
theorem dX5_take_7 : decode cX5_take 7 = .ok (.aload_n 0, 1) := by decide +kernel
theorem dX5_take_8 : decode cX5_take 8 = .ok (.getfield 7, 3) := by decide +kernel
theorem dX5_take_11 : decode cX5_take 11 = .ok (.iload_n 1, 1) := by decide +kernel
theorem dX5_take_12 : decode cX5_take 12 = .ok (.iconst 1, 1) := by decide +kernel
theorem dX5_take_13 : decode cX5_take 13 = .ok (.isub, 1) := by decide +kernel
theorem dX5_take_14 : decode cX5_take 14 = .ok (.ldc2_w 73, 3) := by decide +kernel
theorem dX5_take_17 : decode cX5_take 17 = .ok (.iload_n 2, 1) := by decide +kernel
theorem dX5_take_18 : decode cX5_take 18 = .ok (.i2l, 1) := by decide +kernel
theorem dX5_take_19 : decode cX5_take 19 = .ok (.lmul, 1) := by decide +kernel
theorem dX5_take_20 : decode cX5_take 20 = .ok (.lload 4, 2) := by decide +kernel
theorem dX5_take_22 : decode cX5_take 22 = .ok (.ladd, 1) := by decide +kernel
theorem dX5_take_23 : decode cX5_take 23 = .ok (.lastore, 1) := by decide +kernel
theorem dX5_take_24 : decode cX5_take 24 = .ok (.aload_n 0, 1) := by decide +kernel
theorem dX5_take_25 : decode cX5_take 25 = .ok (.aload_n 0, 1) := by decide +kernel
theorem dX5_take_26 : decode cX5_take 26 = .ok (.iload_n 1, 1) := by decide +kernel
theorem dX5_take_27 : decode cX5_take 27 = .ok (.invokevirtual 75, 3) := by decide +kernel
theorem dX5_take_30 : decode cX5_take 30 = .ok (.iconst 0, 1) := by decide +kernel
theorem dX5_take_31 : decode cX5_take 31 = .ok (.invokevirtual 78, 3) := by decide +kernel
theorem dX5_take_34 : decode cX5_take 34 = .ok (.return_, 1) := by decide +kernel
theorem dX5_take_35 : decode cX5_take 35 = .ok (.aload_n 0, 1) := by decide +kernel
theorem dX5_take_36 : decode cX5_take 36 = .ok (.getfield 7, 3) := by decide +kernel
theorem dX5_take_39 : decode cX5_take 39 = .ok (.iload_n 1, 1) := by decide +kernel
theorem dX5_take_40 : decode cX5_take 40 = .ok (.iconst 1, 1) := by decide +kernel
theorem dX5_take_41 : decode cX5_take 41 = .ok (.isub, 1) := by decide +kernel
theorem dX5_take_42 : decode cX5_take 42 = .ok (.ldc2_w 73, 3) := by decide +kernel
theorem dX5_take_45 : decode cX5_take 45 = .ok (.iload_n 3, 1) := by decide +kernel
theorem dX5_take_46 : decode cX5_take 46 = .ok (.i2l, 1) := by decide +kernel
theorem dX5_take_47 : decode cX5_take 47 = .ok (.lmul, 1) := by decide +kernel
theorem dX5_take_48 : decode cX5_take 48 = .ok (.lload 4, 2) := by decide +kernel
theorem dX5_take_50 : decode cX5_take 50 = .ok (.ladd, 1) := by decide +kernel
theorem dX5_take_51 : decode cX5_take 51 = .ok (.lastore, 1) := by decide +kernel
theorem dX5_take_52 : decode cX5_take 52 = .ok (.aload_n 0, 1) := by decide +kernel
theorem dX5_take_53 : decode cX5_take 53 = .ok (.iload_n 1, 1) := by decide +kernel
theorem dX5_take_54 : decode cX5_take 54 = .ok (.iload_n 3, 1) := by decide +kernel
theorem dX5_take_55 : decode cX5_take 55 = .ok (.iadd, 1) := by decide +kernel
theorem dX5_take_56 : decode cX5_take 56 = .ok (.iconst 1, 1) := by decide +kernel
theorem dX5_take_57 : decode cX5_take 57 = .ok (.iadd, 1) := by decide +kernel
theorem dX5_take_58 : decode cX5_take 58 = .ok (.iload_n 2, 1) := by decide +kernel
theorem dX5_take_59 : decode cX5_take 59 = .ok (.iload_n 3, 1) := by decide +kernel
theorem dX5_take_60 : decode cX5_take 60 = .ok (.isub, 1) := by decide +kernel
theorem dX5_take_61 : decode cX5_take 61 = .ok (.iconst 1, 1) := by decide +kernel
theorem dX5_take_62 : decode cX5_take 62 = .ok (.isub, 1) := by decide +kernel
theorem dX5_take_63 : decode cX5_take 63 = .ok (.lconst 0, 1) := by decide +kernel
theorem dX5_take_64 : decode cX5_take 64 = .ok (.invokevirtual 42, 3) := by decide +kernel
theorem dX5_take_67 : decode cX5_take 67 = .ok (.return_, 1) := by decide +kernel
theorem dX5_least_0 : decode cX5_least 0 = .ok (.iload_n 0, 1) := by decide +kernel
theorem dX5_least_1 : decode cX5_least 1 = .ok (.iconst 3, 1) := by decide +kernel
theorem dX5_least_2 : decode cX5_least 2 = .ok (.if_icmp .ge 7, 3) := by decide +kernel
theorem dX5_least_5 : decode cX5_least 5 = .ok (.iconst 3, 1) := by decide +kernel
theorem dX5_least_6 : decode cX5_least 6 = .ok (.goto 4, 3) := by decide +kernel
theorem dX5_least_9 : decode cX5_least 9 = .ok (.iload_n 0, 1) := by decide +kernel
theorem dX5_least_10 : decode cX5_least 10 = .ok (.ireturn, 1) := by decide +kernel
theorem dX5_isBad_0 : decode cX5_isBad 0 = .ok (.aload_n 0, 1) := by decide +kernel
theorem dX5_isBad_1 : decode cX5_isBad 1 = .ok (.getfield 35, 3) := by decide +kernel
theorem dX5_isBad_4 : decode cX5_isBad 4 = .ok (.ifCond .eq 25, 3) := by decide +kernel
theorem dX5_isBad_7 : decode cX5_isBad 7 = .ok (.iload_n 1, 1) := by decide +kernel
theorem dX5_isBad_8 : decode cX5_isBad 8 = .ok (.i2l, 1) := by decide +kernel
theorem dX5_isBad_9 : decode cX5_isBad 9 = .ok (.lconst 1, 1) := by decide +kernel
theorem dX5_isBad_10 : decode cX5_isBad 10 = .ok (.aload_n 0, 1) := by decide +kernel
theorem dX5_isBad_11 : decode cX5_isBad 11 = .ok (.getfield 32, 3) := by decide +kernel
theorem dX5_isBad_14 : decode cX5_isBad 14 = .ok (.iconst 1, 1) := by decide +kernel
theorem dX5_isBad_15 : decode cX5_isBad 15 = .ok (.isub, 1) := by decide +kernel
theorem dX5_isBad_16 : decode cX5_isBad 16 = .ok (.i2l, 1) := by decide +kernel
theorem dX5_isBad_17 : decode cX5_isBad 17 = .ok (.invokestatic 53, 3) := by decide +kernel
theorem dX5_isBad_20 : decode cX5_isBad 20 = .ok (.ifCond .ne 7, 3) := by decide +kernel
theorem dX5_isBad_23 : decode cX5_isBad 23 = .ok (.iconst 1, 1) := by decide +kernel
theorem dX5_isBad_24 : decode cX5_isBad 24 = .ok (.goto 4, 3) := by decide +kernel
theorem dX5_isBad_27 : decode cX5_isBad 27 = .ok (.iconst 0, 1) := by decide +kernel
theorem dX5_isBad_28 : decode cX5_isBad 28 = .ok (.ireturn, 1) := by decide +kernel
theorem dX5_isBad_29 : decode cX5_isBad 29 = .ok (.iconst 1, 1) := by decide +kernel
theorem dX5_isBad_30 : decode cX5_isBad 30 = .ok (.istore_n 2, 1) := by decide +kernel
theorem dX5_isBad_31 : decode cX5_isBad 31 = .ok (.iload_n 2, 1) := by decide +kernel
theorem dX5_isBad_32 : decode cX5_isBad 32 = .ok (.ifCond .le 17, 3) := by decide +kernel
theorem dX5_isBad_35 : decode cX5_isBad 35 = .ok (.iload_n 2, 1) := by decide +kernel
theorem dX5_isBad_36 : decode cX5_isBad 36 = .ok (.iload_n 1, 1) := by decide +kernel
theorem dX5_isBad_37 : decode cX5_isBad 37 = .ok (.if_icmp .ge 12, 3) := by decide +kernel
theorem dX5_isBad_40 : decode cX5_isBad 40 = .ok (.aload_n 0, 1) := by decide +kernel
theorem dX5_isBad_41 : decode cX5_isBad 41 = .ok (.iload_n 2, 1) := by decide +kernel
theorem dX5_isBad_42 : decode cX5_isBad 42 = .ok (.invokevirtual 75, 3) := by decide +kernel
theorem dX5_isBad_45 : decode cX5_isBad 45 = .ok (.istore_n 2, 1) := by decide +kernel
theorem dX5_isBad_46 : decode cX5_isBad 46 = .ok (.goto (-15), 3) := by decide +kernel
theorem dX5_isBad_49 : decode cX5_isBad 49 = .ok (.iload_n 1, 1) := by decide +kernel
theorem dX5_isBad_50 : decode cX5_isBad 50 = .ok (.iconst 1, 1) := by decide +kernel
theorem dX5_isBad_51 : decode cX5_isBad 51 = .ok (.if_icmp .lt 16, 3) := by decide +kernel
theorem dX5_isBad_54 : decode cX5_isBad 54 = .ok (.iload_n 2, 1) := by decide +kernel
theorem dX5_isBad_55 : decode cX5_isBad 55 = .ok (.iload_n 1, 1) := by decide +kernel
theorem dX5_isBad_56 : decode cX5_isBad 56 = .ok (.if_icmp .ne 11, 3) := by decide +kernel
theorem dX5_isBad_59 : decode cX5_isBad 59 = .ok (.aload_n 0, 1) := by decide +kernel
theorem dX5_isBad_60 : decode cX5_isBad 60 = .ok (.iload_n 2, 1) := by decide +kernel
theorem dX5_isBad_61 : decode cX5_isBad 61 = .ok (.invokevirtual 82, 3) := by decide +kernel
theorem dX5_isBad_64 : decode cX5_isBad 64 = .ok (.ifCond .eq 7, 3) := by decide +kernel
theorem dX5_isBad_67 : decode cX5_isBad 67 = .ok (.iconst 1, 1) := by decide +kernel
theorem dX5_isBad_68 : decode cX5_isBad 68 = .ok (.goto 4, 3) := by decide +kernel
theorem dX5_isBad_71 : decode cX5_isBad 71 = .ok (.iconst 0, 1) := by decide +kernel
theorem dX5_isBad_72 : decode cX5_isBad 72 = .ok (.ireturn, 1) := by decide +kernel
theorem dX5_alloc_0 : decode cX5_alloc 0 = .ok (.iload_n 1, 1) := by decide +kernel
theorem dX5_alloc_1 : decode cX5_alloc 1 = .ok (.i2l, 1) := by decide +kernel
theorem dX5_alloc_2 : decode cX5_alloc 2 = .ok (.lconst 1, 1) := by decide +kernel
theorem dX5_alloc_3 : decode cX5_alloc 3 = .ok (.ldc2_w 51, 3) := by decide +kernel
theorem dX5_alloc_6 : decode cX5_alloc 6 = .ok (.invokestatic 53, 3) := by decide +kernel
theorem dX5_alloc_9 : decode cX5_alloc 9 = .ok (.ifCond .ne 6, 3) := by decide +kernel
theorem dX5_alloc_12 : decode cX5_alloc 12 = .ok (.bipush (-2), 2) := by decide +kernel
theorem dX5_alloc_14 : decode cX5_alloc 14 = .ok (.ireturn, 1) := by decide +kernel
theorem dX5_alloc_15 : decode cX5_alloc 15 = .ok (.aload_n 0, 1) := by decide +kernel
theorem dX5_alloc_16 : decode cX5_alloc 16 = .ok (.getfield 35, 3) := by decide +kernel
theorem dX5_alloc_19 : decode cX5_alloc 19 = .ok (.ifCond .eq 6, 3) := by decide +kernel
theorem dX5_alloc_22 : decode cX5_alloc 22 = .ok (.bipush (-3), 2) := by decide +kernel
theorem dX5_alloc_24 : decode cX5_alloc 24 = .ok (.ireturn, 1) := by decide +kernel
theorem dX5_alloc_25 : decode cX5_alloc 25 = .ok (.aload_n 0, 1) := by decide +kernel
theorem dX5_alloc_26 : decode cX5_alloc 26 = .ok (.iload_n 1, 1) := by decide +kernel
theorem dX5_alloc_27 : decode cX5_alloc 27 = .ok (.invokevirtual 86, 3) := by decide +kernel
theorem dX5_alloc_30 : decode cX5_alloc 30 = .ok (.istore_n 2, 1) := by decide +kernel
theorem dX5_alloc_31 : decode cX5_alloc 31 = .ok (.iload_n 2, 1) := by decide +kernel
theorem dX5_alloc_32 : decode cX5_alloc 32 = .ok (.ifCond .ne 15, 3) := by decide +kernel
theorem dX5_alloc_35 : decode cX5_alloc 35 = .ok (.aload_n 0, 1) := by decide +kernel
theorem dX5_alloc_36 : decode cX5_alloc 36 = .ok (.dup, 1) := by decide +kernel
theorem dX5_alloc_37 : decode cX5_alloc 37 = .ok (.getfield 39, 3) := by decide +kernel
theorem dX5_alloc_40 : decode cX5_alloc 40 = .ok (.iconst 1, 1) := by decide +kernel
theorem dX5_alloc_41 : decode cX5_alloc 41 = .ok (.iadd, 1) := by decide +kernel
theorem dX5_alloc_42 : decode cX5_alloc 42 = .ok (.putfield 39, 3) := by decide +kernel
theorem dX5_alloc_45 : decode cX5_alloc 45 = .ok (.iconst (-1), 1) := by decide +kernel
theorem dX5_alloc_46 : decode cX5_alloc 46 = .ok (.ireturn, 1) := by decide +kernel
theorem dX5_alloc_47 : decode cX5_alloc 47 = .ok (.aload_n 0, 1) := by decide +kernel
theorem dX5_alloc_48 : decode cX5_alloc 48 = .ok (.iconst 0, 1) := by decide +kernel
theorem dX5_alloc_49 : decode cX5_alloc 49 = .ok (.putfield 46, 3) := by decide +kernel
theorem dX5_alloc_52 : decode cX5_alloc 52 = .ok (.aload_n 0, 1) := by decide +kernel
theorem dX5_alloc_53 : decode cX5_alloc 53 = .ok (.iload_n 2, 1) := by decide +kernel
theorem dX5_alloc_54 : decode cX5_alloc 54 = .ok (.invokevirtual 89, 3) := by decide +kernel
theorem dX5_alloc_57 : decode cX5_alloc 57 = .ok (.aload_n 0, 1) := by decide +kernel
theorem dX5_alloc_58 : decode cX5_alloc 58 = .ok (.iload_n 2, 1) := by decide +kernel
theorem dX5_alloc_59 : decode cX5_alloc 59 = .ok (.aload_n 0, 1) := by decide +kernel
theorem dX5_alloc_60 : decode cX5_alloc 60 = .ok (.iload_n 2, 1) := by decide +kernel
theorem dX5_alloc_61 : decode cX5_alloc 61 = .ok (.invokevirtual 66, 3) := by decide +kernel
theorem dX5_alloc_64 : decode cX5_alloc 64 = .ok (.iload_n 1, 1) := by decide +kernel
theorem dX5_alloc_65 : decode cX5_alloc 65 = .ok (.invokestatic 92, 3) := by decide +kernel
theorem dX5_alloc_68 : decode cX5_alloc 68 = .ok (.lconst 0, 1) := by decide +kernel
theorem dX5_alloc_69 : decode cX5_alloc 69 = .ok (.invokevirtual 95, 3) := by decide +kernel
theorem dX5_alloc_72 : decode cX5_alloc 72 = .ok (.iload_n 2, 1) := by decide +kernel
theorem dX5_alloc_73 : decode cX5_alloc 73 = .ok (.ireturn, 1) := by decide +kernel
theorem dX5_aligned_0 : decode cX5_aligned 0 = .ok (.iload_n 2, 1) := by decide +kernel
theorem dX5_aligned_1 : decode cX5_aligned 1 = .ok (.iconst 2, 1) := by decide +kernel
theorem dX5_aligned_2 : decode cX5_aligned 2 = .ok (.if_icmp .eq 32, 3) := by decide +kernel
theorem dX5_aligned_5 : decode cX5_aligned 5 = .ok (.iload_n 2, 1) := by decide +kernel
theorem dX5_aligned_6 : decode cX5_aligned 6 = .ok (.iconst 4, 1) := by decide +kernel
theorem dX5_aligned_7 : decode cX5_aligned 7 = .ok (.if_icmp .eq 27, 3) := by decide +kernel
theorem dX5_aligned_10 : decode cX5_aligned 10 = .ok (.iload_n 2, 1) := by decide +kernel
theorem dX5_aligned_11 : decode cX5_aligned 11 = .ok (.bipush 8, 2) := by decide +kernel
theorem dX5_aligned_13 : decode cX5_aligned 13 = .ok (.if_icmp .eq 21, 3) := by decide +kernel
theorem dX5_aligned_16 : decode cX5_aligned 16 = .ok (.iload_n 2, 1) := by decide +kernel
theorem dX5_aligned_17 : decode cX5_aligned 17 = .ok (.bipush 16, 2) := by decide +kernel
theorem dX5_aligned_19 : decode cX5_aligned 19 = .ok (.if_icmp .eq 15, 3) := by decide +kernel
theorem dX5_aligned_22 : decode cX5_aligned 22 = .ok (.iload_n 2, 1) := by decide +kernel
theorem dX5_aligned_23 : decode cX5_aligned 23 = .ok (.bipush 32, 2) := by decide +kernel
theorem dX5_aligned_25 : decode cX5_aligned 25 = .ok (.if_icmp .eq 9, 3) := by decide +kernel
theorem dX5_aligned_28 : decode cX5_aligned 28 = .ok (.iload_n 2, 1) := by decide +kernel
theorem dX5_aligned_29 : decode cX5_aligned 29 = .ok (.bipush 64, 2) := by decide +kernel
theorem dX5_aligned_31 : decode cX5_aligned 31 = .ok (.if_icmp .ne 7, 3) := by decide +kernel
theorem dX5_aligned_34 : decode cX5_aligned 34 = .ok (.iconst 1, 1) := by decide +kernel
theorem dX5_aligned_35 : decode cX5_aligned 35 = .ok (.goto 4, 3) := by decide +kernel
theorem dX5_aligned_38 : decode cX5_aligned 38 = .ok (.iconst 0, 1) := by decide +kernel
theorem dX5_aligned_39 : decode cX5_aligned 39 = .ok (.istore_n 3, 1) := by decide +kernel
theorem dX5_aligned_40 : decode cX5_aligned 40 = .ok (.iload_n 1, 1) := by decide +kernel
theorem dX5_aligned_41 : decode cX5_aligned 41 = .ok (.i2l, 1) := by decide +kernel
theorem dX5_aligned_42 : decode cX5_aligned 42 = .ok (.lconst 1, 1) := by decide +kernel
theorem dX5_aligned_43 : decode cX5_aligned 43 = .ok (.ldc2_w 51, 3) := by decide +kernel
theorem dX5_aligned_46 : decode cX5_aligned 46 = .ok (.invokestatic 53, 3) := by decide +kernel
theorem dX5_aligned_49 : decode cX5_aligned 49 = .ok (.ifCond .eq 7, 3) := by decide +kernel
theorem dX5_aligned_52 : decode cX5_aligned 52 = .ok (.iload_n 3, 1) := by decide +kernel
theorem dX5_aligned_53 : decode cX5_aligned 53 = .ok (.ifCond .ne 6, 3) := by decide +kernel
theorem dX5_aligned_56 : decode cX5_aligned 56 = .ok (.bipush (-2), 2) := by decide +kernel
theorem dX5_aligned_58 : decode cX5_aligned 58 = .ok (.ireturn, 1) := by decide +kernel
theorem dX5_aligned_59 : decode cX5_aligned 59 = .ok (.aload_n 0, 1) := by decide +kernel
theorem dX5_aligned_60 : decode cX5_aligned 60 = .ok (.getfield 35, 3) := by decide +kernel
theorem dX5_aligned_63 : decode cX5_aligned 63 = .ok (.ifCond .eq 6, 3) := by decide +kernel
theorem dX5_aligned_66 : decode cX5_aligned 66 = .ok (.bipush (-3), 2) := by decide +kernel
theorem dX5_aligned_68 : decode cX5_aligned 68 = .ok (.ireturn, 1) := by decide +kernel
theorem dX5_aligned_69 : decode cX5_aligned 69 = .ok (.aload_n 0, 1) := by decide +kernel
theorem dX5_aligned_70 : decode cX5_aligned 70 = .ok (.iload_n 1, 1) := by decide +kernel
theorem dX5_aligned_71 : decode cX5_aligned 71 = .ok (.invokestatic 92, 3) := by decide +kernel
theorem dX5_aligned_74 : decode cX5_aligned 74 = .ok (.iload_n 2, 1) := by decide +kernel
theorem dX5_aligned_75 : decode cX5_aligned 75 = .ok (.iadd, 1) := by decide +kernel
theorem dX5_aligned_76 : decode cX5_aligned 76 = .ok (.iconst 3, 1) := by decide +kernel
theorem dX5_aligned_77 : decode cX5_aligned 77 = .ok (.iadd, 1) := by decide +kernel
theorem dX5_aligned_78 : decode cX5_aligned 78 = .ok (.invokevirtual 86, 3) := by decide +kernel
theorem dX5_aligned_81 : decode cX5_aligned 81 = .ok (.istore 4, 2) := by decide +kernel
theorem dX5_aligned_83 : decode cX5_aligned 83 = .ok (.iload 4, 2) := by decide +kernel
theorem dX5_aligned_85 : decode cX5_aligned 85 = .ok (.ifCond .ne 15, 3) := by decide +kernel
theorem dX5_aligned_88 : decode cX5_aligned 88 = .ok (.aload_n 0, 1) := by decide +kernel
theorem dX5_aligned_89 : decode cX5_aligned 89 = .ok (.dup, 1) := by decide +kernel
theorem dX5_aligned_90 : decode cX5_aligned 90 = .ok (.getfield 39, 3) := by decide +kernel
theorem dX5_aligned_93 : decode cX5_aligned 93 = .ok (.iconst 1, 1) := by decide +kernel
theorem dX5_aligned_94 : decode cX5_aligned 94 = .ok (.iadd, 1) := by decide +kernel
theorem dX5_aligned_95 : decode cX5_aligned 95 = .ok (.putfield 39, 3) := by decide +kernel
theorem dX5_aligned_98 : decode cX5_aligned 98 = .ok (.iconst (-1), 1) := by decide +kernel
theorem dX5_aligned_99 : decode cX5_aligned 99 = .ok (.ireturn, 1) := by decide +kernel
theorem dX5_aligned_100 : decode cX5_aligned 100 = .ok (.aload_n 0, 1) := by decide +kernel
theorem dX5_aligned_101 : decode cX5_aligned 101 = .ok (.iconst 0, 1) := by decide +kernel
theorem dX5_aligned_102 : decode cX5_aligned 102 = .ok (.putfield 46, 3) := by decide +kernel
theorem dX5_aligned_105 : decode cX5_aligned 105 = .ok (.aload_n 0, 1) := by decide +kernel
theorem dX5_aligned_106 : decode cX5_aligned 106 = .ok (.iload 4, 2) := by decide +kernel
theorem dX5_aligned_108 : decode cX5_aligned 108 = .ok (.invokevirtual 89, 3) := by decide +kernel
theorem dX5_aligned_111 : decode cX5_aligned 111 = .ok (.aload_n 0, 1) := by decide +kernel
theorem dX5_aligned_112 : decode cX5_aligned 112 = .ok (.iload 4, 2) := by decide +kernel
theorem dX5_aligned_114 : decode cX5_aligned 114 = .ok (.invokevirtual 66, 3) := by decide +kernel
theorem dX5_aligned_117 : decode cX5_aligned 117 = .ok (.istore 5, 2) := by decide +kernel
theorem dX5_aligned_119 : decode cX5_aligned 119 = .ok (.iload 4, 2) := by decide +kernel
theorem dX5_aligned_121 : decode cX5_aligned 121 = .ok (.istore 6, 2) := by decide +kernel
theorem dX5_aligned_123 : decode cX5_aligned 123 = .ok (.iload 4, 2) := by decide +kernel
theorem dX5_aligned_125 : decode cX5_aligned 125 = .ok (.iload_n 2, 1) := by decide +kernel
theorem dX5_aligned_126 : decode cX5_aligned 126 = .ok (.irem, 1) := by decide +kernel
theorem dX5_aligned_127 : decode cX5_aligned 127 = .ok (.ifCond .eq 17, 3) := by decide +kernel
theorem dX5_aligned_130 : decode cX5_aligned 130 = .ok (.iload 4, 2) := by decide +kernel
theorem dX5_aligned_132 : decode cX5_aligned 132 = .ok (.iconst 4, 1) := by decide +kernel
theorem dX5_aligned_133 : decode cX5_aligned 133 = .ok (.iadd, 1) := by decide +kernel
theorem dX5_aligned_134 : decode cX5_aligned 134 = .ok (.iload_n 2, 1) := by decide +kernel
theorem dX5_aligned_135 : decode cX5_aligned 135 = .ok (.iadd, 1) := by decide +kernel
theorem dX5_aligned_136 : decode cX5_aligned 136 = .ok (.iconst 1, 1) := by decide +kernel
theorem dX5_aligned_137 : decode cX5_aligned 137 = .ok (.isub, 1) := by decide +kernel
theorem dX5_aligned_138 : decode cX5_aligned 138 = .ok (.iload_n 2, 1) := by decide +kernel
theorem dX5_aligned_139 : decode cX5_aligned 139 = .ok (.idiv, 1) := by decide +kernel
theorem dX5_aligned_140 : decode cX5_aligned 140 = .ok (.iload_n 2, 1) := by decide +kernel
theorem dX5_aligned_141 : decode cX5_aligned 141 = .ok (.imul, 1) := by decide +kernel
theorem dX5_aligned_142 : decode cX5_aligned 142 = .ok (.istore 6, 2) := by decide +kernel
theorem dX5_aligned_144 : decode cX5_aligned 144 = .ok (.iload 6, 2) := by decide +kernel
theorem dX5_aligned_146 : decode cX5_aligned 146 = .ok (.iload 4, 2) := by decide +kernel
theorem dX5_aligned_148 : decode cX5_aligned 148 = .ok (.if_icmp .eq 39, 3) := by decide +kernel
theorem dX5_aligned_151 : decode cX5_aligned 151 = .ok (.aload_n 0, 1) := by decide +kernel
theorem dX5_aligned_152 : decode cX5_aligned 152 = .ok (.getfield 7, 3) := by decide +kernel
theorem dX5_aligned_155 : decode cX5_aligned 155 = .ok (.iload 6, 2) := by decide +kernel
theorem dX5_aligned_157 : decode cX5_aligned 157 = .ok (.iconst 1, 1) := by decide +kernel
theorem dX5_aligned_158 : decode cX5_aligned 158 = .ok (.isub, 1) := by decide +kernel
theorem dX5_aligned_159 : decode cX5_aligned 159 = .ok (.ldc2_w 73, 3) := by decide +kernel
theorem dX5_aligned_162 : decode cX5_aligned 162 = .ok (.iload 5, 2) := by decide +kernel
theorem dX5_aligned_164 : decode cX5_aligned 164 = .ok (.iload 6, 2) := by decide +kernel
theorem dX5_aligned_166 : decode cX5_aligned 166 = .ok (.iload 4, 2) := by decide +kernel
theorem dX5_aligned_168 : decode cX5_aligned 168 = .ok (.isub, 1) := by decide +kernel
theorem dX5_aligned_169 : decode cX5_aligned 169 = .ok (.isub, 1) := by decide +kernel
theorem dX5_aligned_170 : decode cX5_aligned 170 = .ok (.i2l, 1) := by decide +kernel
theorem dX5_aligned_171 : decode cX5_aligned 171 = .ok (.lmul, 1) := by decide +kernel
theorem dX5_aligned_172 : decode cX5_aligned 172 = .ok (.lastore, 1) := by decide +kernel
theorem dX5_aligned_173 : decode cX5_aligned 173 = .ok (.aload_n 0, 1) := by decide +kernel
theorem dX5_aligned_174 : decode cX5_aligned 174 = .ok (.iload 4, 2) := by decide +kernel
theorem dX5_aligned_176 : decode cX5_aligned 176 = .ok (.iload 6, 2) := by decide +kernel
theorem dX5_aligned_178 : decode cX5_aligned 178 = .ok (.iload 4, 2) := by decide +kernel
theorem dX5_aligned_180 : decode cX5_aligned 180 = .ok (.isub, 1) := by decide +kernel
theorem dX5_aligned_181 : decode cX5_aligned 181 = .ok (.iconst 1, 1) := by decide +kernel
theorem dX5_aligned_182 : decode cX5_aligned 182 = .ok (.isub, 1) := by decide +kernel
theorem dX5_aligned_183 : decode cX5_aligned 183 = .ok (.lconst 0, 1) := by decide +kernel
theorem dX5_aligned_184 : decode cX5_aligned 184 = .ok (.invokevirtual 42, 3) := by decide +kernel
theorem dX5_aligned_187 : decode cX5_aligned 187 = .ok (.aload_n 0, 1) := by decide +kernel
theorem dX5_aligned_188 : decode cX5_aligned 188 = .ok (.iload 6, 2) := by decide +kernel
theorem dX5_aligned_190 : decode cX5_aligned 190 = .ok (.iload 5, 2) := by decide +kernel
theorem dX5_aligned_192 : decode cX5_aligned 192 = .ok (.iload 6, 2) := by decide +kernel
theorem dX5_aligned_194 : decode cX5_aligned 194 = .ok (.iload 4, 2) := by decide +kernel
theorem dX5_aligned_196 : decode cX5_aligned 196 = .ok (.isub, 1) := by decide +kernel
theorem dX5_aligned_197 : decode cX5_aligned 197 = .ok (.isub, 1) := by decide +kernel
theorem dX5_aligned_198 : decode cX5_aligned 198 = .ok (.iload_n 1, 1) := by decide +kernel
theorem dX5_aligned_199 : decode cX5_aligned 199 = .ok (.invokestatic 92, 3) := by decide +kernel
theorem dX5_aligned_202 : decode cX5_aligned 202 = .ok (.iload 6, 2) := by decide +kernel
theorem dX5_aligned_204 : decode cX5_aligned 204 = .ok (.iload 4, 2) := by decide +kernel
theorem dX5_aligned_206 : decode cX5_aligned 206 = .ok (.if_icmp .ne 7, 3) := by decide +kernel
theorem dX5_aligned_209 : decode cX5_aligned 209 = .ok (.lconst 0, 1) := by decide +kernel
theorem dX5_aligned_210 : decode cX5_aligned 210 = .ok (.goto 6, 3) := by decide +kernel
theorem dX5_aligned_213 : decode cX5_aligned 213 = .ok (.ldc2_w 69, 3) := by decide +kernel
theorem dX5_aligned_216 : decode cX5_aligned 216 = .ok (.invokevirtual 95, 3) := by decide +kernel
theorem dX5_aligned_219 : decode cX5_aligned 219 = .ok (.iload 6, 2) := by decide +kernel
theorem dX5_aligned_221 : decode cX5_aligned 221 = .ok (.ireturn, 1) := by decide +kernel
theorem dX5_release_0 : decode cX5_release 0 = .ok (.iload_n 1, 1) := by decide +kernel
theorem dX5_release_1 : decode cX5_release 1 = .ok (.istore_n 2, 1) := by decide +kernel
theorem dX5_release_2 : decode cX5_release 2 = .ok (.aload_n 0, 1) := by decide +kernel
theorem dX5_release_3 : decode cX5_release 3 = .ok (.iload_n 1, 1) := by decide +kernel
theorem dX5_release_4 : decode cX5_release 4 = .ok (.invokevirtual 66, 3) := by decide +kernel
theorem dX5_release_7 : decode cX5_release 7 = .ok (.istore_n 3, 1) := by decide +kernel
theorem dX5_release_8 : decode cX5_release 8 = .ok (.aload_n 0, 1) := by decide +kernel
theorem dX5_release_9 : decode cX5_release 9 = .ok (.iload_n 1, 1) := by decide +kernel
theorem dX5_release_10 : decode cX5_release 10 = .ok (.invokevirtual 75, 3) := by decide +kernel
theorem dX5_release_13 : decode cX5_release 13 = .ok (.istore 4, 2) := by decide +kernel
theorem dX5_release_15 : decode cX5_release 15 = .ok (.iload 4, 2) := by decide +kernel
theorem dX5_release_17 : decode cX5_release 17 = .ok (.ifCond .le 29, 3) := by decide +kernel
theorem dX5_release_20 : decode cX5_release 20 = .ok (.aload_n 0, 1) := by decide +kernel
theorem dX5_release_21 : decode cX5_release 21 = .ok (.iload 4, 2) := by decide +kernel
theorem dX5_release_23 : decode cX5_release 23 = .ok (.invokevirtual 82, 3) := by decide +kernel
theorem dX5_release_26 : decode cX5_release 26 = .ok (.ifCond .eq 20, 3) := by decide +kernel
theorem dX5_release_29 : decode cX5_release 29 = .ok (.aload_n 0, 1) := by decide +kernel
theorem dX5_release_30 : decode cX5_release 30 = .ok (.iload 4, 2) := by decide +kernel
theorem dX5_release_32 : decode cX5_release 32 = .ok (.invokevirtual 89, 3) := by decide +kernel
theorem dX5_release_35 : decode cX5_release 35 = .ok (.iload_n 3, 1) := by decide +kernel
theorem dX5_release_36 : decode cX5_release 36 = .ok (.iconst 1, 1) := by decide +kernel
theorem dX5_release_37 : decode cX5_release 37 = .ok (.aload_n 0, 1) := by decide +kernel
theorem dX5_release_38 : decode cX5_release 38 = .ok (.iload 4, 2) := by decide +kernel
theorem dX5_release_40 : decode cX5_release 40 = .ok (.invokevirtual 66, 3) := by decide +kernel
theorem dX5_release_43 : decode cX5_release 43 = .ok (.iadd, 1) := by decide +kernel
theorem dX5_release_44 : decode cX5_release 44 = .ok (.iadd, 1) := by decide +kernel
theorem dX5_release_45 : decode cX5_release 45 = .ok (.istore_n 3, 1) := by decide +kernel
theorem dX5_release_46 : decode cX5_release 46 = .ok (.aload_n 0, 1) := by decide +kernel
theorem dX5_release_47 : decode cX5_release 47 = .ok (.getfield 7, 3) := by decide +kernel
theorem dX5_release_50 : decode cX5_release 50 = .ok (.iload_n 1, 1) := by decide +kernel
theorem dX5_release_51 : decode cX5_release 51 = .ok (.iconst 1, 1) := by decide +kernel
theorem dX5_release_52 : decode cX5_release 52 = .ok (.isub, 1) := by decide +kernel
theorem dX5_release_53 : decode cX5_release 53 = .ok (.laload, 1) := by decide +kernel
theorem dX5_release_54 : decode cX5_release 54 = .ok (.ldc2_w 69, 3) := by decide +kernel
theorem dX5_release_57 : decode cX5_release 57 = .ok (.land, 1) := by decide +kernel
theorem dX5_release_58 : decode cX5_release 58 = .ok (.ldc2_w 69, 3) := by decide +kernel
theorem dX5_release_61 : decode cX5_release 61 = .ok (.lcmp, 1) := by decide +kernel
theorem dX5_release_62 : decode cX5_release 62 = .ok (.ifCond .ne 33, 3) := by decide +kernel
theorem dX5_release_65 : decode cX5_release 65 = .ok (.aload_n 0, 1) := by decide +kernel
theorem dX5_release_66 : decode cX5_release 66 = .ok (.getfield 7, 3) := by decide +kernel
theorem dX5_release_69 : decode cX5_release 69 = .ok (.iload_n 1, 1) := by decide +kernel
theorem dX5_release_70 : decode cX5_release 70 = .ok (.iconst 2, 1) := by decide +kernel
theorem dX5_release_71 : decode cX5_release 71 = .ok (.isub, 1) := by decide +kernel
theorem dX5_release_72 : decode cX5_release 72 = .ok (.laload, 1) := by decide +kernel
theorem dX5_release_73 : decode cX5_release 73 = .ok (.l2i, 1) := by decide +kernel
theorem dX5_release_74 : decode cX5_release 74 = .ok (.istore 5, 2) := by decide +kernel
theorem dX5_release_76 : decode cX5_release 76 = .ok (.iload_n 1, 1) := by decide +kernel
theorem dX5_release_77 : decode cX5_release 77 = .ok (.iconst 1, 1) := by decide +kernel
theorem dX5_release_78 : decode cX5_release 78 = .ok (.isub, 1) := by decide +kernel
theorem dX5_release_79 : decode cX5_release 79 = .ok (.iload 5, 2) := by decide +kernel
theorem dX5_release_81 : decode cX5_release 81 = .ok (.isub, 1) := by decide +kernel
theorem dX5_release_82 : decode cX5_release 82 = .ok (.istore_n 2, 1) := by decide +kernel
theorem dX5_release_83 : decode cX5_release 83 = .ok (.aload_n 0, 1) := by decide +kernel
theorem dX5_release_84 : decode cX5_release 84 = .ok (.iload_n 2, 1) := by decide +kernel
theorem dX5_release_85 : decode cX5_release 85 = .ok (.invokevirtual 89, 3) := by decide +kernel
theorem dX5_release_88 : decode cX5_release 88 = .ok (.iload_n 3, 1) := by decide +kernel
theorem dX5_release_89 : decode cX5_release 89 = .ok (.iconst 1, 1) := by decide +kernel
theorem dX5_release_90 : decode cX5_release 90 = .ok (.iload 5, 2) := by decide +kernel
theorem dX5_release_92 : decode cX5_release 92 = .ok (.iadd, 1) := by decide +kernel
theorem dX5_release_93 : decode cX5_release 93 = .ok (.iadd, 1) := by decide +kernel
theorem dX5_release_94 : decode cX5_release 94 = .ok (.istore_n 3, 1) := by decide +kernel
theorem dX5_release_95 : decode cX5_release 95 = .ok (.aload_n 0, 1) := by decide +kernel
theorem dX5_release_96 : decode cX5_release 96 = .ok (.iload_n 2, 1) := by decide +kernel
theorem dX5_release_97 : decode cX5_release 97 = .ok (.iload_n 3, 1) := by decide +kernel
theorem dX5_release_98 : decode cX5_release 98 = .ok (.lconst 0, 1) := by decide +kernel
theorem dX5_release_99 : decode cX5_release 99 = .ok (.invokevirtual 42, 3) := by decide +kernel
theorem dX5_release_102 : decode cX5_release 102 = .ok (.iload_n 3, 1) := by decide +kernel
theorem dX5_release_103 : decode cX5_release 103 = .ok (.ireturn, 1) := by decide +kernel
theorem dX5_free_0 : decode cX5_free 0 = .ok (.aload_n 0, 1) := by decide +kernel
theorem dX5_free_1 : decode cX5_free 1 = .ok (.iload_n 1, 1) := by decide +kernel
theorem dX5_free_2 : decode cX5_free 2 = .ok (.invokevirtual 99, 3) := by decide +kernel
theorem dX5_free_5 : decode cX5_free 5 = .ok (.ifCond .eq 6, 3) := by decide +kernel
theorem dX5_free_8 : decode cX5_free 8 = .ok (.bipush (-2), 2) := by decide +kernel
theorem dX5_free_10 : decode cX5_free 10 = .ok (.ireturn, 1) := by decide +kernel
theorem dX5_free_11 : decode cX5_free 11 = .ok (.aload_n 0, 1) := by decide +kernel
theorem dX5_free_12 : decode cX5_free 12 = .ok (.getfield 35, 3) := by decide +kernel
theorem dX5_free_15 : decode cX5_free 15 = .ok (.ifCond .eq 6, 3) := by decide +kernel
theorem dX5_free_18 : decode cX5_free 18 = .ok (.bipush (-3), 2) := by decide +kernel
theorem dX5_free_20 : decode cX5_free 20 = .ok (.ireturn, 1) := by decide +kernel
theorem dX5_free_21 : decode cX5_free 21 = .ok (.aload_n 0, 1) := by decide +kernel
theorem dX5_free_22 : decode cX5_free 22 = .ok (.iconst 0, 1) := by decide +kernel
theorem dX5_free_23 : decode cX5_free 23 = .ok (.putfield 46, 3) := by decide +kernel
theorem dX5_free_26 : decode cX5_free 26 = .ok (.aload_n 0, 1) := by decide +kernel
theorem dX5_free_27 : decode cX5_free 27 = .ok (.iload_n 1, 1) := by decide +kernel
theorem dX5_free_28 : decode cX5_free 28 = .ok (.invokevirtual 102, 3) := by decide +kernel
theorem dX5_free_31 : decode cX5_free 31 = .ok (.ireturn, 1) := by decide +kernel
theorem dX5_moved_0 : decode cX5_moved 0 = .ok (.aload_n 0, 1) := by decide +kernel
theorem dX5_moved_1 : decode cX5_moved 1 = .ok (.iload_n 3, 1) := by decide +kernel
theorem dX5_moved_2 : decode cX5_moved 2 = .ok (.invokevirtual 86, 3) := by decide +kernel
theorem dX5_moved_5 : decode cX5_moved 5 = .ok (.istore 4, 2) := by decide +kernel
theorem dX5_moved_7 : decode cX5_moved 7 = .ok (.iload 4, 2) := by decide +kernel
theorem dX5_moved_9 : decode cX5_moved 9 = .ok (.ifCond .ne 15, 3) := by decide +kernel
theorem dX5_moved_12 : decode cX5_moved 12 = .ok (.aload_n 0, 1) := by decide +kernel
theorem dX5_moved_13 : decode cX5_moved 13 = .ok (.dup, 1) := by decide +kernel
theorem dX5_moved_14 : decode cX5_moved 14 = .ok (.getfield 39, 3) := by decide +kernel
theorem dX5_moved_17 : decode cX5_moved 17 = .ok (.iconst 1, 1) := by decide +kernel
theorem dX5_moved_18 : decode cX5_moved 18 = .ok (.iadd, 1) := by decide +kernel
theorem dX5_moved_19 : decode cX5_moved 19 = .ok (.putfield 39, 3) := by decide +kernel
theorem dX5_moved_22 : decode cX5_moved 22 = .ok (.iconst (-1), 1) := by decide +kernel
theorem dX5_moved_23 : decode cX5_moved 23 = .ok (.ireturn, 1) := by decide +kernel
theorem dX5_moved_24 : decode cX5_moved 24 = .ok (.aload_n 0, 1) := by decide +kernel
theorem dX5_moved_25 : decode cX5_moved 25 = .ok (.iconst 0, 1) := by decide +kernel
theorem dX5_moved_26 : decode cX5_moved 26 = .ok (.putfield 46, 3) := by decide +kernel
theorem dX5_moved_29 : decode cX5_moved 29 = .ok (.aload_n 0, 1) := by decide +kernel
theorem dX5_moved_30 : decode cX5_moved 30 = .ok (.iload 4, 2) := by decide +kernel
theorem dX5_moved_32 : decode cX5_moved 32 = .ok (.invokevirtual 89, 3) := by decide +kernel
theorem dX5_moved_35 : decode cX5_moved 35 = .ok (.aload_n 0, 1) := by decide +kernel
theorem dX5_moved_36 : decode cX5_moved 36 = .ok (.iload 4, 2) := by decide +kernel
theorem dX5_moved_38 : decode cX5_moved 38 = .ok (.aload_n 0, 1) := by decide +kernel
theorem dX5_moved_39 : decode cX5_moved 39 = .ok (.iload 4, 2) := by decide +kernel
theorem dX5_moved_41 : decode cX5_moved 41 = .ok (.invokevirtual 66, 3) := by decide +kernel
theorem dX5_moved_44 : decode cX5_moved 44 = .ok (.iload_n 3, 1) := by decide +kernel
theorem dX5_moved_45 : decode cX5_moved 45 = .ok (.lconst 0, 1) := by decide +kernel
theorem dX5_moved_46 : decode cX5_moved 46 = .ok (.invokevirtual 95, 3) := by decide +kernel
theorem dX5_moved_49 : decode cX5_moved 49 = .ok (.iconst 0, 1) := by decide +kernel
theorem dX5_moved_50 : decode cX5_moved 50 = .ok (.istore 5, 2) := by decide +kernel
theorem dX5_moved_52 : decode cX5_moved 52 = .ok (.iload 5, 2) := by decide +kernel
theorem dX5_moved_54 : decode cX5_moved 54 = .ok (.iload_n 2, 1) := by decide +kernel
theorem dX5_moved_55 : decode cX5_moved 55 = .ok (.if_icmp .ge 28, 3) := by decide +kernel
theorem dX5_moved_58 : decode cX5_moved 58 = .ok (.aload_n 0, 1) := by decide +kernel
theorem dX5_moved_59 : decode cX5_moved 59 = .ok (.getfield 7, 3) := by decide +kernel
theorem dX5_moved_62 : decode cX5_moved 62 = .ok (.iload 4, 2) := by decide +kernel
theorem dX5_moved_64 : decode cX5_moved 64 = .ok (.iload 5, 2) := by decide +kernel
theorem dX5_moved_66 : decode cX5_moved 66 = .ok (.iadd, 1) := by decide +kernel
theorem dX5_moved_67 : decode cX5_moved 67 = .ok (.aload_n 0, 1) := by decide +kernel
theorem dX5_moved_68 : decode cX5_moved 68 = .ok (.getfield 7, 3) := by decide +kernel
theorem dX5_moved_71 : decode cX5_moved 71 = .ok (.iload_n 1, 1) := by decide +kernel
theorem dX5_moved_72 : decode cX5_moved 72 = .ok (.iload 5, 2) := by decide +kernel
theorem dX5_moved_74 : decode cX5_moved 74 = .ok (.iadd, 1) := by decide +kernel
theorem dX5_moved_75 : decode cX5_moved 75 = .ok (.laload, 1) := by decide +kernel
theorem dX5_moved_76 : decode cX5_moved 76 = .ok (.lastore, 1) := by decide +kernel
theorem dX5_moved_77 : decode cX5_moved 77 = .ok (.iinc 5 1, 3) := by decide +kernel
theorem dX5_moved_80 : decode cX5_moved 80 = .ok (.goto (-28), 3) := by decide +kernel
theorem dX5_moved_83 : decode cX5_moved 83 = .ok (.aload_n 0, 1) := by decide +kernel
theorem dX5_moved_84 : decode cX5_moved 84 = .ok (.iload_n 1, 1) := by decide +kernel
theorem dX5_moved_85 : decode cX5_moved 85 = .ok (.invokevirtual 102, 3) := by decide +kernel
theorem dX5_moved_88 : decode cX5_moved 88 = .ok (.pop, 1) := by decide +kernel
theorem dX5_moved_89 : decode cX5_moved 89 = .ok (.iload 4, 2) := by decide +kernel
theorem dX5_moved_91 : decode cX5_moved 91 = .ok (.ireturn, 1) := by decide +kernel
theorem dX5_resize_0 : decode cX5_resize 0 = .ok (.aload_n 0, 1) := by decide +kernel
theorem dX5_resize_1 : decode cX5_resize 1 = .ok (.iload_n 1, 1) := by decide +kernel
theorem dX5_resize_2 : decode cX5_resize 2 = .ok (.invokevirtual 99, 3) := by decide +kernel
theorem dX5_resize_5 : decode cX5_resize 5 = .ok (.ifCond .ne 15, 3) := by decide +kernel
theorem dX5_resize_8 : decode cX5_resize 8 = .ok (.iload_n 2, 1) := by decide +kernel
theorem dX5_resize_9 : decode cX5_resize 9 = .ok (.i2l, 1) := by decide +kernel
theorem dX5_resize_10 : decode cX5_resize 10 = .ok (.lconst 1, 1) := by decide +kernel
theorem dX5_resize_11 : decode cX5_resize 11 = .ok (.ldc2_w 51, 3) := by decide +kernel
theorem dX5_resize_14 : decode cX5_resize 14 = .ok (.invokestatic 53, 3) := by decide +kernel
theorem dX5_resize_17 : decode cX5_resize 17 = .ok (.ifCond .ne 6, 3) := by decide +kernel
theorem dX5_resize_20 : decode cX5_resize 20 = .ok (.bipush (-2), 2) := by decide +kernel
theorem dX5_resize_22 : decode cX5_resize 22 = .ok (.ireturn, 1) := by decide +kernel
theorem dX5_resize_23 : decode cX5_resize 23 = .ok (.aload_n 0, 1) := by decide +kernel
theorem dX5_resize_24 : decode cX5_resize 24 = .ok (.getfield 35, 3) := by decide +kernel
theorem dX5_resize_27 : decode cX5_resize 27 = .ok (.ifCond .eq 6, 3) := by decide +kernel
theorem dX5_resize_30 : decode cX5_resize 30 = .ok (.bipush (-3), 2) := by decide +kernel
theorem dX5_resize_32 : decode cX5_resize 32 = .ok (.ireturn, 1) := by decide +kernel
theorem dX5_resize_33 : decode cX5_resize 33 = .ok (.iload_n 2, 1) := by decide +kernel
theorem dX5_resize_34 : decode cX5_resize 34 = .ok (.invokestatic 92, 3) := by decide +kernel
theorem dX5_resize_37 : decode cX5_resize 37 = .ok (.istore_n 3, 1) := by decide +kernel
theorem dX5_resize_38 : decode cX5_resize 38 = .ok (.aload_n 0, 1) := by decide +kernel
theorem dX5_resize_39 : decode cX5_resize 39 = .ok (.iload_n 1, 1) := by decide +kernel
theorem dX5_resize_40 : decode cX5_resize 40 = .ok (.invokevirtual 66, 3) := by decide +kernel
theorem dX5_resize_43 : decode cX5_resize 43 = .ok (.istore 4, 2) := by decide +kernel
theorem dX5_resize_45 : decode cX5_resize 45 = .ok (.aload_n 0, 1) := by decide +kernel
theorem dX5_resize_46 : decode cX5_resize 46 = .ok (.getfield 7, 3) := by decide +kernel
theorem dX5_resize_49 : decode cX5_resize 49 = .ok (.iload_n 1, 1) := by decide +kernel
theorem dX5_resize_50 : decode cX5_resize 50 = .ok (.iconst 1, 1) := by decide +kernel
theorem dX5_resize_51 : decode cX5_resize 51 = .ok (.isub, 1) := by decide +kernel
theorem dX5_resize_52 : decode cX5_resize 52 = .ok (.laload, 1) := by decide +kernel
theorem dX5_resize_53 : decode cX5_resize 53 = .ok (.ldc2_w 69, 3) := by decide +kernel
theorem dX5_resize_56 : decode cX5_resize 56 = .ok (.land, 1) := by decide +kernel
theorem dX5_resize_57 : decode cX5_resize 57 = .ok (.lstore 5, 2) := by decide +kernel
theorem dX5_resize_59 : decode cX5_resize 59 = .ok (.aload_n 0, 1) := by decide +kernel
theorem dX5_resize_60 : decode cX5_resize 60 = .ok (.iload_n 1, 1) := by decide +kernel
theorem dX5_resize_61 : decode cX5_resize 61 = .ok (.invokevirtual 75, 3) := by decide +kernel
theorem dX5_resize_64 : decode cX5_resize 64 = .ok (.istore 7, 2) := by decide +kernel
theorem dX5_resize_66 : decode cX5_resize 66 = .ok (.iload 7, 2) := by decide +kernel
theorem dX5_resize_68 : decode cX5_resize 68 = .ok (.ifCond .le 16, 3) := by decide +kernel
theorem dX5_resize_71 : decode cX5_resize 71 = .ok (.aload_n 0, 1) := by decide +kernel
theorem dX5_resize_72 : decode cX5_resize 72 = .ok (.iload 7, 2) := by decide +kernel
theorem dX5_resize_74 : decode cX5_resize 74 = .ok (.invokevirtual 82, 3) := by decide +kernel
theorem dX5_resize_77 : decode cX5_resize 77 = .ok (.ifCond .eq 7, 3) := by decide +kernel
theorem dX5_resize_80 : decode cX5_resize 80 = .ok (.iconst 1, 1) := by decide +kernel
theorem dX5_resize_81 : decode cX5_resize 81 = .ok (.goto 4, 3) := by decide +kernel
theorem dX5_resize_84 : decode cX5_resize 84 = .ok (.iconst 0, 1) := by decide +kernel
theorem dX5_resize_85 : decode cX5_resize 85 = .ok (.istore 8, 2) := by decide +kernel
theorem dX5_resize_87 : decode cX5_resize 87 = .ok (.iload 8, 2) := by decide +kernel
theorem dX5_resize_89 : decode cX5_resize 89 = .ok (.ifCond .eq 17, 3) := by decide +kernel
theorem dX5_resize_92 : decode cX5_resize 92 = .ok (.iload 4, 2) := by decide +kernel
theorem dX5_resize_94 : decode cX5_resize 94 = .ok (.iconst 1, 1) := by decide +kernel
theorem dX5_resize_95 : decode cX5_resize 95 = .ok (.iadd, 1) := by decide +kernel
theorem dX5_resize_96 : decode cX5_resize 96 = .ok (.aload_n 0, 1) := by decide +kernel
theorem dX5_resize_97 : decode cX5_resize 97 = .ok (.iload 7, 2) := by decide +kernel
theorem dX5_resize_99 : decode cX5_resize 99 = .ok (.invokevirtual 66, 3) := by decide +kernel
theorem dX5_resize_102 : decode cX5_resize 102 = .ok (.iadd, 1) := by decide +kernel
theorem dX5_resize_103 : decode cX5_resize 103 = .ok (.goto 5, 3) := by decide +kernel
theorem dX5_resize_106 : decode cX5_resize 106 = .ok (.iload 4, 2) := by decide +kernel
theorem dX5_resize_108 : decode cX5_resize 108 = .ok (.istore 9, 2) := by decide +kernel
theorem dX5_resize_110 : decode cX5_resize 110 = .ok (.iload_n 3, 1) := by decide +kernel
theorem dX5_resize_111 : decode cX5_resize 111 = .ok (.iload 9, 2) := by decide +kernel
theorem dX5_resize_113 : decode cX5_resize 113 = .ok (.if_icmp .le 12, 3) := by decide +kernel
theorem dX5_resize_116 : decode cX5_resize 116 = .ok (.aload_n 0, 1) := by decide +kernel
theorem dX5_resize_117 : decode cX5_resize 117 = .ok (.iload_n 1, 1) := by decide +kernel
theorem dX5_resize_118 : decode cX5_resize 118 = .ok (.iload 4, 2) := by decide +kernel
theorem dX5_resize_120 : decode cX5_resize 120 = .ok (.iload_n 3, 1) := by decide +kernel
theorem dX5_resize_121 : decode cX5_resize 121 = .ok (.invokevirtual 105, 3) := by decide +kernel
theorem dX5_resize_124 : decode cX5_resize 124 = .ok (.ireturn, 1) := by decide +kernel
theorem dX5_resize_125 : decode cX5_resize 125 = .ok (.aload_n 0, 1) := by decide +kernel
theorem dX5_resize_126 : decode cX5_resize 126 = .ok (.iconst 0, 1) := by decide +kernel
theorem dX5_resize_127 : decode cX5_resize 127 = .ok (.putfield 46, 3) := by decide +kernel
theorem dX5_resize_130 : decode cX5_resize 130 = .ok (.iload_n 3, 1) := by decide +kernel
theorem dX5_resize_131 : decode cX5_resize 131 = .ok (.iload 4, 2) := by decide +kernel
theorem dX5_resize_133 : decode cX5_resize 133 = .ok (.if_icmp .gt 13, 3) := by decide +kernel
theorem dX5_resize_136 : decode cX5_resize 136 = .ok (.iload 4, 2) := by decide +kernel
theorem dX5_resize_138 : decode cX5_resize 138 = .ok (.iload_n 3, 1) := by decide +kernel
theorem dX5_resize_139 : decode cX5_resize 139 = .ok (.isub, 1) := by decide +kernel
theorem dX5_resize_140 : decode cX5_resize 140 = .ok (.iconst 4, 1) := by decide +kernel
theorem dX5_resize_141 : decode cX5_resize 141 = .ok (.if_icmp .ge 5, 3) := by decide +kernel
theorem dX5_resize_144 : decode cX5_resize 144 = .ok (.iload_n 1, 1) := by decide +kernel
theorem dX5_resize_145 : decode cX5_resize 145 = .ok (.ireturn, 1) := by decide +kernel
theorem dX5_resize_146 : decode cX5_resize 146 = .ok (.iload 8, 2) := by decide +kernel
theorem dX5_resize_148 : decode cX5_resize 148 = .ok (.ifCond .eq 9, 3) := by decide +kernel
theorem dX5_resize_151 : decode cX5_resize 151 = .ok (.aload_n 0, 1) := by decide +kernel
theorem dX5_resize_152 : decode cX5_resize 152 = .ok (.iload 7, 2) := by decide +kernel
theorem dX5_resize_154 : decode cX5_resize 154 = .ok (.invokevirtual 89, 3) := by decide +kernel
theorem dX5_resize_157 : decode cX5_resize 157 = .ok (.aload_n 0, 1) := by decide +kernel
theorem dX5_resize_158 : decode cX5_resize 158 = .ok (.iload_n 1, 1) := by decide +kernel
theorem dX5_resize_159 : decode cX5_resize 159 = .ok (.iload 9, 2) := by decide +kernel
theorem dX5_resize_161 : decode cX5_resize 161 = .ok (.iload_n 3, 1) := by decide +kernel
theorem dX5_resize_162 : decode cX5_resize 162 = .ok (.lload 5, 2) := by decide +kernel
theorem dX5_resize_164 : decode cX5_resize 164 = .ok (.invokevirtual 95, 3) := by decide +kernel
theorem dX5_resize_167 : decode cX5_resize 167 = .ok (.iload_n 1, 1) := by decide +kernel
theorem dX5_resize_168 : decode cX5_resize 168 = .ok (.ireturn, 1) := by decide +kernel
theorem dX5_grow_0 : decode cX5_grow 0 = .ok (.iload_n 1, 1) := by decide +kernel
theorem dX5_grow_1 : decode cX5_grow 1 = .ok (.i2l, 1) := by decide +kernel
theorem dX5_grow_2 : decode cX5_grow 2 = .ok (.ldc2_w 73, 3) := by decide +kernel
theorem dX5_grow_5 : decode cX5_grow 5 = .ok (.ldc2_w 109, 3) := by decide +kernel
theorem dX5_grow_8 : decode cX5_grow 8 = .ok (.invokestatic 53, 3) := by decide +kernel
theorem dX5_grow_11 : decode cX5_grow 11 = .ok (.ifCond .ne 6, 3) := by decide +kernel
theorem dX5_grow_14 : decode cX5_grow 14 = .ok (.bipush (-2), 2) := by decide +kernel
theorem dX5_grow_16 : decode cX5_grow 16 = .ok (.ireturn, 1) := by decide +kernel
theorem dX5_grow_17 : decode cX5_grow 17 = .ok (.aload_n 0, 1) := by decide +kernel
theorem dX5_grow_18 : decode cX5_grow 18 = .ok (.getfield 35, 3) := by decide +kernel
theorem dX5_grow_21 : decode cX5_grow 21 = .ok (.ifCond .eq 6, 3) := by decide +kernel
theorem dX5_grow_24 : decode cX5_grow 24 = .ok (.bipush (-3), 2) := by decide +kernel
theorem dX5_grow_26 : decode cX5_grow 26 = .ok (.ireturn, 1) := by decide +kernel
theorem dX5_grow_27 : decode cX5_grow 27 = .ok (.aload_n 0, 1) := by decide +kernel
theorem dX5_grow_28 : decode cX5_grow 28 = .ok (.getfield 32, 3) := by decide +kernel
theorem dX5_grow_31 : decode cX5_grow 31 = .ok (.iload_n 1, 1) := by decide +kernel
theorem dX5_grow_32 : decode cX5_grow 32 = .ok (.iadd, 1) := by decide +kernel
theorem dX5_grow_33 : decode cX5_grow 33 = .ok (.sipush 2048, 3) := by decide +kernel
theorem dX5_grow_36 : decode cX5_grow 36 = .ok (.if_icmp .le 6, 3) := by decide +kernel
theorem dX5_grow_39 : decode cX5_grow 39 = .ok (.bipush (-4), 2) := by decide +kernel
theorem dX5_grow_41 : decode cX5_grow 41 = .ok (.ireturn, 1) := by decide +kernel
theorem dX5_grow_42 : decode cX5_grow 42 = .ok (.iconst 1, 1) := by decide +kernel
theorem dX5_grow_43 : decode cX5_grow 43 = .ok (.istore_n 2, 1) := by decide +kernel
theorem dX5_grow_44 : decode cX5_grow 44 = .ok (.aload_n 0, 1) := by decide +kernel
theorem dX5_grow_45 : decode cX5_grow 45 = .ok (.iload_n 2, 1) := by decide +kernel
theorem dX5_grow_46 : decode cX5_grow 46 = .ok (.invokevirtual 75, 3) := by decide +kernel
theorem dX5_grow_49 : decode cX5_grow 49 = .ok (.ifCond .le 12, 3) := by decide +kernel
theorem dX5_grow_52 : decode cX5_grow 52 = .ok (.aload_n 0, 1) := by decide +kernel
theorem dX5_grow_53 : decode cX5_grow 53 = .ok (.iload_n 2, 1) := by decide +kernel
theorem dX5_grow_54 : decode cX5_grow 54 = .ok (.invokevirtual 75, 3) := by decide +kernel
theorem dX5_grow_57 : decode cX5_grow 57 = .ok (.istore_n 2, 1) := by decide +kernel
theorem dX5_grow_58 : decode cX5_grow 58 = .ok (.goto (-14), 3) := by decide +kernel
theorem dX5_grow_61 : decode cX5_grow 61 = .ok (.aload_n 0, 1) := by decide +kernel
theorem dX5_grow_62 : decode cX5_grow 62 = .ok (.iconst 0, 1) := by decide +kernel
theorem dX5_grow_63 : decode cX5_grow 63 = .ok (.putfield 46, 3) := by decide +kernel
theorem dX5_grow_66 : decode cX5_grow 66 = .ok (.aload_n 0, 1) := by decide +kernel
theorem dX5_grow_67 : decode cX5_grow 67 = .ok (.getfield 32, 3) := by decide +kernel
theorem dX5_grow_70 : decode cX5_grow 70 = .ok (.istore_n 3, 1) := by decide +kernel
theorem dX5_grow_71 : decode cX5_grow 71 = .ok (.aload_n 0, 1) := by decide +kernel
theorem dX5_grow_72 : decode cX5_grow 72 = .ok (.dup, 1) := by decide +kernel
theorem dX5_grow_73 : decode cX5_grow 73 = .ok (.getfield 32, 3) := by decide +kernel
theorem dX5_grow_76 : decode cX5_grow 76 = .ok (.iload_n 1, 1) := by decide +kernel
theorem dX5_grow_77 : decode cX5_grow 77 = .ok (.iadd, 1) := by decide +kernel
theorem dX5_grow_78 : decode cX5_grow 78 = .ok (.putfield 32, 3) := by decide +kernel
theorem dX5_grow_81 : decode cX5_grow 81 = .ok (.aload_n 0, 1) := by decide +kernel
theorem dX5_grow_82 : decode cX5_grow 82 = .ok (.getfield 7, 3) := by decide +kernel
theorem dX5_grow_85 : decode cX5_grow 85 = .ok (.iload_n 3, 1) := by decide +kernel
theorem dX5_grow_86 : decode cX5_grow 86 = .ok (.ldc2_w 73, 3) := by decide +kernel
theorem dX5_grow_89 : decode cX5_grow 89 = .ok (.iload_n 1, 1) := by decide +kernel
theorem dX5_grow_90 : decode cX5_grow 90 = .ok (.iconst 1, 1) := by decide +kernel
theorem dX5_grow_91 : decode cX5_grow 91 = .ok (.isub, 1) := by decide +kernel
theorem dX5_grow_92 : decode cX5_grow 92 = .ok (.i2l, 1) := by decide +kernel
theorem dX5_grow_93 : decode cX5_grow 93 = .ok (.lmul, 1) := by decide +kernel
theorem dX5_grow_94 : decode cX5_grow 94 = .ok (.aload_n 0, 1) := by decide +kernel
theorem dX5_grow_95 : decode cX5_grow 95 = .ok (.iload_n 2, 1) := by decide +kernel
theorem dX5_grow_96 : decode cX5_grow 96 = .ok (.invokevirtual 82, 3) := by decide +kernel
theorem dX5_grow_99 : decode cX5_grow 99 = .ok (.ifCond .eq 9, 3) := by decide +kernel
theorem dX5_grow_102 : decode cX5_grow 102 = .ok (.ldc2_w 69, 3) := by decide +kernel
theorem dX5_grow_105 : decode cX5_grow 105 = .ok (.goto 4, 3) := by decide +kernel
theorem dX5_grow_108 : decode cX5_grow 108 = .ok (.lconst 0, 1) := by decide +kernel
theorem dX5_grow_109 : decode cX5_grow 109 = .ok (.ladd, 1) := by decide +kernel
theorem dX5_grow_110 : decode cX5_grow 110 = .ok (.lastore, 1) := by decide +kernel
theorem dX5_grow_111 : decode cX5_grow 111 = .ok (.aload_n 0, 1) := by decide +kernel
theorem dX5_grow_112 : decode cX5_grow 112 = .ok (.iload_n 3, 1) := by decide +kernel
theorem dX5_grow_113 : decode cX5_grow 113 = .ok (.iconst 1, 1) := by decide +kernel
theorem dX5_grow_114 : decode cX5_grow 114 = .ok (.iadd, 1) := by decide +kernel
theorem dX5_grow_115 : decode cX5_grow 115 = .ok (.invokevirtual 102, 3) := by decide +kernel
theorem dX5_grow_118 : decode cX5_grow 118 = .ok (.pop, 1) := by decide +kernel
theorem dX5_grow_119 : decode cX5_grow 119 = .ok (.aload_n 0, 1) := by decide +kernel
theorem dX5_grow_120 : decode cX5_grow 120 = .ok (.getfield 32, 3) := by decide +kernel
theorem dX5_grow_123 : decode cX5_grow 123 = .ok (.ireturn, 1) := by decide +kernel
theorem dX5_size_0 : decode cX5_size 0 = .ok (.aload_n 0, 1) := by decide +kernel
theorem dX5_size_1 : decode cX5_size 1 = .ok (.iload_n 1, 1) := by decide +kernel
theorem dX5_size_2 : decode cX5_size 2 = .ok (.invokevirtual 99, 3) := by decide +kernel
theorem dX5_size_5 : decode cX5_size 5 = .ok (.ifCond .eq 8, 3) := by decide +kernel
theorem dX5_size_8 : decode cX5_size 8 = .ok (.bipush (-2), 2) := by decide +kernel
theorem dX5_size_10 : decode cX5_size 10 = .ok (.goto 20, 3) := by decide +kernel
theorem dX5_size_13 : decode cX5_size 13 = .ok (.aload_n 0, 1) := by decide +kernel
theorem dX5_size_14 : decode cX5_size 14 = .ok (.getfield 35, 3) := by decide +kernel
theorem dX5_size_17 : decode cX5_size 17 = .ok (.ifCond .eq 8, 3) := by decide +kernel
theorem dX5_size_20 : decode cX5_size 20 = .ok (.bipush (-3), 2) := by decide +kernel
theorem dX5_size_22 : decode cX5_size 22 = .ok (.goto 8, 3) := by decide +kernel
theorem dX5_size_25 : decode cX5_size 25 = .ok (.aload_n 0, 1) := by decide +kernel
theorem dX5_size_26 : decode cX5_size 26 = .ok (.iload_n 1, 1) := by decide +kernel
theorem dX5_size_27 : decode cX5_size 27 = .ok (.invokevirtual 66, 3) := by decide +kernel
theorem dX5_size_30 : decode cX5_size 30 = .ok (.ireturn, 1) := by decide +kernel
theorem dX5_put_0 : decode cX5_put 0 = .ok (.aload_n 0, 1) := by decide +kernel
theorem dX5_put_1 : decode cX5_put 1 = .ok (.iload_n 1, 1) := by decide +kernel
theorem dX5_put_2 : decode cX5_put 2 = .ok (.invokevirtual 99, 3) := by decide +kernel
theorem dX5_put_5 : decode cX5_put 5 = .ok (.ifCond .eq 6, 3) := by decide +kernel
theorem dX5_put_8 : decode cX5_put 8 = .ok (.bipush (-2), 2) := by decide +kernel
theorem dX5_put_10 : decode cX5_put 10 = .ok (.ireturn, 1) := by decide +kernel
theorem dX5_put_11 : decode cX5_put 11 = .ok (.aload_n 0, 1) := by decide +kernel
theorem dX5_put_12 : decode cX5_put 12 = .ok (.getfield 35, 3) := by decide +kernel
theorem dX5_put_15 : decode cX5_put 15 = .ok (.ifCond .eq 6, 3) := by decide +kernel
theorem dX5_put_18 : decode cX5_put 18 = .ok (.bipush (-3), 2) := by decide +kernel
theorem dX5_put_20 : decode cX5_put 20 = .ok (.ireturn, 1) := by decide +kernel
theorem dX5_put_21 : decode cX5_put 21 = .ok (.iload_n 2, 1) := by decide +kernel
theorem dX5_put_22 : decode cX5_put 22 = .ok (.i2l, 1) := by decide +kernel
theorem dX5_put_23 : decode cX5_put 23 = .ok (.lconst 0, 1) := by decide +kernel
theorem dX5_put_24 : decode cX5_put 24 = .ok (.aload_n 0, 1) := by decide +kernel
theorem dX5_put_25 : decode cX5_put 25 = .ok (.iload_n 1, 1) := by decide +kernel
theorem dX5_put_26 : decode cX5_put 26 = .ok (.invokevirtual 66, 3) := by decide +kernel
theorem dX5_put_29 : decode cX5_put 29 = .ok (.iconst 1, 1) := by decide +kernel
theorem dX5_put_30 : decode cX5_put 30 = .ok (.isub, 1) := by decide +kernel
theorem dX5_put_31 : decode cX5_put 31 = .ok (.i2l, 1) := by decide +kernel
theorem dX5_put_32 : decode cX5_put 32 = .ok (.invokestatic 53, 3) := by decide +kernel
theorem dX5_put_35 : decode cX5_put 35 = .ok (.ifCond .ne 6, 3) := by decide +kernel
theorem dX5_put_38 : decode cX5_put 38 = .ok (.bipush (-2), 2) := by decide +kernel
theorem dX5_put_40 : decode cX5_put 40 = .ok (.ireturn, 1) := by decide +kernel
theorem dX5_put_41 : decode cX5_put 41 = .ok (.aload_n 0, 1) := by decide +kernel
theorem dX5_put_42 : decode cX5_put 42 = .ok (.getfield 7, 3) := by decide +kernel
theorem dX5_put_45 : decode cX5_put 45 = .ok (.iload_n 1, 1) := by decide +kernel
theorem dX5_put_46 : decode cX5_put 46 = .ok (.iload_n 2, 1) := by decide +kernel
theorem dX5_put_47 : decode cX5_put 47 = .ok (.iadd, 1) := by decide +kernel
theorem dX5_put_48 : decode cX5_put 48 = .ok (.lload_n 3, 1) := by decide +kernel
theorem dX5_put_49 : decode cX5_put 49 = .ok (.lastore, 1) := by decide +kernel
theorem dX5_put_50 : decode cX5_put 50 = .ok (.iconst 1, 1) := by decide +kernel
theorem dX5_put_51 : decode cX5_put 51 = .ok (.ireturn, 1) := by decide +kernel
theorem dX5_word_0 : decode cX5_word 0 = .ok (.iload_n 1, 1) := by decide +kernel
theorem dX5_word_1 : decode cX5_word 1 = .ok (.i2l, 1) := by decide +kernel
theorem dX5_word_2 : decode cX5_word 2 = .ok (.lconst 0, 1) := by decide +kernel
theorem dX5_word_3 : decode cX5_word 3 = .ok (.aload_n 0, 1) := by decide +kernel
theorem dX5_word_4 : decode cX5_word 4 = .ok (.getfield 32, 3) := by decide +kernel
theorem dX5_word_7 : decode cX5_word 7 = .ok (.iconst 1, 1) := by decide +kernel
theorem dX5_word_8 : decode cX5_word 8 = .ok (.isub, 1) := by decide +kernel
theorem dX5_word_9 : decode cX5_word 9 = .ok (.i2l, 1) := by decide +kernel
theorem dX5_word_10 : decode cX5_word 10 = .ok (.invokestatic 53, 3) := by decide +kernel
theorem dX5_word_13 : decode cX5_word 13 = .ok (.ifCond .eq 12, 3) := by decide +kernel
theorem dX5_word_16 : decode cX5_word 16 = .ok (.aload_n 0, 1) := by decide +kernel
theorem dX5_word_17 : decode cX5_word 17 = .ok (.getfield 7, 3) := by decide +kernel
theorem dX5_word_20 : decode cX5_word 20 = .ok (.iload_n 1, 1) := by decide +kernel
theorem dX5_word_21 : decode cX5_word 21 = .ok (.laload, 1) := by decide +kernel
theorem dX5_word_22 : decode cX5_word 22 = .ok (.goto 4, 3) := by decide +kernel
theorem dX5_word_25 : decode cX5_word 25 = .ok (.lconst 0, 1) := by decide +kernel
theorem dX5_word_26 : decode cX5_word 26 = .ok (.lreturn, 1) := by decide +kernel
theorem dX5_spoil_0 : decode cX5_spoil 0 = .ok (.iload_n 1, 1) := by decide +kernel
theorem dX5_spoil_1 : decode cX5_spoil 1 = .ok (.i2l, 1) := by decide +kernel
theorem dX5_spoil_2 : decode cX5_spoil 2 = .ok (.lconst 0, 1) := by decide +kernel
theorem dX5_spoil_3 : decode cX5_spoil 3 = .ok (.aload_n 0, 1) := by decide +kernel
theorem dX5_spoil_4 : decode cX5_spoil 4 = .ok (.getfield 32, 3) := by decide +kernel
theorem dX5_spoil_7 : decode cX5_spoil 7 = .ok (.iconst 1, 1) := by decide +kernel
theorem dX5_spoil_8 : decode cX5_spoil 8 = .ok (.isub, 1) := by decide +kernel
theorem dX5_spoil_9 : decode cX5_spoil 9 = .ok (.i2l, 1) := by decide +kernel
theorem dX5_spoil_10 : decode cX5_spoil 10 = .ok (.invokestatic 53, 3) := by decide +kernel
theorem dX5_spoil_13 : decode cX5_spoil 13 = .ok (.ifCond .ne 6, 3) := by decide +kernel
theorem dX5_spoil_16 : decode cX5_spoil 16 = .ok (.bipush (-2), 2) := by decide +kernel
theorem dX5_spoil_18 : decode cX5_spoil 18 = .ok (.ireturn, 1) := by decide +kernel
theorem dX5_spoil_19 : decode cX5_spoil 19 = .ok (.aload_n 0, 1) := by decide +kernel
theorem dX5_spoil_20 : decode cX5_spoil 20 = .ok (.getfield 7, 3) := by decide +kernel
theorem dX5_spoil_23 : decode cX5_spoil 23 = .ok (.iload_n 1, 1) := by decide +kernel
theorem dX5_spoil_24 : decode cX5_spoil 24 = .ok (.lload_n 2, 1) := by decide +kernel
theorem dX5_spoil_25 : decode cX5_spoil 25 = .ok (.lastore, 1) := by decide +kernel
theorem dX5_spoil_26 : decode cX5_spoil 26 = .ok (.aload_n 0, 1) := by decide +kernel
theorem dX5_spoil_27 : decode cX5_spoil 27 = .ok (.iconst 1, 1) := by decide +kernel
theorem dX5_spoil_28 : decode cX5_spoil 28 = .ok (.putfield 35, 3) := by decide +kernel
theorem dX5_spoil_31 : decode cX5_spoil 31 = .ok (.iconst 1, 1) := by decide +kernel
theorem dX5_spoil_32 : decode cX5_spoil 32 = .ok (.ireturn, 1) := by decide +kernel
theorem dX5_wrong_0 : decode cX5_wrong 0 = .ok (.aload_n 0, 1) := by decide +kernel
theorem dX5_wrong_1 : decode cX5_wrong 1 = .ok (.iload_n 2, 1) := by decide +kernel
theorem dX5_wrong_2 : decode cX5_wrong 2 = .ok (.putfield 17, 3) := by decide +kernel
theorem dX5_wrong_5 : decode cX5_wrong 5 = .ok (.iload_n 1, 1) := by decide +kernel
theorem dX5_wrong_6 : decode cX5_wrong 6 = .ok (.ireturn, 1) := by decide +kernel
theorem dX5_wrongIn_0 : decode cX5_wrongIn 0 = .ok (.aload_n 0, 1) := by decide +kernel
theorem dX5_wrongIn_1 : decode cX5_wrongIn 1 = .ok (.getfield 7, 3) := by decide +kernel
theorem dX5_wrongIn_4 : decode cX5_wrongIn 4 = .ok (.iload_n 1, 1) := by decide +kernel
theorem dX5_wrongIn_5 : decode cX5_wrongIn 5 = .ok (.laload, 1) := by decide +kernel
theorem dX5_wrongIn_6 : decode cX5_wrongIn 6 = .ok (.lstore_n 3, 1) := by decide +kernel
theorem dX5_wrongIn_7 : decode cX5_wrongIn 7 = .ok (.lload_n 3, 1) := by decide +kernel
theorem dX5_wrongIn_8 : decode cX5_wrongIn 8 = .ok (.iconst 2, 1) := by decide +kernel
theorem dX5_wrongIn_9 : decode cX5_wrongIn 9 = .ok (.lshr, 1) := by decide +kernel
theorem dX5_wrongIn_10 : decode cX5_wrongIn 10 = .ok (.lstore 5, 2) := by decide +kernel
theorem dX5_wrongIn_12 : decode cX5_wrongIn 12 = .ok (.lload_n 3, 1) := by decide +kernel
theorem dX5_wrongIn_13 : decode cX5_wrongIn 13 = .ok (.lconst 1, 1) := by decide +kernel
theorem dX5_wrongIn_14 : decode cX5_wrongIn 14 = .ok (.land, 1) := by decide +kernel
theorem dX5_wrongIn_15 : decode cX5_wrongIn 15 = .ok (.lconst 1, 1) := by decide +kernel
theorem dX5_wrongIn_16 : decode cX5_wrongIn 16 = .ok (.lcmp, 1) := by decide +kernel
theorem dX5_wrongIn_17 : decode cX5_wrongIn 17 = .ok (.ifCond .ne 7, 3) := by decide +kernel
theorem dX5_wrongIn_20 : decode cX5_wrongIn 20 = .ok (.iconst 1, 1) := by decide +kernel
theorem dX5_wrongIn_21 : decode cX5_wrongIn 21 = .ok (.goto 4, 3) := by decide +kernel
theorem dX5_wrongIn_24 : decode cX5_wrongIn 24 = .ok (.iconst 0, 1) := by decide +kernel
theorem dX5_wrongIn_25 : decode cX5_wrongIn 25 = .ok (.istore 7, 2) := by decide +kernel
theorem dX5_wrongIn_27 : decode cX5_wrongIn 27 = .ok (.lload_n 3, 1) := by decide +kernel
theorem dX5_wrongIn_28 : decode cX5_wrongIn 28 = .ok (.lconst 0, 1) := by decide +kernel
theorem dX5_wrongIn_29 : decode cX5_wrongIn 29 = .ok (.lcmp, 1) := by decide +kernel
theorem dX5_wrongIn_30 : decode cX5_wrongIn 30 = .ok (.ifCond .lt 28, 3) := by decide +kernel
theorem dX5_wrongIn_33 : decode cX5_wrongIn 33 = .ok (.lload 5, 2) := by decide +kernel
theorem dX5_wrongIn_35 : decode cX5_wrongIn 35 = .ok (.ldc2_w 111, 3) := by decide +kernel
theorem dX5_wrongIn_38 : decode cX5_wrongIn 38 = .ok (.lcmp, 1) := by decide +kernel
theorem dX5_wrongIn_39 : decode cX5_wrongIn 39 = .ok (.ifCond .lt 19, 3) := by decide +kernel
theorem dX5_wrongIn_42 : decode cX5_wrongIn 42 = .ok (.iload_n 1, 1) := by decide +kernel
theorem dX5_wrongIn_43 : decode cX5_wrongIn 43 = .ok (.i2l, 1) := by decide +kernel
theorem dX5_wrongIn_44 : decode cX5_wrongIn 44 = .ok (.lconst 1, 1) := by decide +kernel
theorem dX5_wrongIn_45 : decode cX5_wrongIn 45 = .ok (.ladd, 1) := by decide +kernel
theorem dX5_wrongIn_46 : decode cX5_wrongIn 46 = .ok (.lload 5, 2) := by decide +kernel
theorem dX5_wrongIn_48 : decode cX5_wrongIn 48 = .ok (.ladd, 1) := by decide +kernel
theorem dX5_wrongIn_49 : decode cX5_wrongIn 49 = .ok (.aload_n 0, 1) := by decide +kernel
theorem dX5_wrongIn_50 : decode cX5_wrongIn 50 = .ok (.getfield 32, 3) := by decide +kernel
theorem dX5_wrongIn_53 : decode cX5_wrongIn 53 = .ok (.i2l, 1) := by decide +kernel
theorem dX5_wrongIn_54 : decode cX5_wrongIn 54 = .ok (.lcmp, 1) := by decide +kernel
theorem dX5_wrongIn_55 : decode cX5_wrongIn 55 = .ok (.ifCond .le 5, 3) := by decide +kernel
theorem dX5_wrongIn_58 : decode cX5_wrongIn 58 = .ok (.iconst 1, 1) := by decide +kernel
theorem dX5_wrongIn_59 : decode cX5_wrongIn 59 = .ok (.ireturn, 1) := by decide +kernel
theorem dX5_wrongIn_60 : decode cX5_wrongIn 60 = .ok (.lload_n 3, 1) := by decide +kernel
theorem dX5_wrongIn_61 : decode cX5_wrongIn 61 = .ok (.ldc2_w 69, 3) := by decide +kernel
theorem dX5_wrongIn_64 : decode cX5_wrongIn 64 = .ok (.land, 1) := by decide +kernel
theorem dX5_wrongIn_65 : decode cX5_wrongIn 65 = .ok (.ldc2_w 69, 3) := by decide +kernel
theorem dX5_wrongIn_68 : decode cX5_wrongIn 68 = .ok (.lcmp, 1) := by decide +kernel
theorem dX5_wrongIn_69 : decode cX5_wrongIn 69 = .ok (.ifCond .ne 7, 3) := by decide +kernel
theorem dX5_wrongIn_72 : decode cX5_wrongIn 72 = .ok (.iconst 1, 1) := by decide +kernel
theorem dX5_wrongIn_73 : decode cX5_wrongIn 73 = .ok (.goto 4, 3) := by decide +kernel
theorem dX5_wrongIn_76 : decode cX5_wrongIn 76 = .ok (.iconst 0, 1) := by decide +kernel
theorem dX5_wrongIn_77 : decode cX5_wrongIn 77 = .ok (.iload_n 2, 1) := by decide +kernel
theorem dX5_wrongIn_78 : decode cX5_wrongIn 78 = .ok (.if_icmp .eq 5, 3) := by decide +kernel
theorem dX5_wrongIn_81 : decode cX5_wrongIn 81 = .ok (.iconst 2, 1) := by decide +kernel
theorem dX5_wrongIn_82 : decode cX5_wrongIn 82 = .ok (.ireturn, 1) := by decide +kernel
theorem dX5_wrongIn_83 : decode cX5_wrongIn 83 = .ok (.iload 7, 2) := by decide +kernel
theorem dX5_wrongIn_85 : decode cX5_wrongIn 85 = .ok (.ifCond .eq 11, 3) := by decide +kernel
theorem dX5_wrongIn_88 : decode cX5_wrongIn 88 = .ok (.iload_n 2, 1) := by decide +kernel
theorem dX5_wrongIn_89 : decode cX5_wrongIn 89 = .ok (.ifCond .eq 7, 3) := by decide +kernel
theorem dX5_wrongIn_92 : decode cX5_wrongIn 92 = .ok (.iconst 3, 1) := by decide +kernel
theorem dX5_wrongIn_93 : decode cX5_wrongIn 93 = .ok (.goto 29, 3) := by decide +kernel
theorem dX5_wrongIn_96 : decode cX5_wrongIn 96 = .ok (.iload 7, 2) := by decide +kernel
theorem dX5_wrongIn_98 : decode cX5_wrongIn 98 = .ok (.ifCond .eq 23, 3) := by decide +kernel
theorem dX5_wrongIn_101 : decode cX5_wrongIn 101 = .ok (.aload_n 0, 1) := by decide +kernel
theorem dX5_wrongIn_102 : decode cX5_wrongIn 102 = .ok (.getfield 7, 3) := by decide +kernel
theorem dX5_wrongIn_105 : decode cX5_wrongIn 105 = .ok (.iload_n 1, 1) := by decide +kernel
theorem dX5_wrongIn_106 : decode cX5_wrongIn 106 = .ok (.lload 5, 2) := by decide +kernel
theorem dX5_wrongIn_108 : decode cX5_wrongIn 108 = .ok (.l2i, 1) := by decide +kernel
theorem dX5_wrongIn_109 : decode cX5_wrongIn 109 = .ok (.iadd, 1) := by decide +kernel
theorem dX5_wrongIn_110 : decode cX5_wrongIn 110 = .ok (.laload, 1) := by decide +kernel
theorem dX5_wrongIn_111 : decode cX5_wrongIn 111 = .ok (.lload 5, 2) := by decide +kernel
theorem dX5_wrongIn_113 : decode cX5_wrongIn 113 = .ok (.lcmp, 1) := by decide +kernel
theorem dX5_wrongIn_114 : decode cX5_wrongIn 114 = .ok (.ifCond .eq 7, 3) := by decide +kernel
theorem dX5_wrongIn_117 : decode cX5_wrongIn 117 = .ok (.iconst 4, 1) := by decide +kernel
theorem dX5_wrongIn_118 : decode cX5_wrongIn 118 = .ok (.goto 4, 3) := by decide +kernel
theorem dX5_wrongIn_121 : decode cX5_wrongIn 121 = .ok (.iconst 0, 1) := by decide +kernel
theorem dX5_wrongIn_122 : decode cX5_wrongIn 122 = .ok (.ireturn, 1) := by decide +kernel
theorem dX5_checkBlocks_0 : decode cX5_checkBlocks 0 = .ok (.iconst 0, 1) := by decide +kernel
theorem dX5_checkBlocks_1 : decode cX5_checkBlocks 1 = .ok (.istore_n 1, 1) := by decide +kernel
theorem dX5_checkBlocks_2 : decode cX5_checkBlocks 2 = .ok (.iload_n 1, 1) := by decide +kernel
theorem dX5_checkBlocks_3 : decode cX5_checkBlocks 3 = .ok (.sipush 2048, 3) := by decide +kernel
theorem dX5_checkBlocks_6 : decode cX5_checkBlocks 6 = .ok (.if_icmp .gt 23, 3) := by decide +kernel
theorem dX5_checkBlocks_9 : decode cX5_checkBlocks 9 = .ok (.aload_n 0, 1) := by decide +kernel
theorem dX5_checkBlocks_10 : decode cX5_checkBlocks 10 = .ok (.getfield 25, 3) := by decide +kernel
theorem dX5_checkBlocks_13 : decode cX5_checkBlocks 13 = .ok (.iload_n 1, 1) := by decide +kernel
theorem dX5_checkBlocks_14 : decode cX5_checkBlocks 14 = .ok (.iconst 0, 1) := by decide +kernel
theorem dX5_checkBlocks_15 : decode cX5_checkBlocks 15 = .ok (.bastore, 1) := by decide +kernel
theorem dX5_checkBlocks_16 : decode cX5_checkBlocks 16 = .ok (.aload_n 0, 1) := by decide +kernel
theorem dX5_checkBlocks_17 : decode cX5_checkBlocks 17 = .ok (.getfield 21, 3) := by decide +kernel
theorem dX5_checkBlocks_20 : decode cX5_checkBlocks 20 = .ok (.iload_n 1, 1) := by decide +kernel
theorem dX5_checkBlocks_21 : decode cX5_checkBlocks 21 = .ok (.iconst 0, 1) := by decide +kernel
theorem dX5_checkBlocks_22 : decode cX5_checkBlocks 22 = .ok (.bastore, 1) := by decide +kernel
theorem dX5_checkBlocks_23 : decode cX5_checkBlocks 23 = .ok (.iinc 1 1, 3) := by decide +kernel
theorem dX5_checkBlocks_26 : decode cX5_checkBlocks 26 = .ok (.goto (-24), 3) := by decide +kernel
theorem dX5_checkBlocks_29 : decode cX5_checkBlocks 29 = .ok (.iconst 0, 1) := by decide +kernel
theorem dX5_checkBlocks_30 : decode cX5_checkBlocks 30 = .ok (.istore_n 1, 1) := by decide +kernel
theorem dX5_checkBlocks_31 : decode cX5_checkBlocks 31 = .ok (.iconst 0, 1) := by decide +kernel
theorem dX5_checkBlocks_32 : decode cX5_checkBlocks 32 = .ok (.istore_n 2, 1) := by decide +kernel
theorem dX5_checkBlocks_33 : decode cX5_checkBlocks 33 = .ok (.iload_n 1, 1) := by decide +kernel
theorem dX5_checkBlocks_34 : decode cX5_checkBlocks 34 = .ok (.aload_n 0, 1) := by decide +kernel
theorem dX5_checkBlocks_35 : decode cX5_checkBlocks 35 = .ok (.getfield 32, 3) := by decide +kernel
theorem dX5_checkBlocks_38 : decode cX5_checkBlocks 38 = .ok (.if_icmp .ge 66, 3) := by decide +kernel
theorem dX5_checkBlocks_41 : decode cX5_checkBlocks 41 = .ok (.aload_n 0, 1) := by decide +kernel
theorem dX5_checkBlocks_42 : decode cX5_checkBlocks 42 = .ok (.iload_n 1, 1) := by decide +kernel
theorem dX5_checkBlocks_43 : decode cX5_checkBlocks 43 = .ok (.iload_n 2, 1) := by decide +kernel
theorem dX5_checkBlocks_44 : decode cX5_checkBlocks 44 = .ok (.invokevirtual 113, 3) := by decide +kernel
theorem dX5_checkBlocks_47 : decode cX5_checkBlocks 47 = .ok (.istore_n 3, 1) := by decide +kernel
theorem dX5_checkBlocks_48 : decode cX5_checkBlocks 48 = .ok (.iload_n 3, 1) := by decide +kernel
theorem dX5_checkBlocks_49 : decode cX5_checkBlocks 49 = .ok (.ifCond .le 10, 3) := by decide +kernel
theorem dX5_checkBlocks_52 : decode cX5_checkBlocks 52 = .ok (.aload_n 0, 1) := by decide +kernel
theorem dX5_checkBlocks_53 : decode cX5_checkBlocks 53 = .ok (.iload_n 3, 1) := by decide +kernel
theorem dX5_checkBlocks_54 : decode cX5_checkBlocks 54 = .ok (.iload_n 1, 1) := by decide +kernel
theorem dX5_checkBlocks_55 : decode cX5_checkBlocks 55 = .ok (.invokevirtual 117, 3) := by decide +kernel
theorem dX5_checkBlocks_58 : decode cX5_checkBlocks 58 = .ok (.ireturn, 1) := by decide +kernel
theorem dX5_checkBlocks_59 : decode cX5_checkBlocks 59 = .ok (.aload_n 0, 1) := by decide +kernel
theorem dX5_checkBlocks_60 : decode cX5_checkBlocks 60 = .ok (.getfield 7, 3) := by decide +kernel
theorem dX5_checkBlocks_63 : decode cX5_checkBlocks 63 = .ok (.iload_n 1, 1) := by decide +kernel
theorem dX5_checkBlocks_64 : decode cX5_checkBlocks 64 = .ok (.laload, 1) := by decide +kernel
theorem dX5_checkBlocks_65 : decode cX5_checkBlocks 65 = .ok (.lconst 1, 1) := by decide +kernel
theorem dX5_checkBlocks_66 : decode cX5_checkBlocks 66 = .ok (.land, 1) := by decide +kernel
theorem dX5_checkBlocks_67 : decode cX5_checkBlocks 67 = .ok (.lconst 1, 1) := by decide +kernel
theorem dX5_checkBlocks_68 : decode cX5_checkBlocks 68 = .ok (.lcmp, 1) := by decide +kernel
theorem dX5_checkBlocks_69 : decode cX5_checkBlocks 69 = .ok (.ifCond .ne 7, 3) := by decide +kernel
theorem dX5_checkBlocks_72 : decode cX5_checkBlocks 72 = .ok (.iconst 1, 1) := by decide +kernel
theorem dX5_checkBlocks_73 : decode cX5_checkBlocks 73 = .ok (.goto 4, 3) := by decide +kernel
theorem dX5_checkBlocks_76 : decode cX5_checkBlocks 76 = .ok (.iconst 0, 1) := by decide +kernel
theorem dX5_checkBlocks_77 : decode cX5_checkBlocks 77 = .ok (.istore_n 2, 1) := by decide +kernel
theorem dX5_checkBlocks_78 : decode cX5_checkBlocks 78 = .ok (.aload_n 0, 1) := by decide +kernel
theorem dX5_checkBlocks_79 : decode cX5_checkBlocks 79 = .ok (.getfield 25, 3) := by decide +kernel
theorem dX5_checkBlocks_82 : decode cX5_checkBlocks 82 = .ok (.iload_n 1, 1) := by decide +kernel
theorem dX5_checkBlocks_83 : decode cX5_checkBlocks 83 = .ok (.iconst 1, 1) := by decide +kernel
theorem dX5_checkBlocks_84 : decode cX5_checkBlocks 84 = .ok (.iadd, 1) := by decide +kernel
theorem dX5_checkBlocks_85 : decode cX5_checkBlocks 85 = .ok (.iload_n 2, 1) := by decide +kernel
theorem dX5_checkBlocks_86 : decode cX5_checkBlocks 86 = .ok (.bastore, 1) := by decide +kernel
theorem dX5_checkBlocks_87 : decode cX5_checkBlocks 87 = .ok (.iload_n 1, 1) := by decide +kernel
theorem dX5_checkBlocks_88 : decode cX5_checkBlocks 88 = .ok (.aload_n 0, 1) := by decide +kernel
theorem dX5_checkBlocks_89 : decode cX5_checkBlocks 89 = .ok (.getfield 7, 3) := by decide +kernel
theorem dX5_checkBlocks_92 : decode cX5_checkBlocks 92 = .ok (.iload_n 1, 1) := by decide +kernel
theorem dX5_checkBlocks_93 : decode cX5_checkBlocks 93 = .ok (.laload, 1) := by decide +kernel
theorem dX5_checkBlocks_94 : decode cX5_checkBlocks 94 = .ok (.iconst 2, 1) := by decide +kernel
theorem dX5_checkBlocks_95 : decode cX5_checkBlocks 95 = .ok (.lshr, 1) := by decide +kernel
theorem dX5_checkBlocks_96 : decode cX5_checkBlocks 96 = .ok (.l2i, 1) := by decide +kernel
theorem dX5_checkBlocks_97 : decode cX5_checkBlocks 97 = .ok (.iconst 1, 1) := by decide +kernel
theorem dX5_checkBlocks_98 : decode cX5_checkBlocks 98 = .ok (.iadd, 1) := by decide +kernel
theorem dX5_checkBlocks_99 : decode cX5_checkBlocks 99 = .ok (.iadd, 1) := by decide +kernel
theorem dX5_checkBlocks_100 : decode cX5_checkBlocks 100 = .ok (.istore_n 1, 1) := by decide +kernel
theorem dX5_checkBlocks_101 : decode cX5_checkBlocks 101 = .ok (.goto (-68), 3) := by decide +kernel
theorem dX5_checkBlocks_104 : decode cX5_checkBlocks 104 = .ok (.iconst 0, 1) := by decide +kernel
theorem dX5_checkBlocks_105 : decode cX5_checkBlocks 105 = .ok (.ireturn, 1) := by decide +kernel
theorem dX5_checkList_0 : decode cX5_checkList 0 = .ok (.aload_n 0, 1) := by decide +kernel
theorem dX5_checkList_1 : decode cX5_checkList 1 = .ok (.getfield 13, 3) := by decide +kernel
theorem dX5_checkList_4 : decode cX5_checkList 4 = .ok (.iload_n 1, 1) := by decide +kernel
theorem dX5_checkList_5 : decode cX5_checkList 5 = .ok (.iaload, 1) := by decide +kernel
theorem dX5_checkList_6 : decode cX5_checkList 6 = .ok (.i2l, 1) := by decide +kernel
theorem dX5_checkList_7 : decode cX5_checkList 7 = .ok (.lstore_n 2, 1) := by decide +kernel
theorem dX5_checkList_8 : decode cX5_checkList 8 = .ok (.iconst 0, 1) := by decide +kernel
theorem dX5_checkList_9 : decode cX5_checkList 9 = .ok (.istore 4, 2) := by decide +kernel
theorem dX5_checkList_11 : decode cX5_checkList 11 = .ok (.lload_n 2, 1) := by decide +kernel
theorem dX5_checkList_12 : decode cX5_checkList 12 = .ok (.lconst 0, 1) := by decide +kernel
theorem dX5_checkList_13 : decode cX5_checkList 13 = .ok (.lcmp, 1) := by decide +kernel
theorem dX5_checkList_14 : decode cX5_checkList 14 = .ok (.ifCond .eq 119, 3) := by decide +kernel
theorem dX5_checkList_17 : decode cX5_checkList 17 = .ok (.lload_n 2, 1) := by decide +kernel
theorem dX5_checkList_18 : decode cX5_checkList 18 = .ok (.lconst 1, 1) := by decide +kernel
theorem dX5_checkList_19 : decode cX5_checkList 19 = .ok (.aload_n 0, 1) := by decide +kernel
theorem dX5_checkList_20 : decode cX5_checkList 20 = .ok (.getfield 32, 3) := by decide +kernel
theorem dX5_checkList_23 : decode cX5_checkList 23 = .ok (.i2l, 1) := by decide +kernel
theorem dX5_checkList_24 : decode cX5_checkList 24 = .ok (.invokestatic 53, 3) := by decide +kernel
theorem dX5_checkList_27 : decode cX5_checkList 27 = .ok (.ifCond .eq 27, 3) := by decide +kernel
theorem dX5_checkList_30 : decode cX5_checkList 30 = .ok (.aload_n 0, 1) := by decide +kernel
theorem dX5_checkList_31 : decode cX5_checkList 31 = .ok (.getfield 25, 3) := by decide +kernel
theorem dX5_checkList_34 : decode cX5_checkList 34 = .ok (.lload_n 2, 1) := by decide +kernel
theorem dX5_checkList_35 : decode cX5_checkList 35 = .ok (.l2i, 1) := by decide +kernel
theorem dX5_checkList_36 : decode cX5_checkList 36 = .ok (.baload, 1) := by decide +kernel
theorem dX5_checkList_37 : decode cX5_checkList 37 = .ok (.ifCond .eq 17, 3) := by decide +kernel
theorem dX5_checkList_40 : decode cX5_checkList 40 = .ok (.aload_n 0, 1) := by decide +kernel
theorem dX5_checkList_41 : decode cX5_checkList 41 = .ok (.getfield 21, 3) := by decide +kernel
theorem dX5_checkList_44 : decode cX5_checkList 44 = .ok (.lload_n 2, 1) := by decide +kernel
theorem dX5_checkList_45 : decode cX5_checkList 45 = .ok (.l2i, 1) := by decide +kernel
theorem dX5_checkList_46 : decode cX5_checkList 46 = .ok (.baload, 1) := by decide +kernel
theorem dX5_checkList_47 : decode cX5_checkList 47 = .ok (.ifCond .ne 7, 3) := by decide +kernel
theorem dX5_checkList_50 : decode cX5_checkList 50 = .ok (.iconst 1, 1) := by decide +kernel
theorem dX5_checkList_51 : decode cX5_checkList 51 = .ok (.goto 4, 3) := by decide +kernel
theorem dX5_checkList_54 : decode cX5_checkList 54 = .ok (.iconst 0, 1) := by decide +kernel
theorem dX5_checkList_55 : decode cX5_checkList 55 = .ok (.istore 5, 2) := by decide +kernel
theorem dX5_checkList_57 : decode cX5_checkList 57 = .ok (.iload 5, 2) := by decide +kernel
theorem dX5_checkList_59 : decode cX5_checkList 59 = .ok (.ifCond .eq 32, 3) := by decide +kernel
theorem dX5_checkList_62 : decode cX5_checkList 62 = .ok (.aload_n 0, 1) := by decide +kernel
theorem dX5_checkList_63 : decode cX5_checkList 63 = .ok (.lload_n 2, 1) := by decide +kernel
theorem dX5_checkList_64 : decode cX5_checkList 64 = .ok (.l2i, 1) := by decide +kernel
theorem dX5_checkList_65 : decode cX5_checkList 65 = .ok (.invokevirtual 66, 3) := by decide +kernel
theorem dX5_checkList_68 : decode cX5_checkList 68 = .ok (.invokestatic 57, 3) := by decide +kernel
theorem dX5_checkList_71 : decode cX5_checkList 71 = .ok (.iload_n 1, 1) := by decide +kernel
theorem dX5_checkList_72 : decode cX5_checkList 72 = .ok (.if_icmp .ne 19, 3) := by decide +kernel
theorem dX5_checkList_75 : decode cX5_checkList 75 = .ok (.aload_n 0, 1) := by decide +kernel
theorem dX5_checkList_76 : decode cX5_checkList 76 = .ok (.getfield 7, 3) := by decide +kernel
theorem dX5_checkList_79 : decode cX5_checkList 79 = .ok (.lload_n 2, 1) := by decide +kernel
theorem dX5_checkList_80 : decode cX5_checkList 80 = .ok (.l2i, 1) := by decide +kernel
theorem dX5_checkList_81 : decode cX5_checkList 81 = .ok (.iconst 1, 1) := by decide +kernel
theorem dX5_checkList_82 : decode cX5_checkList 82 = .ok (.iadd, 1) := by decide +kernel
theorem dX5_checkList_83 : decode cX5_checkList 83 = .ok (.laload, 1) := by decide +kernel
theorem dX5_checkList_84 : decode cX5_checkList 84 = .ok (.iload 4, 2) := by decide +kernel
theorem dX5_checkList_86 : decode cX5_checkList 86 = .ok (.i2l, 1) := by decide +kernel
theorem dX5_checkList_87 : decode cX5_checkList 87 = .ok (.lcmp, 1) := by decide +kernel
theorem dX5_checkList_88 : decode cX5_checkList 88 = .ok (.ifCond .eq 22, 3) := by decide +kernel
theorem dX5_checkList_91 : decode cX5_checkList 91 = .ok (.aload_n 0, 1) := by decide +kernel
theorem dX5_checkList_92 : decode cX5_checkList 92 = .ok (.iconst 5, 1) := by decide +kernel
theorem dX5_checkList_93 : decode cX5_checkList 93 = .ok (.iload 4, 2) := by decide +kernel
theorem dX5_checkList_95 : decode cX5_checkList 95 = .ok (.ifCond .ne 7, 3) := by decide +kernel
theorem dX5_checkList_98 : decode cX5_checkList 98 = .ok (.iconst (-1), 1) := by decide +kernel
theorem dX5_checkList_99 : decode cX5_checkList 99 = .ok (.goto 7, 3) := by decide +kernel
theorem dX5_checkList_102 : decode cX5_checkList 102 = .ok (.iload 4, 2) := by decide +kernel
theorem dX5_checkList_104 : decode cX5_checkList 104 = .ok (.iconst 1, 1) := by decide +kernel
theorem dX5_checkList_105 : decode cX5_checkList 105 = .ok (.isub, 1) := by decide +kernel
theorem dX5_checkList_106 : decode cX5_checkList 106 = .ok (.invokevirtual 117, 3) := by decide +kernel
theorem dX5_checkList_109 : decode cX5_checkList 109 = .ok (.ireturn, 1) := by decide +kernel
theorem dX5_checkList_110 : decode cX5_checkList 110 = .ok (.aload_n 0, 1) := by decide +kernel
theorem dX5_checkList_111 : decode cX5_checkList 111 = .ok (.getfield 21, 3) := by decide +kernel
theorem dX5_checkList_114 : decode cX5_checkList 114 = .ok (.lload_n 2, 1) := by decide +kernel
theorem dX5_checkList_115 : decode cX5_checkList 115 = .ok (.l2i, 1) := by decide +kernel
theorem dX5_checkList_116 : decode cX5_checkList 116 = .ok (.iconst 1, 1) := by decide +kernel
theorem dX5_checkList_117 : decode cX5_checkList 117 = .ok (.bastore, 1) := by decide +kernel
theorem dX5_checkList_118 : decode cX5_checkList 118 = .ok (.lload_n 2, 1) := by decide +kernel
theorem dX5_checkList_119 : decode cX5_checkList 119 = .ok (.l2i, 1) := by decide +kernel
theorem dX5_checkList_120 : decode cX5_checkList 120 = .ok (.istore 4, 2) := by decide +kernel
theorem dX5_checkList_122 : decode cX5_checkList 122 = .ok (.aload_n 0, 1) := by decide +kernel
theorem dX5_checkList_123 : decode cX5_checkList 123 = .ok (.getfield 7, 3) := by decide +kernel
theorem dX5_checkList_126 : decode cX5_checkList 126 = .ok (.iload 4, 2) := by decide +kernel
theorem dX5_checkList_128 : decode cX5_checkList 128 = .ok (.laload, 1) := by decide +kernel
theorem dX5_checkList_129 : decode cX5_checkList 129 = .ok (.lstore_n 2, 1) := by decide +kernel
theorem dX5_checkList_130 : decode cX5_checkList 130 = .ok (.goto (-119), 3) := by decide +kernel
theorem dX5_checkList_133 : decode cX5_checkList 133 = .ok (.iconst 0, 1) := by decide +kernel
theorem dX5_checkList_134 : decode cX5_checkList 134 = .ok (.ireturn, 1) := by decide +kernel
theorem dX5_check_0 : decode cX5_check 0 = .ok (.aload_n 0, 1) := by decide +kernel
theorem dX5_check_1 : decode cX5_check 1 = .ok (.iconst (-1), 1) := by decide +kernel
theorem dX5_check_2 : decode cX5_check 2 = .ok (.putfield 17, 3) := by decide +kernel
theorem dX5_check_5 : decode cX5_check 5 = .ok (.aload_n 0, 1) := by decide +kernel
theorem dX5_check_6 : decode cX5_check 6 = .ok (.invokevirtual 121, 3) := by decide +kernel
theorem dX5_check_9 : decode cX5_check 9 = .ok (.istore_n 1, 1) := by decide +kernel
theorem dX5_check_10 : decode cX5_check 10 = .ok (.iconst 0, 1) := by decide +kernel
theorem dX5_check_11 : decode cX5_check 11 = .ok (.istore_n 2, 1) := by decide +kernel
theorem dX5_check_12 : decode cX5_check 12 = .ok (.iload_n 2, 1) := by decide +kernel
theorem dX5_check_13 : decode cX5_check 13 = .ok (.bipush 72, 2) := by decide +kernel
theorem dX5_check_15 : decode cX5_check 15 = .ok (.if_icmp .ge 19, 3) := by decide +kernel
theorem dX5_check_18 : decode cX5_check 18 = .ok (.iload_n 1, 1) := by decide +kernel
theorem dX5_check_19 : decode cX5_check 19 = .ok (.ifCond .ne 15, 3) := by decide +kernel
theorem dX5_check_22 : decode cX5_check 22 = .ok (.aload_n 0, 1) := by decide +kernel
theorem dX5_check_23 : decode cX5_check 23 = .ok (.iload_n 2, 1) := by decide +kernel
theorem dX5_check_24 : decode cX5_check 24 = .ok (.invokevirtual 125, 3) := by decide +kernel
theorem dX5_check_27 : decode cX5_check 27 = .ok (.istore_n 1, 1) := by decide +kernel
theorem dX5_check_28 : decode cX5_check 28 = .ok (.iinc 2 1, 3) := by decide +kernel
theorem dX5_check_31 : decode cX5_check 31 = .ok (.goto (-19), 3) := by decide +kernel
theorem dX5_check_34 : decode cX5_check 34 = .ok (.iconst 1, 1) := by decide +kernel
theorem dX5_check_35 : decode cX5_check 35 = .ok (.istore_n 2, 1) := by decide +kernel
theorem dX5_check_36 : decode cX5_check 36 = .ok (.iload_n 2, 1) := by decide +kernel
theorem dX5_check_37 : decode cX5_check 37 = .ok (.aload_n 0, 1) := by decide +kernel
theorem dX5_check_38 : decode cX5_check 38 = .ok (.getfield 32, 3) := by decide +kernel
theorem dX5_check_41 : decode cX5_check 41 = .ok (.if_icmp .gt 41, 3) := by decide +kernel
theorem dX5_check_44 : decode cX5_check 44 = .ok (.iload_n 1, 1) := by decide +kernel
theorem dX5_check_45 : decode cX5_check 45 = .ok (.ifCond .ne 37, 3) := by decide +kernel
theorem dX5_check_48 : decode cX5_check 48 = .ok (.aload_n 0, 1) := by decide +kernel
theorem dX5_check_49 : decode cX5_check 49 = .ok (.getfield 25, 3) := by decide +kernel
theorem dX5_check_52 : decode cX5_check 52 = .ok (.iload_n 2, 1) := by decide +kernel
theorem dX5_check_53 : decode cX5_check 53 = .ok (.baload, 1) := by decide +kernel
theorem dX5_check_54 : decode cX5_check 54 = .ok (.ifCond .eq 22, 3) := by decide +kernel
theorem dX5_check_57 : decode cX5_check 57 = .ok (.aload_n 0, 1) := by decide +kernel
theorem dX5_check_58 : decode cX5_check 58 = .ok (.getfield 21, 3) := by decide +kernel
theorem dX5_check_61 : decode cX5_check 61 = .ok (.iload_n 2, 1) := by decide +kernel
theorem dX5_check_62 : decode cX5_check 62 = .ok (.baload, 1) := by decide +kernel
theorem dX5_check_63 : decode cX5_check 63 = .ok (.ifCond .ne 13, 3) := by decide +kernel
theorem dX5_check_66 : decode cX5_check 66 = .ok (.aload_n 0, 1) := by decide +kernel
theorem dX5_check_67 : decode cX5_check 67 = .ok (.bipush 6, 2) := by decide +kernel
theorem dX5_check_69 : decode cX5_check 69 = .ok (.iload_n 2, 1) := by decide +kernel
theorem dX5_check_70 : decode cX5_check 70 = .ok (.iconst 1, 1) := by decide +kernel
theorem dX5_check_71 : decode cX5_check 71 = .ok (.isub, 1) := by decide +kernel
theorem dX5_check_72 : decode cX5_check 72 = .ok (.invokevirtual 117, 3) := by decide +kernel
theorem dX5_check_75 : decode cX5_check 75 = .ok (.istore_n 1, 1) := by decide +kernel
theorem dX5_check_76 : decode cX5_check 76 = .ok (.iinc 2 1, 3) := by decide +kernel
theorem dX5_check_79 : decode cX5_check 79 = .ok (.goto (-43), 3) := by decide +kernel
theorem dX5_check_82 : decode cX5_check 82 = .ok (.aload_n 0, 1) := by decide +kernel
theorem dX5_check_83 : decode cX5_check 83 = .ok (.aload_n 0, 1) := by decide +kernel
theorem dX5_check_84 : decode cX5_check 84 = .ok (.getfield 35, 3) := by decide +kernel
theorem dX5_check_87 : decode cX5_check 87 = .ok (.ifCond .eq 11, 3) := by decide +kernel
theorem dX5_check_90 : decode cX5_check 90 = .ok (.iload_n 1, 1) := by decide +kernel
theorem dX5_check_91 : decode cX5_check 91 = .ok (.ifCond .eq 7, 3) := by decide +kernel
theorem dX5_check_94 : decode cX5_check 94 = .ok (.iconst 1, 1) := by decide +kernel
theorem dX5_check_95 : decode cX5_check 95 = .ok (.goto 4, 3) := by decide +kernel
theorem dX5_check_98 : decode cX5_check 98 = .ok (.iconst 0, 1) := by decide +kernel
theorem dX5_check_99 : decode cX5_check 99 = .ok (.putfield 35, 3) := by decide +kernel
theorem dX5_check_102 : decode cX5_check 102 = .ok (.iload_n 1, 1) := by decide +kernel
theorem dX5_check_103 : decode cX5_check 103 = .ok (.ireturn, 1) := by decide +kernel
theorem dX5_where_0 : decode cX5_where 0 = .ok (.aload_n 0, 1) := by decide +kernel
theorem dX5_where_1 : decode cX5_where 1 = .ok (.getfield 17, 3) := by decide +kernel
theorem dX5_where_4 : decode cX5_where 4 = .ok (.ireturn, 1) := by decide +kernel
theorem dX5_listed_0 : decode cX5_listed 0 = .ok (.iload_n 1, 1) := by decide +kernel
theorem dX5_listed_1 : decode cX5_listed 1 = .ok (.i2l, 1) := by decide +kernel
theorem dX5_listed_2 : decode cX5_listed 2 = .ok (.lconst 0, 1) := by decide +kernel
theorem dX5_listed_3 : decode cX5_listed 3 = .ok (.ldc2_w 128, 3) := by decide +kernel
theorem dX5_listed_6 : decode cX5_listed 6 = .ok (.invokestatic 53, 3) := by decide +kernel
theorem dX5_listed_9 : decode cX5_listed 9 = .ok (.ifCond .eq 7, 3) := by decide +kernel
theorem dX5_listed_12 : decode cX5_listed 12 = .ok (.iload_n 2, 1) := by decide +kernel
theorem dX5_listed_13 : decode cX5_listed 13 = .ok (.ifCond .ge 6, 3) := by decide +kernel
theorem dX5_listed_16 : decode cX5_listed 16 = .ok (.bipush (-2), 2) := by decide +kernel
theorem dX5_listed_18 : decode cX5_listed 18 = .ok (.ireturn, 1) := by decide +kernel
theorem dX5_listed_19 : decode cX5_listed 19 = .ok (.aload_n 0, 1) := by decide +kernel
theorem dX5_listed_20 : decode cX5_listed 20 = .ok (.getfield 35, 3) := by decide +kernel
theorem dX5_listed_23 : decode cX5_listed 23 = .ok (.ifCond .eq 6, 3) := by decide +kernel
theorem dX5_listed_26 : decode cX5_listed 26 = .ok (.bipush (-3), 2) := by decide +kernel
theorem dX5_listed_28 : decode cX5_listed 28 = .ok (.ireturn, 1) := by decide +kernel
theorem dX5_listed_29 : decode cX5_listed 29 = .ok (.aload_n 0, 1) := by decide +kernel
theorem dX5_listed_30 : decode cX5_listed 30 = .ok (.getfield 13, 3) := by decide +kernel
theorem dX5_listed_33 : decode cX5_listed 33 = .ok (.iload_n 1, 1) := by decide +kernel
theorem dX5_listed_34 : decode cX5_listed 34 = .ok (.iaload, 1) := by decide +kernel
theorem dX5_listed_35 : decode cX5_listed 35 = .ok (.istore_n 3, 1) := by decide +kernel
theorem dX5_listed_36 : decode cX5_listed 36 = .ok (.iconst 0, 1) := by decide +kernel
theorem dX5_listed_37 : decode cX5_listed 37 = .ok (.istore 4, 2) := by decide +kernel
theorem dX5_listed_39 : decode cX5_listed 39 = .ok (.iload 4, 2) := by decide +kernel
theorem dX5_listed_41 : decode cX5_listed 41 = .ok (.iload_n 2, 1) := by decide +kernel
theorem dX5_listed_42 : decode cX5_listed 42 = .ok (.if_icmp .ge 21, 3) := by decide +kernel
theorem dX5_listed_45 : decode cX5_listed 45 = .ok (.iload_n 3, 1) := by decide +kernel
theorem dX5_listed_46 : decode cX5_listed 46 = .ok (.ifCond .eq 17, 3) := by decide +kernel
theorem dX5_listed_49 : decode cX5_listed 49 = .ok (.aload_n 0, 1) := by decide +kernel
theorem dX5_listed_50 : decode cX5_listed 50 = .ok (.getfield 7, 3) := by decide +kernel
theorem dX5_listed_53 : decode cX5_listed 53 = .ok (.iload_n 3, 1) := by decide +kernel
theorem dX5_listed_54 : decode cX5_listed 54 = .ok (.laload, 1) := by decide +kernel
theorem dX5_listed_55 : decode cX5_listed 55 = .ok (.l2i, 1) := by decide +kernel
theorem dX5_listed_56 : decode cX5_listed 56 = .ok (.istore_n 3, 1) := by decide +kernel
theorem dX5_listed_57 : decode cX5_listed 57 = .ok (.iinc 4 1, 3) := by decide +kernel
theorem dX5_listed_60 : decode cX5_listed 60 = .ok (.goto (-21), 3) := by decide +kernel
theorem dX5_listed_63 : decode cX5_listed 63 = .ok (.iload_n 3, 1) := by decide +kernel
theorem dX5_listed_64 : decode cX5_listed 64 = .ok (.ifCond .ne 7, 3) := by decide +kernel
theorem dX5_listed_67 : decode cX5_listed 67 = .ok (.iconst (-1), 1) := by decide +kernel
theorem dX5_listed_68 : decode cX5_listed 68 = .ok (.goto 4, 3) := by decide +kernel
theorem dX5_listed_71 : decode cX5_listed 71 = .ok (.iload_n 3, 1) := by decide +kernel
theorem dX5_listed_72 : decode cX5_listed 72 = .ok (.ireturn, 1) := by decide +kernel
theorem dX5_bitsIn_0 : decode cX5_bitsIn 0 = .ok (.iconst 0, 1) := by decide +kernel
theorem dX5_bitsIn_1 : decode cX5_bitsIn 1 = .ok (.istore_n 2, 1) := by decide +kernel
theorem dX5_bitsIn_2 : decode cX5_bitsIn 2 = .ok (.iconst 0, 1) := by decide +kernel
theorem dX5_bitsIn_3 : decode cX5_bitsIn 3 = .ok (.istore_n 3, 1) := by decide +kernel
theorem dX5_bitsIn_4 : decode cX5_bitsIn 4 = .ok (.iload_n 3, 1) := by decide +kernel
theorem dX5_bitsIn_5 : decode cX5_bitsIn 5 = .ok (.bipush 8, 2) := by decide +kernel
theorem dX5_bitsIn_7 : decode cX5_bitsIn 7 = .ok (.if_icmp .ge 33, 3) := by decide +kernel
theorem dX5_bitsIn_10 : decode cX5_bitsIn 10 = .ok (.iload_n 2, 1) := by decide +kernel
theorem dX5_bitsIn_11 : decode cX5_bitsIn 11 = .ok (.aload_n 0, 1) := by decide +kernel
theorem dX5_bitsIn_12 : decode cX5_bitsIn 12 = .ok (.getfield 13, 3) := by decide +kernel
theorem dX5_bitsIn_15 : decode cX5_bitsIn 15 = .ok (.bipush 8, 2) := by decide +kernel
theorem dX5_bitsIn_17 : decode cX5_bitsIn 17 = .ok (.iload_n 1, 1) := by decide +kernel
theorem dX5_bitsIn_18 : decode cX5_bitsIn 18 = .ok (.imul, 1) := by decide +kernel
theorem dX5_bitsIn_19 : decode cX5_bitsIn 19 = .ok (.iload_n 3, 1) := by decide +kernel
theorem dX5_bitsIn_20 : decode cX5_bitsIn 20 = .ok (.iadd, 1) := by decide +kernel
theorem dX5_bitsIn_21 : decode cX5_bitsIn 21 = .ok (.iaload, 1) := by decide +kernel
theorem dX5_bitsIn_22 : decode cX5_bitsIn 22 = .ok (.ifCond .eq 9, 3) := by decide +kernel
theorem dX5_bitsIn_25 : decode cX5_bitsIn 25 = .ok (.iconst 1, 1) := by decide +kernel
theorem dX5_bitsIn_26 : decode cX5_bitsIn 26 = .ok (.iload_n 3, 1) := by decide +kernel
theorem dX5_bitsIn_27 : decode cX5_bitsIn 27 = .ok (.ishl, 1) := by decide +kernel
theorem dX5_bitsIn_28 : decode cX5_bitsIn 28 = .ok (.goto 4, 3) := by decide +kernel
theorem dX5_bitsIn_31 : decode cX5_bitsIn 31 = .ok (.iconst 0, 1) := by decide +kernel
theorem dX5_bitsIn_32 : decode cX5_bitsIn 32 = .ok (.ior, 1) := by decide +kernel
theorem dX5_bitsIn_33 : decode cX5_bitsIn 33 = .ok (.istore_n 2, 1) := by decide +kernel
theorem dX5_bitsIn_34 : decode cX5_bitsIn 34 = .ok (.iinc 3 1, 3) := by decide +kernel
theorem dX5_bitsIn_37 : decode cX5_bitsIn 37 = .ok (.goto (-33), 3) := by decide +kernel
theorem dX5_bitsIn_40 : decode cX5_bitsIn 40 = .ok (.iload_n 2, 1) := by decide +kernel
theorem dX5_bitsIn_41 : decode cX5_bitsIn 41 = .ok (.ireturn, 1) := by decide +kernel
theorem dX5_bits_0 : decode cX5_bits 0 = .ok (.iload_n 1, 1) := by decide +kernel
theorem dX5_bits_1 : decode cX5_bits 1 = .ok (.i2l, 1) := by decide +kernel
theorem dX5_bits_2 : decode cX5_bits 2 = .ok (.lconst 0, 1) := by decide +kernel
theorem dX5_bits_3 : decode cX5_bits 3 = .ok (.ldc2_w 130, 3) := by decide +kernel
theorem dX5_bits_6 : decode cX5_bits 6 = .ok (.invokestatic 53, 3) := by decide +kernel
theorem dX5_bits_9 : decode cX5_bits 9 = .ok (.ifCond .ne 6, 3) := by decide +kernel
theorem dX5_bits_12 : decode cX5_bits 12 = .ok (.bipush (-2), 2) := by decide +kernel
theorem dX5_bits_14 : decode cX5_bits 14 = .ok (.ireturn, 1) := by decide +kernel
theorem dX5_bits_15 : decode cX5_bits 15 = .ok (.iload_n 1, 1) := by decide +kernel
theorem dX5_bits_16 : decode cX5_bits 16 = .ok (.bipush 9, 2) := by decide +kernel
theorem dX5_bits_18 : decode cX5_bits 18 = .ok (.if_icmp .ge 9, 3) := by decide +kernel
theorem dX5_bits_21 : decode cX5_bits 21 = .ok (.aload_n 0, 1) := by decide +kernel
theorem dX5_bits_22 : decode cX5_bits 22 = .ok (.iload_n 1, 1) := by decide +kernel
theorem dX5_bits_23 : decode cX5_bits 23 = .ok (.invokevirtual 132, 3) := by decide +kernel
theorem dX5_bits_26 : decode cX5_bits 26 = .ok (.ireturn, 1) := by decide +kernel
theorem dX5_bits_27 : decode cX5_bits 27 = .ok (.iconst 0, 1) := by decide +kernel
theorem dX5_bits_28 : decode cX5_bits 28 = .ok (.istore_n 2, 1) := by decide +kernel
theorem dX5_bits_29 : decode cX5_bits 29 = .ok (.iconst 0, 1) := by decide +kernel
theorem dX5_bits_30 : decode cX5_bits 30 = .ok (.istore_n 3, 1) := by decide +kernel
theorem dX5_bits_31 : decode cX5_bits 31 = .ok (.iload_n 3, 1) := by decide +kernel
theorem dX5_bits_32 : decode cX5_bits 32 = .ok (.bipush 9, 2) := by decide +kernel
theorem dX5_bits_34 : decode cX5_bits 34 = .ok (.if_icmp .ge 27, 3) := by decide +kernel
theorem dX5_bits_37 : decode cX5_bits 37 = .ok (.iload_n 2, 1) := by decide +kernel
theorem dX5_bits_38 : decode cX5_bits 38 = .ok (.aload_n 0, 1) := by decide +kernel
theorem dX5_bits_39 : decode cX5_bits 39 = .ok (.iload_n 3, 1) := by decide +kernel
theorem dX5_bits_40 : decode cX5_bits 40 = .ok (.invokevirtual 132, 3) := by decide +kernel
theorem dX5_bits_43 : decode cX5_bits 43 = .ok (.ifCond .eq 9, 3) := by decide +kernel
theorem dX5_bits_46 : decode cX5_bits 46 = .ok (.iconst 1, 1) := by decide +kernel
theorem dX5_bits_47 : decode cX5_bits 47 = .ok (.iload_n 3, 1) := by decide +kernel
theorem dX5_bits_48 : decode cX5_bits 48 = .ok (.ishl, 1) := by decide +kernel
theorem dX5_bits_49 : decode cX5_bits 49 = .ok (.goto 4, 3) := by decide +kernel
theorem dX5_bits_52 : decode cX5_bits 52 = .ok (.iconst 0, 1) := by decide +kernel
theorem dX5_bits_53 : decode cX5_bits 53 = .ok (.ior, 1) := by decide +kernel
theorem dX5_bits_54 : decode cX5_bits 54 = .ok (.istore_n 2, 1) := by decide +kernel
theorem dX5_bits_55 : decode cX5_bits 55 = .ok (.iinc 3 1, 3) := by decide +kernel
theorem dX5_bits_58 : decode cX5_bits 58 = .ok (.goto (-27), 3) := by decide +kernel
theorem dX5_bits_61 : decode cX5_bits 61 = .ok (.iload_n 2, 1) := by decide +kernel
theorem dX5_bits_62 : decode cX5_bits 62 = .ok (.ireturn, 1) := by decide +kernel
theorem dX5_block_0 : decode cX5_block 0 = .ok (.iload_n 2, 1) := by decide +kernel
theorem dX5_block_1 : decode cX5_block 1 = .ok (.i2l, 1) := by decide +kernel
theorem dX5_block_2 : decode cX5_block 2 = .ok (.lconst 0, 1) := by decide +kernel
theorem dX5_block_3 : decode cX5_block 3 = .ok (.ldc2_w 69, 3) := by decide +kernel
theorem dX5_block_6 : decode cX5_block 6 = .ok (.invokestatic 53, 3) := by decide +kernel
theorem dX5_block_9 : decode cX5_block 9 = .ok (.ifCond .eq 7, 3) := by decide +kernel
theorem dX5_block_12 : decode cX5_block 12 = .ok (.iload_n 1, 1) := by decide +kernel
theorem dX5_block_13 : decode cX5_block 13 = .ok (.ifCond .ge 6, 3) := by decide +kernel
theorem dX5_block_16 : decode cX5_block 16 = .ok (.bipush (-2), 2) := by decide +kernel
theorem dX5_block_18 : decode cX5_block 18 = .ok (.ireturn, 1) := by decide +kernel
theorem dX5_block_19 : decode cX5_block 19 = .ok (.aload_n 0, 1) := by decide +kernel
theorem dX5_block_20 : decode cX5_block 20 = .ok (.getfield 35, 3) := by decide +kernel
theorem dX5_block_23 : decode cX5_block 23 = .ok (.ifCond .eq 6, 3) := by decide +kernel
theorem dX5_block_26 : decode cX5_block 26 = .ok (.bipush (-3), 2) := by decide +kernel
theorem dX5_block_28 : decode cX5_block 28 = .ok (.ireturn, 1) := by decide +kernel
theorem dX5_block_29 : decode cX5_block 29 = .ok (.iconst 1, 1) := by decide +kernel
theorem dX5_block_30 : decode cX5_block 30 = .ok (.istore_n 3, 1) := by decide +kernel
theorem dX5_block_31 : decode cX5_block 31 = .ok (.iconst 0, 1) := by decide +kernel
theorem dX5_block_32 : decode cX5_block 32 = .ok (.istore 4, 2) := by decide +kernel
theorem dX5_block_34 : decode cX5_block 34 = .ok (.iload 4, 2) := by decide +kernel
theorem dX5_block_36 : decode cX5_block 36 = .ok (.iload_n 1, 1) := by decide +kernel
theorem dX5_block_37 : decode cX5_block 37 = .ok (.if_icmp .ge 19, 3) := by decide +kernel
theorem dX5_block_40 : decode cX5_block 40 = .ok (.iload_n 3, 1) := by decide +kernel
theorem dX5_block_41 : decode cX5_block 41 = .ok (.ifCond .le 15, 3) := by decide +kernel
theorem dX5_block_44 : decode cX5_block 44 = .ok (.aload_n 0, 1) := by decide +kernel
theorem dX5_block_45 : decode cX5_block 45 = .ok (.iload_n 3, 1) := by decide +kernel
theorem dX5_block_46 : decode cX5_block 46 = .ok (.invokevirtual 75, 3) := by decide +kernel
theorem dX5_block_49 : decode cX5_block 49 = .ok (.istore_n 3, 1) := by decide +kernel
theorem dX5_block_50 : decode cX5_block 50 = .ok (.iinc 4 1, 3) := by decide +kernel
theorem dX5_block_53 : decode cX5_block 53 = .ok (.goto (-19), 3) := by decide +kernel
theorem dX5_block_56 : decode cX5_block 56 = .ok (.iload_n 3, 1) := by decide +kernel
theorem dX5_block_57 : decode cX5_block 57 = .ok (.ifCond .ne 7, 3) := by decide +kernel
theorem dX5_block_60 : decode cX5_block 60 = .ok (.iconst (-1), 1) := by decide +kernel
theorem dX5_block_61 : decode cX5_block 61 = .ok (.goto 37, 3) := by decide +kernel
theorem dX5_block_64 : decode cX5_block 64 = .ok (.iload_n 2, 1) := by decide +kernel
theorem dX5_block_65 : decode cX5_block 65 = .ok (.ifCond .ne 7, 3) := by decide +kernel
theorem dX5_block_68 : decode cX5_block 68 = .ok (.iload_n 3, 1) := by decide +kernel
theorem dX5_block_69 : decode cX5_block 69 = .ok (.goto 29, 3) := by decide +kernel
theorem dX5_block_72 : decode cX5_block 72 = .ok (.iload_n 2, 1) := by decide +kernel
theorem dX5_block_73 : decode cX5_block 73 = .ok (.iconst 1, 1) := by decide +kernel
theorem dX5_block_74 : decode cX5_block 74 = .ok (.if_icmp .ne 11, 3) := by decide +kernel
theorem dX5_block_77 : decode cX5_block 77 = .ok (.aload_n 0, 1) := by decide +kernel
theorem dX5_block_78 : decode cX5_block 78 = .ok (.iload_n 3, 1) := by decide +kernel
theorem dX5_block_79 : decode cX5_block 79 = .ok (.invokevirtual 66, 3) := by decide +kernel
theorem dX5_block_82 : decode cX5_block 82 = .ok (.goto 16, 3) := by decide +kernel
theorem dX5_block_85 : decode cX5_block 85 = .ok (.aload_n 0, 1) := by decide +kernel
theorem dX5_block_86 : decode cX5_block 86 = .ok (.iload_n 3, 1) := by decide +kernel
theorem dX5_block_87 : decode cX5_block 87 = .ok (.invokevirtual 82, 3) := by decide +kernel
theorem dX5_block_90 : decode cX5_block 90 = .ok (.ifCond .eq 7, 3) := by decide +kernel
theorem dX5_block_93 : decode cX5_block 93 = .ok (.iconst 1, 1) := by decide +kernel
theorem dX5_block_94 : decode cX5_block 94 = .ok (.goto 4, 3) := by decide +kernel
theorem dX5_block_97 : decode cX5_block 97 = .ok (.iconst 0, 1) := by decide +kernel
theorem dX5_block_98 : decode cX5_block 98 = .ok (.ireturn, 1) := by decide +kernel
theorem dX5_found_0 : decode cX5_found 0 = .ok (.iload_n 1, 1) := by decide +kernel
theorem dX5_found_1 : decode cX5_found 1 = .ok (.i2l, 1) := by decide +kernel
theorem dX5_found_2 : decode cX5_found 2 = .ok (.lconst 1, 1) := by decide +kernel
theorem dX5_found_3 : decode cX5_found 3 = .ok (.ldc2_w 51, 3) := by decide +kernel
theorem dX5_found_6 : decode cX5_found 6 = .ok (.invokestatic 53, 3) := by decide +kernel
theorem dX5_found_9 : decode cX5_found 9 = .ok (.ifCond .ne 6, 3) := by decide +kernel
theorem dX5_found_12 : decode cX5_found 12 = .ok (.bipush (-2), 2) := by decide +kernel
theorem dX5_found_14 : decode cX5_found 14 = .ok (.ireturn, 1) := by decide +kernel
theorem dX5_found_15 : decode cX5_found 15 = .ok (.aload_n 0, 1) := by decide +kernel
theorem dX5_found_16 : decode cX5_found 16 = .ok (.getfield 35, 3) := by decide +kernel
theorem dX5_found_19 : decode cX5_found 19 = .ok (.ifCond .eq 6, 3) := by decide +kernel
theorem dX5_found_22 : decode cX5_found 22 = .ok (.bipush (-3), 2) := by decide +kernel
theorem dX5_found_24 : decode cX5_found 24 = .ok (.ireturn, 1) := by decide +kernel
theorem dX5_found_25 : decode cX5_found 25 = .ok (.aload_n 0, 1) := by decide +kernel
theorem dX5_found_26 : decode cX5_found 26 = .ok (.iload_n 1, 1) := by decide +kernel
theorem dX5_found_27 : decode cX5_found 27 = .ok (.invokevirtual 86, 3) := by decide +kernel
theorem dX5_found_30 : decode cX5_found 30 = .ok (.istore_n 2, 1) := by decide +kernel
theorem dX5_found_31 : decode cX5_found 31 = .ok (.iload_n 2, 1) := by decide +kernel
theorem dX5_found_32 : decode cX5_found 32 = .ok (.ifCond .ne 7, 3) := by decide +kernel
theorem dX5_found_35 : decode cX5_found 35 = .ok (.iconst (-1), 1) := by decide +kernel
theorem dX5_found_36 : decode cX5_found 36 = .ok (.goto 4, 3) := by decide +kernel
theorem dX5_found_39 : decode cX5_found 39 = .ok (.iload_n 2, 1) := by decide +kernel
theorem dX5_found_40 : decode cX5_found 40 = .ok (.ireturn, 1) := by decide +kernel
theorem dX5_counted_0 : decode cX5_counted 0 = .ok (.iconst 0, 1) := by decide +kernel
theorem dX5_counted_1 : decode cX5_counted 1 = .ok (.istore_n 2, 1) := by decide +kernel
theorem dX5_counted_2 : decode cX5_counted 2 = .ok (.iconst 1, 1) := by decide +kernel
theorem dX5_counted_3 : decode cX5_counted 3 = .ok (.istore_n 3, 1) := by decide +kernel
theorem dX5_counted_4 : decode cX5_counted 4 = .ok (.iload_n 3, 1) := by decide +kernel
theorem dX5_counted_5 : decode cX5_counted 5 = .ok (.ifCond .le 88, 3) := by decide +kernel
theorem dX5_counted_8 : decode cX5_counted 8 = .ok (.aload_n 0, 1) := by decide +kernel
theorem dX5_counted_9 : decode cX5_counted 9 = .ok (.iload_n 3, 1) := by decide +kernel
theorem dX5_counted_10 : decode cX5_counted 10 = .ok (.invokevirtual 66, 3) := by decide +kernel
theorem dX5_counted_13 : decode cX5_counted 13 = .ok (.istore 4, 2) := by decide +kernel
theorem dX5_counted_15 : decode cX5_counted 15 = .ok (.iload_n 1, 1) := by decide +kernel
theorem dX5_counted_16 : decode cX5_counted 16 = .ok (.bipush 8, 2) := by decide +kernel
theorem dX5_counted_18 : decode cX5_counted 18 = .ok (.if_icmp .ne 27, 3) := by decide +kernel
theorem dX5_counted_21 : decode cX5_counted 21 = .ok (.aload_n 0, 1) := by decide +kernel
theorem dX5_counted_22 : decode cX5_counted 22 = .ok (.iload_n 3, 1) := by decide +kernel
theorem dX5_counted_23 : decode cX5_counted 23 = .ok (.invokevirtual 82, 3) := by decide +kernel
theorem dX5_counted_26 : decode cX5_counted 26 = .ok (.ifCond .eq 14, 3) := by decide +kernel
theorem dX5_counted_29 : decode cX5_counted 29 = .ok (.iload 4, 2) := by decide +kernel
theorem dX5_counted_31 : decode cX5_counted 31 = .ok (.iload_n 2, 1) := by decide +kernel
theorem dX5_counted_32 : decode cX5_counted 32 = .ok (.if_icmp .le 8, 3) := by decide +kernel
theorem dX5_counted_35 : decode cX5_counted 35 = .ok (.iload 4, 2) := by decide +kernel
theorem dX5_counted_37 : decode cX5_counted 37 = .ok (.goto 4, 3) := by decide +kernel
theorem dX5_counted_40 : decode cX5_counted 40 = .ok (.iload_n 2, 1) := by decide +kernel
theorem dX5_counted_41 : decode cX5_counted 41 = .ok (.istore_n 2, 1) := by decide +kernel
theorem dX5_counted_42 : decode cX5_counted 42 = .ok (.goto 42, 3) := by decide +kernel
theorem dX5_counted_45 : decode cX5_counted 45 = .ok (.aload_n 0, 1) := by decide +kernel
theorem dX5_counted_46 : decode cX5_counted 46 = .ok (.iload_n 3, 1) := by decide +kernel
theorem dX5_counted_47 : decode cX5_counted 47 = .ok (.invokevirtual 82, 3) := by decide +kernel
theorem dX5_counted_50 : decode cX5_counted 50 = .ok (.iload_n 1, 1) := by decide +kernel
theorem dX5_counted_51 : decode cX5_counted 51 = .ok (.iconst 5, 1) := by decide +kernel
theorem dX5_counted_52 : decode cX5_counted 52 = .ok (.if_icmp .eq 9, 3) := by decide +kernel
theorem dX5_counted_55 : decode cX5_counted 55 = .ok (.iload_n 1, 1) := by decide +kernel
theorem dX5_counted_56 : decode cX5_counted 56 = .ok (.bipush 7, 2) := by decide +kernel
theorem dX5_counted_58 : decode cX5_counted 58 = .ok (.if_icmp .ne 7, 3) := by decide +kernel
theorem dX5_counted_61 : decode cX5_counted 61 = .ok (.iconst 1, 1) := by decide +kernel
theorem dX5_counted_62 : decode cX5_counted 62 = .ok (.goto 4, 3) := by decide +kernel
theorem dX5_counted_65 : decode cX5_counted 65 = .ok (.iconst 0, 1) := by decide +kernel
theorem dX5_counted_66 : decode cX5_counted 66 = .ok (.if_icmp .ne 18, 3) := by decide +kernel
theorem dX5_counted_69 : decode cX5_counted 69 = .ok (.iload_n 2, 1) := by decide +kernel
theorem dX5_counted_70 : decode cX5_counted 70 = .ok (.iload_n 1, 1) := by decide +kernel
theorem dX5_counted_71 : decode cX5_counted 71 = .ok (.bipush 6, 2) := by decide +kernel
theorem dX5_counted_73 : decode cX5_counted 73 = .ok (.if_icmp .ge 8, 3) := by decide +kernel
theorem dX5_counted_76 : decode cX5_counted 76 = .ok (.iload 4, 2) := by decide +kernel
theorem dX5_counted_78 : decode cX5_counted 78 = .ok (.goto 4, 3) := by decide +kernel
theorem dX5_counted_81 : decode cX5_counted 81 = .ok (.iconst 1, 1) := by decide +kernel
theorem dX5_counted_82 : decode cX5_counted 82 = .ok (.iadd, 1) := by decide +kernel
theorem dX5_counted_83 : decode cX5_counted 83 = .ok (.istore_n 2, 1) := by decide +kernel
theorem dX5_counted_84 : decode cX5_counted 84 = .ok (.aload_n 0, 1) := by decide +kernel
theorem dX5_counted_85 : decode cX5_counted 85 = .ok (.iload_n 3, 1) := by decide +kernel
theorem dX5_counted_86 : decode cX5_counted 86 = .ok (.invokevirtual 75, 3) := by decide +kernel
theorem dX5_counted_89 : decode cX5_counted 89 = .ok (.istore_n 3, 1) := by decide +kernel
theorem dX5_counted_90 : decode cX5_counted 90 = .ok (.goto (-86), 3) := by decide +kernel
theorem dX5_counted_93 : decode cX5_counted 93 = .ok (.iload_n 2, 1) := by decide +kernel
theorem dX5_counted_94 : decode cX5_counted 94 = .ok (.ireturn, 1) := by decide +kernel
theorem dX5_count_0 : decode cX5_count 0 = .ok (.iload_n 1, 1) := by decide +kernel
theorem dX5_count_1 : decode cX5_count 1 = .ok (.i2l, 1) := by decide +kernel
theorem dX5_count_2 : decode cX5_count 2 = .ok (.lconst 0, 1) := by decide +kernel
theorem dX5_count_3 : decode cX5_count 3 = .ok (.ldc2_w 135, 3) := by decide +kernel
theorem dX5_count_6 : decode cX5_count 6 = .ok (.invokestatic 53, 3) := by decide +kernel
theorem dX5_count_9 : decode cX5_count 9 = .ok (.ifCond .ne 6, 3) := by decide +kernel
theorem dX5_count_12 : decode cX5_count 12 = .ok (.bipush (-2), 2) := by decide +kernel
theorem dX5_count_14 : decode cX5_count 14 = .ok (.ireturn, 1) := by decide +kernel
theorem dX5_count_15 : decode cX5_count 15 = .ok (.iload_n 1, 1) := by decide +kernel
theorem dX5_count_16 : decode cX5_count 16 = .ok (.iconst 4, 1) := by decide +kernel
theorem dX5_count_17 : decode cX5_count 17 = .ok (.if_icmp .ge 51, 3) := by decide +kernel
theorem dX5_count_20 : decode cX5_count 20 = .ok (.iload_n 1, 1) := by decide +kernel
theorem dX5_count_21 : decode cX5_count 21 = .ok (.ifCond .ne 10, 3) := by decide +kernel
theorem dX5_count_24 : decode cX5_count 24 = .ok (.aload_n 0, 1) := by decide +kernel
theorem dX5_count_25 : decode cX5_count 25 = .ok (.getfield 32, 3) := by decide +kernel
theorem dX5_count_28 : decode cX5_count 28 = .ok (.goto 39, 3) := by decide +kernel
theorem dX5_count_31 : decode cX5_count 31 = .ok (.iload_n 1, 1) := by decide +kernel
theorem dX5_count_32 : decode cX5_count 32 = .ok (.iconst 1, 1) := by decide +kernel
theorem dX5_count_33 : decode cX5_count 33 = .ok (.if_icmp .ne 10, 3) := by decide +kernel
theorem dX5_count_36 : decode cX5_count 36 = .ok (.aload_n 0, 1) := by decide +kernel
theorem dX5_count_37 : decode cX5_count 37 = .ok (.getfield 46, 3) := by decide +kernel
theorem dX5_count_40 : decode cX5_count 40 = .ok (.goto 27, 3) := by decide +kernel
theorem dX5_count_43 : decode cX5_count 43 = .ok (.iload_n 1, 1) := by decide +kernel
theorem dX5_count_44 : decode cX5_count 44 = .ok (.iconst 2, 1) := by decide +kernel
theorem dX5_count_45 : decode cX5_count 45 = .ok (.if_icmp .ne 18, 3) := by decide +kernel
theorem dX5_count_48 : decode cX5_count 48 = .ok (.aload_n 0, 1) := by decide +kernel
theorem dX5_count_49 : decode cX5_count 49 = .ok (.getfield 35, 3) := by decide +kernel
theorem dX5_count_52 : decode cX5_count 52 = .ok (.ifCond .eq 7, 3) := by decide +kernel
theorem dX5_count_55 : decode cX5_count 55 = .ok (.iconst 1, 1) := by decide +kernel
theorem dX5_count_56 : decode cX5_count 56 = .ok (.goto 11, 3) := by decide +kernel
theorem dX5_count_59 : decode cX5_count 59 = .ok (.iconst 0, 1) := by decide +kernel
theorem dX5_count_60 : decode cX5_count 60 = .ok (.goto 7, 3) := by decide +kernel
theorem dX5_count_63 : decode cX5_count 63 = .ok (.aload_n 0, 1) := by decide +kernel
theorem dX5_count_64 : decode cX5_count 64 = .ok (.getfield 39, 3) := by decide +kernel
theorem dX5_count_67 : decode cX5_count 67 = .ok (.ireturn, 1) := by decide +kernel
theorem dX5_count_68 : decode cX5_count 68 = .ok (.aload_n 0, 1) := by decide +kernel
theorem dX5_count_69 : decode cX5_count 69 = .ok (.getfield 35, 3) := by decide +kernel
theorem dX5_count_72 : decode cX5_count 72 = .ok (.ifCond .eq 8, 3) := by decide +kernel
theorem dX5_count_75 : decode cX5_count 75 = .ok (.bipush (-3), 2) := by decide +kernel
theorem dX5_count_77 : decode cX5_count 77 = .ok (.goto 8, 3) := by decide +kernel
theorem dX5_count_80 : decode cX5_count 80 = .ok (.aload_n 0, 1) := by decide +kernel
theorem dX5_count_81 : decode cX5_count 81 = .ok (.iload_n 1, 1) := by decide +kernel
theorem dX5_count_82 : decode cX5_count 82 = .ok (.invokevirtual 137, 3) := by decide +kernel
theorem dX5_count_85 : decode cX5_count 85 = .ok (.ireturn, 1) := by decide +kernel
