theorem dX7_init_0 : decode cX7_init 0 = .ok (.aload_n 0, 1) := by decide +kernel
theorem dX7_init_1 : decode cX7_init 1 = .ok (.invokespecial 1, 3) := by decide +kernel
theorem dX7_init_4 : decode cX7_init 4 = .ok (.aload_n 0, 1) := by decide +kernel
theorem dX7_init_5 : decode cX7_init 5 = .ok (.bipush 9, 2) := by decide +kernel
theorem dX7_init_7 : decode cX7_init 7 = .ok (.newarray .int, 2) := by decide +kernel
theorem dX7_init_9 : decode cX7_init 9 = .ok (.putfield 7, 3) := by decide +kernel
theorem dX7_init_12 : decode cX7_init 12 = .ok (.aload_n 0, 1) := by decide +kernel
theorem dX7_init_13 : decode cX7_init 13 = .ok (.bipush 9, 2) := by decide +kernel
theorem dX7_init_15 : decode cX7_init 15 = .ok (.newarray .int, 2) := by decide +kernel
theorem dX7_init_17 : decode cX7_init 17 = .ok (.putfield 13, 3) := by decide +kernel
theorem dX7_init_20 : decode cX7_init 20 = .ok (.aload_n 0, 1) := by decide +kernel
theorem dX7_init_21 : decode cX7_init 21 = .ok (.iconst 5, 1) := by decide +kernel
theorem dX7_init_22 : decode cX7_init 22 = .ok (.newarray .int, 2) := by decide +kernel
theorem dX7_init_24 : decode cX7_init 24 = .ok (.putfield 16, 3) := by decide +kernel
theorem dX7_init_27 : decode cX7_init 27 = .ok (.aload_n 0, 1) := by decide +kernel
theorem dX7_init_28 : decode cX7_init 28 = .ok (.bipush 110, 2) := by decide +kernel
theorem dX7_init_30 : decode cX7_init 30 = .ok (.newarray .int, 2) := by decide +kernel
theorem dX7_init_32 : decode cX7_init 32 = .ok (.putfield 19, 3) := by decide +kernel
theorem dX7_init_35 : decode cX7_init 35 = .ok (.aload_n 0, 1) := by decide +kernel
theorem dX7_init_36 : decode cX7_init 36 = .ok (.iconst 5, 1) := by decide +kernel
theorem dX7_init_37 : decode cX7_init 37 = .ok (.newarray .int, 2) := by decide +kernel
theorem dX7_init_39 : decode cX7_init 39 = .ok (.putfield 22, 3) := by decide +kernel
theorem dX7_init_42 : decode cX7_init 42 = .ok (.aload_n 0, 1) := by decide +kernel
theorem dX7_init_43 : decode cX7_init 43 = .ok (.bipush 9, 2) := by decide +kernel
theorem dX7_init_45 : decode cX7_init 45 = .ok (.newarray .int, 2) := by decide +kernel
theorem dX7_init_47 : decode cX7_init 47 = .ok (.putfield 25, 3) := by decide +kernel
theorem dX7_init_50 : decode cX7_init 50 = .ok (.aload_n 0, 1) := by decide +kernel
theorem dX7_init_51 : decode cX7_init 51 = .ok (.bipush 9, 2) := by decide +kernel
theorem dX7_init_53 : decode cX7_init 53 = .ok (.newarray .int, 2) := by decide +kernel
theorem dX7_init_55 : decode cX7_init 55 = .ok (.putfield 28, 3) := by decide +kernel
theorem dX7_init_58 : decode cX7_init 58 = .ok (.aload_n 0, 1) := by decide +kernel
theorem dX7_init_59 : decode cX7_init 59 = .ok (.bipush 9, 2) := by decide +kernel
theorem dX7_init_61 : decode cX7_init 61 = .ok (.newarray .int, 2) := by decide +kernel
theorem dX7_init_63 : decode cX7_init 63 = .ok (.putfield 31, 3) := by decide +kernel
theorem dX7_init_66 : decode cX7_init 66 = .ok (.aload_n 0, 1) := by decide +kernel
theorem dX7_init_67 : decode cX7_init 67 = .ok (.bipush 9, 2) := by decide +kernel
theorem dX7_init_69 : decode cX7_init 69 = .ok (.newarray .int, 2) := by decide +kernel
theorem dX7_init_71 : decode cX7_init 71 = .ok (.putfield 34, 3) := by decide +kernel
theorem dX7_init_74 : decode cX7_init 74 = .ok (.aload_n 0, 1) := by decide +kernel
theorem dX7_init_75 : decode cX7_init 75 = .ok (.sipush 512, 3) := by decide +kernel
theorem dX7_init_78 : decode cX7_init 78 = .ok (.newarray .int, 2) := by decide +kernel
theorem dX7_init_80 : decode cX7_init 80 = .ok (.putfield 37, 3) := by decide +kernel
theorem dX7_init_83 : decode cX7_init 83 = .ok (.aload_n 0, 1) := by decide +kernel
theorem dX7_init_84 : decode cX7_init 84 = .ok (.bipush 9, 2) := by decide +kernel
theorem dX7_init_86 : decode cX7_init 86 = .ok (.newarray .int, 2) := by decide +kernel
theorem dX7_init_88 : decode cX7_init 88 = .ok (.putfield 40, 3) := by decide +kernel
theorem dX7_init_91 : decode cX7_init 91 = .ok (.aload_n 0, 1) := by decide +kernel
theorem dX7_init_92 : decode cX7_init 92 = .ok (.bipush 9, 2) := by decide +kernel
theorem dX7_init_94 : decode cX7_init 94 = .ok (.newarray .long, 2) := by decide +kernel
theorem dX7_init_96 : decode cX7_init 96 = .ok (.putfield 43, 3) := by decide +kernel
theorem dX7_init_99 : decode cX7_init 99 = .ok (.aload_n 0, 1) := by decide +kernel
theorem dX7_init_100 : decode cX7_init 100 = .ok (.bipush 9, 2) := by decide +kernel
theorem dX7_init_102 : decode cX7_init 102 = .ok (.newarray .long, 2) := by decide +kernel
theorem dX7_init_104 : decode cX7_init 104 = .ok (.putfield 47, 3) := by decide +kernel
theorem dX7_init_107 : decode cX7_init 107 = .ok (.return_, 1) := by decide +kernel
theorem dX7_within_0 : decode cX7_within 0 = .ok (.iload_n 0, 1) := by decide +kernel
theorem dX7_within_1 : decode cX7_within 1 = .ok (.iload_n 1, 1) := by decide +kernel
theorem dX7_within_2 : decode cX7_within 2 = .ok (.if_icmp .lt 12, 3) := by decide +kernel
theorem dX7_within_5 : decode cX7_within 5 = .ok (.iload_n 0, 1) := by decide +kernel
theorem dX7_within_6 : decode cX7_within 6 = .ok (.iload_n 2, 1) := by decide +kernel
theorem dX7_within_7 : decode cX7_within 7 = .ok (.if_icmp .gt 7, 3) := by decide +kernel
theorem dX7_within_10 : decode cX7_within 10 = .ok (.iconst 1, 1) := by decide +kernel
theorem dX7_within_11 : decode cX7_within 11 = .ok (.goto 4, 3) := by decide +kernel
theorem dX7_within_14 : decode cX7_within 14 = .ok (.iconst 0, 1) := by decide +kernel
theorem dX7_within_15 : decode cX7_within 15 = .ok (.ireturn, 1) := by decide +kernel
theorem dX7_has_0 : decode cX7_has 0 = .ok (.iload_n 0, 1) := by decide +kernel
theorem dX7_has_1 : decode cX7_has 1 = .ok (.iload_n 1, 1) := by decide +kernel
theorem dX7_has_2 : decode cX7_has 2 = .ok (.ishr, 1) := by decide +kernel
theorem dX7_has_3 : decode cX7_has 3 = .ok (.iconst 1, 1) := by decide +kernel
theorem dX7_has_4 : decode cX7_has 4 = .ok (.iand, 1) := by decide +kernel
theorem dX7_has_5 : decode cX7_has 5 = .ok (.iconst 1, 1) := by decide +kernel
theorem dX7_has_6 : decode cX7_has 6 = .ok (.if_icmp .ne 7, 3) := by decide +kernel
theorem dX7_has_9 : decode cX7_has 9 = .ok (.iconst 1, 1) := by decide +kernel
theorem dX7_has_10 : decode cX7_has 10 = .ok (.goto 4, 3) := by decide +kernel
theorem dX7_has_13 : decode cX7_has 13 = .ok (.iconst 0, 1) := by decide +kernel
theorem dX7_has_14 : decode cX7_has 14 = .ok (.ireturn, 1) := by decide +kernel
theorem dX7_size_0 : decode cX7_size 0 = .ok (.iconst 0, 1) := by decide +kernel
theorem dX7_size_1 : decode cX7_size 1 = .ok (.istore_n 1, 1) := by decide +kernel
theorem dX7_size_2 : decode cX7_size 2 = .ok (.iconst 0, 1) := by decide +kernel
theorem dX7_size_3 : decode cX7_size 3 = .ok (.istore_n 2, 1) := by decide +kernel
theorem dX7_size_4 : decode cX7_size 4 = .ok (.iload_n 2, 1) := by decide +kernel
theorem dX7_size_5 : decode cX7_size 5 = .ok (.bipush 9, 2) := by decide +kernel
theorem dX7_size_7 : decode cX7_size 7 = .ok (.if_icmp .ge 17, 3) := by decide +kernel
theorem dX7_size_10 : decode cX7_size 10 = .ok (.iload_n 1, 1) := by decide +kernel
theorem dX7_size_11 : decode cX7_size 11 = .ok (.iload_n 0, 1) := by decide +kernel
theorem dX7_size_12 : decode cX7_size 12 = .ok (.iload_n 2, 1) := by decide +kernel
theorem dX7_size_13 : decode cX7_size 13 = .ok (.ishr, 1) := by decide +kernel
theorem dX7_size_14 : decode cX7_size 14 = .ok (.iconst 1, 1) := by decide +kernel
theorem dX7_size_15 : decode cX7_size 15 = .ok (.iand, 1) := by decide +kernel
theorem dX7_size_16 : decode cX7_size 16 = .ok (.iadd, 1) := by decide +kernel
theorem dX7_size_17 : decode cX7_size 17 = .ok (.istore_n 1, 1) := by decide +kernel
theorem dX7_size_18 : decode cX7_size 18 = .ok (.iinc 2 1, 3) := by decide +kernel
theorem dX7_size_21 : decode cX7_size 21 = .ok (.goto (-17), 3) := by decide +kernel
theorem dX7_size_24 : decode cX7_size 24 = .ok (.iload_n 1, 1) := by decide +kernel
theorem dX7_size_25 : decode cX7_size 25 = .ok (.ireturn, 1) := by decide +kernel
theorem dX7_letter_0 : decode cX7_letter 0 = .ok (.iload_n 1, 1) := by decide +kernel
theorem dX7_letter_1 : decode cX7_letter 1 = .ok (.bipush 32, 2) := by decide +kernel
theorem dX7_letter_3 : decode cX7_letter 3 = .ok (.bipush 126, 2) := by decide +kernel
theorem dX7_letter_5 : decode cX7_letter 5 = .ok (.invokestatic 50, 3) := by decide +kernel
theorem dX7_letter_8 : decode cX7_letter 8 = .ok (.ifCond .ne 6, 3) := by decide +kernel
theorem dX7_letter_11 : decode cX7_letter 11 = .ok (.bipush (-102), 2) := by decide +kernel
theorem dX7_letter_13 : decode cX7_letter 13 = .ok (.ireturn, 1) := by decide +kernel
theorem dX7_letter_14 : decode cX7_letter 14 = .ok (.aload_n 0, 1) := by decide +kernel
theorem dX7_letter_15 : decode cX7_letter 15 = .ok (.getfield 54, 3) := by decide +kernel
theorem dX7_letter_18 : decode cX7_letter 18 = .ok (.bipush 110, 2) := by decide +kernel
theorem dX7_letter_20 : decode cX7_letter 20 = .ok (.if_icmp .ne 6, 3) := by decide +kernel
theorem dX7_letter_23 : decode cX7_letter 23 = .ok (.bipush (-104), 2) := by decide +kernel
theorem dX7_letter_25 : decode cX7_letter 25 = .ok (.ireturn, 1) := by decide +kernel
theorem dX7_letter_26 : decode cX7_letter 26 = .ok (.aload_n 0, 1) := by decide +kernel
theorem dX7_letter_27 : decode cX7_letter 27 = .ok (.getfield 19, 3) := by decide +kernel
theorem dX7_letter_30 : decode cX7_letter 30 = .ok (.aload_n 0, 1) := by decide +kernel
theorem dX7_letter_31 : decode cX7_letter 31 = .ok (.getfield 54, 3) := by decide +kernel
theorem dX7_letter_34 : decode cX7_letter 34 = .ok (.iload_n 1, 1) := by decide +kernel
theorem dX7_letter_35 : decode cX7_letter 35 = .ok (.iastore, 1) := by decide +kernel
theorem dX7_letter_36 : decode cX7_letter 36 = .ok (.aload_n 0, 1) := by decide +kernel
theorem dX7_letter_37 : decode cX7_letter 37 = .ok (.dup, 1) := by decide +kernel
theorem dX7_letter_38 : decode cX7_letter 38 = .ok (.getfield 54, 3) := by decide +kernel
theorem dX7_letter_41 : decode cX7_letter 41 = .ok (.iconst 1, 1) := by decide +kernel
theorem dX7_letter_42 : decode cX7_letter 42 = .ok (.iadd, 1) := by decide +kernel
theorem dX7_letter_43 : decode cX7_letter 43 = .ok (.putfield 54, 3) := by decide +kernel
theorem dX7_letter_46 : decode cX7_letter 46 = .ok (.aload_n 0, 1) := by decide +kernel
theorem dX7_letter_47 : decode cX7_letter 47 = .ok (.getfield 54, 3) := by decide +kernel
theorem dX7_letter_50 : decode cX7_letter 50 = .ok (.ireturn, 1) := by decide +kernel
theorem dX7_blank_0 : decode cX7_blank 0 = .ok (.aload_n 0, 1) := by decide +kernel
theorem dX7_blank_1 : decode cX7_blank 1 = .ok (.getfield 54, 3) := by decide +kernel
theorem dX7_blank_4 : decode cX7_blank 4 = .ok (.istore_n 1, 1) := by decide +kernel
theorem dX7_blank_5 : decode cX7_blank 5 = .ok (.aload_n 0, 1) := by decide +kernel
theorem dX7_blank_6 : decode cX7_blank 6 = .ok (.iconst 0, 1) := by decide +kernel
theorem dX7_blank_7 : decode cX7_blank 7 = .ok (.putfield 54, 3) := by decide +kernel
theorem dX7_blank_10 : decode cX7_blank 10 = .ok (.iload_n 1, 1) := by decide +kernel
theorem dX7_blank_11 : decode cX7_blank 11 = .ok (.ireturn, 1) := by decide +kernel
theorem dX7_canVouch_0 : decode cX7_canVouch 0 = .ok (.iload_n 1, 1) := by decide +kernel
theorem dX7_canVouch_1 : decode cX7_canVouch 1 = .ok (.aload_n 0, 1) := by decide +kernel
theorem dX7_canVouch_2 : decode cX7_canVouch 2 = .ok (.getfield 58, 3) := by decide +kernel
theorem dX7_canVouch_5 : decode cX7_canVouch 5 = .ok (.if_icmp .le 23, 3) := by decide +kernel
theorem dX7_canVouch_8 : decode cX7_canVouch 8 = .ok (.iload_n 1, 1) := by decide +kernel
theorem dX7_canVouch_9 : decode cX7_canVouch 9 = .ok (.aload_n 0, 1) := by decide +kernel
theorem dX7_canVouch_10 : decode cX7_canVouch 10 = .ok (.getfield 61, 3) := by decide +kernel
theorem dX7_canVouch_13 : decode cX7_canVouch 13 = .ok (.if_icmp .ge 15, 3) := by decide +kernel
theorem dX7_canVouch_16 : decode cX7_canVouch 16 = .ok (.iload_n 1, 1) := by decide +kernel
theorem dX7_canVouch_17 : decode cX7_canVouch 17 = .ok (.aload_n 0, 1) := by decide +kernel
theorem dX7_canVouch_18 : decode cX7_canVouch 18 = .ok (.getfield 64, 3) := by decide +kernel
theorem dX7_canVouch_21 : decode cX7_canVouch 21 = .ok (.if_icmp .eq 7, 3) := by decide +kernel
theorem dX7_canVouch_24 : decode cX7_canVouch 24 = .ok (.iconst 1, 1) := by decide +kernel
theorem dX7_canVouch_25 : decode cX7_canVouch 25 = .ok (.goto 4, 3) := by decide +kernel
theorem dX7_canVouch_28 : decode cX7_canVouch 28 = .ok (.iconst 0, 1) := by decide +kernel
theorem dX7_canVouch_29 : decode cX7_canVouch 29 = .ok (.ireturn, 1) := by decide +kernel
theorem dX7_canBegin_0 : decode cX7_canBegin 0 = .ok (.iconst 0, 1) := by decide +kernel
theorem dX7_canBegin_1 : decode cX7_canBegin 1 = .ok (.istore_n 1, 1) := by decide +kernel
theorem dX7_canBegin_2 : decode cX7_canBegin 2 = .ok (.iconst 0, 1) := by decide +kernel
theorem dX7_canBegin_3 : decode cX7_canBegin 3 = .ok (.istore_n 2, 1) := by decide +kernel
theorem dX7_canBegin_4 : decode cX7_canBegin 4 = .ok (.iload_n 2, 1) := by decide +kernel
theorem dX7_canBegin_5 : decode cX7_canBegin 5 = .ok (.bipush 9, 2) := by decide +kernel
theorem dX7_canBegin_7 : decode cX7_canBegin 7 = .ok (.if_icmp .ge 27, 3) := by decide +kernel
theorem dX7_canBegin_10 : decode cX7_canBegin 10 = .ok (.iload_n 1, 1) := by decide +kernel
theorem dX7_canBegin_11 : decode cX7_canBegin 11 = .ok (.ifCond .ne 11, 3) := by decide +kernel
theorem dX7_canBegin_14 : decode cX7_canBegin 14 = .ok (.aload_n 0, 1) := by decide +kernel
theorem dX7_canBegin_15 : decode cX7_canBegin 15 = .ok (.iload_n 2, 1) := by decide +kernel
theorem dX7_canBegin_16 : decode cX7_canBegin 16 = .ok (.invokevirtual 67, 3) := by decide +kernel
theorem dX7_canBegin_19 : decode cX7_canBegin 19 = .ok (.ifCond .eq 7, 3) := by decide +kernel
theorem dX7_canBegin_22 : decode cX7_canBegin 22 = .ok (.iconst 1, 1) := by decide +kernel
theorem dX7_canBegin_23 : decode cX7_canBegin 23 = .ok (.goto 4, 3) := by decide +kernel
theorem dX7_canBegin_26 : decode cX7_canBegin 26 = .ok (.iconst 0, 1) := by decide +kernel
theorem dX7_canBegin_27 : decode cX7_canBegin 27 = .ok (.istore_n 1, 1) := by decide +kernel
theorem dX7_canBegin_28 : decode cX7_canBegin 28 = .ok (.iinc 2 1, 3) := by decide +kernel
theorem dX7_canBegin_31 : decode cX7_canBegin 31 = .ok (.goto (-27), 3) := by decide +kernel
theorem dX7_canBegin_34 : decode cX7_canBegin 34 = .ok (.iload_n 1, 1) := by decide +kernel
theorem dX7_canBegin_35 : decode cX7_canBegin 35 = .ok (.ifCond .eq 23, 3) := by decide +kernel
theorem dX7_canBegin_38 : decode cX7_canBegin 38 = .ok (.aload_n 0, 1) := by decide +kernel
theorem dX7_canBegin_39 : decode cX7_canBegin 39 = .ok (.getfield 28, 3) := by decide +kernel
theorem dX7_canBegin_42 : decode cX7_canBegin 42 = .ok (.aload_n 0, 1) := by decide +kernel
theorem dX7_canBegin_43 : decode cX7_canBegin 43 = .ok (.getfield 64, 3) := by decide +kernel
theorem dX7_canBegin_46 : decode cX7_canBegin 46 = .ok (.iaload, 1) := by decide +kernel
theorem dX7_canBegin_47 : decode cX7_canBegin 47 = .ok (.invokestatic 71, 3) := by decide +kernel
theorem dX7_canBegin_50 : decode cX7_canBegin 50 = .ok (.iconst 5, 1) := by decide +kernel
theorem dX7_canBegin_51 : decode cX7_canBegin 51 = .ok (.if_icmp .ge 7, 3) := by decide +kernel
theorem dX7_canBegin_54 : decode cX7_canBegin 54 = .ok (.iconst 1, 1) := by decide +kernel
theorem dX7_canBegin_55 : decode cX7_canBegin 55 = .ok (.goto 4, 3) := by decide +kernel
theorem dX7_canBegin_58 : decode cX7_canBegin 58 = .ok (.iconst 0, 1) := by decide +kernel
theorem dX7_canBegin_59 : decode cX7_canBegin 59 = .ok (.ireturn, 1) := by decide +kernel
theorem dX7_beginPerson_0 : decode cX7_beginPerson 0 = .ok (.aload_n 0, 1) := by decide +kernel
theorem dX7_beginPerson_1 : decode cX7_beginPerson 1 = .ok (.iload_n 1, 1) := by decide +kernel
theorem dX7_beginPerson_2 : decode cX7_beginPerson 2 = .ok (.putfield 64, 3) := by decide +kernel
theorem dX7_beginPerson_5 : decode cX7_beginPerson 5 = .ok (.aload_n 0, 1) := by decide +kernel
theorem dX7_beginPerson_6 : decode cX7_beginPerson 6 = .ok (.iconst (-1), 1) := by decide +kernel
theorem dX7_beginPerson_7 : decode cX7_beginPerson 7 = .ok (.putfield 58, 3) := by decide +kernel
theorem dX7_beginPerson_10 : decode cX7_beginPerson 10 = .ok (.aload_n 0, 1) := by decide +kernel
theorem dX7_beginPerson_11 : decode cX7_beginPerson 11 = .ok (.iconst 3, 1) := by decide +kernel
theorem dX7_beginPerson_12 : decode cX7_beginPerson 12 = .ok (.putfield 75, 3) := by decide +kernel
theorem dX7_beginPerson_15 : decode cX7_beginPerson 15 = .ok (.aload_n 0, 1) := by decide +kernel
theorem dX7_beginPerson_16 : decode cX7_beginPerson 16 = .ok (.getfield 25, 3) := by decide +kernel
theorem dX7_beginPerson_19 : decode cX7_beginPerson 19 = .ok (.iload_n 1, 1) := by decide +kernel
theorem dX7_beginPerson_20 : decode cX7_beginPerson 20 = .ok (.iconst 0, 1) := by decide +kernel
theorem dX7_beginPerson_21 : decode cX7_beginPerson 21 = .ok (.iastore, 1) := by decide +kernel
theorem dX7_beginPerson_22 : decode cX7_beginPerson 22 = .ok (.aload_n 0, 1) := by decide +kernel
theorem dX7_beginPerson_23 : decode cX7_beginPerson 23 = .ok (.getfield 28, 3) := by decide +kernel
theorem dX7_beginPerson_26 : decode cX7_beginPerson 26 = .ok (.iload_n 1, 1) := by decide +kernel
theorem dX7_beginPerson_27 : decode cX7_beginPerson 27 = .ok (.iconst 0, 1) := by decide +kernel
theorem dX7_beginPerson_28 : decode cX7_beginPerson 28 = .ok (.iastore, 1) := by decide +kernel
theorem dX7_beginPerson_29 : decode cX7_beginPerson 29 = .ok (.return_, 1) := by decide +kernel
theorem dX7_takesBounds_0 : decode cX7_takesBounds 0 = .ok (.iload_n 1, 1) := by decide +kernel
theorem dX7_takesBounds_1 : decode cX7_takesBounds 1 = .ok (.bipush 58, 2) := by decide +kernel
theorem dX7_takesBounds_3 : decode cX7_takesBounds 3 = .ok (.if_icmp .ne 17, 3) := by decide +kernel
theorem dX7_takesBounds_6 : decode cX7_takesBounds 6 = .ok (.aload_n 0, 1) := by decide +kernel
theorem dX7_takesBounds_7 : decode cX7_takesBounds 7 = .ok (.getfield 78, 3) := by decide +kernel
theorem dX7_takesBounds_10 : decode cX7_takesBounds 10 = .ok (.ifCond .le 10, 3) := by decide +kernel
theorem dX7_takesBounds_13 : decode cX7_takesBounds 13 = .ok (.aload_n 0, 1) := by decide +kernel
theorem dX7_takesBounds_14 : decode cX7_takesBounds 14 = .ok (.iconst 0, 1) := by decide +kernel
theorem dX7_takesBounds_15 : decode cX7_takesBounds 15 = .ok (.invokevirtual 81, 3) := by decide +kernel
theorem dX7_takesBounds_18 : decode cX7_takesBounds 18 = .ok (.iconst 1, 1) := by decide +kernel
theorem dX7_takesBounds_19 : decode cX7_takesBounds 19 = .ok (.ireturn, 1) := by decide +kernel
theorem dX7_takesBounds_20 : decode cX7_takesBounds 20 = .ok (.iload_n 1, 1) := by decide +kernel
theorem dX7_takesBounds_21 : decode cX7_takesBounds 21 = .ok (.bipush 48, 2) := by decide +kernel
theorem dX7_takesBounds_23 : decode cX7_takesBounds 23 = .ok (.bipush 57, 2) := by decide +kernel
theorem dX7_takesBounds_25 : decode cX7_takesBounds 25 = .ok (.invokestatic 50, 3) := by decide +kernel
theorem dX7_takesBounds_28 : decode cX7_takesBounds 28 = .ok (.ifCond .eq 15, 3) := by decide +kernel
theorem dX7_takesBounds_31 : decode cX7_takesBounds 31 = .ok (.aload_n 0, 1) := by decide +kernel
theorem dX7_takesBounds_32 : decode cX7_takesBounds 32 = .ok (.getfield 78, 3) := by decide +kernel
theorem dX7_takesBounds_35 : decode cX7_takesBounds 35 = .ok (.iconst 5, 1) := by decide +kernel
theorem dX7_takesBounds_36 : decode cX7_takesBounds 36 = .ok (.if_icmp .ge 7, 3) := by decide +kernel
theorem dX7_takesBounds_39 : decode cX7_takesBounds 39 = .ok (.iconst 1, 1) := by decide +kernel
theorem dX7_takesBounds_40 : decode cX7_takesBounds 40 = .ok (.goto 4, 3) := by decide +kernel
theorem dX7_takesBounds_43 : decode cX7_takesBounds 43 = .ok (.iconst 0, 1) := by decide +kernel
theorem dX7_takesBounds_44 : decode cX7_takesBounds 44 = .ok (.istore_n 2, 1) := by decide +kernel
theorem dX7_takesBounds_45 : decode cX7_takesBounds 45 = .ok (.iload_n 2, 1) := by decide +kernel
theorem dX7_takesBounds_46 : decode cX7_takesBounds 46 = .ok (.ifCond .eq 26, 3) := by decide +kernel
theorem dX7_takesBounds_49 : decode cX7_takesBounds 49 = .ok (.aload_n 0, 1) := by decide +kernel
theorem dX7_takesBounds_50 : decode cX7_takesBounds 50 = .ok (.getfield 22, 3) := by decide +kernel
theorem dX7_takesBounds_53 : decode cX7_takesBounds 53 = .ok (.aload_n 0, 1) := by decide +kernel
theorem dX7_takesBounds_54 : decode cX7_takesBounds 54 = .ok (.getfield 78, 3) := by decide +kernel
theorem dX7_takesBounds_57 : decode cX7_takesBounds 57 = .ok (.iload_n 1, 1) := by decide +kernel
theorem dX7_takesBounds_58 : decode cX7_takesBounds 58 = .ok (.bipush 48, 2) := by decide +kernel
theorem dX7_takesBounds_60 : decode cX7_takesBounds 60 = .ok (.isub, 1) := by decide +kernel
theorem dX7_takesBounds_61 : decode cX7_takesBounds 61 = .ok (.iastore, 1) := by decide +kernel
theorem dX7_takesBounds_62 : decode cX7_takesBounds 62 = .ok (.aload_n 0, 1) := by decide +kernel
theorem dX7_takesBounds_63 : decode cX7_takesBounds 63 = .ok (.dup, 1) := by decide +kernel
theorem dX7_takesBounds_64 : decode cX7_takesBounds 64 = .ok (.getfield 78, 3) := by decide +kernel
theorem dX7_takesBounds_67 : decode cX7_takesBounds 67 = .ok (.iconst 1, 1) := by decide +kernel
theorem dX7_takesBounds_68 : decode cX7_takesBounds 68 = .ok (.iadd, 1) := by decide +kernel
theorem dX7_takesBounds_69 : decode cX7_takesBounds 69 = .ok (.putfield 78, 3) := by decide +kernel
theorem dX7_takesBounds_72 : decode cX7_takesBounds 72 = .ok (.iload_n 2, 1) := by decide +kernel
theorem dX7_takesBounds_73 : decode cX7_takesBounds 73 = .ok (.ireturn, 1) := by decide +kernel
theorem dX7_takesKind_0 : decode cX7_takesKind 0 = .ok (.aload_n 0, 1) := by decide +kernel
theorem dX7_takesKind_1 : decode cX7_takesKind 1 = .ok (.getfield 75, 3) := by decide +kernel
theorem dX7_takesKind_4 : decode cX7_takesKind 4 = .ok (.iconst 3, 1) := by decide +kernel
theorem dX7_takesKind_5 : decode cX7_takesKind 5 = .ok (.if_icmp .ne 20, 3) := by decide +kernel
theorem dX7_takesKind_8 : decode cX7_takesKind 8 = .ok (.iload_n 1, 1) := by decide +kernel
theorem dX7_takesKind_9 : decode cX7_takesKind 9 = .ok (.iconst 1, 1) := by decide +kernel
theorem dX7_takesKind_10 : decode cX7_takesKind 10 = .ok (.if_icmp .ne 11, 3) := by decide +kernel
theorem dX7_takesKind_13 : decode cX7_takesKind 13 = .ok (.aload_n 0, 1) := by decide +kernel
theorem dX7_takesKind_14 : decode cX7_takesKind 14 = .ok (.getfield 85, 3) := by decide +kernel
theorem dX7_takesKind_17 : decode cX7_takesKind 17 = .ok (.iconst 5, 1) := by decide +kernel
theorem dX7_takesKind_18 : decode cX7_takesKind 18 = .ok (.if_icmp .ge 7, 3) := by decide +kernel
theorem dX7_takesKind_21 : decode cX7_takesKind 21 = .ok (.iconst 1, 1) := by decide +kernel
theorem dX7_takesKind_22 : decode cX7_takesKind 22 = .ok (.goto 4, 3) := by decide +kernel
theorem dX7_takesKind_25 : decode cX7_takesKind 25 = .ok (.iconst 0, 1) := by decide +kernel
theorem dX7_takesKind_26 : decode cX7_takesKind 26 = .ok (.istore_n 2, 1) := by decide +kernel
theorem dX7_takesKind_27 : decode cX7_takesKind 27 = .ok (.iload_n 2, 1) := by decide +kernel
theorem dX7_takesKind_28 : decode cX7_takesKind 28 = .ok (.ifCond .eq 37, 3) := by decide +kernel
theorem dX7_takesKind_31 : decode cX7_takesKind 31 = .ok (.aload_n 0, 1) := by decide +kernel
theorem dX7_takesKind_32 : decode cX7_takesKind 32 = .ok (.getfield 25, 3) := by decide +kernel
theorem dX7_takesKind_35 : decode cX7_takesKind 35 = .ok (.aload_n 0, 1) := by decide +kernel
theorem dX7_takesKind_36 : decode cX7_takesKind 36 = .ok (.getfield 64, 3) := by decide +kernel
theorem dX7_takesKind_39 : decode cX7_takesKind 39 = .ok (.iload_n 1, 1) := by decide +kernel
theorem dX7_takesKind_40 : decode cX7_takesKind 40 = .ok (.iastore, 1) := by decide +kernel
theorem dX7_takesKind_41 : decode cX7_takesKind 41 = .ok (.aload_n 0, 1) := by decide +kernel
theorem dX7_takesKind_42 : decode cX7_takesKind 42 = .ok (.dup, 1) := by decide +kernel
theorem dX7_takesKind_43 : decode cX7_takesKind 43 = .ok (.getfield 85, 3) := by decide +kernel
theorem dX7_takesKind_46 : decode cX7_takesKind 46 = .ok (.iload_n 1, 1) := by decide +kernel
theorem dX7_takesKind_47 : decode cX7_takesKind 47 = .ok (.iconst 1, 1) := by decide +kernel
theorem dX7_takesKind_48 : decode cX7_takesKind 48 = .ok (.if_icmp .ne 7, 3) := by decide +kernel
theorem dX7_takesKind_51 : decode cX7_takesKind 51 = .ok (.iconst 1, 1) := by decide +kernel
theorem dX7_takesKind_52 : decode cX7_takesKind 52 = .ok (.goto 4, 3) := by decide +kernel
theorem dX7_takesKind_55 : decode cX7_takesKind 55 = .ok (.iconst 0, 1) := by decide +kernel
theorem dX7_takesKind_56 : decode cX7_takesKind 56 = .ok (.iadd, 1) := by decide +kernel
theorem dX7_takesKind_57 : decode cX7_takesKind 57 = .ok (.putfield 85, 3) := by decide +kernel
theorem dX7_takesKind_60 : decode cX7_takesKind 60 = .ok (.aload_n 0, 1) := by decide +kernel
theorem dX7_takesKind_61 : decode cX7_takesKind 61 = .ok (.iconst 4, 1) := by decide +kernel
theorem dX7_takesKind_62 : decode cX7_takesKind 62 = .ok (.putfield 75, 3) := by decide +kernel
theorem dX7_takesKind_65 : decode cX7_takesKind 65 = .ok (.iload_n 2, 1) := by decide +kernel
theorem dX7_takesKind_66 : decode cX7_takesKind 66 = .ok (.ireturn, 1) := by decide +kernel
theorem dX7_takesOfPerson_0 : decode cX7_takesOfPerson 0 = .ok (.iload_n 1, 1) := by decide +kernel
theorem dX7_takesOfPerson_1 : decode cX7_takesOfPerson 1 = .ok (.lookupswitch 115 #[(33, 49), (42, 43), (59, 88), (62, 55)], 43) := by decide +kernel
theorem dX7_takesOfPerson_44 : decode cX7_takesOfPerson 44 = .ok (.aload_n 0, 1) := by decide +kernel
theorem dX7_takesOfPerson_45 : decode cX7_takesOfPerson 45 = .ok (.iconst 1, 1) := by decide +kernel
theorem dX7_takesOfPerson_46 : decode cX7_takesOfPerson 46 = .ok (.invokevirtual 88, 3) := by decide +kernel
theorem dX7_takesOfPerson_49 : decode cX7_takesOfPerson 49 = .ok (.ireturn, 1) := by decide +kernel
theorem dX7_takesOfPerson_50 : decode cX7_takesOfPerson 50 = .ok (.aload_n 0, 1) := by decide +kernel
theorem dX7_takesOfPerson_51 : decode cX7_takesOfPerson 51 = .ok (.iconst 2, 1) := by decide +kernel
theorem dX7_takesOfPerson_52 : decode cX7_takesOfPerson 52 = .ok (.invokevirtual 88, 3) := by decide +kernel
theorem dX7_takesOfPerson_55 : decode cX7_takesOfPerson 55 = .ok (.ireturn, 1) := by decide +kernel
theorem dX7_takesOfPerson_56 : decode cX7_takesOfPerson 56 = .ok (.aload_n 0, 1) := by decide +kernel
theorem dX7_takesOfPerson_57 : decode cX7_takesOfPerson 57 = .ok (.aload_n 0, 1) := by decide +kernel
theorem dX7_takesOfPerson_58 : decode cX7_takesOfPerson 58 = .ok (.invokevirtual 91, 3) := by decide +kernel
theorem dX7_takesOfPerson_61 : decode cX7_takesOfPerson 61 = .ok (.ifCond .eq 7, 3) := by decide +kernel
theorem dX7_takesOfPerson_64 : decode cX7_takesOfPerson 64 = .ok (.iconst 5, 1) := by decide +kernel
theorem dX7_takesOfPerson_65 : decode cX7_takesOfPerson 65 = .ok (.goto 7, 3) := by decide +kernel
theorem dX7_takesOfPerson_68 : decode cX7_takesOfPerson 68 = .ok (.aload_n 0, 1) := by decide +kernel
theorem dX7_takesOfPerson_69 : decode cX7_takesOfPerson 69 = .ok (.getfield 75, 3) := by decide +kernel
theorem dX7_takesOfPerson_72 : decode cX7_takesOfPerson 72 = .ok (.putfield 75, 3) := by decide +kernel
theorem dX7_takesOfPerson_75 : decode cX7_takesOfPerson 75 = .ok (.aload_n 0, 1) := by decide +kernel
theorem dX7_takesOfPerson_76 : decode cX7_takesOfPerson 76 = .ok (.getfield 75, 3) := by decide +kernel
theorem dX7_takesOfPerson_79 : decode cX7_takesOfPerson 79 = .ok (.iconst 5, 1) := by decide +kernel
theorem dX7_takesOfPerson_80 : decode cX7_takesOfPerson 80 = .ok (.if_icmp .ne 7, 3) := by decide +kernel
theorem dX7_takesOfPerson_83 : decode cX7_takesOfPerson 83 = .ok (.iconst 1, 1) := by decide +kernel
theorem dX7_takesOfPerson_84 : decode cX7_takesOfPerson 84 = .ok (.goto 4, 3) := by decide +kernel
theorem dX7_takesOfPerson_87 : decode cX7_takesOfPerson 87 = .ok (.iconst 0, 1) := by decide +kernel
theorem dX7_takesOfPerson_88 : decode cX7_takesOfPerson 88 = .ok (.ireturn, 1) := by decide +kernel
theorem dX7_takesOfPerson_89 : decode cX7_takesOfPerson 89 = .ok (.aload_n 0, 1) := by decide +kernel
theorem dX7_takesOfPerson_90 : decode cX7_takesOfPerson 90 = .ok (.getfield 64, 3) := by decide +kernel
theorem dX7_takesOfPerson_93 : decode cX7_takesOfPerson 93 = .ok (.aload_n 0, 1) := by decide +kernel
theorem dX7_takesOfPerson_94 : decode cX7_takesOfPerson 94 = .ok (.getfield 61, 3) := by decide +kernel
theorem dX7_takesOfPerson_97 : decode cX7_takesOfPerson 97 = .ok (.iconst 1, 1) := by decide +kernel
theorem dX7_takesOfPerson_98 : decode cX7_takesOfPerson 98 = .ok (.isub, 1) := by decide +kernel
theorem dX7_takesOfPerson_99 : decode cX7_takesOfPerson 99 = .ok (.if_icmp .ne 5, 3) := by decide +kernel
theorem dX7_takesOfPerson_102 : decode cX7_takesOfPerson 102 = .ok (.iconst 0, 1) := by decide +kernel
theorem dX7_takesOfPerson_103 : decode cX7_takesOfPerson 103 = .ok (.ireturn, 1) := by decide +kernel
theorem dX7_takesOfPerson_104 : decode cX7_takesOfPerson 104 = .ok (.aload_n 0, 1) := by decide +kernel
theorem dX7_takesOfPerson_105 : decode cX7_takesOfPerson 105 = .ok (.aload_n 0, 1) := by decide +kernel
theorem dX7_takesOfPerson_106 : decode cX7_takesOfPerson 106 = .ok (.getfield 64, 3) := by decide +kernel
theorem dX7_takesOfPerson_109 : decode cX7_takesOfPerson 109 = .ok (.iconst 1, 1) := by decide +kernel
theorem dX7_takesOfPerson_110 : decode cX7_takesOfPerson 110 = .ok (.iadd, 1) := by decide +kernel
theorem dX7_takesOfPerson_111 : decode cX7_takesOfPerson 111 = .ok (.invokevirtual 81, 3) := by decide +kernel
theorem dX7_takesOfPerson_114 : decode cX7_takesOfPerson 114 = .ok (.iconst 1, 1) := by decide +kernel
theorem dX7_takesOfPerson_115 : decode cX7_takesOfPerson 115 = .ok (.ireturn, 1) := by decide +kernel
theorem dX7_takesOfPerson_116 : decode cX7_takesOfPerson 116 = .ok (.iconst 0, 1) := by decide +kernel
theorem dX7_takesOfPerson_117 : decode cX7_takesOfPerson 117 = .ok (.ireturn, 1) := by decide +kernel
theorem dX7_takesWhom_0 : decode cX7_takesWhom 0 = .ok (.aload_n 0, 1) := by decide +kernel
theorem dX7_takesWhom_1 : decode cX7_takesWhom 1 = .ok (.iload_n 1, 1) := by decide +kernel
theorem dX7_takesWhom_2 : decode cX7_takesWhom 2 = .ok (.invokevirtual 67, 3) := by decide +kernel
theorem dX7_takesWhom_5 : decode cX7_takesWhom 5 = .ok (.istore_n 2, 1) := by decide +kernel
theorem dX7_takesWhom_6 : decode cX7_takesWhom 6 = .ok (.iload_n 2, 1) := by decide +kernel
theorem dX7_takesWhom_7 : decode cX7_takesWhom 7 = .ok (.ifCond .eq 28, 3) := by decide +kernel
theorem dX7_takesWhom_10 : decode cX7_takesWhom 10 = .ok (.aload_n 0, 1) := by decide +kernel
theorem dX7_takesWhom_11 : decode cX7_takesWhom 11 = .ok (.getfield 28, 3) := by decide +kernel
theorem dX7_takesWhom_14 : decode cX7_takesWhom 14 = .ok (.aload_n 0, 1) := by decide +kernel
theorem dX7_takesWhom_15 : decode cX7_takesWhom 15 = .ok (.getfield 64, 3) := by decide +kernel
theorem dX7_takesWhom_18 : decode cX7_takesWhom 18 = .ok (.dup2, 1) := by decide +kernel
theorem dX7_takesWhom_19 : decode cX7_takesWhom 19 = .ok (.iaload, 1) := by decide +kernel
theorem dX7_takesWhom_20 : decode cX7_takesWhom 20 = .ok (.iconst 1, 1) := by decide +kernel
theorem dX7_takesWhom_21 : decode cX7_takesWhom 21 = .ok (.iload_n 1, 1) := by decide +kernel
theorem dX7_takesWhom_22 : decode cX7_takesWhom 22 = .ok (.ishl, 1) := by decide +kernel
theorem dX7_takesWhom_23 : decode cX7_takesWhom 23 = .ok (.ior, 1) := by decide +kernel
theorem dX7_takesWhom_24 : decode cX7_takesWhom 24 = .ok (.iastore, 1) := by decide +kernel
theorem dX7_takesWhom_25 : decode cX7_takesWhom 25 = .ok (.aload_n 0, 1) := by decide +kernel
theorem dX7_takesWhom_26 : decode cX7_takesWhom 26 = .ok (.iload_n 1, 1) := by decide +kernel
theorem dX7_takesWhom_27 : decode cX7_takesWhom 27 = .ok (.putfield 58, 3) := by decide +kernel
theorem dX7_takesWhom_30 : decode cX7_takesWhom 30 = .ok (.aload_n 0, 1) := by decide +kernel
theorem dX7_takesWhom_31 : decode cX7_takesWhom 31 = .ok (.iconst 4, 1) := by decide +kernel
theorem dX7_takesWhom_32 : decode cX7_takesWhom 32 = .ok (.putfield 75, 3) := by decide +kernel
theorem dX7_takesWhom_35 : decode cX7_takesWhom 35 = .ok (.iload_n 2, 1) := by decide +kernel
theorem dX7_takesWhom_36 : decode cX7_takesWhom 36 = .ok (.ireturn, 1) := by decide +kernel
theorem dX7_takes_0 : decode cX7_takes 0 = .ok (.aload_n 0, 1) := by decide +kernel
theorem dX7_takes_1 : decode cX7_takes 1 = .ok (.getfield 75, 3) := by decide +kernel
theorem dX7_takes_4 : decode cX7_takes 4 = .ok (.tableswitch 128 0 5 #[40, 84, 113, 128, 128, 119], 40) := by decide +kernel
theorem dX7_takes_44 : decode cX7_takes 44 = .ok (.aload_n 0, 1) := by decide +kernel
theorem dX7_takes_45 : decode cX7_takes 45 = .ok (.iload_n 1, 1) := by decide +kernel
theorem dX7_takes_46 : decode cX7_takes 46 = .ok (.bipush 48, 2) := by decide +kernel
theorem dX7_takes_48 : decode cX7_takes 48 = .ok (.isub, 1) := by decide +kernel
theorem dX7_takes_49 : decode cX7_takes 49 = .ok (.putfield 61, 3) := by decide +kernel
theorem dX7_takes_52 : decode cX7_takes 52 = .ok (.aload_n 0, 1) := by decide +kernel
theorem dX7_takes_53 : decode cX7_takes 53 = .ok (.aload_n 0, 1) := by decide +kernel
theorem dX7_takes_54 : decode cX7_takes 54 = .ok (.getfield 61, 3) := by decide +kernel
theorem dX7_takes_57 : decode cX7_takes 57 = .ok (.iconst 1, 1) := by decide +kernel
theorem dX7_takes_58 : decode cX7_takes 58 = .ok (.bipush 9, 2) := by decide +kernel
theorem dX7_takes_60 : decode cX7_takes 60 = .ok (.invokestatic 50, 3) := by decide +kernel
theorem dX7_takes_63 : decode cX7_takes 63 = .ok (.ifCond .eq 7, 3) := by decide +kernel
theorem dX7_takes_66 : decode cX7_takes 66 = .ok (.iconst 1, 1) := by decide +kernel
theorem dX7_takes_67 : decode cX7_takes 67 = .ok (.goto 4, 3) := by decide +kernel
theorem dX7_takes_70 : decode cX7_takes 70 = .ok (.iconst 0, 1) := by decide +kernel
theorem dX7_takes_71 : decode cX7_takes 71 = .ok (.putfield 75, 3) := by decide +kernel
theorem dX7_takes_74 : decode cX7_takes 74 = .ok (.aload_n 0, 1) := by decide +kernel
theorem dX7_takes_75 : decode cX7_takes 75 = .ok (.getfield 75, 3) := by decide +kernel
theorem dX7_takes_78 : decode cX7_takes 78 = .ok (.iconst 1, 1) := by decide +kernel
theorem dX7_takes_79 : decode cX7_takes 79 = .ok (.if_icmp .ne 7, 3) := by decide +kernel
theorem dX7_takes_82 : decode cX7_takes 82 = .ok (.iconst 1, 1) := by decide +kernel
theorem dX7_takes_83 : decode cX7_takes 83 = .ok (.goto 4, 3) := by decide +kernel
theorem dX7_takes_86 : decode cX7_takes 86 = .ok (.iconst 0, 1) := by decide +kernel
theorem dX7_takes_87 : decode cX7_takes 87 = .ok (.ireturn, 1) := by decide +kernel
theorem dX7_takes_88 : decode cX7_takes 88 = .ok (.aload_n 0, 1) := by decide +kernel
theorem dX7_takes_89 : decode cX7_takes 89 = .ok (.iload_n 1, 1) := by decide +kernel
theorem dX7_takes_90 : decode cX7_takes 90 = .ok (.bipush 58, 2) := by decide +kernel
theorem dX7_takes_92 : decode cX7_takes 92 = .ok (.if_icmp .ne 7, 3) := by decide +kernel
theorem dX7_takes_95 : decode cX7_takes 95 = .ok (.iconst 2, 1) := by decide +kernel
theorem dX7_takes_96 : decode cX7_takes 96 = .ok (.goto 4, 3) := by decide +kernel
theorem dX7_takes_99 : decode cX7_takes 99 = .ok (.iconst 1, 1) := by decide +kernel
theorem dX7_takes_100 : decode cX7_takes 100 = .ok (.putfield 75, 3) := by decide +kernel
theorem dX7_takes_103 : decode cX7_takes 103 = .ok (.aload_n 0, 1) := by decide +kernel
theorem dX7_takes_104 : decode cX7_takes 104 = .ok (.getfield 75, 3) := by decide +kernel
theorem dX7_takes_107 : decode cX7_takes 107 = .ok (.iconst 2, 1) := by decide +kernel
theorem dX7_takes_108 : decode cX7_takes 108 = .ok (.if_icmp .ne 7, 3) := by decide +kernel
theorem dX7_takes_111 : decode cX7_takes 111 = .ok (.iconst 1, 1) := by decide +kernel
theorem dX7_takes_112 : decode cX7_takes 112 = .ok (.goto 4, 3) := by decide +kernel
theorem dX7_takes_115 : decode cX7_takes 115 = .ok (.iconst 0, 1) := by decide +kernel
theorem dX7_takes_116 : decode cX7_takes 116 = .ok (.ireturn, 1) := by decide +kernel
theorem dX7_takes_117 : decode cX7_takes 117 = .ok (.aload_n 0, 1) := by decide +kernel
theorem dX7_takes_118 : decode cX7_takes 118 = .ok (.iload_n 1, 1) := by decide +kernel
theorem dX7_takes_119 : decode cX7_takes 119 = .ok (.invokevirtual 95, 3) := by decide +kernel
theorem dX7_takes_122 : decode cX7_takes 122 = .ok (.ireturn, 1) := by decide +kernel
theorem dX7_takes_123 : decode cX7_takes 123 = .ok (.aload_n 0, 1) := by decide +kernel
theorem dX7_takes_124 : decode cX7_takes 124 = .ok (.iload_n 1, 1) := by decide +kernel
theorem dX7_takes_125 : decode cX7_takes 125 = .ok (.bipush 48, 2) := by decide +kernel
theorem dX7_takes_127 : decode cX7_takes 127 = .ok (.isub, 1) := by decide +kernel
theorem dX7_takes_128 : decode cX7_takes 128 = .ok (.invokevirtual 98, 3) := by decide +kernel
theorem dX7_takes_131 : decode cX7_takes 131 = .ok (.ireturn, 1) := by decide +kernel
theorem dX7_takes_132 : decode cX7_takes 132 = .ok (.aload_n 0, 1) := by decide +kernel
theorem dX7_takes_133 : decode cX7_takes 133 = .ok (.iload_n 1, 1) := by decide +kernel
theorem dX7_takes_134 : decode cX7_takes 134 = .ok (.invokevirtual 101, 3) := by decide +kernel
theorem dX7_takes_137 : decode cX7_takes 137 = .ok (.ireturn, 1) := by decide +kernel
theorem dX7_read_0 : decode cX7_read 0 = .ok (.aload_n 0, 1) := by decide +kernel
theorem dX7_read_1 : decode cX7_read 1 = .ok (.iconst 0, 1) := by decide +kernel
theorem dX7_read_2 : decode cX7_read 2 = .ok (.putfield 75, 3) := by decide +kernel
theorem dX7_read_5 : decode cX7_read 5 = .ok (.aload_n 0, 1) := by decide +kernel
theorem dX7_read_6 : decode cX7_read 6 = .ok (.iconst 0, 1) := by decide +kernel
theorem dX7_read_7 : decode cX7_read 7 = .ok (.putfield 78, 3) := by decide +kernel
theorem dX7_read_10 : decode cX7_read 10 = .ok (.aload_n 0, 1) := by decide +kernel
theorem dX7_read_11 : decode cX7_read 11 = .ok (.iconst 0, 1) := by decide +kernel
theorem dX7_read_12 : decode cX7_read 12 = .ok (.putfield 85, 3) := by decide +kernel
theorem dX7_read_15 : decode cX7_read 15 = .ok (.iconst 0, 1) := by decide +kernel
theorem dX7_read_16 : decode cX7_read 16 = .ok (.istore_n 1, 1) := by decide +kernel
theorem dX7_read_17 : decode cX7_read 17 = .ok (.iload_n 1, 1) := by decide +kernel
theorem dX7_read_18 : decode cX7_read 18 = .ok (.aload_n 0, 1) := by decide +kernel
theorem dX7_read_19 : decode cX7_read 19 = .ok (.getfield 54, 3) := by decide +kernel
theorem dX7_read_22 : decode cX7_read 22 = .ok (.if_icmp .ge 22, 3) := by decide +kernel
theorem dX7_read_25 : decode cX7_read 25 = .ok (.aload_n 0, 1) := by decide +kernel
theorem dX7_read_26 : decode cX7_read 26 = .ok (.aload_n 0, 1) := by decide +kernel
theorem dX7_read_27 : decode cX7_read 27 = .ok (.getfield 19, 3) := by decide +kernel
theorem dX7_read_30 : decode cX7_read 30 = .ok (.iload_n 1, 1) := by decide +kernel
theorem dX7_read_31 : decode cX7_read 31 = .ok (.iaload, 1) := by decide +kernel
theorem dX7_read_32 : decode cX7_read 32 = .ok (.invokevirtual 104, 3) := by decide +kernel
theorem dX7_read_35 : decode cX7_read 35 = .ok (.ifCond .eq 9, 3) := by decide +kernel
theorem dX7_read_38 : decode cX7_read 38 = .ok (.iinc 1 1, 3) := by decide +kernel
theorem dX7_read_41 : decode cX7_read 41 = .ok (.goto (-24), 3) := by decide +kernel
theorem dX7_read_44 : decode cX7_read 44 = .ok (.iload_n 1, 1) := by decide +kernel
theorem dX7_read_45 : decode cX7_read 45 = .ok (.ireturn, 1) := by decide +kernel
theorem dX7_fault_0 : decode cX7_fault 0 = .ok (.aload_n 0, 1) := by decide +kernel
theorem dX7_fault_1 : decode cX7_fault 1 = .ok (.invokevirtual 107, 3) := by decide +kernel
theorem dX7_fault_4 : decode cX7_fault 4 = .ok (.ireturn, 1) := by decide +kernel
theorem dX7_circle_0 : decode cX7_circle 0 = .ok (.aload_n 0, 1) := by decide +kernel
theorem dX7_circle_1 : decode cX7_circle 1 = .ok (.invokevirtual 107, 3) := by decide +kernel
theorem dX7_circle_4 : decode cX7_circle 4 = .ok (.aload_n 0, 1) := by decide +kernel
theorem dX7_circle_5 : decode cX7_circle 5 = .ok (.getfield 54, 3) := by decide +kernel
theorem dX7_circle_8 : decode cX7_circle 8 = .ok (.if_icmp .lt 32, 3) := by decide +kernel
theorem dX7_circle_11 : decode cX7_circle 11 = .ok (.aload_n 0, 1) := by decide +kernel
theorem dX7_circle_12 : decode cX7_circle 12 = .ok (.getfield 75, 3) := by decide +kernel
theorem dX7_circle_15 : decode cX7_circle 15 = .ok (.iconst 3, 1) := by decide +kernel
theorem dX7_circle_16 : decode cX7_circle 16 = .ok (.if_icmp .eq 11, 3) := by decide +kernel
theorem dX7_circle_19 : decode cX7_circle 19 = .ok (.aload_n 0, 1) := by decide +kernel
theorem dX7_circle_20 : decode cX7_circle 20 = .ok (.getfield 75, 3) := by decide +kernel
theorem dX7_circle_23 : decode cX7_circle 23 = .ok (.iconst 4, 1) := by decide +kernel
theorem dX7_circle_24 : decode cX7_circle 24 = .ok (.if_icmp .ne 16, 3) := by decide +kernel
theorem dX7_circle_27 : decode cX7_circle 27 = .ok (.aload_n 0, 1) := by decide +kernel
theorem dX7_circle_28 : decode cX7_circle 28 = .ok (.getfield 64, 3) := by decide +kernel
theorem dX7_circle_31 : decode cX7_circle 31 = .ok (.aload_n 0, 1) := by decide +kernel
theorem dX7_circle_32 : decode cX7_circle 32 = .ok (.getfield 61, 3) := by decide +kernel
theorem dX7_circle_35 : decode cX7_circle 35 = .ok (.iconst 1, 1) := by decide +kernel
theorem dX7_circle_36 : decode cX7_circle 36 = .ok (.isub, 1) := by decide +kernel
theorem dX7_circle_37 : decode cX7_circle 37 = .ok (.if_icmp .ge 6, 3) := by decide +kernel
theorem dX7_circle_40 : decode cX7_circle 40 = .ok (.bipush (-103), 2) := by decide +kernel
theorem dX7_circle_42 : decode cX7_circle 42 = .ok (.ireturn, 1) := by decide +kernel
theorem dX7_circle_43 : decode cX7_circle 43 = .ok (.aload_n 0, 1) := by decide +kernel
theorem dX7_circle_44 : decode cX7_circle 44 = .ok (.aload_n 0, 1) := by decide +kernel
theorem dX7_circle_45 : decode cX7_circle 45 = .ok (.getfield 61, 3) := by decide +kernel
theorem dX7_circle_48 : decode cX7_circle 48 = .ok (.putfield 111, 3) := by decide +kernel
theorem dX7_circle_51 : decode cX7_circle 51 = .ok (.aload_n 0, 1) := by decide +kernel
theorem dX7_circle_52 : decode cX7_circle 52 = .ok (.aload_n 0, 1) := by decide +kernel
theorem dX7_circle_53 : decode cX7_circle 53 = .ok (.getfield 78, 3) := by decide +kernel
theorem dX7_circle_56 : decode cX7_circle 56 = .ok (.putfield 114, 3) := by decide +kernel
theorem dX7_circle_59 : decode cX7_circle 59 = .ok (.iconst 0, 1) := by decide +kernel
theorem dX7_circle_60 : decode cX7_circle 60 = .ok (.istore_n 1, 1) := by decide +kernel
theorem dX7_circle_61 : decode cX7_circle 61 = .ok (.iload_n 1, 1) := by decide +kernel
theorem dX7_circle_62 : decode cX7_circle 62 = .ok (.iconst 5, 1) := by decide +kernel
theorem dX7_circle_63 : decode cX7_circle 63 = .ok (.if_icmp .ge 21, 3) := by decide +kernel
theorem dX7_circle_66 : decode cX7_circle 66 = .ok (.aload_n 0, 1) := by decide +kernel
theorem dX7_circle_67 : decode cX7_circle 67 = .ok (.getfield 16, 3) := by decide +kernel
theorem dX7_circle_70 : decode cX7_circle 70 = .ok (.iload_n 1, 1) := by decide +kernel
theorem dX7_circle_71 : decode cX7_circle 71 = .ok (.aload_n 0, 1) := by decide +kernel
theorem dX7_circle_72 : decode cX7_circle 72 = .ok (.getfield 22, 3) := by decide +kernel
theorem dX7_circle_75 : decode cX7_circle 75 = .ok (.iload_n 1, 1) := by decide +kernel
theorem dX7_circle_76 : decode cX7_circle 76 = .ok (.iaload, 1) := by decide +kernel
theorem dX7_circle_77 : decode cX7_circle 77 = .ok (.iastore, 1) := by decide +kernel
theorem dX7_circle_78 : decode cX7_circle 78 = .ok (.iinc 1 1, 3) := by decide +kernel
theorem dX7_circle_81 : decode cX7_circle 81 = .ok (.goto (-20), 3) := by decide +kernel
theorem dX7_circle_84 : decode cX7_circle 84 = .ok (.iconst 0, 1) := by decide +kernel
theorem dX7_circle_85 : decode cX7_circle 85 = .ok (.istore_n 1, 1) := by decide +kernel
theorem dX7_circle_86 : decode cX7_circle 86 = .ok (.iload_n 1, 1) := by decide +kernel
theorem dX7_circle_87 : decode cX7_circle 87 = .ok (.aload_n 0, 1) := by decide +kernel
theorem dX7_circle_88 : decode cX7_circle 88 = .ok (.getfield 111, 3) := by decide +kernel
theorem dX7_circle_91 : decode cX7_circle 91 = .ok (.if_icmp .ge 33, 3) := by decide +kernel
theorem dX7_circle_94 : decode cX7_circle 94 = .ok (.aload_n 0, 1) := by decide +kernel
theorem dX7_circle_95 : decode cX7_circle 95 = .ok (.getfield 7, 3) := by decide +kernel
theorem dX7_circle_98 : decode cX7_circle 98 = .ok (.iload_n 1, 1) := by decide +kernel
theorem dX7_circle_99 : decode cX7_circle 99 = .ok (.aload_n 0, 1) := by decide +kernel
theorem dX7_circle_100 : decode cX7_circle 100 = .ok (.getfield 25, 3) := by decide +kernel
theorem dX7_circle_103 : decode cX7_circle 103 = .ok (.iload_n 1, 1) := by decide +kernel
theorem dX7_circle_104 : decode cX7_circle 104 = .ok (.iaload, 1) := by decide +kernel
theorem dX7_circle_105 : decode cX7_circle 105 = .ok (.iastore, 1) := by decide +kernel
theorem dX7_circle_106 : decode cX7_circle 106 = .ok (.aload_n 0, 1) := by decide +kernel
theorem dX7_circle_107 : decode cX7_circle 107 = .ok (.getfield 13, 3) := by decide +kernel
theorem dX7_circle_110 : decode cX7_circle 110 = .ok (.iload_n 1, 1) := by decide +kernel
theorem dX7_circle_111 : decode cX7_circle 111 = .ok (.aload_n 0, 1) := by decide +kernel
theorem dX7_circle_112 : decode cX7_circle 112 = .ok (.getfield 28, 3) := by decide +kernel
theorem dX7_circle_115 : decode cX7_circle 115 = .ok (.iload_n 1, 1) := by decide +kernel
theorem dX7_circle_116 : decode cX7_circle 116 = .ok (.iaload, 1) := by decide +kernel
theorem dX7_circle_117 : decode cX7_circle 117 = .ok (.iastore, 1) := by decide +kernel
theorem dX7_circle_118 : decode cX7_circle 118 = .ok (.iinc 1 1, 3) := by decide +kernel
theorem dX7_circle_121 : decode cX7_circle 121 = .ok (.goto (-35), 3) := by decide +kernel
theorem dX7_circle_124 : decode cX7_circle 124 = .ok (.aload_n 0, 1) := by decide +kernel
theorem dX7_circle_125 : decode cX7_circle 125 = .ok (.dup, 1) := by decide +kernel
theorem dX7_circle_126 : decode cX7_circle 126 = .ok (.getfield 117, 3) := by decide +kernel
theorem dX7_circle_129 : decode cX7_circle 129 = .ok (.iconst 1, 1) := by decide +kernel
theorem dX7_circle_130 : decode cX7_circle 130 = .ok (.iadd, 1) := by decide +kernel
theorem dX7_circle_131 : decode cX7_circle 131 = .ok (.putfield 117, 3) := by decide +kernel
theorem dX7_circle_134 : decode cX7_circle 134 = .ok (.aload_n 0, 1) := by decide +kernel
theorem dX7_circle_135 : decode cX7_circle 135 = .ok (.iconst 0, 1) := by decide +kernel
theorem dX7_circle_136 : decode cX7_circle 136 = .ok (.putfield 54, 3) := by decide +kernel
theorem dX7_circle_139 : decode cX7_circle 139 = .ok (.aload_n 0, 1) := by decide +kernel
theorem dX7_circle_140 : decode cX7_circle 140 = .ok (.getfield 111, 3) := by decide +kernel
theorem dX7_circle_143 : decode cX7_circle 143 = .ok (.ireturn, 1) := by decide +kernel
theorem dX7_isCircle_0 : decode cX7_isCircle 0 = .ok (.aload_n 0, 1) := by decide +kernel
theorem dX7_isCircle_1 : decode cX7_isCircle 1 = .ok (.getfield 111, 3) := by decide +kernel
theorem dX7_isCircle_4 : decode cX7_isCircle 4 = .ok (.ifCond .le 7, 3) := by decide +kernel
theorem dX7_isCircle_7 : decode cX7_isCircle 7 = .ok (.iconst 1, 1) := by decide +kernel
theorem dX7_isCircle_8 : decode cX7_isCircle 8 = .ok (.goto 4, 3) := by decide +kernel
theorem dX7_isCircle_11 : decode cX7_isCircle 11 = .ok (.iconst 0, 1) := by decide +kernel
theorem dX7_isCircle_12 : decode cX7_isCircle 12 = .ok (.ireturn, 1) := by decide +kernel
theorem dX7_ink1_0 : decode cX7_ink1 0 = .ok (.aload_n 0, 1) := by decide +kernel
theorem dX7_ink1_1 : decode cX7_ink1 1 = .ok (.aload_n 0, 1) := by decide +kernel
theorem dX7_ink1_2 : decode cX7_ink1 2 = .ok (.getfield 120, 3) := by decide +kernel
theorem dX7_ink1_5 : decode cX7_ink1 5 = .ok (.aload_n 0, 1) := by decide +kernel
theorem dX7_ink1_6 : decode cX7_ink1 6 = .ok (.getfield 123, 3) := by decide +kernel
theorem dX7_ink1_9 : decode cX7_ink1 9 = .ok (.if_icmp .ne 7, 3) := by decide +kernel
theorem dX7_ink1_12 : decode cX7_ink1 12 = .ok (.iload_n 1, 1) := by decide +kernel
theorem dX7_ink1_13 : decode cX7_ink1 13 = .ok (.goto 7, 3) := by decide +kernel
theorem dX7_ink1_16 : decode cX7_ink1 16 = .ok (.aload_n 0, 1) := by decide +kernel
theorem dX7_ink1_17 : decode cX7_ink1 17 = .ok (.getfield 126, 3) := by decide +kernel
theorem dX7_ink1_20 : decode cX7_ink1 20 = .ok (.putfield 126, 3) := by decide +kernel
theorem dX7_ink1_23 : decode cX7_ink1 23 = .ok (.aload_n 0, 1) := by decide +kernel
theorem dX7_ink1_24 : decode cX7_ink1 24 = .ok (.dup, 1) := by decide +kernel
theorem dX7_ink1_25 : decode cX7_ink1 25 = .ok (.getfield 120, 3) := by decide +kernel
theorem dX7_ink1_28 : decode cX7_ink1 28 = .ok (.iconst 1, 1) := by decide +kernel
theorem dX7_ink1_29 : decode cX7_ink1 29 = .ok (.iadd, 1) := by decide +kernel
theorem dX7_ink1_30 : decode cX7_ink1 30 = .ok (.putfield 120, 3) := by decide +kernel
theorem dX7_ink1_33 : decode cX7_ink1 33 = .ok (.return_, 1) := by decide +kernel
theorem dX7_inkPerson_0 : decode cX7_inkPerson 0 = .ok (.iload_n 1, 1) := by decide +kernel
theorem dX7_inkPerson_1 : decode cX7_inkPerson 1 = .ok (.ifCond .le 9, 3) := by decide +kernel
theorem dX7_inkPerson_4 : decode cX7_inkPerson 4 = .ok (.aload_n 0, 1) := by decide +kernel
theorem dX7_inkPerson_5 : decode cX7_inkPerson 5 = .ok (.bipush 59, 2) := by decide +kernel
theorem dX7_inkPerson_7 : decode cX7_inkPerson 7 = .ok (.invokevirtual 129, 3) := by decide +kernel
theorem dX7_inkPerson_10 : decode cX7_inkPerson 10 = .ok (.aload_n 0, 1) := by decide +kernel
theorem dX7_inkPerson_11 : decode cX7_inkPerson 11 = .ok (.getfield 7, 3) := by decide +kernel
theorem dX7_inkPerson_14 : decode cX7_inkPerson 14 = .ok (.iload_n 1, 1) := by decide +kernel
theorem dX7_inkPerson_15 : decode cX7_inkPerson 15 = .ok (.iaload, 1) := by decide +kernel
theorem dX7_inkPerson_16 : decode cX7_inkPerson 16 = .ok (.ifCond .le 24, 3) := by decide +kernel
theorem dX7_inkPerson_19 : decode cX7_inkPerson 19 = .ok (.aload_n 0, 1) := by decide +kernel
theorem dX7_inkPerson_20 : decode cX7_inkPerson 20 = .ok (.aload_n 0, 1) := by decide +kernel
theorem dX7_inkPerson_21 : decode cX7_inkPerson 21 = .ok (.getfield 7, 3) := by decide +kernel
theorem dX7_inkPerson_24 : decode cX7_inkPerson 24 = .ok (.iload_n 1, 1) := by decide +kernel
theorem dX7_inkPerson_25 : decode cX7_inkPerson 25 = .ok (.iaload, 1) := by decide +kernel
theorem dX7_inkPerson_26 : decode cX7_inkPerson 26 = .ok (.iconst 1, 1) := by decide +kernel
theorem dX7_inkPerson_27 : decode cX7_inkPerson 27 = .ok (.if_icmp .ne 8, 3) := by decide +kernel
theorem dX7_inkPerson_30 : decode cX7_inkPerson 30 = .ok (.bipush 42, 2) := by decide +kernel
theorem dX7_inkPerson_32 : decode cX7_inkPerson 32 = .ok (.goto 5, 3) := by decide +kernel
theorem dX7_inkPerson_35 : decode cX7_inkPerson 35 = .ok (.bipush 33, 2) := by decide +kernel
theorem dX7_inkPerson_37 : decode cX7_inkPerson 37 = .ok (.invokevirtual 129, 3) := by decide +kernel
theorem dX7_inkPerson_40 : decode cX7_inkPerson 40 = .ok (.iconst 0, 1) := by decide +kernel
theorem dX7_inkPerson_41 : decode cX7_inkPerson 41 = .ok (.istore_n 2, 1) := by decide +kernel
theorem dX7_inkPerson_42 : decode cX7_inkPerson 42 = .ok (.iload_n 2, 1) := by decide +kernel
theorem dX7_inkPerson_43 : decode cX7_inkPerson 43 = .ok (.aload_n 0, 1) := by decide +kernel
theorem dX7_inkPerson_44 : decode cX7_inkPerson 44 = .ok (.getfield 111, 3) := by decide +kernel
theorem dX7_inkPerson_47 : decode cX7_inkPerson 47 = .ok (.if_icmp .ge 36, 3) := by decide +kernel
theorem dX7_inkPerson_50 : decode cX7_inkPerson 50 = .ok (.aload_n 0, 1) := by decide +kernel
theorem dX7_inkPerson_51 : decode cX7_inkPerson 51 = .ok (.getfield 13, 3) := by decide +kernel
theorem dX7_inkPerson_54 : decode cX7_inkPerson 54 = .ok (.iload_n 1, 1) := by decide +kernel
theorem dX7_inkPerson_55 : decode cX7_inkPerson 55 = .ok (.iaload, 1) := by decide +kernel
theorem dX7_inkPerson_56 : decode cX7_inkPerson 56 = .ok (.iload_n 2, 1) := by decide +kernel
theorem dX7_inkPerson_57 : decode cX7_inkPerson 57 = .ok (.invokestatic 132, 3) := by decide +kernel
theorem dX7_inkPerson_60 : decode cX7_inkPerson 60 = .ok (.ifCond .eq 17, 3) := by decide +kernel
theorem dX7_inkPerson_63 : decode cX7_inkPerson 63 = .ok (.aload_n 0, 1) := by decide +kernel
theorem dX7_inkPerson_64 : decode cX7_inkPerson 64 = .ok (.bipush 62, 2) := by decide +kernel
theorem dX7_inkPerson_66 : decode cX7_inkPerson 66 = .ok (.invokevirtual 129, 3) := by decide +kernel
theorem dX7_inkPerson_69 : decode cX7_inkPerson 69 = .ok (.aload_n 0, 1) := by decide +kernel
theorem dX7_inkPerson_70 : decode cX7_inkPerson 70 = .ok (.bipush 48, 2) := by decide +kernel
theorem dX7_inkPerson_72 : decode cX7_inkPerson 72 = .ok (.iload_n 2, 1) := by decide +kernel
theorem dX7_inkPerson_73 : decode cX7_inkPerson 73 = .ok (.iadd, 1) := by decide +kernel
theorem dX7_inkPerson_74 : decode cX7_inkPerson 74 = .ok (.invokevirtual 129, 3) := by decide +kernel
theorem dX7_inkPerson_77 : decode cX7_inkPerson 77 = .ok (.iinc 2 1, 3) := by decide +kernel
theorem dX7_inkPerson_80 : decode cX7_inkPerson 80 = .ok (.goto (-38), 3) := by decide +kernel
theorem dX7_inkPerson_83 : decode cX7_inkPerson 83 = .ok (.return_, 1) := by decide +kernel
theorem dX7_inkNow_0 : decode cX7_inkNow 0 = .ok (.aload_n 0, 1) := by decide +kernel
theorem dX7_inkNow_1 : decode cX7_inkNow 1 = .ok (.iload_n 1, 1) := by decide +kernel
theorem dX7_inkNow_2 : decode cX7_inkNow 2 = .ok (.putfield 123, 3) := by decide +kernel
theorem dX7_inkNow_5 : decode cX7_inkNow 5 = .ok (.aload_n 0, 1) := by decide +kernel
theorem dX7_inkNow_6 : decode cX7_inkNow 6 = .ok (.iconst 0, 1) := by decide +kernel
theorem dX7_inkNow_7 : decode cX7_inkNow 7 = .ok (.putfield 120, 3) := by decide +kernel
theorem dX7_inkNow_10 : decode cX7_inkNow 10 = .ok (.aload_n 0, 1) := by decide +kernel
theorem dX7_inkNow_11 : decode cX7_inkNow 11 = .ok (.iconst (-1), 1) := by decide +kernel
theorem dX7_inkNow_12 : decode cX7_inkNow 12 = .ok (.putfield 126, 3) := by decide +kernel
theorem dX7_inkNow_15 : decode cX7_inkNow 15 = .ok (.aload_n 0, 1) := by decide +kernel
theorem dX7_inkNow_16 : decode cX7_inkNow 16 = .ok (.bipush 48, 2) := by decide +kernel
theorem dX7_inkNow_18 : decode cX7_inkNow 18 = .ok (.aload_n 0, 1) := by decide +kernel
theorem dX7_inkNow_19 : decode cX7_inkNow 19 = .ok (.getfield 111, 3) := by decide +kernel
theorem dX7_inkNow_22 : decode cX7_inkNow 22 = .ok (.iadd, 1) := by decide +kernel
theorem dX7_inkNow_23 : decode cX7_inkNow 23 = .ok (.invokevirtual 129, 3) := by decide +kernel
theorem dX7_inkNow_26 : decode cX7_inkNow 26 = .ok (.aload_n 0, 1) := by decide +kernel
theorem dX7_inkNow_27 : decode cX7_inkNow 27 = .ok (.bipush 58, 2) := by decide +kernel
theorem dX7_inkNow_29 : decode cX7_inkNow 29 = .ok (.invokevirtual 129, 3) := by decide +kernel
theorem dX7_inkNow_32 : decode cX7_inkNow 32 = .ok (.iconst 0, 1) := by decide +kernel
theorem dX7_inkNow_33 : decode cX7_inkNow 33 = .ok (.istore_n 2, 1) := by decide +kernel
theorem dX7_inkNow_34 : decode cX7_inkNow 34 = .ok (.iload_n 2, 1) := by decide +kernel
theorem dX7_inkNow_35 : decode cX7_inkNow 35 = .ok (.aload_n 0, 1) := by decide +kernel
theorem dX7_inkNow_36 : decode cX7_inkNow 36 = .ok (.getfield 114, 3) := by decide +kernel
theorem dX7_inkNow_39 : decode cX7_inkNow 39 = .ok (.if_icmp .ge 22, 3) := by decide +kernel
theorem dX7_inkNow_42 : decode cX7_inkNow 42 = .ok (.aload_n 0, 1) := by decide +kernel
theorem dX7_inkNow_43 : decode cX7_inkNow 43 = .ok (.bipush 48, 2) := by decide +kernel
theorem dX7_inkNow_45 : decode cX7_inkNow 45 = .ok (.aload_n 0, 1) := by decide +kernel
theorem dX7_inkNow_46 : decode cX7_inkNow 46 = .ok (.getfield 16, 3) := by decide +kernel
theorem dX7_inkNow_49 : decode cX7_inkNow 49 = .ok (.iload_n 2, 1) := by decide +kernel
theorem dX7_inkNow_50 : decode cX7_inkNow 50 = .ok (.iaload, 1) := by decide +kernel
theorem dX7_inkNow_51 : decode cX7_inkNow 51 = .ok (.iadd, 1) := by decide +kernel
theorem dX7_inkNow_52 : decode cX7_inkNow 52 = .ok (.invokevirtual 129, 3) := by decide +kernel
theorem dX7_inkNow_55 : decode cX7_inkNow 55 = .ok (.iinc 2 1, 3) := by decide +kernel
theorem dX7_inkNow_58 : decode cX7_inkNow 58 = .ok (.goto (-24), 3) := by decide +kernel
theorem dX7_inkNow_61 : decode cX7_inkNow 61 = .ok (.aload_n 0, 1) := by decide +kernel
theorem dX7_inkNow_62 : decode cX7_inkNow 62 = .ok (.bipush 58, 2) := by decide +kernel
theorem dX7_inkNow_64 : decode cX7_inkNow 64 = .ok (.invokevirtual 129, 3) := by decide +kernel
theorem dX7_inkNow_67 : decode cX7_inkNow 67 = .ok (.iconst 0, 1) := by decide +kernel
theorem dX7_inkNow_68 : decode cX7_inkNow 68 = .ok (.istore_n 2, 1) := by decide +kernel
theorem dX7_inkNow_69 : decode cX7_inkNow 69 = .ok (.iload_n 2, 1) := by decide +kernel
theorem dX7_inkNow_70 : decode cX7_inkNow 70 = .ok (.aload_n 0, 1) := by decide +kernel
theorem dX7_inkNow_71 : decode cX7_inkNow 71 = .ok (.getfield 111, 3) := by decide +kernel
theorem dX7_inkNow_74 : decode cX7_inkNow 74 = .ok (.if_icmp .ge 14, 3) := by decide +kernel
theorem dX7_inkNow_77 : decode cX7_inkNow 77 = .ok (.aload_n 0, 1) := by decide +kernel
theorem dX7_inkNow_78 : decode cX7_inkNow 78 = .ok (.iload_n 2, 1) := by decide +kernel
theorem dX7_inkNow_79 : decode cX7_inkNow 79 = .ok (.invokevirtual 136, 3) := by decide +kernel
theorem dX7_inkNow_82 : decode cX7_inkNow 82 = .ok (.iinc 2 1, 3) := by decide +kernel
theorem dX7_inkNow_85 : decode cX7_inkNow 85 = .ok (.goto (-16), 3) := by decide +kernel
theorem dX7_inkNow_88 : decode cX7_inkNow 88 = .ok (.aload_n 0, 1) := by decide +kernel
theorem dX7_inkNow_89 : decode cX7_inkNow 89 = .ok (.getfield 126, 3) := by decide +kernel
theorem dX7_inkNow_92 : decode cX7_inkNow 92 = .ok (.ireturn, 1) := by decide +kernel
theorem dX7_ink_0 : decode cX7_ink 0 = .ok (.aload_n 0, 1) := by decide +kernel
theorem dX7_ink_1 : decode cX7_ink 1 = .ok (.invokevirtual 139, 3) := by decide +kernel
theorem dX7_ink_4 : decode cX7_ink 4 = .ok (.ifCond .ne 6, 3) := by decide +kernel
theorem dX7_ink_7 : decode cX7_ink 7 = .ok (.bipush (-103), 2) := by decide +kernel
theorem dX7_ink_9 : decode cX7_ink 9 = .ok (.ireturn, 1) := by decide +kernel
theorem dX7_ink_10 : decode cX7_ink 10 = .ok (.iload_n 1, 1) := by decide +kernel
theorem dX7_ink_11 : decode cX7_ink 11 = .ok (.ifCond .ge 8, 3) := by decide +kernel
theorem dX7_ink_14 : decode cX7_ink 14 = .ok (.bipush (-101), 2) := by decide +kernel
theorem dX7_ink_16 : decode cX7_ink 16 = .ok (.goto 8, 3) := by decide +kernel
theorem dX7_ink_19 : decode cX7_ink 19 = .ok (.aload_n 0, 1) := by decide +kernel
theorem dX7_ink_20 : decode cX7_ink 20 = .ok (.iload_n 1, 1) := by decide +kernel
theorem dX7_ink_21 : decode cX7_ink 21 = .ok (.invokevirtual 142, 3) := by decide +kernel
theorem dX7_ink_24 : decode cX7_ink 24 = .ok (.ireturn, 1) := by decide +kernel
theorem dX7_isPerson_0 : decode cX7_isPerson 0 = .ok (.iload_n 1, 1) := by decide +kernel
theorem dX7_isPerson_1 : decode cX7_isPerson 1 = .ok (.iconst 0, 1) := by decide +kernel
theorem dX7_isPerson_2 : decode cX7_isPerson 2 = .ok (.aload_n 0, 1) := by decide +kernel
theorem dX7_isPerson_3 : decode cX7_isPerson 3 = .ok (.getfield 111, 3) := by decide +kernel
theorem dX7_isPerson_6 : decode cX7_isPerson 6 = .ok (.iconst 1, 1) := by decide +kernel
theorem dX7_isPerson_7 : decode cX7_isPerson 7 = .ok (.isub, 1) := by decide +kernel
theorem dX7_isPerson_8 : decode cX7_isPerson 8 = .ok (.invokestatic 50, 3) := by decide +kernel
theorem dX7_isPerson_11 : decode cX7_isPerson 11 = .ok (.ireturn, 1) := by decide +kernel
theorem dX7_areTwo_0 : decode cX7_areTwo 0 = .ok (.aload_n 0, 1) := by decide +kernel
theorem dX7_areTwo_1 : decode cX7_areTwo 1 = .ok (.iload_n 1, 1) := by decide +kernel
theorem dX7_areTwo_2 : decode cX7_areTwo 2 = .ok (.invokevirtual 145, 3) := by decide +kernel
theorem dX7_areTwo_5 : decode cX7_areTwo 5 = .ok (.ifCond .eq 20, 3) := by decide +kernel
theorem dX7_areTwo_8 : decode cX7_areTwo 8 = .ok (.aload_n 0, 1) := by decide +kernel
theorem dX7_areTwo_9 : decode cX7_areTwo 9 = .ok (.iload_n 2, 1) := by decide +kernel
theorem dX7_areTwo_10 : decode cX7_areTwo 10 = .ok (.invokevirtual 145, 3) := by decide +kernel
theorem dX7_areTwo_13 : decode cX7_areTwo 13 = .ok (.ifCond .eq 12, 3) := by decide +kernel
theorem dX7_areTwo_16 : decode cX7_areTwo 16 = .ok (.iload_n 1, 1) := by decide +kernel
theorem dX7_areTwo_17 : decode cX7_areTwo 17 = .ok (.iload_n 2, 1) := by decide +kernel
theorem dX7_areTwo_18 : decode cX7_areTwo 18 = .ok (.if_icmp .eq 7, 3) := by decide +kernel
theorem dX7_areTwo_21 : decode cX7_areTwo 21 = .ok (.iconst 1, 1) := by decide +kernel
theorem dX7_areTwo_22 : decode cX7_areTwo 22 = .ok (.goto 4, 3) := by decide +kernel
theorem dX7_areTwo_25 : decode cX7_areTwo 25 = .ok (.iconst 0, 1) := by decide +kernel
theorem dX7_areTwo_26 : decode cX7_areTwo 26 = .ok (.ireturn, 1) := by decide +kernel
theorem dX7_ofKind_0 : decode cX7_ofKind 0 = .ok (.iconst 0, 1) := by decide +kernel
theorem dX7_ofKind_1 : decode cX7_ofKind 1 = .ok (.istore_n 2, 1) := by decide +kernel
theorem dX7_ofKind_2 : decode cX7_ofKind 2 = .ok (.iconst 0, 1) := by decide +kernel
theorem dX7_ofKind_3 : decode cX7_ofKind 3 = .ok (.istore_n 3, 1) := by decide +kernel
theorem dX7_ofKind_4 : decode cX7_ofKind 4 = .ok (.iload_n 3, 1) := by decide +kernel
theorem dX7_ofKind_5 : decode cX7_ofKind 5 = .ok (.aload_n 0, 1) := by decide +kernel
theorem dX7_ofKind_6 : decode cX7_ofKind 6 = .ok (.getfield 111, 3) := by decide +kernel
theorem dX7_ofKind_9 : decode cX7_ofKind 9 = .ok (.if_icmp .ge 29, 3) := by decide +kernel
theorem dX7_ofKind_12 : decode cX7_ofKind 12 = .ok (.iload_n 2, 1) := by decide +kernel
theorem dX7_ofKind_13 : decode cX7_ofKind 13 = .ok (.aload_n 0, 1) := by decide +kernel
theorem dX7_ofKind_14 : decode cX7_ofKind 14 = .ok (.getfield 7, 3) := by decide +kernel
theorem dX7_ofKind_17 : decode cX7_ofKind 17 = .ok (.iload_n 3, 1) := by decide +kernel
theorem dX7_ofKind_18 : decode cX7_ofKind 18 = .ok (.iaload, 1) := by decide +kernel
theorem dX7_ofKind_19 : decode cX7_ofKind 19 = .ok (.iload_n 1, 1) := by decide +kernel
theorem dX7_ofKind_20 : decode cX7_ofKind 20 = .ok (.if_icmp .ne 9, 3) := by decide +kernel
theorem dX7_ofKind_23 : decode cX7_ofKind 23 = .ok (.iconst 1, 1) := by decide +kernel
theorem dX7_ofKind_24 : decode cX7_ofKind 24 = .ok (.iload_n 3, 1) := by decide +kernel
theorem dX7_ofKind_25 : decode cX7_ofKind 25 = .ok (.ishl, 1) := by decide +kernel
theorem dX7_ofKind_26 : decode cX7_ofKind 26 = .ok (.goto 4, 3) := by decide +kernel
theorem dX7_ofKind_29 : decode cX7_ofKind 29 = .ok (.iconst 0, 1) := by decide +kernel
theorem dX7_ofKind_30 : decode cX7_ofKind 30 = .ok (.ior, 1) := by decide +kernel
theorem dX7_ofKind_31 : decode cX7_ofKind 31 = .ok (.istore_n 2, 1) := by decide +kernel
theorem dX7_ofKind_32 : decode cX7_ofKind 32 = .ok (.iinc 3 1, 3) := by decide +kernel
theorem dX7_ofKind_35 : decode cX7_ofKind 35 = .ok (.goto (-31), 3) := by decide +kernel
theorem dX7_ofKind_38 : decode cX7_ofKind 38 = .ok (.iload_n 2, 1) := by decide +kernel
theorem dX7_ofKind_39 : decode cX7_ofKind 39 = .ok (.ireturn, 1) := by decide +kernel
theorem dX7_kind_0 : decode cX7_kind 0 = .ok (.aload_n 0, 1) := by decide +kernel
theorem dX7_kind_1 : decode cX7_kind 1 = .ok (.iload_n 1, 1) := by decide +kernel
theorem dX7_kind_2 : decode cX7_kind 2 = .ok (.invokevirtual 145, 3) := by decide +kernel
theorem dX7_kind_5 : decode cX7_kind 5 = .ok (.ifCond .ne 6, 3) := by decide +kernel
theorem dX7_kind_8 : decode cX7_kind 8 = .ok (.bipush (-101), 2) := by decide +kernel
theorem dX7_kind_10 : decode cX7_kind 10 = .ok (.ireturn, 1) := by decide +kernel
theorem dX7_kind_11 : decode cX7_kind 11 = .ok (.iload_n 2, 1) := by decide +kernel
theorem dX7_kind_12 : decode cX7_kind 12 = .ok (.iconst 0, 1) := by decide +kernel
theorem dX7_kind_13 : decode cX7_kind 13 = .ok (.iconst 2, 1) := by decide +kernel
theorem dX7_kind_14 : decode cX7_kind 14 = .ok (.invokestatic 50, 3) := by decide +kernel
theorem dX7_kind_17 : decode cX7_kind 17 = .ok (.ifCond .ne 6, 3) := by decide +kernel
theorem dX7_kind_20 : decode cX7_kind 20 = .ok (.bipush (-102), 2) := by decide +kernel
theorem dX7_kind_22 : decode cX7_kind 22 = .ok (.ireturn, 1) := by decide +kernel
theorem dX7_kind_23 : decode cX7_kind 23 = .ok (.aload_n 0, 1) := by decide +kernel
theorem dX7_kind_24 : decode cX7_kind 24 = .ok (.getfield 7, 3) := by decide +kernel
theorem dX7_kind_27 : decode cX7_kind 27 = .ok (.iload_n 1, 1) := by decide +kernel
theorem dX7_kind_28 : decode cX7_kind 28 = .ok (.iaload, 1) := by decide +kernel
theorem dX7_kind_29 : decode cX7_kind 29 = .ok (.istore_n 3, 1) := by decide +kernel
theorem dX7_kind_30 : decode cX7_kind 30 = .ok (.iload_n 2, 1) := by decide +kernel
theorem dX7_kind_31 : decode cX7_kind 31 = .ok (.iconst 1, 1) := by decide +kernel
theorem dX7_kind_32 : decode cX7_kind 32 = .ok (.if_icmp .ne 23, 3) := by decide +kernel
theorem dX7_kind_35 : decode cX7_kind 35 = .ok (.iload_n 3, 1) := by decide +kernel
theorem dX7_kind_36 : decode cX7_kind 36 = .ok (.iconst 1, 1) := by decide +kernel
theorem dX7_kind_37 : decode cX7_kind 37 = .ok (.if_icmp .eq 18, 3) := by decide +kernel
theorem dX7_kind_40 : decode cX7_kind 40 = .ok (.aload_n 0, 1) := by decide +kernel
theorem dX7_kind_41 : decode cX7_kind 41 = .ok (.iconst 1, 1) := by decide +kernel
theorem dX7_kind_42 : decode cX7_kind 42 = .ok (.invokevirtual 148, 3) := by decide +kernel
theorem dX7_kind_45 : decode cX7_kind 45 = .ok (.invokestatic 71, 3) := by decide +kernel
theorem dX7_kind_48 : decode cX7_kind 48 = .ok (.iconst 5, 1) := by decide +kernel
theorem dX7_kind_49 : decode cX7_kind 49 = .ok (.if_icmp .ne 6, 3) := by decide +kernel
theorem dX7_kind_52 : decode cX7_kind 52 = .ok (.bipush (-104), 2) := by decide +kernel
theorem dX7_kind_54 : decode cX7_kind 54 = .ok (.ireturn, 1) := by decide +kernel
theorem dX7_kind_55 : decode cX7_kind 55 = .ok (.aload_n 0, 1) := by decide +kernel
theorem dX7_kind_56 : decode cX7_kind 56 = .ok (.getfield 7, 3) := by decide +kernel
theorem dX7_kind_59 : decode cX7_kind 59 = .ok (.iload_n 1, 1) := by decide +kernel
theorem dX7_kind_60 : decode cX7_kind 60 = .ok (.iload_n 2, 1) := by decide +kernel
theorem dX7_kind_61 : decode cX7_kind 61 = .ok (.iastore, 1) := by decide +kernel
theorem dX7_kind_62 : decode cX7_kind 62 = .ok (.iload_n 3, 1) := by decide +kernel
theorem dX7_kind_63 : decode cX7_kind 63 = .ok (.ireturn, 1) := by decide +kernel
theorem dX7_as_0 : decode cX7_as 0 = .ok (.aload_n 0, 1) := by decide +kernel
theorem dX7_as_1 : decode cX7_as 1 = .ok (.iload_n 1, 1) := by decide +kernel
theorem dX7_as_2 : decode cX7_as 2 = .ok (.invokevirtual 145, 3) := by decide +kernel
theorem dX7_as_5 : decode cX7_as 5 = .ok (.ifCond .ne 6, 3) := by decide +kernel
theorem dX7_as_8 : decode cX7_as 8 = .ok (.bipush (-101), 2) := by decide +kernel
theorem dX7_as_10 : decode cX7_as 10 = .ok (.ireturn, 1) := by decide +kernel
theorem dX7_as_11 : decode cX7_as 11 = .ok (.iload_n 2, 1) := by decide +kernel
theorem dX7_as_12 : decode cX7_as 12 = .ok (.iconst 0, 1) := by decide +kernel
theorem dX7_as_13 : decode cX7_as 13 = .ok (.iconst 2, 1) := by decide +kernel
theorem dX7_as_14 : decode cX7_as 14 = .ok (.invokestatic 50, 3) := by decide +kernel
theorem dX7_as_17 : decode cX7_as 17 = .ok (.ifCond .ne 6, 3) := by decide +kernel
theorem dX7_as_20 : decode cX7_as 20 = .ok (.bipush (-102), 2) := by decide +kernel
theorem dX7_as_22 : decode cX7_as 22 = .ok (.ireturn, 1) := by decide +kernel
theorem dX7_as_23 : decode cX7_as 23 = .ok (.iload_n 2, 1) := by decide +kernel
theorem dX7_as_24 : decode cX7_as 24 = .ok (.ifCond .eq 13, 3) := by decide +kernel
theorem dX7_as_27 : decode cX7_as 27 = .ok (.iload_n 2, 1) := by decide +kernel
theorem dX7_as_28 : decode cX7_as 28 = .ok (.aload_n 0, 1) := by decide +kernel
theorem dX7_as_29 : decode cX7_as 29 = .ok (.getfield 7, 3) := by decide +kernel
theorem dX7_as_32 : decode cX7_as 32 = .ok (.iload_n 1, 1) := by decide +kernel
theorem dX7_as_33 : decode cX7_as 33 = .ok (.iaload, 1) := by decide +kernel
theorem dX7_as_34 : decode cX7_as 34 = .ok (.if_icmp .ne 12, 3) := by decide +kernel
theorem dX7_as_37 : decode cX7_as 37 = .ok (.aload_n 0, 1) := by decide +kernel
theorem dX7_as_38 : decode cX7_as 38 = .ok (.getfield 7, 3) := by decide +kernel
theorem dX7_as_41 : decode cX7_as 41 = .ok (.iload_n 1, 1) := by decide +kernel
theorem dX7_as_42 : decode cX7_as 42 = .ok (.iaload, 1) := by decide +kernel
theorem dX7_as_43 : decode cX7_as 43 = .ok (.goto 4, 3) := by decide +kernel
theorem dX7_as_46 : decode cX7_as 46 = .ok (.iconst (-1), 1) := by decide +kernel
theorem dX7_as_47 : decode cX7_as 47 = .ok (.ireturn, 1) := by decide +kernel
theorem dX7_vouch_0 : decode cX7_vouch 0 = .ok (.aload_n 0, 1) := by decide +kernel
theorem dX7_vouch_1 : decode cX7_vouch 1 = .ok (.iload_n 1, 1) := by decide +kernel
theorem dX7_vouch_2 : decode cX7_vouch 2 = .ok (.iload_n 2, 1) := by decide +kernel
theorem dX7_vouch_3 : decode cX7_vouch 3 = .ok (.invokevirtual 151, 3) := by decide +kernel
theorem dX7_vouch_6 : decode cX7_vouch 6 = .ok (.ifCond .ne 6, 3) := by decide +kernel
theorem dX7_vouch_9 : decode cX7_vouch 9 = .ok (.bipush (-101), 2) := by decide +kernel
theorem dX7_vouch_11 : decode cX7_vouch 11 = .ok (.ireturn, 1) := by decide +kernel
theorem dX7_vouch_12 : decode cX7_vouch 12 = .ok (.aload_n 0, 1) := by decide +kernel
theorem dX7_vouch_13 : decode cX7_vouch 13 = .ok (.getfield 13, 3) := by decide +kernel
theorem dX7_vouch_16 : decode cX7_vouch 16 = .ok (.iload_n 1, 1) := by decide +kernel
theorem dX7_vouch_17 : decode cX7_vouch 17 = .ok (.iaload, 1) := by decide +kernel
theorem dX7_vouch_18 : decode cX7_vouch 18 = .ok (.iload_n 2, 1) := by decide +kernel
theorem dX7_vouch_19 : decode cX7_vouch 19 = .ok (.invokestatic 132, 3) := by decide +kernel
theorem dX7_vouch_22 : decode cX7_vouch 22 = .ok (.ifCond .eq 6, 3) := by decide +kernel
theorem dX7_vouch_25 : decode cX7_vouch 25 = .ok (.bipush (-103), 2) := by decide +kernel
theorem dX7_vouch_27 : decode cX7_vouch 27 = .ok (.ireturn, 1) := by decide +kernel
theorem dX7_vouch_28 : decode cX7_vouch 28 = .ok (.aload_n 0, 1) := by decide +kernel
theorem dX7_vouch_29 : decode cX7_vouch 29 = .ok (.getfield 13, 3) := by decide +kernel
theorem dX7_vouch_32 : decode cX7_vouch 32 = .ok (.iload_n 1, 1) := by decide +kernel
theorem dX7_vouch_33 : decode cX7_vouch 33 = .ok (.iaload, 1) := by decide +kernel
theorem dX7_vouch_34 : decode cX7_vouch 34 = .ok (.invokestatic 71, 3) := by decide +kernel
theorem dX7_vouch_37 : decode cX7_vouch 37 = .ok (.iconst 5, 1) := by decide +kernel
theorem dX7_vouch_38 : decode cX7_vouch 38 = .ok (.if_icmp .ne 6, 3) := by decide +kernel
theorem dX7_vouch_41 : decode cX7_vouch 41 = .ok (.bipush (-104), 2) := by decide +kernel
theorem dX7_vouch_43 : decode cX7_vouch 43 = .ok (.ireturn, 1) := by decide +kernel
theorem dX7_vouch_44 : decode cX7_vouch 44 = .ok (.aload_n 0, 1) := by decide +kernel
theorem dX7_vouch_45 : decode cX7_vouch 45 = .ok (.getfield 13, 3) := by decide +kernel
theorem dX7_vouch_48 : decode cX7_vouch 48 = .ok (.iload_n 1, 1) := by decide +kernel
theorem dX7_vouch_49 : decode cX7_vouch 49 = .ok (.dup2, 1) := by decide +kernel
theorem dX7_vouch_50 : decode cX7_vouch 50 = .ok (.iaload, 1) := by decide +kernel
theorem dX7_vouch_51 : decode cX7_vouch 51 = .ok (.iconst 1, 1) := by decide +kernel
theorem dX7_vouch_52 : decode cX7_vouch 52 = .ok (.iload_n 2, 1) := by decide +kernel
theorem dX7_vouch_53 : decode cX7_vouch 53 = .ok (.ishl, 1) := by decide +kernel
theorem dX7_vouch_54 : decode cX7_vouch 54 = .ok (.ior, 1) := by decide +kernel
theorem dX7_vouch_55 : decode cX7_vouch 55 = .ok (.iastore, 1) := by decide +kernel
theorem dX7_vouch_56 : decode cX7_vouch 56 = .ok (.aload_n 0, 1) := by decide +kernel
theorem dX7_vouch_57 : decode cX7_vouch 57 = .ok (.dup, 1) := by decide +kernel
theorem dX7_vouch_58 : decode cX7_vouch 58 = .ok (.getfield 154, 3) := by decide +kernel
theorem dX7_vouch_61 : decode cX7_vouch 61 = .ok (.iconst 1, 1) := by decide +kernel
theorem dX7_vouch_62 : decode cX7_vouch 62 = .ok (.iadd, 1) := by decide +kernel
theorem dX7_vouch_63 : decode cX7_vouch 63 = .ok (.putfield 154, 3) := by decide +kernel
theorem dX7_vouch_66 : decode cX7_vouch 66 = .ok (.aload_n 0, 1) := by decide +kernel
theorem dX7_vouch_67 : decode cX7_vouch 67 = .ok (.getfield 13, 3) := by decide +kernel
theorem dX7_vouch_70 : decode cX7_vouch 70 = .ok (.iload_n 1, 1) := by decide +kernel
theorem dX7_vouch_71 : decode cX7_vouch 71 = .ok (.iaload, 1) := by decide +kernel
theorem dX7_vouch_72 : decode cX7_vouch 72 = .ok (.invokestatic 71, 3) := by decide +kernel
theorem dX7_vouch_75 : decode cX7_vouch 75 = .ok (.ireturn, 1) := by decide +kernel
theorem dX7_recall_0 : decode cX7_recall 0 = .ok (.aload_n 0, 1) := by decide +kernel
theorem dX7_recall_1 : decode cX7_recall 1 = .ok (.iload_n 1, 1) := by decide +kernel
theorem dX7_recall_2 : decode cX7_recall 2 = .ok (.iload_n 2, 1) := by decide +kernel
theorem dX7_recall_3 : decode cX7_recall 3 = .ok (.invokevirtual 151, 3) := by decide +kernel
theorem dX7_recall_6 : decode cX7_recall 6 = .ok (.ifCond .ne 6, 3) := by decide +kernel
theorem dX7_recall_9 : decode cX7_recall 9 = .ok (.bipush (-101), 2) := by decide +kernel
theorem dX7_recall_11 : decode cX7_recall 11 = .ok (.ireturn, 1) := by decide +kernel
theorem dX7_recall_12 : decode cX7_recall 12 = .ok (.aload_n 0, 1) := by decide +kernel
theorem dX7_recall_13 : decode cX7_recall 13 = .ok (.getfield 13, 3) := by decide +kernel
theorem dX7_recall_16 : decode cX7_recall 16 = .ok (.iload_n 1, 1) := by decide +kernel
theorem dX7_recall_17 : decode cX7_recall 17 = .ok (.iaload, 1) := by decide +kernel
theorem dX7_recall_18 : decode cX7_recall 18 = .ok (.iload_n 2, 1) := by decide +kernel
theorem dX7_recall_19 : decode cX7_recall 19 = .ok (.invokestatic 132, 3) := by decide +kernel
theorem dX7_recall_22 : decode cX7_recall 22 = .ok (.ifCond .ne 6, 3) := by decide +kernel
theorem dX7_recall_25 : decode cX7_recall 25 = .ok (.bipush (-103), 2) := by decide +kernel
theorem dX7_recall_27 : decode cX7_recall 27 = .ok (.ireturn, 1) := by decide +kernel
theorem dX7_recall_28 : decode cX7_recall 28 = .ok (.aload_n 0, 1) := by decide +kernel
theorem dX7_recall_29 : decode cX7_recall 29 = .ok (.getfield 13, 3) := by decide +kernel
theorem dX7_recall_32 : decode cX7_recall 32 = .ok (.iload_n 1, 1) := by decide +kernel
theorem dX7_recall_33 : decode cX7_recall 33 = .ok (.dup2, 1) := by decide +kernel
theorem dX7_recall_34 : decode cX7_recall 34 = .ok (.iaload, 1) := by decide +kernel
theorem dX7_recall_35 : decode cX7_recall 35 = .ok (.iconst 1, 1) := by decide +kernel
theorem dX7_recall_36 : decode cX7_recall 36 = .ok (.iload_n 2, 1) := by decide +kernel
theorem dX7_recall_37 : decode cX7_recall 37 = .ok (.ishl, 1) := by decide +kernel
theorem dX7_recall_38 : decode cX7_recall 38 = .ok (.iconst (-1), 1) := by decide +kernel
theorem dX7_recall_39 : decode cX7_recall 39 = .ok (.ixor, 1) := by decide +kernel
theorem dX7_recall_40 : decode cX7_recall 40 = .ok (.iand, 1) := by decide +kernel
theorem dX7_recall_41 : decode cX7_recall 41 = .ok (.iastore, 1) := by decide +kernel
theorem dX7_recall_42 : decode cX7_recall 42 = .ok (.aload_n 0, 1) := by decide +kernel
theorem dX7_recall_43 : decode cX7_recall 43 = .ok (.dup, 1) := by decide +kernel
theorem dX7_recall_44 : decode cX7_recall 44 = .ok (.getfield 157, 3) := by decide +kernel
theorem dX7_recall_47 : decode cX7_recall 47 = .ok (.iconst 1, 1) := by decide +kernel
theorem dX7_recall_48 : decode cX7_recall 48 = .ok (.iadd, 1) := by decide +kernel
theorem dX7_recall_49 : decode cX7_recall 49 = .ok (.putfield 157, 3) := by decide +kernel
theorem dX7_recall_52 : decode cX7_recall 52 = .ok (.aload_n 0, 1) := by decide +kernel
theorem dX7_recall_53 : decode cX7_recall 53 = .ok (.getfield 13, 3) := by decide +kernel
theorem dX7_recall_56 : decode cX7_recall 56 = .ok (.iload_n 1, 1) := by decide +kernel
theorem dX7_recall_57 : decode cX7_recall 57 = .ok (.iaload, 1) := by decide +kernel
theorem dX7_recall_58 : decode cX7_recall 58 = .ok (.invokestatic 71, 3) := by decide +kernel
theorem dX7_recall_61 : decode cX7_recall 61 = .ok (.ireturn, 1) := by decide +kernel
theorem dX7_bound_0 : decode cX7_bound 0 = .ok (.aload_n 0, 1) := by decide +kernel
theorem dX7_bound_1 : decode cX7_bound 1 = .ok (.invokevirtual 139, 3) := by decide +kernel
theorem dX7_bound_4 : decode cX7_bound 4 = .ok (.ifCond .eq 17, 3) := by decide +kernel
theorem dX7_bound_7 : decode cX7_bound 7 = .ok (.iload_n 1, 1) := by decide +kernel
theorem dX7_bound_8 : decode cX7_bound 8 = .ok (.iconst 0, 1) := by decide +kernel
theorem dX7_bound_9 : decode cX7_bound 9 = .ok (.aload_n 0, 1) := by decide +kernel
theorem dX7_bound_10 : decode cX7_bound 10 = .ok (.getfield 114, 3) := by decide +kernel
theorem dX7_bound_13 : decode cX7_bound 13 = .ok (.iconst 1, 1) := by decide +kernel
theorem dX7_bound_14 : decode cX7_bound 14 = .ok (.isub, 1) := by decide +kernel
theorem dX7_bound_15 : decode cX7_bound 15 = .ok (.invokestatic 50, 3) := by decide +kernel
theorem dX7_bound_18 : decode cX7_bound 18 = .ok (.ifCond .ne 6, 3) := by decide +kernel
theorem dX7_bound_21 : decode cX7_bound 21 = .ok (.bipush (-101), 2) := by decide +kernel
theorem dX7_bound_23 : decode cX7_bound 23 = .ok (.ireturn, 1) := by decide +kernel
theorem dX7_bound_24 : decode cX7_bound 24 = .ok (.iload_n 2, 1) := by decide +kernel
theorem dX7_bound_25 : decode cX7_bound 25 = .ok (.iconst 0, 1) := by decide +kernel
theorem dX7_bound_26 : decode cX7_bound 26 = .ok (.bipush 9, 2) := by decide +kernel
theorem dX7_bound_28 : decode cX7_bound 28 = .ok (.invokestatic 50, 3) := by decide +kernel
theorem dX7_bound_31 : decode cX7_bound 31 = .ok (.ifCond .ne 6, 3) := by decide +kernel
theorem dX7_bound_34 : decode cX7_bound 34 = .ok (.bipush (-102), 2) := by decide +kernel
theorem dX7_bound_36 : decode cX7_bound 36 = .ok (.ireturn, 1) := by decide +kernel
theorem dX7_bound_37 : decode cX7_bound 37 = .ok (.aload_n 0, 1) := by decide +kernel
theorem dX7_bound_38 : decode cX7_bound 38 = .ok (.getfield 16, 3) := by decide +kernel
theorem dX7_bound_41 : decode cX7_bound 41 = .ok (.iload_n 1, 1) := by decide +kernel
theorem dX7_bound_42 : decode cX7_bound 42 = .ok (.iaload, 1) := by decide +kernel
theorem dX7_bound_43 : decode cX7_bound 43 = .ok (.istore_n 3, 1) := by decide +kernel
theorem dX7_bound_44 : decode cX7_bound 44 = .ok (.aload_n 0, 1) := by decide +kernel
theorem dX7_bound_45 : decode cX7_bound 45 = .ok (.getfield 16, 3) := by decide +kernel
theorem dX7_bound_48 : decode cX7_bound 48 = .ok (.iload_n 1, 1) := by decide +kernel
theorem dX7_bound_49 : decode cX7_bound 49 = .ok (.iload_n 2, 1) := by decide +kernel
theorem dX7_bound_50 : decode cX7_bound 50 = .ok (.iastore, 1) := by decide +kernel
theorem dX7_bound_51 : decode cX7_bound 51 = .ok (.iload_n 3, 1) := by decide +kernel
theorem dX7_bound_52 : decode cX7_bound 52 = .ok (.ireturn, 1) := by decide +kernel
theorem dX7_vouchedBy_0 : decode cX7_vouchedBy 0 = .ok (.iconst 0, 1) := by decide +kernel
theorem dX7_vouchedBy_1 : decode cX7_vouchedBy 1 = .ok (.istore_n 2, 1) := by decide +kernel
theorem dX7_vouchedBy_2 : decode cX7_vouchedBy 2 = .ok (.iconst 0, 1) := by decide +kernel
theorem dX7_vouchedBy_3 : decode cX7_vouchedBy 3 = .ok (.istore_n 3, 1) := by decide +kernel
theorem dX7_vouchedBy_4 : decode cX7_vouchedBy 4 = .ok (.iload_n 3, 1) := by decide +kernel
theorem dX7_vouchedBy_5 : decode cX7_vouchedBy 5 = .ok (.aload_n 0, 1) := by decide +kernel
theorem dX7_vouchedBy_6 : decode cX7_vouchedBy 6 = .ok (.getfield 111, 3) := by decide +kernel
theorem dX7_vouchedBy_9 : decode cX7_vouchedBy 9 = .ok (.if_icmp .ge 30, 3) := by decide +kernel
theorem dX7_vouchedBy_12 : decode cX7_vouchedBy 12 = .ok (.iload_n 2, 1) := by decide +kernel
theorem dX7_vouchedBy_13 : decode cX7_vouchedBy 13 = .ok (.iload_n 1, 1) := by decide +kernel
theorem dX7_vouchedBy_14 : decode cX7_vouchedBy 14 = .ok (.iload_n 3, 1) := by decide +kernel
theorem dX7_vouchedBy_15 : decode cX7_vouchedBy 15 = .ok (.invokestatic 132, 3) := by decide +kernel
theorem dX7_vouchedBy_18 : decode cX7_vouchedBy 18 = .ok (.ifCond .eq 12, 3) := by decide +kernel
theorem dX7_vouchedBy_21 : decode cX7_vouchedBy 21 = .ok (.aload_n 0, 1) := by decide +kernel
theorem dX7_vouchedBy_22 : decode cX7_vouchedBy 22 = .ok (.getfield 13, 3) := by decide +kernel
theorem dX7_vouchedBy_25 : decode cX7_vouchedBy 25 = .ok (.iload_n 3, 1) := by decide +kernel
theorem dX7_vouchedBy_26 : decode cX7_vouchedBy 26 = .ok (.iaload, 1) := by decide +kernel
theorem dX7_vouchedBy_27 : decode cX7_vouchedBy 27 = .ok (.goto 4, 3) := by decide +kernel
theorem dX7_vouchedBy_30 : decode cX7_vouchedBy 30 = .ok (.iconst 0, 1) := by decide +kernel
theorem dX7_vouchedBy_31 : decode cX7_vouchedBy 31 = .ok (.ior, 1) := by decide +kernel
theorem dX7_vouchedBy_32 : decode cX7_vouchedBy 32 = .ok (.istore_n 2, 1) := by decide +kernel
theorem dX7_vouchedBy_33 : decode cX7_vouchedBy 33 = .ok (.iinc 3 1, 3) := by decide +kernel
theorem dX7_vouchedBy_36 : decode cX7_vouchedBy 36 = .ok (.goto (-32), 3) := by decide +kernel
theorem dX7_vouchedBy_39 : decode cX7_vouchedBy 39 = .ok (.iload_n 2, 1) := by decide +kernel
theorem dX7_vouchedBy_40 : decode cX7_vouchedBy 40 = .ok (.ireturn, 1) := by decide +kernel
theorem dX7_wallOf_0 : decode cX7_wallOf 0 = .ok (.aload_n 0, 1) := by decide +kernel
theorem dX7_wallOf_1 : decode cX7_wallOf 1 = .ok (.iconst 1, 1) := by decide +kernel
theorem dX7_wallOf_2 : decode cX7_wallOf 2 = .ok (.invokevirtual 148, 3) := by decide +kernel
theorem dX7_wallOf_5 : decode cX7_wallOf 5 = .ok (.aload_n 0, 1) := by decide +kernel
theorem dX7_wallOf_6 : decode cX7_wallOf 6 = .ok (.iload_n 1, 1) := by decide +kernel
theorem dX7_wallOf_7 : decode cX7_wallOf 7 = .ok (.invokevirtual 160, 3) := by decide +kernel
theorem dX7_wallOf_10 : decode cX7_wallOf 10 = .ok (.ior, 1) := by decide +kernel
theorem dX7_wallOf_11 : decode cX7_wallOf 11 = .ok (.iload_n 1, 1) := by decide +kernel
theorem dX7_wallOf_12 : decode cX7_wallOf 12 = .ok (.iconst (-1), 1) := by decide +kernel
theorem dX7_wallOf_13 : decode cX7_wallOf 13 = .ok (.ixor, 1) := by decide +kernel
theorem dX7_wallOf_14 : decode cX7_wallOf 14 = .ok (.iand, 1) := by decide +kernel
theorem dX7_wallOf_15 : decode cX7_wallOf 15 = .ok (.ireturn, 1) := by decide +kernel
theorem dX7_layLevels_0 : decode cX7_layLevels 0 = .ok (.aload_n 0, 1) := by decide +kernel
theorem dX7_layLevels_1 : decode cX7_layLevels 1 = .ok (.iconst 1, 1) := by decide +kernel
theorem dX7_layLevels_2 : decode cX7_layLevels 2 = .ok (.invokevirtual 148, 3) := by decide +kernel
theorem dX7_layLevels_5 : decode cX7_layLevels 5 = .ok (.istore_n 1, 1) := by decide +kernel
theorem dX7_layLevels_6 : decode cX7_layLevels 6 = .ok (.iconst 0, 1) := by decide +kernel
theorem dX7_layLevels_7 : decode cX7_layLevels 7 = .ok (.istore_n 2, 1) := by decide +kernel
theorem dX7_layLevels_8 : decode cX7_layLevels 8 = .ok (.iload_n 2, 1) := by decide +kernel
theorem dX7_layLevels_9 : decode cX7_layLevels 9 = .ok (.aload_n 0, 1) := by decide +kernel
theorem dX7_layLevels_10 : decode cX7_layLevels 10 = .ok (.getfield 111, 3) := by decide +kernel
theorem dX7_layLevels_13 : decode cX7_layLevels 13 = .ok (.if_icmp .ge 28, 3) := by decide +kernel
theorem dX7_layLevels_16 : decode cX7_layLevels 16 = .ok (.aload_n 0, 1) := by decide +kernel
theorem dX7_layLevels_17 : decode cX7_layLevels 17 = .ok (.getfield 31, 3) := by decide +kernel
theorem dX7_layLevels_20 : decode cX7_layLevels 20 = .ok (.iload_n 2, 1) := by decide +kernel
theorem dX7_layLevels_21 : decode cX7_layLevels 21 = .ok (.iload_n 1, 1) := by decide +kernel
theorem dX7_layLevels_22 : decode cX7_layLevels 22 = .ok (.iload_n 2, 1) := by decide +kernel
theorem dX7_layLevels_23 : decode cX7_layLevels 23 = .ok (.invokestatic 132, 3) := by decide +kernel
theorem dX7_layLevels_26 : decode cX7_layLevels 26 = .ok (.ifCond .eq 7, 3) := by decide +kernel
theorem dX7_layLevels_29 : decode cX7_layLevels 29 = .ok (.iconst 0, 1) := by decide +kernel
theorem dX7_layLevels_30 : decode cX7_layLevels 30 = .ok (.goto 4, 3) := by decide +kernel
theorem dX7_layLevels_33 : decode cX7_layLevels 33 = .ok (.iconst (-1), 1) := by decide +kernel
theorem dX7_layLevels_34 : decode cX7_layLevels 34 = .ok (.iastore, 1) := by decide +kernel
theorem dX7_layLevels_35 : decode cX7_layLevels 35 = .ok (.iinc 2 1, 3) := by decide +kernel
theorem dX7_layLevels_38 : decode cX7_layLevels 38 = .ok (.goto (-30), 3) := by decide +kernel
theorem dX7_layLevels_41 : decode cX7_layLevels 41 = .ok (.iconst 1, 1) := by decide +kernel
theorem dX7_layLevels_42 : decode cX7_layLevels 42 = .ok (.istore_n 2, 1) := by decide +kernel
theorem dX7_layLevels_43 : decode cX7_layLevels 43 = .ok (.iload_n 2, 1) := by decide +kernel
theorem dX7_layLevels_44 : decode cX7_layLevels 44 = .ok (.bipush 9, 2) := by decide +kernel
theorem dX7_layLevels_46 : decode cX7_layLevels 46 = .ok (.if_icmp .ge 68, 3) := by decide +kernel
theorem dX7_layLevels_49 : decode cX7_layLevels 49 = .ok (.aload_n 0, 1) := by decide +kernel
theorem dX7_layLevels_50 : decode cX7_layLevels 50 = .ok (.iload_n 1, 1) := by decide +kernel
theorem dX7_layLevels_51 : decode cX7_layLevels 51 = .ok (.invokevirtual 160, 3) := by decide +kernel
theorem dX7_layLevels_54 : decode cX7_layLevels 54 = .ok (.iload_n 1, 1) := by decide +kernel
theorem dX7_layLevels_55 : decode cX7_layLevels 55 = .ok (.iconst (-1), 1) := by decide +kernel
theorem dX7_layLevels_56 : decode cX7_layLevels 56 = .ok (.ixor, 1) := by decide +kernel
theorem dX7_layLevels_57 : decode cX7_layLevels 57 = .ok (.iand, 1) := by decide +kernel
theorem dX7_layLevels_58 : decode cX7_layLevels 58 = .ok (.istore_n 3, 1) := by decide +kernel
theorem dX7_layLevels_59 : decode cX7_layLevels 59 = .ok (.iconst 0, 1) := by decide +kernel
theorem dX7_layLevels_60 : decode cX7_layLevels 60 = .ok (.istore 4, 2) := by decide +kernel
theorem dX7_layLevels_62 : decode cX7_layLevels 62 = .ok (.iload 4, 2) := by decide +kernel
theorem dX7_layLevels_64 : decode cX7_layLevels 64 = .ok (.aload_n 0, 1) := by decide +kernel
theorem dX7_layLevels_65 : decode cX7_layLevels 65 = .ok (.getfield 111, 3) := by decide +kernel
theorem dX7_layLevels_68 : decode cX7_layLevels 68 = .ok (.if_icmp .ge 36, 3) := by decide +kernel
theorem dX7_layLevels_71 : decode cX7_layLevels 71 = .ok (.aload_n 0, 1) := by decide +kernel
theorem dX7_layLevels_72 : decode cX7_layLevels 72 = .ok (.getfield 31, 3) := by decide +kernel
theorem dX7_layLevels_75 : decode cX7_layLevels 75 = .ok (.iload 4, 2) := by decide +kernel
theorem dX7_layLevels_77 : decode cX7_layLevels 77 = .ok (.iload_n 3, 1) := by decide +kernel
theorem dX7_layLevels_78 : decode cX7_layLevels 78 = .ok (.iload 4, 2) := by decide +kernel
theorem dX7_layLevels_80 : decode cX7_layLevels 80 = .ok (.invokestatic 132, 3) := by decide +kernel
theorem dX7_layLevels_83 : decode cX7_layLevels 83 = .ok (.ifCond .eq 7, 3) := by decide +kernel
theorem dX7_layLevels_86 : decode cX7_layLevels 86 = .ok (.iload_n 2, 1) := by decide +kernel
theorem dX7_layLevels_87 : decode cX7_layLevels 87 = .ok (.goto 10, 3) := by decide +kernel
theorem dX7_layLevels_90 : decode cX7_layLevels 90 = .ok (.aload_n 0, 1) := by decide +kernel
theorem dX7_layLevels_91 : decode cX7_layLevels 91 = .ok (.getfield 31, 3) := by decide +kernel
theorem dX7_layLevels_94 : decode cX7_layLevels 94 = .ok (.iload 4, 2) := by decide +kernel
theorem dX7_layLevels_96 : decode cX7_layLevels 96 = .ok (.iaload, 1) := by decide +kernel
theorem dX7_layLevels_97 : decode cX7_layLevels 97 = .ok (.iastore, 1) := by decide +kernel
theorem dX7_layLevels_98 : decode cX7_layLevels 98 = .ok (.iinc 4 1, 3) := by decide +kernel
theorem dX7_layLevels_101 : decode cX7_layLevels 101 = .ok (.goto (-39), 3) := by decide +kernel
theorem dX7_layLevels_104 : decode cX7_layLevels 104 = .ok (.iload_n 1, 1) := by decide +kernel
theorem dX7_layLevels_105 : decode cX7_layLevels 105 = .ok (.iload_n 3, 1) := by decide +kernel
theorem dX7_layLevels_106 : decode cX7_layLevels 106 = .ok (.ior, 1) := by decide +kernel
theorem dX7_layLevels_107 : decode cX7_layLevels 107 = .ok (.istore_n 1, 1) := by decide +kernel
theorem dX7_layLevels_108 : decode cX7_layLevels 108 = .ok (.iinc 2 1, 3) := by decide +kernel
theorem dX7_layLevels_111 : decode cX7_layLevels 111 = .ok (.goto (-68), 3) := by decide +kernel
theorem dX7_layLevels_114 : decode cX7_layLevels 114 = .ok (.iconst 0, 1) := by decide +kernel
theorem dX7_layLevels_115 : decode cX7_layLevels 115 = .ok (.istore_n 2, 1) := by decide +kernel
theorem dX7_layLevels_116 : decode cX7_layLevels 116 = .ok (.iload_n 2, 1) := by decide +kernel
theorem dX7_layLevels_117 : decode cX7_layLevels 117 = .ok (.aload_n 0, 1) := by decide +kernel
theorem dX7_layLevels_118 : decode cX7_layLevels 118 = .ok (.getfield 111, 3) := by decide +kernel
theorem dX7_layLevels_121 : decode cX7_layLevels 121 = .ok (.if_icmp .ge 49, 3) := by decide +kernel
theorem dX7_layLevels_124 : decode cX7_layLevels 124 = .ok (.aload_n 0, 1) := by decide +kernel
theorem dX7_layLevels_125 : decode cX7_layLevels 125 = .ok (.getfield 34, 3) := by decide +kernel
theorem dX7_layLevels_128 : decode cX7_layLevels 128 = .ok (.iload_n 2, 1) := by decide +kernel
theorem dX7_layLevels_129 : decode cX7_layLevels 129 = .ok (.aload_n 0, 1) := by decide +kernel
theorem dX7_layLevels_130 : decode cX7_layLevels 130 = .ok (.getfield 31, 3) := by decide +kernel
theorem dX7_layLevels_133 : decode cX7_layLevels 133 = .ok (.iload_n 2, 1) := by decide +kernel
theorem dX7_layLevels_134 : decode cX7_layLevels 134 = .ok (.iaload, 1) := by decide +kernel
theorem dX7_layLevels_135 : decode cX7_layLevels 135 = .ok (.iconst 0, 1) := by decide +kernel
theorem dX7_layLevels_136 : decode cX7_layLevels 136 = .ok (.aload_n 0, 1) := by decide +kernel
theorem dX7_layLevels_137 : decode cX7_layLevels 137 = .ok (.getfield 114, 3) := by decide +kernel
theorem dX7_layLevels_140 : decode cX7_layLevels 140 = .ok (.iconst 1, 1) := by decide +kernel
theorem dX7_layLevels_141 : decode cX7_layLevels 141 = .ok (.isub, 1) := by decide +kernel
theorem dX7_layLevels_142 : decode cX7_layLevels 142 = .ok (.invokestatic 50, 3) := by decide +kernel
theorem dX7_layLevels_145 : decode cX7_layLevels 145 = .ok (.ifCond .eq 17, 3) := by decide +kernel
theorem dX7_layLevels_148 : decode cX7_layLevels 148 = .ok (.aload_n 0, 1) := by decide +kernel
theorem dX7_layLevels_149 : decode cX7_layLevels 149 = .ok (.getfield 16, 3) := by decide +kernel
theorem dX7_layLevels_152 : decode cX7_layLevels 152 = .ok (.aload_n 0, 1) := by decide +kernel
theorem dX7_layLevels_153 : decode cX7_layLevels 153 = .ok (.getfield 31, 3) := by decide +kernel
theorem dX7_layLevels_156 : decode cX7_layLevels 156 = .ok (.iload_n 2, 1) := by decide +kernel
theorem dX7_layLevels_157 : decode cX7_layLevels 157 = .ok (.iaload, 1) := by decide +kernel
theorem dX7_layLevels_158 : decode cX7_layLevels 158 = .ok (.iaload, 1) := by decide +kernel
theorem dX7_layLevels_159 : decode cX7_layLevels 159 = .ok (.goto 4, 3) := by decide +kernel
theorem dX7_layLevels_162 : decode cX7_layLevels 162 = .ok (.iconst 0, 1) := by decide +kernel
theorem dX7_layLevels_163 : decode cX7_layLevels 163 = .ok (.iastore, 1) := by decide +kernel
theorem dX7_layLevels_164 : decode cX7_layLevels 164 = .ok (.iinc 2 1, 3) := by decide +kernel
theorem dX7_layLevels_167 : decode cX7_layLevels 167 = .ok (.goto (-51), 3) := by decide +kernel
theorem dX7_layLevels_170 : decode cX7_layLevels 170 = .ok (.return_, 1) := by decide +kernel
theorem dX7_mostOf_0 : decode cX7_mostOf 0 = .ok (.iconst 0, 1) := by decide +kernel
theorem dX7_mostOf_1 : decode cX7_mostOf 1 = .ok (.istore_n 2, 1) := by decide +kernel
theorem dX7_mostOf_2 : decode cX7_mostOf 2 = .ok (.iconst 0, 1) := by decide +kernel
theorem dX7_mostOf_3 : decode cX7_mostOf 3 = .ok (.istore_n 3, 1) := by decide +kernel
theorem dX7_mostOf_4 : decode cX7_mostOf 4 = .ok (.iload_n 3, 1) := by decide +kernel
theorem dX7_mostOf_5 : decode cX7_mostOf 5 = .ok (.aload_n 0, 1) := by decide +kernel
theorem dX7_mostOf_6 : decode cX7_mostOf 6 = .ok (.getfield 111, 3) := by decide +kernel
theorem dX7_mostOf_9 : decode cX7_mostOf 9 = .ok (.if_icmp .ge 30, 3) := by decide +kernel
theorem dX7_mostOf_12 : decode cX7_mostOf 12 = .ok (.iload_n 2, 1) := by decide +kernel
theorem dX7_mostOf_13 : decode cX7_mostOf 13 = .ok (.iload_n 1, 1) := by decide +kernel
theorem dX7_mostOf_14 : decode cX7_mostOf 14 = .ok (.iload_n 3, 1) := by decide +kernel
theorem dX7_mostOf_15 : decode cX7_mostOf 15 = .ok (.invokestatic 132, 3) := by decide +kernel
theorem dX7_mostOf_18 : decode cX7_mostOf 18 = .ok (.ifCond .eq 12, 3) := by decide +kernel
theorem dX7_mostOf_21 : decode cX7_mostOf 21 = .ok (.aload_n 0, 1) := by decide +kernel
theorem dX7_mostOf_22 : decode cX7_mostOf 22 = .ok (.getfield 34, 3) := by decide +kernel
theorem dX7_mostOf_25 : decode cX7_mostOf 25 = .ok (.iload_n 3, 1) := by decide +kernel
theorem dX7_mostOf_26 : decode cX7_mostOf 26 = .ok (.iaload, 1) := by decide +kernel
theorem dX7_mostOf_27 : decode cX7_mostOf 27 = .ok (.goto 4, 3) := by decide +kernel
theorem dX7_mostOf_30 : decode cX7_mostOf 30 = .ok (.iconst 0, 1) := by decide +kernel
theorem dX7_mostOf_31 : decode cX7_mostOf 31 = .ok (.iadd, 1) := by decide +kernel
theorem dX7_mostOf_32 : decode cX7_mostOf 32 = .ok (.istore_n 2, 1) := by decide +kernel
theorem dX7_mostOf_33 : decode cX7_mostOf 33 = .ok (.iinc 3 1, 3) := by decide +kernel
theorem dX7_mostOf_36 : decode cX7_mostOf 36 = .ok (.goto (-32), 3) := by decide +kernel
theorem dX7_mostOf_39 : decode cX7_mostOf 39 = .ok (.iload_n 2, 1) := by decide +kernel
theorem dX7_mostOf_40 : decode cX7_mostOf 40 = .ok (.ireturn, 1) := by decide +kernel
theorem dX7_lay_0 : decode cX7_lay 0 = .ok (.aload_n 0, 1) := by decide +kernel
theorem dX7_lay_1 : decode cX7_lay 1 = .ok (.invokevirtual 163, 3) := by decide +kernel
theorem dX7_lay_4 : decode cX7_lay 4 = .ok (.iconst 0, 1) := by decide +kernel
theorem dX7_lay_5 : decode cX7_lay 5 = .ok (.istore_n 1, 1) := by decide +kernel
theorem dX7_lay_6 : decode cX7_lay 6 = .ok (.iload_n 1, 1) := by decide +kernel
theorem dX7_lay_7 : decode cX7_lay 7 = .ok (.iconst 1, 1) := by decide +kernel
theorem dX7_lay_8 : decode cX7_lay 8 = .ok (.aload_n 0, 1) := by decide +kernel
theorem dX7_lay_9 : decode cX7_lay 9 = .ok (.getfield 111, 3) := by decide +kernel
theorem dX7_lay_12 : decode cX7_lay 12 = .ok (.ishl, 1) := by decide +kernel
theorem dX7_lay_13 : decode cX7_lay 13 = .ok (.if_icmp .ge 24, 3) := by decide +kernel
theorem dX7_lay_16 : decode cX7_lay 16 = .ok (.aload_n 0, 1) := by decide +kernel
theorem dX7_lay_17 : decode cX7_lay 17 = .ok (.getfield 37, 3) := by decide +kernel
theorem dX7_lay_20 : decode cX7_lay 20 = .ok (.iload_n 1, 1) := by decide +kernel
theorem dX7_lay_21 : decode cX7_lay 21 = .ok (.aload_n 0, 1) := by decide +kernel
theorem dX7_lay_22 : decode cX7_lay 22 = .ok (.aload_n 0, 1) := by decide +kernel
theorem dX7_lay_23 : decode cX7_lay 23 = .ok (.iload_n 1, 1) := by decide +kernel
theorem dX7_lay_24 : decode cX7_lay 24 = .ok (.invokevirtual 166, 3) := by decide +kernel
theorem dX7_lay_27 : decode cX7_lay 27 = .ok (.invokevirtual 169, 3) := by decide +kernel
theorem dX7_lay_30 : decode cX7_lay 30 = .ok (.iastore, 1) := by decide +kernel
theorem dX7_lay_31 : decode cX7_lay 31 = .ok (.iinc 1 1, 3) := by decide +kernel
theorem dX7_lay_34 : decode cX7_lay 34 = .ok (.goto (-28), 3) := by decide +kernel
theorem dX7_lay_37 : decode cX7_lay 37 = .ok (.return_, 1) := by decide +kernel
theorem dX7_canBe_0 : decode cX7_canBe 0 = .ok (.iconst 1, 1) := by decide +kernel
theorem dX7_canBe_1 : decode cX7_canBe 1 = .ok (.istore_n 2, 1) := by decide +kernel
theorem dX7_canBe_2 : decode cX7_canBe 2 = .ok (.iconst 0, 1) := by decide +kernel
theorem dX7_canBe_3 : decode cX7_canBe 3 = .ok (.istore_n 3, 1) := by decide +kernel
theorem dX7_canBe_4 : decode cX7_canBe 4 = .ok (.iload_n 3, 1) := by decide +kernel
theorem dX7_canBe_5 : decode cX7_canBe 5 = .ok (.iconst 1, 1) := by decide +kernel
theorem dX7_canBe_6 : decode cX7_canBe 6 = .ok (.aload_n 0, 1) := by decide +kernel
theorem dX7_canBe_7 : decode cX7_canBe 7 = .ok (.getfield 111, 3) := by decide +kernel
theorem dX7_canBe_10 : decode cX7_canBe 10 = .ok (.ishl, 1) := by decide +kernel
theorem dX7_canBe_11 : decode cX7_canBe 11 = .ok (.if_icmp .ge 36, 3) := by decide +kernel
theorem dX7_canBe_14 : decode cX7_canBe 14 = .ok (.iload_n 2, 1) := by decide +kernel
theorem dX7_canBe_15 : decode cX7_canBe 15 = .ok (.ifCond .eq 32, 3) := by decide +kernel
theorem dX7_canBe_18 : decode cX7_canBe 18 = .ok (.aload_n 0, 1) := by decide +kernel
theorem dX7_canBe_19 : decode cX7_canBe 19 = .ok (.getfield 37, 3) := by decide +kernel
theorem dX7_canBe_22 : decode cX7_canBe 22 = .ok (.iload_n 3, 1) := by decide +kernel
theorem dX7_canBe_23 : decode cX7_canBe 23 = .ok (.iaload, 1) := by decide +kernel
theorem dX7_canBe_24 : decode cX7_canBe 24 = .ok (.iload_n 1, 1) := by decide +kernel
theorem dX7_canBe_25 : decode cX7_canBe 25 = .ok (.iload_n 3, 1) := by decide +kernel
theorem dX7_canBe_26 : decode cX7_canBe 26 = .ok (.iconst (-1), 1) := by decide +kernel
theorem dX7_canBe_27 : decode cX7_canBe 27 = .ok (.ixor, 1) := by decide +kernel
theorem dX7_canBe_28 : decode cX7_canBe 28 = .ok (.iand, 1) := by decide +kernel
theorem dX7_canBe_29 : decode cX7_canBe 29 = .ok (.invokestatic 71, 3) := by decide +kernel
theorem dX7_canBe_32 : decode cX7_canBe 32 = .ok (.if_icmp .lt 7, 3) := by decide +kernel
theorem dX7_canBe_35 : decode cX7_canBe 35 = .ok (.iconst 1, 1) := by decide +kernel
theorem dX7_canBe_36 : decode cX7_canBe 36 = .ok (.goto 4, 3) := by decide +kernel
theorem dX7_canBe_39 : decode cX7_canBe 39 = .ok (.iconst 0, 1) := by decide +kernel
theorem dX7_canBe_40 : decode cX7_canBe 40 = .ok (.istore_n 2, 1) := by decide +kernel
theorem dX7_canBe_41 : decode cX7_canBe 41 = .ok (.iinc 3 1, 3) := by decide +kernel
theorem dX7_canBe_44 : decode cX7_canBe 44 = .ok (.goto (-40), 3) := by decide +kernel
theorem dX7_canBe_47 : decode cX7_canBe 47 = .ok (.iload_n 2, 1) := by decide +kernel
theorem dX7_canBe_48 : decode cX7_canBe 48 = .ok (.ireturn, 1) := by decide +kernel
theorem dX7_allIn_0 : decode cX7_allIn 0 = .ok (.iconst 0, 1) := by decide +kernel
theorem dX7_allIn_1 : decode cX7_allIn 1 = .ok (.istore_n 1, 1) := by decide +kernel
theorem dX7_allIn_2 : decode cX7_allIn 2 = .ok (.iconst 0, 1) := by decide +kernel
theorem dX7_allIn_3 : decode cX7_allIn 3 = .ok (.istore_n 2, 1) := by decide +kernel
theorem dX7_allIn_4 : decode cX7_allIn 4 = .ok (.iload_n 2, 1) := by decide +kernel
theorem dX7_allIn_5 : decode cX7_allIn 5 = .ok (.aload_n 0, 1) := by decide +kernel
theorem dX7_allIn_6 : decode cX7_allIn 6 = .ok (.getfield 111, 3) := by decide +kernel
theorem dX7_allIn_9 : decode cX7_allIn 9 = .ok (.if_icmp .ge 31, 3) := by decide +kernel
theorem dX7_allIn_12 : decode cX7_allIn 12 = .ok (.iload_n 1, 1) := by decide +kernel
theorem dX7_allIn_13 : decode cX7_allIn 13 = .ok (.aload_n 0, 1) := by decide +kernel
theorem dX7_allIn_14 : decode cX7_allIn 14 = .ok (.iload_n 1, 1) := by decide +kernel
theorem dX7_allIn_15 : decode cX7_allIn 15 = .ok (.iconst 1, 1) := by decide +kernel
theorem dX7_allIn_16 : decode cX7_allIn 16 = .ok (.iload_n 2, 1) := by decide +kernel
theorem dX7_allIn_17 : decode cX7_allIn 17 = .ok (.ishl, 1) := by decide +kernel
theorem dX7_allIn_18 : decode cX7_allIn 18 = .ok (.ior, 1) := by decide +kernel
theorem dX7_allIn_19 : decode cX7_allIn 19 = .ok (.invokevirtual 172, 3) := by decide +kernel
theorem dX7_allIn_22 : decode cX7_allIn 22 = .ok (.ifCond .eq 9, 3) := by decide +kernel
theorem dX7_allIn_25 : decode cX7_allIn 25 = .ok (.iconst 1, 1) := by decide +kernel
theorem dX7_allIn_26 : decode cX7_allIn 26 = .ok (.iload_n 2, 1) := by decide +kernel
theorem dX7_allIn_27 : decode cX7_allIn 27 = .ok (.ishl, 1) := by decide +kernel
theorem dX7_allIn_28 : decode cX7_allIn 28 = .ok (.goto 4, 3) := by decide +kernel
theorem dX7_allIn_31 : decode cX7_allIn 31 = .ok (.iconst 0, 1) := by decide +kernel
theorem dX7_allIn_32 : decode cX7_allIn 32 = .ok (.ior, 1) := by decide +kernel
theorem dX7_allIn_33 : decode cX7_allIn 33 = .ok (.istore_n 1, 1) := by decide +kernel
theorem dX7_allIn_34 : decode cX7_allIn 34 = .ok (.iinc 2 1, 3) := by decide +kernel
theorem dX7_allIn_37 : decode cX7_allIn 37 = .ok (.goto (-33), 3) := by decide +kernel
theorem dX7_allIn_40 : decode cX7_allIn 40 = .ok (.iload_n 1, 1) := by decide +kernel
theorem dX7_allIn_41 : decode cX7_allIn 41 = .ok (.ireturn, 1) := by decide +kernel
theorem dX7_flood_0 : decode cX7_flood 0 = .ok (.aload_n 0, 1) := by decide +kernel
theorem dX7_flood_1 : decode cX7_flood 1 = .ok (.iconst 2, 1) := by decide +kernel
theorem dX7_flood_2 : decode cX7_flood 2 = .ok (.invokevirtual 148, 3) := by decide +kernel
theorem dX7_flood_5 : decode cX7_flood 5 = .ok (.istore_n 1, 1) := by decide +kernel
theorem dX7_flood_6 : decode cX7_flood 6 = .ok (.iconst 0, 1) := by decide +kernel
theorem dX7_flood_7 : decode cX7_flood 7 = .ok (.istore_n 2, 1) := by decide +kernel
theorem dX7_flood_8 : decode cX7_flood 8 = .ok (.iconst 0, 1) := by decide +kernel
theorem dX7_flood_9 : decode cX7_flood 9 = .ok (.istore_n 3, 1) := by decide +kernel
theorem dX7_flood_10 : decode cX7_flood 10 = .ok (.iload_n 3, 1) := by decide +kernel
theorem dX7_flood_11 : decode cX7_flood 11 = .ok (.iconst 1, 1) := by decide +kernel
theorem dX7_flood_12 : decode cX7_flood 12 = .ok (.aload_n 0, 1) := by decide +kernel
theorem dX7_flood_13 : decode cX7_flood 13 = .ok (.getfield 111, 3) := by decide +kernel
theorem dX7_flood_16 : decode cX7_flood 16 = .ok (.ishl, 1) := by decide +kernel
theorem dX7_flood_17 : decode cX7_flood 17 = .ok (.if_icmp .ge 54, 3) := by decide +kernel
theorem dX7_flood_20 : decode cX7_flood 20 = .ok (.iload_n 3, 1) := by decide +kernel
theorem dX7_flood_21 : decode cX7_flood 21 = .ok (.iload_n 1, 1) := by decide +kernel
theorem dX7_flood_22 : decode cX7_flood 22 = .ok (.iconst (-1), 1) := by decide +kernel
theorem dX7_flood_23 : decode cX7_flood 23 = .ok (.ixor, 1) := by decide +kernel
theorem dX7_flood_24 : decode cX7_flood 24 = .ok (.iand, 1) := by decide +kernel
theorem dX7_flood_25 : decode cX7_flood 25 = .ok (.ifCond .ne 15, 3) := by decide +kernel
theorem dX7_flood_28 : decode cX7_flood 28 = .ok (.iload_n 3, 1) := by decide +kernel
theorem dX7_flood_29 : decode cX7_flood 29 = .ok (.invokestatic 71, 3) := by decide +kernel
theorem dX7_flood_32 : decode cX7_flood 32 = .ok (.iload_n 2, 1) := by decide +kernel
theorem dX7_flood_33 : decode cX7_flood 33 = .ok (.if_icmp .le 7, 3) := by decide +kernel
theorem dX7_flood_36 : decode cX7_flood 36 = .ok (.iconst 1, 1) := by decide +kernel
theorem dX7_flood_37 : decode cX7_flood 37 = .ok (.goto 4, 3) := by decide +kernel
theorem dX7_flood_40 : decode cX7_flood 40 = .ok (.iconst 0, 1) := by decide +kernel
theorem dX7_flood_41 : decode cX7_flood 41 = .ok (.istore 4, 2) := by decide +kernel
theorem dX7_flood_43 : decode cX7_flood 43 = .ok (.iload 4, 2) := by decide +kernel
theorem dX7_flood_45 : decode cX7_flood 45 = .ok (.ifCond .eq 18, 3) := by decide +kernel
theorem dX7_flood_48 : decode cX7_flood 48 = .ok (.aload_n 0, 1) := by decide +kernel
theorem dX7_flood_49 : decode cX7_flood 49 = .ok (.iload_n 3, 1) := by decide +kernel
theorem dX7_flood_50 : decode cX7_flood 50 = .ok (.invokevirtual 172, 3) := by decide +kernel
theorem dX7_flood_53 : decode cX7_flood 53 = .ok (.ifCond .eq 10, 3) := by decide +kernel
theorem dX7_flood_56 : decode cX7_flood 56 = .ok (.iload_n 3, 1) := by decide +kernel
theorem dX7_flood_57 : decode cX7_flood 57 = .ok (.invokestatic 71, 3) := by decide +kernel
theorem dX7_flood_60 : decode cX7_flood 60 = .ok (.goto 4, 3) := by decide +kernel
theorem dX7_flood_63 : decode cX7_flood 63 = .ok (.iload_n 2, 1) := by decide +kernel
theorem dX7_flood_64 : decode cX7_flood 64 = .ok (.istore_n 2, 1) := by decide +kernel
theorem dX7_flood_65 : decode cX7_flood 65 = .ok (.iinc 3 1, 3) := by decide +kernel
theorem dX7_flood_68 : decode cX7_flood 68 = .ok (.goto (-58), 3) := by decide +kernel
theorem dX7_flood_71 : decode cX7_flood 71 = .ok (.iload_n 2, 1) := by decide +kernel
theorem dX7_flood_72 : decode cX7_flood 72 = .ok (.ireturn, 1) := by decide +kernel
theorem dX7_takenIn_0 : decode cX7_takenIn 0 = .ok (.iconst 0, 1) := by decide +kernel
theorem dX7_takenIn_1 : decode cX7_takenIn 1 = .ok (.istore_n 1, 1) := by decide +kernel
theorem dX7_takenIn_2 : decode cX7_takenIn 2 = .ok (.iconst 0, 1) := by decide +kernel
theorem dX7_takenIn_3 : decode cX7_takenIn 3 = .ok (.istore_n 2, 1) := by decide +kernel
theorem dX7_takenIn_4 : decode cX7_takenIn 4 = .ok (.iload_n 2, 1) := by decide +kernel
theorem dX7_takenIn_5 : decode cX7_takenIn 5 = .ok (.aload_n 0, 1) := by decide +kernel
theorem dX7_takenIn_6 : decode cX7_takenIn 6 = .ok (.getfield 111, 3) := by decide +kernel
theorem dX7_takenIn_9 : decode cX7_takenIn 9 = .ok (.if_icmp .ge 63, 3) := by decide +kernel
theorem dX7_takenIn_12 : decode cX7_takenIn 12 = .ok (.aload_n 0, 1) := by decide +kernel
theorem dX7_takenIn_13 : decode cX7_takenIn 13 = .ok (.getfield 7, 3) := by decide +kernel
theorem dX7_takenIn_16 : decode cX7_takenIn 16 = .ok (.iload_n 2, 1) := by decide +kernel
theorem dX7_takenIn_17 : decode cX7_takenIn 17 = .ok (.iaload, 1) := by decide +kernel
theorem dX7_takenIn_18 : decode cX7_takenIn 18 = .ok (.iconst 2, 1) := by decide +kernel
theorem dX7_takenIn_19 : decode cX7_takenIn 19 = .ok (.if_icmp .eq 31, 3) := by decide +kernel
theorem dX7_takenIn_22 : decode cX7_takenIn 22 = .ok (.aload_n 0, 1) := by decide +kernel
theorem dX7_takenIn_23 : decode cX7_takenIn 23 = .ok (.getfield 34, 3) := by decide +kernel
theorem dX7_takenIn_26 : decode cX7_takenIn 26 = .ok (.iload_n 2, 1) := by decide +kernel
theorem dX7_takenIn_27 : decode cX7_takenIn 27 = .ok (.iaload, 1) := by decide +kernel
theorem dX7_takenIn_28 : decode cX7_takenIn 28 = .ok (.ifCond .le 22, 3) := by decide +kernel
theorem dX7_takenIn_31 : decode cX7_takenIn 31 = .ok (.aload_n 0, 1) := by decide +kernel
theorem dX7_takenIn_32 : decode cX7_takenIn 32 = .ok (.getfield 13, 3) := by decide +kernel
theorem dX7_takenIn_35 : decode cX7_takenIn 35 = .ok (.iload_n 2, 1) := by decide +kernel
theorem dX7_takenIn_36 : decode cX7_takenIn 36 = .ok (.iaload, 1) := by decide +kernel
theorem dX7_takenIn_37 : decode cX7_takenIn 37 = .ok (.aload_n 0, 1) := by decide +kernel
theorem dX7_takenIn_38 : decode cX7_takenIn 38 = .ok (.iconst 2, 1) := by decide +kernel
theorem dX7_takenIn_39 : decode cX7_takenIn 39 = .ok (.invokevirtual 148, 3) := by decide +kernel
theorem dX7_takenIn_42 : decode cX7_takenIn 42 = .ok (.iand, 1) := by decide +kernel
theorem dX7_takenIn_43 : decode cX7_takenIn 43 = .ok (.ifCond .eq 7, 3) := by decide +kernel
theorem dX7_takenIn_46 : decode cX7_takenIn 46 = .ok (.iconst 1, 1) := by decide +kernel
theorem dX7_takenIn_47 : decode cX7_takenIn 47 = .ok (.goto 4, 3) := by decide +kernel
theorem dX7_takenIn_50 : decode cX7_takenIn 50 = .ok (.iconst 0, 1) := by decide +kernel
theorem dX7_takenIn_51 : decode cX7_takenIn 51 = .ok (.istore_n 3, 1) := by decide +kernel
theorem dX7_takenIn_52 : decode cX7_takenIn 52 = .ok (.iload_n 1, 1) := by decide +kernel
theorem dX7_takenIn_53 : decode cX7_takenIn 53 = .ok (.iload_n 3, 1) := by decide +kernel
theorem dX7_takenIn_54 : decode cX7_takenIn 54 = .ok (.ifCond .eq 9, 3) := by decide +kernel
theorem dX7_takenIn_57 : decode cX7_takenIn 57 = .ok (.iconst 1, 1) := by decide +kernel
theorem dX7_takenIn_58 : decode cX7_takenIn 58 = .ok (.iload_n 2, 1) := by decide +kernel
theorem dX7_takenIn_59 : decode cX7_takenIn 59 = .ok (.ishl, 1) := by decide +kernel
theorem dX7_takenIn_60 : decode cX7_takenIn 60 = .ok (.goto 4, 3) := by decide +kernel
theorem dX7_takenIn_63 : decode cX7_takenIn 63 = .ok (.iconst 0, 1) := by decide +kernel
theorem dX7_takenIn_64 : decode cX7_takenIn 64 = .ok (.ior, 1) := by decide +kernel
theorem dX7_takenIn_65 : decode cX7_takenIn 65 = .ok (.istore_n 1, 1) := by decide +kernel
theorem dX7_takenIn_66 : decode cX7_takenIn 66 = .ok (.iinc 2 1, 3) := by decide +kernel
theorem dX7_takenIn_69 : decode cX7_takenIn 69 = .ok (.goto (-65), 3) := by decide +kernel
theorem dX7_takenIn_72 : decode cX7_takenIn 72 = .ok (.iload_n 1, 1) := by decide +kernel
theorem dX7_takenIn_73 : decode cX7_takenIn 73 = .ok (.ireturn, 1) := by decide +kernel
theorem dX7_vouchesAll_0 : decode cX7_vouchesAll 0 = .ok (.iconst 0, 1) := by decide +kernel
theorem dX7_vouchesAll_1 : decode cX7_vouchesAll 1 = .ok (.istore_n 1, 1) := by decide +kernel
theorem dX7_vouchesAll_2 : decode cX7_vouchesAll 2 = .ok (.iconst 0, 1) := by decide +kernel
theorem dX7_vouchesAll_3 : decode cX7_vouchesAll 3 = .ok (.istore_n 2, 1) := by decide +kernel
theorem dX7_vouchesAll_4 : decode cX7_vouchesAll 4 = .ok (.iload_n 2, 1) := by decide +kernel
theorem dX7_vouchesAll_5 : decode cX7_vouchesAll 5 = .ok (.aload_n 0, 1) := by decide +kernel
theorem dX7_vouchesAll_6 : decode cX7_vouchesAll 6 = .ok (.getfield 111, 3) := by decide +kernel
theorem dX7_vouchesAll_9 : decode cX7_vouchesAll 9 = .ok (.if_icmp .ge 21, 3) := by decide +kernel
theorem dX7_vouchesAll_12 : decode cX7_vouchesAll 12 = .ok (.iload_n 1, 1) := by decide +kernel
theorem dX7_vouchesAll_13 : decode cX7_vouchesAll 13 = .ok (.aload_n 0, 1) := by decide +kernel
theorem dX7_vouchesAll_14 : decode cX7_vouchesAll 14 = .ok (.getfield 13, 3) := by decide +kernel
theorem dX7_vouchesAll_17 : decode cX7_vouchesAll 17 = .ok (.iload_n 2, 1) := by decide +kernel
theorem dX7_vouchesAll_18 : decode cX7_vouchesAll 18 = .ok (.iaload, 1) := by decide +kernel
theorem dX7_vouchesAll_19 : decode cX7_vouchesAll 19 = .ok (.invokestatic 71, 3) := by decide +kernel
theorem dX7_vouchesAll_22 : decode cX7_vouchesAll 22 = .ok (.iadd, 1) := by decide +kernel
theorem dX7_vouchesAll_23 : decode cX7_vouchesAll 23 = .ok (.istore_n 1, 1) := by decide +kernel
theorem dX7_vouchesAll_24 : decode cX7_vouchesAll 24 = .ok (.iinc 2 1, 3) := by decide +kernel
theorem dX7_vouchesAll_27 : decode cX7_vouchesAll 27 = .ok (.goto (-23), 3) := by decide +kernel
theorem dX7_vouchesAll_30 : decode cX7_vouchesAll 30 = .ok (.iload_n 1, 1) := by decide +kernel
theorem dX7_vouchesAll_31 : decode cX7_vouchesAll 31 = .ok (.ireturn, 1) := by decide +kernel
theorem dX7_levelsMany_0 : decode cX7_levelsMany 0 = .ok (.iconst 0, 1) := by decide +kernel
theorem dX7_levelsMany_1 : decode cX7_levelsMany 1 = .ok (.istore_n 1, 1) := by decide +kernel
theorem dX7_levelsMany_2 : decode cX7_levelsMany 2 = .ok (.iconst 0, 1) := by decide +kernel
theorem dX7_levelsMany_3 : decode cX7_levelsMany 3 = .ok (.istore_n 2, 1) := by decide +kernel
theorem dX7_levelsMany_4 : decode cX7_levelsMany 4 = .ok (.iload_n 2, 1) := by decide +kernel
theorem dX7_levelsMany_5 : decode cX7_levelsMany 5 = .ok (.aload_n 0, 1) := by decide +kernel
theorem dX7_levelsMany_6 : decode cX7_levelsMany 6 = .ok (.getfield 111, 3) := by decide +kernel
theorem dX7_levelsMany_9 : decode cX7_levelsMany 9 = .ok (.if_icmp .ge 27, 3) := by decide +kernel
theorem dX7_levelsMany_12 : decode cX7_levelsMany 12 = .ok (.iload_n 1, 1) := by decide +kernel
theorem dX7_levelsMany_13 : decode cX7_levelsMany 13 = .ok (.aload_n 0, 1) := by decide +kernel
theorem dX7_levelsMany_14 : decode cX7_levelsMany 14 = .ok (.getfield 31, 3) := by decide +kernel
theorem dX7_levelsMany_17 : decode cX7_levelsMany 17 = .ok (.iload_n 2, 1) := by decide +kernel
theorem dX7_levelsMany_18 : decode cX7_levelsMany 18 = .ok (.iaload, 1) := by decide +kernel
theorem dX7_levelsMany_19 : decode cX7_levelsMany 19 = .ok (.iconst (-1), 1) := by decide +kernel
theorem dX7_levelsMany_20 : decode cX7_levelsMany 20 = .ok (.if_icmp .ne 7, 3) := by decide +kernel
theorem dX7_levelsMany_23 : decode cX7_levelsMany 23 = .ok (.iconst 0, 1) := by decide +kernel
theorem dX7_levelsMany_24 : decode cX7_levelsMany 24 = .ok (.goto 4, 3) := by decide +kernel
theorem dX7_levelsMany_27 : decode cX7_levelsMany 27 = .ok (.iconst 1, 1) := by decide +kernel
theorem dX7_levelsMany_28 : decode cX7_levelsMany 28 = .ok (.iadd, 1) := by decide +kernel
theorem dX7_levelsMany_29 : decode cX7_levelsMany 29 = .ok (.istore_n 1, 1) := by decide +kernel
theorem dX7_levelsMany_30 : decode cX7_levelsMany 30 = .ok (.iinc 2 1, 3) := by decide +kernel
theorem dX7_levelsMany_33 : decode cX7_levelsMany 33 = .ok (.goto (-29), 3) := by decide +kernel
theorem dX7_levelsMany_36 : decode cX7_levelsMany 36 = .ok (.iload_n 1, 1) := by decide +kernel
theorem dX7_levelsMany_37 : decode cX7_levelsMany 37 = .ok (.ireturn, 1) := by decide +kernel
theorem dX7_greatestLevel_0 : decode cX7_greatestLevel 0 = .ok (.iconst (-1), 1) := by decide +kernel
theorem dX7_greatestLevel_1 : decode cX7_greatestLevel 1 = .ok (.istore_n 1, 1) := by decide +kernel
theorem dX7_greatestLevel_2 : decode cX7_greatestLevel 2 = .ok (.iconst 0, 1) := by decide +kernel
theorem dX7_greatestLevel_3 : decode cX7_greatestLevel 3 = .ok (.istore_n 2, 1) := by decide +kernel
theorem dX7_greatestLevel_4 : decode cX7_greatestLevel 4 = .ok (.iload_n 2, 1) := by decide +kernel
theorem dX7_greatestLevel_5 : decode cX7_greatestLevel 5 = .ok (.aload_n 0, 1) := by decide +kernel
theorem dX7_greatestLevel_6 : decode cX7_greatestLevel 6 = .ok (.getfield 111, 3) := by decide +kernel
theorem dX7_greatestLevel_9 : decode cX7_greatestLevel 9 = .ok (.if_icmp .ge 30, 3) := by decide +kernel
theorem dX7_greatestLevel_12 : decode cX7_greatestLevel 12 = .ok (.aload_n 0, 1) := by decide +kernel
theorem dX7_greatestLevel_13 : decode cX7_greatestLevel 13 = .ok (.getfield 31, 3) := by decide +kernel
theorem dX7_greatestLevel_16 : decode cX7_greatestLevel 16 = .ok (.iload_n 2, 1) := by decide +kernel
theorem dX7_greatestLevel_17 : decode cX7_greatestLevel 17 = .ok (.iaload, 1) := by decide +kernel
theorem dX7_greatestLevel_18 : decode cX7_greatestLevel 18 = .ok (.iload_n 1, 1) := by decide +kernel
theorem dX7_greatestLevel_19 : decode cX7_greatestLevel 19 = .ok (.if_icmp .le 12, 3) := by decide +kernel
theorem dX7_greatestLevel_22 : decode cX7_greatestLevel 22 = .ok (.aload_n 0, 1) := by decide +kernel
theorem dX7_greatestLevel_23 : decode cX7_greatestLevel 23 = .ok (.getfield 31, 3) := by decide +kernel
theorem dX7_greatestLevel_26 : decode cX7_greatestLevel 26 = .ok (.iload_n 2, 1) := by decide +kernel
theorem dX7_greatestLevel_27 : decode cX7_greatestLevel 27 = .ok (.iaload, 1) := by decide +kernel
theorem dX7_greatestLevel_28 : decode cX7_greatestLevel 28 = .ok (.goto 4, 3) := by decide +kernel
theorem dX7_greatestLevel_31 : decode cX7_greatestLevel 31 = .ok (.iload_n 1, 1) := by decide +kernel
theorem dX7_greatestLevel_32 : decode cX7_greatestLevel 32 = .ok (.istore_n 1, 1) := by decide +kernel
theorem dX7_greatestLevel_33 : decode cX7_greatestLevel 33 = .ok (.iinc 2 1, 3) := by decide +kernel
theorem dX7_greatestLevel_36 : decode cX7_greatestLevel 36 = .ok (.goto (-32), 3) := by decide +kernel
theorem dX7_greatestLevel_39 : decode cX7_greatestLevel 39 = .ok (.iload_n 1, 1) := by decide +kernel
theorem dX7_greatestLevel_40 : decode cX7_greatestLevel 40 = .ok (.ireturn, 1) := by decide +kernel
theorem dX7_aboutNow_0 : decode cX7_aboutNow 0 = .ok (.aload_n 0, 1) := by decide +kernel
theorem dX7_aboutNow_1 : decode cX7_aboutNow 1 = .ok (.invokevirtual 163, 3) := by decide +kernel
theorem dX7_aboutNow_4 : decode cX7_aboutNow 4 = .ok (.iload_n 1, 1) := by decide +kernel
theorem dX7_aboutNow_5 : decode cX7_aboutNow 5 = .ok (.tableswitch 86 0 6 #[43, 48, 57, 66, 71, 76, 81], 43) := by decide +kernel
theorem dX7_aboutNow_48 : decode cX7_aboutNow 48 = .ok (.aload_n 0, 1) := by decide +kernel
theorem dX7_aboutNow_49 : decode cX7_aboutNow 49 = .ok (.getfield 111, 3) := by decide +kernel
theorem dX7_aboutNow_52 : decode cX7_aboutNow 52 = .ok (.ireturn, 1) := by decide +kernel
theorem dX7_aboutNow_53 : decode cX7_aboutNow 53 = .ok (.aload_n 0, 1) := by decide +kernel
theorem dX7_aboutNow_54 : decode cX7_aboutNow 54 = .ok (.iconst 1, 1) := by decide +kernel
theorem dX7_aboutNow_55 : decode cX7_aboutNow 55 = .ok (.invokevirtual 148, 3) := by decide +kernel
theorem dX7_aboutNow_58 : decode cX7_aboutNow 58 = .ok (.invokestatic 71, 3) := by decide +kernel
theorem dX7_aboutNow_61 : decode cX7_aboutNow 61 = .ok (.ireturn, 1) := by decide +kernel
theorem dX7_aboutNow_62 : decode cX7_aboutNow 62 = .ok (.aload_n 0, 1) := by decide +kernel
theorem dX7_aboutNow_63 : decode cX7_aboutNow 63 = .ok (.iconst 2, 1) := by decide +kernel
theorem dX7_aboutNow_64 : decode cX7_aboutNow 64 = .ok (.invokevirtual 148, 3) := by decide +kernel
theorem dX7_aboutNow_67 : decode cX7_aboutNow 67 = .ok (.invokestatic 71, 3) := by decide +kernel
theorem dX7_aboutNow_70 : decode cX7_aboutNow 70 = .ok (.ireturn, 1) := by decide +kernel
theorem dX7_aboutNow_71 : decode cX7_aboutNow 71 = .ok (.aload_n 0, 1) := by decide +kernel
theorem dX7_aboutNow_72 : decode cX7_aboutNow 72 = .ok (.invokevirtual 175, 3) := by decide +kernel
theorem dX7_aboutNow_75 : decode cX7_aboutNow 75 = .ok (.ireturn, 1) := by decide +kernel
theorem dX7_aboutNow_76 : decode cX7_aboutNow 76 = .ok (.aload_n 0, 1) := by decide +kernel
theorem dX7_aboutNow_77 : decode cX7_aboutNow 77 = .ok (.getfield 114, 3) := by decide +kernel
theorem dX7_aboutNow_80 : decode cX7_aboutNow 80 = .ok (.ireturn, 1) := by decide +kernel
theorem dX7_aboutNow_81 : decode cX7_aboutNow 81 = .ok (.aload_n 0, 1) := by decide +kernel
theorem dX7_aboutNow_82 : decode cX7_aboutNow 82 = .ok (.invokevirtual 178, 3) := by decide +kernel
theorem dX7_aboutNow_85 : decode cX7_aboutNow 85 = .ok (.ireturn, 1) := by decide +kernel
theorem dX7_aboutNow_86 : decode cX7_aboutNow 86 = .ok (.aload_n 0, 1) := by decide +kernel
theorem dX7_aboutNow_87 : decode cX7_aboutNow 87 = .ok (.invokevirtual 181, 3) := by decide +kernel
theorem dX7_aboutNow_90 : decode cX7_aboutNow 90 = .ok (.ireturn, 1) := by decide +kernel
theorem dX7_aboutNow_91 : decode cX7_aboutNow 91 = .ok (.aload_n 0, 1) := by decide +kernel
theorem dX7_aboutNow_92 : decode cX7_aboutNow 92 = .ok (.iconst 1, 1) := by decide +kernel
theorem dX7_aboutNow_93 : decode cX7_aboutNow 93 = .ok (.aload_n 0, 1) := by decide +kernel
theorem dX7_aboutNow_94 : decode cX7_aboutNow 94 = .ok (.getfield 111, 3) := by decide +kernel
theorem dX7_aboutNow_97 : decode cX7_aboutNow 97 = .ok (.ishl, 1) := by decide +kernel
theorem dX7_aboutNow_98 : decode cX7_aboutNow 98 = .ok (.iconst 1, 1) := by decide +kernel
theorem dX7_aboutNow_99 : decode cX7_aboutNow 99 = .ok (.isub, 1) := by decide +kernel
theorem dX7_aboutNow_100 : decode cX7_aboutNow 100 = .ok (.invokevirtual 169, 3) := by decide +kernel
theorem dX7_aboutNow_103 : decode cX7_aboutNow 103 = .ok (.ireturn, 1) := by decide +kernel
theorem dX7_about_0 : decode cX7_about 0 = .ok (.iload_n 1, 1) := by decide +kernel
theorem dX7_about_1 : decode cX7_about 1 = .ok (.iconst 0, 1) := by decide +kernel
theorem dX7_about_2 : decode cX7_about 2 = .ok (.bipush 7, 2) := by decide +kernel
theorem dX7_about_4 : decode cX7_about 4 = .ok (.invokestatic 50, 3) := by decide +kernel
theorem dX7_about_7 : decode cX7_about 7 = .ok (.ifCond .ne 6, 3) := by decide +kernel
theorem dX7_about_10 : decode cX7_about 10 = .ok (.bipush (-102), 2) := by decide +kernel
theorem dX7_about_12 : decode cX7_about 12 = .ok (.ireturn, 1) := by decide +kernel
theorem dX7_about_13 : decode cX7_about 13 = .ok (.aload_n 0, 1) := by decide +kernel
theorem dX7_about_14 : decode cX7_about 14 = .ok (.invokevirtual 139, 3) := by decide +kernel
theorem dX7_about_17 : decode cX7_about 17 = .ok (.ifCond .eq 11, 3) := by decide +kernel
theorem dX7_about_20 : decode cX7_about 20 = .ok (.aload_n 0, 1) := by decide +kernel
theorem dX7_about_21 : decode cX7_about 21 = .ok (.iload_n 1, 1) := by decide +kernel
theorem dX7_about_22 : decode cX7_about 22 = .ok (.invokevirtual 184, 3) := by decide +kernel
theorem dX7_about_25 : decode cX7_about 25 = .ok (.goto 5, 3) := by decide +kernel
theorem dX7_about_28 : decode cX7_about 28 = .ok (.bipush (-103), 2) := by decide +kernel
theorem dX7_about_30 : decode cX7_about 30 = .ok (.ireturn, 1) := by decide +kernel
theorem dX7_vouchersOf_0 : decode cX7_vouchersOf 0 = .ok (.iconst 0, 1) := by decide +kernel
theorem dX7_vouchersOf_1 : decode cX7_vouchersOf 1 = .ok (.istore_n 2, 1) := by decide +kernel
theorem dX7_vouchersOf_2 : decode cX7_vouchersOf 2 = .ok (.iconst 0, 1) := by decide +kernel
theorem dX7_vouchersOf_3 : decode cX7_vouchersOf 3 = .ok (.istore_n 3, 1) := by decide +kernel
theorem dX7_vouchersOf_4 : decode cX7_vouchersOf 4 = .ok (.iload_n 3, 1) := by decide +kernel
theorem dX7_vouchersOf_5 : decode cX7_vouchersOf 5 = .ok (.aload_n 0, 1) := by decide +kernel
theorem dX7_vouchersOf_6 : decode cX7_vouchersOf 6 = .ok (.getfield 111, 3) := by decide +kernel
theorem dX7_vouchersOf_9 : decode cX7_vouchersOf 9 = .ok (.if_icmp .ge 30, 3) := by decide +kernel
theorem dX7_vouchersOf_12 : decode cX7_vouchersOf 12 = .ok (.iload_n 2, 1) := by decide +kernel
theorem dX7_vouchersOf_13 : decode cX7_vouchersOf 13 = .ok (.aload_n 0, 1) := by decide +kernel
theorem dX7_vouchersOf_14 : decode cX7_vouchersOf 14 = .ok (.getfield 13, 3) := by decide +kernel
theorem dX7_vouchersOf_17 : decode cX7_vouchersOf 17 = .ok (.iload_n 3, 1) := by decide +kernel
theorem dX7_vouchersOf_18 : decode cX7_vouchersOf 18 = .ok (.iaload, 1) := by decide +kernel
theorem dX7_vouchersOf_19 : decode cX7_vouchersOf 19 = .ok (.iload_n 1, 1) := by decide +kernel
theorem dX7_vouchersOf_20 : decode cX7_vouchersOf 20 = .ok (.invokestatic 132, 3) := by decide +kernel
theorem dX7_vouchersOf_23 : decode cX7_vouchersOf 23 = .ok (.ifCond .eq 7, 3) := by decide +kernel
theorem dX7_vouchersOf_26 : decode cX7_vouchersOf 26 = .ok (.iconst 1, 1) := by decide +kernel
theorem dX7_vouchersOf_27 : decode cX7_vouchersOf 27 = .ok (.goto 4, 3) := by decide +kernel
theorem dX7_vouchersOf_30 : decode cX7_vouchersOf 30 = .ok (.iconst 0, 1) := by decide +kernel
theorem dX7_vouchersOf_31 : decode cX7_vouchersOf 31 = .ok (.iadd, 1) := by decide +kernel
theorem dX7_vouchersOf_32 : decode cX7_vouchersOf 32 = .ok (.istore_n 2, 1) := by decide +kernel
theorem dX7_vouchersOf_33 : decode cX7_vouchersOf 33 = .ok (.iinc 3 1, 3) := by decide +kernel
theorem dX7_vouchersOf_36 : decode cX7_vouchersOf 36 = .ok (.goto (-32), 3) := by decide +kernel
theorem dX7_vouchersOf_39 : decode cX7_vouchersOf 39 = .ok (.iload_n 2, 1) := by decide +kernel
theorem dX7_vouchersOf_40 : decode cX7_vouchersOf 40 = .ok (.ireturn, 1) := by decide +kernel
theorem dX7_personNow_0 : decode cX7_personNow 0 = .ok (.aload_n 0, 1) := by decide +kernel
theorem dX7_personNow_1 : decode cX7_personNow 1 = .ok (.invokevirtual 187, 3) := by decide +kernel
theorem dX7_personNow_4 : decode cX7_personNow 4 = .ok (.iload_n 2, 1) := by decide +kernel
theorem dX7_personNow_5 : decode cX7_personNow 5 = .ok (.tableswitch 114 0 6 #[43, 50, 57, 64, 74, 80, 97], 43) := by decide +kernel
theorem dX7_personNow_48 : decode cX7_personNow 48 = .ok (.aload_n 0, 1) := by decide +kernel
theorem dX7_personNow_49 : decode cX7_personNow 49 = .ok (.getfield 7, 3) := by decide +kernel
theorem dX7_personNow_52 : decode cX7_personNow 52 = .ok (.iload_n 1, 1) := by decide +kernel
theorem dX7_personNow_53 : decode cX7_personNow 53 = .ok (.iaload, 1) := by decide +kernel
theorem dX7_personNow_54 : decode cX7_personNow 54 = .ok (.ireturn, 1) := by decide +kernel
theorem dX7_personNow_55 : decode cX7_personNow 55 = .ok (.aload_n 0, 1) := by decide +kernel
theorem dX7_personNow_56 : decode cX7_personNow 56 = .ok (.getfield 31, 3) := by decide +kernel
theorem dX7_personNow_59 : decode cX7_personNow 59 = .ok (.iload_n 1, 1) := by decide +kernel
theorem dX7_personNow_60 : decode cX7_personNow 60 = .ok (.iaload, 1) := by decide +kernel
theorem dX7_personNow_61 : decode cX7_personNow 61 = .ok (.ireturn, 1) := by decide +kernel
theorem dX7_personNow_62 : decode cX7_personNow 62 = .ok (.aload_n 0, 1) := by decide +kernel
theorem dX7_personNow_63 : decode cX7_personNow 63 = .ok (.getfield 34, 3) := by decide +kernel
theorem dX7_personNow_66 : decode cX7_personNow 66 = .ok (.iload_n 1, 1) := by decide +kernel
theorem dX7_personNow_67 : decode cX7_personNow 67 = .ok (.iaload, 1) := by decide +kernel
theorem dX7_personNow_68 : decode cX7_personNow 68 = .ok (.ireturn, 1) := by decide +kernel
theorem dX7_personNow_69 : decode cX7_personNow 69 = .ok (.aload_n 0, 1) := by decide +kernel
theorem dX7_personNow_70 : decode cX7_personNow 70 = .ok (.getfield 13, 3) := by decide +kernel
theorem dX7_personNow_73 : decode cX7_personNow 73 = .ok (.iload_n 1, 1) := by decide +kernel
theorem dX7_personNow_74 : decode cX7_personNow 74 = .ok (.iaload, 1) := by decide +kernel
theorem dX7_personNow_75 : decode cX7_personNow 75 = .ok (.invokestatic 71, 3) := by decide +kernel
theorem dX7_personNow_78 : decode cX7_personNow 78 = .ok (.ireturn, 1) := by decide +kernel
theorem dX7_personNow_79 : decode cX7_personNow 79 = .ok (.aload_n 0, 1) := by decide +kernel
theorem dX7_personNow_80 : decode cX7_personNow 80 = .ok (.iload_n 1, 1) := by decide +kernel
theorem dX7_personNow_81 : decode cX7_personNow 81 = .ok (.invokevirtual 190, 3) := by decide +kernel
theorem dX7_personNow_84 : decode cX7_personNow 84 = .ok (.ireturn, 1) := by decide +kernel
theorem dX7_personNow_85 : decode cX7_personNow 85 = .ok (.aload_n 0, 1) := by decide +kernel
theorem dX7_personNow_86 : decode cX7_personNow 86 = .ok (.invokevirtual 193, 3) := by decide +kernel
theorem dX7_personNow_89 : decode cX7_personNow 89 = .ok (.iload_n 1, 1) := by decide +kernel
theorem dX7_personNow_90 : decode cX7_personNow 90 = .ok (.invokestatic 132, 3) := by decide +kernel
theorem dX7_personNow_93 : decode cX7_personNow 93 = .ok (.ifCond .eq 7, 3) := by decide +kernel
theorem dX7_personNow_96 : decode cX7_personNow 96 = .ok (.iconst 1, 1) := by decide +kernel
theorem dX7_personNow_97 : decode cX7_personNow 97 = .ok (.goto 4, 3) := by decide +kernel
theorem dX7_personNow_100 : decode cX7_personNow 100 = .ok (.iconst 0, 1) := by decide +kernel
theorem dX7_personNow_101 : decode cX7_personNow 101 = .ok (.ireturn, 1) := by decide +kernel
theorem dX7_personNow_102 : decode cX7_personNow 102 = .ok (.aload_n 0, 1) := by decide +kernel
theorem dX7_personNow_103 : decode cX7_personNow 103 = .ok (.invokevirtual 196, 3) := by decide +kernel
theorem dX7_personNow_106 : decode cX7_personNow 106 = .ok (.iload_n 1, 1) := by decide +kernel
theorem dX7_personNow_107 : decode cX7_personNow 107 = .ok (.invokestatic 132, 3) := by decide +kernel
theorem dX7_personNow_110 : decode cX7_personNow 110 = .ok (.ifCond .eq 7, 3) := by decide +kernel
theorem dX7_personNow_113 : decode cX7_personNow 113 = .ok (.iconst 1, 1) := by decide +kernel
theorem dX7_personNow_114 : decode cX7_personNow 114 = .ok (.goto 4, 3) := by decide +kernel
theorem dX7_personNow_117 : decode cX7_personNow 117 = .ok (.iconst 0, 1) := by decide +kernel
theorem dX7_personNow_118 : decode cX7_personNow 118 = .ok (.ireturn, 1) := by decide +kernel
theorem dX7_personNow_119 : decode cX7_personNow 119 = .ok (.aload_n 0, 1) := by decide +kernel
theorem dX7_personNow_120 : decode cX7_personNow 120 = .ok (.getfield 7, 3) := by decide +kernel
theorem dX7_personNow_123 : decode cX7_personNow 123 = .ok (.iload_n 1, 1) := by decide +kernel
theorem dX7_personNow_124 : decode cX7_personNow 124 = .ok (.iaload, 1) := by decide +kernel
theorem dX7_personNow_125 : decode cX7_personNow 125 = .ok (.iconst 1, 1) := by decide +kernel
theorem dX7_personNow_126 : decode cX7_personNow 126 = .ok (.if_icmp .ne 7, 3) := by decide +kernel
theorem dX7_personNow_129 : decode cX7_personNow 129 = .ok (.iconst (-1), 1) := by decide +kernel
theorem dX7_personNow_130 : decode cX7_personNow 130 = .ok (.goto 11, 3) := by decide +kernel
theorem dX7_personNow_133 : decode cX7_personNow 133 = .ok (.aload_n 0, 1) := by decide +kernel
theorem dX7_personNow_134 : decode cX7_personNow 134 = .ok (.iload_n 1, 1) := by decide +kernel
theorem dX7_personNow_135 : decode cX7_personNow 135 = .ok (.invokevirtual 199, 3) := by decide +kernel
theorem dX7_personNow_138 : decode cX7_personNow 138 = .ok (.invokestatic 71, 3) := by decide +kernel
theorem dX7_personNow_141 : decode cX7_personNow 141 = .ok (.ireturn, 1) := by decide +kernel
theorem dX7_person_0 : decode cX7_person 0 = .ok (.aload_n 0, 1) := by decide +kernel
theorem dX7_person_1 : decode cX7_person 1 = .ok (.iload_n 1, 1) := by decide +kernel
theorem dX7_person_2 : decode cX7_person 2 = .ok (.invokevirtual 145, 3) := by decide +kernel
theorem dX7_person_5 : decode cX7_person 5 = .ok (.ifCond .ne 8, 3) := by decide +kernel
theorem dX7_person_8 : decode cX7_person 8 = .ok (.bipush (-101), 2) := by decide +kernel
theorem dX7_person_10 : decode cX7_person 10 = .ok (.goto 24, 3) := by decide +kernel
theorem dX7_person_13 : decode cX7_person 13 = .ok (.iload_n 2, 1) := by decide +kernel
theorem dX7_person_14 : decode cX7_person 14 = .ok (.iconst 0, 1) := by decide +kernel
theorem dX7_person_15 : decode cX7_person 15 = .ok (.bipush 7, 2) := by decide +kernel
theorem dX7_person_17 : decode cX7_person 17 = .ok (.invokestatic 50, 3) := by decide +kernel
theorem dX7_person_20 : decode cX7_person 20 = .ok (.ifCond .eq 12, 3) := by decide +kernel
theorem dX7_person_23 : decode cX7_person 23 = .ok (.aload_n 0, 1) := by decide +kernel
theorem dX7_person_24 : decode cX7_person 24 = .ok (.iload_n 1, 1) := by decide +kernel
theorem dX7_person_25 : decode cX7_person 25 = .ok (.iload_n 2, 1) := by decide +kernel
theorem dX7_person_26 : decode cX7_person 26 = .ok (.invokevirtual 202, 3) := by decide +kernel
theorem dX7_person_29 : decode cX7_person 29 = .ok (.goto 5, 3) := by decide +kernel
theorem dX7_person_32 : decode cX7_person 32 = .ok (.bipush (-102), 2) := by decide +kernel
theorem dX7_person_34 : decode cX7_person 34 = .ok (.ireturn, 1) := by decide +kernel
theorem dX7_vouches_0 : decode cX7_vouches 0 = .ok (.aload_n 0, 1) := by decide +kernel
theorem dX7_vouches_1 : decode cX7_vouches 1 = .ok (.iload_n 1, 1) := by decide +kernel
theorem dX7_vouches_2 : decode cX7_vouches 2 = .ok (.iload_n 2, 1) := by decide +kernel
theorem dX7_vouches_3 : decode cX7_vouches 3 = .ok (.invokevirtual 151, 3) := by decide +kernel
theorem dX7_vouches_6 : decode cX7_vouches 6 = .ok (.ifCond .ne 8, 3) := by decide +kernel
theorem dX7_vouches_9 : decode cX7_vouches 9 = .ok (.bipush (-101), 2) := by decide +kernel
theorem dX7_vouches_11 : decode cX7_vouches 11 = .ok (.goto 21, 3) := by decide +kernel
theorem dX7_vouches_14 : decode cX7_vouches 14 = .ok (.aload_n 0, 1) := by decide +kernel
theorem dX7_vouches_15 : decode cX7_vouches 15 = .ok (.getfield 13, 3) := by decide +kernel
theorem dX7_vouches_18 : decode cX7_vouches 18 = .ok (.iload_n 1, 1) := by decide +kernel
theorem dX7_vouches_19 : decode cX7_vouches 19 = .ok (.iaload, 1) := by decide +kernel
theorem dX7_vouches_20 : decode cX7_vouches 20 = .ok (.iload_n 2, 1) := by decide +kernel
theorem dX7_vouches_21 : decode cX7_vouches 21 = .ok (.invokestatic 132, 3) := by decide +kernel
theorem dX7_vouches_24 : decode cX7_vouches 24 = .ok (.ifCond .eq 7, 3) := by decide +kernel
theorem dX7_vouches_27 : decode cX7_vouches 27 = .ok (.iconst 1, 1) := by decide +kernel
theorem dX7_vouches_28 : decode cX7_vouches 28 = .ok (.goto 4, 3) := by decide +kernel
theorem dX7_vouches_31 : decode cX7_vouches 31 = .ok (.iconst 0, 1) := by decide +kernel
theorem dX7_vouches_32 : decode cX7_vouches 32 = .ok (.ireturn, 1) := by decide +kernel
theorem dX7_generousNow_0 : decode cX7_generousNow 0 = .ok (.iconst (-1), 1) := by decide +kernel
theorem dX7_generousNow_1 : decode cX7_generousNow 1 = .ok (.istore_n 1, 1) := by decide +kernel
theorem dX7_generousNow_2 : decode cX7_generousNow 2 = .ok (.iconst 0, 1) := by decide +kernel
theorem dX7_generousNow_3 : decode cX7_generousNow 3 = .ok (.istore_n 2, 1) := by decide +kernel
theorem dX7_generousNow_4 : decode cX7_generousNow 4 = .ok (.iload_n 2, 1) := by decide +kernel
theorem dX7_generousNow_5 : decode cX7_generousNow 5 = .ok (.aload_n 0, 1) := by decide +kernel
theorem dX7_generousNow_6 : decode cX7_generousNow 6 = .ok (.getfield 111, 3) := by decide +kernel
theorem dX7_generousNow_9 : decode cX7_generousNow 9 = .ok (.if_icmp .ge 67, 3) := by decide +kernel
theorem dX7_generousNow_12 : decode cX7_generousNow 12 = .ok (.aload_n 0, 1) := by decide +kernel
theorem dX7_generousNow_13 : decode cX7_generousNow 13 = .ok (.iload_n 2, 1) := by decide +kernel
theorem dX7_generousNow_14 : decode cX7_generousNow 14 = .ok (.invokevirtual 190, 3) := by decide +kernel
theorem dX7_generousNow_17 : decode cX7_generousNow 17 = .ok (.ifCond .le 7, 3) := by decide +kernel
theorem dX7_generousNow_20 : decode cX7_generousNow 20 = .ok (.iconst 1, 1) := by decide +kernel
theorem dX7_generousNow_21 : decode cX7_generousNow 21 = .ok (.goto 4, 3) := by decide +kernel
theorem dX7_generousNow_24 : decode cX7_generousNow 24 = .ok (.iconst 0, 1) := by decide +kernel
theorem dX7_generousNow_25 : decode cX7_generousNow 25 = .ok (.istore_n 3, 1) := by decide +kernel
theorem dX7_generousNow_26 : decode cX7_generousNow 26 = .ok (.iload_n 3, 1) := by decide +kernel
theorem dX7_generousNow_27 : decode cX7_generousNow 27 = .ok (.ifCond .eq 43, 3) := by decide +kernel
theorem dX7_generousNow_30 : decode cX7_generousNow 30 = .ok (.iload_n 1, 1) := by decide +kernel
theorem dX7_generousNow_31 : decode cX7_generousNow 31 = .ok (.iconst (-1), 1) := by decide +kernel
theorem dX7_generousNow_32 : decode cX7_generousNow 32 = .ok (.if_icmp .eq 36, 3) := by decide +kernel
theorem dX7_generousNow_35 : decode cX7_generousNow 35 = .ok (.aload_n 0, 1) := by decide +kernel
theorem dX7_generousNow_36 : decode cX7_generousNow 36 = .ok (.getfield 13, 3) := by decide +kernel
theorem dX7_generousNow_39 : decode cX7_generousNow 39 = .ok (.iload_n 2, 1) := by decide +kernel
theorem dX7_generousNow_40 : decode cX7_generousNow 40 = .ok (.iaload, 1) := by decide +kernel
theorem dX7_generousNow_41 : decode cX7_generousNow 41 = .ok (.invokestatic 71, 3) := by decide +kernel
theorem dX7_generousNow_44 : decode cX7_generousNow 44 = .ok (.aload_n 0, 1) := by decide +kernel
theorem dX7_generousNow_45 : decode cX7_generousNow 45 = .ok (.iload_n 1, 1) := by decide +kernel
theorem dX7_generousNow_46 : decode cX7_generousNow 46 = .ok (.invokevirtual 190, 3) := by decide +kernel
theorem dX7_generousNow_49 : decode cX7_generousNow 49 = .ok (.imul, 1) := by decide +kernel
theorem dX7_generousNow_50 : decode cX7_generousNow 50 = .ok (.aload_n 0, 1) := by decide +kernel
theorem dX7_generousNow_51 : decode cX7_generousNow 51 = .ok (.getfield 13, 3) := by decide +kernel
theorem dX7_generousNow_54 : decode cX7_generousNow 54 = .ok (.iload_n 1, 1) := by decide +kernel
theorem dX7_generousNow_55 : decode cX7_generousNow 55 = .ok (.iaload, 1) := by decide +kernel
theorem dX7_generousNow_56 : decode cX7_generousNow 56 = .ok (.invokestatic 71, 3) := by decide +kernel
theorem dX7_generousNow_59 : decode cX7_generousNow 59 = .ok (.aload_n 0, 1) := by decide +kernel
theorem dX7_generousNow_60 : decode cX7_generousNow 60 = .ok (.iload_n 2, 1) := by decide +kernel
theorem dX7_generousNow_61 : decode cX7_generousNow 61 = .ok (.invokevirtual 190, 3) := by decide +kernel
theorem dX7_generousNow_64 : decode cX7_generousNow 64 = .ok (.imul, 1) := by decide +kernel
theorem dX7_generousNow_65 : decode cX7_generousNow 65 = .ok (.if_icmp .le 5, 3) := by decide +kernel
theorem dX7_generousNow_68 : decode cX7_generousNow 68 = .ok (.iload_n 2, 1) := by decide +kernel
theorem dX7_generousNow_69 : decode cX7_generousNow 69 = .ok (.istore_n 1, 1) := by decide +kernel
theorem dX7_generousNow_70 : decode cX7_generousNow 70 = .ok (.iinc 2 1, 3) := by decide +kernel
theorem dX7_generousNow_73 : decode cX7_generousNow 73 = .ok (.goto (-69), 3) := by decide +kernel
theorem dX7_generousNow_76 : decode cX7_generousNow 76 = .ok (.iload_n 1, 1) := by decide +kernel
theorem dX7_generousNow_77 : decode cX7_generousNow 77 = .ok (.ireturn, 1) := by decide +kernel
theorem dX7_generous_0 : decode cX7_generous 0 = .ok (.aload_n 0, 1) := by decide +kernel
theorem dX7_generous_1 : decode cX7_generous 1 = .ok (.invokevirtual 139, 3) := by decide +kernel
theorem dX7_generous_4 : decode cX7_generous 4 = .ok (.ifCond .eq 10, 3) := by decide +kernel
theorem dX7_generous_7 : decode cX7_generous 7 = .ok (.aload_n 0, 1) := by decide +kernel
theorem dX7_generous_8 : decode cX7_generous 8 = .ok (.invokevirtual 206, 3) := by decide +kernel
theorem dX7_generous_11 : decode cX7_generous 11 = .ok (.goto 5, 3) := by decide +kernel
theorem dX7_generous_14 : decode cX7_generous 14 = .ok (.bipush (-103), 2) := by decide +kernel
theorem dX7_generous_16 : decode cX7_generous 16 = .ok (.ireturn, 1) := by decide +kernel
theorem dX7_withoutFalse_0 : decode cX7_withoutFalse 0 = .ok (.iconst 0, 1) := by decide +kernel
theorem dX7_withoutFalse_1 : decode cX7_withoutFalse 1 = .ok (.istore_n 1, 1) := by decide +kernel
theorem dX7_withoutFalse_2 : decode cX7_withoutFalse 2 = .ok (.iconst 0, 1) := by decide +kernel
theorem dX7_withoutFalse_3 : decode cX7_withoutFalse 3 = .ok (.istore_n 2, 1) := by decide +kernel
theorem dX7_withoutFalse_4 : decode cX7_withoutFalse 4 = .ok (.iload_n 2, 1) := by decide +kernel
theorem dX7_withoutFalse_5 : decode cX7_withoutFalse 5 = .ok (.aload_n 0, 1) := by decide +kernel
theorem dX7_withoutFalse_6 : decode cX7_withoutFalse 6 = .ok (.getfield 111, 3) := by decide +kernel
theorem dX7_withoutFalse_9 : decode cX7_withoutFalse 9 = .ok (.if_icmp .ge 47, 3) := by decide +kernel
theorem dX7_withoutFalse_12 : decode cX7_withoutFalse 12 = .ok (.aload_n 0, 1) := by decide +kernel
theorem dX7_withoutFalse_13 : decode cX7_withoutFalse 13 = .ok (.getfield 40, 3) := by decide +kernel
theorem dX7_withoutFalse_16 : decode cX7_withoutFalse 16 = .ok (.iload_n 2, 1) := by decide +kernel
theorem dX7_withoutFalse_17 : decode cX7_withoutFalse 17 = .ok (.aload_n 0, 1) := by decide +kernel
theorem dX7_withoutFalse_18 : decode cX7_withoutFalse 18 = .ok (.getfield 13, 3) := by decide +kernel
theorem dX7_withoutFalse_21 : decode cX7_withoutFalse 21 = .ok (.iload_n 2, 1) := by decide +kernel
theorem dX7_withoutFalse_22 : decode cX7_withoutFalse 22 = .ok (.iaload, 1) := by decide +kernel
theorem dX7_withoutFalse_23 : decode cX7_withoutFalse 23 = .ok (.iastore, 1) := by decide +kernel
theorem dX7_withoutFalse_24 : decode cX7_withoutFalse 24 = .ok (.aload_n 0, 1) := by decide +kernel
theorem dX7_withoutFalse_25 : decode cX7_withoutFalse 25 = .ok (.getfield 13, 3) := by decide +kernel
theorem dX7_withoutFalse_28 : decode cX7_withoutFalse 28 = .ok (.iload_n 2, 1) := by decide +kernel
theorem dX7_withoutFalse_29 : decode cX7_withoutFalse 29 = .ok (.aload_n 0, 1) := by decide +kernel
theorem dX7_withoutFalse_30 : decode cX7_withoutFalse 30 = .ok (.getfield 7, 3) := by decide +kernel
theorem dX7_withoutFalse_33 : decode cX7_withoutFalse 33 = .ok (.iload_n 2, 1) := by decide +kernel
theorem dX7_withoutFalse_34 : decode cX7_withoutFalse 34 = .ok (.iaload, 1) := by decide +kernel
theorem dX7_withoutFalse_35 : decode cX7_withoutFalse 35 = .ok (.iconst 2, 1) := by decide +kernel
theorem dX7_withoutFalse_36 : decode cX7_withoutFalse 36 = .ok (.if_icmp .ne 7, 3) := by decide +kernel
theorem dX7_withoutFalse_39 : decode cX7_withoutFalse 39 = .ok (.iconst 0, 1) := by decide +kernel
theorem dX7_withoutFalse_40 : decode cX7_withoutFalse 40 = .ok (.goto 9, 3) := by decide +kernel
theorem dX7_withoutFalse_43 : decode cX7_withoutFalse 43 = .ok (.aload_n 0, 1) := by decide +kernel
theorem dX7_withoutFalse_44 : decode cX7_withoutFalse 44 = .ok (.getfield 13, 3) := by decide +kernel
theorem dX7_withoutFalse_47 : decode cX7_withoutFalse 47 = .ok (.iload_n 2, 1) := by decide +kernel
theorem dX7_withoutFalse_48 : decode cX7_withoutFalse 48 = .ok (.iaload, 1) := by decide +kernel
theorem dX7_withoutFalse_49 : decode cX7_withoutFalse 49 = .ok (.iastore, 1) := by decide +kernel
theorem dX7_withoutFalse_50 : decode cX7_withoutFalse 50 = .ok (.iinc 2 1, 3) := by decide +kernel
theorem dX7_withoutFalse_53 : decode cX7_withoutFalse 53 = .ok (.goto (-49), 3) := by decide +kernel
theorem dX7_withoutFalse_56 : decode cX7_withoutFalse 56 = .ok (.aload_n 0, 1) := by decide +kernel
theorem dX7_withoutFalse_57 : decode cX7_withoutFalse 57 = .ok (.invokevirtual 187, 3) := by decide +kernel
theorem dX7_withoutFalse_60 : decode cX7_withoutFalse 60 = .ok (.aload_n 0, 1) := by decide +kernel
theorem dX7_withoutFalse_61 : decode cX7_withoutFalse 61 = .ok (.invokevirtual 193, 3) := by decide +kernel
theorem dX7_withoutFalse_64 : decode cX7_withoutFalse 64 = .ok (.invokestatic 71, 3) := by decide +kernel
theorem dX7_withoutFalse_67 : decode cX7_withoutFalse 67 = .ok (.istore_n 1, 1) := by decide +kernel
theorem dX7_withoutFalse_68 : decode cX7_withoutFalse 68 = .ok (.iconst 0, 1) := by decide +kernel
theorem dX7_withoutFalse_69 : decode cX7_withoutFalse 69 = .ok (.istore_n 2, 1) := by decide +kernel
theorem dX7_withoutFalse_70 : decode cX7_withoutFalse 70 = .ok (.iload_n 2, 1) := by decide +kernel
theorem dX7_withoutFalse_71 : decode cX7_withoutFalse 71 = .ok (.aload_n 0, 1) := by decide +kernel
theorem dX7_withoutFalse_72 : decode cX7_withoutFalse 72 = .ok (.getfield 111, 3) := by decide +kernel
theorem dX7_withoutFalse_75 : decode cX7_withoutFalse 75 = .ok (.if_icmp .ge 21, 3) := by decide +kernel
theorem dX7_withoutFalse_78 : decode cX7_withoutFalse 78 = .ok (.aload_n 0, 1) := by decide +kernel
theorem dX7_withoutFalse_79 : decode cX7_withoutFalse 79 = .ok (.getfield 13, 3) := by decide +kernel
theorem dX7_withoutFalse_82 : decode cX7_withoutFalse 82 = .ok (.iload_n 2, 1) := by decide +kernel
theorem dX7_withoutFalse_83 : decode cX7_withoutFalse 83 = .ok (.aload_n 0, 1) := by decide +kernel
theorem dX7_withoutFalse_84 : decode cX7_withoutFalse 84 = .ok (.getfield 40, 3) := by decide +kernel
theorem dX7_withoutFalse_87 : decode cX7_withoutFalse 87 = .ok (.iload_n 2, 1) := by decide +kernel
theorem dX7_withoutFalse_88 : decode cX7_withoutFalse 88 = .ok (.iaload, 1) := by decide +kernel
theorem dX7_withoutFalse_89 : decode cX7_withoutFalse 89 = .ok (.iastore, 1) := by decide +kernel
theorem dX7_withoutFalse_90 : decode cX7_withoutFalse 90 = .ok (.iinc 2 1, 3) := by decide +kernel
theorem dX7_withoutFalse_93 : decode cX7_withoutFalse 93 = .ok (.goto (-23), 3) := by decide +kernel
theorem dX7_withoutFalse_96 : decode cX7_withoutFalse 96 = .ok (.iload_n 1, 1) := by decide +kernel
theorem dX7_withoutFalse_97 : decode cX7_withoutFalse 97 = .ok (.ireturn, 1) := by decide +kernel
theorem dX7_trustNow_0 : decode cX7_trustNow 0 = .ok (.aload_n 0, 1) := by decide +kernel
theorem dX7_trustNow_1 : decode cX7_trustNow 1 = .ok (.invokevirtual 187, 3) := by decide +kernel
theorem dX7_trustNow_4 : decode cX7_trustNow 4 = .ok (.iload_n 1, 1) := by decide +kernel
theorem dX7_trustNow_5 : decode cX7_trustNow 5 = .ok (.tableswitch 67 0 3 #[31, 39, 53, 58], 31) := by decide +kernel
theorem dX7_trustNow_36 : decode cX7_trustNow 36 = .ok (.aload_n 0, 1) := by decide +kernel
theorem dX7_trustNow_37 : decode cX7_trustNow 37 = .ok (.invokevirtual 193, 3) := by decide +kernel
theorem dX7_trustNow_40 : decode cX7_trustNow 40 = .ok (.invokestatic 71, 3) := by decide +kernel
theorem dX7_trustNow_43 : decode cX7_trustNow 43 = .ok (.ireturn, 1) := by decide +kernel
theorem dX7_trustNow_44 : decode cX7_trustNow 44 = .ok (.aload_n 0, 1) := by decide +kernel
theorem dX7_trustNow_45 : decode cX7_trustNow 45 = .ok (.invokevirtual 193, 3) := by decide +kernel
theorem dX7_trustNow_48 : decode cX7_trustNow 48 = .ok (.aload_n 0, 1) := by decide +kernel
theorem dX7_trustNow_49 : decode cX7_trustNow 49 = .ok (.iconst 2, 1) := by decide +kernel
theorem dX7_trustNow_50 : decode cX7_trustNow 50 = .ok (.invokevirtual 148, 3) := by decide +kernel
theorem dX7_trustNow_53 : decode cX7_trustNow 53 = .ok (.iand, 1) := by decide +kernel
theorem dX7_trustNow_54 : decode cX7_trustNow 54 = .ok (.invokestatic 71, 3) := by decide +kernel
theorem dX7_trustNow_57 : decode cX7_trustNow 57 = .ok (.ireturn, 1) := by decide +kernel
theorem dX7_trustNow_58 : decode cX7_trustNow 58 = .ok (.aload_n 0, 1) := by decide +kernel
theorem dX7_trustNow_59 : decode cX7_trustNow 59 = .ok (.invokevirtual 209, 3) := by decide +kernel
theorem dX7_trustNow_62 : decode cX7_trustNow 62 = .ok (.ireturn, 1) := by decide +kernel
theorem dX7_trustNow_63 : decode cX7_trustNow 63 = .ok (.aload_n 0, 1) := by decide +kernel
theorem dX7_trustNow_64 : decode cX7_trustNow 64 = .ok (.aload_n 0, 1) := by decide +kernel
theorem dX7_trustNow_65 : decode cX7_trustNow 65 = .ok (.invokevirtual 196, 3) := by decide +kernel
theorem dX7_trustNow_68 : decode cX7_trustNow 68 = .ok (.invokevirtual 169, 3) := by decide +kernel
theorem dX7_trustNow_71 : decode cX7_trustNow 71 = .ok (.ireturn, 1) := by decide +kernel
theorem dX7_trustNow_72 : decode cX7_trustNow 72 = .ok (.aload_n 0, 1) := by decide +kernel
theorem dX7_trustNow_73 : decode cX7_trustNow 73 = .ok (.invokevirtual 212, 3) := by decide +kernel
theorem dX7_trustNow_76 : decode cX7_trustNow 76 = .ok (.ireturn, 1) := by decide +kernel
theorem dX7_trust_0 : decode cX7_trust 0 = .ok (.iload_n 1, 1) := by decide +kernel
theorem dX7_trust_1 : decode cX7_trust 1 = .ok (.iconst 0, 1) := by decide +kernel
theorem dX7_trust_2 : decode cX7_trust 2 = .ok (.iconst 4, 1) := by decide +kernel
theorem dX7_trust_3 : decode cX7_trust 3 = .ok (.invokestatic 50, 3) := by decide +kernel
theorem dX7_trust_6 : decode cX7_trust 6 = .ok (.ifCond .ne 6, 3) := by decide +kernel
theorem dX7_trust_9 : decode cX7_trust 9 = .ok (.bipush (-102), 2) := by decide +kernel
theorem dX7_trust_11 : decode cX7_trust 11 = .ok (.ireturn, 1) := by decide +kernel
theorem dX7_trust_12 : decode cX7_trust 12 = .ok (.aload_n 0, 1) := by decide +kernel
theorem dX7_trust_13 : decode cX7_trust 13 = .ok (.invokevirtual 139, 3) := by decide +kernel
theorem dX7_trust_16 : decode cX7_trust 16 = .ok (.ifCond .eq 11, 3) := by decide +kernel
theorem dX7_trust_19 : decode cX7_trust 19 = .ok (.aload_n 0, 1) := by decide +kernel
theorem dX7_trust_20 : decode cX7_trust 20 = .ok (.iload_n 1, 1) := by decide +kernel
theorem dX7_trust_21 : decode cX7_trust 21 = .ok (.invokevirtual 215, 3) := by decide +kernel
theorem dX7_trust_24 : decode cX7_trust 24 = .ok (.goto 5, 3) := by decide +kernel
theorem dX7_trust_27 : decode cX7_trust 27 = .ok (.bipush (-103), 2) := by decide +kernel
theorem dX7_trust_29 : decode cX7_trust 29 = .ok (.ireturn, 1) := by decide +kernel
theorem dX7_togetherNow_0 : decode cX7_togetherNow 0 = .ok (.aload_n 0, 1) := by decide +kernel
theorem dX7_togetherNow_1 : decode cX7_togetherNow 1 = .ok (.invokevirtual 187, 3) := by decide +kernel
theorem dX7_togetherNow_4 : decode cX7_togetherNow 4 = .ok (.aload_n 0, 1) := by decide +kernel
theorem dX7_togetherNow_5 : decode cX7_togetherNow 5 = .ok (.iload_n 1, 1) := by decide +kernel
theorem dX7_togetherNow_6 : decode cX7_togetherNow 6 = .ok (.invokevirtual 172, 3) := by decide +kernel
theorem dX7_togetherNow_9 : decode cX7_togetherNow 9 = .ok (.ifCond .eq 7, 3) := by decide +kernel
theorem dX7_togetherNow_12 : decode cX7_togetherNow 12 = .ok (.iconst 1, 1) := by decide +kernel
theorem dX7_togetherNow_13 : decode cX7_togetherNow 13 = .ok (.goto 4, 3) := by decide +kernel
theorem dX7_togetherNow_16 : decode cX7_togetherNow 16 = .ok (.iconst 0, 1) := by decide +kernel
theorem dX7_togetherNow_17 : decode cX7_togetherNow 17 = .ok (.ireturn, 1) := by decide +kernel
theorem dX7_together_0 : decode cX7_together 0 = .ok (.aload_n 0, 1) := by decide +kernel
theorem dX7_together_1 : decode cX7_together 1 = .ok (.invokevirtual 139, 3) := by decide +kernel
theorem dX7_together_4 : decode cX7_together 4 = .ok (.ifCond .ne 6, 3) := by decide +kernel
theorem dX7_together_7 : decode cX7_together 7 = .ok (.bipush (-103), 2) := by decide +kernel
theorem dX7_together_9 : decode cX7_together 9 = .ok (.ireturn, 1) := by decide +kernel
theorem dX7_together_10 : decode cX7_together 10 = .ok (.iload_n 1, 1) := by decide +kernel
theorem dX7_together_11 : decode cX7_together 11 = .ok (.ifCond .lt 13, 3) := by decide +kernel
theorem dX7_together_14 : decode cX7_together 14 = .ok (.iload_n 1, 1) := by decide +kernel
theorem dX7_together_15 : decode cX7_together 15 = .ok (.iconst 1, 1) := by decide +kernel
theorem dX7_together_16 : decode cX7_together 16 = .ok (.aload_n 0, 1) := by decide +kernel
theorem dX7_together_17 : decode cX7_together 17 = .ok (.getfield 111, 3) := by decide +kernel
theorem dX7_together_20 : decode cX7_together 20 = .ok (.ishl, 1) := by decide +kernel
theorem dX7_together_21 : decode cX7_together 21 = .ok (.if_icmp .lt 8, 3) := by decide +kernel
theorem dX7_together_24 : decode cX7_together 24 = .ok (.bipush (-101), 2) := by decide +kernel
theorem dX7_together_26 : decode cX7_together 26 = .ok (.goto 8, 3) := by decide +kernel
theorem dX7_together_29 : decode cX7_together 29 = .ok (.aload_n 0, 1) := by decide +kernel
theorem dX7_together_30 : decode cX7_together 30 = .ok (.iload_n 1, 1) := by decide +kernel
theorem dX7_together_31 : decode cX7_together 31 = .ok (.invokevirtual 218, 3) := by decide +kernel
theorem dX7_together_34 : decode cX7_together 34 = .ok (.ireturn, 1) := by decide +kernel
theorem dX7_costOf_0 : decode cX7_costOf 0 = .ok (.aload_n 0, 1) := by decide +kernel
theorem dX7_costOf_1 : decode cX7_costOf 1 = .ok (.getfield 37, 3) := by decide +kernel
theorem dX7_costOf_4 : decode cX7_costOf 4 = .ok (.iload_n 1, 1) := by decide +kernel
theorem dX7_costOf_5 : decode cX7_costOf 5 = .ok (.iaload, 1) := by decide +kernel
theorem dX7_costOf_6 : decode cX7_costOf 6 = .ok (.iload_n 1, 1) := by decide +kernel
theorem dX7_costOf_7 : decode cX7_costOf 7 = .ok (.aload_n 0, 1) := by decide +kernel
theorem dX7_costOf_8 : decode cX7_costOf 8 = .ok (.iconst 2, 1) := by decide +kernel
theorem dX7_costOf_9 : decode cX7_costOf 9 = .ok (.invokevirtual 148, 3) := by decide +kernel
theorem dX7_costOf_12 : decode cX7_costOf 12 = .ok (.iand, 1) := by decide +kernel
theorem dX7_costOf_13 : decode cX7_costOf 13 = .ok (.invokestatic 71, 3) := by decide +kernel
theorem dX7_costOf_16 : decode cX7_costOf 16 = .ok (.iadd, 1) := by decide +kernel
theorem dX7_costOf_17 : decode cX7_costOf 17 = .ok (.ireturn, 1) := by decide +kernel
theorem dX7_cutSet_0 : decode cX7_cutSet 0 = .ok (.iconst 0, 1) := by decide +kernel
theorem dX7_cutSet_1 : decode cX7_cutSet 1 = .ok (.istore_n 1, 1) := by decide +kernel
theorem dX7_cutSet_2 : decode cX7_cutSet 2 = .ok (.iconst 1, 1) := by decide +kernel
theorem dX7_cutSet_3 : decode cX7_cutSet 3 = .ok (.istore_n 2, 1) := by decide +kernel
theorem dX7_cutSet_4 : decode cX7_cutSet 4 = .ok (.iload_n 2, 1) := by decide +kernel
theorem dX7_cutSet_5 : decode cX7_cutSet 5 = .ok (.iconst 1, 1) := by decide +kernel
theorem dX7_cutSet_6 : decode cX7_cutSet 6 = .ok (.aload_n 0, 1) := by decide +kernel
theorem dX7_cutSet_7 : decode cX7_cutSet 7 = .ok (.getfield 111, 3) := by decide +kernel
theorem dX7_cutSet_10 : decode cX7_cutSet 10 = .ok (.ishl, 1) := by decide +kernel
theorem dX7_cutSet_11 : decode cX7_cutSet 11 = .ok (.if_icmp .ge 46, 3) := by decide +kernel
theorem dX7_cutSet_14 : decode cX7_cutSet 14 = .ok (.aload_n 0, 1) := by decide +kernel
theorem dX7_cutSet_15 : decode cX7_cutSet 15 = .ok (.iload_n 2, 1) := by decide +kernel
theorem dX7_cutSet_16 : decode cX7_cutSet 16 = .ok (.invokevirtual 221, 3) := by decide +kernel
theorem dX7_cutSet_19 : decode cX7_cutSet 19 = .ok (.aload_n 0, 1) := by decide +kernel
theorem dX7_cutSet_20 : decode cX7_cutSet 20 = .ok (.iload_n 1, 1) := by decide +kernel
theorem dX7_cutSet_21 : decode cX7_cutSet 21 = .ok (.invokevirtual 221, 3) := by decide +kernel
theorem dX7_cutSet_24 : decode cX7_cutSet 24 = .ok (.isub, 1) := by decide +kernel
theorem dX7_cutSet_25 : decode cX7_cutSet 25 = .ok (.istore_n 3, 1) := by decide +kernel
theorem dX7_cutSet_26 : decode cX7_cutSet 26 = .ok (.iload_n 3, 1) := by decide +kernel
theorem dX7_cutSet_27 : decode cX7_cutSet 27 = .ok (.ifCond .lt 18, 3) := by decide +kernel
theorem dX7_cutSet_30 : decode cX7_cutSet 30 = .ok (.iload_n 3, 1) := by decide +kernel
theorem dX7_cutSet_31 : decode cX7_cutSet 31 = .ok (.ifCond .ne 18, 3) := by decide +kernel
theorem dX7_cutSet_34 : decode cX7_cutSet 34 = .ok (.iload_n 2, 1) := by decide +kernel
theorem dX7_cutSet_35 : decode cX7_cutSet 35 = .ok (.invokestatic 71, 3) := by decide +kernel
theorem dX7_cutSet_38 : decode cX7_cutSet 38 = .ok (.iload_n 1, 1) := by decide +kernel
theorem dX7_cutSet_39 : decode cX7_cutSet 39 = .ok (.invokestatic 71, 3) := by decide +kernel
theorem dX7_cutSet_42 : decode cX7_cutSet 42 = .ok (.if_icmp .ge 7, 3) := by decide +kernel
theorem dX7_cutSet_45 : decode cX7_cutSet 45 = .ok (.iload_n 2, 1) := by decide +kernel
theorem dX7_cutSet_46 : decode cX7_cutSet 46 = .ok (.goto 4, 3) := by decide +kernel
theorem dX7_cutSet_49 : decode cX7_cutSet 49 = .ok (.iload_n 1, 1) := by decide +kernel
theorem dX7_cutSet_50 : decode cX7_cutSet 50 = .ok (.istore_n 1, 1) := by decide +kernel
theorem dX7_cutSet_51 : decode cX7_cutSet 51 = .ok (.iinc 2 1, 3) := by decide +kernel
theorem dX7_cutSet_54 : decode cX7_cutSet 54 = .ok (.goto (-50), 3) := by decide +kernel
theorem dX7_cutSet_57 : decode cX7_cutSet 57 = .ok (.iload_n 1, 1) := by decide +kernel
theorem dX7_cutSet_58 : decode cX7_cutSet 58 = .ok (.ireturn, 1) := by decide +kernel
theorem dX7_cutNow_0 : decode cX7_cutNow 0 = .ok (.aload_n 0, 1) := by decide +kernel
theorem dX7_cutNow_1 : decode cX7_cutNow 1 = .ok (.invokevirtual 187, 3) := by decide +kernel
theorem dX7_cutNow_4 : decode cX7_cutNow 4 = .ok (.aload_n 0, 1) := by decide +kernel
theorem dX7_cutNow_5 : decode cX7_cutNow 5 = .ok (.invokevirtual 224, 3) := by decide +kernel
theorem dX7_cutNow_8 : decode cX7_cutNow 8 = .ok (.istore_n 2, 1) := by decide +kernel
theorem dX7_cutNow_9 : decode cX7_cutNow 9 = .ok (.iload_n 1, 1) := by decide +kernel
theorem dX7_cutNow_10 : decode cX7_cutNow 10 = .ok (.ifCond .ne 11, 3) := by decide +kernel
theorem dX7_cutNow_13 : decode cX7_cutNow 13 = .ok (.aload_n 0, 1) := by decide +kernel
theorem dX7_cutNow_14 : decode cX7_cutNow 14 = .ok (.iload_n 2, 1) := by decide +kernel
theorem dX7_cutNow_15 : decode cX7_cutNow 15 = .ok (.invokevirtual 221, 3) := by decide +kernel
theorem dX7_cutNow_18 : decode cX7_cutNow 18 = .ok (.goto 17, 3) := by decide +kernel
theorem dX7_cutNow_21 : decode cX7_cutNow 21 = .ok (.iload_n 1, 1) := by decide +kernel
theorem dX7_cutNow_22 : decode cX7_cutNow 22 = .ok (.iconst 1, 1) := by decide +kernel
theorem dX7_cutNow_23 : decode cX7_cutNow 23 = .ok (.if_icmp .ne 11, 3) := by decide +kernel
theorem dX7_cutNow_26 : decode cX7_cutNow 26 = .ok (.aload_n 0, 1) := by decide +kernel
theorem dX7_cutNow_27 : decode cX7_cutNow 27 = .ok (.iload_n 2, 1) := by decide +kernel
theorem dX7_cutNow_28 : decode cX7_cutNow 28 = .ok (.invokevirtual 166, 3) := by decide +kernel
theorem dX7_cutNow_31 : decode cX7_cutNow 31 = .ok (.goto 4, 3) := by decide +kernel
theorem dX7_cutNow_34 : decode cX7_cutNow 34 = .ok (.iload_n 2, 1) := by decide +kernel
theorem dX7_cutNow_35 : decode cX7_cutNow 35 = .ok (.ireturn, 1) := by decide +kernel
theorem dX7_cut_0 : decode cX7_cut 0 = .ok (.iload_n 1, 1) := by decide +kernel
theorem dX7_cut_1 : decode cX7_cut 1 = .ok (.iconst 0, 1) := by decide +kernel
theorem dX7_cut_2 : decode cX7_cut 2 = .ok (.iconst 2, 1) := by decide +kernel
theorem dX7_cut_3 : decode cX7_cut 3 = .ok (.invokestatic 50, 3) := by decide +kernel
theorem dX7_cut_6 : decode cX7_cut 6 = .ok (.ifCond .ne 6, 3) := by decide +kernel
theorem dX7_cut_9 : decode cX7_cut 9 = .ok (.bipush (-102), 2) := by decide +kernel
theorem dX7_cut_11 : decode cX7_cut 11 = .ok (.ireturn, 1) := by decide +kernel
theorem dX7_cut_12 : decode cX7_cut 12 = .ok (.aload_n 0, 1) := by decide +kernel
theorem dX7_cut_13 : decode cX7_cut 13 = .ok (.invokevirtual 139, 3) := by decide +kernel
theorem dX7_cut_16 : decode cX7_cut 16 = .ok (.ifCond .eq 11, 3) := by decide +kernel
theorem dX7_cut_19 : decode cX7_cut 19 = .ok (.aload_n 0, 1) := by decide +kernel
theorem dX7_cut_20 : decode cX7_cut 20 = .ok (.iload_n 1, 1) := by decide +kernel
theorem dX7_cut_21 : decode cX7_cut 21 = .ok (.invokevirtual 227, 3) := by decide +kernel
theorem dX7_cut_24 : decode cX7_cut 24 = .ok (.goto 5, 3) := by decide +kernel
theorem dX7_cut_27 : decode cX7_cut 27 = .ok (.bipush (-103), 2) := by decide +kernel
theorem dX7_cut_29 : decode cX7_cut 29 = .ok (.ireturn, 1) := by decide +kernel
theorem dX7_isLed_0 : decode cX7_isLed 0 = .ok (.aload_n 0, 1) := by decide +kernel
theorem dX7_isLed_1 : decode cX7_isLed 1 = .ok (.iconst 1, 1) := by decide +kernel
theorem dX7_isLed_2 : decode cX7_isLed 2 = .ok (.invokevirtual 148, 3) := by decide +kernel
theorem dX7_isLed_5 : decode cX7_isLed 5 = .ok (.iload_n 2, 1) := by decide +kernel
theorem dX7_isLed_6 : decode cX7_isLed 6 = .ok (.iconst (-1), 1) := by decide +kernel
theorem dX7_isLed_7 : decode cX7_isLed 7 = .ok (.ixor, 1) := by decide +kernel
theorem dX7_isLed_8 : decode cX7_isLed 8 = .ok (.iand, 1) := by decide +kernel
theorem dX7_isLed_9 : decode cX7_isLed 9 = .ok (.istore_n 3, 1) := by decide +kernel
theorem dX7_isLed_10 : decode cX7_isLed 10 = .ok (.iconst 0, 1) := by decide +kernel
theorem dX7_isLed_11 : decode cX7_isLed 11 = .ok (.istore 4, 2) := by decide +kernel
theorem dX7_isLed_13 : decode cX7_isLed 13 = .ok (.iload 4, 2) := by decide +kernel
theorem dX7_isLed_15 : decode cX7_isLed 15 = .ok (.aload_n 0, 1) := by decide +kernel
theorem dX7_isLed_16 : decode cX7_isLed 16 = .ok (.getfield 111, 3) := by decide +kernel
theorem dX7_isLed_19 : decode cX7_isLed 19 = .ok (.if_icmp .ge 21, 3) := by decide +kernel
theorem dX7_isLed_22 : decode cX7_isLed 22 = .ok (.iload_n 3, 1) := by decide +kernel
theorem dX7_isLed_23 : decode cX7_isLed 23 = .ok (.aload_n 0, 1) := by decide +kernel
theorem dX7_isLed_24 : decode cX7_isLed 24 = .ok (.iload_n 3, 1) := by decide +kernel
theorem dX7_isLed_25 : decode cX7_isLed 25 = .ok (.invokevirtual 160, 3) := by decide +kernel
theorem dX7_isLed_28 : decode cX7_isLed 28 = .ok (.iload_n 2, 1) := by decide +kernel
theorem dX7_isLed_29 : decode cX7_isLed 29 = .ok (.iconst (-1), 1) := by decide +kernel
theorem dX7_isLed_30 : decode cX7_isLed 30 = .ok (.ixor, 1) := by decide +kernel
theorem dX7_isLed_31 : decode cX7_isLed 31 = .ok (.iand, 1) := by decide +kernel
theorem dX7_isLed_32 : decode cX7_isLed 32 = .ok (.ior, 1) := by decide +kernel
theorem dX7_isLed_33 : decode cX7_isLed 33 = .ok (.istore_n 3, 1) := by decide +kernel
theorem dX7_isLed_34 : decode cX7_isLed 34 = .ok (.iinc 4 1, 3) := by decide +kernel
theorem dX7_isLed_37 : decode cX7_isLed 37 = .ok (.goto (-24), 3) := by decide +kernel
theorem dX7_isLed_40 : decode cX7_isLed 40 = .ok (.iload_n 3, 1) := by decide +kernel
theorem dX7_isLed_41 : decode cX7_isLed 41 = .ok (.iload_n 1, 1) := by decide +kernel
theorem dX7_isLed_42 : decode cX7_isLed 42 = .ok (.invokestatic 132, 3) := by decide +kernel
theorem dX7_isLed_45 : decode cX7_isLed 45 = .ok (.ireturn, 1) := by decide +kernel
theorem dX7_apartNow_0 : decode cX7_apartNow 0 = .ok (.aload_n 0, 1) := by decide +kernel
theorem dX7_apartNow_1 : decode cX7_apartNow 1 = .ok (.getfield 7, 3) := by decide +kernel
theorem dX7_apartNow_4 : decode cX7_apartNow 4 = .ok (.iload_n 1, 1) := by decide +kernel
theorem dX7_apartNow_5 : decode cX7_apartNow 5 = .ok (.iaload, 1) := by decide +kernel
theorem dX7_apartNow_6 : decode cX7_apartNow 6 = .ok (.iconst 1, 1) := by decide +kernel
theorem dX7_apartNow_7 : decode cX7_apartNow 7 = .ok (.if_icmp .ne 5, 3) := by decide +kernel
theorem dX7_apartNow_10 : decode cX7_apartNow 10 = .ok (.iconst (-1), 1) := by decide +kernel
theorem dX7_apartNow_11 : decode cX7_apartNow 11 = .ok (.ireturn, 1) := by decide +kernel
theorem dX7_apartNow_12 : decode cX7_apartNow 12 = .ok (.iconst (-1), 1) := by decide +kernel
theorem dX7_apartNow_13 : decode cX7_apartNow 13 = .ok (.istore_n 2, 1) := by decide +kernel
theorem dX7_apartNow_14 : decode cX7_apartNow 14 = .ok (.iconst 0, 1) := by decide +kernel
theorem dX7_apartNow_15 : decode cX7_apartNow 15 = .ok (.istore_n 3, 1) := by decide +kernel
theorem dX7_apartNow_16 : decode cX7_apartNow 16 = .ok (.iload_n 3, 1) := by decide +kernel
theorem dX7_apartNow_17 : decode cX7_apartNow 17 = .ok (.iconst 1, 1) := by decide +kernel
theorem dX7_apartNow_18 : decode cX7_apartNow 18 = .ok (.aload_n 0, 1) := by decide +kernel
theorem dX7_apartNow_19 : decode cX7_apartNow 19 = .ok (.getfield 111, 3) := by decide +kernel
theorem dX7_apartNow_22 : decode cX7_apartNow 22 = .ok (.ishl, 1) := by decide +kernel
theorem dX7_apartNow_23 : decode cX7_apartNow 23 = .ok (.if_icmp .ge 60, 3) := by decide +kernel
theorem dX7_apartNow_26 : decode cX7_apartNow 26 = .ok (.iload_n 3, 1) := by decide +kernel
theorem dX7_apartNow_27 : decode cX7_apartNow 27 = .ok (.iload_n 1, 1) := by decide +kernel
theorem dX7_apartNow_28 : decode cX7_apartNow 28 = .ok (.invokestatic 132, 3) := by decide +kernel
theorem dX7_apartNow_31 : decode cX7_apartNow 31 = .ok (.ifCond .ne 23, 3) := by decide +kernel
theorem dX7_apartNow_34 : decode cX7_apartNow 34 = .ok (.iload_n 2, 1) := by decide +kernel
theorem dX7_apartNow_35 : decode cX7_apartNow 35 = .ok (.iconst (-1), 1) := by decide +kernel
theorem dX7_apartNow_36 : decode cX7_apartNow 36 = .ok (.if_icmp .eq 14, 3) := by decide +kernel
theorem dX7_apartNow_39 : decode cX7_apartNow 39 = .ok (.iload_n 3, 1) := by decide +kernel
theorem dX7_apartNow_40 : decode cX7_apartNow 40 = .ok (.invokestatic 71, 3) := by decide +kernel
theorem dX7_apartNow_43 : decode cX7_apartNow 43 = .ok (.iload_n 2, 1) := by decide +kernel
theorem dX7_apartNow_44 : decode cX7_apartNow 44 = .ok (.invokestatic 71, 3) := by decide +kernel
theorem dX7_apartNow_47 : decode cX7_apartNow 47 = .ok (.if_icmp .ge 7, 3) := by decide +kernel
theorem dX7_apartNow_50 : decode cX7_apartNow 50 = .ok (.iconst 1, 1) := by decide +kernel
theorem dX7_apartNow_51 : decode cX7_apartNow 51 = .ok (.goto 4, 3) := by decide +kernel
theorem dX7_apartNow_54 : decode cX7_apartNow 54 = .ok (.iconst 0, 1) := by decide +kernel
theorem dX7_apartNow_55 : decode cX7_apartNow 55 = .ok (.istore 4, 2) := by decide +kernel
theorem dX7_apartNow_57 : decode cX7_apartNow 57 = .ok (.iload 4, 2) := by decide +kernel
theorem dX7_apartNow_59 : decode cX7_apartNow 59 = .ok (.ifCond .eq 16, 3) := by decide +kernel
theorem dX7_apartNow_62 : decode cX7_apartNow 62 = .ok (.aload_n 0, 1) := by decide +kernel
theorem dX7_apartNow_63 : decode cX7_apartNow 63 = .ok (.iload_n 1, 1) := by decide +kernel
theorem dX7_apartNow_64 : decode cX7_apartNow 64 = .ok (.iload_n 3, 1) := by decide +kernel
theorem dX7_apartNow_65 : decode cX7_apartNow 65 = .ok (.invokevirtual 230, 3) := by decide +kernel
theorem dX7_apartNow_68 : decode cX7_apartNow 68 = .ok (.ifCond .ne 7, 3) := by decide +kernel
theorem dX7_apartNow_71 : decode cX7_apartNow 71 = .ok (.iload_n 3, 1) := by decide +kernel
theorem dX7_apartNow_72 : decode cX7_apartNow 72 = .ok (.goto 4, 3) := by decide +kernel
theorem dX7_apartNow_75 : decode cX7_apartNow 75 = .ok (.iload_n 2, 1) := by decide +kernel
theorem dX7_apartNow_76 : decode cX7_apartNow 76 = .ok (.istore_n 2, 1) := by decide +kernel
theorem dX7_apartNow_77 : decode cX7_apartNow 77 = .ok (.iinc 3 1, 3) := by decide +kernel
theorem dX7_apartNow_80 : decode cX7_apartNow 80 = .ok (.goto (-64), 3) := by decide +kernel
theorem dX7_apartNow_83 : decode cX7_apartNow 83 = .ok (.iload_n 2, 1) := by decide +kernel
theorem dX7_apartNow_84 : decode cX7_apartNow 84 = .ok (.ireturn, 1) := by decide +kernel
theorem dX7_apart_0 : decode cX7_apart 0 = .ok (.aload_n 0, 1) := by decide +kernel
theorem dX7_apart_1 : decode cX7_apart 1 = .ok (.iload_n 1, 1) := by decide +kernel
theorem dX7_apart_2 : decode cX7_apart 2 = .ok (.invokevirtual 145, 3) := by decide +kernel
theorem dX7_apart_5 : decode cX7_apart 5 = .ok (.ifCond .eq 11, 3) := by decide +kernel
theorem dX7_apart_8 : decode cX7_apart 8 = .ok (.aload_n 0, 1) := by decide +kernel
theorem dX7_apart_9 : decode cX7_apart 9 = .ok (.iload_n 1, 1) := by decide +kernel
theorem dX7_apart_10 : decode cX7_apart 10 = .ok (.invokevirtual 199, 3) := by decide +kernel
theorem dX7_apart_13 : decode cX7_apart 13 = .ok (.goto 5, 3) := by decide +kernel
theorem dX7_apart_16 : decode cX7_apart 16 = .ok (.bipush (-101), 2) := by decide +kernel
theorem dX7_apart_18 : decode cX7_apart 18 = .ok (.ireturn, 1) := by decide +kernel
theorem dX7_withoutNow_0 : decode cX7_withoutNow 0 = .ok (.aload_n 0, 1) := by decide +kernel
theorem dX7_withoutNow_1 : decode cX7_withoutNow 1 = .ok (.getfield 13, 3) := by decide +kernel
theorem dX7_withoutNow_4 : decode cX7_withoutNow 4 = .ok (.iload_n 1, 1) := by decide +kernel
theorem dX7_withoutNow_5 : decode cX7_withoutNow 5 = .ok (.iaload, 1) := by decide +kernel
theorem dX7_withoutNow_6 : decode cX7_withoutNow 6 = .ok (.istore 4, 2) := by decide +kernel
theorem dX7_withoutNow_8 : decode cX7_withoutNow 8 = .ok (.aload_n 0, 1) := by decide +kernel
theorem dX7_withoutNow_9 : decode cX7_withoutNow 9 = .ok (.getfield 13, 3) := by decide +kernel
theorem dX7_withoutNow_12 : decode cX7_withoutNow 12 = .ok (.iload_n 1, 1) := by decide +kernel
theorem dX7_withoutNow_13 : decode cX7_withoutNow 13 = .ok (.iload 4, 2) := by decide +kernel
theorem dX7_withoutNow_15 : decode cX7_withoutNow 15 = .ok (.iconst 1, 1) := by decide +kernel
theorem dX7_withoutNow_16 : decode cX7_withoutNow 16 = .ok (.iload_n 2, 1) := by decide +kernel
theorem dX7_withoutNow_17 : decode cX7_withoutNow 17 = .ok (.ishl, 1) := by decide +kernel
theorem dX7_withoutNow_18 : decode cX7_withoutNow 18 = .ok (.iconst (-1), 1) := by decide +kernel
theorem dX7_withoutNow_19 : decode cX7_withoutNow 19 = .ok (.ixor, 1) := by decide +kernel
theorem dX7_withoutNow_20 : decode cX7_withoutNow 20 = .ok (.iand, 1) := by decide +kernel
theorem dX7_withoutNow_21 : decode cX7_withoutNow 21 = .ok (.iastore, 1) := by decide +kernel
theorem dX7_withoutNow_22 : decode cX7_withoutNow 22 = .ok (.aload_n 0, 1) := by decide +kernel
theorem dX7_withoutNow_23 : decode cX7_withoutNow 23 = .ok (.invokevirtual 187, 3) := by decide +kernel
theorem dX7_withoutNow_26 : decode cX7_withoutNow 26 = .ok (.aload_n 0, 1) := by decide +kernel
theorem dX7_withoutNow_27 : decode cX7_withoutNow 27 = .ok (.invokevirtual 193, 3) := by decide +kernel
theorem dX7_withoutNow_30 : decode cX7_withoutNow 30 = .ok (.istore 5, 2) := by decide +kernel
theorem dX7_withoutNow_32 : decode cX7_withoutNow 32 = .ok (.aload_n 0, 1) := by decide +kernel
theorem dX7_withoutNow_33 : decode cX7_withoutNow 33 = .ok (.getfield 13, 3) := by decide +kernel
theorem dX7_withoutNow_36 : decode cX7_withoutNow 36 = .ok (.iload_n 1, 1) := by decide +kernel
theorem dX7_withoutNow_37 : decode cX7_withoutNow 37 = .ok (.iload 4, 2) := by decide +kernel
theorem dX7_withoutNow_39 : decode cX7_withoutNow 39 = .ok (.iastore, 1) := by decide +kernel
theorem dX7_withoutNow_40 : decode cX7_withoutNow 40 = .ok (.iload_n 3, 1) := by decide +kernel
theorem dX7_withoutNow_41 : decode cX7_withoutNow 41 = .ok (.ifCond .ne 11, 3) := by decide +kernel
theorem dX7_withoutNow_44 : decode cX7_withoutNow 44 = .ok (.iload 5, 2) := by decide +kernel
theorem dX7_withoutNow_46 : decode cX7_withoutNow 46 = .ok (.invokestatic 71, 3) := by decide +kernel
theorem dX7_withoutNow_49 : decode cX7_withoutNow 49 = .ok (.goto 28, 3) := by decide +kernel
theorem dX7_withoutNow_52 : decode cX7_withoutNow 52 = .ok (.iload_n 3, 1) := by decide +kernel
theorem dX7_withoutNow_53 : decode cX7_withoutNow 53 = .ok (.iconst 1, 1) := by decide +kernel
theorem dX7_withoutNow_54 : decode cX7_withoutNow 54 = .ok (.if_icmp .ne 17, 3) := by decide +kernel
theorem dX7_withoutNow_57 : decode cX7_withoutNow 57 = .ok (.iload 5, 2) := by decide +kernel
theorem dX7_withoutNow_59 : decode cX7_withoutNow 59 = .ok (.aload_n 0, 1) := by decide +kernel
theorem dX7_withoutNow_60 : decode cX7_withoutNow 60 = .ok (.iconst 2, 1) := by decide +kernel
theorem dX7_withoutNow_61 : decode cX7_withoutNow 61 = .ok (.invokevirtual 148, 3) := by decide +kernel
theorem dX7_withoutNow_64 : decode cX7_withoutNow 64 = .ok (.iand, 1) := by decide +kernel
theorem dX7_withoutNow_65 : decode cX7_withoutNow 65 = .ok (.invokestatic 71, 3) := by decide +kernel
theorem dX7_withoutNow_68 : decode cX7_withoutNow 68 = .ok (.goto 9, 3) := by decide +kernel
theorem dX7_withoutNow_71 : decode cX7_withoutNow 71 = .ok (.aload_n 0, 1) := by decide +kernel
theorem dX7_withoutNow_72 : decode cX7_withoutNow 72 = .ok (.getfield 31, 3) := by decide +kernel
theorem dX7_withoutNow_75 : decode cX7_withoutNow 75 = .ok (.iload_n 2, 1) := by decide +kernel
theorem dX7_withoutNow_76 : decode cX7_withoutNow 76 = .ok (.iaload, 1) := by decide +kernel
theorem dX7_withoutNow_77 : decode cX7_withoutNow 77 = .ok (.ireturn, 1) := by decide +kernel
theorem dX7_without_0 : decode cX7_without 0 = .ok (.aload_n 0, 1) := by decide +kernel
theorem dX7_without_1 : decode cX7_without 1 = .ok (.iload_n 1, 1) := by decide +kernel
theorem dX7_without_2 : decode cX7_without 2 = .ok (.iload_n 2, 1) := by decide +kernel
theorem dX7_without_3 : decode cX7_without 3 = .ok (.invokevirtual 151, 3) := by decide +kernel
theorem dX7_without_6 : decode cX7_without 6 = .ok (.ifCond .ne 6, 3) := by decide +kernel
theorem dX7_without_9 : decode cX7_without 9 = .ok (.bipush (-101), 2) := by decide +kernel
theorem dX7_without_11 : decode cX7_without 11 = .ok (.ireturn, 1) := by decide +kernel
theorem dX7_without_12 : decode cX7_without 12 = .ok (.aload_n 0, 1) := by decide +kernel
theorem dX7_without_13 : decode cX7_without 13 = .ok (.getfield 13, 3) := by decide +kernel
theorem dX7_without_16 : decode cX7_without 16 = .ok (.iload_n 1, 1) := by decide +kernel
theorem dX7_without_17 : decode cX7_without 17 = .ok (.iaload, 1) := by decide +kernel
theorem dX7_without_18 : decode cX7_without 18 = .ok (.iload_n 2, 1) := by decide +kernel
theorem dX7_without_19 : decode cX7_without 19 = .ok (.invokestatic 132, 3) := by decide +kernel
theorem dX7_without_22 : decode cX7_without 22 = .ok (.ifCond .ne 6, 3) := by decide +kernel
theorem dX7_without_25 : decode cX7_without 25 = .ok (.bipush (-103), 2) := by decide +kernel
theorem dX7_without_27 : decode cX7_without 27 = .ok (.ireturn, 1) := by decide +kernel
theorem dX7_without_28 : decode cX7_without 28 = .ok (.iload_n 3, 1) := by decide +kernel
theorem dX7_without_29 : decode cX7_without 29 = .ok (.iconst 0, 1) := by decide +kernel
theorem dX7_without_30 : decode cX7_without 30 = .ok (.iconst 2, 1) := by decide +kernel
theorem dX7_without_31 : decode cX7_without 31 = .ok (.invokestatic 50, 3) := by decide +kernel
theorem dX7_without_34 : decode cX7_without 34 = .ok (.ifCond .eq 13, 3) := by decide +kernel
theorem dX7_without_37 : decode cX7_without 37 = .ok (.aload_n 0, 1) := by decide +kernel
theorem dX7_without_38 : decode cX7_without 38 = .ok (.iload_n 1, 1) := by decide +kernel
theorem dX7_without_39 : decode cX7_without 39 = .ok (.iload_n 2, 1) := by decide +kernel
theorem dX7_without_40 : decode cX7_without 40 = .ok (.iload_n 3, 1) := by decide +kernel
theorem dX7_without_41 : decode cX7_without 41 = .ok (.invokevirtual 233, 3) := by decide +kernel
theorem dX7_without_44 : decode cX7_without 44 = .ok (.goto 5, 3) := by decide +kernel
theorem dX7_without_47 : decode cX7_without 47 = .ok (.bipush (-102), 2) := by decide +kernel
theorem dX7_without_49 : decode cX7_without 49 = .ok (.ireturn, 1) := by decide +kernel
theorem dX7_dearestNow_0 : decode cX7_dearestNow 0 = .ok (.iconst (-1), 1) := by decide +kernel
theorem dX7_dearestNow_1 : decode cX7_dearestNow 1 = .ok (.istore_n 1, 1) := by decide +kernel
theorem dX7_dearestNow_2 : decode cX7_dearestNow 2 = .ok (.iconst 0, 1) := by decide +kernel
theorem dX7_dearestNow_3 : decode cX7_dearestNow 3 = .ok (.istore_n 2, 1) := by decide +kernel
theorem dX7_dearestNow_4 : decode cX7_dearestNow 4 = .ok (.iconst 0, 1) := by decide +kernel
theorem dX7_dearestNow_5 : decode cX7_dearestNow 5 = .ok (.istore_n 3, 1) := by decide +kernel
theorem dX7_dearestNow_6 : decode cX7_dearestNow 6 = .ok (.iload_n 3, 1) := by decide +kernel
theorem dX7_dearestNow_7 : decode cX7_dearestNow 7 = .ok (.bipush 100, 2) := by decide +kernel
theorem dX7_dearestNow_9 : decode cX7_dearestNow 9 = .ok (.if_icmp .ge 106, 3) := by decide +kernel
theorem dX7_dearestNow_12 : decode cX7_dearestNow 12 = .ok (.iload_n 3, 1) := by decide +kernel
theorem dX7_dearestNow_13 : decode cX7_dearestNow 13 = .ok (.bipush 10, 2) := by decide +kernel
theorem dX7_dearestNow_15 : decode cX7_dearestNow 15 = .ok (.idiv, 1) := by decide +kernel
theorem dX7_dearestNow_16 : decode cX7_dearestNow 16 = .ok (.istore 4, 2) := by decide +kernel
theorem dX7_dearestNow_18 : decode cX7_dearestNow 18 = .ok (.iload_n 3, 1) := by decide +kernel
theorem dX7_dearestNow_19 : decode cX7_dearestNow 19 = .ok (.bipush 10, 2) := by decide +kernel
theorem dX7_dearestNow_21 : decode cX7_dearestNow 21 = .ok (.irem, 1) := by decide +kernel
theorem dX7_dearestNow_22 : decode cX7_dearestNow 22 = .ok (.istore 5, 2) := by decide +kernel
theorem dX7_dearestNow_24 : decode cX7_dearestNow 24 = .ok (.iload 4, 2) := by decide +kernel
theorem dX7_dearestNow_26 : decode cX7_dearestNow 26 = .ok (.aload_n 0, 1) := by decide +kernel
theorem dX7_dearestNow_27 : decode cX7_dearestNow 27 = .ok (.getfield 111, 3) := by decide +kernel
theorem dX7_dearestNow_30 : decode cX7_dearestNow 30 = .ok (.if_icmp .ge 79, 3) := by decide +kernel
theorem dX7_dearestNow_33 : decode cX7_dearestNow 33 = .ok (.iload 5, 2) := by decide +kernel
theorem dX7_dearestNow_35 : decode cX7_dearestNow 35 = .ok (.aload_n 0, 1) := by decide +kernel
theorem dX7_dearestNow_36 : decode cX7_dearestNow 36 = .ok (.getfield 111, 3) := by decide +kernel
theorem dX7_dearestNow_39 : decode cX7_dearestNow 39 = .ok (.if_icmp .ge 70, 3) := by decide +kernel
theorem dX7_dearestNow_42 : decode cX7_dearestNow 42 = .ok (.aload_n 0, 1) := by decide +kernel
theorem dX7_dearestNow_43 : decode cX7_dearestNow 43 = .ok (.getfield 13, 3) := by decide +kernel
theorem dX7_dearestNow_46 : decode cX7_dearestNow 46 = .ok (.iload 4, 2) := by decide +kernel
theorem dX7_dearestNow_48 : decode cX7_dearestNow 48 = .ok (.iaload, 1) := by decide +kernel
theorem dX7_dearestNow_49 : decode cX7_dearestNow 49 = .ok (.iload 5, 2) := by decide +kernel
theorem dX7_dearestNow_51 : decode cX7_dearestNow 51 = .ok (.invokestatic 132, 3) := by decide +kernel
theorem dX7_dearestNow_54 : decode cX7_dearestNow 54 = .ok (.ifCond .eq 55, 3) := by decide +kernel
theorem dX7_dearestNow_57 : decode cX7_dearestNow 57 = .ok (.aload_n 0, 1) := by decide +kernel
theorem dX7_dearestNow_58 : decode cX7_dearestNow 58 = .ok (.iload 4, 2) := by decide +kernel
theorem dX7_dearestNow_60 : decode cX7_dearestNow 60 = .ok (.iload 5, 2) := by decide +kernel
theorem dX7_dearestNow_62 : decode cX7_dearestNow 62 = .ok (.iconst 0, 1) := by decide +kernel
theorem dX7_dearestNow_63 : decode cX7_dearestNow 63 = .ok (.invokevirtual 233, 3) := by decide +kernel
theorem dX7_dearestNow_66 : decode cX7_dearestNow 66 = .ok (.istore 6, 2) := by decide +kernel
theorem dX7_dearestNow_68 : decode cX7_dearestNow 68 = .ok (.iload_n 1, 1) := by decide +kernel
theorem dX7_dearestNow_69 : decode cX7_dearestNow 69 = .ok (.iconst (-1), 1) := by decide +kernel
theorem dX7_dearestNow_70 : decode cX7_dearestNow 70 = .ok (.if_icmp .eq 9, 3) := by decide +kernel
theorem dX7_dearestNow_73 : decode cX7_dearestNow 73 = .ok (.iload 6, 2) := by decide +kernel
theorem dX7_dearestNow_75 : decode cX7_dearestNow 75 = .ok (.iload_n 2, 1) := by decide +kernel
theorem dX7_dearestNow_76 : decode cX7_dearestNow 76 = .ok (.if_icmp .ge 7, 3) := by decide +kernel
theorem dX7_dearestNow_79 : decode cX7_dearestNow 79 = .ok (.iconst 1, 1) := by decide +kernel
theorem dX7_dearestNow_80 : decode cX7_dearestNow 80 = .ok (.goto 4, 3) := by decide +kernel
theorem dX7_dearestNow_83 : decode cX7_dearestNow 83 = .ok (.iconst 0, 1) := by decide +kernel
theorem dX7_dearestNow_84 : decode cX7_dearestNow 84 = .ok (.istore 7, 2) := by decide +kernel
theorem dX7_dearestNow_86 : decode cX7_dearestNow 86 = .ok (.iload 7, 2) := by decide +kernel
theorem dX7_dearestNow_88 : decode cX7_dearestNow 88 = .ok (.ifCond .eq 7, 3) := by decide +kernel
theorem dX7_dearestNow_91 : decode cX7_dearestNow 91 = .ok (.iload_n 3, 1) := by decide +kernel
theorem dX7_dearestNow_92 : decode cX7_dearestNow 92 = .ok (.goto 4, 3) := by decide +kernel
theorem dX7_dearestNow_95 : decode cX7_dearestNow 95 = .ok (.iload_n 1, 1) := by decide +kernel
theorem dX7_dearestNow_96 : decode cX7_dearestNow 96 = .ok (.istore_n 1, 1) := by decide +kernel
theorem dX7_dearestNow_97 : decode cX7_dearestNow 97 = .ok (.iload 7, 2) := by decide +kernel
theorem dX7_dearestNow_99 : decode cX7_dearestNow 99 = .ok (.ifCond .eq 8, 3) := by decide +kernel
theorem dX7_dearestNow_102 : decode cX7_dearestNow 102 = .ok (.iload 6, 2) := by decide +kernel
theorem dX7_dearestNow_104 : decode cX7_dearestNow 104 = .ok (.goto 4, 3) := by decide +kernel
theorem dX7_dearestNow_107 : decode cX7_dearestNow 107 = .ok (.iload_n 2, 1) := by decide +kernel
theorem dX7_dearestNow_108 : decode cX7_dearestNow 108 = .ok (.istore_n 2, 1) := by decide +kernel
theorem dX7_dearestNow_109 : decode cX7_dearestNow 109 = .ok (.iinc 3 1, 3) := by decide +kernel
theorem dX7_dearestNow_112 : decode cX7_dearestNow 112 = .ok (.goto (-106), 3) := by decide +kernel
theorem dX7_dearestNow_115 : decode cX7_dearestNow 115 = .ok (.iload_n 1, 1) := by decide +kernel
theorem dX7_dearestNow_116 : decode cX7_dearestNow 116 = .ok (.ireturn, 1) := by decide +kernel
theorem dX7_dearest_0 : decode cX7_dearest 0 = .ok (.aload_n 0, 1) := by decide +kernel
theorem dX7_dearest_1 : decode cX7_dearest 1 = .ok (.invokevirtual 139, 3) := by decide +kernel
theorem dX7_dearest_4 : decode cX7_dearest 4 = .ok (.ifCond .eq 10, 3) := by decide +kernel
theorem dX7_dearest_7 : decode cX7_dearest 7 = .ok (.aload_n 0, 1) := by decide +kernel
theorem dX7_dearest_8 : decode cX7_dearest 8 = .ok (.invokevirtual 237, 3) := by decide +kernel
theorem dX7_dearest_11 : decode cX7_dearest 11 = .ok (.goto 5, 3) := by decide +kernel
theorem dX7_dearest_14 : decode cX7_dearest 14 = .ok (.bipush (-103), 2) := by decide +kernel
theorem dX7_dearest_16 : decode cX7_dearest 16 = .ok (.ireturn, 1) := by decide +kernel
theorem dX7_goesTo_0 : decode cX7_goesTo 0 = .ok (.iconst 0, 1) := by decide +kernel
theorem dX7_goesTo_1 : decode cX7_goesTo 1 = .ok (.istore 4, 2) := by decide +kernel
theorem dX7_goesTo_3 : decode cX7_goesTo 3 = .ok (.iload 4, 2) := by decide +kernel
theorem dX7_goesTo_5 : decode cX7_goesTo 5 = .ok (.aload_n 0, 1) := by decide +kernel
theorem dX7_goesTo_6 : decode cX7_goesTo 6 = .ok (.getfield 111, 3) := by decide +kernel
theorem dX7_goesTo_9 : decode cX7_goesTo 9 = .ok (.if_icmp .ge 44, 3) := by decide +kernel
theorem dX7_goesTo_12 : decode cX7_goesTo 12 = .ok (.aload_n 0, 1) := by decide +kernel
theorem dX7_goesTo_13 : decode cX7_goesTo 13 = .ok (.getfield 47, 3) := by decide +kernel
theorem dX7_goesTo_16 : decode cX7_goesTo 16 = .ok (.iload 4, 2) := by decide +kernel
theorem dX7_goesTo_18 : decode cX7_goesTo 18 = .ok (.dup2, 1) := by decide +kernel
theorem dX7_goesTo_19 : decode cX7_goesTo 19 = .ok (.laload, 1) := by decide +kernel
theorem dX7_goesTo_20 : decode cX7_goesTo 20 = .ok (.iload_n 2, 1) := by decide +kernel
theorem dX7_goesTo_21 : decode cX7_goesTo 21 = .ok (.iload 4, 2) := by decide +kernel
theorem dX7_goesTo_23 : decode cX7_goesTo 23 = .ok (.invokestatic 132, 3) := by decide +kernel
theorem dX7_goesTo_26 : decode cX7_goesTo 26 = .ok (.ifCond .eq 18, 3) := by decide +kernel
theorem dX7_goesTo_29 : decode cX7_goesTo 29 = .ok (.aload_n 0, 1) := by decide +kernel
theorem dX7_goesTo_30 : decode cX7_goesTo 30 = .ok (.getfield 43, 3) := by decide +kernel
theorem dX7_goesTo_33 : decode cX7_goesTo 33 = .ok (.iload_n 1, 1) := by decide +kernel
theorem dX7_goesTo_34 : decode cX7_goesTo 34 = .ok (.laload, 1) := by decide +kernel
theorem dX7_goesTo_35 : decode cX7_goesTo 35 = .ok (.bipush 60, 2) := by decide +kernel
theorem dX7_goesTo_37 : decode cX7_goesTo 37 = .ok (.iload_n 3, 1) := by decide +kernel
theorem dX7_goesTo_38 : decode cX7_goesTo 38 = .ok (.idiv, 1) := by decide +kernel
theorem dX7_goesTo_39 : decode cX7_goesTo 39 = .ok (.i2l, 1) := by decide +kernel
theorem dX7_goesTo_40 : decode cX7_goesTo 40 = .ok (.lmul, 1) := by decide +kernel
theorem dX7_goesTo_41 : decode cX7_goesTo 41 = .ok (.goto 4, 3) := by decide +kernel
theorem dX7_goesTo_44 : decode cX7_goesTo 44 = .ok (.lconst 0, 1) := by decide +kernel
theorem dX7_goesTo_45 : decode cX7_goesTo 45 = .ok (.ladd, 1) := by decide +kernel
theorem dX7_goesTo_46 : decode cX7_goesTo 46 = .ok (.lastore, 1) := by decide +kernel
theorem dX7_goesTo_47 : decode cX7_goesTo 47 = .ok (.iinc 4 1, 3) := by decide +kernel
theorem dX7_goesTo_50 : decode cX7_goesTo 50 = .ok (.goto (-47), 3) := by decide +kernel
theorem dX7_goesTo_53 : decode cX7_goesTo 53 = .ok (.return_, 1) := by decide +kernel
theorem dX7_layChances_0 : decode cX7_layChances 0 = .ok (.aload_n 0, 1) := by decide +kernel
theorem dX7_layChances_1 : decode cX7_layChances 1 = .ok (.iconst 1, 1) := by decide +kernel
theorem dX7_layChances_2 : decode cX7_layChances 2 = .ok (.invokevirtual 148, 3) := by decide +kernel
theorem dX7_layChances_5 : decode cX7_layChances 5 = .ok (.istore_n 2, 1) := by decide +kernel
theorem dX7_layChances_6 : decode cX7_layChances 6 = .ok (.aload_n 0, 1) := by decide +kernel
theorem dX7_layChances_7 : decode cX7_layChances 7 = .ok (.iload_n 2, 1) := by decide +kernel
theorem dX7_layChances_8 : decode cX7_layChances 8 = .ok (.invokestatic 71, 3) := by decide +kernel
theorem dX7_layChances_11 : decode cX7_layChances 11 = .ok (.i2l, 1) := by decide +kernel
theorem dX7_layChances_12 : decode cX7_layChances 12 = .ok (.putfield 240, 3) := by decide +kernel
theorem dX7_layChances_15 : decode cX7_layChances 15 = .ok (.iconst 0, 1) := by decide +kernel
theorem dX7_layChances_16 : decode cX7_layChances 16 = .ok (.istore_n 3, 1) := by decide +kernel
theorem dX7_layChances_17 : decode cX7_layChances 17 = .ok (.iload_n 3, 1) := by decide +kernel
theorem dX7_layChances_18 : decode cX7_layChances 18 = .ok (.aload_n 0, 1) := by decide +kernel
theorem dX7_layChances_19 : decode cX7_layChances 19 = .ok (.getfield 111, 3) := by decide +kernel
theorem dX7_layChances_22 : decode cX7_layChances 22 = .ok (.if_icmp .ge 28, 3) := by decide +kernel
theorem dX7_layChances_25 : decode cX7_layChances 25 = .ok (.aload_n 0, 1) := by decide +kernel
theorem dX7_layChances_26 : decode cX7_layChances 26 = .ok (.getfield 43, 3) := by decide +kernel
theorem dX7_layChances_29 : decode cX7_layChances 29 = .ok (.iload_n 3, 1) := by decide +kernel
theorem dX7_layChances_30 : decode cX7_layChances 30 = .ok (.iload_n 2, 1) := by decide +kernel
theorem dX7_layChances_31 : decode cX7_layChances 31 = .ok (.iload_n 3, 1) := by decide +kernel
theorem dX7_layChances_32 : decode cX7_layChances 32 = .ok (.invokestatic 132, 3) := by decide +kernel
theorem dX7_layChances_35 : decode cX7_layChances 35 = .ok (.ifCond .eq 7, 3) := by decide +kernel
theorem dX7_layChances_38 : decode cX7_layChances 38 = .ok (.lconst 1, 1) := by decide +kernel
theorem dX7_layChances_39 : decode cX7_layChances 39 = .ok (.goto 4, 3) := by decide +kernel
theorem dX7_layChances_42 : decode cX7_layChances 42 = .ok (.lconst 0, 1) := by decide +kernel
theorem dX7_layChances_43 : decode cX7_layChances 43 = .ok (.lastore, 1) := by decide +kernel
theorem dX7_layChances_44 : decode cX7_layChances 44 = .ok (.iinc 3 1, 3) := by decide +kernel
theorem dX7_layChances_47 : decode cX7_layChances 47 = .ok (.goto (-30), 3) := by decide +kernel
theorem dX7_layChances_50 : decode cX7_layChances 50 = .ok (.iconst 0, 1) := by decide +kernel
theorem dX7_layChances_51 : decode cX7_layChances 51 = .ok (.istore_n 3, 1) := by decide +kernel
theorem dX7_layChances_52 : decode cX7_layChances 52 = .ok (.iload_n 3, 1) := by decide +kernel
theorem dX7_layChances_53 : decode cX7_layChances 53 = .ok (.iload_n 1, 1) := by decide +kernel
theorem dX7_layChances_54 : decode cX7_layChances 54 = .ok (.if_icmp .ge 133, 3) := by decide +kernel
theorem dX7_layChances_57 : decode cX7_layChances 57 = .ok (.iconst 0, 1) := by decide +kernel
theorem dX7_layChances_58 : decode cX7_layChances 58 = .ok (.istore 4, 2) := by decide +kernel
theorem dX7_layChances_60 : decode cX7_layChances 60 = .ok (.iload 4, 2) := by decide +kernel
theorem dX7_layChances_62 : decode cX7_layChances 62 = .ok (.aload_n 0, 1) := by decide +kernel
theorem dX7_layChances_63 : decode cX7_layChances 63 = .ok (.getfield 111, 3) := by decide +kernel
theorem dX7_layChances_66 : decode cX7_layChances 66 = .ok (.if_icmp .ge 17, 3) := by decide +kernel
theorem dX7_layChances_69 : decode cX7_layChances 69 = .ok (.aload_n 0, 1) := by decide +kernel
theorem dX7_layChances_70 : decode cX7_layChances 70 = .ok (.getfield 47, 3) := by decide +kernel
theorem dX7_layChances_73 : decode cX7_layChances 73 = .ok (.iload 4, 2) := by decide +kernel
theorem dX7_layChances_75 : decode cX7_layChances 75 = .ok (.lconst 0, 1) := by decide +kernel
theorem dX7_layChances_76 : decode cX7_layChances 76 = .ok (.lastore, 1) := by decide +kernel
theorem dX7_layChances_77 : decode cX7_layChances 77 = .ok (.iinc 4 1, 3) := by decide +kernel
theorem dX7_layChances_80 : decode cX7_layChances 80 = .ok (.goto (-20), 3) := by decide +kernel
theorem dX7_layChances_83 : decode cX7_layChances 83 = .ok (.iconst 0, 1) := by decide +kernel
theorem dX7_layChances_84 : decode cX7_layChances 84 = .ok (.istore 4, 2) := by decide +kernel
theorem dX7_layChances_86 : decode cX7_layChances 86 = .ok (.iload 4, 2) := by decide +kernel
theorem dX7_layChances_88 : decode cX7_layChances 88 = .ok (.aload_n 0, 1) := by decide +kernel
theorem dX7_layChances_89 : decode cX7_layChances 89 = .ok (.getfield 111, 3) := by decide +kernel
theorem dX7_layChances_92 : decode cX7_layChances 92 = .ok (.if_icmp .ge 45, 3) := by decide +kernel
theorem dX7_layChances_95 : decode cX7_layChances 95 = .ok (.aload_n 0, 1) := by decide +kernel
theorem dX7_layChances_96 : decode cX7_layChances 96 = .ok (.getfield 13, 3) := by decide +kernel
theorem dX7_layChances_99 : decode cX7_layChances 99 = .ok (.iload 4, 2) := by decide +kernel
theorem dX7_layChances_101 : decode cX7_layChances 101 = .ok (.iaload, 1) := by decide +kernel
theorem dX7_layChances_102 : decode cX7_layChances 102 = .ok (.ifCond .ne 7, 3) := by decide +kernel
theorem dX7_layChances_105 : decode cX7_layChances 105 = .ok (.iload_n 2, 1) := by decide +kernel
theorem dX7_layChances_106 : decode cX7_layChances 106 = .ok (.goto 10, 3) := by decide +kernel
theorem dX7_layChances_109 : decode cX7_layChances 109 = .ok (.aload_n 0, 1) := by decide +kernel
theorem dX7_layChances_110 : decode cX7_layChances 110 = .ok (.getfield 13, 3) := by decide +kernel
theorem dX7_layChances_113 : decode cX7_layChances 113 = .ok (.iload 4, 2) := by decide +kernel
theorem dX7_layChances_115 : decode cX7_layChances 115 = .ok (.iaload, 1) := by decide +kernel
theorem dX7_layChances_116 : decode cX7_layChances 116 = .ok (.istore 5, 2) := by decide +kernel
theorem dX7_layChances_118 : decode cX7_layChances 118 = .ok (.aload_n 0, 1) := by decide +kernel
theorem dX7_layChances_119 : decode cX7_layChances 119 = .ok (.iload 4, 2) := by decide +kernel
theorem dX7_layChances_121 : decode cX7_layChances 121 = .ok (.iload 5, 2) := by decide +kernel
theorem dX7_layChances_123 : decode cX7_layChances 123 = .ok (.iload 5, 2) := by decide +kernel
theorem dX7_layChances_125 : decode cX7_layChances 125 = .ok (.invokestatic 71, 3) := by decide +kernel
theorem dX7_layChances_128 : decode cX7_layChances 128 = .ok (.invokevirtual 244, 3) := by decide +kernel
theorem dX7_layChances_131 : decode cX7_layChances 131 = .ok (.iinc 4 1, 3) := by decide +kernel
theorem dX7_layChances_134 : decode cX7_layChances 134 = .ok (.goto (-48), 3) := by decide +kernel
theorem dX7_layChances_137 : decode cX7_layChances 137 = .ok (.iconst 0, 1) := by decide +kernel
theorem dX7_layChances_138 : decode cX7_layChances 138 = .ok (.istore 4, 2) := by decide +kernel
theorem dX7_layChances_140 : decode cX7_layChances 140 = .ok (.iload 4, 2) := by decide +kernel
theorem dX7_layChances_142 : decode cX7_layChances 142 = .ok (.aload_n 0, 1) := by decide +kernel
theorem dX7_layChances_143 : decode cX7_layChances 143 = .ok (.getfield 111, 3) := by decide +kernel
theorem dX7_layChances_146 : decode cX7_layChances 146 = .ok (.if_icmp .ge 23, 3) := by decide +kernel
theorem dX7_layChances_149 : decode cX7_layChances 149 = .ok (.aload_n 0, 1) := by decide +kernel
theorem dX7_layChances_150 : decode cX7_layChances 150 = .ok (.getfield 43, 3) := by decide +kernel
theorem dX7_layChances_153 : decode cX7_layChances 153 = .ok (.iload 4, 2) := by decide +kernel
theorem dX7_layChances_155 : decode cX7_layChances 155 = .ok (.aload_n 0, 1) := by decide +kernel
theorem dX7_layChances_156 : decode cX7_layChances 156 = .ok (.getfield 47, 3) := by decide +kernel
theorem dX7_layChances_159 : decode cX7_layChances 159 = .ok (.iload 4, 2) := by decide +kernel
theorem dX7_layChances_161 : decode cX7_layChances 161 = .ok (.laload, 1) := by decide +kernel
theorem dX7_layChances_162 : decode cX7_layChances 162 = .ok (.lastore, 1) := by decide +kernel
theorem dX7_layChances_163 : decode cX7_layChances 163 = .ok (.iinc 4 1, 3) := by decide +kernel
theorem dX7_layChances_166 : decode cX7_layChances 166 = .ok (.goto (-26), 3) := by decide +kernel
theorem dX7_layChances_169 : decode cX7_layChances 169 = .ok (.aload_n 0, 1) := by decide +kernel
theorem dX7_layChances_170 : decode cX7_layChances 170 = .ok (.dup, 1) := by decide +kernel
theorem dX7_layChances_171 : decode cX7_layChances 171 = .ok (.getfield 240, 3) := by decide +kernel
theorem dX7_layChances_174 : decode cX7_layChances 174 = .ok (.ldc2_w 248, 3) := by decide +kernel
theorem dX7_layChances_177 : decode cX7_layChances 177 = .ok (.lmul, 1) := by decide +kernel
theorem dX7_layChances_178 : decode cX7_layChances 178 = .ok (.putfield 240, 3) := by decide +kernel
theorem dX7_layChances_181 : decode cX7_layChances 181 = .ok (.iinc 3 1, 3) := by decide +kernel
theorem dX7_layChances_184 : decode cX7_layChances 184 = .ok (.goto (-132), 3) := by decide +kernel
theorem dX7_layChances_187 : decode cX7_layChances 187 = .ok (.return_, 1) := by decide +kernel
theorem dX7_common_0 : decode cX7_common 0 = .ok (.lload_n 0, 1) := by decide +kernel
theorem dX7_common_1 : decode cX7_common 1 = .ok (.lstore 4, 2) := by decide +kernel
theorem dX7_common_3 : decode cX7_common 3 = .ok (.lload_n 2, 1) := by decide +kernel
theorem dX7_common_4 : decode cX7_common 4 = .ok (.lstore 6, 2) := by decide +kernel
theorem dX7_common_6 : decode cX7_common 6 = .ok (.lload 6, 2) := by decide +kernel
theorem dX7_common_8 : decode cX7_common 8 = .ok (.lconst 0, 1) := by decide +kernel
theorem dX7_common_9 : decode cX7_common 9 = .ok (.lcmp, 1) := by decide +kernel
theorem dX7_common_10 : decode cX7_common 10 = .ok (.ifCond .eq 21, 3) := by decide +kernel
theorem dX7_common_13 : decode cX7_common 13 = .ok (.lload 4, 2) := by decide +kernel
theorem dX7_common_15 : decode cX7_common 15 = .ok (.lload 6, 2) := by decide +kernel
theorem dX7_common_17 : decode cX7_common 17 = .ok (.lrem, 1) := by decide +kernel
theorem dX7_common_18 : decode cX7_common 18 = .ok (.lstore 8, 2) := by decide +kernel
theorem dX7_common_20 : decode cX7_common 20 = .ok (.lload 6, 2) := by decide +kernel
theorem dX7_common_22 : decode cX7_common 22 = .ok (.lstore 4, 2) := by decide +kernel
theorem dX7_common_24 : decode cX7_common 24 = .ok (.lload 8, 2) := by decide +kernel
theorem dX7_common_26 : decode cX7_common 26 = .ok (.lstore 6, 2) := by decide +kernel
theorem dX7_common_28 : decode cX7_common 28 = .ok (.goto (-22), 3) := by decide +kernel
theorem dX7_common_31 : decode cX7_common 31 = .ok (.lload 4, 2) := by decide +kernel
theorem dX7_common_33 : decode cX7_common 33 = .ok (.lreturn, 1) := by decide +kernel
theorem dX7_chanceNow_0 : decode cX7_chanceNow 0 = .ok (.aload_n 0, 1) := by decide +kernel
theorem dX7_chanceNow_1 : decode cX7_chanceNow 1 = .ok (.iload_n 2, 1) := by decide +kernel
theorem dX7_chanceNow_2 : decode cX7_chanceNow 2 = .ok (.invokevirtual 250, 3) := by decide +kernel
theorem dX7_chanceNow_5 : decode cX7_chanceNow 5 = .ok (.aload_n 0, 1) := by decide +kernel
theorem dX7_chanceNow_6 : decode cX7_chanceNow 6 = .ok (.getfield 43, 3) := by decide +kernel
theorem dX7_chanceNow_9 : decode cX7_chanceNow 9 = .ok (.iload_n 1, 1) := by decide +kernel
theorem dX7_chanceNow_10 : decode cX7_chanceNow 10 = .ok (.laload, 1) := by decide +kernel
theorem dX7_chanceNow_11 : decode cX7_chanceNow 11 = .ok (.aload_n 0, 1) := by decide +kernel
theorem dX7_chanceNow_12 : decode cX7_chanceNow 12 = .ok (.getfield 240, 3) := by decide +kernel
theorem dX7_chanceNow_15 : decode cX7_chanceNow 15 = .ok (.invokestatic 253, 3) := by decide +kernel
theorem dX7_chanceNow_18 : decode cX7_chanceNow 18 = .ok (.lstore 4, 2) := by decide +kernel
theorem dX7_chanceNow_20 : decode cX7_chanceNow 20 = .ok (.iload_n 3, 1) := by decide +kernel
theorem dX7_chanceNow_21 : decode cX7_chanceNow 21 = .ok (.ifCond .ne 12, 3) := by decide +kernel
theorem dX7_chanceNow_24 : decode cX7_chanceNow 24 = .ok (.aload_n 0, 1) := by decide +kernel
theorem dX7_chanceNow_25 : decode cX7_chanceNow 25 = .ok (.getfield 43, 3) := by decide +kernel
theorem dX7_chanceNow_28 : decode cX7_chanceNow 28 = .ok (.iload_n 1, 1) := by decide +kernel
theorem dX7_chanceNow_29 : decode cX7_chanceNow 29 = .ok (.laload, 1) := by decide +kernel
theorem dX7_chanceNow_30 : decode cX7_chanceNow 30 = .ok (.goto 7, 3) := by decide +kernel
theorem dX7_chanceNow_33 : decode cX7_chanceNow 33 = .ok (.aload_n 0, 1) := by decide +kernel
theorem dX7_chanceNow_34 : decode cX7_chanceNow 34 = .ok (.getfield 240, 3) := by decide +kernel
theorem dX7_chanceNow_37 : decode cX7_chanceNow 37 = .ok (.lload 4, 2) := by decide +kernel
theorem dX7_chanceNow_39 : decode cX7_chanceNow 39 = .ok (.ldiv, 1) := by decide +kernel
theorem dX7_chanceNow_40 : decode cX7_chanceNow 40 = .ok (.l2i, 1) := by decide +kernel
theorem dX7_chanceNow_41 : decode cX7_chanceNow 41 = .ok (.ireturn, 1) := by decide +kernel
theorem dX7_areSeeds_0 : decode cX7_areSeeds 0 = .ok (.aload_n 0, 1) := by decide +kernel
theorem dX7_areSeeds_1 : decode cX7_areSeeds 1 = .ok (.iconst 1, 1) := by decide +kernel
theorem dX7_areSeeds_2 : decode cX7_areSeeds 2 = .ok (.invokevirtual 148, 3) := by decide +kernel
theorem dX7_areSeeds_5 : decode cX7_areSeeds 5 = .ok (.ifCond .eq 7, 3) := by decide +kernel
theorem dX7_areSeeds_8 : decode cX7_areSeeds 8 = .ok (.iconst 1, 1) := by decide +kernel
theorem dX7_areSeeds_9 : decode cX7_areSeeds 9 = .ok (.goto 4, 3) := by decide +kernel
theorem dX7_areSeeds_12 : decode cX7_areSeeds 12 = .ok (.iconst 0, 1) := by decide +kernel
theorem dX7_areSeeds_13 : decode cX7_areSeeds 13 = .ok (.ireturn, 1) := by decide +kernel
theorem dX7_chance_0 : decode cX7_chance 0 = .ok (.aload_n 0, 1) := by decide +kernel
theorem dX7_chance_1 : decode cX7_chance 1 = .ok (.iload_n 1, 1) := by decide +kernel
theorem dX7_chance_2 : decode cX7_chance 2 = .ok (.invokevirtual 145, 3) := by decide +kernel
theorem dX7_chance_5 : decode cX7_chance 5 = .ok (.ifCond .ne 6, 3) := by decide +kernel
theorem dX7_chance_8 : decode cX7_chance 8 = .ok (.bipush (-101), 2) := by decide +kernel
theorem dX7_chance_10 : decode cX7_chance 10 = .ok (.ireturn, 1) := by decide +kernel
theorem dX7_chance_11 : decode cX7_chance 11 = .ok (.iload_n 2, 1) := by decide +kernel
theorem dX7_chance_12 : decode cX7_chance 12 = .ok (.iconst 0, 1) := by decide +kernel
theorem dX7_chance_13 : decode cX7_chance 13 = .ok (.iconst 4, 1) := by decide +kernel
theorem dX7_chance_14 : decode cX7_chance 14 = .ok (.invokestatic 50, 3) := by decide +kernel
theorem dX7_chance_17 : decode cX7_chance 17 = .ok (.ifCond .eq 12, 3) := by decide +kernel
theorem dX7_chance_20 : decode cX7_chance 20 = .ok (.iload_n 3, 1) := by decide +kernel
theorem dX7_chance_21 : decode cX7_chance 21 = .ok (.iconst 0, 1) := by decide +kernel
theorem dX7_chance_22 : decode cX7_chance 22 = .ok (.iconst 1, 1) := by decide +kernel
theorem dX7_chance_23 : decode cX7_chance 23 = .ok (.invokestatic 50, 3) := by decide +kernel
theorem dX7_chance_26 : decode cX7_chance 26 = .ok (.ifCond .ne 6, 3) := by decide +kernel
theorem dX7_chance_29 : decode cX7_chance 29 = .ok (.bipush (-102), 2) := by decide +kernel
theorem dX7_chance_31 : decode cX7_chance 31 = .ok (.ireturn, 1) := by decide +kernel
theorem dX7_chance_32 : decode cX7_chance 32 = .ok (.aload_n 0, 1) := by decide +kernel
theorem dX7_chance_33 : decode cX7_chance 33 = .ok (.invokevirtual 257, 3) := by decide +kernel
theorem dX7_chance_36 : decode cX7_chance 36 = .ok (.ifCond .eq 13, 3) := by decide +kernel
theorem dX7_chance_39 : decode cX7_chance 39 = .ok (.aload_n 0, 1) := by decide +kernel
theorem dX7_chance_40 : decode cX7_chance 40 = .ok (.iload_n 1, 1) := by decide +kernel
theorem dX7_chance_41 : decode cX7_chance 41 = .ok (.iload_n 2, 1) := by decide +kernel
theorem dX7_chance_42 : decode cX7_chance 42 = .ok (.iload_n 3, 1) := by decide +kernel
theorem dX7_chance_43 : decode cX7_chance 43 = .ok (.invokevirtual 260, 3) := by decide +kernel
theorem dX7_chance_46 : decode cX7_chance 46 = .ok (.goto 5, 3) := by decide +kernel
theorem dX7_chance_49 : decode cX7_chance 49 = .ok (.bipush (-103), 2) := by decide +kernel
theorem dX7_chance_51 : decode cX7_chance 51 = .ok (.ireturn, 1) := by decide +kernel
theorem dX7_thousandthsNow_0 : decode cX7_thousandthsNow 0 = .ok (.aload_n 0, 1) := by decide +kernel
theorem dX7_thousandthsNow_1 : decode cX7_thousandthsNow 1 = .ok (.iload_n 2, 1) := by decide +kernel
theorem dX7_thousandthsNow_2 : decode cX7_thousandthsNow 2 = .ok (.invokevirtual 250, 3) := by decide +kernel
theorem dX7_thousandthsNow_5 : decode cX7_thousandthsNow 5 = .ok (.ldc2_w 263, 3) := by decide +kernel
theorem dX7_thousandthsNow_8 : decode cX7_thousandthsNow 8 = .ok (.aload_n 0, 1) := by decide +kernel
theorem dX7_thousandthsNow_9 : decode cX7_thousandthsNow 9 = .ok (.getfield 43, 3) := by decide +kernel
theorem dX7_thousandthsNow_12 : decode cX7_thousandthsNow 12 = .ok (.iload_n 1, 1) := by decide +kernel
theorem dX7_thousandthsNow_13 : decode cX7_thousandthsNow 13 = .ok (.laload, 1) := by decide +kernel
theorem dX7_thousandthsNow_14 : decode cX7_thousandthsNow 14 = .ok (.lmul, 1) := by decide +kernel
theorem dX7_thousandthsNow_15 : decode cX7_thousandthsNow 15 = .ok (.aload_n 0, 1) := by decide +kernel
theorem dX7_thousandthsNow_16 : decode cX7_thousandthsNow 16 = .ok (.getfield 240, 3) := by decide +kernel
theorem dX7_thousandthsNow_19 : decode cX7_thousandthsNow 19 = .ok (.ldiv, 1) := by decide +kernel
theorem dX7_thousandthsNow_20 : decode cX7_thousandthsNow 20 = .ok (.l2i, 1) := by decide +kernel
theorem dX7_thousandthsNow_21 : decode cX7_thousandthsNow 21 = .ok (.ireturn, 1) := by decide +kernel
theorem dX7_thousandths_0 : decode cX7_thousandths 0 = .ok (.aload_n 0, 1) := by decide +kernel
theorem dX7_thousandths_1 : decode cX7_thousandths 1 = .ok (.iload_n 1, 1) := by decide +kernel
theorem dX7_thousandths_2 : decode cX7_thousandths 2 = .ok (.invokevirtual 145, 3) := by decide +kernel
theorem dX7_thousandths_5 : decode cX7_thousandths 5 = .ok (.ifCond .ne 6, 3) := by decide +kernel
theorem dX7_thousandths_8 : decode cX7_thousandths 8 = .ok (.bipush (-101), 2) := by decide +kernel
theorem dX7_thousandths_10 : decode cX7_thousandths 10 = .ok (.ireturn, 1) := by decide +kernel
theorem dX7_thousandths_11 : decode cX7_thousandths 11 = .ok (.iload_n 2, 1) := by decide +kernel
theorem dX7_thousandths_12 : decode cX7_thousandths 12 = .ok (.iconst 0, 1) := by decide +kernel
theorem dX7_thousandths_13 : decode cX7_thousandths 13 = .ok (.iconst 4, 1) := by decide +kernel
theorem dX7_thousandths_14 : decode cX7_thousandths 14 = .ok (.invokestatic 50, 3) := by decide +kernel
theorem dX7_thousandths_17 : decode cX7_thousandths 17 = .ok (.ifCond .ne 6, 3) := by decide +kernel
theorem dX7_thousandths_20 : decode cX7_thousandths 20 = .ok (.bipush (-102), 2) := by decide +kernel
theorem dX7_thousandths_22 : decode cX7_thousandths 22 = .ok (.ireturn, 1) := by decide +kernel
theorem dX7_thousandths_23 : decode cX7_thousandths 23 = .ok (.aload_n 0, 1) := by decide +kernel
theorem dX7_thousandths_24 : decode cX7_thousandths 24 = .ok (.invokevirtual 257, 3) := by decide +kernel
theorem dX7_thousandths_27 : decode cX7_thousandths 27 = .ok (.ifCond .eq 12, 3) := by decide +kernel
theorem dX7_thousandths_30 : decode cX7_thousandths 30 = .ok (.aload_n 0, 1) := by decide +kernel
theorem dX7_thousandths_31 : decode cX7_thousandths 31 = .ok (.iload_n 1, 1) := by decide +kernel
theorem dX7_thousandths_32 : decode cX7_thousandths 32 = .ok (.iload_n 2, 1) := by decide +kernel
theorem dX7_thousandths_33 : decode cX7_thousandths 33 = .ok (.invokevirtual 265, 3) := by decide +kernel
theorem dX7_thousandths_36 : decode cX7_thousandths 36 = .ok (.goto 5, 3) := by decide +kernel
theorem dX7_thousandths_39 : decode cX7_thousandths 39 = .ok (.bipush (-103), 2) := by decide +kernel
theorem dX7_thousandths_41 : decode cX7_thousandths 41 = .ok (.ireturn, 1) := by decide +kernel
theorem dX7_placeOf_0 : decode cX7_placeOf 0 = .ok (.iconst 0, 1) := by decide +kernel
theorem dX7_placeOf_1 : decode cX7_placeOf 1 = .ok (.istore_n 2, 1) := by decide +kernel
theorem dX7_placeOf_2 : decode cX7_placeOf 2 = .ok (.iconst 0, 1) := by decide +kernel
theorem dX7_placeOf_3 : decode cX7_placeOf 3 = .ok (.istore_n 3, 1) := by decide +kernel
theorem dX7_placeOf_4 : decode cX7_placeOf 4 = .ok (.iload_n 3, 1) := by decide +kernel
theorem dX7_placeOf_5 : decode cX7_placeOf 5 = .ok (.aload_n 0, 1) := by decide +kernel
theorem dX7_placeOf_6 : decode cX7_placeOf 6 = .ok (.getfield 111, 3) := by decide +kernel
theorem dX7_placeOf_9 : decode cX7_placeOf 9 = .ok (.if_icmp .ge 66, 3) := by decide +kernel
theorem dX7_placeOf_12 : decode cX7_placeOf 12 = .ok (.aload_n 0, 1) := by decide +kernel
theorem dX7_placeOf_13 : decode cX7_placeOf 13 = .ok (.getfield 43, 3) := by decide +kernel
theorem dX7_placeOf_16 : decode cX7_placeOf 16 = .ok (.iload_n 3, 1) := by decide +kernel
theorem dX7_placeOf_17 : decode cX7_placeOf 17 = .ok (.laload, 1) := by decide +kernel
theorem dX7_placeOf_18 : decode cX7_placeOf 18 = .ok (.aload_n 0, 1) := by decide +kernel
theorem dX7_placeOf_19 : decode cX7_placeOf 19 = .ok (.getfield 43, 3) := by decide +kernel
theorem dX7_placeOf_22 : decode cX7_placeOf 22 = .ok (.iload_n 1, 1) := by decide +kernel
theorem dX7_placeOf_23 : decode cX7_placeOf 23 = .ok (.laload, 1) := by decide +kernel
theorem dX7_placeOf_24 : decode cX7_placeOf 24 = .ok (.lcmp, 1) := by decide +kernel
theorem dX7_placeOf_25 : decode cX7_placeOf 25 = .ok (.ifCond .gt 24, 3) := by decide +kernel
theorem dX7_placeOf_28 : decode cX7_placeOf 28 = .ok (.aload_n 0, 1) := by decide +kernel
theorem dX7_placeOf_29 : decode cX7_placeOf 29 = .ok (.getfield 43, 3) := by decide +kernel
theorem dX7_placeOf_32 : decode cX7_placeOf 32 = .ok (.iload_n 3, 1) := by decide +kernel
theorem dX7_placeOf_33 : decode cX7_placeOf 33 = .ok (.laload, 1) := by decide +kernel
theorem dX7_placeOf_34 : decode cX7_placeOf 34 = .ok (.aload_n 0, 1) := by decide +kernel
theorem dX7_placeOf_35 : decode cX7_placeOf 35 = .ok (.getfield 43, 3) := by decide +kernel
theorem dX7_placeOf_38 : decode cX7_placeOf 38 = .ok (.iload_n 1, 1) := by decide +kernel
theorem dX7_placeOf_39 : decode cX7_placeOf 39 = .ok (.laload, 1) := by decide +kernel
theorem dX7_placeOf_40 : decode cX7_placeOf 40 = .ok (.lcmp, 1) := by decide +kernel
theorem dX7_placeOf_41 : decode cX7_placeOf 41 = .ok (.ifCond .ne 12, 3) := by decide +kernel
theorem dX7_placeOf_44 : decode cX7_placeOf 44 = .ok (.iload_n 3, 1) := by decide +kernel
theorem dX7_placeOf_45 : decode cX7_placeOf 45 = .ok (.iload_n 1, 1) := by decide +kernel
theorem dX7_placeOf_46 : decode cX7_placeOf 46 = .ok (.if_icmp .ge 7, 3) := by decide +kernel
theorem dX7_placeOf_49 : decode cX7_placeOf 49 = .ok (.iconst 1, 1) := by decide +kernel
theorem dX7_placeOf_50 : decode cX7_placeOf 50 = .ok (.goto 4, 3) := by decide +kernel
theorem dX7_placeOf_53 : decode cX7_placeOf 53 = .ok (.iconst 0, 1) := by decide +kernel
theorem dX7_placeOf_54 : decode cX7_placeOf 54 = .ok (.istore 4, 2) := by decide +kernel
theorem dX7_placeOf_56 : decode cX7_placeOf 56 = .ok (.iload_n 2, 1) := by decide +kernel
theorem dX7_placeOf_57 : decode cX7_placeOf 57 = .ok (.iload 4, 2) := by decide +kernel
theorem dX7_placeOf_59 : decode cX7_placeOf 59 = .ok (.ifCond .eq 7, 3) := by decide +kernel
theorem dX7_placeOf_62 : decode cX7_placeOf 62 = .ok (.iconst 1, 1) := by decide +kernel
theorem dX7_placeOf_63 : decode cX7_placeOf 63 = .ok (.goto 4, 3) := by decide +kernel
theorem dX7_placeOf_66 : decode cX7_placeOf 66 = .ok (.iconst 0, 1) := by decide +kernel
theorem dX7_placeOf_67 : decode cX7_placeOf 67 = .ok (.iadd, 1) := by decide +kernel
theorem dX7_placeOf_68 : decode cX7_placeOf 68 = .ok (.istore_n 2, 1) := by decide +kernel
theorem dX7_placeOf_69 : decode cX7_placeOf 69 = .ok (.iinc 3 1, 3) := by decide +kernel
theorem dX7_placeOf_72 : decode cX7_placeOf 72 = .ok (.goto (-68), 3) := by decide +kernel
theorem dX7_placeOf_75 : decode cX7_placeOf 75 = .ok (.iload_n 2, 1) := by decide +kernel
theorem dX7_placeOf_76 : decode cX7_placeOf 76 = .ok (.ireturn, 1) := by decide +kernel
theorem dX7_orderNow_0 : decode cX7_orderNow 0 = .ok (.aload_n 0, 1) := by decide +kernel
theorem dX7_orderNow_1 : decode cX7_orderNow 1 = .ok (.iload_n 1, 1) := by decide +kernel
theorem dX7_orderNow_2 : decode cX7_orderNow 2 = .ok (.invokevirtual 250, 3) := by decide +kernel
theorem dX7_orderNow_5 : decode cX7_orderNow 5 = .ok (.iconst 0, 1) := by decide +kernel
theorem dX7_orderNow_6 : decode cX7_orderNow 6 = .ok (.istore_n 3, 1) := by decide +kernel
theorem dX7_orderNow_7 : decode cX7_orderNow 7 = .ok (.aload_n 0, 1) := by decide +kernel
theorem dX7_orderNow_8 : decode cX7_orderNow 8 = .ok (.iload_n 3, 1) := by decide +kernel
theorem dX7_orderNow_9 : decode cX7_orderNow 9 = .ok (.invokevirtual 268, 3) := by decide +kernel
theorem dX7_orderNow_12 : decode cX7_orderNow 12 = .ok (.iload_n 2, 1) := by decide +kernel
theorem dX7_orderNow_13 : decode cX7_orderNow 13 = .ok (.if_icmp .eq 9, 3) := by decide +kernel
theorem dX7_orderNow_16 : decode cX7_orderNow 16 = .ok (.iinc 3 1, 3) := by decide +kernel
theorem dX7_orderNow_19 : decode cX7_orderNow 19 = .ok (.goto (-12), 3) := by decide +kernel
theorem dX7_orderNow_22 : decode cX7_orderNow 22 = .ok (.iload_n 3, 1) := by decide +kernel
theorem dX7_orderNow_23 : decode cX7_orderNow 23 = .ok (.ireturn, 1) := by decide +kernel
theorem dX7_order_0 : decode cX7_order 0 = .ok (.iload_n 1, 1) := by decide +kernel
theorem dX7_order_1 : decode cX7_order 1 = .ok (.iconst 0, 1) := by decide +kernel
theorem dX7_order_2 : decode cX7_order 2 = .ok (.iconst 4, 1) := by decide +kernel
theorem dX7_order_3 : decode cX7_order 3 = .ok (.invokestatic 50, 3) := by decide +kernel
theorem dX7_order_6 : decode cX7_order 6 = .ok (.ifCond .ne 6, 3) := by decide +kernel
theorem dX7_order_9 : decode cX7_order 9 = .ok (.bipush (-102), 2) := by decide +kernel
theorem dX7_order_11 : decode cX7_order 11 = .ok (.ireturn, 1) := by decide +kernel
theorem dX7_order_12 : decode cX7_order 12 = .ok (.aload_n 0, 1) := by decide +kernel
theorem dX7_order_13 : decode cX7_order 13 = .ok (.invokevirtual 139, 3) := by decide +kernel
theorem dX7_order_16 : decode cX7_order 16 = .ok (.ifCond .eq 10, 3) := by decide +kernel
theorem dX7_order_19 : decode cX7_order 19 = .ok (.aload_n 0, 1) := by decide +kernel
theorem dX7_order_20 : decode cX7_order 20 = .ok (.invokevirtual 257, 3) := by decide +kernel
theorem dX7_order_23 : decode cX7_order 23 = .ok (.ifCond .ne 6, 3) := by decide +kernel
theorem dX7_order_26 : decode cX7_order 26 = .ok (.bipush (-103), 2) := by decide +kernel
theorem dX7_order_28 : decode cX7_order 28 = .ok (.ireturn, 1) := by decide +kernel
theorem dX7_order_29 : decode cX7_order 29 = .ok (.aload_n 0, 1) := by decide +kernel
theorem dX7_order_30 : decode cX7_order 30 = .ok (.iload_n 2, 1) := by decide +kernel
theorem dX7_order_31 : decode cX7_order 31 = .ok (.invokevirtual 145, 3) := by decide +kernel
theorem dX7_order_34 : decode cX7_order 34 = .ok (.ifCond .eq 12, 3) := by decide +kernel
theorem dX7_order_37 : decode cX7_order 37 = .ok (.aload_n 0, 1) := by decide +kernel
theorem dX7_order_38 : decode cX7_order 38 = .ok (.iload_n 1, 1) := by decide +kernel
theorem dX7_order_39 : decode cX7_order 39 = .ok (.iload_n 2, 1) := by decide +kernel
theorem dX7_order_40 : decode cX7_order 40 = .ok (.invokevirtual 271, 3) := by decide +kernel
theorem dX7_order_43 : decode cX7_order 43 = .ok (.goto 5, 3) := by decide +kernel
theorem dX7_order_46 : decode cX7_order 46 = .ok (.bipush (-101), 2) := by decide +kernel
theorem dX7_order_48 : decode cX7_order 48 = .ok (.ireturn, 1) := by decide +kernel
theorem dX7_howMany_0 : decode cX7_howMany 0 = .ok (.iload_n 1, 1) := by decide +kernel
theorem dX7_howMany_1 : decode cX7_howMany 1 = .ok (.tableswitch 60 0 4 #[35, 40, 45, 50, 55], 35) := by decide +kernel
theorem dX7_howMany_36 : decode cX7_howMany 36 = .ok (.aload_n 0, 1) := by decide +kernel
theorem dX7_howMany_37 : decode cX7_howMany 37 = .ok (.getfield 111, 3) := by decide +kernel
theorem dX7_howMany_40 : decode cX7_howMany 40 = .ok (.ireturn, 1) := by decide +kernel
theorem dX7_howMany_41 : decode cX7_howMany 41 = .ok (.aload_n 0, 1) := by decide +kernel
theorem dX7_howMany_42 : decode cX7_howMany 42 = .ok (.getfield 54, 3) := by decide +kernel
theorem dX7_howMany_45 : decode cX7_howMany 45 = .ok (.ireturn, 1) := by decide +kernel
theorem dX7_howMany_46 : decode cX7_howMany 46 = .ok (.aload_n 0, 1) := by decide +kernel
theorem dX7_howMany_47 : decode cX7_howMany 47 = .ok (.getfield 117, 3) := by decide +kernel
theorem dX7_howMany_50 : decode cX7_howMany 50 = .ok (.ireturn, 1) := by decide +kernel
theorem dX7_howMany_51 : decode cX7_howMany 51 = .ok (.aload_n 0, 1) := by decide +kernel
theorem dX7_howMany_52 : decode cX7_howMany 52 = .ok (.getfield 154, 3) := by decide +kernel
theorem dX7_howMany_55 : decode cX7_howMany 55 = .ok (.ireturn, 1) := by decide +kernel
theorem dX7_howMany_56 : decode cX7_howMany 56 = .ok (.aload_n 0, 1) := by decide +kernel
theorem dX7_howMany_57 : decode cX7_howMany 57 = .ok (.getfield 157, 3) := by decide +kernel
theorem dX7_howMany_60 : decode cX7_howMany 60 = .ok (.ireturn, 1) := by decide +kernel
theorem dX7_howMany_61 : decode cX7_howMany 61 = .ok (.bipush (-102), 2) := by decide +kernel
theorem dX7_howMany_63 : decode cX7_howMany 63 = .ok (.ireturn, 1) := by decide +kernel
theorem dX7_count_0 : decode cX7_count 0 = .ok (.aload_n 0, 1) := by decide +kernel
theorem dX7_count_1 : decode cX7_count 1 = .ok (.iload_n 1, 1) := by decide +kernel
theorem dX7_count_2 : decode cX7_count 2 = .ok (.invokevirtual 274, 3) := by decide +kernel
theorem dX7_count_5 : decode cX7_count 5 = .ok (.ireturn, 1) := by decide +kernel
theorem dX7_mix_0 : decode cX7_mix 0 = .ok (.aload_n 0, 1) := by decide +kernel
theorem dX7_mix_1 : decode cX7_mix 1 = .ok (.ldc2_w 277, 3) := by decide +kernel
theorem dX7_mix_4 : decode cX7_mix 4 = .ok (.aload_n 0, 1) := by decide +kernel
theorem dX7_mix_5 : decode cX7_mix 5 = .ok (.getfield 279, 3) := by decide +kernel
theorem dX7_mix_8 : decode cX7_mix 8 = .ok (.lmul, 1) := by decide +kernel
theorem dX7_mix_9 : decode cX7_mix 9 = .ok (.lload_n 1, 1) := by decide +kernel
theorem dX7_mix_10 : decode cX7_mix 10 = .ok (.ladd, 1) := by decide +kernel
theorem dX7_mix_11 : decode cX7_mix 11 = .ok (.putfield 279, 3) := by decide +kernel
theorem dX7_mix_14 : decode cX7_mix 14 = .ok (.return_, 1) := by decide +kernel
theorem dX7_mixInk_0 : decode cX7_mixInk 0 = .ok (.iconst 0, 1) := by decide +kernel
theorem dX7_mixInk_1 : decode cX7_mixInk 1 = .ok (.istore_n 1, 1) := by decide +kernel
theorem dX7_mixInk_2 : decode cX7_mixInk 2 = .ok (.aload_n 0, 1) := by decide +kernel
theorem dX7_mixInk_3 : decode cX7_mixInk 3 = .ok (.iload_n 1, 1) := by decide +kernel
theorem dX7_mixInk_4 : decode cX7_mixInk 4 = .ok (.invokevirtual 142, 3) := by decide +kernel
theorem dX7_mixInk_7 : decode cX7_mixInk 7 = .ok (.iconst (-1), 1) := by decide +kernel
theorem dX7_mixInk_8 : decode cX7_mixInk 8 = .ok (.if_icmp .eq 19, 3) := by decide +kernel
theorem dX7_mixInk_11 : decode cX7_mixInk 11 = .ok (.aload_n 0, 1) := by decide +kernel
theorem dX7_mixInk_12 : decode cX7_mixInk 12 = .ok (.aload_n 0, 1) := by decide +kernel
theorem dX7_mixInk_13 : decode cX7_mixInk 13 = .ok (.iload_n 1, 1) := by decide +kernel
theorem dX7_mixInk_14 : decode cX7_mixInk 14 = .ok (.invokevirtual 142, 3) := by decide +kernel
theorem dX7_mixInk_17 : decode cX7_mixInk 17 = .ok (.i2l, 1) := by decide +kernel
theorem dX7_mixInk_18 : decode cX7_mixInk 18 = .ok (.invokevirtual 282, 3) := by decide +kernel
theorem dX7_mixInk_21 : decode cX7_mixInk 21 = .ok (.iinc 1 1, 3) := by decide +kernel
theorem dX7_mixInk_24 : decode cX7_mixInk 24 = .ok (.goto (-22), 3) := by decide +kernel
theorem dX7_mixInk_27 : decode cX7_mixInk 27 = .ok (.return_, 1) := by decide +kernel
theorem dX7_mixPersons_0 : decode cX7_mixPersons 0 = .ok (.iconst 0, 1) := by decide +kernel
theorem dX7_mixPersons_1 : decode cX7_mixPersons 1 = .ok (.istore_n 1, 1) := by decide +kernel
theorem dX7_mixPersons_2 : decode cX7_mixPersons 2 = .ok (.iload_n 1, 1) := by decide +kernel
theorem dX7_mixPersons_3 : decode cX7_mixPersons 3 = .ok (.bipush 8, 2) := by decide +kernel
theorem dX7_mixPersons_5 : decode cX7_mixPersons 5 = .ok (.if_icmp .ge 19, 3) := by decide +kernel
theorem dX7_mixPersons_8 : decode cX7_mixPersons 8 = .ok (.aload_n 0, 1) := by decide +kernel
theorem dX7_mixPersons_9 : decode cX7_mixPersons 9 = .ok (.aload_n 0, 1) := by decide +kernel
theorem dX7_mixPersons_10 : decode cX7_mixPersons 10 = .ok (.iload_n 1, 1) := by decide +kernel
theorem dX7_mixPersons_11 : decode cX7_mixPersons 11 = .ok (.invokevirtual 184, 3) := by decide +kernel
theorem dX7_mixPersons_14 : decode cX7_mixPersons 14 = .ok (.i2l, 1) := by decide +kernel
theorem dX7_mixPersons_15 : decode cX7_mixPersons 15 = .ok (.invokevirtual 282, 3) := by decide +kernel
theorem dX7_mixPersons_18 : decode cX7_mixPersons 18 = .ok (.iinc 1 1, 3) := by decide +kernel
theorem dX7_mixPersons_21 : decode cX7_mixPersons 21 = .ok (.goto (-19), 3) := by decide +kernel
theorem dX7_mixPersons_24 : decode cX7_mixPersons 24 = .ok (.iconst 0, 1) := by decide +kernel
theorem dX7_mixPersons_25 : decode cX7_mixPersons 25 = .ok (.istore_n 1, 1) := by decide +kernel
theorem dX7_mixPersons_26 : decode cX7_mixPersons 26 = .ok (.iload_n 1, 1) := by decide +kernel
theorem dX7_mixPersons_27 : decode cX7_mixPersons 27 = .ok (.aload_n 0, 1) := by decide +kernel
theorem dX7_mixPersons_28 : decode cX7_mixPersons 28 = .ok (.getfield 111, 3) := by decide +kernel
theorem dX7_mixPersons_31 : decode cX7_mixPersons 31 = .ok (.if_icmp .ge 44, 3) := by decide +kernel
theorem dX7_mixPersons_34 : decode cX7_mixPersons 34 = .ok (.iconst 0, 1) := by decide +kernel
theorem dX7_mixPersons_35 : decode cX7_mixPersons 35 = .ok (.istore_n 2, 1) := by decide +kernel
theorem dX7_mixPersons_36 : decode cX7_mixPersons 36 = .ok (.iload_n 2, 1) := by decide +kernel
theorem dX7_mixPersons_37 : decode cX7_mixPersons 37 = .ok (.bipush 8, 2) := by decide +kernel
theorem dX7_mixPersons_39 : decode cX7_mixPersons 39 = .ok (.if_icmp .ge 20, 3) := by decide +kernel
theorem dX7_mixPersons_42 : decode cX7_mixPersons 42 = .ok (.aload_n 0, 1) := by decide +kernel
theorem dX7_mixPersons_43 : decode cX7_mixPersons 43 = .ok (.aload_n 0, 1) := by decide +kernel
theorem dX7_mixPersons_44 : decode cX7_mixPersons 44 = .ok (.iload_n 1, 1) := by decide +kernel
theorem dX7_mixPersons_45 : decode cX7_mixPersons 45 = .ok (.iload_n 2, 1) := by decide +kernel
theorem dX7_mixPersons_46 : decode cX7_mixPersons 46 = .ok (.invokevirtual 202, 3) := by decide +kernel
theorem dX7_mixPersons_49 : decode cX7_mixPersons 49 = .ok (.i2l, 1) := by decide +kernel
theorem dX7_mixPersons_50 : decode cX7_mixPersons 50 = .ok (.invokevirtual 282, 3) := by decide +kernel
theorem dX7_mixPersons_53 : decode cX7_mixPersons 53 = .ok (.iinc 2 1, 3) := by decide +kernel
theorem dX7_mixPersons_56 : decode cX7_mixPersons 56 = .ok (.goto (-20), 3) := by decide +kernel
theorem dX7_mixPersons_59 : decode cX7_mixPersons 59 = .ok (.aload_n 0, 1) := by decide +kernel
theorem dX7_mixPersons_60 : decode cX7_mixPersons 60 = .ok (.aload_n 0, 1) := by decide +kernel
theorem dX7_mixPersons_61 : decode cX7_mixPersons 61 = .ok (.iload_n 1, 1) := by decide +kernel
theorem dX7_mixPersons_62 : decode cX7_mixPersons 62 = .ok (.invokevirtual 199, 3) := by decide +kernel
theorem dX7_mixPersons_65 : decode cX7_mixPersons 65 = .ok (.i2l, 1) := by decide +kernel
theorem dX7_mixPersons_66 : decode cX7_mixPersons 66 = .ok (.invokevirtual 282, 3) := by decide +kernel
theorem dX7_mixPersons_69 : decode cX7_mixPersons 69 = .ok (.iinc 1 1, 3) := by decide +kernel
theorem dX7_mixPersons_72 : decode cX7_mixPersons 72 = .ok (.goto (-46), 3) := by decide +kernel
theorem dX7_mixPersons_75 : decode cX7_mixPersons 75 = .ok (.aload_n 0, 1) := by decide +kernel
theorem dX7_mixPersons_76 : decode cX7_mixPersons 76 = .ok (.aload_n 0, 1) := by decide +kernel
theorem dX7_mixPersons_77 : decode cX7_mixPersons 77 = .ok (.invokevirtual 206, 3) := by decide +kernel
theorem dX7_mixPersons_80 : decode cX7_mixPersons 80 = .ok (.i2l, 1) := by decide +kernel
theorem dX7_mixPersons_81 : decode cX7_mixPersons 81 = .ok (.invokevirtual 282, 3) := by decide +kernel
theorem dX7_mixPersons_84 : decode cX7_mixPersons 84 = .ok (.return_, 1) := by decide +kernel
theorem dX7_mixTrust_0 : decode cX7_mixTrust 0 = .ok (.iconst 0, 1) := by decide +kernel
theorem dX7_mixTrust_1 : decode cX7_mixTrust 1 = .ok (.istore_n 1, 1) := by decide +kernel
theorem dX7_mixTrust_2 : decode cX7_mixTrust 2 = .ok (.iload_n 1, 1) := by decide +kernel
theorem dX7_mixTrust_3 : decode cX7_mixTrust 3 = .ok (.iconst 5, 1) := by decide +kernel
theorem dX7_mixTrust_4 : decode cX7_mixTrust 4 = .ok (.if_icmp .ge 19, 3) := by decide +kernel
theorem dX7_mixTrust_7 : decode cX7_mixTrust 7 = .ok (.aload_n 0, 1) := by decide +kernel
theorem dX7_mixTrust_8 : decode cX7_mixTrust 8 = .ok (.aload_n 0, 1) := by decide +kernel
theorem dX7_mixTrust_9 : decode cX7_mixTrust 9 = .ok (.iload_n 1, 1) := by decide +kernel
theorem dX7_mixTrust_10 : decode cX7_mixTrust 10 = .ok (.invokevirtual 215, 3) := by decide +kernel
theorem dX7_mixTrust_13 : decode cX7_mixTrust 13 = .ok (.i2l, 1) := by decide +kernel
theorem dX7_mixTrust_14 : decode cX7_mixTrust 14 = .ok (.invokevirtual 282, 3) := by decide +kernel
theorem dX7_mixTrust_17 : decode cX7_mixTrust 17 = .ok (.iinc 1 1, 3) := by decide +kernel
theorem dX7_mixTrust_20 : decode cX7_mixTrust 20 = .ok (.goto (-18), 3) := by decide +kernel
theorem dX7_mixTrust_23 : decode cX7_mixTrust 23 = .ok (.iconst 0, 1) := by decide +kernel
theorem dX7_mixTrust_24 : decode cX7_mixTrust 24 = .ok (.istore_n 1, 1) := by decide +kernel
theorem dX7_mixTrust_25 : decode cX7_mixTrust 25 = .ok (.iload_n 1, 1) := by decide +kernel
theorem dX7_mixTrust_26 : decode cX7_mixTrust 26 = .ok (.iconst 3, 1) := by decide +kernel
theorem dX7_mixTrust_27 : decode cX7_mixTrust 27 = .ok (.if_icmp .ge 19, 3) := by decide +kernel
theorem dX7_mixTrust_30 : decode cX7_mixTrust 30 = .ok (.aload_n 0, 1) := by decide +kernel
theorem dX7_mixTrust_31 : decode cX7_mixTrust 31 = .ok (.aload_n 0, 1) := by decide +kernel
theorem dX7_mixTrust_32 : decode cX7_mixTrust 32 = .ok (.iload_n 1, 1) := by decide +kernel
theorem dX7_mixTrust_33 : decode cX7_mixTrust 33 = .ok (.invokevirtual 227, 3) := by decide +kernel
theorem dX7_mixTrust_36 : decode cX7_mixTrust 36 = .ok (.i2l, 1) := by decide +kernel
theorem dX7_mixTrust_37 : decode cX7_mixTrust 37 = .ok (.invokevirtual 282, 3) := by decide +kernel
theorem dX7_mixTrust_40 : decode cX7_mixTrust 40 = .ok (.iinc 1 1, 3) := by decide +kernel
theorem dX7_mixTrust_43 : decode cX7_mixTrust 43 = .ok (.goto (-18), 3) := by decide +kernel
theorem dX7_mixTrust_46 : decode cX7_mixTrust 46 = .ok (.aload_n 0, 1) := by decide +kernel
theorem dX7_mixTrust_47 : decode cX7_mixTrust 47 = .ok (.invokevirtual 237, 3) := by decide +kernel
theorem dX7_mixTrust_50 : decode cX7_mixTrust 50 = .ok (.istore_n 1, 1) := by decide +kernel
theorem dX7_mixTrust_51 : decode cX7_mixTrust 51 = .ok (.aload_n 0, 1) := by decide +kernel
theorem dX7_mixTrust_52 : decode cX7_mixTrust 52 = .ok (.iload_n 1, 1) := by decide +kernel
theorem dX7_mixTrust_53 : decode cX7_mixTrust 53 = .ok (.i2l, 1) := by decide +kernel
theorem dX7_mixTrust_54 : decode cX7_mixTrust 54 = .ok (.invokevirtual 282, 3) := by decide +kernel
theorem dX7_mixTrust_57 : decode cX7_mixTrust 57 = .ok (.iconst 0, 1) := by decide +kernel
theorem dX7_mixTrust_58 : decode cX7_mixTrust 58 = .ok (.istore_n 2, 1) := by decide +kernel
theorem dX7_mixTrust_59 : decode cX7_mixTrust 59 = .ok (.iload_n 2, 1) := by decide +kernel
theorem dX7_mixTrust_60 : decode cX7_mixTrust 60 = .ok (.iconst 3, 1) := by decide +kernel
theorem dX7_mixTrust_61 : decode cX7_mixTrust 61 = .ok (.if_icmp .ge 32, 3) := by decide +kernel
theorem dX7_mixTrust_64 : decode cX7_mixTrust 64 = .ok (.iload_n 1, 1) := by decide +kernel
theorem dX7_mixTrust_65 : decode cX7_mixTrust 65 = .ok (.iconst (-1), 1) := by decide +kernel
theorem dX7_mixTrust_66 : decode cX7_mixTrust 66 = .ok (.if_icmp .eq 27, 3) := by decide +kernel
theorem dX7_mixTrust_69 : decode cX7_mixTrust 69 = .ok (.aload_n 0, 1) := by decide +kernel
theorem dX7_mixTrust_70 : decode cX7_mixTrust 70 = .ok (.aload_n 0, 1) := by decide +kernel
theorem dX7_mixTrust_71 : decode cX7_mixTrust 71 = .ok (.iload_n 1, 1) := by decide +kernel
theorem dX7_mixTrust_72 : decode cX7_mixTrust 72 = .ok (.bipush 10, 2) := by decide +kernel
theorem dX7_mixTrust_74 : decode cX7_mixTrust 74 = .ok (.idiv, 1) := by decide +kernel
theorem dX7_mixTrust_75 : decode cX7_mixTrust 75 = .ok (.iload_n 1, 1) := by decide +kernel
theorem dX7_mixTrust_76 : decode cX7_mixTrust 76 = .ok (.bipush 10, 2) := by decide +kernel
theorem dX7_mixTrust_78 : decode cX7_mixTrust 78 = .ok (.irem, 1) := by decide +kernel
theorem dX7_mixTrust_79 : decode cX7_mixTrust 79 = .ok (.iload_n 2, 1) := by decide +kernel
theorem dX7_mixTrust_80 : decode cX7_mixTrust 80 = .ok (.invokevirtual 233, 3) := by decide +kernel
theorem dX7_mixTrust_83 : decode cX7_mixTrust 83 = .ok (.i2l, 1) := by decide +kernel
theorem dX7_mixTrust_84 : decode cX7_mixTrust 84 = .ok (.invokevirtual 282, 3) := by decide +kernel
theorem dX7_mixTrust_87 : decode cX7_mixTrust 87 = .ok (.iinc 2 1, 3) := by decide +kernel
theorem dX7_mixTrust_90 : decode cX7_mixTrust 90 = .ok (.goto (-31), 3) := by decide +kernel
theorem dX7_mixTrust_93 : decode cX7_mixTrust 93 = .ok (.return_, 1) := by decide +kernel
theorem dX7_mixWalk_0 : decode cX7_mixWalk 0 = .ok (.iconst 0, 1) := by decide +kernel
theorem dX7_mixWalk_1 : decode cX7_mixWalk 1 = .ok (.istore_n 2, 1) := by decide +kernel
theorem dX7_mixWalk_2 : decode cX7_mixWalk 2 = .ok (.iload_n 2, 1) := by decide +kernel
theorem dX7_mixWalk_3 : decode cX7_mixWalk 3 = .ok (.aload_n 0, 1) := by decide +kernel
theorem dX7_mixWalk_4 : decode cX7_mixWalk 4 = .ok (.getfield 111, 3) := by decide +kernel
theorem dX7_mixWalk_7 : decode cX7_mixWalk 7 = .ok (.if_icmp .ge 44, 3) := by decide +kernel
theorem dX7_mixWalk_10 : decode cX7_mixWalk 10 = .ok (.aload_n 0, 1) := by decide +kernel
theorem dX7_mixWalk_11 : decode cX7_mixWalk 11 = .ok (.aload_n 0, 1) := by decide +kernel
theorem dX7_mixWalk_12 : decode cX7_mixWalk 12 = .ok (.iload_n 2, 1) := by decide +kernel
theorem dX7_mixWalk_13 : decode cX7_mixWalk 13 = .ok (.iload_n 1, 1) := by decide +kernel
theorem dX7_mixWalk_14 : decode cX7_mixWalk 14 = .ok (.iconst 0, 1) := by decide +kernel
theorem dX7_mixWalk_15 : decode cX7_mixWalk 15 = .ok (.invokevirtual 260, 3) := by decide +kernel
theorem dX7_mixWalk_18 : decode cX7_mixWalk 18 = .ok (.i2l, 1) := by decide +kernel
theorem dX7_mixWalk_19 : decode cX7_mixWalk 19 = .ok (.invokevirtual 282, 3) := by decide +kernel
theorem dX7_mixWalk_22 : decode cX7_mixWalk 22 = .ok (.aload_n 0, 1) := by decide +kernel
theorem dX7_mixWalk_23 : decode cX7_mixWalk 23 = .ok (.aload_n 0, 1) := by decide +kernel
theorem dX7_mixWalk_24 : decode cX7_mixWalk 24 = .ok (.iload_n 2, 1) := by decide +kernel
theorem dX7_mixWalk_25 : decode cX7_mixWalk 25 = .ok (.iload_n 1, 1) := by decide +kernel
theorem dX7_mixWalk_26 : decode cX7_mixWalk 26 = .ok (.iconst 1, 1) := by decide +kernel
theorem dX7_mixWalk_27 : decode cX7_mixWalk 27 = .ok (.invokevirtual 260, 3) := by decide +kernel
theorem dX7_mixWalk_30 : decode cX7_mixWalk 30 = .ok (.i2l, 1) := by decide +kernel
theorem dX7_mixWalk_31 : decode cX7_mixWalk 31 = .ok (.invokevirtual 282, 3) := by decide +kernel
theorem dX7_mixWalk_34 : decode cX7_mixWalk 34 = .ok (.aload_n 0, 1) := by decide +kernel
theorem dX7_mixWalk_35 : decode cX7_mixWalk 35 = .ok (.aload_n 0, 1) := by decide +kernel
theorem dX7_mixWalk_36 : decode cX7_mixWalk 36 = .ok (.iload_n 2, 1) := by decide +kernel
theorem dX7_mixWalk_37 : decode cX7_mixWalk 37 = .ok (.iload_n 1, 1) := by decide +kernel
theorem dX7_mixWalk_38 : decode cX7_mixWalk 38 = .ok (.invokevirtual 265, 3) := by decide +kernel
theorem dX7_mixWalk_41 : decode cX7_mixWalk 41 = .ok (.i2l, 1) := by decide +kernel
theorem dX7_mixWalk_42 : decode cX7_mixWalk 42 = .ok (.invokevirtual 282, 3) := by decide +kernel
theorem dX7_mixWalk_45 : decode cX7_mixWalk 45 = .ok (.iinc 2 1, 3) := by decide +kernel
theorem dX7_mixWalk_48 : decode cX7_mixWalk 48 = .ok (.goto (-46), 3) := by decide +kernel
theorem dX7_mixWalk_51 : decode cX7_mixWalk 51 = .ok (.iconst 0, 1) := by decide +kernel
theorem dX7_mixWalk_52 : decode cX7_mixWalk 52 = .ok (.istore_n 2, 1) := by decide +kernel
theorem dX7_mixWalk_53 : decode cX7_mixWalk 53 = .ok (.iload_n 2, 1) := by decide +kernel
theorem dX7_mixWalk_54 : decode cX7_mixWalk 54 = .ok (.aload_n 0, 1) := by decide +kernel
theorem dX7_mixWalk_55 : decode cX7_mixWalk 55 = .ok (.getfield 111, 3) := by decide +kernel
theorem dX7_mixWalk_58 : decode cX7_mixWalk 58 = .ok (.if_icmp .ge 20, 3) := by decide +kernel
theorem dX7_mixWalk_61 : decode cX7_mixWalk 61 = .ok (.aload_n 0, 1) := by decide +kernel
theorem dX7_mixWalk_62 : decode cX7_mixWalk 62 = .ok (.aload_n 0, 1) := by decide +kernel
theorem dX7_mixWalk_63 : decode cX7_mixWalk 63 = .ok (.iload_n 1, 1) := by decide +kernel
theorem dX7_mixWalk_64 : decode cX7_mixWalk 64 = .ok (.iload_n 2, 1) := by decide +kernel
theorem dX7_mixWalk_65 : decode cX7_mixWalk 65 = .ok (.invokevirtual 271, 3) := by decide +kernel
theorem dX7_mixWalk_68 : decode cX7_mixWalk 68 = .ok (.i2l, 1) := by decide +kernel
theorem dX7_mixWalk_69 : decode cX7_mixWalk 69 = .ok (.invokevirtual 282, 3) := by decide +kernel
theorem dX7_mixWalk_72 : decode cX7_mixWalk 72 = .ok (.iinc 2 1, 3) := by decide +kernel
theorem dX7_mixWalk_75 : decode cX7_mixWalk 75 = .ok (.goto (-22), 3) := by decide +kernel
theorem dX7_mixWalk_78 : decode cX7_mixWalk 78 = .ok (.return_, 1) := by decide +kernel
theorem dX7_digest_0 : decode cX7_digest 0 = .ok (.aload_n 0, 1) := by decide +kernel
theorem dX7_digest_1 : decode cX7_digest 1 = .ok (.ldc2_w 286, 3) := by decide +kernel
theorem dX7_digest_4 : decode cX7_digest 4 = .ok (.putfield 279, 3) := by decide +kernel
theorem dX7_digest_7 : decode cX7_digest 7 = .ok (.aload_n 0, 1) := by decide +kernel
theorem dX7_digest_8 : decode cX7_digest 8 = .ok (.invokevirtual 139, 3) := by decide +kernel
theorem dX7_digest_11 : decode cX7_digest 11 = .ok (.ifCond .eq 15, 3) := by decide +kernel
theorem dX7_digest_14 : decode cX7_digest 14 = .ok (.aload_n 0, 1) := by decide +kernel
theorem dX7_digest_15 : decode cX7_digest 15 = .ok (.invokevirtual 288, 3) := by decide +kernel
theorem dX7_digest_18 : decode cX7_digest 18 = .ok (.aload_n 0, 1) := by decide +kernel
theorem dX7_digest_19 : decode cX7_digest 19 = .ok (.invokevirtual 291, 3) := by decide +kernel
theorem dX7_digest_22 : decode cX7_digest 22 = .ok (.aload_n 0, 1) := by decide +kernel
theorem dX7_digest_23 : decode cX7_digest 23 = .ok (.invokevirtual 294, 3) := by decide +kernel
theorem dX7_digest_26 : decode cX7_digest 26 = .ok (.iconst 0, 1) := by decide +kernel
theorem dX7_digest_27 : decode cX7_digest 27 = .ok (.istore_n 1, 1) := by decide +kernel
theorem dX7_digest_28 : decode cX7_digest 28 = .ok (.iload_n 1, 1) := by decide +kernel
theorem dX7_digest_29 : decode cX7_digest 29 = .ok (.iconst 4, 1) := by decide +kernel
theorem dX7_digest_30 : decode cX7_digest 30 = .ok (.if_icmp .gt 21, 3) := by decide +kernel
theorem dX7_digest_33 : decode cX7_digest 33 = .ok (.aload_n 0, 1) := by decide +kernel
theorem dX7_digest_34 : decode cX7_digest 34 = .ok (.invokevirtual 257, 3) := by decide +kernel
theorem dX7_digest_37 : decode cX7_digest 37 = .ok (.ifCond .eq 14, 3) := by decide +kernel
theorem dX7_digest_40 : decode cX7_digest 40 = .ok (.aload_n 0, 1) := by decide +kernel
theorem dX7_digest_41 : decode cX7_digest 41 = .ok (.iload_n 1, 1) := by decide +kernel
theorem dX7_digest_42 : decode cX7_digest 42 = .ok (.invokevirtual 297, 3) := by decide +kernel
theorem dX7_digest_45 : decode cX7_digest 45 = .ok (.iinc 1 1, 3) := by decide +kernel
theorem dX7_digest_48 : decode cX7_digest 48 = .ok (.goto (-20), 3) := by decide +kernel
theorem dX7_digest_51 : decode cX7_digest 51 = .ok (.iconst 0, 1) := by decide +kernel
theorem dX7_digest_52 : decode cX7_digest 52 = .ok (.istore_n 1, 1) := by decide +kernel
theorem dX7_digest_53 : decode cX7_digest 53 = .ok (.iload_n 1, 1) := by decide +kernel
theorem dX7_digest_54 : decode cX7_digest 54 = .ok (.aload_n 0, 1) := by decide +kernel
theorem dX7_digest_55 : decode cX7_digest 55 = .ok (.getfield 54, 3) := by decide +kernel
theorem dX7_digest_58 : decode cX7_digest 58 = .ok (.if_icmp .ge 20, 3) := by decide +kernel
theorem dX7_digest_61 : decode cX7_digest 61 = .ok (.aload_n 0, 1) := by decide +kernel
theorem dX7_digest_62 : decode cX7_digest 62 = .ok (.aload_n 0, 1) := by decide +kernel
theorem dX7_digest_63 : decode cX7_digest 63 = .ok (.getfield 19, 3) := by decide +kernel
theorem dX7_digest_66 : decode cX7_digest 66 = .ok (.iload_n 1, 1) := by decide +kernel
theorem dX7_digest_67 : decode cX7_digest 67 = .ok (.iaload, 1) := by decide +kernel
theorem dX7_digest_68 : decode cX7_digest 68 = .ok (.i2l, 1) := by decide +kernel
theorem dX7_digest_69 : decode cX7_digest 69 = .ok (.invokevirtual 282, 3) := by decide +kernel
theorem dX7_digest_72 : decode cX7_digest 72 = .ok (.iinc 1 1, 3) := by decide +kernel
theorem dX7_digest_75 : decode cX7_digest 75 = .ok (.goto (-22), 3) := by decide +kernel
theorem dX7_digest_78 : decode cX7_digest 78 = .ok (.iconst 0, 1) := by decide +kernel
theorem dX7_digest_79 : decode cX7_digest 79 = .ok (.istore_n 1, 1) := by decide +kernel
theorem dX7_digest_80 : decode cX7_digest 80 = .ok (.iload_n 1, 1) := by decide +kernel
theorem dX7_digest_81 : decode cX7_digest 81 = .ok (.iconst 5, 1) := by decide +kernel
theorem dX7_digest_82 : decode cX7_digest 82 = .ok (.if_icmp .ge 19, 3) := by decide +kernel
theorem dX7_digest_85 : decode cX7_digest 85 = .ok (.aload_n 0, 1) := by decide +kernel
theorem dX7_digest_86 : decode cX7_digest 86 = .ok (.aload_n 0, 1) := by decide +kernel
theorem dX7_digest_87 : decode cX7_digest 87 = .ok (.iload_n 1, 1) := by decide +kernel
theorem dX7_digest_88 : decode cX7_digest 88 = .ok (.invokevirtual 274, 3) := by decide +kernel
theorem dX7_digest_91 : decode cX7_digest 91 = .ok (.i2l, 1) := by decide +kernel
theorem dX7_digest_92 : decode cX7_digest 92 = .ok (.invokevirtual 282, 3) := by decide +kernel
theorem dX7_digest_95 : decode cX7_digest 95 = .ok (.iinc 1 1, 3) := by decide +kernel
theorem dX7_digest_98 : decode cX7_digest 98 = .ok (.goto (-18), 3) := by decide +kernel
theorem dX7_digest_101 : decode cX7_digest 101 = .ok (.aload_n 0, 1) := by decide +kernel
theorem dX7_digest_102 : decode cX7_digest 102 = .ok (.getfield 279, 3) := by decide +kernel
theorem dX7_digest_105 : decode cX7_digest 105 = .ok (.lreturn, 1) := by decide +kernel
