theorem dX6_init_0 : decode cX6_init 0 = .ok (.aload_n 0, 1) := by decide +kernel
theorem dX6_init_1 : decode cX6_init 1 = .ok (.invokespecial 1, 3) := by decide +kernel
theorem dX6_init_4 : decode cX6_init 4 = .ok (.aload_n 0, 1) := by decide +kernel
theorem dX6_init_5 : decode cX6_init 5 = .ok (.bipush 110, 2) := by decide +kernel
theorem dX6_init_7 : decode cX6_init 7 = .ok (.newarray .int, 2) := by decide +kernel
theorem dX6_init_9 : decode cX6_init 9 = .ok (.putfield 9, 3) := by decide +kernel
theorem dX6_init_12 : decode cX6_init 12 = .ok (.aload_n 0, 1) := by decide +kernel
theorem dX6_init_13 : decode cX6_init 13 = .ok (.new 13, 3) := by decide +kernel
theorem dX6_init_16 : decode cX6_init 16 = .ok (.dup, 1) := by decide +kernel
theorem dX6_init_17 : decode cX6_init 17 = .ok (.invokespecial 15, 3) := by decide +kernel
theorem dX6_init_20 : decode cX6_init 20 = .ok (.putfield 16, 3) := by decide +kernel
theorem dX6_init_23 : decode cX6_init 23 = .ok (.aload_n 0, 1) := by decide +kernel
theorem dX6_init_24 : decode cX6_init 24 = .ok (.new 20, 3) := by decide +kernel
theorem dX6_init_27 : decode cX6_init 27 = .ok (.dup, 1) := by decide +kernel
theorem dX6_init_28 : decode cX6_init 28 = .ok (.invokespecial 22, 3) := by decide +kernel
theorem dX6_init_31 : decode cX6_init 31 = .ok (.putfield 23, 3) := by decide +kernel
theorem dX6_init_34 : decode cX6_init 34 = .ok (.aload_n 0, 1) := by decide +kernel
theorem dX6_init_35 : decode cX6_init 35 = .ok (.new 27, 3) := by decide +kernel
theorem dX6_init_38 : decode cX6_init 38 = .ok (.dup, 1) := by decide +kernel
theorem dX6_init_39 : decode cX6_init 39 = .ok (.invokespecial 29, 3) := by decide +kernel
theorem dX6_init_42 : decode cX6_init 42 = .ok (.putfield 30, 3) := by decide +kernel
theorem dX6_init_45 : decode cX6_init 45 = .ok (.aload_n 0, 1) := by decide +kernel
theorem dX6_init_46 : decode cX6_init 46 = .ok (.new 34, 3) := by decide +kernel
theorem dX6_init_49 : decode cX6_init 49 = .ok (.dup, 1) := by decide +kernel
theorem dX6_init_50 : decode cX6_init 50 = .ok (.invokespecial 36, 3) := by decide +kernel
theorem dX6_init_53 : decode cX6_init 53 = .ok (.putfield 37, 3) := by decide +kernel
theorem dX6_init_56 : decode cX6_init 56 = .ok (.aload_n 0, 1) := by decide +kernel
theorem dX6_init_57 : decode cX6_init 57 = .ok (.aload_n 0, 1) := by decide +kernel
theorem dX6_init_58 : decode cX6_init 58 = .ok (.getfield 37, 3) := by decide +kernel
theorem dX6_init_61 : decode cX6_init 61 = .ok (.getfield 41, 3) := by decide +kernel
theorem dX6_init_64 : decode cX6_init 64 = .ok (.putfield 45, 3) := by decide +kernel
theorem dX6_init_67 : decode cX6_init 67 = .ok (.aload_n 0, 1) := by decide +kernel
theorem dX6_init_68 : decode cX6_init 68 = .ok (.new 46, 3) := by decide +kernel
theorem dX6_init_71 : decode cX6_init 71 = .ok (.dup, 1) := by decide +kernel
theorem dX6_init_72 : decode cX6_init 72 = .ok (.invokespecial 48, 3) := by decide +kernel
theorem dX6_init_75 : decode cX6_init 75 = .ok (.putfield 49, 3) := by decide +kernel
theorem dX6_init_78 : decode cX6_init 78 = .ok (.return_, 1) := by decide +kernel
theorem dX6_letter_0 : decode cX6_letter 0 = .ok (.iload_n 1, 1) := by decide +kernel
theorem dX6_letter_1 : decode cX6_letter 1 = .ok (.bipush 32, 2) := by decide +kernel
theorem dX6_letter_3 : decode cX6_letter 3 = .ok (.if_icmp .lt 9, 3) := by decide +kernel
theorem dX6_letter_6 : decode cX6_letter 6 = .ok (.iload_n 1, 1) := by decide +kernel
theorem dX6_letter_7 : decode cX6_letter 7 = .ok (.bipush 126, 2) := by decide +kernel
theorem dX6_letter_9 : decode cX6_letter 9 = .ok (.if_icmp .le 6, 3) := by decide +kernel
theorem dX6_letter_12 : decode cX6_letter 12 = .ok (.bipush (-102), 2) := by decide +kernel
theorem dX6_letter_14 : decode cX6_letter 14 = .ok (.ireturn, 1) := by decide +kernel
theorem dX6_letter_15 : decode cX6_letter 15 = .ok (.aload_n 0, 1) := by decide +kernel
theorem dX6_letter_16 : decode cX6_letter 16 = .ok (.getfield 53, 3) := by decide +kernel
theorem dX6_letter_19 : decode cX6_letter 19 = .ok (.bipush 110, 2) := by decide +kernel
theorem dX6_letter_21 : decode cX6_letter 21 = .ok (.if_icmp .lt 6, 3) := by decide +kernel
theorem dX6_letter_24 : decode cX6_letter 24 = .ok (.bipush (-104), 2) := by decide +kernel
theorem dX6_letter_26 : decode cX6_letter 26 = .ok (.ireturn, 1) := by decide +kernel
theorem dX6_letter_27 : decode cX6_letter 27 = .ok (.aload_n 0, 1) := by decide +kernel
theorem dX6_letter_28 : decode cX6_letter 28 = .ok (.getfield 9, 3) := by decide +kernel
theorem dX6_letter_31 : decode cX6_letter 31 = .ok (.aload_n 0, 1) := by decide +kernel
theorem dX6_letter_32 : decode cX6_letter 32 = .ok (.getfield 53, 3) := by decide +kernel
theorem dX6_letter_35 : decode cX6_letter 35 = .ok (.iload_n 1, 1) := by decide +kernel
theorem dX6_letter_36 : decode cX6_letter 36 = .ok (.iastore, 1) := by decide +kernel
theorem dX6_letter_37 : decode cX6_letter 37 = .ok (.aload_n 0, 1) := by decide +kernel
theorem dX6_letter_38 : decode cX6_letter 38 = .ok (.dup, 1) := by decide +kernel
theorem dX6_letter_39 : decode cX6_letter 39 = .ok (.getfield 53, 3) := by decide +kernel
theorem dX6_letter_42 : decode cX6_letter 42 = .ok (.iconst 1, 1) := by decide +kernel
theorem dX6_letter_43 : decode cX6_letter 43 = .ok (.iadd, 1) := by decide +kernel
theorem dX6_letter_44 : decode cX6_letter 44 = .ok (.putfield 53, 3) := by decide +kernel
theorem dX6_letter_47 : decode cX6_letter 47 = .ok (.aload_n 0, 1) := by decide +kernel
theorem dX6_letter_48 : decode cX6_letter 48 = .ok (.getfield 53, 3) := by decide +kernel
theorem dX6_letter_51 : decode cX6_letter 51 = .ok (.ireturn, 1) := by decide +kernel
theorem dX6_blank_0 : decode cX6_blank 0 = .ok (.aload_n 0, 1) := by decide +kernel
theorem dX6_blank_1 : decode cX6_blank 1 = .ok (.getfield 53, 3) := by decide +kernel
theorem dX6_blank_4 : decode cX6_blank 4 = .ok (.istore_n 1, 1) := by decide +kernel
theorem dX6_blank_5 : decode cX6_blank 5 = .ok (.aload_n 0, 1) := by decide +kernel
theorem dX6_blank_6 : decode cX6_blank 6 = .ok (.iconst 0, 1) := by decide +kernel
theorem dX6_blank_7 : decode cX6_blank 7 = .ok (.putfield 53, 3) := by decide +kernel
theorem dX6_blank_10 : decode cX6_blank 10 = .ok (.iload_n 1, 1) := by decide +kernel
theorem dX6_blank_11 : decode cX6_blank 11 = .ok (.ireturn, 1) := by decide +kernel
theorem dX6_fault_0 : decode cX6_fault 0 = .ok (.aload_n 0, 1) := by decide +kernel
theorem dX6_fault_1 : decode cX6_fault 1 = .ok (.getfield 23, 3) := by decide +kernel
theorem dX6_fault_4 : decode cX6_fault 4 = .ok (.invokevirtual 57, 3) := by decide +kernel
theorem dX6_fault_7 : decode cX6_fault 7 = .ok (.iconst 0, 1) := by decide +kernel
theorem dX6_fault_8 : decode cX6_fault 8 = .ok (.istore_n 1, 1) := by decide +kernel
theorem dX6_fault_9 : decode cX6_fault 9 = .ok (.iload_n 1, 1) := by decide +kernel
theorem dX6_fault_10 : decode cX6_fault 10 = .ok (.aload_n 0, 1) := by decide +kernel
theorem dX6_fault_11 : decode cX6_fault 11 = .ok (.getfield 53, 3) := by decide +kernel
theorem dX6_fault_14 : decode cX6_fault 14 = .ok (.if_icmp .ge 27, 3) := by decide +kernel
theorem dX6_fault_17 : decode cX6_fault 17 = .ok (.aload_n 0, 1) := by decide +kernel
theorem dX6_fault_18 : decode cX6_fault 18 = .ok (.getfield 23, 3) := by decide +kernel
theorem dX6_fault_21 : decode cX6_fault 21 = .ok (.aload_n 0, 1) := by decide +kernel
theorem dX6_fault_22 : decode cX6_fault 22 = .ok (.getfield 9, 3) := by decide +kernel
theorem dX6_fault_25 : decode cX6_fault 25 = .ok (.iload_n 1, 1) := by decide +kernel
theorem dX6_fault_26 : decode cX6_fault 26 = .ok (.iaload, 1) := by decide +kernel
theorem dX6_fault_27 : decode cX6_fault 27 = .ok (.invokevirtual 60, 3) := by decide +kernel
theorem dX6_fault_30 : decode cX6_fault 30 = .ok (.ifCond .ne 5, 3) := by decide +kernel
theorem dX6_fault_33 : decode cX6_fault 33 = .ok (.iload_n 1, 1) := by decide +kernel
theorem dX6_fault_34 : decode cX6_fault 34 = .ok (.ireturn, 1) := by decide +kernel
theorem dX6_fault_35 : decode cX6_fault 35 = .ok (.iinc 1 1, 3) := by decide +kernel
theorem dX6_fault_38 : decode cX6_fault 38 = .ok (.goto (-29), 3) := by decide +kernel
theorem dX6_fault_41 : decode cX6_fault 41 = .ok (.aload_n 0, 1) := by decide +kernel
theorem dX6_fault_42 : decode cX6_fault 42 = .ok (.getfield 53, 3) := by decide +kernel
theorem dX6_fault_45 : decode cX6_fault 45 = .ok (.ireturn, 1) := by decide +kernel
theorem dX6_circle_0 : decode cX6_circle 0 = .ok (.aload_n 0, 1) := by decide +kernel
theorem dX6_circle_1 : decode cX6_circle 1 = .ok (.invokevirtual 64, 3) := by decide +kernel
theorem dX6_circle_4 : decode cX6_circle 4 = .ok (.aload_n 0, 1) := by decide +kernel
theorem dX6_circle_5 : decode cX6_circle 5 = .ok (.getfield 53, 3) := by decide +kernel
theorem dX6_circle_8 : decode cX6_circle 8 = .ok (.if_icmp .lt 13, 3) := by decide +kernel
theorem dX6_circle_11 : decode cX6_circle 11 = .ok (.aload_n 0, 1) := by decide +kernel
theorem dX6_circle_12 : decode cX6_circle 12 = .ok (.getfield 23, 3) := by decide +kernel
theorem dX6_circle_15 : decode cX6_circle 15 = .ok (.invokevirtual 68, 3) := by decide +kernel
theorem dX6_circle_18 : decode cX6_circle 18 = .ok (.ifCond .ne 6, 3) := by decide +kernel
theorem dX6_circle_21 : decode cX6_circle 21 = .ok (.bipush (-103), 2) := by decide +kernel
theorem dX6_circle_23 : decode cX6_circle 23 = .ok (.ireturn, 1) := by decide +kernel
theorem dX6_circle_24 : decode cX6_circle 24 = .ok (.aload_n 0, 1) := by decide +kernel
theorem dX6_circle_25 : decode cX6_circle 25 = .ok (.getfield 16, 3) := by decide +kernel
theorem dX6_circle_28 : decode cX6_circle 28 = .ok (.aload_n 0, 1) := by decide +kernel
theorem dX6_circle_29 : decode cX6_circle 29 = .ok (.getfield 23, 3) := by decide +kernel
theorem dX6_circle_32 : decode cX6_circle 32 = .ok (.getfield 72, 3) := by decide +kernel
theorem dX6_circle_35 : decode cX6_circle 35 = .ok (.invokevirtual 75, 3) := by decide +kernel
theorem dX6_circle_38 : decode cX6_circle 38 = .ok (.aload_n 0, 1) := by decide +kernel
theorem dX6_circle_39 : decode cX6_circle 39 = .ok (.iconst 0, 1) := by decide +kernel
theorem dX6_circle_40 : decode cX6_circle 40 = .ok (.putfield 53, 3) := by decide +kernel
theorem dX6_circle_43 : decode cX6_circle 43 = .ok (.aload_n 0, 1) := by decide +kernel
theorem dX6_circle_44 : decode cX6_circle 44 = .ok (.dup, 1) := by decide +kernel
theorem dX6_circle_45 : decode cX6_circle 45 = .ok (.getfield 79, 3) := by decide +kernel
theorem dX6_circle_48 : decode cX6_circle 48 = .ok (.iconst 1, 1) := by decide +kernel
theorem dX6_circle_49 : decode cX6_circle 49 = .ok (.iadd, 1) := by decide +kernel
theorem dX6_circle_50 : decode cX6_circle 50 = .ok (.putfield 79, 3) := by decide +kernel
theorem dX6_circle_53 : decode cX6_circle 53 = .ok (.aload_n 0, 1) := by decide +kernel
theorem dX6_circle_54 : decode cX6_circle 54 = .ok (.getfield 16, 3) := by decide +kernel
theorem dX6_circle_57 : decode cX6_circle 57 = .ok (.getfield 82, 3) := by decide +kernel
theorem dX6_circle_60 : decode cX6_circle 60 = .ok (.ireturn, 1) := by decide +kernel
theorem dX6_ink_0 : decode cX6_ink 0 = .ok (.aload_n 0, 1) := by decide +kernel
theorem dX6_ink_1 : decode cX6_ink 1 = .ok (.getfield 16, 3) := by decide +kernel
theorem dX6_ink_4 : decode cX6_ink 4 = .ok (.invokevirtual 85, 3) := by decide +kernel
theorem dX6_ink_7 : decode cX6_ink 7 = .ok (.ifCond .ne 6, 3) := by decide +kernel
theorem dX6_ink_10 : decode cX6_ink 10 = .ok (.bipush (-103), 2) := by decide +kernel
theorem dX6_ink_12 : decode cX6_ink 12 = .ok (.ireturn, 1) := by decide +kernel
theorem dX6_ink_13 : decode cX6_ink 13 = .ok (.iload_n 1, 1) := by decide +kernel
theorem dX6_ink_14 : decode cX6_ink 14 = .ok (.ifCond .ge 6, 3) := by decide +kernel
theorem dX6_ink_17 : decode cX6_ink 17 = .ok (.bipush (-101), 2) := by decide +kernel
theorem dX6_ink_19 : decode cX6_ink 19 = .ok (.ireturn, 1) := by decide +kernel
theorem dX6_ink_20 : decode cX6_ink 20 = .ok (.aload_n 0, 1) := by decide +kernel
theorem dX6_ink_21 : decode cX6_ink 21 = .ok (.getfield 30, 3) := by decide +kernel
theorem dX6_ink_24 : decode cX6_ink 24 = .ok (.aload_n 0, 1) := by decide +kernel
theorem dX6_ink_25 : decode cX6_ink 25 = .ok (.getfield 16, 3) := by decide +kernel
theorem dX6_ink_28 : decode cX6_ink 28 = .ok (.invokevirtual 88, 3) := by decide +kernel
theorem dX6_ink_31 : decode cX6_ink 31 = .ok (.iload_n 1, 1) := by decide +kernel
theorem dX6_ink_32 : decode cX6_ink 32 = .ok (.aload_n 0, 1) := by decide +kernel
theorem dX6_ink_33 : decode cX6_ink 33 = .ok (.getfield 30, 3) := by decide +kernel
theorem dX6_ink_36 : decode cX6_ink 36 = .ok (.getfield 91, 3) := by decide +kernel
theorem dX6_ink_39 : decode cX6_ink 39 = .ok (.if_icmp .ge 15, 3) := by decide +kernel
theorem dX6_ink_42 : decode cX6_ink 42 = .ok (.aload_n 0, 1) := by decide +kernel
theorem dX6_ink_43 : decode cX6_ink 43 = .ok (.getfield 30, 3) := by decide +kernel
theorem dX6_ink_46 : decode cX6_ink 46 = .ok (.getfield 94, 3) := by decide +kernel
theorem dX6_ink_49 : decode cX6_ink 49 = .ok (.iload_n 1, 1) := by decide +kernel
theorem dX6_ink_50 : decode cX6_ink 50 = .ok (.iaload, 1) := by decide +kernel
theorem dX6_ink_51 : decode cX6_ink 51 = .ok (.goto 4, 3) := by decide +kernel
theorem dX6_ink_54 : decode cX6_ink 54 = .ok (.iconst (-1), 1) := by decide +kernel
theorem dX6_ink_55 : decode cX6_ink 55 = .ok (.ireturn, 1) := by decide +kernel
theorem dX6_kind_0 : decode cX6_kind 0 = .ok (.aload_n 0, 1) := by decide +kernel
theorem dX6_kind_1 : decode cX6_kind 1 = .ok (.getfield 16, 3) := by decide +kernel
theorem dX6_kind_4 : decode cX6_kind 4 = .ok (.iload_n 1, 1) := by decide +kernel
theorem dX6_kind_5 : decode cX6_kind 5 = .ok (.invokevirtual 97, 3) := by decide +kernel
theorem dX6_kind_8 : decode cX6_kind 8 = .ok (.ifCond .ne 6, 3) := by decide +kernel
theorem dX6_kind_11 : decode cX6_kind 11 = .ok (.bipush (-101), 2) := by decide +kernel
theorem dX6_kind_13 : decode cX6_kind 13 = .ok (.ireturn, 1) := by decide +kernel
theorem dX6_kind_14 : decode cX6_kind 14 = .ok (.iload_n 2, 1) := by decide +kernel
theorem dX6_kind_15 : decode cX6_kind 15 = .ok (.invokestatic 100, 3) := by decide +kernel
theorem dX6_kind_18 : decode cX6_kind 18 = .ok (.ifCond .ne 6, 3) := by decide +kernel
theorem dX6_kind_21 : decode cX6_kind 21 = .ok (.bipush (-102), 2) := by decide +kernel
theorem dX6_kind_23 : decode cX6_kind 23 = .ok (.ireturn, 1) := by decide +kernel
theorem dX6_kind_24 : decode cX6_kind 24 = .ok (.aload_n 0, 1) := by decide +kernel
theorem dX6_kind_25 : decode cX6_kind 25 = .ok (.getfield 16, 3) := by decide +kernel
theorem dX6_kind_28 : decode cX6_kind 28 = .ok (.getfield 103, 3) := by decide +kernel
theorem dX6_kind_31 : decode cX6_kind 31 = .ok (.iload_n 1, 1) := by decide +kernel
theorem dX6_kind_32 : decode cX6_kind 32 = .ok (.iaload, 1) := by decide +kernel
theorem dX6_kind_33 : decode cX6_kind 33 = .ok (.istore_n 3, 1) := by decide +kernel
theorem dX6_kind_34 : decode cX6_kind 34 = .ok (.iload_n 2, 1) := by decide +kernel
theorem dX6_kind_35 : decode cX6_kind 35 = .ok (.iconst 1, 1) := by decide +kernel
theorem dX6_kind_36 : decode cX6_kind 36 = .ok (.if_icmp .ne 26, 3) := by decide +kernel
theorem dX6_kind_39 : decode cX6_kind 39 = .ok (.iload_n 3, 1) := by decide +kernel
theorem dX6_kind_40 : decode cX6_kind 40 = .ok (.iconst 1, 1) := by decide +kernel
theorem dX6_kind_41 : decode cX6_kind 41 = .ok (.if_icmp .eq 21, 3) := by decide +kernel
theorem dX6_kind_44 : decode cX6_kind 44 = .ok (.aload_n 0, 1) := by decide +kernel
theorem dX6_kind_45 : decode cX6_kind 45 = .ok (.getfield 16, 3) := by decide +kernel
theorem dX6_kind_48 : decode cX6_kind 48 = .ok (.iconst 1, 1) := by decide +kernel
theorem dX6_kind_49 : decode cX6_kind 49 = .ok (.invokevirtual 106, 3) := by decide +kernel
theorem dX6_kind_52 : decode cX6_kind 52 = .ok (.invokestatic 110, 3) := by decide +kernel
theorem dX6_kind_55 : decode cX6_kind 55 = .ok (.iconst 5, 1) := by decide +kernel
theorem dX6_kind_56 : decode cX6_kind 56 = .ok (.if_icmp .lt 6, 3) := by decide +kernel
theorem dX6_kind_59 : decode cX6_kind 59 = .ok (.bipush (-104), 2) := by decide +kernel
theorem dX6_kind_61 : decode cX6_kind 61 = .ok (.ireturn, 1) := by decide +kernel
theorem dX6_kind_62 : decode cX6_kind 62 = .ok (.aload_n 0, 1) := by decide +kernel
theorem dX6_kind_63 : decode cX6_kind 63 = .ok (.getfield 16, 3) := by decide +kernel
theorem dX6_kind_66 : decode cX6_kind 66 = .ok (.getfield 103, 3) := by decide +kernel
theorem dX6_kind_69 : decode cX6_kind 69 = .ok (.iload_n 1, 1) := by decide +kernel
theorem dX6_kind_70 : decode cX6_kind 70 = .ok (.iload_n 2, 1) := by decide +kernel
theorem dX6_kind_71 : decode cX6_kind 71 = .ok (.iastore, 1) := by decide +kernel
theorem dX6_kind_72 : decode cX6_kind 72 = .ok (.iload_n 3, 1) := by decide +kernel
theorem dX6_kind_73 : decode cX6_kind 73 = .ok (.ireturn, 1) := by decide +kernel
theorem dX6_as_0 : decode cX6_as 0 = .ok (.aload_n 0, 1) := by decide +kernel
theorem dX6_as_1 : decode cX6_as 1 = .ok (.getfield 16, 3) := by decide +kernel
theorem dX6_as_4 : decode cX6_as 4 = .ok (.iload_n 1, 1) := by decide +kernel
theorem dX6_as_5 : decode cX6_as 5 = .ok (.invokevirtual 97, 3) := by decide +kernel
theorem dX6_as_8 : decode cX6_as 8 = .ok (.ifCond .ne 6, 3) := by decide +kernel
theorem dX6_as_11 : decode cX6_as 11 = .ok (.bipush (-101), 2) := by decide +kernel
theorem dX6_as_13 : decode cX6_as 13 = .ok (.ireturn, 1) := by decide +kernel
theorem dX6_as_14 : decode cX6_as 14 = .ok (.iload_n 2, 1) := by decide +kernel
theorem dX6_as_15 : decode cX6_as 15 = .ok (.invokestatic 100, 3) := by decide +kernel
theorem dX6_as_18 : decode cX6_as 18 = .ok (.ifCond .ne 6, 3) := by decide +kernel
theorem dX6_as_21 : decode cX6_as 21 = .ok (.bipush (-102), 2) := by decide +kernel
theorem dX6_as_23 : decode cX6_as 23 = .ok (.ireturn, 1) := by decide +kernel
theorem dX6_as_24 : decode cX6_as 24 = .ok (.aload_n 0, 1) := by decide +kernel
theorem dX6_as_25 : decode cX6_as 25 = .ok (.getfield 16, 3) := by decide +kernel
theorem dX6_as_28 : decode cX6_as 28 = .ok (.getfield 103, 3) := by decide +kernel
theorem dX6_as_31 : decode cX6_as 31 = .ok (.iload_n 1, 1) := by decide +kernel
theorem dX6_as_32 : decode cX6_as 32 = .ok (.iaload, 1) := by decide +kernel
theorem dX6_as_33 : decode cX6_as 33 = .ok (.istore_n 3, 1) := by decide +kernel
theorem dX6_as_34 : decode cX6_as 34 = .ok (.iload_n 2, 1) := by decide +kernel
theorem dX6_as_35 : decode cX6_as 35 = .ok (.ifCond .eq 8, 3) := by decide +kernel
theorem dX6_as_38 : decode cX6_as 38 = .ok (.iload_n 2, 1) := by decide +kernel
theorem dX6_as_39 : decode cX6_as 39 = .ok (.iload_n 3, 1) := by decide +kernel
theorem dX6_as_40 : decode cX6_as 40 = .ok (.if_icmp .ne 7, 3) := by decide +kernel
theorem dX6_as_43 : decode cX6_as 43 = .ok (.iload_n 3, 1) := by decide +kernel
theorem dX6_as_44 : decode cX6_as 44 = .ok (.goto 4, 3) := by decide +kernel
theorem dX6_as_47 : decode cX6_as 47 = .ok (.iconst (-1), 1) := by decide +kernel
theorem dX6_as_48 : decode cX6_as 48 = .ok (.ireturn, 1) := by decide +kernel
theorem dX6_vouch_0 : decode cX6_vouch 0 = .ok (.aload_n 0, 1) := by decide +kernel
theorem dX6_vouch_1 : decode cX6_vouch 1 = .ok (.getfield 16, 3) := by decide +kernel
theorem dX6_vouch_4 : decode cX6_vouch 4 = .ok (.iload_n 1, 1) := by decide +kernel
theorem dX6_vouch_5 : decode cX6_vouch 5 = .ok (.iload_n 2, 1) := by decide +kernel
theorem dX6_vouch_6 : decode cX6_vouch 6 = .ok (.invokevirtual 115, 3) := by decide +kernel
theorem dX6_vouch_9 : decode cX6_vouch 9 = .ok (.ifCond .ne 6, 3) := by decide +kernel
theorem dX6_vouch_12 : decode cX6_vouch 12 = .ok (.bipush (-101), 2) := by decide +kernel
theorem dX6_vouch_14 : decode cX6_vouch 14 = .ok (.ireturn, 1) := by decide +kernel
theorem dX6_vouch_15 : decode cX6_vouch 15 = .ok (.aload_n 0, 1) := by decide +kernel
theorem dX6_vouch_16 : decode cX6_vouch 16 = .ok (.getfield 16, 3) := by decide +kernel
theorem dX6_vouch_19 : decode cX6_vouch 19 = .ok (.iload_n 1, 1) := by decide +kernel
theorem dX6_vouch_20 : decode cX6_vouch 20 = .ok (.iload_n 2, 1) := by decide +kernel
theorem dX6_vouch_21 : decode cX6_vouch 21 = .ok (.invokevirtual 119, 3) := by decide +kernel
theorem dX6_vouch_24 : decode cX6_vouch 24 = .ok (.ifCond .eq 6, 3) := by decide +kernel
theorem dX6_vouch_27 : decode cX6_vouch 27 = .ok (.bipush (-103), 2) := by decide +kernel
theorem dX6_vouch_29 : decode cX6_vouch 29 = .ok (.ireturn, 1) := by decide +kernel
theorem dX6_vouch_30 : decode cX6_vouch 30 = .ok (.aload_n 0, 1) := by decide +kernel
theorem dX6_vouch_31 : decode cX6_vouch 31 = .ok (.getfield 16, 3) := by decide +kernel
theorem dX6_vouch_34 : decode cX6_vouch 34 = .ok (.getfield 122, 3) := by decide +kernel
theorem dX6_vouch_37 : decode cX6_vouch 37 = .ok (.iload_n 1, 1) := by decide +kernel
theorem dX6_vouch_38 : decode cX6_vouch 38 = .ok (.iaload, 1) := by decide +kernel
theorem dX6_vouch_39 : decode cX6_vouch 39 = .ok (.invokestatic 110, 3) := by decide +kernel
theorem dX6_vouch_42 : decode cX6_vouch 42 = .ok (.istore_n 3, 1) := by decide +kernel
theorem dX6_vouch_43 : decode cX6_vouch 43 = .ok (.iload_n 3, 1) := by decide +kernel
theorem dX6_vouch_44 : decode cX6_vouch 44 = .ok (.iconst 5, 1) := by decide +kernel
theorem dX6_vouch_45 : decode cX6_vouch 45 = .ok (.if_icmp .lt 6, 3) := by decide +kernel
theorem dX6_vouch_48 : decode cX6_vouch 48 = .ok (.bipush (-104), 2) := by decide +kernel
theorem dX6_vouch_50 : decode cX6_vouch 50 = .ok (.ireturn, 1) := by decide +kernel
theorem dX6_vouch_51 : decode cX6_vouch 51 = .ok (.aload_n 0, 1) := by decide +kernel
theorem dX6_vouch_52 : decode cX6_vouch 52 = .ok (.getfield 16, 3) := by decide +kernel
theorem dX6_vouch_55 : decode cX6_vouch 55 = .ok (.getfield 122, 3) := by decide +kernel
theorem dX6_vouch_58 : decode cX6_vouch 58 = .ok (.iload_n 1, 1) := by decide +kernel
theorem dX6_vouch_59 : decode cX6_vouch 59 = .ok (.dup2, 1) := by decide +kernel
theorem dX6_vouch_60 : decode cX6_vouch 60 = .ok (.iaload, 1) := by decide +kernel
theorem dX6_vouch_61 : decode cX6_vouch 61 = .ok (.iconst 1, 1) := by decide +kernel
theorem dX6_vouch_62 : decode cX6_vouch 62 = .ok (.iload_n 2, 1) := by decide +kernel
theorem dX6_vouch_63 : decode cX6_vouch 63 = .ok (.ishl, 1) := by decide +kernel
theorem dX6_vouch_64 : decode cX6_vouch 64 = .ok (.ior, 1) := by decide +kernel
theorem dX6_vouch_65 : decode cX6_vouch 65 = .ok (.iastore, 1) := by decide +kernel
theorem dX6_vouch_66 : decode cX6_vouch 66 = .ok (.aload_n 0, 1) := by decide +kernel
theorem dX6_vouch_67 : decode cX6_vouch 67 = .ok (.dup, 1) := by decide +kernel
theorem dX6_vouch_68 : decode cX6_vouch 68 = .ok (.getfield 125, 3) := by decide +kernel
theorem dX6_vouch_71 : decode cX6_vouch 71 = .ok (.iconst 1, 1) := by decide +kernel
theorem dX6_vouch_72 : decode cX6_vouch 72 = .ok (.iadd, 1) := by decide +kernel
theorem dX6_vouch_73 : decode cX6_vouch 73 = .ok (.putfield 125, 3) := by decide +kernel
theorem dX6_vouch_76 : decode cX6_vouch 76 = .ok (.iload_n 3, 1) := by decide +kernel
theorem dX6_vouch_77 : decode cX6_vouch 77 = .ok (.iconst 1, 1) := by decide +kernel
theorem dX6_vouch_78 : decode cX6_vouch 78 = .ok (.iadd, 1) := by decide +kernel
theorem dX6_vouch_79 : decode cX6_vouch 79 = .ok (.ireturn, 1) := by decide +kernel
theorem dX6_recall_0 : decode cX6_recall 0 = .ok (.aload_n 0, 1) := by decide +kernel
theorem dX6_recall_1 : decode cX6_recall 1 = .ok (.getfield 16, 3) := by decide +kernel
theorem dX6_recall_4 : decode cX6_recall 4 = .ok (.iload_n 1, 1) := by decide +kernel
theorem dX6_recall_5 : decode cX6_recall 5 = .ok (.iload_n 2, 1) := by decide +kernel
theorem dX6_recall_6 : decode cX6_recall 6 = .ok (.invokevirtual 115, 3) := by decide +kernel
theorem dX6_recall_9 : decode cX6_recall 9 = .ok (.ifCond .ne 6, 3) := by decide +kernel
theorem dX6_recall_12 : decode cX6_recall 12 = .ok (.bipush (-101), 2) := by decide +kernel
theorem dX6_recall_14 : decode cX6_recall 14 = .ok (.ireturn, 1) := by decide +kernel
theorem dX6_recall_15 : decode cX6_recall 15 = .ok (.aload_n 0, 1) := by decide +kernel
theorem dX6_recall_16 : decode cX6_recall 16 = .ok (.getfield 16, 3) := by decide +kernel
theorem dX6_recall_19 : decode cX6_recall 19 = .ok (.iload_n 1, 1) := by decide +kernel
theorem dX6_recall_20 : decode cX6_recall 20 = .ok (.iload_n 2, 1) := by decide +kernel
theorem dX6_recall_21 : decode cX6_recall 21 = .ok (.invokevirtual 119, 3) := by decide +kernel
theorem dX6_recall_24 : decode cX6_recall 24 = .ok (.ifCond .ne 6, 3) := by decide +kernel
theorem dX6_recall_27 : decode cX6_recall 27 = .ok (.bipush (-103), 2) := by decide +kernel
theorem dX6_recall_29 : decode cX6_recall 29 = .ok (.ireturn, 1) := by decide +kernel
theorem dX6_recall_30 : decode cX6_recall 30 = .ok (.aload_n 0, 1) := by decide +kernel
theorem dX6_recall_31 : decode cX6_recall 31 = .ok (.getfield 16, 3) := by decide +kernel
theorem dX6_recall_34 : decode cX6_recall 34 = .ok (.getfield 122, 3) := by decide +kernel
theorem dX6_recall_37 : decode cX6_recall 37 = .ok (.iload_n 1, 1) := by decide +kernel
theorem dX6_recall_38 : decode cX6_recall 38 = .ok (.dup2, 1) := by decide +kernel
theorem dX6_recall_39 : decode cX6_recall 39 = .ok (.iaload, 1) := by decide +kernel
theorem dX6_recall_40 : decode cX6_recall 40 = .ok (.iconst 1, 1) := by decide +kernel
theorem dX6_recall_41 : decode cX6_recall 41 = .ok (.iload_n 2, 1) := by decide +kernel
theorem dX6_recall_42 : decode cX6_recall 42 = .ok (.ishl, 1) := by decide +kernel
theorem dX6_recall_43 : decode cX6_recall 43 = .ok (.iconst (-1), 1) := by decide +kernel
theorem dX6_recall_44 : decode cX6_recall 44 = .ok (.ixor, 1) := by decide +kernel
theorem dX6_recall_45 : decode cX6_recall 45 = .ok (.iand, 1) := by decide +kernel
theorem dX6_recall_46 : decode cX6_recall 46 = .ok (.iastore, 1) := by decide +kernel
theorem dX6_recall_47 : decode cX6_recall 47 = .ok (.aload_n 0, 1) := by decide +kernel
theorem dX6_recall_48 : decode cX6_recall 48 = .ok (.dup, 1) := by decide +kernel
theorem dX6_recall_49 : decode cX6_recall 49 = .ok (.getfield 128, 3) := by decide +kernel
theorem dX6_recall_52 : decode cX6_recall 52 = .ok (.iconst 1, 1) := by decide +kernel
theorem dX6_recall_53 : decode cX6_recall 53 = .ok (.iadd, 1) := by decide +kernel
theorem dX6_recall_54 : decode cX6_recall 54 = .ok (.putfield 128, 3) := by decide +kernel
theorem dX6_recall_57 : decode cX6_recall 57 = .ok (.aload_n 0, 1) := by decide +kernel
theorem dX6_recall_58 : decode cX6_recall 58 = .ok (.getfield 16, 3) := by decide +kernel
theorem dX6_recall_61 : decode cX6_recall 61 = .ok (.getfield 122, 3) := by decide +kernel
theorem dX6_recall_64 : decode cX6_recall 64 = .ok (.iload_n 1, 1) := by decide +kernel
theorem dX6_recall_65 : decode cX6_recall 65 = .ok (.iaload, 1) := by decide +kernel
theorem dX6_recall_66 : decode cX6_recall 66 = .ok (.invokestatic 110, 3) := by decide +kernel
theorem dX6_recall_69 : decode cX6_recall 69 = .ok (.ireturn, 1) := by decide +kernel
theorem dX6_bound_0 : decode cX6_bound 0 = .ok (.iload_n 1, 1) := by decide +kernel
theorem dX6_bound_1 : decode cX6_bound 1 = .ok (.ifCond .lt 14, 3) := by decide +kernel
theorem dX6_bound_4 : decode cX6_bound 4 = .ok (.iload_n 1, 1) := by decide +kernel
theorem dX6_bound_5 : decode cX6_bound 5 = .ok (.aload_n 0, 1) := by decide +kernel
theorem dX6_bound_6 : decode cX6_bound 6 = .ok (.getfield 16, 3) := by decide +kernel
theorem dX6_bound_9 : decode cX6_bound 9 = .ok (.getfield 131, 3) := by decide +kernel
theorem dX6_bound_12 : decode cX6_bound 12 = .ok (.if_icmp .lt 6, 3) := by decide +kernel
theorem dX6_bound_15 : decode cX6_bound 15 = .ok (.bipush (-101), 2) := by decide +kernel
theorem dX6_bound_17 : decode cX6_bound 17 = .ok (.ireturn, 1) := by decide +kernel
theorem dX6_bound_18 : decode cX6_bound 18 = .ok (.iload_n 2, 1) := by decide +kernel
theorem dX6_bound_19 : decode cX6_bound 19 = .ok (.ifCond .lt 9, 3) := by decide +kernel
theorem dX6_bound_22 : decode cX6_bound 22 = .ok (.iload_n 2, 1) := by decide +kernel
theorem dX6_bound_23 : decode cX6_bound 23 = .ok (.bipush 9, 2) := by decide +kernel
theorem dX6_bound_25 : decode cX6_bound 25 = .ok (.if_icmp .le 6, 3) := by decide +kernel
theorem dX6_bound_28 : decode cX6_bound 28 = .ok (.bipush (-102), 2) := by decide +kernel
theorem dX6_bound_30 : decode cX6_bound 30 = .ok (.ireturn, 1) := by decide +kernel
theorem dX6_bound_31 : decode cX6_bound 31 = .ok (.aload_n 0, 1) := by decide +kernel
theorem dX6_bound_32 : decode cX6_bound 32 = .ok (.getfield 16, 3) := by decide +kernel
theorem dX6_bound_35 : decode cX6_bound 35 = .ok (.getfield 134, 3) := by decide +kernel
theorem dX6_bound_38 : decode cX6_bound 38 = .ok (.iload_n 1, 1) := by decide +kernel
theorem dX6_bound_39 : decode cX6_bound 39 = .ok (.iaload, 1) := by decide +kernel
theorem dX6_bound_40 : decode cX6_bound 40 = .ok (.istore_n 3, 1) := by decide +kernel
theorem dX6_bound_41 : decode cX6_bound 41 = .ok (.aload_n 0, 1) := by decide +kernel
theorem dX6_bound_42 : decode cX6_bound 42 = .ok (.getfield 16, 3) := by decide +kernel
theorem dX6_bound_45 : decode cX6_bound 45 = .ok (.getfield 134, 3) := by decide +kernel
theorem dX6_bound_48 : decode cX6_bound 48 = .ok (.iload_n 1, 1) := by decide +kernel
theorem dX6_bound_49 : decode cX6_bound 49 = .ok (.iload_n 2, 1) := by decide +kernel
theorem dX6_bound_50 : decode cX6_bound 50 = .ok (.iastore, 1) := by decide +kernel
theorem dX6_bound_51 : decode cX6_bound 51 = .ok (.iload_n 3, 1) := by decide +kernel
theorem dX6_bound_52 : decode cX6_bound 52 = .ok (.ireturn, 1) := by decide +kernel
theorem dX6_about_0 : decode cX6_about 0 = .ok (.iload_n 1, 1) := by decide +kernel
theorem dX6_about_1 : decode cX6_about 1 = .ok (.ifCond .lt 9, 3) := by decide +kernel
theorem dX6_about_4 : decode cX6_about 4 = .ok (.iload_n 1, 1) := by decide +kernel
theorem dX6_about_5 : decode cX6_about 5 = .ok (.bipush 7, 2) := by decide +kernel
theorem dX6_about_7 : decode cX6_about 7 = .ok (.if_icmp .le 6, 3) := by decide +kernel
theorem dX6_about_10 : decode cX6_about 10 = .ok (.bipush (-102), 2) := by decide +kernel
theorem dX6_about_12 : decode cX6_about 12 = .ok (.ireturn, 1) := by decide +kernel
theorem dX6_about_13 : decode cX6_about 13 = .ok (.aload_n 0, 1) := by decide +kernel
theorem dX6_about_14 : decode cX6_about 14 = .ok (.getfield 16, 3) := by decide +kernel
theorem dX6_about_17 : decode cX6_about 17 = .ok (.invokevirtual 85, 3) := by decide +kernel
theorem dX6_about_20 : decode cX6_about 20 = .ok (.ifCond .ne 6, 3) := by decide +kernel
theorem dX6_about_23 : decode cX6_about 23 = .ok (.bipush (-103), 2) := by decide +kernel
theorem dX6_about_25 : decode cX6_about 25 = .ok (.ireturn, 1) := by decide +kernel
theorem dX6_about_26 : decode cX6_about 26 = .ok (.iload_n 1, 1) := by decide +kernel
theorem dX6_about_27 : decode cX6_about 27 = .ok (.tableswitch 81 0 4 #[33, 41, 53, 65, 73], 33) := by decide +kernel
theorem dX6_about_60 : decode cX6_about 60 = .ok (.aload_n 0, 1) := by decide +kernel
theorem dX6_about_61 : decode cX6_about 61 = .ok (.getfield 16, 3) := by decide +kernel
theorem dX6_about_64 : decode cX6_about 64 = .ok (.getfield 82, 3) := by decide +kernel
theorem dX6_about_67 : decode cX6_about 67 = .ok (.ireturn, 1) := by decide +kernel
theorem dX6_about_68 : decode cX6_about 68 = .ok (.aload_n 0, 1) := by decide +kernel
theorem dX6_about_69 : decode cX6_about 69 = .ok (.getfield 16, 3) := by decide +kernel
theorem dX6_about_72 : decode cX6_about 72 = .ok (.iconst 1, 1) := by decide +kernel
theorem dX6_about_73 : decode cX6_about 73 = .ok (.invokevirtual 106, 3) := by decide +kernel
theorem dX6_about_76 : decode cX6_about 76 = .ok (.invokestatic 110, 3) := by decide +kernel
theorem dX6_about_79 : decode cX6_about 79 = .ok (.ireturn, 1) := by decide +kernel
theorem dX6_about_80 : decode cX6_about 80 = .ok (.aload_n 0, 1) := by decide +kernel
theorem dX6_about_81 : decode cX6_about 81 = .ok (.getfield 16, 3) := by decide +kernel
theorem dX6_about_84 : decode cX6_about 84 = .ok (.iconst 2, 1) := by decide +kernel
theorem dX6_about_85 : decode cX6_about 85 = .ok (.invokevirtual 106, 3) := by decide +kernel
theorem dX6_about_88 : decode cX6_about 88 = .ok (.invokestatic 110, 3) := by decide +kernel
theorem dX6_about_91 : decode cX6_about 91 = .ok (.ireturn, 1) := by decide +kernel
theorem dX6_about_92 : decode cX6_about 92 = .ok (.aload_n 0, 1) := by decide +kernel
theorem dX6_about_93 : decode cX6_about 93 = .ok (.getfield 16, 3) := by decide +kernel
theorem dX6_about_96 : decode cX6_about 96 = .ok (.invokevirtual 137, 3) := by decide +kernel
theorem dX6_about_99 : decode cX6_about 99 = .ok (.ireturn, 1) := by decide +kernel
theorem dX6_about_100 : decode cX6_about 100 = .ok (.aload_n 0, 1) := by decide +kernel
theorem dX6_about_101 : decode cX6_about 101 = .ok (.getfield 16, 3) := by decide +kernel
theorem dX6_about_104 : decode cX6_about 104 = .ok (.getfield 131, 3) := by decide +kernel
theorem dX6_about_107 : decode cX6_about 107 = .ok (.ireturn, 1) := by decide +kernel
theorem dX6_about_108 : decode cX6_about 108 = .ok (.aload_n 0, 1) := by decide +kernel
theorem dX6_about_109 : decode cX6_about 109 = .ok (.invokevirtual 140, 3) := by decide +kernel
theorem dX6_about_112 : decode cX6_about 112 = .ok (.iload_n 1, 1) := by decide +kernel
theorem dX6_about_113 : decode cX6_about 113 = .ok (.lookupswitch 43 #[(5, 27), (6, 35)], 27) := by decide +kernel
theorem dX6_about_140 : decode cX6_about 140 = .ok (.aload_n 0, 1) := by decide +kernel
theorem dX6_about_141 : decode cX6_about 141 = .ok (.getfield 45, 3) := by decide +kernel
theorem dX6_about_144 : decode cX6_about 144 = .ok (.invokevirtual 143, 3) := by decide +kernel
theorem dX6_about_147 : decode cX6_about 147 = .ok (.ireturn, 1) := by decide +kernel
theorem dX6_about_148 : decode cX6_about 148 = .ok (.aload_n 0, 1) := by decide +kernel
theorem dX6_about_149 : decode cX6_about 149 = .ok (.getfield 45, 3) := by decide +kernel
theorem dX6_about_152 : decode cX6_about 152 = .ok (.invokevirtual 148, 3) := by decide +kernel
theorem dX6_about_155 : decode cX6_about 155 = .ok (.ireturn, 1) := by decide +kernel
theorem dX6_about_156 : decode cX6_about 156 = .ok (.aload_n 0, 1) := by decide +kernel
theorem dX6_about_157 : decode cX6_about 157 = .ok (.getfield 45, 3) := by decide +kernel
theorem dX6_about_160 : decode cX6_about 160 = .ok (.aload_n 0, 1) := by decide +kernel
theorem dX6_about_161 : decode cX6_about 161 = .ok (.getfield 16, 3) := by decide +kernel
theorem dX6_about_164 : decode cX6_about 164 = .ok (.invokevirtual 151, 3) := by decide +kernel
theorem dX6_about_167 : decode cX6_about 167 = .ok (.invokevirtual 154, 3) := by decide +kernel
theorem dX6_about_170 : decode cX6_about 170 = .ok (.ireturn, 1) := by decide +kernel
theorem dX6_person_0 : decode cX6_person 0 = .ok (.aload_n 0, 1) := by decide +kernel
theorem dX6_person_1 : decode cX6_person 1 = .ok (.getfield 16, 3) := by decide +kernel
theorem dX6_person_4 : decode cX6_person 4 = .ok (.iload_n 1, 1) := by decide +kernel
theorem dX6_person_5 : decode cX6_person 5 = .ok (.invokevirtual 97, 3) := by decide +kernel
theorem dX6_person_8 : decode cX6_person 8 = .ok (.ifCond .ne 6, 3) := by decide +kernel
theorem dX6_person_11 : decode cX6_person 11 = .ok (.bipush (-101), 2) := by decide +kernel
theorem dX6_person_13 : decode cX6_person 13 = .ok (.ireturn, 1) := by decide +kernel
theorem dX6_person_14 : decode cX6_person 14 = .ok (.iload_n 2, 1) := by decide +kernel
theorem dX6_person_15 : decode cX6_person 15 = .ok (.ifCond .lt 9, 3) := by decide +kernel
theorem dX6_person_18 : decode cX6_person 18 = .ok (.iload_n 2, 1) := by decide +kernel
theorem dX6_person_19 : decode cX6_person 19 = .ok (.bipush 7, 2) := by decide +kernel
theorem dX6_person_21 : decode cX6_person 21 = .ok (.if_icmp .le 6, 3) := by decide +kernel
theorem dX6_person_24 : decode cX6_person 24 = .ok (.bipush (-102), 2) := by decide +kernel
theorem dX6_person_26 : decode cX6_person 26 = .ok (.ireturn, 1) := by decide +kernel
theorem dX6_person_27 : decode cX6_person 27 = .ok (.iload_n 2, 1) := by decide +kernel
theorem dX6_person_28 : decode cX6_person 28 = .ok (.tableswitch 89 0 7 #[48, 89, 89, 58, 71, 89, 89, 83], 48) := by decide +kernel
theorem dX6_person_76 : decode cX6_person 76 = .ok (.aload_n 0, 1) := by decide +kernel
theorem dX6_person_77 : decode cX6_person 77 = .ok (.getfield 16, 3) := by decide +kernel
theorem dX6_person_80 : decode cX6_person 80 = .ok (.getfield 103, 3) := by decide +kernel
theorem dX6_person_83 : decode cX6_person 83 = .ok (.iload_n 1, 1) := by decide +kernel
theorem dX6_person_84 : decode cX6_person 84 = .ok (.iaload, 1) := by decide +kernel
theorem dX6_person_85 : decode cX6_person 85 = .ok (.ireturn, 1) := by decide +kernel
theorem dX6_person_86 : decode cX6_person 86 = .ok (.aload_n 0, 1) := by decide +kernel
theorem dX6_person_87 : decode cX6_person 87 = .ok (.getfield 16, 3) := by decide +kernel
theorem dX6_person_90 : decode cX6_person 90 = .ok (.getfield 122, 3) := by decide +kernel
theorem dX6_person_93 : decode cX6_person 93 = .ok (.iload_n 1, 1) := by decide +kernel
theorem dX6_person_94 : decode cX6_person 94 = .ok (.iaload, 1) := by decide +kernel
theorem dX6_person_95 : decode cX6_person 95 = .ok (.invokestatic 110, 3) := by decide +kernel
theorem dX6_person_98 : decode cX6_person 98 = .ok (.ireturn, 1) := by decide +kernel
theorem dX6_person_99 : decode cX6_person 99 = .ok (.aload_n 0, 1) := by decide +kernel
theorem dX6_person_100 : decode cX6_person 100 = .ok (.getfield 16, 3) := by decide +kernel
theorem dX6_person_103 : decode cX6_person 103 = .ok (.iload_n 1, 1) := by decide +kernel
theorem dX6_person_104 : decode cX6_person 104 = .ok (.invokevirtual 157, 3) := by decide +kernel
theorem dX6_person_107 : decode cX6_person 107 = .ok (.invokestatic 110, 3) := by decide +kernel
theorem dX6_person_110 : decode cX6_person 110 = .ok (.ireturn, 1) := by decide +kernel
theorem dX6_person_111 : decode cX6_person 111 = .ok (.aload_n 0, 1) := by decide +kernel
theorem dX6_person_112 : decode cX6_person 112 = .ok (.iload_n 1, 1) := by decide +kernel
theorem dX6_person_113 : decode cX6_person 113 = .ok (.invokevirtual 160, 3) := by decide +kernel
theorem dX6_person_116 : decode cX6_person 116 = .ok (.ireturn, 1) := by decide +kernel
theorem dX6_person_117 : decode cX6_person 117 = .ok (.aload_n 0, 1) := by decide +kernel
theorem dX6_person_118 : decode cX6_person 118 = .ok (.invokevirtual 140, 3) := by decide +kernel
theorem dX6_person_121 : decode cX6_person 121 = .ok (.iload_n 2, 1) := by decide +kernel
theorem dX6_person_122 : decode cX6_person 122 = .ok (.tableswitch 70 1 5 #[34, 44, 70, 70, 54], 34) := by decide +kernel
theorem dX6_person_156 : decode cX6_person 156 = .ok (.aload_n 0, 1) := by decide +kernel
theorem dX6_person_157 : decode cX6_person 157 = .ok (.getfield 45, 3) := by decide +kernel
theorem dX6_person_160 : decode cX6_person 160 = .ok (.getfield 163, 3) := by decide +kernel
theorem dX6_person_163 : decode cX6_person 163 = .ok (.iload_n 1, 1) := by decide +kernel
theorem dX6_person_164 : decode cX6_person 164 = .ok (.iaload, 1) := by decide +kernel
theorem dX6_person_165 : decode cX6_person 165 = .ok (.ireturn, 1) := by decide +kernel
theorem dX6_person_166 : decode cX6_person 166 = .ok (.aload_n 0, 1) := by decide +kernel
theorem dX6_person_167 : decode cX6_person 167 = .ok (.getfield 45, 3) := by decide +kernel
theorem dX6_person_170 : decode cX6_person 170 = .ok (.getfield 166, 3) := by decide +kernel
theorem dX6_person_173 : decode cX6_person 173 = .ok (.iload_n 1, 1) := by decide +kernel
theorem dX6_person_174 : decode cX6_person 174 = .ok (.iaload, 1) := by decide +kernel
theorem dX6_person_175 : decode cX6_person 175 = .ok (.ireturn, 1) := by decide +kernel
theorem dX6_person_176 : decode cX6_person 176 = .ok (.aload_n 0, 1) := by decide +kernel
theorem dX6_person_177 : decode cX6_person 177 = .ok (.aload_n 0, 1) := by decide +kernel
theorem dX6_person_178 : decode cX6_person 178 = .ok (.getfield 16, 3) := by decide +kernel
theorem dX6_person_181 : decode cX6_person 181 = .ok (.invokevirtual 151, 3) := by decide +kernel
theorem dX6_person_184 : decode cX6_person 184 = .ok (.invokevirtual 169, 3) := by decide +kernel
theorem dX6_person_187 : decode cX6_person 187 = .ok (.iload_n 1, 1) := by decide +kernel
theorem dX6_person_188 : decode cX6_person 188 = .ok (.invokestatic 172, 3) := by decide +kernel
theorem dX6_person_191 : decode cX6_person 191 = .ok (.ireturn, 1) := by decide +kernel
theorem dX6_person_192 : decode cX6_person 192 = .ok (.aload_n 0, 1) := by decide +kernel
theorem dX6_person_193 : decode cX6_person 193 = .ok (.invokevirtual 176, 3) := by decide +kernel
theorem dX6_person_196 : decode cX6_person 196 = .ok (.iload_n 1, 1) := by decide +kernel
theorem dX6_person_197 : decode cX6_person 197 = .ok (.invokestatic 172, 3) := by decide +kernel
theorem dX6_person_200 : decode cX6_person 200 = .ok (.ireturn, 1) := by decide +kernel
theorem dX6_vouches_0 : decode cX6_vouches 0 = .ok (.aload_n 0, 1) := by decide +kernel
theorem dX6_vouches_1 : decode cX6_vouches 1 = .ok (.getfield 16, 3) := by decide +kernel
theorem dX6_vouches_4 : decode cX6_vouches 4 = .ok (.iload_n 1, 1) := by decide +kernel
theorem dX6_vouches_5 : decode cX6_vouches 5 = .ok (.iload_n 2, 1) := by decide +kernel
theorem dX6_vouches_6 : decode cX6_vouches 6 = .ok (.invokevirtual 115, 3) := by decide +kernel
theorem dX6_vouches_9 : decode cX6_vouches 9 = .ok (.ifCond .ne 6, 3) := by decide +kernel
theorem dX6_vouches_12 : decode cX6_vouches 12 = .ok (.bipush (-101), 2) := by decide +kernel
theorem dX6_vouches_14 : decode cX6_vouches 14 = .ok (.ireturn, 1) := by decide +kernel
theorem dX6_vouches_15 : decode cX6_vouches 15 = .ok (.aload_n 0, 1) := by decide +kernel
theorem dX6_vouches_16 : decode cX6_vouches 16 = .ok (.getfield 16, 3) := by decide +kernel
theorem dX6_vouches_19 : decode cX6_vouches 19 = .ok (.getfield 122, 3) := by decide +kernel
theorem dX6_vouches_22 : decode cX6_vouches 22 = .ok (.iload_n 1, 1) := by decide +kernel
theorem dX6_vouches_23 : decode cX6_vouches 23 = .ok (.iaload, 1) := by decide +kernel
theorem dX6_vouches_24 : decode cX6_vouches 24 = .ok (.iload_n 2, 1) := by decide +kernel
theorem dX6_vouches_25 : decode cX6_vouches 25 = .ok (.invokestatic 172, 3) := by decide +kernel
theorem dX6_vouches_28 : decode cX6_vouches 28 = .ok (.ireturn, 1) := by decide +kernel
theorem dX6_generous_0 : decode cX6_generous 0 = .ok (.aload_n 0, 1) := by decide +kernel
theorem dX6_generous_1 : decode cX6_generous 1 = .ok (.getfield 16, 3) := by decide +kernel
theorem dX6_generous_4 : decode cX6_generous 4 = .ok (.invokevirtual 85, 3) := by decide +kernel
theorem dX6_generous_7 : decode cX6_generous 7 = .ok (.ifCond .ne 6, 3) := by decide +kernel
theorem dX6_generous_10 : decode cX6_generous 10 = .ok (.bipush (-103), 2) := by decide +kernel
theorem dX6_generous_12 : decode cX6_generous 12 = .ok (.ireturn, 1) := by decide +kernel
theorem dX6_generous_13 : decode cX6_generous 13 = .ok (.iconst (-1), 1) := by decide +kernel
theorem dX6_generous_14 : decode cX6_generous 14 = .ok (.istore_n 1, 1) := by decide +kernel
theorem dX6_generous_15 : decode cX6_generous 15 = .ok (.iconst 0, 1) := by decide +kernel
theorem dX6_generous_16 : decode cX6_generous 16 = .ok (.istore_n 2, 1) := by decide +kernel
theorem dX6_generous_17 : decode cX6_generous 17 = .ok (.iconst 0, 1) := by decide +kernel
theorem dX6_generous_18 : decode cX6_generous 18 = .ok (.istore_n 3, 1) := by decide +kernel
theorem dX6_generous_19 : decode cX6_generous 19 = .ok (.iconst 0, 1) := by decide +kernel
theorem dX6_generous_20 : decode cX6_generous 20 = .ok (.istore 4, 2) := by decide +kernel
theorem dX6_generous_22 : decode cX6_generous 22 = .ok (.iload 4, 2) := by decide +kernel
theorem dX6_generous_24 : decode cX6_generous 24 = .ok (.aload_n 0, 1) := by decide +kernel
theorem dX6_generous_25 : decode cX6_generous 25 = .ok (.getfield 16, 3) := by decide +kernel
theorem dX6_generous_28 : decode cX6_generous 28 = .ok (.getfield 82, 3) := by decide +kernel
theorem dX6_generous_31 : decode cX6_generous 31 = .ok (.if_icmp .ge 68, 3) := by decide +kernel
theorem dX6_generous_34 : decode cX6_generous 34 = .ok (.aload_n 0, 1) := by decide +kernel
theorem dX6_generous_35 : decode cX6_generous 35 = .ok (.getfield 16, 3) := by decide +kernel
theorem dX6_generous_38 : decode cX6_generous 38 = .ok (.getfield 122, 3) := by decide +kernel
theorem dX6_generous_41 : decode cX6_generous 41 = .ok (.iload 4, 2) := by decide +kernel
theorem dX6_generous_43 : decode cX6_generous 43 = .ok (.iaload, 1) := by decide +kernel
theorem dX6_generous_44 : decode cX6_generous 44 = .ok (.invokestatic 110, 3) := by decide +kernel
theorem dX6_generous_47 : decode cX6_generous 47 = .ok (.istore 5, 2) := by decide +kernel
theorem dX6_generous_49 : decode cX6_generous 49 = .ok (.aload_n 0, 1) := by decide +kernel
theorem dX6_generous_50 : decode cX6_generous 50 = .ok (.getfield 16, 3) := by decide +kernel
theorem dX6_generous_53 : decode cX6_generous 53 = .ok (.iload 4, 2) := by decide +kernel
theorem dX6_generous_55 : decode cX6_generous 55 = .ok (.invokevirtual 157, 3) := by decide +kernel
theorem dX6_generous_58 : decode cX6_generous 58 = .ok (.invokestatic 110, 3) := by decide +kernel
theorem dX6_generous_61 : decode cX6_generous 61 = .ok (.istore 6, 2) := by decide +kernel
theorem dX6_generous_63 : decode cX6_generous 63 = .ok (.iload 6, 2) := by decide +kernel
theorem dX6_generous_65 : decode cX6_generous 65 = .ok (.ifCond .le 28, 3) := by decide +kernel
theorem dX6_generous_68 : decode cX6_generous 68 = .ok (.iload_n 1, 1) := by decide +kernel
theorem dX6_generous_69 : decode cX6_generous 69 = .ok (.iconst (-1), 1) := by decide +kernel
theorem dX6_generous_70 : decode cX6_generous 70 = .ok (.if_icmp .eq 14, 3) := by decide +kernel
theorem dX6_generous_73 : decode cX6_generous 73 = .ok (.iload 5, 2) := by decide +kernel
theorem dX6_generous_75 : decode cX6_generous 75 = .ok (.iload_n 3, 1) := by decide +kernel
theorem dX6_generous_76 : decode cX6_generous 76 = .ok (.imul, 1) := by decide +kernel
theorem dX6_generous_77 : decode cX6_generous 77 = .ok (.iload_n 2, 1) := by decide +kernel
theorem dX6_generous_78 : decode cX6_generous 78 = .ok (.iload 6, 2) := by decide +kernel
theorem dX6_generous_80 : decode cX6_generous 80 = .ok (.imul, 1) := by decide +kernel
theorem dX6_generous_81 : decode cX6_generous 81 = .ok (.if_icmp .le 12, 3) := by decide +kernel
theorem dX6_generous_84 : decode cX6_generous 84 = .ok (.iload 4, 2) := by decide +kernel
theorem dX6_generous_86 : decode cX6_generous 86 = .ok (.istore_n 1, 1) := by decide +kernel
theorem dX6_generous_87 : decode cX6_generous 87 = .ok (.iload 5, 2) := by decide +kernel
theorem dX6_generous_89 : decode cX6_generous 89 = .ok (.istore_n 2, 1) := by decide +kernel
theorem dX6_generous_90 : decode cX6_generous 90 = .ok (.iload 6, 2) := by decide +kernel
theorem dX6_generous_92 : decode cX6_generous 92 = .ok (.istore_n 3, 1) := by decide +kernel
theorem dX6_generous_93 : decode cX6_generous 93 = .ok (.iinc 4 1, 3) := by decide +kernel
theorem dX6_generous_96 : decode cX6_generous 96 = .ok (.goto (-74), 3) := by decide +kernel
theorem dX6_generous_99 : decode cX6_generous 99 = .ok (.iload_n 1, 1) := by decide +kernel
theorem dX6_generous_100 : decode cX6_generous 100 = .ok (.ireturn, 1) := by decide +kernel
theorem dX6_trust_0 : decode cX6_trust 0 = .ok (.iload_n 1, 1) := by decide +kernel
theorem dX6_trust_1 : decode cX6_trust 1 = .ok (.ifCond .lt 8, 3) := by decide +kernel
theorem dX6_trust_4 : decode cX6_trust 4 = .ok (.iload_n 1, 1) := by decide +kernel
theorem dX6_trust_5 : decode cX6_trust 5 = .ok (.iconst 4, 1) := by decide +kernel
theorem dX6_trust_6 : decode cX6_trust 6 = .ok (.if_icmp .le 6, 3) := by decide +kernel
theorem dX6_trust_9 : decode cX6_trust 9 = .ok (.bipush (-102), 2) := by decide +kernel
theorem dX6_trust_11 : decode cX6_trust 11 = .ok (.ireturn, 1) := by decide +kernel
theorem dX6_trust_12 : decode cX6_trust 12 = .ok (.aload_n 0, 1) := by decide +kernel
theorem dX6_trust_13 : decode cX6_trust 13 = .ok (.getfield 16, 3) := by decide +kernel
theorem dX6_trust_16 : decode cX6_trust 16 = .ok (.invokevirtual 85, 3) := by decide +kernel
theorem dX6_trust_19 : decode cX6_trust 19 = .ok (.ifCond .ne 6, 3) := by decide +kernel
theorem dX6_trust_22 : decode cX6_trust 22 = .ok (.bipush (-103), 2) := by decide +kernel
theorem dX6_trust_24 : decode cX6_trust 24 = .ok (.ireturn, 1) := by decide +kernel
theorem dX6_trust_25 : decode cX6_trust 25 = .ok (.aload_n 0, 1) := by decide +kernel
theorem dX6_trust_26 : decode cX6_trust 26 = .ok (.getfield 16, 3) := by decide +kernel
theorem dX6_trust_29 : decode cX6_trust 29 = .ok (.iconst 2, 1) := by decide +kernel
theorem dX6_trust_30 : decode cX6_trust 30 = .ok (.invokevirtual 106, 3) := by decide +kernel
theorem dX6_trust_33 : decode cX6_trust 33 = .ok (.istore_n 2, 1) := by decide +kernel
theorem dX6_trust_34 : decode cX6_trust 34 = .ok (.iload_n 1, 1) := by decide +kernel
theorem dX6_trust_35 : decode cX6_trust 35 = .ok (.iconst 4, 1) := by decide +kernel
theorem dX6_trust_36 : decode cX6_trust 36 = .ok (.if_icmp .ne 36, 3) := by decide +kernel
theorem dX6_trust_39 : decode cX6_trust 39 = .ok (.aload_n 0, 1) := by decide +kernel
theorem dX6_trust_40 : decode cX6_trust 40 = .ok (.getfield 45, 3) := by decide +kernel
theorem dX6_trust_43 : decode cX6_trust 43 = .ok (.aload_n 0, 1) := by decide +kernel
theorem dX6_trust_44 : decode cX6_trust 44 = .ok (.getfield 16, 3) := by decide +kernel
theorem dX6_trust_47 : decode cX6_trust 47 = .ok (.invokevirtual 179, 3) := by decide +kernel
theorem dX6_trust_50 : decode cX6_trust 50 = .ok (.aload_n 0, 1) := by decide +kernel
theorem dX6_trust_51 : decode cX6_trust 51 = .ok (.getfield 45, 3) := by decide +kernel
theorem dX6_trust_54 : decode cX6_trust 54 = .ok (.iload_n 2, 1) := by decide +kernel
theorem dX6_trust_55 : decode cX6_trust 55 = .ok (.invokevirtual 182, 3) := by decide +kernel
theorem dX6_trust_58 : decode cX6_trust 58 = .ok (.aload_n 0, 1) := by decide +kernel
theorem dX6_trust_59 : decode cX6_trust 59 = .ok (.getfield 45, 3) := by decide +kernel
theorem dX6_trust_62 : decode cX6_trust 62 = .ok (.aload_n 0, 1) := by decide +kernel
theorem dX6_trust_63 : decode cX6_trust 63 = .ok (.getfield 16, 3) := by decide +kernel
theorem dX6_trust_66 : decode cX6_trust 66 = .ok (.invokevirtual 186, 3) := by decide +kernel
theorem dX6_trust_69 : decode cX6_trust 69 = .ok (.goto 7, 3) := by decide +kernel
theorem dX6_trust_72 : decode cX6_trust 72 = .ok (.aload_n 0, 1) := by decide +kernel
theorem dX6_trust_73 : decode cX6_trust 73 = .ok (.invokevirtual 140, 3) := by decide +kernel
theorem dX6_trust_76 : decode cX6_trust 76 = .ok (.iload_n 1, 1) := by decide +kernel
theorem dX6_trust_77 : decode cX6_trust 77 = .ok (.tableswitch 65 1 3 #[27, 44, 53], 27) := by decide +kernel
theorem dX6_trust_104 : decode cX6_trust 104 = .ok (.aload_n 0, 1) := by decide +kernel
theorem dX6_trust_105 : decode cX6_trust 105 = .ok (.aload_n 0, 1) := by decide +kernel
theorem dX6_trust_106 : decode cX6_trust 106 = .ok (.getfield 16, 3) := by decide +kernel
theorem dX6_trust_109 : decode cX6_trust 109 = .ok (.invokevirtual 151, 3) := by decide +kernel
theorem dX6_trust_112 : decode cX6_trust 112 = .ok (.invokevirtual 169, 3) := by decide +kernel
theorem dX6_trust_115 : decode cX6_trust 115 = .ok (.iload_n 2, 1) := by decide +kernel
theorem dX6_trust_116 : decode cX6_trust 116 = .ok (.iand, 1) := by decide +kernel
theorem dX6_trust_117 : decode cX6_trust 117 = .ok (.invokestatic 110, 3) := by decide +kernel
theorem dX6_trust_120 : decode cX6_trust 120 = .ok (.ireturn, 1) := by decide +kernel
theorem dX6_trust_121 : decode cX6_trust 121 = .ok (.aload_n 0, 1) := by decide +kernel
theorem dX6_trust_122 : decode cX6_trust 122 = .ok (.iload_n 2, 1) := by decide +kernel
theorem dX6_trust_123 : decode cX6_trust 123 = .ok (.invokevirtual 169, 3) := by decide +kernel
theorem dX6_trust_126 : decode cX6_trust 126 = .ok (.invokestatic 110, 3) := by decide +kernel
theorem dX6_trust_129 : decode cX6_trust 129 = .ok (.ireturn, 1) := by decide +kernel
theorem dX6_trust_130 : decode cX6_trust 130 = .ok (.aload_n 0, 1) := by decide +kernel
theorem dX6_trust_131 : decode cX6_trust 131 = .ok (.getfield 45, 3) := by decide +kernel
theorem dX6_trust_134 : decode cX6_trust 134 = .ok (.aload_n 0, 1) := by decide +kernel
theorem dX6_trust_135 : decode cX6_trust 135 = .ok (.invokevirtual 176, 3) := by decide +kernel
theorem dX6_trust_138 : decode cX6_trust 138 = .ok (.invokevirtual 154, 3) := by decide +kernel
theorem dX6_trust_141 : decode cX6_trust 141 = .ok (.ireturn, 1) := by decide +kernel
theorem dX6_trust_142 : decode cX6_trust 142 = .ok (.aload_n 0, 1) := by decide +kernel
theorem dX6_trust_143 : decode cX6_trust 143 = .ok (.aload_n 0, 1) := by decide +kernel
theorem dX6_trust_144 : decode cX6_trust 144 = .ok (.getfield 16, 3) := by decide +kernel
theorem dX6_trust_147 : decode cX6_trust 147 = .ok (.invokevirtual 151, 3) := by decide +kernel
theorem dX6_trust_150 : decode cX6_trust 150 = .ok (.invokevirtual 169, 3) := by decide +kernel
theorem dX6_trust_153 : decode cX6_trust 153 = .ok (.invokestatic 110, 3) := by decide +kernel
theorem dX6_trust_156 : decode cX6_trust 156 = .ok (.ireturn, 1) := by decide +kernel
theorem dX6_together_0 : decode cX6_together 0 = .ok (.aload_n 0, 1) := by decide +kernel
theorem dX6_together_1 : decode cX6_together 1 = .ok (.getfield 16, 3) := by decide +kernel
theorem dX6_together_4 : decode cX6_together 4 = .ok (.invokevirtual 85, 3) := by decide +kernel
theorem dX6_together_7 : decode cX6_together 7 = .ok (.ifCond .ne 6, 3) := by decide +kernel
theorem dX6_together_10 : decode cX6_together 10 = .ok (.bipush (-103), 2) := by decide +kernel
theorem dX6_together_12 : decode cX6_together 12 = .ok (.ireturn, 1) := by decide +kernel
theorem dX6_together_13 : decode cX6_together 13 = .ok (.iload_n 1, 1) := by decide +kernel
theorem dX6_together_14 : decode cX6_together 14 = .ok (.aload_n 0, 1) := by decide +kernel
theorem dX6_together_15 : decode cX6_together 15 = .ok (.getfield 16, 3) := by decide +kernel
theorem dX6_together_18 : decode cX6_together 18 = .ok (.invokevirtual 151, 3) := by decide +kernel
theorem dX6_together_21 : decode cX6_together 21 = .ok (.iconst (-1), 1) := by decide +kernel
theorem dX6_together_22 : decode cX6_together 22 = .ok (.ixor, 1) := by decide +kernel
theorem dX6_together_23 : decode cX6_together 23 = .ok (.iand, 1) := by decide +kernel
theorem dX6_together_24 : decode cX6_together 24 = .ok (.ifCond .eq 6, 3) := by decide +kernel
theorem dX6_together_27 : decode cX6_together 27 = .ok (.bipush (-101), 2) := by decide +kernel
theorem dX6_together_29 : decode cX6_together 29 = .ok (.ireturn, 1) := by decide +kernel
theorem dX6_together_30 : decode cX6_together 30 = .ok (.aload_n 0, 1) := by decide +kernel
theorem dX6_together_31 : decode cX6_together 31 = .ok (.invokevirtual 140, 3) := by decide +kernel
theorem dX6_together_34 : decode cX6_together 34 = .ok (.aload_n 0, 1) := by decide +kernel
theorem dX6_together_35 : decode cX6_together 35 = .ok (.iload_n 1, 1) := by decide +kernel
theorem dX6_together_36 : decode cX6_together 36 = .ok (.invokevirtual 169, 3) := by decide +kernel
theorem dX6_together_39 : decode cX6_together 39 = .ok (.iload_n 1, 1) := by decide +kernel
theorem dX6_together_40 : decode cX6_together 40 = .ok (.if_icmp .ne 7, 3) := by decide +kernel
theorem dX6_together_43 : decode cX6_together 43 = .ok (.iconst 1, 1) := by decide +kernel
theorem dX6_together_44 : decode cX6_together 44 = .ok (.goto 4, 3) := by decide +kernel
theorem dX6_together_47 : decode cX6_together 47 = .ok (.iconst 0, 1) := by decide +kernel
theorem dX6_together_48 : decode cX6_together 48 = .ok (.ireturn, 1) := by decide +kernel
theorem dX6_cut_0 : decode cX6_cut 0 = .ok (.iload_n 1, 1) := by decide +kernel
theorem dX6_cut_1 : decode cX6_cut 1 = .ok (.ifCond .lt 8, 3) := by decide +kernel
theorem dX6_cut_4 : decode cX6_cut 4 = .ok (.iload_n 1, 1) := by decide +kernel
theorem dX6_cut_5 : decode cX6_cut 5 = .ok (.iconst 2, 1) := by decide +kernel
theorem dX6_cut_6 : decode cX6_cut 6 = .ok (.if_icmp .le 6, 3) := by decide +kernel
theorem dX6_cut_9 : decode cX6_cut 9 = .ok (.bipush (-102), 2) := by decide +kernel
theorem dX6_cut_11 : decode cX6_cut 11 = .ok (.ireturn, 1) := by decide +kernel
theorem dX6_cut_12 : decode cX6_cut 12 = .ok (.aload_n 0, 1) := by decide +kernel
theorem dX6_cut_13 : decode cX6_cut 13 = .ok (.getfield 16, 3) := by decide +kernel
theorem dX6_cut_16 : decode cX6_cut 16 = .ok (.invokevirtual 85, 3) := by decide +kernel
theorem dX6_cut_19 : decode cX6_cut 19 = .ok (.ifCond .ne 6, 3) := by decide +kernel
theorem dX6_cut_22 : decode cX6_cut 22 = .ok (.bipush (-103), 2) := by decide +kernel
theorem dX6_cut_24 : decode cX6_cut 24 = .ok (.ireturn, 1) := by decide +kernel
theorem dX6_cut_25 : decode cX6_cut 25 = .ok (.aload_n 0, 1) := by decide +kernel
theorem dX6_cut_26 : decode cX6_cut 26 = .ok (.getfield 16, 3) := by decide +kernel
theorem dX6_cut_29 : decode cX6_cut 29 = .ok (.iconst 2, 1) := by decide +kernel
theorem dX6_cut_30 : decode cX6_cut 30 = .ok (.invokevirtual 106, 3) := by decide +kernel
theorem dX6_cut_33 : decode cX6_cut 33 = .ok (.istore_n 2, 1) := by decide +kernel
theorem dX6_cut_34 : decode cX6_cut 34 = .ok (.aload_n 0, 1) := by decide +kernel
theorem dX6_cut_35 : decode cX6_cut 35 = .ok (.invokevirtual 140, 3) := by decide +kernel
theorem dX6_cut_38 : decode cX6_cut 38 = .ok (.aload_n 0, 1) := by decide +kernel
theorem dX6_cut_39 : decode cX6_cut 39 = .ok (.iload_n 2, 1) := by decide +kernel
theorem dX6_cut_40 : decode cX6_cut 40 = .ok (.invokevirtual 169, 3) := by decide +kernel
theorem dX6_cut_43 : decode cX6_cut 43 = .ok (.pop, 1) := by decide +kernel
theorem dX6_cut_44 : decode cX6_cut 44 = .ok (.aload_n 0, 1) := by decide +kernel
theorem dX6_cut_45 : decode cX6_cut 45 = .ok (.getfield 37, 3) := by decide +kernel
theorem dX6_cut_48 : decode cX6_cut 48 = .ok (.invokevirtual 189, 3) := by decide +kernel
theorem dX6_cut_51 : decode cX6_cut 51 = .ok (.istore_n 3, 1) := by decide +kernel
theorem dX6_cut_52 : decode cX6_cut 52 = .ok (.aload_n 0, 1) := by decide +kernel
theorem dX6_cut_53 : decode cX6_cut 53 = .ok (.getfield 45, 3) := by decide +kernel
theorem dX6_cut_56 : decode cX6_cut 56 = .ok (.getfield 192, 3) := by decide +kernel
theorem dX6_cut_59 : decode cX6_cut 59 = .ok (.aload_n 0, 1) := by decide +kernel
theorem dX6_cut_60 : decode cX6_cut 60 = .ok (.getfield 45, 3) := by decide +kernel
theorem dX6_cut_63 : decode cX6_cut 63 = .ok (.iload_n 3, 1) := by decide +kernel
theorem dX6_cut_64 : decode cX6_cut 64 = .ok (.invokevirtual 195, 3) := by decide +kernel
theorem dX6_cut_67 : decode cX6_cut 67 = .ok (.ior, 1) := by decide +kernel
theorem dX6_cut_68 : decode cX6_cut 68 = .ok (.iload_n 3, 1) := by decide +kernel
theorem dX6_cut_69 : decode cX6_cut 69 = .ok (.iconst (-1), 1) := by decide +kernel
theorem dX6_cut_70 : decode cX6_cut 70 = .ok (.ixor, 1) := by decide +kernel
theorem dX6_cut_71 : decode cX6_cut 71 = .ok (.iand, 1) := by decide +kernel
theorem dX6_cut_72 : decode cX6_cut 72 = .ok (.istore 4, 2) := by decide +kernel
theorem dX6_cut_74 : decode cX6_cut 74 = .ok (.iload_n 1, 1) := by decide +kernel
theorem dX6_cut_75 : decode cX6_cut 75 = .ok (.lookupswitch 45 #[(0, 25), (1, 42)], 25) := by decide +kernel
theorem dX6_cut_100 : decode cX6_cut 100 = .ok (.aload_n 0, 1) := by decide +kernel
theorem dX6_cut_101 : decode cX6_cut 101 = .ok (.getfield 45, 3) := by decide +kernel
theorem dX6_cut_104 : decode cX6_cut 104 = .ok (.iload 4, 2) := by decide +kernel
theorem dX6_cut_106 : decode cX6_cut 106 = .ok (.invokevirtual 154, 3) := by decide +kernel
theorem dX6_cut_109 : decode cX6_cut 109 = .ok (.iload_n 3, 1) := by decide +kernel
theorem dX6_cut_110 : decode cX6_cut 110 = .ok (.iload_n 2, 1) := by decide +kernel
theorem dX6_cut_111 : decode cX6_cut 111 = .ok (.iand, 1) := by decide +kernel
theorem dX6_cut_112 : decode cX6_cut 112 = .ok (.invokestatic 110, 3) := by decide +kernel
theorem dX6_cut_115 : decode cX6_cut 115 = .ok (.iadd, 1) := by decide +kernel
theorem dX6_cut_116 : decode cX6_cut 116 = .ok (.ireturn, 1) := by decide +kernel
theorem dX6_cut_117 : decode cX6_cut 117 = .ok (.iload 4, 2) := by decide +kernel
theorem dX6_cut_119 : decode cX6_cut 119 = .ok (.ireturn, 1) := by decide +kernel
theorem dX6_cut_120 : decode cX6_cut 120 = .ok (.iload_n 3, 1) := by decide +kernel
theorem dX6_cut_121 : decode cX6_cut 121 = .ok (.ireturn, 1) := by decide +kernel
theorem dX6_apart_0 : decode cX6_apart 0 = .ok (.aload_n 0, 1) := by decide +kernel
theorem dX6_apart_1 : decode cX6_apart 1 = .ok (.getfield 16, 3) := by decide +kernel
theorem dX6_apart_4 : decode cX6_apart 4 = .ok (.iload_n 1, 1) := by decide +kernel
theorem dX6_apart_5 : decode cX6_apart 5 = .ok (.invokevirtual 97, 3) := by decide +kernel
theorem dX6_apart_8 : decode cX6_apart 8 = .ok (.ifCond .ne 6, 3) := by decide +kernel
theorem dX6_apart_11 : decode cX6_apart 11 = .ok (.bipush (-101), 2) := by decide +kernel
theorem dX6_apart_13 : decode cX6_apart 13 = .ok (.ireturn, 1) := by decide +kernel
theorem dX6_apart_14 : decode cX6_apart 14 = .ok (.aload_n 0, 1) := by decide +kernel
theorem dX6_apart_15 : decode cX6_apart 15 = .ok (.getfield 16, 3) := by decide +kernel
theorem dX6_apart_18 : decode cX6_apart 18 = .ok (.getfield 103, 3) := by decide +kernel
theorem dX6_apart_21 : decode cX6_apart 21 = .ok (.iload_n 1, 1) := by decide +kernel
theorem dX6_apart_22 : decode cX6_apart 22 = .ok (.iaload, 1) := by decide +kernel
theorem dX6_apart_23 : decode cX6_apart 23 = .ok (.iconst 1, 1) := by decide +kernel
theorem dX6_apart_24 : decode cX6_apart 24 = .ok (.if_icmp .ne 5, 3) := by decide +kernel
theorem dX6_apart_27 : decode cX6_apart 27 = .ok (.iconst (-1), 1) := by decide +kernel
theorem dX6_apart_28 : decode cX6_apart 28 = .ok (.ireturn, 1) := by decide +kernel
theorem dX6_apart_29 : decode cX6_apart 29 = .ok (.aload_n 0, 1) := by decide +kernel
theorem dX6_apart_30 : decode cX6_apart 30 = .ok (.iload_n 1, 1) := by decide +kernel
theorem dX6_apart_31 : decode cX6_apart 31 = .ok (.invokevirtual 160, 3) := by decide +kernel
theorem dX6_apart_34 : decode cX6_apart 34 = .ok (.istore_n 2, 1) := by decide +kernel
theorem dX6_apart_35 : decode cX6_apart 35 = .ok (.aload_n 0, 1) := by decide +kernel
theorem dX6_apart_36 : decode cX6_apart 36 = .ok (.getfield 16, 3) := by decide +kernel
theorem dX6_apart_39 : decode cX6_apart 39 = .ok (.invokevirtual 151, 3) := by decide +kernel
theorem dX6_apart_42 : decode cX6_apart 42 = .ok (.iconst 1, 1) := by decide +kernel
theorem dX6_apart_43 : decode cX6_apart 43 = .ok (.iload_n 1, 1) := by decide +kernel
theorem dX6_apart_44 : decode cX6_apart 44 = .ok (.ishl, 1) := by decide +kernel
theorem dX6_apart_45 : decode cX6_apart 45 = .ok (.iconst (-1), 1) := by decide +kernel
theorem dX6_apart_46 : decode cX6_apart 46 = .ok (.ixor, 1) := by decide +kernel
theorem dX6_apart_47 : decode cX6_apart 47 = .ok (.iand, 1) := by decide +kernel
theorem dX6_apart_48 : decode cX6_apart 48 = .ok (.istore_n 3, 1) := by decide +kernel
theorem dX6_apart_49 : decode cX6_apart 49 = .ok (.iconst 0, 1) := by decide +kernel
theorem dX6_apart_50 : decode cX6_apart 50 = .ok (.istore 4, 2) := by decide +kernel
theorem dX6_apart_52 : decode cX6_apart 52 = .ok (.iload 4, 2) := by decide +kernel
theorem dX6_apart_54 : decode cX6_apart 54 = .ok (.iload_n 3, 1) := by decide +kernel
theorem dX6_apart_55 : decode cX6_apart 55 = .ok (.if_icmp .gt 46, 3) := by decide +kernel
theorem dX6_apart_58 : decode cX6_apart 58 = .ok (.iload 4, 2) := by decide +kernel
theorem dX6_apart_60 : decode cX6_apart 60 = .ok (.iload_n 3, 1) := by decide +kernel
theorem dX6_apart_61 : decode cX6_apart 61 = .ok (.iconst (-1), 1) := by decide +kernel
theorem dX6_apart_62 : decode cX6_apart 62 = .ok (.ixor, 1) := by decide +kernel
theorem dX6_apart_63 : decode cX6_apart 63 = .ok (.iand, 1) := by decide +kernel
theorem dX6_apart_64 : decode cX6_apart 64 = .ok (.ifCond .ne 31, 3) := by decide +kernel
theorem dX6_apart_67 : decode cX6_apart 67 = .ok (.iload 4, 2) := by decide +kernel
theorem dX6_apart_69 : decode cX6_apart 69 = .ok (.invokestatic 110, 3) := by decide +kernel
theorem dX6_apart_72 : decode cX6_apart 72 = .ok (.iload_n 2, 1) := by decide +kernel
theorem dX6_apart_73 : decode cX6_apart 73 = .ok (.if_icmp .ne 22, 3) := by decide +kernel
theorem dX6_apart_76 : decode cX6_apart 76 = .ok (.aload_n 0, 1) := by decide +kernel
theorem dX6_apart_77 : decode cX6_apart 77 = .ok (.getfield 45, 3) := by decide +kernel
theorem dX6_apart_80 : decode cX6_apart 80 = .ok (.iload 4, 2) := by decide +kernel
theorem dX6_apart_82 : decode cX6_apart 82 = .ok (.invokevirtual 198, 3) := by decide +kernel
theorem dX6_apart_85 : decode cX6_apart 85 = .ok (.iload_n 1, 1) := by decide +kernel
theorem dX6_apart_86 : decode cX6_apart 86 = .ok (.invokestatic 172, 3) := by decide +kernel
theorem dX6_apart_89 : decode cX6_apart 89 = .ok (.ifCond .ne 6, 3) := by decide +kernel
theorem dX6_apart_92 : decode cX6_apart 92 = .ok (.iload 4, 2) := by decide +kernel
theorem dX6_apart_94 : decode cX6_apart 94 = .ok (.ireturn, 1) := by decide +kernel
theorem dX6_apart_95 : decode cX6_apart 95 = .ok (.iinc 4 1, 3) := by decide +kernel
theorem dX6_apart_98 : decode cX6_apart 98 = .ok (.goto (-46), 3) := by decide +kernel
theorem dX6_apart_101 : decode cX6_apart 101 = .ok (.iload_n 3, 1) := by decide +kernel
theorem dX6_apart_102 : decode cX6_apart 102 = .ok (.ireturn, 1) := by decide +kernel
theorem dX6_without_0 : decode cX6_without 0 = .ok (.aload_n 0, 1) := by decide +kernel
theorem dX6_without_1 : decode cX6_without 1 = .ok (.getfield 16, 3) := by decide +kernel
theorem dX6_without_4 : decode cX6_without 4 = .ok (.iload_n 1, 1) := by decide +kernel
theorem dX6_without_5 : decode cX6_without 5 = .ok (.iload_n 2, 1) := by decide +kernel
theorem dX6_without_6 : decode cX6_without 6 = .ok (.invokevirtual 115, 3) := by decide +kernel
theorem dX6_without_9 : decode cX6_without 9 = .ok (.ifCond .ne 6, 3) := by decide +kernel
theorem dX6_without_12 : decode cX6_without 12 = .ok (.bipush (-101), 2) := by decide +kernel
theorem dX6_without_14 : decode cX6_without 14 = .ok (.ireturn, 1) := by decide +kernel
theorem dX6_without_15 : decode cX6_without 15 = .ok (.aload_n 0, 1) := by decide +kernel
theorem dX6_without_16 : decode cX6_without 16 = .ok (.getfield 16, 3) := by decide +kernel
theorem dX6_without_19 : decode cX6_without 19 = .ok (.iload_n 1, 1) := by decide +kernel
theorem dX6_without_20 : decode cX6_without 20 = .ok (.iload_n 2, 1) := by decide +kernel
theorem dX6_without_21 : decode cX6_without 21 = .ok (.invokevirtual 119, 3) := by decide +kernel
theorem dX6_without_24 : decode cX6_without 24 = .ok (.ifCond .ne 6, 3) := by decide +kernel
theorem dX6_without_27 : decode cX6_without 27 = .ok (.bipush (-103), 2) := by decide +kernel
theorem dX6_without_29 : decode cX6_without 29 = .ok (.ireturn, 1) := by decide +kernel
theorem dX6_without_30 : decode cX6_without 30 = .ok (.iload_n 3, 1) := by decide +kernel
theorem dX6_without_31 : decode cX6_without 31 = .ok (.ifCond .lt 8, 3) := by decide +kernel
theorem dX6_without_34 : decode cX6_without 34 = .ok (.iload_n 3, 1) := by decide +kernel
theorem dX6_without_35 : decode cX6_without 35 = .ok (.iconst 2, 1) := by decide +kernel
theorem dX6_without_36 : decode cX6_without 36 = .ok (.if_icmp .le 6, 3) := by decide +kernel
theorem dX6_without_39 : decode cX6_without 39 = .ok (.bipush (-102), 2) := by decide +kernel
theorem dX6_without_41 : decode cX6_without 41 = .ok (.ireturn, 1) := by decide +kernel
theorem dX6_without_42 : decode cX6_without 42 = .ok (.aload_n 0, 1) := by decide +kernel
theorem dX6_without_43 : decode cX6_without 43 = .ok (.iload_n 1, 1) := by decide +kernel
theorem dX6_without_44 : decode cX6_without 44 = .ok (.iload_n 2, 1) := by decide +kernel
theorem dX6_without_45 : decode cX6_without 45 = .ok (.invokevirtual 201, 3) := by decide +kernel
theorem dX6_without_48 : decode cX6_without 48 = .ok (.iload_n 3, 1) := by decide +kernel
theorem dX6_without_49 : decode cX6_without 49 = .ok (.lookupswitch 66 #[(0, 27), (1, 42)], 27) := by decide +kernel
theorem dX6_without_76 : decode cX6_without 76 = .ok (.aload_n 0, 1) := by decide +kernel
theorem dX6_without_77 : decode cX6_without 77 = .ok (.aload_n 0, 1) := by decide +kernel
theorem dX6_without_78 : decode cX6_without 78 = .ok (.getfield 16, 3) := by decide +kernel
theorem dX6_without_81 : decode cX6_without 81 = .ok (.invokevirtual 151, 3) := by decide +kernel
theorem dX6_without_84 : decode cX6_without 84 = .ok (.invokevirtual 169, 3) := by decide +kernel
theorem dX6_without_87 : decode cX6_without 87 = .ok (.invokestatic 110, 3) := by decide +kernel
theorem dX6_without_90 : decode cX6_without 90 = .ok (.ireturn, 1) := by decide +kernel
theorem dX6_without_91 : decode cX6_without 91 = .ok (.aload_n 0, 1) := by decide +kernel
theorem dX6_without_92 : decode cX6_without 92 = .ok (.aload_n 0, 1) := by decide +kernel
theorem dX6_without_93 : decode cX6_without 93 = .ok (.getfield 16, 3) := by decide +kernel
theorem dX6_without_96 : decode cX6_without 96 = .ok (.invokevirtual 151, 3) := by decide +kernel
theorem dX6_without_99 : decode cX6_without 99 = .ok (.invokevirtual 169, 3) := by decide +kernel
theorem dX6_without_102 : decode cX6_without 102 = .ok (.aload_n 0, 1) := by decide +kernel
theorem dX6_without_103 : decode cX6_without 103 = .ok (.getfield 16, 3) := by decide +kernel
theorem dX6_without_106 : decode cX6_without 106 = .ok (.iconst 2, 1) := by decide +kernel
theorem dX6_without_107 : decode cX6_without 107 = .ok (.invokevirtual 106, 3) := by decide +kernel
theorem dX6_without_110 : decode cX6_without 110 = .ok (.iand, 1) := by decide +kernel
theorem dX6_without_111 : decode cX6_without 111 = .ok (.invokestatic 110, 3) := by decide +kernel
theorem dX6_without_114 : decode cX6_without 114 = .ok (.ireturn, 1) := by decide +kernel
theorem dX6_without_115 : decode cX6_without 115 = .ok (.aload_n 0, 1) := by decide +kernel
theorem dX6_without_116 : decode cX6_without 116 = .ok (.getfield 45, 3) := by decide +kernel
theorem dX6_without_119 : decode cX6_without 119 = .ok (.getfield 163, 3) := by decide +kernel
theorem dX6_without_122 : decode cX6_without 122 = .ok (.iload_n 2, 1) := by decide +kernel
theorem dX6_without_123 : decode cX6_without 123 = .ok (.iaload, 1) := by decide +kernel
theorem dX6_without_124 : decode cX6_without 124 = .ok (.ireturn, 1) := by decide +kernel
theorem dX6_dearest_0 : decode cX6_dearest 0 = .ok (.aload_n 0, 1) := by decide +kernel
theorem dX6_dearest_1 : decode cX6_dearest 1 = .ok (.getfield 16, 3) := by decide +kernel
theorem dX6_dearest_4 : decode cX6_dearest 4 = .ok (.invokevirtual 85, 3) := by decide +kernel
theorem dX6_dearest_7 : decode cX6_dearest 7 = .ok (.ifCond .ne 6, 3) := by decide +kernel
theorem dX6_dearest_10 : decode cX6_dearest 10 = .ok (.bipush (-103), 2) := by decide +kernel
theorem dX6_dearest_12 : decode cX6_dearest 12 = .ok (.ireturn, 1) := by decide +kernel
theorem dX6_dearest_13 : decode cX6_dearest 13 = .ok (.iconst (-1), 1) := by decide +kernel
theorem dX6_dearest_14 : decode cX6_dearest 14 = .ok (.istore_n 1, 1) := by decide +kernel
theorem dX6_dearest_15 : decode cX6_dearest 15 = .ok (.bipush 10, 2) := by decide +kernel
theorem dX6_dearest_17 : decode cX6_dearest 17 = .ok (.istore_n 2, 1) := by decide +kernel
theorem dX6_dearest_18 : decode cX6_dearest 18 = .ok (.iconst 0, 1) := by decide +kernel
theorem dX6_dearest_19 : decode cX6_dearest 19 = .ok (.istore_n 3, 1) := by decide +kernel
theorem dX6_dearest_20 : decode cX6_dearest 20 = .ok (.iload_n 3, 1) := by decide +kernel
theorem dX6_dearest_21 : decode cX6_dearest 21 = .ok (.aload_n 0, 1) := by decide +kernel
theorem dX6_dearest_22 : decode cX6_dearest 22 = .ok (.getfield 16, 3) := by decide +kernel
theorem dX6_dearest_25 : decode cX6_dearest 25 = .ok (.getfield 82, 3) := by decide +kernel
theorem dX6_dearest_28 : decode cX6_dearest 28 = .ok (.if_icmp .ge 86, 3) := by decide +kernel
theorem dX6_dearest_31 : decode cX6_dearest 31 = .ok (.iconst 0, 1) := by decide +kernel
theorem dX6_dearest_32 : decode cX6_dearest 32 = .ok (.istore 4, 2) := by decide +kernel
theorem dX6_dearest_34 : decode cX6_dearest 34 = .ok (.iload 4, 2) := by decide +kernel
theorem dX6_dearest_36 : decode cX6_dearest 36 = .ok (.aload_n 0, 1) := by decide +kernel
theorem dX6_dearest_37 : decode cX6_dearest 37 = .ok (.getfield 16, 3) := by decide +kernel
theorem dX6_dearest_40 : decode cX6_dearest 40 = .ok (.getfield 82, 3) := by decide +kernel
theorem dX6_dearest_43 : decode cX6_dearest 43 = .ok (.if_icmp .ge 65, 3) := by decide +kernel
theorem dX6_dearest_46 : decode cX6_dearest 46 = .ok (.aload_n 0, 1) := by decide +kernel
theorem dX6_dearest_47 : decode cX6_dearest 47 = .ok (.getfield 16, 3) := by decide +kernel
theorem dX6_dearest_50 : decode cX6_dearest 50 = .ok (.iload_n 3, 1) := by decide +kernel
theorem dX6_dearest_51 : decode cX6_dearest 51 = .ok (.iload 4, 2) := by decide +kernel
theorem dX6_dearest_53 : decode cX6_dearest 53 = .ok (.invokevirtual 119, 3) := by decide +kernel
theorem dX6_dearest_56 : decode cX6_dearest 56 = .ok (.ifCond .ne 6, 3) := by decide +kernel
theorem dX6_dearest_59 : decode cX6_dearest 59 = .ok (.goto 43, 3) := by decide +kernel
theorem dX6_dearest_62 : decode cX6_dearest 62 = .ok (.aload_n 0, 1) := by decide +kernel
theorem dX6_dearest_63 : decode cX6_dearest 63 = .ok (.iload_n 3, 1) := by decide +kernel
theorem dX6_dearest_64 : decode cX6_dearest 64 = .ok (.iload 4, 2) := by decide +kernel
theorem dX6_dearest_66 : decode cX6_dearest 66 = .ok (.invokevirtual 201, 3) := by decide +kernel
theorem dX6_dearest_69 : decode cX6_dearest 69 = .ok (.aload_n 0, 1) := by decide +kernel
theorem dX6_dearest_70 : decode cX6_dearest 70 = .ok (.aload_n 0, 1) := by decide +kernel
theorem dX6_dearest_71 : decode cX6_dearest 71 = .ok (.getfield 16, 3) := by decide +kernel
theorem dX6_dearest_74 : decode cX6_dearest 74 = .ok (.invokevirtual 151, 3) := by decide +kernel
theorem dX6_dearest_77 : decode cX6_dearest 77 = .ok (.invokevirtual 169, 3) := by decide +kernel
theorem dX6_dearest_80 : decode cX6_dearest 80 = .ok (.invokestatic 110, 3) := by decide +kernel
theorem dX6_dearest_83 : decode cX6_dearest 83 = .ok (.istore 5, 2) := by decide +kernel
theorem dX6_dearest_85 : decode cX6_dearest 85 = .ok (.iload 5, 2) := by decide +kernel
theorem dX6_dearest_87 : decode cX6_dearest 87 = .ok (.iload_n 2, 1) := by decide +kernel
theorem dX6_dearest_88 : decode cX6_dearest 88 = .ok (.if_icmp .ge 14, 3) := by decide +kernel
theorem dX6_dearest_91 : decode cX6_dearest 91 = .ok (.iload 5, 2) := by decide +kernel
theorem dX6_dearest_93 : decode cX6_dearest 93 = .ok (.istore_n 2, 1) := by decide +kernel
theorem dX6_dearest_94 : decode cX6_dearest 94 = .ok (.bipush 10, 2) := by decide +kernel
theorem dX6_dearest_96 : decode cX6_dearest 96 = .ok (.iload_n 3, 1) := by decide +kernel
theorem dX6_dearest_97 : decode cX6_dearest 97 = .ok (.imul, 1) := by decide +kernel
theorem dX6_dearest_98 : decode cX6_dearest 98 = .ok (.iload 4, 2) := by decide +kernel
theorem dX6_dearest_100 : decode cX6_dearest 100 = .ok (.iadd, 1) := by decide +kernel
theorem dX6_dearest_101 : decode cX6_dearest 101 = .ok (.istore_n 1, 1) := by decide +kernel
theorem dX6_dearest_102 : decode cX6_dearest 102 = .ok (.iinc 4 1, 3) := by decide +kernel
theorem dX6_dearest_105 : decode cX6_dearest 105 = .ok (.goto (-71), 3) := by decide +kernel
theorem dX6_dearest_108 : decode cX6_dearest 108 = .ok (.iinc 3 1, 3) := by decide +kernel
theorem dX6_dearest_111 : decode cX6_dearest 111 = .ok (.goto (-91), 3) := by decide +kernel
theorem dX6_dearest_114 : decode cX6_dearest 114 = .ok (.iload_n 1, 1) := by decide +kernel
theorem dX6_dearest_115 : decode cX6_dearest 115 = .ok (.ireturn, 1) := by decide +kernel
theorem dX6_chance_0 : decode cX6_chance 0 = .ok (.aload_n 0, 1) := by decide +kernel
theorem dX6_chance_1 : decode cX6_chance 1 = .ok (.getfield 16, 3) := by decide +kernel
theorem dX6_chance_4 : decode cX6_chance 4 = .ok (.iload_n 1, 1) := by decide +kernel
theorem dX6_chance_5 : decode cX6_chance 5 = .ok (.invokevirtual 97, 3) := by decide +kernel
theorem dX6_chance_8 : decode cX6_chance 8 = .ok (.ifCond .ne 6, 3) := by decide +kernel
theorem dX6_chance_11 : decode cX6_chance 11 = .ok (.bipush (-101), 2) := by decide +kernel
theorem dX6_chance_13 : decode cX6_chance 13 = .ok (.ireturn, 1) := by decide +kernel
theorem dX6_chance_14 : decode cX6_chance 14 = .ok (.iload_n 2, 1) := by decide +kernel
theorem dX6_chance_15 : decode cX6_chance 15 = .ok (.invokestatic 205, 3) := by decide +kernel
theorem dX6_chance_18 : decode cX6_chance 18 = .ok (.ifCond .eq 12, 3) := by decide +kernel
theorem dX6_chance_21 : decode cX6_chance 21 = .ok (.iload_n 3, 1) := by decide +kernel
theorem dX6_chance_22 : decode cX6_chance 22 = .ok (.ifCond .lt 8, 3) := by decide +kernel
theorem dX6_chance_25 : decode cX6_chance 25 = .ok (.iload_n 3, 1) := by decide +kernel
theorem dX6_chance_26 : decode cX6_chance 26 = .ok (.iconst 1, 1) := by decide +kernel
theorem dX6_chance_27 : decode cX6_chance 27 = .ok (.if_icmp .le 6, 3) := by decide +kernel
theorem dX6_chance_30 : decode cX6_chance 30 = .ok (.bipush (-102), 2) := by decide +kernel
theorem dX6_chance_32 : decode cX6_chance 32 = .ok (.ireturn, 1) := by decide +kernel
theorem dX6_chance_33 : decode cX6_chance 33 = .ok (.aload_n 0, 1) := by decide +kernel
theorem dX6_chance_34 : decode cX6_chance 34 = .ok (.getfield 16, 3) := by decide +kernel
theorem dX6_chance_37 : decode cX6_chance 37 = .ok (.iconst 1, 1) := by decide +kernel
theorem dX6_chance_38 : decode cX6_chance 38 = .ok (.invokevirtual 106, 3) := by decide +kernel
theorem dX6_chance_41 : decode cX6_chance 41 = .ok (.ifCond .ne 6, 3) := by decide +kernel
theorem dX6_chance_44 : decode cX6_chance 44 = .ok (.bipush (-103), 2) := by decide +kernel
theorem dX6_chance_46 : decode cX6_chance 46 = .ok (.ireturn, 1) := by decide +kernel
theorem dX6_chance_47 : decode cX6_chance 47 = .ok (.aload_n 0, 1) := by decide +kernel
theorem dX6_chance_48 : decode cX6_chance 48 = .ok (.getfield 49, 3) := by decide +kernel
theorem dX6_chance_51 : decode cX6_chance 51 = .ok (.aload_n 0, 1) := by decide +kernel
theorem dX6_chance_52 : decode cX6_chance 52 = .ok (.getfield 16, 3) := by decide +kernel
theorem dX6_chance_55 : decode cX6_chance 55 = .ok (.iload_n 2, 1) := by decide +kernel
theorem dX6_chance_56 : decode cX6_chance 56 = .ok (.invokevirtual 208, 3) := by decide +kernel
theorem dX6_chance_59 : decode cX6_chance 59 = .ok (.iload_n 3, 1) := by decide +kernel
theorem dX6_chance_60 : decode cX6_chance 60 = .ok (.ifCond .ne 14, 3) := by decide +kernel
theorem dX6_chance_63 : decode cX6_chance 63 = .ok (.aload_n 0, 1) := by decide +kernel
theorem dX6_chance_64 : decode cX6_chance 64 = .ok (.getfield 49, 3) := by decide +kernel
theorem dX6_chance_67 : decode cX6_chance 67 = .ok (.iload_n 1, 1) := by decide +kernel
theorem dX6_chance_68 : decode cX6_chance 68 = .ok (.invokevirtual 212, 3) := by decide +kernel
theorem dX6_chance_71 : decode cX6_chance 71 = .ok (.goto 11, 3) := by decide +kernel
theorem dX6_chance_74 : decode cX6_chance 74 = .ok (.aload_n 0, 1) := by decide +kernel
theorem dX6_chance_75 : decode cX6_chance 75 = .ok (.getfield 49, 3) := by decide +kernel
theorem dX6_chance_78 : decode cX6_chance 78 = .ok (.iload_n 1, 1) := by decide +kernel
theorem dX6_chance_79 : decode cX6_chance 79 = .ok (.invokevirtual 215, 3) := by decide +kernel
theorem dX6_chance_82 : decode cX6_chance 82 = .ok (.ireturn, 1) := by decide +kernel
theorem dX6_thousandths_0 : decode cX6_thousandths 0 = .ok (.aload_n 0, 1) := by decide +kernel
theorem dX6_thousandths_1 : decode cX6_thousandths 1 = .ok (.getfield 16, 3) := by decide +kernel
theorem dX6_thousandths_4 : decode cX6_thousandths 4 = .ok (.iload_n 1, 1) := by decide +kernel
theorem dX6_thousandths_5 : decode cX6_thousandths 5 = .ok (.invokevirtual 97, 3) := by decide +kernel
theorem dX6_thousandths_8 : decode cX6_thousandths 8 = .ok (.ifCond .ne 6, 3) := by decide +kernel
theorem dX6_thousandths_11 : decode cX6_thousandths 11 = .ok (.bipush (-101), 2) := by decide +kernel
theorem dX6_thousandths_13 : decode cX6_thousandths 13 = .ok (.ireturn, 1) := by decide +kernel
theorem dX6_thousandths_14 : decode cX6_thousandths 14 = .ok (.iload_n 2, 1) := by decide +kernel
theorem dX6_thousandths_15 : decode cX6_thousandths 15 = .ok (.invokestatic 205, 3) := by decide +kernel
theorem dX6_thousandths_18 : decode cX6_thousandths 18 = .ok (.ifCond .ne 6, 3) := by decide +kernel
theorem dX6_thousandths_21 : decode cX6_thousandths 21 = .ok (.bipush (-102), 2) := by decide +kernel
theorem dX6_thousandths_23 : decode cX6_thousandths 23 = .ok (.ireturn, 1) := by decide +kernel
theorem dX6_thousandths_24 : decode cX6_thousandths 24 = .ok (.aload_n 0, 1) := by decide +kernel
theorem dX6_thousandths_25 : decode cX6_thousandths 25 = .ok (.getfield 16, 3) := by decide +kernel
theorem dX6_thousandths_28 : decode cX6_thousandths 28 = .ok (.iconst 1, 1) := by decide +kernel
theorem dX6_thousandths_29 : decode cX6_thousandths 29 = .ok (.invokevirtual 106, 3) := by decide +kernel
theorem dX6_thousandths_32 : decode cX6_thousandths 32 = .ok (.ifCond .ne 6, 3) := by decide +kernel
theorem dX6_thousandths_35 : decode cX6_thousandths 35 = .ok (.bipush (-103), 2) := by decide +kernel
theorem dX6_thousandths_37 : decode cX6_thousandths 37 = .ok (.ireturn, 1) := by decide +kernel
theorem dX6_thousandths_38 : decode cX6_thousandths 38 = .ok (.aload_n 0, 1) := by decide +kernel
theorem dX6_thousandths_39 : decode cX6_thousandths 39 = .ok (.getfield 49, 3) := by decide +kernel
theorem dX6_thousandths_42 : decode cX6_thousandths 42 = .ok (.aload_n 0, 1) := by decide +kernel
theorem dX6_thousandths_43 : decode cX6_thousandths 43 = .ok (.getfield 16, 3) := by decide +kernel
theorem dX6_thousandths_46 : decode cX6_thousandths 46 = .ok (.iload_n 2, 1) := by decide +kernel
theorem dX6_thousandths_47 : decode cX6_thousandths 47 = .ok (.invokevirtual 208, 3) := by decide +kernel
theorem dX6_thousandths_50 : decode cX6_thousandths 50 = .ok (.aload_n 0, 1) := by decide +kernel
theorem dX6_thousandths_51 : decode cX6_thousandths 51 = .ok (.getfield 49, 3) := by decide +kernel
theorem dX6_thousandths_54 : decode cX6_thousandths 54 = .ok (.iload_n 1, 1) := by decide +kernel
theorem dX6_thousandths_55 : decode cX6_thousandths 55 = .ok (.invokevirtual 218, 3) := by decide +kernel
theorem dX6_thousandths_58 : decode cX6_thousandths 58 = .ok (.ireturn, 1) := by decide +kernel
theorem dX6_order_0 : decode cX6_order 0 = .ok (.iload_n 1, 1) := by decide +kernel
theorem dX6_order_1 : decode cX6_order 1 = .ok (.invokestatic 205, 3) := by decide +kernel
theorem dX6_order_4 : decode cX6_order 4 = .ok (.ifCond .ne 6, 3) := by decide +kernel
theorem dX6_order_7 : decode cX6_order 7 = .ok (.bipush (-102), 2) := by decide +kernel
theorem dX6_order_9 : decode cX6_order 9 = .ok (.ireturn, 1) := by decide +kernel
theorem dX6_order_10 : decode cX6_order 10 = .ok (.aload_n 0, 1) := by decide +kernel
theorem dX6_order_11 : decode cX6_order 11 = .ok (.getfield 16, 3) := by decide +kernel
theorem dX6_order_14 : decode cX6_order 14 = .ok (.iconst 1, 1) := by decide +kernel
theorem dX6_order_15 : decode cX6_order 15 = .ok (.invokevirtual 106, 3) := by decide +kernel
theorem dX6_order_18 : decode cX6_order 18 = .ok (.ifCond .ne 6, 3) := by decide +kernel
theorem dX6_order_21 : decode cX6_order 21 = .ok (.bipush (-103), 2) := by decide +kernel
theorem dX6_order_23 : decode cX6_order 23 = .ok (.ireturn, 1) := by decide +kernel
theorem dX6_order_24 : decode cX6_order 24 = .ok (.aload_n 0, 1) := by decide +kernel
theorem dX6_order_25 : decode cX6_order 25 = .ok (.getfield 16, 3) := by decide +kernel
theorem dX6_order_28 : decode cX6_order 28 = .ok (.iload_n 2, 1) := by decide +kernel
theorem dX6_order_29 : decode cX6_order 29 = .ok (.invokevirtual 97, 3) := by decide +kernel
theorem dX6_order_32 : decode cX6_order 32 = .ok (.ifCond .ne 6, 3) := by decide +kernel
theorem dX6_order_35 : decode cX6_order 35 = .ok (.bipush (-101), 2) := by decide +kernel
theorem dX6_order_37 : decode cX6_order 37 = .ok (.ireturn, 1) := by decide +kernel
theorem dX6_order_38 : decode cX6_order 38 = .ok (.aload_n 0, 1) := by decide +kernel
theorem dX6_order_39 : decode cX6_order 39 = .ok (.getfield 49, 3) := by decide +kernel
theorem dX6_order_42 : decode cX6_order 42 = .ok (.aload_n 0, 1) := by decide +kernel
theorem dX6_order_43 : decode cX6_order 43 = .ok (.getfield 16, 3) := by decide +kernel
theorem dX6_order_46 : decode cX6_order 46 = .ok (.iload_n 1, 1) := by decide +kernel
theorem dX6_order_47 : decode cX6_order 47 = .ok (.invokevirtual 208, 3) := by decide +kernel
theorem dX6_order_50 : decode cX6_order 50 = .ok (.aload_n 0, 1) := by decide +kernel
theorem dX6_order_51 : decode cX6_order 51 = .ok (.getfield 49, 3) := by decide +kernel
theorem dX6_order_54 : decode cX6_order 54 = .ok (.iload_n 2, 1) := by decide +kernel
theorem dX6_order_55 : decode cX6_order 55 = .ok (.invokevirtual 221, 3) := by decide +kernel
theorem dX6_order_58 : decode cX6_order 58 = .ok (.ireturn, 1) := by decide +kernel
theorem dX6_count_0 : decode cX6_count 0 = .ok (.iload_n 1, 1) := by decide +kernel
theorem dX6_count_1 : decode cX6_count 1 = .ok (.tableswitch 63 0 4 #[35, 43, 48, 53, 58], 35) := by decide +kernel
theorem dX6_count_36 : decode cX6_count 36 = .ok (.aload_n 0, 1) := by decide +kernel
theorem dX6_count_37 : decode cX6_count 37 = .ok (.getfield 16, 3) := by decide +kernel
theorem dX6_count_40 : decode cX6_count 40 = .ok (.getfield 82, 3) := by decide +kernel
theorem dX6_count_43 : decode cX6_count 43 = .ok (.ireturn, 1) := by decide +kernel
theorem dX6_count_44 : decode cX6_count 44 = .ok (.aload_n 0, 1) := by decide +kernel
theorem dX6_count_45 : decode cX6_count 45 = .ok (.getfield 53, 3) := by decide +kernel
theorem dX6_count_48 : decode cX6_count 48 = .ok (.ireturn, 1) := by decide +kernel
theorem dX6_count_49 : decode cX6_count 49 = .ok (.aload_n 0, 1) := by decide +kernel
theorem dX6_count_50 : decode cX6_count 50 = .ok (.getfield 79, 3) := by decide +kernel
theorem dX6_count_53 : decode cX6_count 53 = .ok (.ireturn, 1) := by decide +kernel
theorem dX6_count_54 : decode cX6_count 54 = .ok (.aload_n 0, 1) := by decide +kernel
theorem dX6_count_55 : decode cX6_count 55 = .ok (.getfield 125, 3) := by decide +kernel
theorem dX6_count_58 : decode cX6_count 58 = .ok (.ireturn, 1) := by decide +kernel
theorem dX6_count_59 : decode cX6_count 59 = .ok (.aload_n 0, 1) := by decide +kernel
theorem dX6_count_60 : decode cX6_count 60 = .ok (.getfield 128, 3) := by decide +kernel
theorem dX6_count_63 : decode cX6_count 63 = .ok (.ireturn, 1) := by decide +kernel
theorem dX6_count_64 : decode cX6_count 64 = .ok (.bipush (-102), 2) := by decide +kernel
theorem dX6_count_66 : decode cX6_count 66 = .ok (.ireturn, 1) := by decide +kernel
theorem dX6_digest_0 : decode cX6_digest 0 = .ok (.ldc2_w 224, 3) := by decide +kernel
theorem dX6_digest_3 : decode cX6_digest 3 = .ok (.lstore_n 1, 1) := by decide +kernel
theorem dX6_digest_4 : decode cX6_digest 4 = .ok (.aload_n 0, 1) := by decide +kernel
theorem dX6_digest_5 : decode cX6_digest 5 = .ok (.getfield 16, 3) := by decide +kernel
theorem dX6_digest_8 : decode cX6_digest 8 = .ok (.invokevirtual 85, 3) := by decide +kernel
theorem dX6_digest_11 : decode cX6_digest 11 = .ok (.ifCond .eq 21, 3) := by decide +kernel
theorem dX6_digest_14 : decode cX6_digest 14 = .ok (.aload_n 0, 1) := by decide +kernel
theorem dX6_digest_15 : decode cX6_digest 15 = .ok (.lload_n 1, 1) := by decide +kernel
theorem dX6_digest_16 : decode cX6_digest 16 = .ok (.invokevirtual 226, 3) := by decide +kernel
theorem dX6_digest_19 : decode cX6_digest 19 = .ok (.lstore_n 1, 1) := by decide +kernel
theorem dX6_digest_20 : decode cX6_digest 20 = .ok (.aload_n 0, 1) := by decide +kernel
theorem dX6_digest_21 : decode cX6_digest 21 = .ok (.lload_n 1, 1) := by decide +kernel
theorem dX6_digest_22 : decode cX6_digest 22 = .ok (.invokevirtual 230, 3) := by decide +kernel
theorem dX6_digest_25 : decode cX6_digest 25 = .ok (.lstore_n 1, 1) := by decide +kernel
theorem dX6_digest_26 : decode cX6_digest 26 = .ok (.aload_n 0, 1) := by decide +kernel
theorem dX6_digest_27 : decode cX6_digest 27 = .ok (.lload_n 1, 1) := by decide +kernel
theorem dX6_digest_28 : decode cX6_digest 28 = .ok (.invokevirtual 233, 3) := by decide +kernel
theorem dX6_digest_31 : decode cX6_digest 31 = .ok (.lstore_n 1, 1) := by decide +kernel
theorem dX6_digest_32 : decode cX6_digest 32 = .ok (.aload_n 0, 1) := by decide +kernel
theorem dX6_digest_33 : decode cX6_digest 33 = .ok (.getfield 16, 3) := by decide +kernel
theorem dX6_digest_36 : decode cX6_digest 36 = .ok (.iconst 1, 1) := by decide +kernel
theorem dX6_digest_37 : decode cX6_digest 37 = .ok (.invokevirtual 106, 3) := by decide +kernel
theorem dX6_digest_40 : decode cX6_digest 40 = .ok (.ifCond .eq 9, 3) := by decide +kernel
theorem dX6_digest_43 : decode cX6_digest 43 = .ok (.aload_n 0, 1) := by decide +kernel
theorem dX6_digest_44 : decode cX6_digest 44 = .ok (.lload_n 1, 1) := by decide +kernel
theorem dX6_digest_45 : decode cX6_digest 45 = .ok (.invokevirtual 236, 3) := by decide +kernel
theorem dX6_digest_48 : decode cX6_digest 48 = .ok (.lstore_n 1, 1) := by decide +kernel
theorem dX6_digest_49 : decode cX6_digest 49 = .ok (.iconst 0, 1) := by decide +kernel
theorem dX6_digest_50 : decode cX6_digest 50 = .ok (.istore_n 3, 1) := by decide +kernel
theorem dX6_digest_51 : decode cX6_digest 51 = .ok (.iload_n 3, 1) := by decide +kernel
theorem dX6_digest_52 : decode cX6_digest 52 = .ok (.aload_n 0, 1) := by decide +kernel
theorem dX6_digest_53 : decode cX6_digest 53 = .ok (.getfield 53, 3) := by decide +kernel
theorem dX6_digest_56 : decode cX6_digest 56 = .ok (.if_icmp .ge 20, 3) := by decide +kernel
theorem dX6_digest_59 : decode cX6_digest 59 = .ok (.lload_n 1, 1) := by decide +kernel
theorem dX6_digest_60 : decode cX6_digest 60 = .ok (.aload_n 0, 1) := by decide +kernel
theorem dX6_digest_61 : decode cX6_digest 61 = .ok (.getfield 9, 3) := by decide +kernel
theorem dX6_digest_64 : decode cX6_digest 64 = .ok (.iload_n 3, 1) := by decide +kernel
theorem dX6_digest_65 : decode cX6_digest 65 = .ok (.iaload, 1) := by decide +kernel
theorem dX6_digest_66 : decode cX6_digest 66 = .ok (.invokestatic 239, 3) := by decide +kernel
theorem dX6_digest_69 : decode cX6_digest 69 = .ok (.lstore_n 1, 1) := by decide +kernel
theorem dX6_digest_70 : decode cX6_digest 70 = .ok (.iinc 3 1, 3) := by decide +kernel
theorem dX6_digest_73 : decode cX6_digest 73 = .ok (.goto (-22), 3) := by decide +kernel
theorem dX6_digest_76 : decode cX6_digest 76 = .ok (.iconst 0, 1) := by decide +kernel
theorem dX6_digest_77 : decode cX6_digest 77 = .ok (.istore_n 3, 1) := by decide +kernel
theorem dX6_digest_78 : decode cX6_digest 78 = .ok (.iload_n 3, 1) := by decide +kernel
theorem dX6_digest_79 : decode cX6_digest 79 = .ok (.iconst 4, 1) := by decide +kernel
theorem dX6_digest_80 : decode cX6_digest 80 = .ok (.if_icmp .gt 19, 3) := by decide +kernel
theorem dX6_digest_83 : decode cX6_digest 83 = .ok (.lload_n 1, 1) := by decide +kernel
theorem dX6_digest_84 : decode cX6_digest 84 = .ok (.aload_n 0, 1) := by decide +kernel
theorem dX6_digest_85 : decode cX6_digest 85 = .ok (.iload_n 3, 1) := by decide +kernel
theorem dX6_digest_86 : decode cX6_digest 86 = .ok (.invokevirtual 243, 3) := by decide +kernel
theorem dX6_digest_89 : decode cX6_digest 89 = .ok (.invokestatic 239, 3) := by decide +kernel
theorem dX6_digest_92 : decode cX6_digest 92 = .ok (.lstore_n 1, 1) := by decide +kernel
theorem dX6_digest_93 : decode cX6_digest 93 = .ok (.iinc 3 1, 3) := by decide +kernel
theorem dX6_digest_96 : decode cX6_digest 96 = .ok (.goto (-18), 3) := by decide +kernel
theorem dX6_digest_99 : decode cX6_digest 99 = .ok (.lload_n 1, 1) := by decide +kernel
theorem dX6_digest_100 : decode cX6_digest 100 = .ok (.lreturn, 1) := by decide +kernel
theorem dX6_add_0 : decode cX6_add 0 = .ok (.ldc2_w 246, 3) := by decide +kernel
theorem dX6_add_3 : decode cX6_add 3 = .ok (.lload_n 0, 1) := by decide +kernel
theorem dX6_add_4 : decode cX6_add 4 = .ok (.lmul, 1) := by decide +kernel
theorem dX6_add_5 : decode cX6_add 5 = .ok (.iload_n 2, 1) := by decide +kernel
theorem dX6_add_6 : decode cX6_add 6 = .ok (.i2l, 1) := by decide +kernel
theorem dX6_add_7 : decode cX6_add 7 = .ok (.ladd, 1) := by decide +kernel
theorem dX6_add_8 : decode cX6_add 8 = .ok (.lreturn, 1) := by decide +kernel
theorem dX6_addInk_0 : decode cX6_addInk 0 = .ok (.lload_n 1, 1) := by decide +kernel
theorem dX6_addInk_1 : decode cX6_addInk 1 = .ok (.lstore_n 3, 1) := by decide +kernel
theorem dX6_addInk_2 : decode cX6_addInk 2 = .ok (.aload_n 0, 1) := by decide +kernel
theorem dX6_addInk_3 : decode cX6_addInk 3 = .ok (.getfield 30, 3) := by decide +kernel
theorem dX6_addInk_6 : decode cX6_addInk 6 = .ok (.aload_n 0, 1) := by decide +kernel
theorem dX6_addInk_7 : decode cX6_addInk 7 = .ok (.getfield 16, 3) := by decide +kernel
theorem dX6_addInk_10 : decode cX6_addInk 10 = .ok (.invokevirtual 88, 3) := by decide +kernel
theorem dX6_addInk_13 : decode cX6_addInk 13 = .ok (.iconst 0, 1) := by decide +kernel
theorem dX6_addInk_14 : decode cX6_addInk 14 = .ok (.istore 5, 2) := by decide +kernel
theorem dX6_addInk_16 : decode cX6_addInk 16 = .ok (.iload 5, 2) := by decide +kernel
theorem dX6_addInk_18 : decode cX6_addInk 18 = .ok (.aload_n 0, 1) := by decide +kernel
theorem dX6_addInk_19 : decode cX6_addInk 19 = .ok (.getfield 30, 3) := by decide +kernel
theorem dX6_addInk_22 : decode cX6_addInk 22 = .ok (.getfield 91, 3) := by decide +kernel
theorem dX6_addInk_25 : decode cX6_addInk 25 = .ok (.if_icmp .ge 24, 3) := by decide +kernel
theorem dX6_addInk_28 : decode cX6_addInk 28 = .ok (.lload_n 3, 1) := by decide +kernel
theorem dX6_addInk_29 : decode cX6_addInk 29 = .ok (.aload_n 0, 1) := by decide +kernel
theorem dX6_addInk_30 : decode cX6_addInk 30 = .ok (.getfield 30, 3) := by decide +kernel
theorem dX6_addInk_33 : decode cX6_addInk 33 = .ok (.getfield 94, 3) := by decide +kernel
theorem dX6_addInk_36 : decode cX6_addInk 36 = .ok (.iload 5, 2) := by decide +kernel
theorem dX6_addInk_38 : decode cX6_addInk 38 = .ok (.iaload, 1) := by decide +kernel
theorem dX6_addInk_39 : decode cX6_addInk 39 = .ok (.invokestatic 239, 3) := by decide +kernel
theorem dX6_addInk_42 : decode cX6_addInk 42 = .ok (.lstore_n 3, 1) := by decide +kernel
theorem dX6_addInk_43 : decode cX6_addInk 43 = .ok (.iinc 5 1, 3) := by decide +kernel
theorem dX6_addInk_46 : decode cX6_addInk 46 = .ok (.goto (-30), 3) := by decide +kernel
theorem dX6_addInk_49 : decode cX6_addInk 49 = .ok (.lload_n 3, 1) := by decide +kernel
theorem dX6_addInk_50 : decode cX6_addInk 50 = .ok (.lreturn, 1) := by decide +kernel
theorem dX6_addPersons_0 : decode cX6_addPersons 0 = .ok (.lload_n 1, 1) := by decide +kernel
theorem dX6_addPersons_1 : decode cX6_addPersons 1 = .ok (.lstore_n 3, 1) := by decide +kernel
theorem dX6_addPersons_2 : decode cX6_addPersons 2 = .ok (.iconst 0, 1) := by decide +kernel
theorem dX6_addPersons_3 : decode cX6_addPersons 3 = .ok (.istore 5, 2) := by decide +kernel
theorem dX6_addPersons_5 : decode cX6_addPersons 5 = .ok (.iload 5, 2) := by decide +kernel
theorem dX6_addPersons_7 : decode cX6_addPersons 7 = .ok (.bipush 7, 2) := by decide +kernel
theorem dX6_addPersons_9 : decode cX6_addPersons 9 = .ok (.if_icmp .gt 20, 3) := by decide +kernel
theorem dX6_addPersons_12 : decode cX6_addPersons 12 = .ok (.lload_n 3, 1) := by decide +kernel
theorem dX6_addPersons_13 : decode cX6_addPersons 13 = .ok (.aload_n 0, 1) := by decide +kernel
theorem dX6_addPersons_14 : decode cX6_addPersons 14 = .ok (.iload 5, 2) := by decide +kernel
theorem dX6_addPersons_16 : decode cX6_addPersons 16 = .ok (.invokevirtual 248, 3) := by decide +kernel
theorem dX6_addPersons_19 : decode cX6_addPersons 19 = .ok (.invokestatic 239, 3) := by decide +kernel
theorem dX6_addPersons_22 : decode cX6_addPersons 22 = .ok (.lstore_n 3, 1) := by decide +kernel
theorem dX6_addPersons_23 : decode cX6_addPersons 23 = .ok (.iinc 5 1, 3) := by decide +kernel
theorem dX6_addPersons_26 : decode cX6_addPersons 26 = .ok (.goto (-21), 3) := by decide +kernel
theorem dX6_addPersons_29 : decode cX6_addPersons 29 = .ok (.iconst 0, 1) := by decide +kernel
theorem dX6_addPersons_30 : decode cX6_addPersons 30 = .ok (.istore 5, 2) := by decide +kernel
theorem dX6_addPersons_32 : decode cX6_addPersons 32 = .ok (.iload 5, 2) := by decide +kernel
theorem dX6_addPersons_34 : decode cX6_addPersons 34 = .ok (.aload_n 0, 1) := by decide +kernel
theorem dX6_addPersons_35 : decode cX6_addPersons 35 = .ok (.getfield 16, 3) := by decide +kernel
theorem dX6_addPersons_38 : decode cX6_addPersons 38 = .ok (.getfield 82, 3) := by decide +kernel
theorem dX6_addPersons_41 : decode cX6_addPersons 41 = .ok (.if_icmp .ge 49, 3) := by decide +kernel
theorem dX6_addPersons_44 : decode cX6_addPersons 44 = .ok (.iconst 0, 1) := by decide +kernel
theorem dX6_addPersons_45 : decode cX6_addPersons 45 = .ok (.istore 6, 2) := by decide +kernel
theorem dX6_addPersons_47 : decode cX6_addPersons 47 = .ok (.iload 6, 2) := by decide +kernel
theorem dX6_addPersons_49 : decode cX6_addPersons 49 = .ok (.bipush 7, 2) := by decide +kernel
theorem dX6_addPersons_51 : decode cX6_addPersons 51 = .ok (.if_icmp .gt 22, 3) := by decide +kernel
theorem dX6_addPersons_54 : decode cX6_addPersons 54 = .ok (.lload_n 3, 1) := by decide +kernel
theorem dX6_addPersons_55 : decode cX6_addPersons 55 = .ok (.aload_n 0, 1) := by decide +kernel
theorem dX6_addPersons_56 : decode cX6_addPersons 56 = .ok (.iload 5, 2) := by decide +kernel
theorem dX6_addPersons_58 : decode cX6_addPersons 58 = .ok (.iload 6, 2) := by decide +kernel
theorem dX6_addPersons_60 : decode cX6_addPersons 60 = .ok (.invokevirtual 251, 3) := by decide +kernel
theorem dX6_addPersons_63 : decode cX6_addPersons 63 = .ok (.invokestatic 239, 3) := by decide +kernel
theorem dX6_addPersons_66 : decode cX6_addPersons 66 = .ok (.lstore_n 3, 1) := by decide +kernel
theorem dX6_addPersons_67 : decode cX6_addPersons 67 = .ok (.iinc 6 1, 3) := by decide +kernel
theorem dX6_addPersons_70 : decode cX6_addPersons 70 = .ok (.goto (-23), 3) := by decide +kernel
theorem dX6_addPersons_73 : decode cX6_addPersons 73 = .ok (.lload_n 3, 1) := by decide +kernel
theorem dX6_addPersons_74 : decode cX6_addPersons 74 = .ok (.aload_n 0, 1) := by decide +kernel
theorem dX6_addPersons_75 : decode cX6_addPersons 75 = .ok (.iload 5, 2) := by decide +kernel
theorem dX6_addPersons_77 : decode cX6_addPersons 77 = .ok (.invokevirtual 254, 3) := by decide +kernel
theorem dX6_addPersons_80 : decode cX6_addPersons 80 = .ok (.invokestatic 239, 3) := by decide +kernel
theorem dX6_addPersons_83 : decode cX6_addPersons 83 = .ok (.lstore_n 3, 1) := by decide +kernel
theorem dX6_addPersons_84 : decode cX6_addPersons 84 = .ok (.iinc 5 1, 3) := by decide +kernel
theorem dX6_addPersons_87 : decode cX6_addPersons 87 = .ok (.goto (-55), 3) := by decide +kernel
theorem dX6_addPersons_90 : decode cX6_addPersons 90 = .ok (.lload_n 3, 1) := by decide +kernel
theorem dX6_addPersons_91 : decode cX6_addPersons 91 = .ok (.aload_n 0, 1) := by decide +kernel
theorem dX6_addPersons_92 : decode cX6_addPersons 92 = .ok (.invokevirtual 257, 3) := by decide +kernel
theorem dX6_addPersons_95 : decode cX6_addPersons 95 = .ok (.invokestatic 239, 3) := by decide +kernel
theorem dX6_addPersons_98 : decode cX6_addPersons 98 = .ok (.lreturn, 1) := by decide +kernel
theorem dX6_addTrust_0 : decode cX6_addTrust 0 = .ok (.lload_n 1, 1) := by decide +kernel
theorem dX6_addTrust_1 : decode cX6_addTrust 1 = .ok (.lstore_n 3, 1) := by decide +kernel
theorem dX6_addTrust_2 : decode cX6_addTrust 2 = .ok (.iconst 0, 1) := by decide +kernel
theorem dX6_addTrust_3 : decode cX6_addTrust 3 = .ok (.istore 5, 2) := by decide +kernel
theorem dX6_addTrust_5 : decode cX6_addTrust 5 = .ok (.iload 5, 2) := by decide +kernel
theorem dX6_addTrust_7 : decode cX6_addTrust 7 = .ok (.iconst 4, 1) := by decide +kernel
theorem dX6_addTrust_8 : decode cX6_addTrust 8 = .ok (.if_icmp .gt 20, 3) := by decide +kernel
theorem dX6_addTrust_11 : decode cX6_addTrust 11 = .ok (.lload_n 3, 1) := by decide +kernel
theorem dX6_addTrust_12 : decode cX6_addTrust 12 = .ok (.aload_n 0, 1) := by decide +kernel
theorem dX6_addTrust_13 : decode cX6_addTrust 13 = .ok (.iload 5, 2) := by decide +kernel
theorem dX6_addTrust_15 : decode cX6_addTrust 15 = .ok (.invokevirtual 260, 3) := by decide +kernel
theorem dX6_addTrust_18 : decode cX6_addTrust 18 = .ok (.invokestatic 239, 3) := by decide +kernel
theorem dX6_addTrust_21 : decode cX6_addTrust 21 = .ok (.lstore_n 3, 1) := by decide +kernel
theorem dX6_addTrust_22 : decode cX6_addTrust 22 = .ok (.iinc 5 1, 3) := by decide +kernel
theorem dX6_addTrust_25 : decode cX6_addTrust 25 = .ok (.goto (-20), 3) := by decide +kernel
theorem dX6_addTrust_28 : decode cX6_addTrust 28 = .ok (.iconst 0, 1) := by decide +kernel
theorem dX6_addTrust_29 : decode cX6_addTrust 29 = .ok (.istore 5, 2) := by decide +kernel
theorem dX6_addTrust_31 : decode cX6_addTrust 31 = .ok (.iload 5, 2) := by decide +kernel
theorem dX6_addTrust_33 : decode cX6_addTrust 33 = .ok (.iconst 2, 1) := by decide +kernel
theorem dX6_addTrust_34 : decode cX6_addTrust 34 = .ok (.if_icmp .gt 20, 3) := by decide +kernel
theorem dX6_addTrust_37 : decode cX6_addTrust 37 = .ok (.lload_n 3, 1) := by decide +kernel
theorem dX6_addTrust_38 : decode cX6_addTrust 38 = .ok (.aload_n 0, 1) := by decide +kernel
theorem dX6_addTrust_39 : decode cX6_addTrust 39 = .ok (.iload 5, 2) := by decide +kernel
theorem dX6_addTrust_41 : decode cX6_addTrust 41 = .ok (.invokevirtual 263, 3) := by decide +kernel
theorem dX6_addTrust_44 : decode cX6_addTrust 44 = .ok (.invokestatic 239, 3) := by decide +kernel
theorem dX6_addTrust_47 : decode cX6_addTrust 47 = .ok (.lstore_n 3, 1) := by decide +kernel
theorem dX6_addTrust_48 : decode cX6_addTrust 48 = .ok (.iinc 5 1, 3) := by decide +kernel
theorem dX6_addTrust_51 : decode cX6_addTrust 51 = .ok (.goto (-20), 3) := by decide +kernel
theorem dX6_addTrust_54 : decode cX6_addTrust 54 = .ok (.aload_n 0, 1) := by decide +kernel
theorem dX6_addTrust_55 : decode cX6_addTrust 55 = .ok (.invokevirtual 266, 3) := by decide +kernel
theorem dX6_addTrust_58 : decode cX6_addTrust 58 = .ok (.istore 5, 2) := by decide +kernel
theorem dX6_addTrust_60 : decode cX6_addTrust 60 = .ok (.lload_n 3, 1) := by decide +kernel
theorem dX6_addTrust_61 : decode cX6_addTrust 61 = .ok (.iload 5, 2) := by decide +kernel
theorem dX6_addTrust_63 : decode cX6_addTrust 63 = .ok (.invokestatic 239, 3) := by decide +kernel
theorem dX6_addTrust_66 : decode cX6_addTrust 66 = .ok (.lstore_n 3, 1) := by decide +kernel
theorem dX6_addTrust_67 : decode cX6_addTrust 67 = .ok (.iload 5, 2) := by decide +kernel
theorem dX6_addTrust_69 : decode cX6_addTrust 69 = .ok (.iconst (-1), 1) := by decide +kernel
theorem dX6_addTrust_70 : decode cX6_addTrust 70 = .ok (.if_icmp .eq 39, 3) := by decide +kernel
theorem dX6_addTrust_73 : decode cX6_addTrust 73 = .ok (.iconst 0, 1) := by decide +kernel
theorem dX6_addTrust_74 : decode cX6_addTrust 74 = .ok (.istore 6, 2) := by decide +kernel
theorem dX6_addTrust_76 : decode cX6_addTrust 76 = .ok (.iload 6, 2) := by decide +kernel
theorem dX6_addTrust_78 : decode cX6_addTrust 78 = .ok (.iconst 2, 1) := by decide +kernel
theorem dX6_addTrust_79 : decode cX6_addTrust 79 = .ok (.if_icmp .gt 30, 3) := by decide +kernel
theorem dX6_addTrust_82 : decode cX6_addTrust 82 = .ok (.lload_n 3, 1) := by decide +kernel
theorem dX6_addTrust_83 : decode cX6_addTrust 83 = .ok (.aload_n 0, 1) := by decide +kernel
theorem dX6_addTrust_84 : decode cX6_addTrust 84 = .ok (.iload 5, 2) := by decide +kernel
theorem dX6_addTrust_86 : decode cX6_addTrust 86 = .ok (.bipush 10, 2) := by decide +kernel
theorem dX6_addTrust_88 : decode cX6_addTrust 88 = .ok (.idiv, 1) := by decide +kernel
theorem dX6_addTrust_89 : decode cX6_addTrust 89 = .ok (.iload 5, 2) := by decide +kernel
theorem dX6_addTrust_91 : decode cX6_addTrust 91 = .ok (.bipush 10, 2) := by decide +kernel
theorem dX6_addTrust_93 : decode cX6_addTrust 93 = .ok (.irem, 1) := by decide +kernel
theorem dX6_addTrust_94 : decode cX6_addTrust 94 = .ok (.iload 6, 2) := by decide +kernel
theorem dX6_addTrust_96 : decode cX6_addTrust 96 = .ok (.invokevirtual 269, 3) := by decide +kernel
theorem dX6_addTrust_99 : decode cX6_addTrust 99 = .ok (.invokestatic 239, 3) := by decide +kernel
theorem dX6_addTrust_102 : decode cX6_addTrust 102 = .ok (.lstore_n 3, 1) := by decide +kernel
theorem dX6_addTrust_103 : decode cX6_addTrust 103 = .ok (.iinc 6 1, 3) := by decide +kernel
theorem dX6_addTrust_106 : decode cX6_addTrust 106 = .ok (.goto (-30), 3) := by decide +kernel
theorem dX6_addTrust_109 : decode cX6_addTrust 109 = .ok (.lload_n 3, 1) := by decide +kernel
theorem dX6_addTrust_110 : decode cX6_addTrust 110 = .ok (.lreturn, 1) := by decide +kernel
theorem dX6_addWalks_0 : decode cX6_addWalks 0 = .ok (.lload_n 1, 1) := by decide +kernel
theorem dX6_addWalks_1 : decode cX6_addWalks 1 = .ok (.lstore_n 3, 1) := by decide +kernel
theorem dX6_addWalks_2 : decode cX6_addWalks 2 = .ok (.iconst 0, 1) := by decide +kernel
theorem dX6_addWalks_3 : decode cX6_addWalks 3 = .ok (.istore 5, 2) := by decide +kernel
theorem dX6_addWalks_5 : decode cX6_addWalks 5 = .ok (.iload 5, 2) := by decide +kernel
theorem dX6_addWalks_7 : decode cX6_addWalks 7 = .ok (.iconst 4, 1) := by decide +kernel
theorem dX6_addWalks_8 : decode cX6_addWalks 8 = .ok (.if_icmp .gt 120, 3) := by decide +kernel
theorem dX6_addWalks_11 : decode cX6_addWalks 11 = .ok (.aload_n 0, 1) := by decide +kernel
theorem dX6_addWalks_12 : decode cX6_addWalks 12 = .ok (.getfield 49, 3) := by decide +kernel
theorem dX6_addWalks_15 : decode cX6_addWalks 15 = .ok (.aload_n 0, 1) := by decide +kernel
theorem dX6_addWalks_16 : decode cX6_addWalks 16 = .ok (.getfield 16, 3) := by decide +kernel
theorem dX6_addWalks_19 : decode cX6_addWalks 19 = .ok (.iload 5, 2) := by decide +kernel
theorem dX6_addWalks_21 : decode cX6_addWalks 21 = .ok (.invokevirtual 208, 3) := by decide +kernel
theorem dX6_addWalks_24 : decode cX6_addWalks 24 = .ok (.iconst 0, 1) := by decide +kernel
theorem dX6_addWalks_25 : decode cX6_addWalks 25 = .ok (.istore 6, 2) := by decide +kernel
theorem dX6_addWalks_27 : decode cX6_addWalks 27 = .ok (.iload 6, 2) := by decide +kernel
theorem dX6_addWalks_29 : decode cX6_addWalks 29 = .ok (.aload_n 0, 1) := by decide +kernel
theorem dX6_addWalks_30 : decode cX6_addWalks 30 = .ok (.getfield 16, 3) := by decide +kernel
theorem dX6_addWalks_33 : decode cX6_addWalks 33 = .ok (.getfield 82, 3) := by decide +kernel
theorem dX6_addWalks_36 : decode cX6_addWalks 36 = .ok (.if_icmp .ge 51, 3) := by decide +kernel
theorem dX6_addWalks_39 : decode cX6_addWalks 39 = .ok (.lload_n 3, 1) := by decide +kernel
theorem dX6_addWalks_40 : decode cX6_addWalks 40 = .ok (.aload_n 0, 1) := by decide +kernel
theorem dX6_addWalks_41 : decode cX6_addWalks 41 = .ok (.getfield 49, 3) := by decide +kernel
theorem dX6_addWalks_44 : decode cX6_addWalks 44 = .ok (.iload 6, 2) := by decide +kernel
theorem dX6_addWalks_46 : decode cX6_addWalks 46 = .ok (.invokevirtual 212, 3) := by decide +kernel
theorem dX6_addWalks_49 : decode cX6_addWalks 49 = .ok (.invokestatic 239, 3) := by decide +kernel
theorem dX6_addWalks_52 : decode cX6_addWalks 52 = .ok (.lstore_n 3, 1) := by decide +kernel
theorem dX6_addWalks_53 : decode cX6_addWalks 53 = .ok (.lload_n 3, 1) := by decide +kernel
theorem dX6_addWalks_54 : decode cX6_addWalks 54 = .ok (.aload_n 0, 1) := by decide +kernel
theorem dX6_addWalks_55 : decode cX6_addWalks 55 = .ok (.getfield 49, 3) := by decide +kernel
theorem dX6_addWalks_58 : decode cX6_addWalks 58 = .ok (.iload 6, 2) := by decide +kernel
theorem dX6_addWalks_60 : decode cX6_addWalks 60 = .ok (.invokevirtual 215, 3) := by decide +kernel
theorem dX6_addWalks_63 : decode cX6_addWalks 63 = .ok (.invokestatic 239, 3) := by decide +kernel
theorem dX6_addWalks_66 : decode cX6_addWalks 66 = .ok (.lstore_n 3, 1) := by decide +kernel
theorem dX6_addWalks_67 : decode cX6_addWalks 67 = .ok (.lload_n 3, 1) := by decide +kernel
theorem dX6_addWalks_68 : decode cX6_addWalks 68 = .ok (.aload_n 0, 1) := by decide +kernel
theorem dX6_addWalks_69 : decode cX6_addWalks 69 = .ok (.getfield 49, 3) := by decide +kernel
theorem dX6_addWalks_72 : decode cX6_addWalks 72 = .ok (.iload 6, 2) := by decide +kernel
theorem dX6_addWalks_74 : decode cX6_addWalks 74 = .ok (.invokevirtual 218, 3) := by decide +kernel
theorem dX6_addWalks_77 : decode cX6_addWalks 77 = .ok (.invokestatic 239, 3) := by decide +kernel
theorem dX6_addWalks_80 : decode cX6_addWalks 80 = .ok (.lstore_n 3, 1) := by decide +kernel
theorem dX6_addWalks_81 : decode cX6_addWalks 81 = .ok (.iinc 6 1, 3) := by decide +kernel
theorem dX6_addWalks_84 : decode cX6_addWalks 84 = .ok (.goto (-57), 3) := by decide +kernel
theorem dX6_addWalks_87 : decode cX6_addWalks 87 = .ok (.iconst 0, 1) := by decide +kernel
theorem dX6_addWalks_88 : decode cX6_addWalks 88 = .ok (.istore 6, 2) := by decide +kernel
theorem dX6_addWalks_90 : decode cX6_addWalks 90 = .ok (.iload 6, 2) := by decide +kernel
theorem dX6_addWalks_92 : decode cX6_addWalks 92 = .ok (.aload_n 0, 1) := by decide +kernel
theorem dX6_addWalks_93 : decode cX6_addWalks 93 = .ok (.getfield 16, 3) := by decide +kernel
theorem dX6_addWalks_96 : decode cX6_addWalks 96 = .ok (.getfield 82, 3) := by decide +kernel
theorem dX6_addWalks_99 : decode cX6_addWalks 99 = .ok (.if_icmp .ge 23, 3) := by decide +kernel
theorem dX6_addWalks_102 : decode cX6_addWalks 102 = .ok (.lload_n 3, 1) := by decide +kernel
theorem dX6_addWalks_103 : decode cX6_addWalks 103 = .ok (.aload_n 0, 1) := by decide +kernel
theorem dX6_addWalks_104 : decode cX6_addWalks 104 = .ok (.getfield 49, 3) := by decide +kernel
theorem dX6_addWalks_107 : decode cX6_addWalks 107 = .ok (.iload 6, 2) := by decide +kernel
theorem dX6_addWalks_109 : decode cX6_addWalks 109 = .ok (.invokevirtual 221, 3) := by decide +kernel
theorem dX6_addWalks_112 : decode cX6_addWalks 112 = .ok (.invokestatic 239, 3) := by decide +kernel
theorem dX6_addWalks_115 : decode cX6_addWalks 115 = .ok (.lstore_n 3, 1) := by decide +kernel
theorem dX6_addWalks_116 : decode cX6_addWalks 116 = .ok (.iinc 6 1, 3) := by decide +kernel
theorem dX6_addWalks_119 : decode cX6_addWalks 119 = .ok (.goto (-29), 3) := by decide +kernel
theorem dX6_addWalks_122 : decode cX6_addWalks 122 = .ok (.iinc 5 1, 3) := by decide +kernel
theorem dX6_addWalks_125 : decode cX6_addWalks 125 = .ok (.goto (-120), 3) := by decide +kernel
theorem dX6_addWalks_128 : decode cX6_addWalks 128 = .ok (.lload_n 3, 1) := by decide +kernel
theorem dX6_addWalks_129 : decode cX6_addWalks 129 = .ok (.lreturn, 1) := by decide +kernel
theorem dX6_isKind_0 : decode cX6_isKind 0 = .ok (.iload_n 0, 1) := by decide +kernel
theorem dX6_isKind_1 : decode cX6_isKind 1 = .ok (.ifCond .lt 12, 3) := by decide +kernel
theorem dX6_isKind_4 : decode cX6_isKind 4 = .ok (.iload_n 0, 1) := by decide +kernel
theorem dX6_isKind_5 : decode cX6_isKind 5 = .ok (.iconst 2, 1) := by decide +kernel
theorem dX6_isKind_6 : decode cX6_isKind 6 = .ok (.if_icmp .gt 7, 3) := by decide +kernel
theorem dX6_isKind_9 : decode cX6_isKind 9 = .ok (.iconst 1, 1) := by decide +kernel
theorem dX6_isKind_10 : decode cX6_isKind 10 = .ok (.goto 4, 3) := by decide +kernel
theorem dX6_isKind_13 : decode cX6_isKind 13 = .ok (.iconst 0, 1) := by decide +kernel
theorem dX6_isKind_14 : decode cX6_isKind 14 = .ok (.ireturn, 1) := by decide +kernel
theorem dX6_isStepCount_0 : decode cX6_isStepCount 0 = .ok (.iload_n 0, 1) := by decide +kernel
theorem dX6_isStepCount_1 : decode cX6_isStepCount 1 = .ok (.ifCond .lt 12, 3) := by decide +kernel
theorem dX6_isStepCount_4 : decode cX6_isStepCount 4 = .ok (.iload_n 0, 1) := by decide +kernel
theorem dX6_isStepCount_5 : decode cX6_isStepCount 5 = .ok (.iconst 4, 1) := by decide +kernel
theorem dX6_isStepCount_6 : decode cX6_isStepCount 6 = .ok (.if_icmp .gt 7, 3) := by decide +kernel
theorem dX6_isStepCount_9 : decode cX6_isStepCount 9 = .ok (.iconst 1, 1) := by decide +kernel
theorem dX6_isStepCount_10 : decode cX6_isStepCount 10 = .ok (.goto 4, 3) := by decide +kernel
theorem dX6_isStepCount_13 : decode cX6_isStepCount 13 = .ok (.iconst 0, 1) := by decide +kernel
theorem dX6_isStepCount_14 : decode cX6_isStepCount 14 = .ok (.ireturn, 1) := by decide +kernel
theorem dX6_bit_0 : decode cX6_bit 0 = .ok (.iload_n 0, 1) := by decide +kernel
theorem dX6_bit_1 : decode cX6_bit 1 = .ok (.iload_n 1, 1) := by decide +kernel
theorem dX6_bit_2 : decode cX6_bit 2 = .ok (.ishr, 1) := by decide +kernel
theorem dX6_bit_3 : decode cX6_bit 3 = .ok (.iconst 1, 1) := by decide +kernel
theorem dX6_bit_4 : decode cX6_bit 4 = .ok (.iand, 1) := by decide +kernel
theorem dX6_bit_5 : decode cX6_bit 5 = .ok (.ireturn, 1) := by decide +kernel
theorem dX6_prepareWeb_0 : decode cX6_prepareWeb 0 = .ok (.aload_n 0, 1) := by decide +kernel
theorem dX6_prepareWeb_1 : decode cX6_prepareWeb 1 = .ok (.getfield 45, 3) := by decide +kernel
theorem dX6_prepareWeb_4 : decode cX6_prepareWeb 4 = .ok (.aload_n 0, 1) := by decide +kernel
theorem dX6_prepareWeb_5 : decode cX6_prepareWeb 5 = .ok (.getfield 16, 3) := by decide +kernel
theorem dX6_prepareWeb_8 : decode cX6_prepareWeb 8 = .ok (.invokevirtual 179, 3) := by decide +kernel
theorem dX6_prepareWeb_11 : decode cX6_prepareWeb 11 = .ok (.aload_n 0, 1) := by decide +kernel
theorem dX6_prepareWeb_12 : decode cX6_prepareWeb 12 = .ok (.getfield 45, 3) := by decide +kernel
theorem dX6_prepareWeb_15 : decode cX6_prepareWeb 15 = .ok (.aload_n 0, 1) := by decide +kernel
theorem dX6_prepareWeb_16 : decode cX6_prepareWeb 16 = .ok (.getfield 16, 3) := by decide +kernel
theorem dX6_prepareWeb_19 : decode cX6_prepareWeb 19 = .ok (.invokevirtual 186, 3) := by decide +kernel
theorem dX6_prepareWeb_22 : decode cX6_prepareWeb 22 = .ok (.return_, 1) := by decide +kernel
theorem dX6_prepareWebWithout_0 : decode cX6_prepareWebWithout 0 = .ok (.aload_n 0, 1) := by decide +kernel
theorem dX6_prepareWebWithout_1 : decode cX6_prepareWebWithout 1 = .ok (.getfield 45, 3) := by decide +kernel
theorem dX6_prepareWebWithout_4 : decode cX6_prepareWebWithout 4 = .ok (.aload_n 0, 1) := by decide +kernel
theorem dX6_prepareWebWithout_5 : decode cX6_prepareWebWithout 5 = .ok (.getfield 16, 3) := by decide +kernel
theorem dX6_prepareWebWithout_8 : decode cX6_prepareWebWithout 8 = .ok (.invokevirtual 179, 3) := by decide +kernel
theorem dX6_prepareWebWithout_11 : decode cX6_prepareWebWithout 11 = .ok (.aload_n 0, 1) := by decide +kernel
theorem dX6_prepareWebWithout_12 : decode cX6_prepareWebWithout 12 = .ok (.getfield 45, 3) := by decide +kernel
theorem dX6_prepareWebWithout_15 : decode cX6_prepareWebWithout 15 = .ok (.iload_n 1, 1) := by decide +kernel
theorem dX6_prepareWebWithout_16 : decode cX6_prepareWebWithout 16 = .ok (.iload_n 2, 1) := by decide +kernel
theorem dX6_prepareWebWithout_17 : decode cX6_prepareWebWithout 17 = .ok (.invokevirtual 273, 3) := by decide +kernel
theorem dX6_prepareWebWithout_20 : decode cX6_prepareWebWithout 20 = .ok (.aload_n 0, 1) := by decide +kernel
theorem dX6_prepareWebWithout_21 : decode cX6_prepareWebWithout 21 = .ok (.getfield 45, 3) := by decide +kernel
theorem dX6_prepareWebWithout_24 : decode cX6_prepareWebWithout 24 = .ok (.aload_n 0, 1) := by decide +kernel
theorem dX6_prepareWebWithout_25 : decode cX6_prepareWebWithout 25 = .ok (.getfield 16, 3) := by decide +kernel
theorem dX6_prepareWebWithout_28 : decode cX6_prepareWebWithout 28 = .ok (.invokevirtual 186, 3) := by decide +kernel
theorem dX6_prepareWebWithout_31 : decode cX6_prepareWebWithout 31 = .ok (.return_, 1) := by decide +kernel
theorem dX6_admitted_0 : decode cX6_admitted 0 = .ok (.aload_n 0, 1) := by decide +kernel
theorem dX6_admitted_1 : decode cX6_admitted 1 = .ok (.getfield 37, 3) := by decide +kernel
theorem dX6_admitted_4 : decode cX6_admitted 4 = .ok (.invokevirtual 276, 3) := by decide +kernel
theorem dX6_admitted_7 : decode cX6_admitted 7 = .ok (.iconst 0, 1) := by decide +kernel
theorem dX6_admitted_8 : decode cX6_admitted 8 = .ok (.istore_n 2, 1) := by decide +kernel
theorem dX6_admitted_9 : decode cX6_admitted 9 = .ok (.iconst 0, 1) := by decide +kernel
theorem dX6_admitted_10 : decode cX6_admitted 10 = .ok (.istore_n 3, 1) := by decide +kernel
theorem dX6_admitted_11 : decode cX6_admitted 11 = .ok (.iload_n 3, 1) := by decide +kernel
theorem dX6_admitted_12 : decode cX6_admitted 12 = .ok (.aload_n 0, 1) := by decide +kernel
theorem dX6_admitted_13 : decode cX6_admitted 13 = .ok (.getfield 16, 3) := by decide +kernel
theorem dX6_admitted_16 : decode cX6_admitted 16 = .ok (.getfield 82, 3) := by decide +kernel
theorem dX6_admitted_19 : decode cX6_admitted 19 = .ok (.if_icmp .ge 35, 3) := by decide +kernel
theorem dX6_admitted_22 : decode cX6_admitted 22 = .ok (.iload_n 1, 1) := by decide +kernel
theorem dX6_admitted_23 : decode cX6_admitted 23 = .ok (.iload_n 3, 1) := by decide +kernel
theorem dX6_admitted_24 : decode cX6_admitted 24 = .ok (.invokestatic 172, 3) := by decide +kernel
theorem dX6_admitted_27 : decode cX6_admitted 27 = .ok (.iconst 1, 1) := by decide +kernel
theorem dX6_admitted_28 : decode cX6_admitted 28 = .ok (.if_icmp .ne 20, 3) := by decide +kernel
theorem dX6_admitted_31 : decode cX6_admitted 31 = .ok (.aload_n 0, 1) := by decide +kernel
theorem dX6_admitted_32 : decode cX6_admitted 32 = .ok (.getfield 37, 3) := by decide +kernel
theorem dX6_admitted_35 : decode cX6_admitted 35 = .ok (.iload_n 3, 1) := by decide +kernel
theorem dX6_admitted_36 : decode cX6_admitted 36 = .ok (.invokevirtual 277, 3) := by decide +kernel
theorem dX6_admitted_39 : decode cX6_admitted 39 = .ok (.ifCond .eq 9, 3) := by decide +kernel
theorem dX6_admitted_42 : decode cX6_admitted 42 = .ok (.iload_n 2, 1) := by decide +kernel
theorem dX6_admitted_43 : decode cX6_admitted 43 = .ok (.iconst 1, 1) := by decide +kernel
theorem dX6_admitted_44 : decode cX6_admitted 44 = .ok (.iload_n 3, 1) := by decide +kernel
theorem dX6_admitted_45 : decode cX6_admitted 45 = .ok (.ishl, 1) := by decide +kernel
theorem dX6_admitted_46 : decode cX6_admitted 46 = .ok (.ior, 1) := by decide +kernel
theorem dX6_admitted_47 : decode cX6_admitted 47 = .ok (.istore_n 2, 1) := by decide +kernel
theorem dX6_admitted_48 : decode cX6_admitted 48 = .ok (.iinc 3 1, 3) := by decide +kernel
theorem dX6_admitted_51 : decode cX6_admitted 51 = .ok (.goto (-40), 3) := by decide +kernel
theorem dX6_admitted_54 : decode cX6_admitted 54 = .ok (.iload_n 2, 1) := by decide +kernel
theorem dX6_admitted_55 : decode cX6_admitted 55 = .ok (.ireturn, 1) := by decide +kernel
theorem dX6_takenIn_0 : decode cX6_takenIn 0 = .ok (.aload_n 0, 1) := by decide +kernel
theorem dX6_takenIn_1 : decode cX6_takenIn 1 = .ok (.getfield 16, 3) := by decide +kernel
theorem dX6_takenIn_4 : decode cX6_takenIn 4 = .ok (.iconst 2, 1) := by decide +kernel
theorem dX6_takenIn_5 : decode cX6_takenIn 5 = .ok (.invokevirtual 106, 3) := by decide +kernel
theorem dX6_takenIn_8 : decode cX6_takenIn 8 = .ok (.istore_n 1, 1) := by decide +kernel
theorem dX6_takenIn_9 : decode cX6_takenIn 9 = .ok (.iconst 0, 1) := by decide +kernel
theorem dX6_takenIn_10 : decode cX6_takenIn 10 = .ok (.istore_n 2, 1) := by decide +kernel
theorem dX6_takenIn_11 : decode cX6_takenIn 11 = .ok (.iconst 0, 1) := by decide +kernel
theorem dX6_takenIn_12 : decode cX6_takenIn 12 = .ok (.istore_n 3, 1) := by decide +kernel
theorem dX6_takenIn_13 : decode cX6_takenIn 13 = .ok (.iload_n 3, 1) := by decide +kernel
theorem dX6_takenIn_14 : decode cX6_takenIn 14 = .ok (.aload_n 0, 1) := by decide +kernel
theorem dX6_takenIn_15 : decode cX6_takenIn 15 = .ok (.getfield 16, 3) := by decide +kernel
theorem dX6_takenIn_18 : decode cX6_takenIn 18 = .ok (.getfield 82, 3) := by decide +kernel
theorem dX6_takenIn_21 : decode cX6_takenIn 21 = .ok (.if_icmp .ge 54, 3) := by decide +kernel
theorem dX6_takenIn_24 : decode cX6_takenIn 24 = .ok (.aload_n 0, 1) := by decide +kernel
theorem dX6_takenIn_25 : decode cX6_takenIn 25 = .ok (.getfield 16, 3) := by decide +kernel
theorem dX6_takenIn_28 : decode cX6_takenIn 28 = .ok (.getfield 103, 3) := by decide +kernel
theorem dX6_takenIn_31 : decode cX6_takenIn 31 = .ok (.iload_n 3, 1) := by decide +kernel
theorem dX6_takenIn_32 : decode cX6_takenIn 32 = .ok (.iaload, 1) := by decide +kernel
theorem dX6_takenIn_33 : decode cX6_takenIn 33 = .ok (.iconst 2, 1) := by decide +kernel
theorem dX6_takenIn_34 : decode cX6_takenIn 34 = .ok (.if_icmp .eq 35, 3) := by decide +kernel
theorem dX6_takenIn_37 : decode cX6_takenIn 37 = .ok (.aload_n 0, 1) := by decide +kernel
theorem dX6_takenIn_38 : decode cX6_takenIn 38 = .ok (.getfield 45, 3) := by decide +kernel
theorem dX6_takenIn_41 : decode cX6_takenIn 41 = .ok (.getfield 166, 3) := by decide +kernel
theorem dX6_takenIn_44 : decode cX6_takenIn 44 = .ok (.iload_n 3, 1) := by decide +kernel
theorem dX6_takenIn_45 : decode cX6_takenIn 45 = .ok (.iaload, 1) := by decide +kernel
theorem dX6_takenIn_46 : decode cX6_takenIn 46 = .ok (.ifCond .le 23, 3) := by decide +kernel
theorem dX6_takenIn_49 : decode cX6_takenIn 49 = .ok (.aload_n 0, 1) := by decide +kernel
theorem dX6_takenIn_50 : decode cX6_takenIn 50 = .ok (.getfield 16, 3) := by decide +kernel
theorem dX6_takenIn_53 : decode cX6_takenIn 53 = .ok (.getfield 122, 3) := by decide +kernel
theorem dX6_takenIn_56 : decode cX6_takenIn 56 = .ok (.iload_n 3, 1) := by decide +kernel
theorem dX6_takenIn_57 : decode cX6_takenIn 57 = .ok (.iaload, 1) := by decide +kernel
theorem dX6_takenIn_58 : decode cX6_takenIn 58 = .ok (.iload_n 1, 1) := by decide +kernel
theorem dX6_takenIn_59 : decode cX6_takenIn 59 = .ok (.iand, 1) := by decide +kernel
theorem dX6_takenIn_60 : decode cX6_takenIn 60 = .ok (.ifCond .eq 9, 3) := by decide +kernel
theorem dX6_takenIn_63 : decode cX6_takenIn 63 = .ok (.iload_n 2, 1) := by decide +kernel
theorem dX6_takenIn_64 : decode cX6_takenIn 64 = .ok (.iconst 1, 1) := by decide +kernel
theorem dX6_takenIn_65 : decode cX6_takenIn 65 = .ok (.iload_n 3, 1) := by decide +kernel
theorem dX6_takenIn_66 : decode cX6_takenIn 66 = .ok (.ishl, 1) := by decide +kernel
theorem dX6_takenIn_67 : decode cX6_takenIn 67 = .ok (.ior, 1) := by decide +kernel
theorem dX6_takenIn_68 : decode cX6_takenIn 68 = .ok (.istore_n 2, 1) := by decide +kernel
theorem dX6_takenIn_69 : decode cX6_takenIn 69 = .ok (.iinc 3 1, 3) := by decide +kernel
theorem dX6_takenIn_72 : decode cX6_takenIn 72 = .ok (.goto (-59), 3) := by decide +kernel
theorem dX6_takenIn_75 : decode cX6_takenIn 75 = .ok (.iload_n 2, 1) := by decide +kernel
theorem dX6_takenIn_76 : decode cX6_takenIn 76 = .ok (.ireturn, 1) := by decide +kernel
theorem dX6_waysTo_0 : decode cX6_waysTo 0 = .ok (.aload_n 0, 1) := by decide +kernel
theorem dX6_waysTo_1 : decode cX6_waysTo 1 = .ok (.getfield 16, 3) := by decide +kernel
theorem dX6_waysTo_4 : decode cX6_waysTo 4 = .ok (.getfield 103, 3) := by decide +kernel
theorem dX6_waysTo_7 : decode cX6_waysTo 7 = .ok (.iload_n 1, 1) := by decide +kernel
theorem dX6_waysTo_8 : decode cX6_waysTo 8 = .ok (.iaload, 1) := by decide +kernel
theorem dX6_waysTo_9 : decode cX6_waysTo 9 = .ok (.iconst 1, 1) := by decide +kernel
theorem dX6_waysTo_10 : decode cX6_waysTo 10 = .ok (.if_icmp .ne 5, 3) := by decide +kernel
theorem dX6_waysTo_13 : decode cX6_waysTo 13 = .ok (.iconst (-1), 1) := by decide +kernel
theorem dX6_waysTo_14 : decode cX6_waysTo 14 = .ok (.ireturn, 1) := by decide +kernel
theorem dX6_waysTo_15 : decode cX6_waysTo 15 = .ok (.aload_n 0, 1) := by decide +kernel
theorem dX6_waysTo_16 : decode cX6_waysTo 16 = .ok (.getfield 45, 3) := by decide +kernel
theorem dX6_waysTo_19 : decode cX6_waysTo 19 = .ok (.aload_n 0, 1) := by decide +kernel
theorem dX6_waysTo_20 : decode cX6_waysTo 20 = .ok (.getfield 16, 3) := by decide +kernel
theorem dX6_waysTo_23 : decode cX6_waysTo 23 = .ok (.invokevirtual 179, 3) := by decide +kernel
theorem dX6_waysTo_26 : decode cX6_waysTo 26 = .ok (.aload_n 0, 1) := by decide +kernel
theorem dX6_waysTo_27 : decode cX6_waysTo 27 = .ok (.getfield 45, 3) := by decide +kernel
theorem dX6_waysTo_30 : decode cX6_waysTo 30 = .ok (.iload_n 1, 1) := by decide +kernel
theorem dX6_waysTo_31 : decode cX6_waysTo 31 = .ok (.invokevirtual 280, 3) := by decide +kernel
theorem dX6_waysTo_34 : decode cX6_waysTo 34 = .ok (.aload_n 0, 1) := by decide +kernel
theorem dX6_waysTo_35 : decode cX6_waysTo 35 = .ok (.getfield 37, 3) := by decide +kernel
theorem dX6_waysTo_38 : decode cX6_waysTo 38 = .ok (.invokevirtual 276, 3) := by decide +kernel
theorem dX6_waysTo_41 : decode cX6_waysTo 41 = .ok (.iconst 0, 1) := by decide +kernel
theorem dX6_waysTo_42 : decode cX6_waysTo 42 = .ok (.istore_n 2, 1) := by decide +kernel
theorem dX6_waysTo_43 : decode cX6_waysTo 43 = .ok (.iconst 0, 1) := by decide +kernel
theorem dX6_waysTo_44 : decode cX6_waysTo 44 = .ok (.istore_n 3, 1) := by decide +kernel
theorem dX6_waysTo_45 : decode cX6_waysTo 45 = .ok (.iload_n 3, 1) := by decide +kernel
theorem dX6_waysTo_46 : decode cX6_waysTo 46 = .ok (.bipush 9, 2) := by decide +kernel
theorem dX6_waysTo_48 : decode cX6_waysTo 48 = .ok (.if_icmp .ge 23, 3) := by decide +kernel
theorem dX6_waysTo_51 : decode cX6_waysTo 51 = .ok (.aload_n 0, 1) := by decide +kernel
theorem dX6_waysTo_52 : decode cX6_waysTo 52 = .ok (.getfield 37, 3) := by decide +kernel
theorem dX6_waysTo_55 : decode cX6_waysTo 55 = .ok (.iload_n 1, 1) := by decide +kernel
theorem dX6_waysTo_56 : decode cX6_waysTo 56 = .ok (.invokevirtual 277, 3) := by decide +kernel
theorem dX6_waysTo_59 : decode cX6_waysTo 59 = .ok (.ifCond .eq 12, 3) := by decide +kernel
theorem dX6_waysTo_62 : decode cX6_waysTo 62 = .ok (.iinc 2 1, 3) := by decide +kernel
theorem dX6_waysTo_65 : decode cX6_waysTo 65 = .ok (.iinc 3 1, 3) := by decide +kernel
theorem dX6_waysTo_68 : decode cX6_waysTo 68 = .ok (.goto (-23), 3) := by decide +kernel
theorem dX6_waysTo_71 : decode cX6_waysTo 71 = .ok (.iload_n 2, 1) := by decide +kernel
theorem dX6_waysTo_72 : decode cX6_waysTo 72 = .ok (.ireturn, 1) := by decide +kernel
