theorem dX0_init_0 : decode cX0_init 0 = .ok (.aload_n 0, 1) := by decide +kernel
theorem dX0_init_1 : decode cX0_init 1 = .ok (.invokespecial 3, 3) := by decide +kernel
theorem dX0_init_4 : decode cX0_init 4 = .ok (.aload_n 0, 1) := by decide +kernel
theorem dX0_init_5 : decode cX0_init 5 = .ok (.iconst 5, 1) := by decide +kernel
theorem dX0_init_6 : decode cX0_init 6 = .ok (.newarray .int, 2) := by decide +kernel
theorem dX0_init_8 : decode cX0_init 8 = .ok (.putfield 9, 3) := by decide +kernel
theorem dX0_init_11 : decode cX0_init 11 = .ok (.aload_n 0, 1) := by decide +kernel
theorem dX0_init_12 : decode cX0_init 12 = .ok (.bipush 9, 2) := by decide +kernel
theorem dX0_init_14 : decode cX0_init 14 = .ok (.newarray .int, 2) := by decide +kernel
theorem dX0_init_16 : decode cX0_init 16 = .ok (.putfield 15, 3) := by decide +kernel
theorem dX0_init_19 : decode cX0_init 19 = .ok (.aload_n 0, 1) := by decide +kernel
theorem dX0_init_20 : decode cX0_init 20 = .ok (.bipush 9, 2) := by decide +kernel
theorem dX0_init_22 : decode cX0_init 22 = .ok (.newarray .int, 2) := by decide +kernel
theorem dX0_init_24 : decode cX0_init 24 = .ok (.putfield 18, 3) := by decide +kernel
theorem dX0_init_27 : decode cX0_init 27 = .ok (.return_, 1) := by decide +kernel
theorem dX0_clear_0 : decode cX0_clear 0 = .ok (.aload_n 0, 1) := by decide +kernel
theorem dX0_clear_1 : decode cX0_clear 1 = .ok (.iconst 0, 1) := by decide +kernel
theorem dX0_clear_2 : decode cX0_clear 2 = .ok (.putfield 21, 3) := by decide +kernel
theorem dX0_clear_5 : decode cX0_clear 5 = .ok (.aload_n 0, 1) := by decide +kernel
theorem dX0_clear_6 : decode cX0_clear 6 = .ok (.iconst 0, 1) := by decide +kernel
theorem dX0_clear_7 : decode cX0_clear 7 = .ok (.putfield 25, 3) := by decide +kernel
theorem dX0_clear_10 : decode cX0_clear 10 = .ok (.aload_n 0, 1) := by decide +kernel
theorem dX0_clear_11 : decode cX0_clear 11 = .ok (.getfield 9, 3) := by decide +kernel
theorem dX0_clear_14 : decode cX0_clear 14 = .ok (.iconst 0, 1) := by decide +kernel
theorem dX0_clear_15 : decode cX0_clear 15 = .ok (.invokestatic 28, 3) := by decide +kernel
theorem dX0_clear_18 : decode cX0_clear 18 = .ok (.aload_n 0, 1) := by decide +kernel
theorem dX0_clear_19 : decode cX0_clear 19 = .ok (.getfield 15, 3) := by decide +kernel
theorem dX0_clear_22 : decode cX0_clear 22 = .ok (.iconst 0, 1) := by decide +kernel
theorem dX0_clear_23 : decode cX0_clear 23 = .ok (.invokestatic 28, 3) := by decide +kernel
theorem dX0_clear_26 : decode cX0_clear 26 = .ok (.aload_n 0, 1) := by decide +kernel
theorem dX0_clear_27 : decode cX0_clear 27 = .ok (.getfield 18, 3) := by decide +kernel
theorem dX0_clear_30 : decode cX0_clear 30 = .ok (.iconst 0, 1) := by decide +kernel
theorem dX0_clear_31 : decode cX0_clear 31 = .ok (.invokestatic 28, 3) := by decide +kernel
theorem dX0_clear_34 : decode cX0_clear 34 = .ok (.return_, 1) := by decide +kernel
theorem dX0_become_0 : decode cX0_become 0 = .ok (.aload_n 0, 1) := by decide +kernel
theorem dX0_become_1 : decode cX0_become 1 = .ok (.aload_n 1, 1) := by decide +kernel
theorem dX0_become_2 : decode cX0_become 2 = .ok (.getfield 21, 3) := by decide +kernel
theorem dX0_become_5 : decode cX0_become 5 = .ok (.putfield 21, 3) := by decide +kernel
theorem dX0_become_8 : decode cX0_become 8 = .ok (.aload_n 0, 1) := by decide +kernel
theorem dX0_become_9 : decode cX0_become 9 = .ok (.aload_n 1, 1) := by decide +kernel
theorem dX0_become_10 : decode cX0_become 10 = .ok (.getfield 25, 3) := by decide +kernel
theorem dX0_become_13 : decode cX0_become 13 = .ok (.putfield 25, 3) := by decide +kernel
theorem dX0_become_16 : decode cX0_become 16 = .ok (.aload_n 1, 1) := by decide +kernel
theorem dX0_become_17 : decode cX0_become 17 = .ok (.getfield 9, 3) := by decide +kernel
theorem dX0_become_20 : decode cX0_become 20 = .ok (.iconst 0, 1) := by decide +kernel
theorem dX0_become_21 : decode cX0_become 21 = .ok (.aload_n 0, 1) := by decide +kernel
theorem dX0_become_22 : decode cX0_become 22 = .ok (.getfield 9, 3) := by decide +kernel
theorem dX0_become_25 : decode cX0_become 25 = .ok (.iconst 0, 1) := by decide +kernel
theorem dX0_become_26 : decode cX0_become 26 = .ok (.iconst 5, 1) := by decide +kernel
theorem dX0_become_27 : decode cX0_become 27 = .ok (.invokestatic 34, 3) := by decide +kernel
theorem dX0_become_30 : decode cX0_become 30 = .ok (.aload_n 1, 1) := by decide +kernel
theorem dX0_become_31 : decode cX0_become 31 = .ok (.getfield 15, 3) := by decide +kernel
theorem dX0_become_34 : decode cX0_become 34 = .ok (.iconst 0, 1) := by decide +kernel
theorem dX0_become_35 : decode cX0_become 35 = .ok (.aload_n 0, 1) := by decide +kernel
theorem dX0_become_36 : decode cX0_become 36 = .ok (.getfield 15, 3) := by decide +kernel
theorem dX0_become_39 : decode cX0_become 39 = .ok (.iconst 0, 1) := by decide +kernel
theorem dX0_become_40 : decode cX0_become 40 = .ok (.bipush 9, 2) := by decide +kernel
theorem dX0_become_42 : decode cX0_become 42 = .ok (.invokestatic 34, 3) := by decide +kernel
theorem dX0_become_45 : decode cX0_become 45 = .ok (.aload_n 1, 1) := by decide +kernel
theorem dX0_become_46 : decode cX0_become 46 = .ok (.getfield 18, 3) := by decide +kernel
theorem dX0_become_49 : decode cX0_become 49 = .ok (.iconst 0, 1) := by decide +kernel
theorem dX0_become_50 : decode cX0_become 50 = .ok (.aload_n 0, 1) := by decide +kernel
theorem dX0_become_51 : decode cX0_become 51 = .ok (.getfield 18, 3) := by decide +kernel
theorem dX0_become_54 : decode cX0_become 54 = .ok (.iconst 0, 1) := by decide +kernel
theorem dX0_become_55 : decode cX0_become 55 = .ok (.bipush 9, 2) := by decide +kernel
theorem dX0_become_57 : decode cX0_become 57 = .ok (.invokestatic 34, 3) := by decide +kernel
theorem dX0_become_60 : decode cX0_become 60 = .ok (.return_, 1) := by decide +kernel
theorem dX0_exists_0 : decode cX0_exists 0 = .ok (.aload_n 0, 1) := by decide +kernel
theorem dX0_exists_1 : decode cX0_exists 1 = .ok (.getfield 21, 3) := by decide +kernel
theorem dX0_exists_4 : decode cX0_exists 4 = .ok (.ifCond .le 7, 3) := by decide +kernel
theorem dX0_exists_7 : decode cX0_exists 7 = .ok (.iconst 1, 1) := by decide +kernel
theorem dX0_exists_8 : decode cX0_exists 8 = .ok (.goto 4, 3) := by decide +kernel
theorem dX0_exists_11 : decode cX0_exists 11 = .ok (.iconst 0, 1) := by decide +kernel
theorem dX0_exists_12 : decode cX0_exists 12 = .ok (.ireturn, 1) := by decide +kernel
theorem dX0_everyone_0 : decode cX0_everyone 0 = .ok (.iconst 1, 1) := by decide +kernel
theorem dX0_everyone_1 : decode cX0_everyone 1 = .ok (.aload_n 0, 1) := by decide +kernel
theorem dX0_everyone_2 : decode cX0_everyone 2 = .ok (.getfield 21, 3) := by decide +kernel
theorem dX0_everyone_5 : decode cX0_everyone 5 = .ok (.ishl, 1) := by decide +kernel
theorem dX0_everyone_6 : decode cX0_everyone 6 = .ok (.iconst 1, 1) := by decide +kernel
theorem dX0_everyone_7 : decode cX0_everyone 7 = .ok (.isub, 1) := by decide +kernel
theorem dX0_everyone_8 : decode cX0_everyone 8 = .ok (.ireturn, 1) := by decide +kernel
theorem dX0_has_0 : decode cX0_has 0 = .ok (.iload_n 1, 1) := by decide +kernel
theorem dX0_has_1 : decode cX0_has 1 = .ok (.ifCond .lt 15, 3) := by decide +kernel
theorem dX0_has_4 : decode cX0_has 4 = .ok (.iload_n 1, 1) := by decide +kernel
theorem dX0_has_5 : decode cX0_has 5 = .ok (.aload_n 0, 1) := by decide +kernel
theorem dX0_has_6 : decode cX0_has 6 = .ok (.getfield 21, 3) := by decide +kernel
theorem dX0_has_9 : decode cX0_has 9 = .ok (.if_icmp .ge 7, 3) := by decide +kernel
theorem dX0_has_12 : decode cX0_has 12 = .ok (.iconst 1, 1) := by decide +kernel
theorem dX0_has_13 : decode cX0_has 13 = .ok (.goto 4, 3) := by decide +kernel
theorem dX0_has_16 : decode cX0_has 16 = .ok (.iconst 0, 1) := by decide +kernel
theorem dX0_has_17 : decode cX0_has 17 = .ok (.ireturn, 1) := by decide +kernel
theorem dX0_hasPair_0 : decode cX0_hasPair 0 = .ok (.aload_n 0, 1) := by decide +kernel
theorem dX0_hasPair_1 : decode cX0_hasPair 1 = .ok (.iload_n 1, 1) := by decide +kernel
theorem dX0_hasPair_2 : decode cX0_hasPair 2 = .ok (.invokevirtual 40, 3) := by decide +kernel
theorem dX0_hasPair_5 : decode cX0_hasPair 5 = .ok (.ifCond .eq 20, 3) := by decide +kernel
theorem dX0_hasPair_8 : decode cX0_hasPair 8 = .ok (.aload_n 0, 1) := by decide +kernel
theorem dX0_hasPair_9 : decode cX0_hasPair 9 = .ok (.iload_n 2, 1) := by decide +kernel
theorem dX0_hasPair_10 : decode cX0_hasPair 10 = .ok (.invokevirtual 40, 3) := by decide +kernel
theorem dX0_hasPair_13 : decode cX0_hasPair 13 = .ok (.ifCond .eq 12, 3) := by decide +kernel
theorem dX0_hasPair_16 : decode cX0_hasPair 16 = .ok (.iload_n 1, 1) := by decide +kernel
theorem dX0_hasPair_17 : decode cX0_hasPair 17 = .ok (.iload_n 2, 1) := by decide +kernel
theorem dX0_hasPair_18 : decode cX0_hasPair 18 = .ok (.if_icmp .eq 7, 3) := by decide +kernel
theorem dX0_hasPair_21 : decode cX0_hasPair 21 = .ok (.iconst 1, 1) := by decide +kernel
theorem dX0_hasPair_22 : decode cX0_hasPair 22 = .ok (.goto 4, 3) := by decide +kernel
theorem dX0_hasPair_25 : decode cX0_hasPair 25 = .ok (.iconst 0, 1) := by decide +kernel
theorem dX0_hasPair_26 : decode cX0_hasPair 26 = .ok (.ireturn, 1) := by decide +kernel
theorem dX0_hasVouch_0 : decode cX0_hasVouch 0 = .ok (.aload_n 0, 1) := by decide +kernel
theorem dX0_hasVouch_1 : decode cX0_hasVouch 1 = .ok (.getfield 18, 3) := by decide +kernel
theorem dX0_hasVouch_4 : decode cX0_hasVouch 4 = .ok (.iload_n 1, 1) := by decide +kernel
theorem dX0_hasVouch_5 : decode cX0_hasVouch 5 = .ok (.iaload, 1) := by decide +kernel
theorem dX0_hasVouch_6 : decode cX0_hasVouch 6 = .ok (.iload_n 2, 1) := by decide +kernel
theorem dX0_hasVouch_7 : decode cX0_hasVouch 7 = .ok (.invokestatic 44, 3) := by decide +kernel
theorem dX0_hasVouch_10 : decode cX0_hasVouch 10 = .ok (.iconst 1, 1) := by decide +kernel
theorem dX0_hasVouch_11 : decode cX0_hasVouch 11 = .ok (.if_icmp .ne 7, 3) := by decide +kernel
theorem dX0_hasVouch_14 : decode cX0_hasVouch 14 = .ok (.iconst 1, 1) := by decide +kernel
theorem dX0_hasVouch_15 : decode cX0_hasVouch 15 = .ok (.goto 4, 3) := by decide +kernel
theorem dX0_hasVouch_18 : decode cX0_hasVouch 18 = .ok (.iconst 0, 1) := by decide +kernel
theorem dX0_hasVouch_19 : decode cX0_hasVouch 19 = .ok (.ireturn, 1) := by decide +kernel
theorem dX0_ofKind_0 : decode cX0_ofKind 0 = .ok (.iconst 0, 1) := by decide +kernel
theorem dX0_ofKind_1 : decode cX0_ofKind 1 = .ok (.istore_n 2, 1) := by decide +kernel
theorem dX0_ofKind_2 : decode cX0_ofKind 2 = .ok (.iconst 0, 1) := by decide +kernel
theorem dX0_ofKind_3 : decode cX0_ofKind 3 = .ok (.istore_n 3, 1) := by decide +kernel
theorem dX0_ofKind_4 : decode cX0_ofKind 4 = .ok (.iload_n 3, 1) := by decide +kernel
theorem dX0_ofKind_5 : decode cX0_ofKind 5 = .ok (.aload_n 0, 1) := by decide +kernel
theorem dX0_ofKind_6 : decode cX0_ofKind 6 = .ok (.getfield 21, 3) := by decide +kernel
theorem dX0_ofKind_9 : decode cX0_ofKind 9 = .ok (.if_icmp .ge 25, 3) := by decide +kernel
theorem dX0_ofKind_12 : decode cX0_ofKind 12 = .ok (.aload_n 0, 1) := by decide +kernel
theorem dX0_ofKind_13 : decode cX0_ofKind 13 = .ok (.getfield 15, 3) := by decide +kernel
theorem dX0_ofKind_16 : decode cX0_ofKind 16 = .ok (.iload_n 3, 1) := by decide +kernel
theorem dX0_ofKind_17 : decode cX0_ofKind 17 = .ok (.iaload, 1) := by decide +kernel
theorem dX0_ofKind_18 : decode cX0_ofKind 18 = .ok (.iload_n 1, 1) := by decide +kernel
theorem dX0_ofKind_19 : decode cX0_ofKind 19 = .ok (.if_icmp .ne 9, 3) := by decide +kernel
theorem dX0_ofKind_22 : decode cX0_ofKind 22 = .ok (.iload_n 2, 1) := by decide +kernel
theorem dX0_ofKind_23 : decode cX0_ofKind 23 = .ok (.iconst 1, 1) := by decide +kernel
theorem dX0_ofKind_24 : decode cX0_ofKind 24 = .ok (.iload_n 3, 1) := by decide +kernel
theorem dX0_ofKind_25 : decode cX0_ofKind 25 = .ok (.ishl, 1) := by decide +kernel
theorem dX0_ofKind_26 : decode cX0_ofKind 26 = .ok (.ior, 1) := by decide +kernel
theorem dX0_ofKind_27 : decode cX0_ofKind 27 = .ok (.istore_n 2, 1) := by decide +kernel
theorem dX0_ofKind_28 : decode cX0_ofKind 28 = .ok (.iinc 3 1, 3) := by decide +kernel
theorem dX0_ofKind_31 : decode cX0_ofKind 31 = .ok (.goto (-27), 3) := by decide +kernel
theorem dX0_ofKind_34 : decode cX0_ofKind 34 = .ok (.iload_n 2, 1) := by decide +kernel
theorem dX0_ofKind_35 : decode cX0_ofKind 35 = .ok (.ireturn, 1) := by decide +kernel
theorem dX0_vouchersOf_0 : decode cX0_vouchersOf 0 = .ok (.iconst 0, 1) := by decide +kernel
theorem dX0_vouchersOf_1 : decode cX0_vouchersOf 1 = .ok (.istore_n 2, 1) := by decide +kernel
theorem dX0_vouchersOf_2 : decode cX0_vouchersOf 2 = .ok (.iconst 0, 1) := by decide +kernel
theorem dX0_vouchersOf_3 : decode cX0_vouchersOf 3 = .ok (.istore_n 3, 1) := by decide +kernel
theorem dX0_vouchersOf_4 : decode cX0_vouchersOf 4 = .ok (.iload_n 3, 1) := by decide +kernel
theorem dX0_vouchersOf_5 : decode cX0_vouchersOf 5 = .ok (.aload_n 0, 1) := by decide +kernel
theorem dX0_vouchersOf_6 : decode cX0_vouchersOf 6 = .ok (.getfield 21, 3) := by decide +kernel
theorem dX0_vouchersOf_9 : decode cX0_vouchersOf 9 = .ok (.if_icmp .ge 24, 3) := by decide +kernel
theorem dX0_vouchersOf_12 : decode cX0_vouchersOf 12 = .ok (.aload_n 0, 1) := by decide +kernel
theorem dX0_vouchersOf_13 : decode cX0_vouchersOf 13 = .ok (.iload_n 3, 1) := by decide +kernel
theorem dX0_vouchersOf_14 : decode cX0_vouchersOf 14 = .ok (.iload_n 1, 1) := by decide +kernel
theorem dX0_vouchersOf_15 : decode cX0_vouchersOf 15 = .ok (.invokevirtual 48, 3) := by decide +kernel
theorem dX0_vouchersOf_18 : decode cX0_vouchersOf 18 = .ok (.ifCond .eq 9, 3) := by decide +kernel
theorem dX0_vouchersOf_21 : decode cX0_vouchersOf 21 = .ok (.iload_n 2, 1) := by decide +kernel
theorem dX0_vouchersOf_22 : decode cX0_vouchersOf 22 = .ok (.iconst 1, 1) := by decide +kernel
theorem dX0_vouchersOf_23 : decode cX0_vouchersOf 23 = .ok (.iload_n 3, 1) := by decide +kernel
theorem dX0_vouchersOf_24 : decode cX0_vouchersOf 24 = .ok (.ishl, 1) := by decide +kernel
theorem dX0_vouchersOf_25 : decode cX0_vouchersOf 25 = .ok (.ior, 1) := by decide +kernel
theorem dX0_vouchersOf_26 : decode cX0_vouchersOf 26 = .ok (.istore_n 2, 1) := by decide +kernel
theorem dX0_vouchersOf_27 : decode cX0_vouchersOf 27 = .ok (.iinc 3 1, 3) := by decide +kernel
theorem dX0_vouchersOf_30 : decode cX0_vouchersOf 30 = .ok (.goto (-26), 3) := by decide +kernel
theorem dX0_vouchersOf_33 : decode cX0_vouchersOf 33 = .ok (.iload_n 2, 1) := by decide +kernel
theorem dX0_vouchersOf_34 : decode cX0_vouchersOf 34 = .ok (.ireturn, 1) := by decide +kernel
theorem dX0_vouchCount_0 : decode cX0_vouchCount 0 = .ok (.iconst 0, 1) := by decide +kernel
theorem dX0_vouchCount_1 : decode cX0_vouchCount 1 = .ok (.istore_n 1, 1) := by decide +kernel
theorem dX0_vouchCount_2 : decode cX0_vouchCount 2 = .ok (.iconst 0, 1) := by decide +kernel
theorem dX0_vouchCount_3 : decode cX0_vouchCount 3 = .ok (.istore_n 2, 1) := by decide +kernel
theorem dX0_vouchCount_4 : decode cX0_vouchCount 4 = .ok (.iload_n 2, 1) := by decide +kernel
theorem dX0_vouchCount_5 : decode cX0_vouchCount 5 = .ok (.aload_n 0, 1) := by decide +kernel
theorem dX0_vouchCount_6 : decode cX0_vouchCount 6 = .ok (.getfield 21, 3) := by decide +kernel
theorem dX0_vouchCount_9 : decode cX0_vouchCount 9 = .ok (.if_icmp .ge 21, 3) := by decide +kernel
theorem dX0_vouchCount_12 : decode cX0_vouchCount 12 = .ok (.iload_n 1, 1) := by decide +kernel
theorem dX0_vouchCount_13 : decode cX0_vouchCount 13 = .ok (.aload_n 0, 1) := by decide +kernel
theorem dX0_vouchCount_14 : decode cX0_vouchCount 14 = .ok (.getfield 18, 3) := by decide +kernel
theorem dX0_vouchCount_17 : decode cX0_vouchCount 17 = .ok (.iload_n 2, 1) := by decide +kernel
theorem dX0_vouchCount_18 : decode cX0_vouchCount 18 = .ok (.iaload, 1) := by decide +kernel
theorem dX0_vouchCount_19 : decode cX0_vouchCount 19 = .ok (.invokestatic 52, 3) := by decide +kernel
theorem dX0_vouchCount_22 : decode cX0_vouchCount 22 = .ok (.iadd, 1) := by decide +kernel
theorem dX0_vouchCount_23 : decode cX0_vouchCount 23 = .ok (.istore_n 1, 1) := by decide +kernel
theorem dX0_vouchCount_24 : decode cX0_vouchCount 24 = .ok (.iinc 2 1, 3) := by decide +kernel
theorem dX0_vouchCount_27 : decode cX0_vouchCount 27 = .ok (.goto (-23), 3) := by decide +kernel
theorem dX0_vouchCount_30 : decode cX0_vouchCount 30 = .ok (.iload_n 1, 1) := by decide +kernel
theorem dX0_vouchCount_31 : decode cX0_vouchCount 31 = .ok (.ireturn, 1) := by decide +kernel
theorem dX1_init_0 : decode cX1_init 0 = .ok (.aload_n 0, 1) := by decide +kernel
theorem dX1_init_1 : decode cX1_init 1 = .ok (.invokespecial 3, 3) := by decide +kernel
theorem dX1_init_4 : decode cX1_init 4 = .ok (.aload_n 0, 1) := by decide +kernel
theorem dX1_init_5 : decode cX1_init 5 = .ok (.new 9, 3) := by decide +kernel
theorem dX1_init_8 : decode cX1_init 8 = .ok (.dup, 1) := by decide +kernel
theorem dX1_init_9 : decode cX1_init 9 = .ok (.invokespecial 11, 3) := by decide +kernel
theorem dX1_init_12 : decode cX1_init 12 = .ok (.putfield 12, 3) := by decide +kernel
theorem dX1_init_15 : decode cX1_init 15 = .ok (.aload_n 0, 1) := by decide +kernel
theorem dX1_init_16 : decode cX1_init 16 = .ok (.bipush 9, 2) := by decide +kernel
theorem dX1_init_18 : decode cX1_init 18 = .ok (.newarray .int, 2) := by decide +kernel
theorem dX1_init_20 : decode cX1_init 20 = .ok (.putfield 18, 3) := by decide +kernel
theorem dX1_init_23 : decode cX1_init 23 = .ok (.aload_n 0, 1) := by decide +kernel
theorem dX1_init_24 : decode cX1_init 24 = .ok (.bipush 81, 2) := by decide +kernel
theorem dX1_init_26 : decode cX1_init 26 = .ok (.newarray .int, 2) := by decide +kernel
theorem dX1_init_28 : decode cX1_init 28 = .ok (.putfield 22, 3) := by decide +kernel
theorem dX1_init_31 : decode cX1_init 31 = .ok (.aload_n 0, 1) := by decide +kernel
theorem dX1_init_32 : decode cX1_init 32 = .ok (.bipush 18, 2) := by decide +kernel
theorem dX1_init_34 : decode cX1_init 34 = .ok (.newarray .int, 2) := by decide +kernel
theorem dX1_init_36 : decode cX1_init 36 = .ok (.putfield 25, 3) := by decide +kernel
theorem dX1_init_39 : decode cX1_init 39 = .ok (.aload_n 0, 1) := by decide +kernel
theorem dX1_init_40 : decode cX1_init 40 = .ok (.bipush 18, 2) := by decide +kernel
theorem dX1_init_42 : decode cX1_init 42 = .ok (.newarray .int, 2) := by decide +kernel
theorem dX1_init_44 : decode cX1_init 44 = .ok (.putfield 28, 3) := by decide +kernel
theorem dX1_init_47 : decode cX1_init 47 = .ok (.return_, 1) := by decide +kernel
theorem dX1_begin_0 : decode cX1_begin 0 = .ok (.aload_n 0, 1) := by decide +kernel
theorem dX1_begin_1 : decode cX1_begin 1 = .ok (.getfield 18, 3) := by decide +kernel
theorem dX1_begin_4 : decode cX1_begin 4 = .ok (.iconst 0, 1) := by decide +kernel
theorem dX1_begin_5 : decode cX1_begin 5 = .ok (.invokestatic 31, 3) := by decide +kernel
theorem dX1_begin_8 : decode cX1_begin 8 = .ok (.aload_n 0, 1) := by decide +kernel
theorem dX1_begin_9 : decode cX1_begin 9 = .ok (.getfield 22, 3) := by decide +kernel
theorem dX1_begin_12 : decode cX1_begin 12 = .ok (.iconst 0, 1) := by decide +kernel
theorem dX1_begin_13 : decode cX1_begin 13 = .ok (.invokestatic 31, 3) := by decide +kernel
theorem dX1_begin_16 : decode cX1_begin 16 = .ok (.return_, 1) := by decide +kernel
theorem dX1_sendTo_0 : decode cX1_sendTo 0 = .ok (.bipush 9, 2) := by decide +kernel
theorem dX1_sendTo_2 : decode cX1_sendTo 2 = .ok (.iload_n 1, 1) := by decide +kernel
theorem dX1_sendTo_3 : decode cX1_sendTo 3 = .ok (.iadd, 1) := by decide +kernel
theorem dX1_sendTo_4 : decode cX1_sendTo 4 = .ok (.istore_n 2, 1) := by decide +kernel
theorem dX1_sendTo_5 : decode cX1_sendTo 5 = .ok (.aload_n 0, 1) := by decide +kernel
theorem dX1_sendTo_6 : decode cX1_sendTo 6 = .ok (.iload_n 2, 1) := by decide +kernel
theorem dX1_sendTo_7 : decode cX1_sendTo 7 = .ok (.invokevirtual 37, 3) := by decide +kernel
theorem dX1_sendTo_10 : decode cX1_sendTo 10 = .ok (.aload_n 0, 1) := by decide +kernel
theorem dX1_sendTo_11 : decode cX1_sendTo 11 = .ok (.getfield 41, 3) := by decide +kernel
theorem dX1_sendTo_14 : decode cX1_sendTo 14 = .ok (.iload_n 2, 1) := by decide +kernel
theorem dX1_sendTo_15 : decode cX1_sendTo 15 = .ok (.invokestatic 45, 3) := by decide +kernel
theorem dX1_sendTo_18 : decode cX1_sendTo 18 = .ok (.ifCond .ne 5, 3) := by decide +kernel
theorem dX1_sendTo_21 : decode cX1_sendTo 21 = .ok (.iconst 0, 1) := by decide +kernel
theorem dX1_sendTo_22 : decode cX1_sendTo 22 = .ok (.ireturn, 1) := by decide +kernel
theorem dX1_sendTo_23 : decode cX1_sendTo 23 = .ok (.iconst 0, 1) := by decide +kernel
theorem dX1_sendTo_24 : decode cX1_sendTo 24 = .ok (.istore_n 3, 1) := by decide +kernel
theorem dX1_sendTo_25 : decode cX1_sendTo 25 = .ok (.iload_n 3, 1) := by decide +kernel
theorem dX1_sendTo_26 : decode cX1_sendTo 26 = .ok (.bipush 18, 2) := by decide +kernel
theorem dX1_sendTo_28 : decode cX1_sendTo 28 = .ok (.if_icmp .ge 37, 3) := by decide +kernel
theorem dX1_sendTo_31 : decode cX1_sendTo 31 = .ok (.aload_n 0, 1) := by decide +kernel
theorem dX1_sendTo_32 : decode cX1_sendTo 32 = .ok (.getfield 25, 3) := by decide +kernel
theorem dX1_sendTo_35 : decode cX1_sendTo 35 = .ok (.iload_n 2, 1) := by decide +kernel
theorem dX1_sendTo_36 : decode cX1_sendTo 36 = .ok (.iaload, 1) := by decide +kernel
theorem dX1_sendTo_37 : decode cX1_sendTo 37 = .ok (.iconst (-1), 1) := by decide +kernel
theorem dX1_sendTo_38 : decode cX1_sendTo 38 = .ok (.if_icmp .eq 27, 3) := by decide +kernel
theorem dX1_sendTo_41 : decode cX1_sendTo 41 = .ok (.aload_n 0, 1) := by decide +kernel
theorem dX1_sendTo_42 : decode cX1_sendTo 42 = .ok (.aload_n 0, 1) := by decide +kernel
theorem dX1_sendTo_43 : decode cX1_sendTo 43 = .ok (.getfield 25, 3) := by decide +kernel
theorem dX1_sendTo_46 : decode cX1_sendTo 46 = .ok (.iload_n 2, 1) := by decide +kernel
theorem dX1_sendTo_47 : decode cX1_sendTo 47 = .ok (.iaload, 1) := by decide +kernel
theorem dX1_sendTo_48 : decode cX1_sendTo 48 = .ok (.iload_n 2, 1) := by decide +kernel
theorem dX1_sendTo_49 : decode cX1_sendTo 49 = .ok (.invokevirtual 49, 3) := by decide +kernel
theorem dX1_sendTo_52 : decode cX1_sendTo 52 = .ok (.aload_n 0, 1) := by decide +kernel
theorem dX1_sendTo_53 : decode cX1_sendTo 53 = .ok (.getfield 25, 3) := by decide +kernel
theorem dX1_sendTo_56 : decode cX1_sendTo 56 = .ok (.iload_n 2, 1) := by decide +kernel
theorem dX1_sendTo_57 : decode cX1_sendTo 57 = .ok (.iaload, 1) := by decide +kernel
theorem dX1_sendTo_58 : decode cX1_sendTo 58 = .ok (.istore_n 2, 1) := by decide +kernel
theorem dX1_sendTo_59 : decode cX1_sendTo 59 = .ok (.iinc 3 1, 3) := by decide +kernel
theorem dX1_sendTo_62 : decode cX1_sendTo 62 = .ok (.goto (-37), 3) := by decide +kernel
theorem dX1_sendTo_65 : decode cX1_sendTo 65 = .ok (.iconst 1, 1) := by decide +kernel
theorem dX1_sendTo_66 : decode cX1_sendTo 66 = .ok (.ireturn, 1) := by decide +kernel
theorem dX1_reached_0 : decode cX1_reached 0 = .ok (.aload_n 0, 1) := by decide +kernel
theorem dX1_reached_1 : decode cX1_reached 1 = .ok (.bipush (-2), 2) := by decide +kernel
theorem dX1_reached_3 : decode cX1_reached 3 = .ok (.invokevirtual 37, 3) := by decide +kernel
theorem dX1_reached_6 : decode cX1_reached 6 = .ok (.aload_n 0, 1) := by decide +kernel
theorem dX1_reached_7 : decode cX1_reached 7 = .ok (.getfield 41, 3) := by decide +kernel
theorem dX1_reached_10 : decode cX1_reached 10 = .ok (.bipush 9, 2) := by decide +kernel
theorem dX1_reached_12 : decode cX1_reached 12 = .ok (.ishr, 1) := by decide +kernel
theorem dX1_reached_13 : decode cX1_reached 13 = .ok (.ireturn, 1) := by decide +kernel
theorem dX1_search_0 : decode cX1_search 0 = .ok (.aload_n 0, 1) := by decide +kernel
theorem dX1_search_1 : decode cX1_search 1 = .ok (.iconst 0, 1) := by decide +kernel
theorem dX1_search_2 : decode cX1_search 2 = .ok (.putfield 41, 3) := by decide +kernel
theorem dX1_search_5 : decode cX1_search 5 = .ok (.aload_n 0, 1) := by decide +kernel
theorem dX1_search_6 : decode cX1_search 6 = .ok (.iconst 0, 1) := by decide +kernel
theorem dX1_search_7 : decode cX1_search 7 = .ok (.putfield 53, 3) := by decide +kernel
theorem dX1_search_10 : decode cX1_search 10 = .ok (.aload_n 0, 1) := by decide +kernel
theorem dX1_search_11 : decode cX1_search 11 = .ok (.aload_n 0, 1) := by decide +kernel
theorem dX1_search_12 : decode cX1_search 12 = .ok (.getfield 12, 3) := by decide +kernel
theorem dX1_search_15 : decode cX1_search 15 = .ok (.getfield 56, 3) := by decide +kernel
theorem dX1_search_18 : decode cX1_search 18 = .ok (.iconst (-1), 1) := by decide +kernel
theorem dX1_search_19 : decode cX1_search 19 = .ok (.invokevirtual 59, 3) := by decide +kernel
theorem dX1_search_22 : decode cX1_search 22 = .ok (.iconst 0, 1) := by decide +kernel
theorem dX1_search_23 : decode cX1_search 23 = .ok (.istore_n 2, 1) := by decide +kernel
theorem dX1_search_24 : decode cX1_search 24 = .ok (.iload_n 2, 1) := by decide +kernel
theorem dX1_search_25 : decode cX1_search 25 = .ok (.aload_n 0, 1) := by decide +kernel
theorem dX1_search_26 : decode cX1_search 26 = .ok (.getfield 53, 3) := by decide +kernel
theorem dX1_search_29 : decode cX1_search 29 = .ok (.if_icmp .ge 55, 3) := by decide +kernel
theorem dX1_search_32 : decode cX1_search 32 = .ok (.iload_n 2, 1) := by decide +kernel
theorem dX1_search_33 : decode cX1_search 33 = .ok (.bipush 18, 2) := by decide +kernel
theorem dX1_search_35 : decode cX1_search 35 = .ok (.if_icmp .ge 49, 3) := by decide +kernel
theorem dX1_search_38 : decode cX1_search 38 = .ok (.aload_n 0, 1) := by decide +kernel
theorem dX1_search_39 : decode cX1_search 39 = .ok (.getfield 28, 3) := by decide +kernel
theorem dX1_search_42 : decode cX1_search 42 = .ok (.iload_n 2, 1) := by decide +kernel
theorem dX1_search_43 : decode cX1_search 43 = .ok (.iaload, 1) := by decide +kernel
theorem dX1_search_44 : decode cX1_search 44 = .ok (.istore_n 3, 1) := by decide +kernel
theorem dX1_search_45 : decode cX1_search 45 = .ok (.iload_n 3, 1) := by decide +kernel
theorem dX1_search_46 : decode cX1_search 46 = .ok (.iload_n 1, 1) := by decide +kernel
theorem dX1_search_47 : decode cX1_search 47 = .ok (.if_icmp .ne 4, 3) := by decide +kernel
theorem dX1_search_50 : decode cX1_search 50 = .ok (.return_, 1) := by decide +kernel
theorem dX1_search_51 : decode cX1_search 51 = .ok (.aload_n 0, 1) := by decide +kernel
theorem dX1_search_52 : decode cX1_search 52 = .ok (.iload_n 3, 1) := by decide +kernel
theorem dX1_search_53 : decode cX1_search 53 = .ok (.bipush 9, 2) := by decide +kernel
theorem dX1_search_55 : decode cX1_search 55 = .ok (.if_icmp .ge 11, 3) := by decide +kernel
theorem dX1_search_58 : decode cX1_search 58 = .ok (.aload_n 0, 1) := by decide +kernel
theorem dX1_search_59 : decode cX1_search 59 = .ok (.iload_n 3, 1) := by decide +kernel
theorem dX1_search_60 : decode cX1_search 60 = .ok (.invokevirtual 62, 3) := by decide +kernel
theorem dX1_search_63 : decode cX1_search 63 = .ok (.goto 11, 3) := by decide +kernel
theorem dX1_search_66 : decode cX1_search 66 = .ok (.aload_n 0, 1) := by decide +kernel
theorem dX1_search_67 : decode cX1_search 67 = .ok (.iload_n 3, 1) := by decide +kernel
theorem dX1_search_68 : decode cX1_search 68 = .ok (.bipush 9, 2) := by decide +kernel
theorem dX1_search_70 : decode cX1_search 70 = .ok (.isub, 1) := by decide +kernel
theorem dX1_search_71 : decode cX1_search 71 = .ok (.invokevirtual 66, 3) := by decide +kernel
theorem dX1_search_74 : decode cX1_search 74 = .ok (.iload_n 3, 1) := by decide +kernel
theorem dX1_search_75 : decode cX1_search 75 = .ok (.invokevirtual 59, 3) := by decide +kernel
theorem dX1_search_78 : decode cX1_search 78 = .ok (.iinc 2 1, 3) := by decide +kernel
theorem dX1_search_81 : decode cX1_search 81 = .ok (.goto (-57), 3) := by decide +kernel
theorem dX1_search_84 : decode cX1_search 84 = .ok (.return_, 1) := by decide +kernel
theorem dX1_note_0 : decode cX1_note 0 = .ok (.iload_n 1, 1) := by decide +kernel
theorem dX1_note_1 : decode cX1_note 1 = .ok (.aload_n 0, 1) := by decide +kernel
theorem dX1_note_2 : decode cX1_note 2 = .ok (.getfield 41, 3) := by decide +kernel
theorem dX1_note_5 : decode cX1_note 5 = .ok (.iconst (-1), 1) := by decide +kernel
theorem dX1_note_6 : decode cX1_note 6 = .ok (.ixor, 1) := by decide +kernel
theorem dX1_note_7 : decode cX1_note 7 = .ok (.iand, 1) := by decide +kernel
theorem dX1_note_8 : decode cX1_note 8 = .ok (.istore_n 3, 1) := by decide +kernel
theorem dX1_note_9 : decode cX1_note 9 = .ok (.iconst 0, 1) := by decide +kernel
theorem dX1_note_10 : decode cX1_note 10 = .ok (.istore 4, 2) := by decide +kernel
theorem dX1_note_12 : decode cX1_note 12 = .ok (.iload 4, 2) := by decide +kernel
theorem dX1_note_14 : decode cX1_note 14 = .ok (.bipush 18, 2) := by decide +kernel
theorem dX1_note_16 : decode cX1_note 16 = .ok (.if_icmp .ge 64, 3) := by decide +kernel
theorem dX1_note_19 : decode cX1_note 19 = .ok (.iload_n 3, 1) := by decide +kernel
theorem dX1_note_20 : decode cX1_note 20 = .ok (.iload 4, 2) := by decide +kernel
theorem dX1_note_22 : decode cX1_note 22 = .ok (.ishr, 1) := by decide +kernel
theorem dX1_note_23 : decode cX1_note 23 = .ok (.ifCond .eq 57, 3) := by decide +kernel
theorem dX1_note_26 : decode cX1_note 26 = .ok (.iload_n 3, 1) := by decide +kernel
theorem dX1_note_27 : decode cX1_note 27 = .ok (.iload 4, 2) := by decide +kernel
theorem dX1_note_29 : decode cX1_note 29 = .ok (.ishr, 1) := by decide +kernel
theorem dX1_note_30 : decode cX1_note 30 = .ok (.iconst 1, 1) := by decide +kernel
theorem dX1_note_31 : decode cX1_note 31 = .ok (.iand, 1) := by decide +kernel
theorem dX1_note_32 : decode cX1_note 32 = .ok (.iconst 1, 1) := by decide +kernel
theorem dX1_note_33 : decode cX1_note 33 = .ok (.if_icmp .ne 41, 3) := by decide +kernel
theorem dX1_note_36 : decode cX1_note 36 = .ok (.aload_n 0, 1) := by decide +kernel
theorem dX1_note_37 : decode cX1_note 37 = .ok (.getfield 53, 3) := by decide +kernel
theorem dX1_note_40 : decode cX1_note 40 = .ok (.bipush 18, 2) := by decide +kernel
theorem dX1_note_42 : decode cX1_note 42 = .ok (.if_icmp .ge 32, 3) := by decide +kernel
theorem dX1_note_45 : decode cX1_note 45 = .ok (.aload_n 0, 1) := by decide +kernel
theorem dX1_note_46 : decode cX1_note 46 = .ok (.getfield 25, 3) := by decide +kernel
theorem dX1_note_49 : decode cX1_note 49 = .ok (.iload 4, 2) := by decide +kernel
theorem dX1_note_51 : decode cX1_note 51 = .ok (.iload_n 2, 1) := by decide +kernel
theorem dX1_note_52 : decode cX1_note 52 = .ok (.iastore, 1) := by decide +kernel
theorem dX1_note_53 : decode cX1_note 53 = .ok (.aload_n 0, 1) := by decide +kernel
theorem dX1_note_54 : decode cX1_note 54 = .ok (.getfield 28, 3) := by decide +kernel
theorem dX1_note_57 : decode cX1_note 57 = .ok (.aload_n 0, 1) := by decide +kernel
theorem dX1_note_58 : decode cX1_note 58 = .ok (.getfield 53, 3) := by decide +kernel
theorem dX1_note_61 : decode cX1_note 61 = .ok (.iload 4, 2) := by decide +kernel
theorem dX1_note_63 : decode cX1_note 63 = .ok (.iastore, 1) := by decide +kernel
theorem dX1_note_64 : decode cX1_note 64 = .ok (.aload_n 0, 1) := by decide +kernel
theorem dX1_note_65 : decode cX1_note 65 = .ok (.dup, 1) := by decide +kernel
theorem dX1_note_66 : decode cX1_note 66 = .ok (.getfield 53, 3) := by decide +kernel
theorem dX1_note_69 : decode cX1_note 69 = .ok (.iconst 1, 1) := by decide +kernel
theorem dX1_note_70 : decode cX1_note 70 = .ok (.iadd, 1) := by decide +kernel
theorem dX1_note_71 : decode cX1_note 71 = .ok (.putfield 53, 3) := by decide +kernel
theorem dX1_note_74 : decode cX1_note 74 = .ok (.iinc 4 1, 3) := by decide +kernel
theorem dX1_note_77 : decode cX1_note 77 = .ok (.goto (-65), 3) := by decide +kernel
theorem dX1_note_80 : decode cX1_note 80 = .ok (.aload_n 0, 1) := by decide +kernel
theorem dX1_note_81 : decode cX1_note 81 = .ok (.dup, 1) := by decide +kernel
theorem dX1_note_82 : decode cX1_note 82 = .ok (.getfield 41, 3) := by decide +kernel
theorem dX1_note_85 : decode cX1_note 85 = .ok (.iload_n 3, 1) := by decide +kernel
theorem dX1_note_86 : decode cX1_note 86 = .ok (.ior, 1) := by decide +kernel
theorem dX1_note_87 : decode cX1_note 87 = .ok (.putfield 41, 3) := by decide +kernel
theorem dX1_note_90 : decode cX1_note 90 = .ok (.return_, 1) := by decide +kernel
theorem dX1_nextOfComing_0 : decode cX1_nextOfComing 0 = .ok (.aload_n 0, 1) := by decide +kernel
theorem dX1_nextOfComing_1 : decode cX1_nextOfComing 1 = .ok (.getfield 18, 3) := by decide +kernel
theorem dX1_nextOfComing_4 : decode cX1_nextOfComing 4 = .ok (.iload_n 1, 1) := by decide +kernel
theorem dX1_nextOfComing_5 : decode cX1_nextOfComing 5 = .ok (.iaload, 1) := by decide +kernel
theorem dX1_nextOfComing_6 : decode cX1_nextOfComing 6 = .ok (.aload_n 0, 1) := by decide +kernel
theorem dX1_nextOfComing_7 : decode cX1_nextOfComing 7 = .ok (.getfield 12, 3) := by decide +kernel
theorem dX1_nextOfComing_10 : decode cX1_nextOfComing 10 = .ok (.getfield 69, 3) := by decide +kernel
theorem dX1_nextOfComing_13 : decode cX1_nextOfComing 13 = .ok (.iload_n 1, 1) := by decide +kernel
theorem dX1_nextOfComing_14 : decode cX1_nextOfComing 14 = .ok (.iaload, 1) := by decide +kernel
theorem dX1_nextOfComing_15 : decode cX1_nextOfComing 15 = .ok (.if_icmp .ge 12, 3) := by decide +kernel
theorem dX1_nextOfComing_18 : decode cX1_nextOfComing 18 = .ok (.iconst 1, 1) := by decide +kernel
theorem dX1_nextOfComing_19 : decode cX1_nextOfComing 19 = .ok (.bipush 9, 2) := by decide +kernel
theorem dX1_nextOfComing_21 : decode cX1_nextOfComing 21 = .ok (.iload_n 1, 1) := by decide +kernel
theorem dX1_nextOfComing_22 : decode cX1_nextOfComing 22 = .ok (.iadd, 1) := by decide +kernel
theorem dX1_nextOfComing_23 : decode cX1_nextOfComing 23 = .ok (.ishl, 1) := by decide +kernel
theorem dX1_nextOfComing_24 : decode cX1_nextOfComing 24 = .ok (.goto 4, 3) := by decide +kernel
theorem dX1_nextOfComing_27 : decode cX1_nextOfComing 27 = .ok (.iconst 0, 1) := by decide +kernel
theorem dX1_nextOfComing_28 : decode cX1_nextOfComing 28 = .ok (.istore_n 2, 1) := by decide +kernel
theorem dX1_nextOfComing_29 : decode cX1_nextOfComing 29 = .ok (.iconst 0, 1) := by decide +kernel
theorem dX1_nextOfComing_30 : decode cX1_nextOfComing 30 = .ok (.istore_n 3, 1) := by decide +kernel
theorem dX1_nextOfComing_31 : decode cX1_nextOfComing 31 = .ok (.iload_n 3, 1) := by decide +kernel
theorem dX1_nextOfComing_32 : decode cX1_nextOfComing 32 = .ok (.aload_n 0, 1) := by decide +kernel
theorem dX1_nextOfComing_33 : decode cX1_nextOfComing 33 = .ok (.getfield 12, 3) := by decide +kernel
theorem dX1_nextOfComing_36 : decode cX1_nextOfComing 36 = .ok (.getfield 72, 3) := by decide +kernel
theorem dX1_nextOfComing_39 : decode cX1_nextOfComing 39 = .ok (.if_icmp .ge 41, 3) := by decide +kernel
theorem dX1_nextOfComing_42 : decode cX1_nextOfComing 42 = .ok (.aload_n 0, 1) := by decide +kernel
theorem dX1_nextOfComing_43 : decode cX1_nextOfComing 43 = .ok (.getfield 18, 3) := by decide +kernel
theorem dX1_nextOfComing_46 : decode cX1_nextOfComing 46 = .ok (.iload_n 1, 1) := by decide +kernel
theorem dX1_nextOfComing_47 : decode cX1_nextOfComing 47 = .ok (.iaload, 1) := by decide +kernel
theorem dX1_nextOfComing_48 : decode cX1_nextOfComing 48 = .ok (.ifCond .le 32, 3) := by decide +kernel
theorem dX1_nextOfComing_51 : decode cX1_nextOfComing 51 = .ok (.aload_n 0, 1) := by decide +kernel
theorem dX1_nextOfComing_52 : decode cX1_nextOfComing 52 = .ok (.getfield 22, 3) := by decide +kernel
theorem dX1_nextOfComing_55 : decode cX1_nextOfComing 55 = .ok (.iload_n 3, 1) := by decide +kernel
theorem dX1_nextOfComing_56 : decode cX1_nextOfComing 56 = .ok (.bipush 9, 2) := by decide +kernel
theorem dX1_nextOfComing_58 : decode cX1_nextOfComing 58 = .ok (.imul, 1) := by decide +kernel
theorem dX1_nextOfComing_59 : decode cX1_nextOfComing 59 = .ok (.iload_n 1, 1) := by decide +kernel
theorem dX1_nextOfComing_60 : decode cX1_nextOfComing 60 = .ok (.iadd, 1) := by decide +kernel
theorem dX1_nextOfComing_61 : decode cX1_nextOfComing 61 = .ok (.iaload, 1) := by decide +kernel
theorem dX1_nextOfComing_62 : decode cX1_nextOfComing 62 = .ok (.ifCond .le 12, 3) := by decide +kernel
theorem dX1_nextOfComing_65 : decode cX1_nextOfComing 65 = .ok (.iload_n 2, 1) := by decide +kernel
theorem dX1_nextOfComing_66 : decode cX1_nextOfComing 66 = .ok (.iconst 1, 1) := by decide +kernel
theorem dX1_nextOfComing_67 : decode cX1_nextOfComing 67 = .ok (.bipush 9, 2) := by decide +kernel
theorem dX1_nextOfComing_69 : decode cX1_nextOfComing 69 = .ok (.iload_n 3, 1) := by decide +kernel
theorem dX1_nextOfComing_70 : decode cX1_nextOfComing 70 = .ok (.iadd, 1) := by decide +kernel
theorem dX1_nextOfComing_71 : decode cX1_nextOfComing 71 = .ok (.ishl, 1) := by decide +kernel
theorem dX1_nextOfComing_72 : decode cX1_nextOfComing 72 = .ok (.ior, 1) := by decide +kernel
theorem dX1_nextOfComing_73 : decode cX1_nextOfComing 73 = .ok (.istore_n 2, 1) := by decide +kernel
theorem dX1_nextOfComing_74 : decode cX1_nextOfComing 74 = .ok (.iinc 3 1, 3) := by decide +kernel
theorem dX1_nextOfComing_77 : decode cX1_nextOfComing 77 = .ok (.goto (-46), 3) := by decide +kernel
theorem dX1_nextOfComing_80 : decode cX1_nextOfComing 80 = .ok (.iload_n 2, 1) := by decide +kernel
theorem dX1_nextOfComing_81 : decode cX1_nextOfComing 81 = .ok (.ireturn, 1) := by decide +kernel
theorem dX1_nextOfGoing_0 : decode cX1_nextOfGoing 0 = .ok (.aload_n 0, 1) := by decide +kernel
theorem dX1_nextOfGoing_1 : decode cX1_nextOfGoing 1 = .ok (.getfield 12, 3) := by decide +kernel
theorem dX1_nextOfGoing_4 : decode cX1_nextOfGoing 4 = .ok (.getfield 75, 3) := by decide +kernel
theorem dX1_nextOfGoing_7 : decode cX1_nextOfGoing 7 = .ok (.iload_n 1, 1) := by decide +kernel
theorem dX1_nextOfGoing_8 : decode cX1_nextOfGoing 8 = .ok (.iaload, 1) := by decide +kernel
theorem dX1_nextOfGoing_9 : decode cX1_nextOfGoing 9 = .ok (.aload_n 0, 1) := by decide +kernel
theorem dX1_nextOfGoing_10 : decode cX1_nextOfGoing 10 = .ok (.getfield 18, 3) := by decide +kernel
theorem dX1_nextOfGoing_13 : decode cX1_nextOfGoing 13 = .ok (.iload_n 1, 1) := by decide +kernel
theorem dX1_nextOfGoing_14 : decode cX1_nextOfGoing 14 = .ok (.iaload, 1) := by decide +kernel
theorem dX1_nextOfGoing_15 : decode cX1_nextOfGoing 15 = .ok (.ifCond .le 9, 3) := by decide +kernel
theorem dX1_nextOfGoing_18 : decode cX1_nextOfGoing 18 = .ok (.iconst 1, 1) := by decide +kernel
theorem dX1_nextOfGoing_19 : decode cX1_nextOfGoing 19 = .ok (.iload_n 1, 1) := by decide +kernel
theorem dX1_nextOfGoing_20 : decode cX1_nextOfGoing 20 = .ok (.ishl, 1) := by decide +kernel
theorem dX1_nextOfGoing_21 : decode cX1_nextOfGoing 21 = .ok (.goto 4, 3) := by decide +kernel
theorem dX1_nextOfGoing_24 : decode cX1_nextOfGoing 24 = .ok (.iconst 0, 1) := by decide +kernel
theorem dX1_nextOfGoing_25 : decode cX1_nextOfGoing 25 = .ok (.ior, 1) := by decide +kernel
theorem dX1_nextOfGoing_26 : decode cX1_nextOfGoing 26 = .ok (.ireturn, 1) := by decide +kernel
theorem dX1_move_0 : decode cX1_move 0 = .ok (.iload_n 1, 1) := by decide +kernel
theorem dX1_move_1 : decode cX1_move 1 = .ok (.bipush 9, 2) := by decide +kernel
theorem dX1_move_3 : decode cX1_move 3 = .ok (.if_icmp .ge 15, 3) := by decide +kernel
theorem dX1_move_6 : decode cX1_move 6 = .ok (.aload_n 0, 1) := by decide +kernel
theorem dX1_move_7 : decode cX1_move 7 = .ok (.iload_n 1, 1) := by decide +kernel
theorem dX1_move_8 : decode cX1_move 8 = .ok (.iload_n 2, 1) := by decide +kernel
theorem dX1_move_9 : decode cX1_move 9 = .ok (.bipush 9, 2) := by decide +kernel
theorem dX1_move_11 : decode cX1_move 11 = .ok (.isub, 1) := by decide +kernel
theorem dX1_move_12 : decode cX1_move 12 = .ok (.invokevirtual 78, 3) := by decide +kernel
theorem dX1_move_15 : decode cX1_move 15 = .ok (.goto 12, 3) := by decide +kernel
theorem dX1_move_18 : decode cX1_move 18 = .ok (.aload_n 0, 1) := by decide +kernel
theorem dX1_move_19 : decode cX1_move 19 = .ok (.iload_n 1, 1) := by decide +kernel
theorem dX1_move_20 : decode cX1_move 20 = .ok (.bipush 9, 2) := by decide +kernel
theorem dX1_move_22 : decode cX1_move 22 = .ok (.isub, 1) := by decide +kernel
theorem dX1_move_23 : decode cX1_move 23 = .ok (.iload_n 2, 1) := by decide +kernel
theorem dX1_move_24 : decode cX1_move 24 = .ok (.invokevirtual 81, 3) := by decide +kernel
theorem dX1_move_27 : decode cX1_move 27 = .ok (.return_, 1) := by decide +kernel
theorem dX1_moveFromComing_0 : decode cX1_moveFromComing 0 = .ok (.iload_n 1, 1) := by decide +kernel
theorem dX1_moveFromComing_1 : decode cX1_moveFromComing 1 = .ok (.iload_n 2, 1) := by decide +kernel
theorem dX1_moveFromComing_2 : decode cX1_moveFromComing 2 = .ok (.if_icmp .ne 16, 3) := by decide +kernel
theorem dX1_moveFromComing_5 : decode cX1_moveFromComing 5 = .ok (.aload_n 0, 1) := by decide +kernel
theorem dX1_moveFromComing_6 : decode cX1_moveFromComing 6 = .ok (.getfield 18, 3) := by decide +kernel
theorem dX1_moveFromComing_9 : decode cX1_moveFromComing 9 = .ok (.iload_n 1, 1) := by decide +kernel
theorem dX1_moveFromComing_10 : decode cX1_moveFromComing 10 = .ok (.dup2, 1) := by decide +kernel
theorem dX1_moveFromComing_11 : decode cX1_moveFromComing 11 = .ok (.iaload, 1) := by decide +kernel
theorem dX1_moveFromComing_12 : decode cX1_moveFromComing 12 = .ok (.iconst 1, 1) := by decide +kernel
theorem dX1_moveFromComing_13 : decode cX1_moveFromComing 13 = .ok (.iadd, 1) := by decide +kernel
theorem dX1_moveFromComing_14 : decode cX1_moveFromComing 14 = .ok (.iastore, 1) := by decide +kernel
theorem dX1_moveFromComing_15 : decode cX1_moveFromComing 15 = .ok (.goto 18, 3) := by decide +kernel
theorem dX1_moveFromComing_18 : decode cX1_moveFromComing 18 = .ok (.aload_n 0, 1) := by decide +kernel
theorem dX1_moveFromComing_19 : decode cX1_moveFromComing 19 = .ok (.getfield 22, 3) := by decide +kernel
theorem dX1_moveFromComing_22 : decode cX1_moveFromComing 22 = .ok (.iload_n 2, 1) := by decide +kernel
theorem dX1_moveFromComing_23 : decode cX1_moveFromComing 23 = .ok (.bipush 9, 2) := by decide +kernel
theorem dX1_moveFromComing_25 : decode cX1_moveFromComing 25 = .ok (.imul, 1) := by decide +kernel
theorem dX1_moveFromComing_26 : decode cX1_moveFromComing 26 = .ok (.iload_n 1, 1) := by decide +kernel
theorem dX1_moveFromComing_27 : decode cX1_moveFromComing 27 = .ok (.iadd, 1) := by decide +kernel
theorem dX1_moveFromComing_28 : decode cX1_moveFromComing 28 = .ok (.dup2, 1) := by decide +kernel
theorem dX1_moveFromComing_29 : decode cX1_moveFromComing 29 = .ok (.iaload, 1) := by decide +kernel
theorem dX1_moveFromComing_30 : decode cX1_moveFromComing 30 = .ok (.iconst 1, 1) := by decide +kernel
theorem dX1_moveFromComing_31 : decode cX1_moveFromComing 31 = .ok (.isub, 1) := by decide +kernel
theorem dX1_moveFromComing_32 : decode cX1_moveFromComing 32 = .ok (.iastore, 1) := by decide +kernel
theorem dX1_moveFromComing_33 : decode cX1_moveFromComing 33 = .ok (.return_, 1) := by decide +kernel
theorem dX1_moveFromGoing_0 : decode cX1_moveFromGoing 0 = .ok (.iload_n 1, 1) := by decide +kernel
theorem dX1_moveFromGoing_1 : decode cX1_moveFromGoing 1 = .ok (.iload_n 2, 1) := by decide +kernel
theorem dX1_moveFromGoing_2 : decode cX1_moveFromGoing 2 = .ok (.if_icmp .ne 16, 3) := by decide +kernel
theorem dX1_moveFromGoing_5 : decode cX1_moveFromGoing 5 = .ok (.aload_n 0, 1) := by decide +kernel
theorem dX1_moveFromGoing_6 : decode cX1_moveFromGoing 6 = .ok (.getfield 18, 3) := by decide +kernel
theorem dX1_moveFromGoing_9 : decode cX1_moveFromGoing 9 = .ok (.iload_n 1, 1) := by decide +kernel
theorem dX1_moveFromGoing_10 : decode cX1_moveFromGoing 10 = .ok (.dup2, 1) := by decide +kernel
theorem dX1_moveFromGoing_11 : decode cX1_moveFromGoing 11 = .ok (.iaload, 1) := by decide +kernel
theorem dX1_moveFromGoing_12 : decode cX1_moveFromGoing 12 = .ok (.iconst 1, 1) := by decide +kernel
theorem dX1_moveFromGoing_13 : decode cX1_moveFromGoing 13 = .ok (.isub, 1) := by decide +kernel
theorem dX1_moveFromGoing_14 : decode cX1_moveFromGoing 14 = .ok (.iastore, 1) := by decide +kernel
theorem dX1_moveFromGoing_15 : decode cX1_moveFromGoing 15 = .ok (.goto 18, 3) := by decide +kernel
theorem dX1_moveFromGoing_18 : decode cX1_moveFromGoing 18 = .ok (.aload_n 0, 1) := by decide +kernel
theorem dX1_moveFromGoing_19 : decode cX1_moveFromGoing 19 = .ok (.getfield 22, 3) := by decide +kernel
theorem dX1_moveFromGoing_22 : decode cX1_moveFromGoing 22 = .ok (.iload_n 1, 1) := by decide +kernel
theorem dX1_moveFromGoing_23 : decode cX1_moveFromGoing 23 = .ok (.bipush 9, 2) := by decide +kernel
theorem dX1_moveFromGoing_25 : decode cX1_moveFromGoing 25 = .ok (.imul, 1) := by decide +kernel
theorem dX1_moveFromGoing_26 : decode cX1_moveFromGoing 26 = .ok (.iload_n 2, 1) := by decide +kernel
theorem dX1_moveFromGoing_27 : decode cX1_moveFromGoing 27 = .ok (.iadd, 1) := by decide +kernel
theorem dX1_moveFromGoing_28 : decode cX1_moveFromGoing 28 = .ok (.dup2, 1) := by decide +kernel
theorem dX1_moveFromGoing_29 : decode cX1_moveFromGoing 29 = .ok (.iaload, 1) := by decide +kernel
theorem dX1_moveFromGoing_30 : decode cX1_moveFromGoing 30 = .ok (.iconst 1, 1) := by decide +kernel
theorem dX1_moveFromGoing_31 : decode cX1_moveFromGoing 31 = .ok (.iadd, 1) := by decide +kernel
theorem dX1_moveFromGoing_32 : decode cX1_moveFromGoing 32 = .ok (.iastore, 1) := by decide +kernel
theorem dX1_moveFromGoing_33 : decode cX1_moveFromGoing 33 = .ok (.return_, 1) := by decide +kernel
theorem dX2_init_0 : decode cX2_init 0 = .ok (.aload_n 0, 1) := by decide +kernel
theorem dX2_init_1 : decode cX2_init 1 = .ok (.invokespecial 3, 3) := by decide +kernel
theorem dX2_init_4 : decode cX2_init 4 = .ok (.aload_n 0, 1) := by decide +kernel
theorem dX2_init_5 : decode cX2_init 5 = .ok (.new 9, 3) := by decide +kernel
theorem dX2_init_8 : decode cX2_init 8 = .ok (.dup, 1) := by decide +kernel
theorem dX2_init_9 : decode cX2_init 9 = .ok (.invokespecial 11, 3) := by decide +kernel
theorem dX2_init_12 : decode cX2_init 12 = .ok (.putfield 12, 3) := by decide +kernel
theorem dX2_init_15 : decode cX2_init 15 = .ok (.return_, 1) := by decide +kernel
theorem dX2_begin_0 : decode cX2_begin 0 = .ok (.aload_n 0, 1) := by decide +kernel
theorem dX2_begin_1 : decode cX2_begin 1 = .ok (.getfield 12, 3) := by decide +kernel
theorem dX2_begin_4 : decode cX2_begin 4 = .ok (.invokevirtual 18, 3) := by decide +kernel
theorem dX2_begin_7 : decode cX2_begin 7 = .ok (.aload_n 0, 1) := by decide +kernel
theorem dX2_begin_8 : decode cX2_begin 8 = .ok (.iconst 0, 1) := by decide +kernel
theorem dX2_begin_9 : decode cX2_begin 9 = .ok (.putfield 21, 3) := by decide +kernel
theorem dX2_begin_12 : decode cX2_begin 12 = .ok (.aload_n 0, 1) := by decide +kernel
theorem dX2_begin_13 : decode cX2_begin 13 = .ok (.iconst 0, 1) := by decide +kernel
theorem dX2_begin_14 : decode cX2_begin 14 = .ok (.putfield 25, 3) := by decide +kernel
theorem dX2_begin_17 : decode cX2_begin 17 = .ok (.aload_n 0, 1) := by decide +kernel
theorem dX2_begin_18 : decode cX2_begin 18 = .ok (.iconst (-1), 1) := by decide +kernel
theorem dX2_begin_19 : decode cX2_begin 19 = .ok (.putfield 28, 3) := by decide +kernel
theorem dX2_begin_22 : decode cX2_begin 22 = .ok (.return_, 1) := by decide +kernel
theorem dX2_isComplete_0 : decode cX2_isComplete 0 = .ok (.aload_n 0, 1) := by decide +kernel
theorem dX2_isComplete_1 : decode cX2_isComplete 1 = .ok (.getfield 21, 3) := by decide +kernel
theorem dX2_isComplete_4 : decode cX2_isComplete 4 = .ok (.iconst 3, 1) := by decide +kernel
theorem dX2_isComplete_5 : decode cX2_isComplete 5 = .ok (.if_icmp .eq 11, 3) := by decide +kernel
theorem dX2_isComplete_8 : decode cX2_isComplete 8 = .ok (.aload_n 0, 1) := by decide +kernel
theorem dX2_isComplete_9 : decode cX2_isComplete 9 = .ok (.getfield 21, 3) := by decide +kernel
theorem dX2_isComplete_12 : decode cX2_isComplete 12 = .ok (.iconst 4, 1) := by decide +kernel
theorem dX2_isComplete_13 : decode cX2_isComplete 13 = .ok (.if_icmp .ne 23, 3) := by decide +kernel
theorem dX2_isComplete_16 : decode cX2_isComplete 16 = .ok (.aload_n 0, 1) := by decide +kernel
theorem dX2_isComplete_17 : decode cX2_isComplete 17 = .ok (.getfield 25, 3) := by decide +kernel
theorem dX2_isComplete_20 : decode cX2_isComplete 20 = .ok (.aload_n 0, 1) := by decide +kernel
theorem dX2_isComplete_21 : decode cX2_isComplete 21 = .ok (.getfield 12, 3) := by decide +kernel
theorem dX2_isComplete_24 : decode cX2_isComplete 24 = .ok (.getfield 31, 3) := by decide +kernel
theorem dX2_isComplete_27 : decode cX2_isComplete 27 = .ok (.iconst 1, 1) := by decide +kernel
theorem dX2_isComplete_28 : decode cX2_isComplete 28 = .ok (.isub, 1) := by decide +kernel
theorem dX2_isComplete_29 : decode cX2_isComplete 29 = .ok (.if_icmp .ne 7, 3) := by decide +kernel
theorem dX2_isComplete_32 : decode cX2_isComplete 32 = .ok (.iconst 1, 1) := by decide +kernel
theorem dX2_isComplete_33 : decode cX2_isComplete 33 = .ok (.goto 4, 3) := by decide +kernel
theorem dX2_isComplete_36 : decode cX2_isComplete 36 = .ok (.iconst 0, 1) := by decide +kernel
theorem dX2_isComplete_37 : decode cX2_isComplete 37 = .ok (.ireturn, 1) := by decide +kernel
theorem dX2_take_0 : decode cX2_take 0 = .ok (.aload_n 0, 1) := by decide +kernel
theorem dX2_take_1 : decode cX2_take 1 = .ok (.getfield 21, 3) := by decide +kernel
theorem dX2_take_4 : decode cX2_take 4 = .ok (.tableswitch 118 0 4 #[36, 45, 65, 90, 112], 36) := by decide +kernel
theorem dX2_take_40 : decode cX2_take 40 = .ok (.aload_n 0, 1) := by decide +kernel
theorem dX2_take_41 : decode cX2_take 41 = .ok (.iload_n 1, 1) := by decide +kernel
theorem dX2_take_42 : decode cX2_take 42 = .ok (.bipush 48, 2) := by decide +kernel
theorem dX2_take_44 : decode cX2_take 44 = .ok (.isub, 1) := by decide +kernel
theorem dX2_take_45 : decode cX2_take 45 = .ok (.invokevirtual 34, 3) := by decide +kernel
theorem dX2_take_48 : decode cX2_take 48 = .ok (.ireturn, 1) := by decide +kernel
theorem dX2_take_49 : decode cX2_take 49 = .ok (.iload_n 1, 1) := by decide +kernel
theorem dX2_take_50 : decode cX2_take 50 = .ok (.bipush 58, 2) := by decide +kernel
theorem dX2_take_52 : decode cX2_take 52 = .ok (.if_icmp .ne 15, 3) := by decide +kernel
theorem dX2_take_55 : decode cX2_take 55 = .ok (.aload_n 0, 1) := by decide +kernel
theorem dX2_take_56 : decode cX2_take 56 = .ok (.iconst 2, 1) := by decide +kernel
theorem dX2_take_57 : decode cX2_take 57 = .ok (.invokevirtual 38, 3) := by decide +kernel
theorem dX2_take_60 : decode cX2_take 60 = .ok (.ifCond .eq 7, 3) := by decide +kernel
theorem dX2_take_63 : decode cX2_take 63 = .ok (.iconst 1, 1) := by decide +kernel
theorem dX2_take_64 : decode cX2_take 64 = .ok (.goto 4, 3) := by decide +kernel
theorem dX2_take_67 : decode cX2_take 67 = .ok (.iconst 0, 1) := by decide +kernel
theorem dX2_take_68 : decode cX2_take 68 = .ok (.ireturn, 1) := by decide +kernel
theorem dX2_take_69 : decode cX2_take 69 = .ok (.aload_n 0, 1) := by decide +kernel
theorem dX2_take_70 : decode cX2_take 70 = .ok (.iload_n 1, 1) := by decide +kernel
theorem dX2_take_71 : decode cX2_take 71 = .ok (.invokevirtual 41, 3) := by decide +kernel
theorem dX2_take_74 : decode cX2_take 74 = .ok (.ifCond .ne 14, 3) := by decide +kernel
theorem dX2_take_77 : decode cX2_take 77 = .ok (.aload_n 0, 1) := by decide +kernel
theorem dX2_take_78 : decode cX2_take 78 = .ok (.iload_n 1, 1) := by decide +kernel
theorem dX2_take_79 : decode cX2_take 79 = .ok (.bipush 48, 2) := by decide +kernel
theorem dX2_take_81 : decode cX2_take 81 = .ok (.isub, 1) := by decide +kernel
theorem dX2_take_82 : decode cX2_take 82 = .ok (.invokevirtual 44, 3) := by decide +kernel
theorem dX2_take_85 : decode cX2_take 85 = .ok (.ifCond .eq 7, 3) := by decide +kernel
theorem dX2_take_88 : decode cX2_take 88 = .ok (.iconst 1, 1) := by decide +kernel
theorem dX2_take_89 : decode cX2_take 89 = .ok (.goto 4, 3) := by decide +kernel
theorem dX2_take_92 : decode cX2_take 92 = .ok (.iconst 0, 1) := by decide +kernel
theorem dX2_take_93 : decode cX2_take 93 = .ok (.ireturn, 1) := by decide +kernel
theorem dX2_take_94 : decode cX2_take 94 = .ok (.aload_n 0, 1) := by decide +kernel
theorem dX2_take_95 : decode cX2_take 95 = .ok (.iload_n 1, 1) := by decide +kernel
theorem dX2_take_96 : decode cX2_take 96 = .ok (.invokevirtual 47, 3) := by decide +kernel
theorem dX2_take_99 : decode cX2_take 99 = .ok (.ifCond .ne 11, 3) := by decide +kernel
theorem dX2_take_102 : decode cX2_take 102 = .ok (.aload_n 0, 1) := by decide +kernel
theorem dX2_take_103 : decode cX2_take 103 = .ok (.iload_n 1, 1) := by decide +kernel
theorem dX2_take_104 : decode cX2_take 104 = .ok (.invokevirtual 50, 3) := by decide +kernel
theorem dX2_take_107 : decode cX2_take 107 = .ok (.ifCond .eq 7, 3) := by decide +kernel
theorem dX2_take_110 : decode cX2_take 110 = .ok (.iconst 1, 1) := by decide +kernel
theorem dX2_take_111 : decode cX2_take 111 = .ok (.goto 4, 3) := by decide +kernel
theorem dX2_take_114 : decode cX2_take 114 = .ok (.iconst 0, 1) := by decide +kernel
theorem dX2_take_115 : decode cX2_take 115 = .ok (.ireturn, 1) := by decide +kernel
theorem dX2_take_116 : decode cX2_take 116 = .ok (.aload_n 0, 1) := by decide +kernel
theorem dX2_take_117 : decode cX2_take 117 = .ok (.iload_n 1, 1) := by decide +kernel
theorem dX2_take_118 : decode cX2_take 118 = .ok (.invokevirtual 50, 3) := by decide +kernel
theorem dX2_take_121 : decode cX2_take 121 = .ok (.ireturn, 1) := by decide +kernel
theorem dX2_take_122 : decode cX2_take 122 = .ok (.aload_n 0, 1) := by decide +kernel
theorem dX2_take_123 : decode cX2_take 123 = .ok (.iload_n 1, 1) := by decide +kernel
theorem dX2_take_124 : decode cX2_take 124 = .ok (.bipush 48, 2) := by decide +kernel
theorem dX2_take_126 : decode cX2_take 126 = .ok (.isub, 1) := by decide +kernel
theorem dX2_take_127 : decode cX2_take 127 = .ok (.invokevirtual 53, 3) := by decide +kernel
theorem dX2_take_130 : decode cX2_take 130 = .ok (.ireturn, 1) := by decide +kernel
theorem dX2_moveTo_0 : decode cX2_moveTo 0 = .ok (.aload_n 0, 1) := by decide +kernel
theorem dX2_moveTo_1 : decode cX2_moveTo 1 = .ok (.iload_n 1, 1) := by decide +kernel
theorem dX2_moveTo_2 : decode cX2_moveTo 2 = .ok (.putfield 21, 3) := by decide +kernel
theorem dX2_moveTo_5 : decode cX2_moveTo 5 = .ok (.iconst 1, 1) := by decide +kernel
theorem dX2_moveTo_6 : decode cX2_moveTo 6 = .ok (.ireturn, 1) := by decide +kernel
theorem dX2_takeCount_0 : decode cX2_takeCount 0 = .ok (.iload_n 1, 1) := by decide +kernel
theorem dX2_takeCount_1 : decode cX2_takeCount 1 = .ok (.iconst 1, 1) := by decide +kernel
theorem dX2_takeCount_2 : decode cX2_takeCount 2 = .ok (.if_icmp .lt 9, 3) := by decide +kernel
theorem dX2_takeCount_5 : decode cX2_takeCount 5 = .ok (.iload_n 1, 1) := by decide +kernel
theorem dX2_takeCount_6 : decode cX2_takeCount 6 = .ok (.bipush 9, 2) := by decide +kernel
theorem dX2_takeCount_8 : decode cX2_takeCount 8 = .ok (.if_icmp .le 5, 3) := by decide +kernel
theorem dX2_takeCount_11 : decode cX2_takeCount 11 = .ok (.iconst 0, 1) := by decide +kernel
theorem dX2_takeCount_12 : decode cX2_takeCount 12 = .ok (.ireturn, 1) := by decide +kernel
theorem dX2_takeCount_13 : decode cX2_takeCount 13 = .ok (.aload_n 0, 1) := by decide +kernel
theorem dX2_takeCount_14 : decode cX2_takeCount 14 = .ok (.getfield 12, 3) := by decide +kernel
theorem dX2_takeCount_17 : decode cX2_takeCount 17 = .ok (.iload_n 1, 1) := by decide +kernel
theorem dX2_takeCount_18 : decode cX2_takeCount 18 = .ok (.putfield 31, 3) := by decide +kernel
theorem dX2_takeCount_21 : decode cX2_takeCount 21 = .ok (.aload_n 0, 1) := by decide +kernel
theorem dX2_takeCount_22 : decode cX2_takeCount 22 = .ok (.iconst 1, 1) := by decide +kernel
theorem dX2_takeCount_23 : decode cX2_takeCount 23 = .ok (.invokevirtual 38, 3) := by decide +kernel
theorem dX2_takeCount_26 : decode cX2_takeCount 26 = .ok (.ireturn, 1) := by decide +kernel
theorem dX2_takeBound_0 : decode cX2_takeBound 0 = .ok (.iload_n 1, 1) := by decide +kernel
theorem dX2_takeBound_1 : decode cX2_takeBound 1 = .ok (.ifCond .lt 20, 3) := by decide +kernel
theorem dX2_takeBound_4 : decode cX2_takeBound 4 = .ok (.iload_n 1, 1) := by decide +kernel
theorem dX2_takeBound_5 : decode cX2_takeBound 5 = .ok (.bipush 9, 2) := by decide +kernel
theorem dX2_takeBound_7 : decode cX2_takeBound 7 = .ok (.if_icmp .gt 14, 3) := by decide +kernel
theorem dX2_takeBound_10 : decode cX2_takeBound 10 = .ok (.aload_n 0, 1) := by decide +kernel
theorem dX2_takeBound_11 : decode cX2_takeBound 11 = .ok (.getfield 12, 3) := by decide +kernel
theorem dX2_takeBound_14 : decode cX2_takeBound 14 = .ok (.getfield 56, 3) := by decide +kernel
theorem dX2_takeBound_17 : decode cX2_takeBound 17 = .ok (.iconst 5, 1) := by decide +kernel
theorem dX2_takeBound_18 : decode cX2_takeBound 18 = .ok (.if_icmp .lt 5, 3) := by decide +kernel
theorem dX2_takeBound_21 : decode cX2_takeBound 21 = .ok (.iconst 0, 1) := by decide +kernel
theorem dX2_takeBound_22 : decode cX2_takeBound 22 = .ok (.ireturn, 1) := by decide +kernel
theorem dX2_takeBound_23 : decode cX2_takeBound 23 = .ok (.aload_n 0, 1) := by decide +kernel
theorem dX2_takeBound_24 : decode cX2_takeBound 24 = .ok (.getfield 12, 3) := by decide +kernel
theorem dX2_takeBound_27 : decode cX2_takeBound 27 = .ok (.getfield 59, 3) := by decide +kernel
theorem dX2_takeBound_30 : decode cX2_takeBound 30 = .ok (.aload_n 0, 1) := by decide +kernel
theorem dX2_takeBound_31 : decode cX2_takeBound 31 = .ok (.getfield 12, 3) := by decide +kernel
theorem dX2_takeBound_34 : decode cX2_takeBound 34 = .ok (.getfield 56, 3) := by decide +kernel
theorem dX2_takeBound_37 : decode cX2_takeBound 37 = .ok (.iload_n 1, 1) := by decide +kernel
theorem dX2_takeBound_38 : decode cX2_takeBound 38 = .ok (.iastore, 1) := by decide +kernel
theorem dX2_takeBound_39 : decode cX2_takeBound 39 = .ok (.aload_n 0, 1) := by decide +kernel
theorem dX2_takeBound_40 : decode cX2_takeBound 40 = .ok (.getfield 12, 3) := by decide +kernel
theorem dX2_takeBound_43 : decode cX2_takeBound 43 = .ok (.dup, 1) := by decide +kernel
theorem dX2_takeBound_44 : decode cX2_takeBound 44 = .ok (.getfield 56, 3) := by decide +kernel
theorem dX2_takeBound_47 : decode cX2_takeBound 47 = .ok (.iconst 1, 1) := by decide +kernel
theorem dX2_takeBound_48 : decode cX2_takeBound 48 = .ok (.iadd, 1) := by decide +kernel
theorem dX2_takeBound_49 : decode cX2_takeBound 49 = .ok (.putfield 56, 3) := by decide +kernel
theorem dX2_takeBound_52 : decode cX2_takeBound 52 = .ok (.iconst 1, 1) := by decide +kernel
theorem dX2_takeBound_53 : decode cX2_takeBound 53 = .ok (.ireturn, 1) := by decide +kernel
theorem dX2_takeBoundsEnd_0 : decode cX2_takeBoundsEnd 0 = .ok (.iload_n 1, 1) := by decide +kernel
theorem dX2_takeBoundsEnd_1 : decode cX2_takeBoundsEnd 1 = .ok (.bipush 58, 2) := by decide +kernel
theorem dX2_takeBoundsEnd_3 : decode cX2_takeBoundsEnd 3 = .ok (.if_icmp .ne 25, 3) := by decide +kernel
theorem dX2_takeBoundsEnd_6 : decode cX2_takeBoundsEnd 6 = .ok (.aload_n 0, 1) := by decide +kernel
theorem dX2_takeBoundsEnd_7 : decode cX2_takeBoundsEnd 7 = .ok (.getfield 12, 3) := by decide +kernel
theorem dX2_takeBoundsEnd_10 : decode cX2_takeBoundsEnd 10 = .ok (.getfield 56, 3) := by decide +kernel
theorem dX2_takeBoundsEnd_13 : decode cX2_takeBoundsEnd 13 = .ok (.ifCond .le 15, 3) := by decide +kernel
theorem dX2_takeBoundsEnd_16 : decode cX2_takeBoundsEnd 16 = .ok (.aload_n 0, 1) := by decide +kernel
theorem dX2_takeBoundsEnd_17 : decode cX2_takeBoundsEnd 17 = .ok (.iconst 3, 1) := by decide +kernel
theorem dX2_takeBoundsEnd_18 : decode cX2_takeBoundsEnd 18 = .ok (.invokevirtual 38, 3) := by decide +kernel
theorem dX2_takeBoundsEnd_21 : decode cX2_takeBoundsEnd 21 = .ok (.ifCond .eq 7, 3) := by decide +kernel
theorem dX2_takeBoundsEnd_24 : decode cX2_takeBoundsEnd 24 = .ok (.iconst 1, 1) := by decide +kernel
theorem dX2_takeBoundsEnd_25 : decode cX2_takeBoundsEnd 25 = .ok (.goto 4, 3) := by decide +kernel
theorem dX2_takeBoundsEnd_28 : decode cX2_takeBoundsEnd 28 = .ok (.iconst 0, 1) := by decide +kernel
theorem dX2_takeBoundsEnd_29 : decode cX2_takeBoundsEnd 29 = .ok (.ireturn, 1) := by decide +kernel
theorem dX2_takeKind_0 : decode cX2_takeKind 0 = .ok (.iload_n 1, 1) := by decide +kernel
theorem dX2_takeKind_1 : decode cX2_takeKind 1 = .ok (.bipush 42, 2) := by decide +kernel
theorem dX2_takeKind_3 : decode cX2_takeKind 3 = .ok (.if_icmp .ne 22, 3) := by decide +kernel
theorem dX2_takeKind_6 : decode cX2_takeKind 6 = .ok (.aload_n 0, 1) := by decide +kernel
theorem dX2_takeKind_7 : decode cX2_takeKind 7 = .ok (.getfield 12, 3) := by decide +kernel
theorem dX2_takeKind_10 : decode cX2_takeKind 10 = .ok (.iconst 1, 1) := by decide +kernel
theorem dX2_takeKind_11 : decode cX2_takeKind 11 = .ok (.invokevirtual 63, 3) := by decide +kernel
theorem dX2_takeKind_14 : decode cX2_takeKind 14 = .ok (.invokestatic 67, 3) := by decide +kernel
theorem dX2_takeKind_17 : decode cX2_takeKind 17 = .ok (.iconst 5, 1) := by decide +kernel
theorem dX2_takeKind_18 : decode cX2_takeKind 18 = .ok (.if_icmp .ge 7, 3) := by decide +kernel
theorem dX2_takeKind_21 : decode cX2_takeKind 21 = .ok (.iconst 1, 1) := by decide +kernel
theorem dX2_takeKind_22 : decode cX2_takeKind 22 = .ok (.goto 4, 3) := by decide +kernel
theorem dX2_takeKind_25 : decode cX2_takeKind 25 = .ok (.iconst 0, 1) := by decide +kernel
theorem dX2_takeKind_26 : decode cX2_takeKind 26 = .ok (.istore_n 2, 1) := by decide +kernel
theorem dX2_takeKind_27 : decode cX2_takeKind 27 = .ok (.iload_n 2, 1) := by decide +kernel
theorem dX2_takeKind_28 : decode cX2_takeKind 28 = .ok (.ifCond .ne 11, 3) := by decide +kernel
theorem dX2_takeKind_31 : decode cX2_takeKind 31 = .ok (.iload_n 1, 1) := by decide +kernel
theorem dX2_takeKind_32 : decode cX2_takeKind 32 = .ok (.bipush 33, 2) := by decide +kernel
theorem dX2_takeKind_34 : decode cX2_takeKind 34 = .ok (.if_icmp .eq 5, 3) := by decide +kernel
theorem dX2_takeKind_37 : decode cX2_takeKind 37 = .ok (.iconst 0, 1) := by decide +kernel
theorem dX2_takeKind_38 : decode cX2_takeKind 38 = .ok (.ireturn, 1) := by decide +kernel
theorem dX2_takeKind_39 : decode cX2_takeKind 39 = .ok (.aload_n 0, 1) := by decide +kernel
theorem dX2_takeKind_40 : decode cX2_takeKind 40 = .ok (.getfield 12, 3) := by decide +kernel
theorem dX2_takeKind_43 : decode cX2_takeKind 43 = .ok (.getfield 72, 3) := by decide +kernel
theorem dX2_takeKind_46 : decode cX2_takeKind 46 = .ok (.aload_n 0, 1) := by decide +kernel
theorem dX2_takeKind_47 : decode cX2_takeKind 47 = .ok (.getfield 25, 3) := by decide +kernel
theorem dX2_takeKind_50 : decode cX2_takeKind 50 = .ok (.iload_n 2, 1) := by decide +kernel
theorem dX2_takeKind_51 : decode cX2_takeKind 51 = .ok (.ifCond .eq 7, 3) := by decide +kernel
theorem dX2_takeKind_54 : decode cX2_takeKind 54 = .ok (.iconst 1, 1) := by decide +kernel
theorem dX2_takeKind_55 : decode cX2_takeKind 55 = .ok (.goto 4, 3) := by decide +kernel
theorem dX2_takeKind_58 : decode cX2_takeKind 58 = .ok (.iconst 2, 1) := by decide +kernel
theorem dX2_takeKind_59 : decode cX2_takeKind 59 = .ok (.iastore, 1) := by decide +kernel
theorem dX2_takeKind_60 : decode cX2_takeKind 60 = .ok (.aload_n 0, 1) := by decide +kernel
theorem dX2_takeKind_61 : decode cX2_takeKind 61 = .ok (.iconst 4, 1) := by decide +kernel
theorem dX2_takeKind_62 : decode cX2_takeKind 62 = .ok (.invokevirtual 38, 3) := by decide +kernel
theorem dX2_takeKind_65 : decode cX2_takeKind 65 = .ok (.ireturn, 1) := by decide +kernel
theorem dX2_takeInPerson_0 : decode cX2_takeInPerson 0 = .ok (.iload_n 1, 1) := by decide +kernel
theorem dX2_takeInPerson_1 : decode cX2_takeInPerson 1 = .ok (.bipush 62, 2) := by decide +kernel
theorem dX2_takeInPerson_3 : decode cX2_takeInPerson 3 = .ok (.if_icmp .ne 24, 3) := by decide +kernel
theorem dX2_takeInPerson_6 : decode cX2_takeInPerson 6 = .ok (.aload_n 0, 1) := by decide +kernel
theorem dX2_takeInPerson_7 : decode cX2_takeInPerson 7 = .ok (.invokevirtual 75, 3) := by decide +kernel
theorem dX2_takeInPerson_10 : decode cX2_takeInPerson 10 = .ok (.ifCond .eq 15, 3) := by decide +kernel
theorem dX2_takeInPerson_13 : decode cX2_takeInPerson 13 = .ok (.aload_n 0, 1) := by decide +kernel
theorem dX2_takeInPerson_14 : decode cX2_takeInPerson 14 = .ok (.iconst 5, 1) := by decide +kernel
theorem dX2_takeInPerson_15 : decode cX2_takeInPerson 15 = .ok (.invokevirtual 38, 3) := by decide +kernel
theorem dX2_takeInPerson_18 : decode cX2_takeInPerson 18 = .ok (.ifCond .eq 7, 3) := by decide +kernel
theorem dX2_takeInPerson_21 : decode cX2_takeInPerson 21 = .ok (.iconst 1, 1) := by decide +kernel
theorem dX2_takeInPerson_22 : decode cX2_takeInPerson 22 = .ok (.goto 4, 3) := by decide +kernel
theorem dX2_takeInPerson_25 : decode cX2_takeInPerson 25 = .ok (.iconst 0, 1) := by decide +kernel
theorem dX2_takeInPerson_26 : decode cX2_takeInPerson 26 = .ok (.ireturn, 1) := by decide +kernel
theorem dX2_takeInPerson_27 : decode cX2_takeInPerson 27 = .ok (.iload_n 1, 1) := by decide +kernel
theorem dX2_takeInPerson_28 : decode cX2_takeInPerson 28 = .ok (.bipush 59, 2) := by decide +kernel
theorem dX2_takeInPerson_30 : decode cX2_takeInPerson 30 = .ok (.if_icmp .ne 19, 3) := by decide +kernel
theorem dX2_takeInPerson_33 : decode cX2_takeInPerson 33 = .ok (.aload_n 0, 1) := by decide +kernel
theorem dX2_takeInPerson_34 : decode cX2_takeInPerson 34 = .ok (.getfield 25, 3) := by decide +kernel
theorem dX2_takeInPerson_37 : decode cX2_takeInPerson 37 = .ok (.iconst 1, 1) := by decide +kernel
theorem dX2_takeInPerson_38 : decode cX2_takeInPerson 38 = .ok (.iadd, 1) := by decide +kernel
theorem dX2_takeInPerson_39 : decode cX2_takeInPerson 39 = .ok (.aload_n 0, 1) := by decide +kernel
theorem dX2_takeInPerson_40 : decode cX2_takeInPerson 40 = .ok (.getfield 12, 3) := by decide +kernel
theorem dX2_takeInPerson_43 : decode cX2_takeInPerson 43 = .ok (.getfield 31, 3) := by decide +kernel
theorem dX2_takeInPerson_46 : decode cX2_takeInPerson 46 = .ok (.if_icmp .lt 5, 3) := by decide +kernel
theorem dX2_takeInPerson_49 : decode cX2_takeInPerson 49 = .ok (.iconst 0, 1) := by decide +kernel
theorem dX2_takeInPerson_50 : decode cX2_takeInPerson 50 = .ok (.ireturn, 1) := by decide +kernel
theorem dX2_takeInPerson_51 : decode cX2_takeInPerson 51 = .ok (.aload_n 0, 1) := by decide +kernel
theorem dX2_takeInPerson_52 : decode cX2_takeInPerson 52 = .ok (.dup, 1) := by decide +kernel
theorem dX2_takeInPerson_53 : decode cX2_takeInPerson 53 = .ok (.getfield 25, 3) := by decide +kernel
theorem dX2_takeInPerson_56 : decode cX2_takeInPerson 56 = .ok (.iconst 1, 1) := by decide +kernel
theorem dX2_takeInPerson_57 : decode cX2_takeInPerson 57 = .ok (.iadd, 1) := by decide +kernel
theorem dX2_takeInPerson_58 : decode cX2_takeInPerson 58 = .ok (.putfield 25, 3) := by decide +kernel
theorem dX2_takeInPerson_61 : decode cX2_takeInPerson 61 = .ok (.aload_n 0, 1) := by decide +kernel
theorem dX2_takeInPerson_62 : decode cX2_takeInPerson 62 = .ok (.iconst (-1), 1) := by decide +kernel
theorem dX2_takeInPerson_63 : decode cX2_takeInPerson 63 = .ok (.putfield 28, 3) := by decide +kernel
theorem dX2_takeInPerson_66 : decode cX2_takeInPerson 66 = .ok (.aload_n 0, 1) := by decide +kernel
theorem dX2_takeInPerson_67 : decode cX2_takeInPerson 67 = .ok (.iconst 3, 1) := by decide +kernel
theorem dX2_takeInPerson_68 : decode cX2_takeInPerson 68 = .ok (.invokevirtual 38, 3) := by decide +kernel
theorem dX2_takeInPerson_71 : decode cX2_takeInPerson 71 = .ok (.ireturn, 1) := by decide +kernel
theorem dX2_canVouchOn_0 : decode cX2_canVouchOn 0 = .ok (.aload_n 0, 1) := by decide +kernel
theorem dX2_canVouchOn_1 : decode cX2_canVouchOn 1 = .ok (.getfield 28, 3) := by decide +kernel
theorem dX2_canVouchOn_4 : decode cX2_canVouchOn 4 = .ok (.iconst 1, 1) := by decide +kernel
theorem dX2_canVouchOn_5 : decode cX2_canVouchOn 5 = .ok (.iadd, 1) := by decide +kernel
theorem dX2_canVouchOn_6 : decode cX2_canVouchOn 6 = .ok (.aload_n 0, 1) := by decide +kernel
theorem dX2_canVouchOn_7 : decode cX2_canVouchOn 7 = .ok (.getfield 25, 3) := by decide +kernel
theorem dX2_canVouchOn_10 : decode cX2_canVouchOn 10 = .ok (.if_icmp .ne 12, 3) := by decide +kernel
theorem dX2_canVouchOn_13 : decode cX2_canVouchOn 13 = .ok (.aload_n 0, 1) := by decide +kernel
theorem dX2_canVouchOn_14 : decode cX2_canVouchOn 14 = .ok (.getfield 28, 3) := by decide +kernel
theorem dX2_canVouchOn_17 : decode cX2_canVouchOn 17 = .ok (.iconst 2, 1) := by decide +kernel
theorem dX2_canVouchOn_18 : decode cX2_canVouchOn 18 = .ok (.iadd, 1) := by decide +kernel
theorem dX2_canVouchOn_19 : decode cX2_canVouchOn 19 = .ok (.goto 9, 3) := by decide +kernel
theorem dX2_canVouchOn_22 : decode cX2_canVouchOn 22 = .ok (.aload_n 0, 1) := by decide +kernel
theorem dX2_canVouchOn_23 : decode cX2_canVouchOn 23 = .ok (.getfield 28, 3) := by decide +kernel
theorem dX2_canVouchOn_26 : decode cX2_canVouchOn 26 = .ok (.iconst 1, 1) := by decide +kernel
theorem dX2_canVouchOn_27 : decode cX2_canVouchOn 27 = .ok (.iadd, 1) := by decide +kernel
theorem dX2_canVouchOn_28 : decode cX2_canVouchOn 28 = .ok (.istore_n 1, 1) := by decide +kernel
theorem dX2_canVouchOn_29 : decode cX2_canVouchOn 29 = .ok (.iload_n 1, 1) := by decide +kernel
theorem dX2_canVouchOn_30 : decode cX2_canVouchOn 30 = .ok (.aload_n 0, 1) := by decide +kernel
theorem dX2_canVouchOn_31 : decode cX2_canVouchOn 31 = .ok (.getfield 12, 3) := by decide +kernel
theorem dX2_canVouchOn_34 : decode cX2_canVouchOn 34 = .ok (.getfield 31, 3) := by decide +kernel
theorem dX2_canVouchOn_37 : decode cX2_canVouchOn 37 = .ok (.if_icmp .ge 26, 3) := by decide +kernel
theorem dX2_canVouchOn_40 : decode cX2_canVouchOn 40 = .ok (.aload_n 0, 1) := by decide +kernel
theorem dX2_canVouchOn_41 : decode cX2_canVouchOn 41 = .ok (.getfield 12, 3) := by decide +kernel
theorem dX2_canVouchOn_44 : decode cX2_canVouchOn 44 = .ok (.getfield 79, 3) := by decide +kernel
theorem dX2_canVouchOn_47 : decode cX2_canVouchOn 47 = .ok (.aload_n 0, 1) := by decide +kernel
theorem dX2_canVouchOn_48 : decode cX2_canVouchOn 48 = .ok (.getfield 25, 3) := by decide +kernel
theorem dX2_canVouchOn_51 : decode cX2_canVouchOn 51 = .ok (.iaload, 1) := by decide +kernel
theorem dX2_canVouchOn_52 : decode cX2_canVouchOn 52 = .ok (.invokestatic 67, 3) := by decide +kernel
theorem dX2_canVouchOn_55 : decode cX2_canVouchOn 55 = .ok (.iconst 5, 1) := by decide +kernel
theorem dX2_canVouchOn_56 : decode cX2_canVouchOn 56 = .ok (.if_icmp .ge 7, 3) := by decide +kernel
theorem dX2_canVouchOn_59 : decode cX2_canVouchOn 59 = .ok (.iconst 1, 1) := by decide +kernel
theorem dX2_canVouchOn_60 : decode cX2_canVouchOn 60 = .ok (.goto 4, 3) := by decide +kernel
theorem dX2_canVouchOn_63 : decode cX2_canVouchOn 63 = .ok (.iconst 0, 1) := by decide +kernel
theorem dX2_canVouchOn_64 : decode cX2_canVouchOn 64 = .ok (.ireturn, 1) := by decide +kernel
theorem dX2_takeWhom_0 : decode cX2_takeWhom 0 = .ok (.iload_n 1, 1) := by decide +kernel
theorem dX2_takeWhom_1 : decode cX2_takeWhom 1 = .ok (.aload_n 0, 1) := by decide +kernel
theorem dX2_takeWhom_2 : decode cX2_takeWhom 2 = .ok (.getfield 28, 3) := by decide +kernel
theorem dX2_takeWhom_5 : decode cX2_takeWhom 5 = .ok (.if_icmp .le 22, 3) := by decide +kernel
theorem dX2_takeWhom_8 : decode cX2_takeWhom 8 = .ok (.iload_n 1, 1) := by decide +kernel
theorem dX2_takeWhom_9 : decode cX2_takeWhom 9 = .ok (.aload_n 0, 1) := by decide +kernel
theorem dX2_takeWhom_10 : decode cX2_takeWhom 10 = .ok (.getfield 12, 3) := by decide +kernel
theorem dX2_takeWhom_13 : decode cX2_takeWhom 13 = .ok (.getfield 31, 3) := by decide +kernel
theorem dX2_takeWhom_16 : decode cX2_takeWhom 16 = .ok (.if_icmp .ge 11, 3) := by decide +kernel
theorem dX2_takeWhom_19 : decode cX2_takeWhom 19 = .ok (.iload_n 1, 1) := by decide +kernel
theorem dX2_takeWhom_20 : decode cX2_takeWhom 20 = .ok (.aload_n 0, 1) := by decide +kernel
theorem dX2_takeWhom_21 : decode cX2_takeWhom 21 = .ok (.getfield 25, 3) := by decide +kernel
theorem dX2_takeWhom_24 : decode cX2_takeWhom 24 = .ok (.if_icmp .ne 5, 3) := by decide +kernel
theorem dX2_takeWhom_27 : decode cX2_takeWhom 27 = .ok (.iconst 0, 1) := by decide +kernel
theorem dX2_takeWhom_28 : decode cX2_takeWhom 28 = .ok (.ireturn, 1) := by decide +kernel
theorem dX2_takeWhom_29 : decode cX2_takeWhom 29 = .ok (.aload_n 0, 1) := by decide +kernel
theorem dX2_takeWhom_30 : decode cX2_takeWhom 30 = .ok (.getfield 12, 3) := by decide +kernel
theorem dX2_takeWhom_33 : decode cX2_takeWhom 33 = .ok (.getfield 79, 3) := by decide +kernel
theorem dX2_takeWhom_36 : decode cX2_takeWhom 36 = .ok (.aload_n 0, 1) := by decide +kernel
theorem dX2_takeWhom_37 : decode cX2_takeWhom 37 = .ok (.getfield 25, 3) := by decide +kernel
theorem dX2_takeWhom_40 : decode cX2_takeWhom 40 = .ok (.dup2, 1) := by decide +kernel
theorem dX2_takeWhom_41 : decode cX2_takeWhom 41 = .ok (.iaload, 1) := by decide +kernel
theorem dX2_takeWhom_42 : decode cX2_takeWhom 42 = .ok (.iconst 1, 1) := by decide +kernel
theorem dX2_takeWhom_43 : decode cX2_takeWhom 43 = .ok (.iload_n 1, 1) := by decide +kernel
theorem dX2_takeWhom_44 : decode cX2_takeWhom 44 = .ok (.ishl, 1) := by decide +kernel
theorem dX2_takeWhom_45 : decode cX2_takeWhom 45 = .ok (.ior, 1) := by decide +kernel
theorem dX2_takeWhom_46 : decode cX2_takeWhom 46 = .ok (.iastore, 1) := by decide +kernel
theorem dX2_takeWhom_47 : decode cX2_takeWhom 47 = .ok (.aload_n 0, 1) := by decide +kernel
theorem dX2_takeWhom_48 : decode cX2_takeWhom 48 = .ok (.iload_n 1, 1) := by decide +kernel
theorem dX2_takeWhom_49 : decode cX2_takeWhom 49 = .ok (.putfield 28, 3) := by decide +kernel
theorem dX2_takeWhom_52 : decode cX2_takeWhom 52 = .ok (.aload_n 0, 1) := by decide +kernel
theorem dX2_takeWhom_53 : decode cX2_takeWhom 53 = .ok (.iconst 4, 1) := by decide +kernel
theorem dX2_takeWhom_54 : decode cX2_takeWhom 54 = .ok (.invokevirtual 38, 3) := by decide +kernel
theorem dX2_takeWhom_57 : decode cX2_takeWhom 57 = .ok (.ireturn, 1) := by decide +kernel
theorem dX3_init_0 : decode cX3_init 0 = .ok (.aload_n 0, 1) := by decide +kernel
theorem dX3_init_1 : decode cX3_init 1 = .ok (.invokespecial 3, 3) := by decide +kernel
theorem dX3_init_4 : decode cX3_init 4 = .ok (.aload_n 0, 1) := by decide +kernel
theorem dX3_init_5 : decode cX3_init 5 = .ok (.bipush 9, 2) := by decide +kernel
theorem dX3_init_7 : decode cX3_init 7 = .ok (.newarray .long, 2) := by decide +kernel
theorem dX3_init_9 : decode cX3_init 9 = .ok (.putfield 9, 3) := by decide +kernel
theorem dX3_init_12 : decode cX3_init 12 = .ok (.aload_n 0, 1) := by decide +kernel
theorem dX3_init_13 : decode cX3_init 13 = .ok (.bipush 9, 2) := by decide +kernel
theorem dX3_init_15 : decode cX3_init 15 = .ok (.newarray .long, 2) := by decide +kernel
theorem dX3_init_17 : decode cX3_init 17 = .ok (.putfield 15, 3) := by decide +kernel
theorem dX3_init_20 : decode cX3_init 20 = .ok (.return_, 1) := by decide +kernel
theorem dX3_go_0 : decode cX3_go 0 = .ok (.aload_n 1, 1) := by decide +kernel
theorem dX3_go_1 : decode cX3_go 1 = .ok (.iconst 1, 1) := by decide +kernel
theorem dX3_go_2 : decode cX3_go 2 = .ok (.invokevirtual 18, 3) := by decide +kernel
theorem dX3_go_5 : decode cX3_go 5 = .ok (.istore_n 3, 1) := by decide +kernel
theorem dX3_go_6 : decode cX3_go 6 = .ok (.aload_n 0, 1) := by decide +kernel
theorem dX3_go_7 : decode cX3_go 7 = .ok (.aload_n 1, 1) := by decide +kernel
theorem dX3_go_8 : decode cX3_go 8 = .ok (.getfield 24, 3) := by decide +kernel
theorem dX3_go_11 : decode cX3_go 11 = .ok (.putfield 28, 3) := by decide +kernel
theorem dX3_go_14 : decode cX3_go 14 = .ok (.aload_n 0, 1) := by decide +kernel
theorem dX3_go_15 : decode cX3_go 15 = .ok (.ldc2_w 29, 3) := by decide +kernel
theorem dX3_go_18 : decode cX3_go 18 = .ok (.putfield 31, 3) := by decide +kernel
theorem dX3_go_21 : decode cX3_go 21 = .ok (.aload_n 0, 1) := by decide +kernel
theorem dX3_go_22 : decode cX3_go 22 = .ok (.getfield 15, 3) := by decide +kernel
theorem dX3_go_25 : decode cX3_go 25 = .ok (.lconst 0, 1) := by decide +kernel
theorem dX3_go_26 : decode cX3_go 26 = .ok (.invokestatic 35, 3) := by decide +kernel
theorem dX3_go_29 : decode cX3_go 29 = .ok (.aload_n 0, 1) := by decide +kernel
theorem dX3_go_30 : decode cX3_go 30 = .ok (.ldc2_w 29, 3) := by decide +kernel
theorem dX3_go_33 : decode cX3_go 33 = .ok (.iload_n 3, 1) := by decide +kernel
theorem dX3_go_34 : decode cX3_go 34 = .ok (.invokevirtual 41, 3) := by decide +kernel
theorem dX3_go_37 : decode cX3_go 37 = .ok (.aload_n 0, 1) := by decide +kernel
theorem dX3_go_38 : decode cX3_go 38 = .ok (.getfield 15, 3) := by decide +kernel
theorem dX3_go_41 : decode cX3_go 41 = .ok (.iconst 0, 1) := by decide +kernel
theorem dX3_go_42 : decode cX3_go 42 = .ok (.aload_n 0, 1) := by decide +kernel
theorem dX3_go_43 : decode cX3_go 43 = .ok (.getfield 9, 3) := by decide +kernel
theorem dX3_go_46 : decode cX3_go 46 = .ok (.iconst 0, 1) := by decide +kernel
theorem dX3_go_47 : decode cX3_go 47 = .ok (.bipush 9, 2) := by decide +kernel
theorem dX3_go_49 : decode cX3_go 49 = .ok (.invokestatic 45, 3) := by decide +kernel
theorem dX3_go_52 : decode cX3_go 52 = .ok (.iconst 0, 1) := by decide +kernel
theorem dX3_go_53 : decode cX3_go 53 = .ok (.istore 4, 2) := by decide +kernel
theorem dX3_go_55 : decode cX3_go 55 = .ok (.iload 4, 2) := by decide +kernel
theorem dX3_go_57 : decode cX3_go 57 = .ok (.iload_n 2, 1) := by decide +kernel
theorem dX3_go_58 : decode cX3_go 58 = .ok (.if_icmp .ge 15, 3) := by decide +kernel
theorem dX3_go_61 : decode cX3_go 61 = .ok (.aload_n 0, 1) := by decide +kernel
theorem dX3_go_62 : decode cX3_go 62 = .ok (.aload_n 1, 1) := by decide +kernel
theorem dX3_go_63 : decode cX3_go 63 = .ok (.iload_n 3, 1) := by decide +kernel
theorem dX3_go_64 : decode cX3_go 64 = .ok (.invokevirtual 51, 3) := by decide +kernel
theorem dX3_go_67 : decode cX3_go 67 = .ok (.iinc 4 1, 3) := by decide +kernel
theorem dX3_go_70 : decode cX3_go 70 = .ok (.goto (-15), 3) := by decide +kernel
theorem dX3_go_73 : decode cX3_go 73 = .ok (.return_, 1) := by decide +kernel
theorem dX3_step_0 : decode cX3_step 0 = .ok (.aload_n 0, 1) := by decide +kernel
theorem dX3_step_1 : decode cX3_step 1 = .ok (.getfield 15, 3) := by decide +kernel
theorem dX3_step_4 : decode cX3_step 4 = .ok (.lconst 0, 1) := by decide +kernel
theorem dX3_step_5 : decode cX3_step 5 = .ok (.invokestatic 35, 3) := by decide +kernel
theorem dX3_step_8 : decode cX3_step 8 = .ok (.iconst 0, 1) := by decide +kernel
theorem dX3_step_9 : decode cX3_step 9 = .ok (.istore_n 3, 1) := by decide +kernel
theorem dX3_step_10 : decode cX3_step 10 = .ok (.iload_n 3, 1) := by decide +kernel
theorem dX3_step_11 : decode cX3_step 11 = .ok (.aload_n 0, 1) := by decide +kernel
theorem dX3_step_12 : decode cX3_step 12 = .ok (.getfield 28, 3) := by decide +kernel
theorem dX3_step_15 : decode cX3_step 15 = .ok (.if_icmp .ge 42, 3) := by decide +kernel
theorem dX3_step_18 : decode cX3_step 18 = .ok (.aload_n 0, 1) := by decide +kernel
theorem dX3_step_19 : decode cX3_step 19 = .ok (.ldc2_w 29, 3) := by decide +kernel
theorem dX3_step_22 : decode cX3_step 22 = .ok (.aload_n 0, 1) := by decide +kernel
theorem dX3_step_23 : decode cX3_step 23 = .ok (.getfield 9, 3) := by decide +kernel
theorem dX3_step_26 : decode cX3_step 26 = .ok (.iload_n 3, 1) := by decide +kernel
theorem dX3_step_27 : decode cX3_step 27 = .ok (.laload, 1) := by decide +kernel
theorem dX3_step_28 : decode cX3_step 28 = .ok (.lmul, 1) := by decide +kernel
theorem dX3_step_29 : decode cX3_step 29 = .ok (.aload_n 1, 1) := by decide +kernel
theorem dX3_step_30 : decode cX3_step 30 = .ok (.getfield 55, 3) := by decide +kernel
theorem dX3_step_33 : decode cX3_step 33 = .ok (.iload_n 3, 1) := by decide +kernel
theorem dX3_step_34 : decode cX3_step 34 = .ok (.iaload, 1) := by decide +kernel
theorem dX3_step_35 : decode cX3_step 35 = .ok (.ifCond .ne 7, 3) := by decide +kernel
theorem dX3_step_38 : decode cX3_step 38 = .ok (.iload_n 2, 1) := by decide +kernel
theorem dX3_step_39 : decode cX3_step 39 = .ok (.goto 9, 3) := by decide +kernel
theorem dX3_step_42 : decode cX3_step 42 = .ok (.aload_n 1, 1) := by decide +kernel
theorem dX3_step_43 : decode cX3_step 43 = .ok (.getfield 55, 3) := by decide +kernel
theorem dX3_step_46 : decode cX3_step 46 = .ok (.iload_n 3, 1) := by decide +kernel
theorem dX3_step_47 : decode cX3_step 47 = .ok (.iaload, 1) := by decide +kernel
theorem dX3_step_48 : decode cX3_step 48 = .ok (.invokevirtual 41, 3) := by decide +kernel
theorem dX3_step_51 : decode cX3_step 51 = .ok (.iinc 3 1, 3) := by decide +kernel
theorem dX3_step_54 : decode cX3_step 54 = .ok (.goto (-44), 3) := by decide +kernel
theorem dX3_step_57 : decode cX3_step 57 = .ok (.aload_n 0, 1) := by decide +kernel
theorem dX3_step_58 : decode cX3_step 58 = .ok (.getfield 15, 3) := by decide +kernel
theorem dX3_step_61 : decode cX3_step 61 = .ok (.iconst 0, 1) := by decide +kernel
theorem dX3_step_62 : decode cX3_step 62 = .ok (.aload_n 0, 1) := by decide +kernel
theorem dX3_step_63 : decode cX3_step 63 = .ok (.getfield 9, 3) := by decide +kernel
theorem dX3_step_66 : decode cX3_step 66 = .ok (.iconst 0, 1) := by decide +kernel
theorem dX3_step_67 : decode cX3_step 67 = .ok (.bipush 9, 2) := by decide +kernel
theorem dX3_step_69 : decode cX3_step 69 = .ok (.invokestatic 45, 3) := by decide +kernel
theorem dX3_step_72 : decode cX3_step 72 = .ok (.aload_n 0, 1) := by decide +kernel
theorem dX3_step_73 : decode cX3_step 73 = .ok (.dup, 1) := by decide +kernel
theorem dX3_step_74 : decode cX3_step 74 = .ok (.getfield 31, 3) := by decide +kernel
theorem dX3_step_77 : decode cX3_step 77 = .ok (.ldc2_w 29, 3) := by decide +kernel
theorem dX3_step_80 : decode cX3_step 80 = .ok (.lmul, 1) := by decide +kernel
theorem dX3_step_81 : decode cX3_step 81 = .ok (.putfield 31, 3) := by decide +kernel
theorem dX3_step_84 : decode cX3_step 84 = .ok (.return_, 1) := by decide +kernel
theorem dX3_share_0 : decode cX3_share 0 = .ok (.iload_n 3, 1) := by decide +kernel
theorem dX3_share_1 : decode cX3_share 1 = .ok (.invokestatic 59, 3) := by decide +kernel
theorem dX3_share_4 : decode cX3_share 4 = .ok (.istore 4, 2) := by decide +kernel
theorem dX3_share_6 : decode cX3_share 6 = .ok (.lload_n 1, 1) := by decide +kernel
theorem dX3_share_7 : decode cX3_share 7 = .ok (.lconst 0, 1) := by decide +kernel
theorem dX3_share_8 : decode cX3_share 8 = .ok (.lcmp, 1) := by decide +kernel
theorem dX3_share_9 : decode cX3_share 9 = .ok (.ifCond .eq 8, 3) := by decide +kernel
theorem dX3_share_12 : decode cX3_share 12 = .ok (.iload 4, 2) := by decide +kernel
theorem dX3_share_14 : decode cX3_share 14 = .ok (.ifCond .ne 4, 3) := by decide +kernel
theorem dX3_share_17 : decode cX3_share 17 = .ok (.return_, 1) := by decide +kernel
theorem dX3_share_18 : decode cX3_share 18 = .ok (.lload_n 1, 1) := by decide +kernel
theorem dX3_share_19 : decode cX3_share 19 = .ok (.iload 4, 2) := by decide +kernel
theorem dX3_share_21 : decode cX3_share 21 = .ok (.i2l, 1) := by decide +kernel
theorem dX3_share_22 : decode cX3_share 22 = .ok (.ldiv, 1) := by decide +kernel
theorem dX3_share_23 : decode cX3_share 23 = .ok (.lstore 5, 2) := by decide +kernel
theorem dX3_share_25 : decode cX3_share 25 = .ok (.iconst 0, 1) := by decide +kernel
theorem dX3_share_26 : decode cX3_share 26 = .ok (.istore 7, 2) := by decide +kernel
theorem dX3_share_28 : decode cX3_share 28 = .ok (.iload 7, 2) := by decide +kernel
theorem dX3_share_30 : decode cX3_share 30 = .ok (.aload_n 0, 1) := by decide +kernel
theorem dX3_share_31 : decode cX3_share 31 = .ok (.getfield 28, 3) := by decide +kernel
theorem dX3_share_34 : decode cX3_share 34 = .ok (.if_icmp .ge 31, 3) := by decide +kernel
theorem dX3_share_37 : decode cX3_share 37 = .ok (.iload_n 3, 1) := by decide +kernel
theorem dX3_share_38 : decode cX3_share 38 = .ok (.iload 7, 2) := by decide +kernel
theorem dX3_share_40 : decode cX3_share 40 = .ok (.invokestatic 64, 3) := by decide +kernel
theorem dX3_share_43 : decode cX3_share 43 = .ok (.iconst 1, 1) := by decide +kernel
theorem dX3_share_44 : decode cX3_share 44 = .ok (.if_icmp .ne 15, 3) := by decide +kernel
theorem dX3_share_47 : decode cX3_share 47 = .ok (.aload_n 0, 1) := by decide +kernel
theorem dX3_share_48 : decode cX3_share 48 = .ok (.getfield 15, 3) := by decide +kernel
theorem dX3_share_51 : decode cX3_share 51 = .ok (.iload 7, 2) := by decide +kernel
theorem dX3_share_53 : decode cX3_share 53 = .ok (.dup2, 1) := by decide +kernel
theorem dX3_share_54 : decode cX3_share 54 = .ok (.laload, 1) := by decide +kernel
theorem dX3_share_55 : decode cX3_share 55 = .ok (.lload 5, 2) := by decide +kernel
theorem dX3_share_57 : decode cX3_share 57 = .ok (.ladd, 1) := by decide +kernel
theorem dX3_share_58 : decode cX3_share 58 = .ok (.lastore, 1) := by decide +kernel
theorem dX3_share_59 : decode cX3_share 59 = .ok (.iinc 7 1, 3) := by decide +kernel
theorem dX3_share_62 : decode cX3_share 62 = .ok (.goto (-34), 3) := by decide +kernel
theorem dX3_share_65 : decode cX3_share 65 = .ok (.return_, 1) := by decide +kernel
theorem dX3_numerator_0 : decode cX3_numerator 0 = .ok (.aload_n 0, 1) := by decide +kernel
theorem dX3_numerator_1 : decode cX3_numerator 1 = .ok (.getfield 9, 3) := by decide +kernel
theorem dX3_numerator_4 : decode cX3_numerator 4 = .ok (.iload_n 1, 1) := by decide +kernel
theorem dX3_numerator_5 : decode cX3_numerator 5 = .ok (.laload, 1) := by decide +kernel
theorem dX3_numerator_6 : decode cX3_numerator 6 = .ok (.aload_n 0, 1) := by decide +kernel
theorem dX3_numerator_7 : decode cX3_numerator 7 = .ok (.iload_n 1, 1) := by decide +kernel
theorem dX3_numerator_8 : decode cX3_numerator 8 = .ok (.invokevirtual 68, 3) := by decide +kernel
theorem dX3_numerator_11 : decode cX3_numerator 11 = .ok (.ldiv, 1) := by decide +kernel
theorem dX3_numerator_12 : decode cX3_numerator 12 = .ok (.l2i, 1) := by decide +kernel
theorem dX3_numerator_13 : decode cX3_numerator 13 = .ok (.ireturn, 1) := by decide +kernel
theorem dX3_denominator_0 : decode cX3_denominator 0 = .ok (.aload_n 0, 1) := by decide +kernel
theorem dX3_denominator_1 : decode cX3_denominator 1 = .ok (.getfield 31, 3) := by decide +kernel
theorem dX3_denominator_4 : decode cX3_denominator 4 = .ok (.aload_n 0, 1) := by decide +kernel
theorem dX3_denominator_5 : decode cX3_denominator 5 = .ok (.iload_n 1, 1) := by decide +kernel
theorem dX3_denominator_6 : decode cX3_denominator 6 = .ok (.invokevirtual 68, 3) := by decide +kernel
theorem dX3_denominator_9 : decode cX3_denominator 9 = .ok (.ldiv, 1) := by decide +kernel
theorem dX3_denominator_10 : decode cX3_denominator 10 = .ok (.l2i, 1) := by decide +kernel
theorem dX3_denominator_11 : decode cX3_denominator 11 = .ok (.ireturn, 1) := by decide +kernel
theorem dX3_thousandPart_0 : decode cX3_thousandPart 0 = .ok (.aload_n 0, 1) := by decide +kernel
theorem dX3_thousandPart_1 : decode cX3_thousandPart 1 = .ok (.getfield 31, 3) := by decide +kernel
theorem dX3_thousandPart_4 : decode cX3_thousandPart 4 = .ok (.lconst 0, 1) := by decide +kernel
theorem dX3_thousandPart_5 : decode cX3_thousandPart 5 = .ok (.lcmp, 1) := by decide +kernel
theorem dX3_thousandPart_6 : decode cX3_thousandPart 6 = .ok (.ifCond .ne 7, 3) := by decide +kernel
theorem dX3_thousandPart_9 : decode cX3_thousandPart 9 = .ok (.iconst 0, 1) := by decide +kernel
theorem dX3_thousandPart_10 : decode cX3_thousandPart 10 = .ok (.goto 19, 3) := by decide +kernel
theorem dX3_thousandPart_13 : decode cX3_thousandPart 13 = .ok (.ldc2_w 72, 3) := by decide +kernel
theorem dX3_thousandPart_16 : decode cX3_thousandPart 16 = .ok (.aload_n 0, 1) := by decide +kernel
theorem dX3_thousandPart_17 : decode cX3_thousandPart 17 = .ok (.getfield 9, 3) := by decide +kernel
theorem dX3_thousandPart_20 : decode cX3_thousandPart 20 = .ok (.iload_n 1, 1) := by decide +kernel
theorem dX3_thousandPart_21 : decode cX3_thousandPart 21 = .ok (.laload, 1) := by decide +kernel
theorem dX3_thousandPart_22 : decode cX3_thousandPart 22 = .ok (.lmul, 1) := by decide +kernel
theorem dX3_thousandPart_23 : decode cX3_thousandPart 23 = .ok (.aload_n 0, 1) := by decide +kernel
theorem dX3_thousandPart_24 : decode cX3_thousandPart 24 = .ok (.getfield 31, 3) := by decide +kernel
theorem dX3_thousandPart_27 : decode cX3_thousandPart 27 = .ok (.ldiv, 1) := by decide +kernel
theorem dX3_thousandPart_28 : decode cX3_thousandPart 28 = .ok (.l2i, 1) := by decide +kernel
theorem dX3_thousandPart_29 : decode cX3_thousandPart 29 = .ok (.ireturn, 1) := by decide +kernel
theorem dX3_personAt_0 : decode cX3_personAt 0 = .ok (.iconst 0, 1) := by decide +kernel
theorem dX3_personAt_1 : decode cX3_personAt 1 = .ok (.istore_n 2, 1) := by decide +kernel
theorem dX3_personAt_2 : decode cX3_personAt 2 = .ok (.iload_n 2, 1) := by decide +kernel
theorem dX3_personAt_3 : decode cX3_personAt 3 = .ok (.aload_n 0, 1) := by decide +kernel
theorem dX3_personAt_4 : decode cX3_personAt 4 = .ok (.getfield 28, 3) := by decide +kernel
theorem dX3_personAt_7 : decode cX3_personAt 7 = .ok (.if_icmp .ge 20, 3) := by decide +kernel
theorem dX3_personAt_10 : decode cX3_personAt 10 = .ok (.aload_n 0, 1) := by decide +kernel
theorem dX3_personAt_11 : decode cX3_personAt 11 = .ok (.iload_n 2, 1) := by decide +kernel
theorem dX3_personAt_12 : decode cX3_personAt 12 = .ok (.invokevirtual 74, 3) := by decide +kernel
theorem dX3_personAt_15 : decode cX3_personAt 15 = .ok (.iload_n 1, 1) := by decide +kernel
theorem dX3_personAt_16 : decode cX3_personAt 16 = .ok (.if_icmp .ne 5, 3) := by decide +kernel
theorem dX3_personAt_19 : decode cX3_personAt 19 = .ok (.iload_n 2, 1) := by decide +kernel
theorem dX3_personAt_20 : decode cX3_personAt 20 = .ok (.ireturn, 1) := by decide +kernel
theorem dX3_personAt_21 : decode cX3_personAt 21 = .ok (.iinc 2 1, 3) := by decide +kernel
theorem dX3_personAt_24 : decode cX3_personAt 24 = .ok (.goto (-22), 3) := by decide +kernel
theorem dX3_personAt_27 : decode cX3_personAt 27 = .ok (.bipush (-101), 2) := by decide +kernel
theorem dX3_personAt_29 : decode cX3_personAt 29 = .ok (.ireturn, 1) := by decide +kernel
theorem dX3_comingBefore_0 : decode cX3_comingBefore 0 = .ok (.iconst 0, 1) := by decide +kernel
theorem dX3_comingBefore_1 : decode cX3_comingBefore 1 = .ok (.istore_n 2, 1) := by decide +kernel
theorem dX3_comingBefore_2 : decode cX3_comingBefore 2 = .ok (.iconst 0, 1) := by decide +kernel
theorem dX3_comingBefore_3 : decode cX3_comingBefore 3 = .ok (.istore_n 3, 1) := by decide +kernel
theorem dX3_comingBefore_4 : decode cX3_comingBefore 4 = .ok (.iload_n 3, 1) := by decide +kernel
theorem dX3_comingBefore_5 : decode cX3_comingBefore 5 = .ok (.aload_n 0, 1) := by decide +kernel
theorem dX3_comingBefore_6 : decode cX3_comingBefore 6 = .ok (.getfield 28, 3) := by decide +kernel
theorem dX3_comingBefore_9 : decode cX3_comingBefore 9 = .ok (.if_icmp .ge 49, 3) := by decide +kernel
theorem dX3_comingBefore_12 : decode cX3_comingBefore 12 = .ok (.aload_n 0, 1) := by decide +kernel
theorem dX3_comingBefore_13 : decode cX3_comingBefore 13 = .ok (.getfield 9, 3) := by decide +kernel
theorem dX3_comingBefore_16 : decode cX3_comingBefore 16 = .ok (.iload_n 3, 1) := by decide +kernel
theorem dX3_comingBefore_17 : decode cX3_comingBefore 17 = .ok (.laload, 1) := by decide +kernel
theorem dX3_comingBefore_18 : decode cX3_comingBefore 18 = .ok (.aload_n 0, 1) := by decide +kernel
theorem dX3_comingBefore_19 : decode cX3_comingBefore 19 = .ok (.getfield 9, 3) := by decide +kernel
theorem dX3_comingBefore_22 : decode cX3_comingBefore 22 = .ok (.iload_n 1, 1) := by decide +kernel
theorem dX3_comingBefore_23 : decode cX3_comingBefore 23 = .ok (.laload, 1) := by decide +kernel
theorem dX3_comingBefore_24 : decode cX3_comingBefore 24 = .ok (.lcmp, 1) := by decide +kernel
theorem dX3_comingBefore_25 : decode cX3_comingBefore 25 = .ok (.ifCond .gt 24, 3) := by decide +kernel
theorem dX3_comingBefore_28 : decode cX3_comingBefore 28 = .ok (.aload_n 0, 1) := by decide +kernel
theorem dX3_comingBefore_29 : decode cX3_comingBefore 29 = .ok (.getfield 9, 3) := by decide +kernel
theorem dX3_comingBefore_32 : decode cX3_comingBefore 32 = .ok (.iload_n 3, 1) := by decide +kernel
theorem dX3_comingBefore_33 : decode cX3_comingBefore 33 = .ok (.laload, 1) := by decide +kernel
theorem dX3_comingBefore_34 : decode cX3_comingBefore 34 = .ok (.aload_n 0, 1) := by decide +kernel
theorem dX3_comingBefore_35 : decode cX3_comingBefore 35 = .ok (.getfield 9, 3) := by decide +kernel
theorem dX3_comingBefore_38 : decode cX3_comingBefore 38 = .ok (.iload_n 1, 1) := by decide +kernel
theorem dX3_comingBefore_39 : decode cX3_comingBefore 39 = .ok (.laload, 1) := by decide +kernel
theorem dX3_comingBefore_40 : decode cX3_comingBefore 40 = .ok (.lcmp, 1) := by decide +kernel
theorem dX3_comingBefore_41 : decode cX3_comingBefore 41 = .ok (.ifCond .ne 11, 3) := by decide +kernel
theorem dX3_comingBefore_44 : decode cX3_comingBefore 44 = .ok (.iload_n 3, 1) := by decide +kernel
theorem dX3_comingBefore_45 : decode cX3_comingBefore 45 = .ok (.iload_n 1, 1) := by decide +kernel
theorem dX3_comingBefore_46 : decode cX3_comingBefore 46 = .ok (.if_icmp .ge 6, 3) := by decide +kernel
theorem dX3_comingBefore_49 : decode cX3_comingBefore 49 = .ok (.iinc 2 1, 3) := by decide +kernel
theorem dX3_comingBefore_52 : decode cX3_comingBefore 52 = .ok (.iinc 3 1, 3) := by decide +kernel
theorem dX3_comingBefore_55 : decode cX3_comingBefore 55 = .ok (.goto (-51), 3) := by decide +kernel
theorem dX3_comingBefore_58 : decode cX3_comingBefore 58 = .ok (.iload_n 2, 1) := by decide +kernel
theorem dX3_comingBefore_59 : decode cX3_comingBefore 59 = .ok (.ireturn, 1) := by decide +kernel
theorem dX3_commonDivisor_0 : decode cX3_commonDivisor 0 = .ok (.aload_n 0, 1) := by decide +kernel
theorem dX3_commonDivisor_1 : decode cX3_commonDivisor 1 = .ok (.getfield 31, 3) := by decide +kernel
theorem dX3_commonDivisor_4 : decode cX3_commonDivisor 4 = .ok (.lstore_n 2, 1) := by decide +kernel
theorem dX3_commonDivisor_5 : decode cX3_commonDivisor 5 = .ok (.aload_n 0, 1) := by decide +kernel
theorem dX3_commonDivisor_6 : decode cX3_commonDivisor 6 = .ok (.getfield 9, 3) := by decide +kernel
theorem dX3_commonDivisor_9 : decode cX3_commonDivisor 9 = .ok (.iload_n 1, 1) := by decide +kernel
theorem dX3_commonDivisor_10 : decode cX3_commonDivisor 10 = .ok (.laload, 1) := by decide +kernel
theorem dX3_commonDivisor_11 : decode cX3_commonDivisor 11 = .ok (.lstore 4, 2) := by decide +kernel
theorem dX3_commonDivisor_13 : decode cX3_commonDivisor 13 = .ok (.iconst 0, 1) := by decide +kernel
theorem dX3_commonDivisor_14 : decode cX3_commonDivisor 14 = .ok (.istore 6, 2) := by decide +kernel
theorem dX3_commonDivisor_16 : decode cX3_commonDivisor 16 = .ok (.iload 6, 2) := by decide +kernel
theorem dX3_commonDivisor_18 : decode cX3_commonDivisor 18 = .ok (.bipush 100, 2) := by decide +kernel
theorem dX3_commonDivisor_20 : decode cX3_commonDivisor 20 = .ok (.if_icmp .ge 29, 3) := by decide +kernel
theorem dX3_commonDivisor_23 : decode cX3_commonDivisor 23 = .ok (.lload 4, 2) := by decide +kernel
theorem dX3_commonDivisor_25 : decode cX3_commonDivisor 25 = .ok (.lconst 0, 1) := by decide +kernel
theorem dX3_commonDivisor_26 : decode cX3_commonDivisor 26 = .ok (.lcmp, 1) := by decide +kernel
theorem dX3_commonDivisor_27 : decode cX3_commonDivisor 27 = .ok (.ifCond .eq 22, 3) := by decide +kernel
theorem dX3_commonDivisor_30 : decode cX3_commonDivisor 30 = .ok (.lload_n 2, 1) := by decide +kernel
theorem dX3_commonDivisor_31 : decode cX3_commonDivisor 31 = .ok (.lload 4, 2) := by decide +kernel
theorem dX3_commonDivisor_33 : decode cX3_commonDivisor 33 = .ok (.lrem, 1) := by decide +kernel
theorem dX3_commonDivisor_34 : decode cX3_commonDivisor 34 = .ok (.lstore 7, 2) := by decide +kernel
theorem dX3_commonDivisor_36 : decode cX3_commonDivisor 36 = .ok (.lload 4, 2) := by decide +kernel
theorem dX3_commonDivisor_38 : decode cX3_commonDivisor 38 = .ok (.lstore_n 2, 1) := by decide +kernel
theorem dX3_commonDivisor_39 : decode cX3_commonDivisor 39 = .ok (.lload 7, 2) := by decide +kernel
theorem dX3_commonDivisor_41 : decode cX3_commonDivisor 41 = .ok (.lstore 4, 2) := by decide +kernel
theorem dX3_commonDivisor_43 : decode cX3_commonDivisor 43 = .ok (.iinc 6 1, 3) := by decide +kernel
theorem dX3_commonDivisor_46 : decode cX3_commonDivisor 46 = .ok (.goto (-30), 3) := by decide +kernel
theorem dX3_commonDivisor_49 : decode cX3_commonDivisor 49 = .ok (.lload_n 2, 1) := by decide +kernel
theorem dX3_commonDivisor_50 : decode cX3_commonDivisor 50 = .ok (.lconst 1, 1) := by decide +kernel
theorem dX3_commonDivisor_51 : decode cX3_commonDivisor 51 = .ok (.invokestatic 77, 3) := by decide +kernel
theorem dX3_commonDivisor_54 : decode cX3_commonDivisor 54 = .ok (.lreturn, 1) := by decide +kernel
theorem dX4_init_0 : decode cX4_init 0 = .ok (.aload_n 0, 1) := by decide +kernel
theorem dX4_init_1 : decode cX4_init 1 = .ok (.invokespecial 3, 3) := by decide +kernel
theorem dX4_init_4 : decode cX4_init 4 = .ok (.aload_n 0, 1) := by decide +kernel
theorem dX4_init_5 : decode cX4_init 5 = .ok (.bipush 9, 2) := by decide +kernel
theorem dX4_init_7 : decode cX4_init 7 = .ok (.newarray .int, 2) := by decide +kernel
theorem dX4_init_9 : decode cX4_init 9 = .ok (.putfield 9, 3) := by decide +kernel
theorem dX4_init_12 : decode cX4_init 12 = .ok (.aload_n 0, 1) := by decide +kernel
theorem dX4_init_13 : decode cX4_init 13 = .ok (.bipush 9, 2) := by decide +kernel
theorem dX4_init_15 : decode cX4_init 15 = .ok (.newarray .int, 2) := by decide +kernel
theorem dX4_init_17 : decode cX4_init 17 = .ok (.putfield 15, 3) := by decide +kernel
theorem dX4_init_20 : decode cX4_init 20 = .ok (.aload_n 0, 1) := by decide +kernel
theorem dX4_init_21 : decode cX4_init 21 = .ok (.bipush 9, 2) := by decide +kernel
theorem dX4_init_23 : decode cX4_init 23 = .ok (.newarray .int, 2) := by decide +kernel
theorem dX4_init_25 : decode cX4_init 25 = .ok (.putfield 18, 3) := by decide +kernel
theorem dX4_init_28 : decode cX4_init 28 = .ok (.return_, 1) := by decide +kernel
theorem dX4_copy_0 : decode cX4_copy 0 = .ok (.aload_n 0, 1) := by decide +kernel
theorem dX4_copy_1 : decode cX4_copy 1 = .ok (.aload_n 1, 1) := by decide +kernel
theorem dX4_copy_2 : decode cX4_copy 2 = .ok (.getfield 21, 3) := by decide +kernel
theorem dX4_copy_5 : decode cX4_copy 5 = .ok (.putfield 27, 3) := by decide +kernel
theorem dX4_copy_8 : decode cX4_copy 8 = .ok (.aload_n 0, 1) := by decide +kernel
theorem dX4_copy_9 : decode cX4_copy 9 = .ok (.aload_n 1, 1) := by decide +kernel
theorem dX4_copy_10 : decode cX4_copy 10 = .ok (.iconst 1, 1) := by decide +kernel
theorem dX4_copy_11 : decode cX4_copy 11 = .ok (.invokevirtual 28, 3) := by decide +kernel
theorem dX4_copy_14 : decode cX4_copy 14 = .ok (.putfield 32, 3) := by decide +kernel
theorem dX4_copy_17 : decode cX4_copy 17 = .ok (.aload_n 1, 1) := by decide +kernel
theorem dX4_copy_18 : decode cX4_copy 18 = .ok (.getfield 35, 3) := by decide +kernel
theorem dX4_copy_21 : decode cX4_copy 21 = .ok (.iconst 0, 1) := by decide +kernel
theorem dX4_copy_22 : decode cX4_copy 22 = .ok (.aload_n 0, 1) := by decide +kernel
theorem dX4_copy_23 : decode cX4_copy 23 = .ok (.getfield 9, 3) := by decide +kernel
theorem dX4_copy_26 : decode cX4_copy 26 = .ok (.iconst 0, 1) := by decide +kernel
theorem dX4_copy_27 : decode cX4_copy 27 = .ok (.bipush 9, 2) := by decide +kernel
theorem dX4_copy_29 : decode cX4_copy 29 = .ok (.invokestatic 36, 3) := by decide +kernel
theorem dX4_copy_32 : decode cX4_copy 32 = .ok (.return_, 1) := by decide +kernel
theorem dX4_leaveOut_0 : decode cX4_leaveOut 0 = .ok (.aload_n 0, 1) := by decide +kernel
theorem dX4_leaveOut_1 : decode cX4_leaveOut 1 = .ok (.getfield 9, 3) := by decide +kernel
theorem dX4_leaveOut_4 : decode cX4_leaveOut 4 = .ok (.iload_n 1, 1) := by decide +kernel
theorem dX4_leaveOut_5 : decode cX4_leaveOut 5 = .ok (.dup2, 1) := by decide +kernel
theorem dX4_leaveOut_6 : decode cX4_leaveOut 6 = .ok (.iaload, 1) := by decide +kernel
theorem dX4_leaveOut_7 : decode cX4_leaveOut 7 = .ok (.iconst 1, 1) := by decide +kernel
theorem dX4_leaveOut_8 : decode cX4_leaveOut 8 = .ok (.iload_n 2, 1) := by decide +kernel
theorem dX4_leaveOut_9 : decode cX4_leaveOut 9 = .ok (.ishl, 1) := by decide +kernel
theorem dX4_leaveOut_10 : decode cX4_leaveOut 10 = .ok (.iconst (-1), 1) := by decide +kernel
theorem dX4_leaveOut_11 : decode cX4_leaveOut 11 = .ok (.ixor, 1) := by decide +kernel
theorem dX4_leaveOut_12 : decode cX4_leaveOut 12 = .ok (.iand, 1) := by decide +kernel
theorem dX4_leaveOut_13 : decode cX4_leaveOut 13 = .ok (.iastore, 1) := by decide +kernel
theorem dX4_leaveOut_14 : decode cX4_leaveOut 14 = .ok (.return_, 1) := by decide +kernel
theorem dX4_silence_0 : decode cX4_silence 0 = .ok (.iconst 0, 1) := by decide +kernel
theorem dX4_silence_1 : decode cX4_silence 1 = .ok (.istore_n 2, 1) := by decide +kernel
theorem dX4_silence_2 : decode cX4_silence 2 = .ok (.iload_n 2, 1) := by decide +kernel
theorem dX4_silence_3 : decode cX4_silence 3 = .ok (.aload_n 0, 1) := by decide +kernel
theorem dX4_silence_4 : decode cX4_silence 4 = .ok (.getfield 27, 3) := by decide +kernel
theorem dX4_silence_7 : decode cX4_silence 7 = .ok (.if_icmp .ge 25, 3) := by decide +kernel
theorem dX4_silence_10 : decode cX4_silence 10 = .ok (.iload_n 1, 1) := by decide +kernel
theorem dX4_silence_11 : decode cX4_silence 11 = .ok (.iload_n 2, 1) := by decide +kernel
theorem dX4_silence_12 : decode cX4_silence 12 = .ok (.invokestatic 42, 3) := by decide +kernel
theorem dX4_silence_15 : decode cX4_silence 15 = .ok (.iconst 1, 1) := by decide +kernel
theorem dX4_silence_16 : decode cX4_silence 16 = .ok (.if_icmp .ne 10, 3) := by decide +kernel
theorem dX4_silence_19 : decode cX4_silence 19 = .ok (.aload_n 0, 1) := by decide +kernel
theorem dX4_silence_20 : decode cX4_silence 20 = .ok (.getfield 9, 3) := by decide +kernel
theorem dX4_silence_23 : decode cX4_silence 23 = .ok (.iload_n 2, 1) := by decide +kernel
theorem dX4_silence_24 : decode cX4_silence 24 = .ok (.iconst 0, 1) := by decide +kernel
theorem dX4_silence_25 : decode cX4_silence 25 = .ok (.iastore, 1) := by decide +kernel
theorem dX4_silence_26 : decode cX4_silence 26 = .ok (.iinc 2 1, 3) := by decide +kernel
theorem dX4_silence_29 : decode cX4_silence 29 = .ok (.goto (-27), 3) := by decide +kernel
theorem dX4_silence_32 : decode cX4_silence 32 = .ok (.return_, 1) := by decide +kernel
theorem dX4_settle_0 : decode cX4_settle 0 = .ok (.aload_n 0, 1) := by decide +kernel
theorem dX4_settle_1 : decode cX4_settle 1 = .ok (.getfield 15, 3) := by decide +kernel
theorem dX4_settle_4 : decode cX4_settle 4 = .ok (.iconst (-1), 1) := by decide +kernel
theorem dX4_settle_5 : decode cX4_settle 5 = .ok (.invokestatic 46, 3) := by decide +kernel
theorem dX4_settle_8 : decode cX4_settle 8 = .ok (.aload_n 0, 1) := by decide +kernel
theorem dX4_settle_9 : decode cX4_settle 9 = .ok (.getfield 18, 3) := by decide +kernel
theorem dX4_settle_12 : decode cX4_settle 12 = .ok (.iconst 0, 1) := by decide +kernel
theorem dX4_settle_13 : decode cX4_settle 13 = .ok (.invokestatic 46, 3) := by decide +kernel
theorem dX4_settle_16 : decode cX4_settle 16 = .ok (.iconst 0, 1) := by decide +kernel
theorem dX4_settle_17 : decode cX4_settle 17 = .ok (.istore_n 2, 1) := by decide +kernel
theorem dX4_settle_18 : decode cX4_settle 18 = .ok (.aload_n 0, 1) := by decide +kernel
theorem dX4_settle_19 : decode cX4_settle 19 = .ok (.getfield 32, 3) := by decide +kernel
theorem dX4_settle_22 : decode cX4_settle 22 = .ok (.istore_n 3, 1) := by decide +kernel
theorem dX4_settle_23 : decode cX4_settle 23 = .ok (.iconst 0, 1) := by decide +kernel
theorem dX4_settle_24 : decode cX4_settle 24 = .ok (.istore 4, 2) := by decide +kernel
theorem dX4_settle_26 : decode cX4_settle 26 = .ok (.iload 4, 2) := by decide +kernel
theorem dX4_settle_28 : decode cX4_settle 28 = .ok (.aload_n 0, 1) := by decide +kernel
theorem dX4_settle_29 : decode cX4_settle 29 = .ok (.getfield 27, 3) := by decide +kernel
theorem dX4_settle_32 : decode cX4_settle 32 = .ok (.if_icmp .ge 95, 3) := by decide +kernel
theorem dX4_settle_35 : decode cX4_settle 35 = .ok (.iload_n 3, 1) := by decide +kernel
theorem dX4_settle_36 : decode cX4_settle 36 = .ok (.ifCond .eq 91, 3) := by decide +kernel
theorem dX4_settle_39 : decode cX4_settle 39 = .ok (.iload 4, 2) := by decide +kernel
theorem dX4_settle_41 : decode cX4_settle 41 = .ok (.aload_n 1, 1) := by decide +kernel
theorem dX4_settle_42 : decode cX4_settle 42 = .ok (.getfield 52, 3) := by decide +kernel
theorem dX4_settle_45 : decode cX4_settle 45 = .ok (.if_icmp .ge 13, 3) := by decide +kernel
theorem dX4_settle_48 : decode cX4_settle 48 = .ok (.aload_n 1, 1) := by decide +kernel
theorem dX4_settle_49 : decode cX4_settle 49 = .ok (.getfield 55, 3) := by decide +kernel
theorem dX4_settle_52 : decode cX4_settle 52 = .ok (.iload 4, 2) := by decide +kernel
theorem dX4_settle_54 : decode cX4_settle 54 = .ok (.iaload, 1) := by decide +kernel
theorem dX4_settle_55 : decode cX4_settle 55 = .ok (.goto 4, 3) := by decide +kernel
theorem dX4_settle_58 : decode cX4_settle 58 = .ok (.iconst 0, 1) := by decide +kernel
theorem dX4_settle_59 : decode cX4_settle 59 = .ok (.istore 5, 2) := by decide +kernel
theorem dX4_settle_61 : decode cX4_settle 61 = .ok (.iconst 0, 1) := by decide +kernel
theorem dX4_settle_62 : decode cX4_settle 62 = .ok (.istore 6, 2) := by decide +kernel
theorem dX4_settle_64 : decode cX4_settle 64 = .ok (.iload 6, 2) := by decide +kernel
theorem dX4_settle_66 : decode cX4_settle 66 = .ok (.aload_n 0, 1) := by decide +kernel
theorem dX4_settle_67 : decode cX4_settle 67 = .ok (.getfield 27, 3) := by decide +kernel
theorem dX4_settle_70 : decode cX4_settle 70 = .ok (.if_icmp .ge 37, 3) := by decide +kernel
theorem dX4_settle_73 : decode cX4_settle 73 = .ok (.iload_n 3, 1) := by decide +kernel
theorem dX4_settle_74 : decode cX4_settle 74 = .ok (.iload 6, 2) := by decide +kernel
theorem dX4_settle_76 : decode cX4_settle 76 = .ok (.invokestatic 42, 3) := by decide +kernel
theorem dX4_settle_79 : decode cX4_settle 79 = .ok (.iconst 1, 1) := by decide +kernel
theorem dX4_settle_80 : decode cX4_settle 80 = .ok (.if_icmp .ne 21, 3) := by decide +kernel
theorem dX4_settle_83 : decode cX4_settle 83 = .ok (.aload_n 0, 1) := by decide +kernel
theorem dX4_settle_84 : decode cX4_settle 84 = .ok (.getfield 15, 3) := by decide +kernel
theorem dX4_settle_87 : decode cX4_settle 87 = .ok (.iload 6, 2) := by decide +kernel
theorem dX4_settle_89 : decode cX4_settle 89 = .ok (.iload 4, 2) := by decide +kernel
theorem dX4_settle_91 : decode cX4_settle 91 = .ok (.iastore, 1) := by decide +kernel
theorem dX4_settle_92 : decode cX4_settle 92 = .ok (.aload_n 0, 1) := by decide +kernel
theorem dX4_settle_93 : decode cX4_settle 93 = .ok (.getfield 18, 3) := by decide +kernel
theorem dX4_settle_96 : decode cX4_settle 96 = .ok (.iload 6, 2) := by decide +kernel
theorem dX4_settle_98 : decode cX4_settle 98 = .ok (.iload 5, 2) := by decide +kernel
theorem dX4_settle_100 : decode cX4_settle 100 = .ok (.iastore, 1) := by decide +kernel
theorem dX4_settle_101 : decode cX4_settle 101 = .ok (.iinc 6 1, 3) := by decide +kernel
theorem dX4_settle_104 : decode cX4_settle 104 = .ok (.goto (-40), 3) := by decide +kernel
theorem dX4_settle_107 : decode cX4_settle 107 = .ok (.iload_n 2, 1) := by decide +kernel
theorem dX4_settle_108 : decode cX4_settle 108 = .ok (.iload_n 3, 1) := by decide +kernel
theorem dX4_settle_109 : decode cX4_settle 109 = .ok (.ior, 1) := by decide +kernel
theorem dX4_settle_110 : decode cX4_settle 110 = .ok (.istore_n 2, 1) := by decide +kernel
theorem dX4_settle_111 : decode cX4_settle 111 = .ok (.aload_n 0, 1) := by decide +kernel
theorem dX4_settle_112 : decode cX4_settle 112 = .ok (.iload_n 3, 1) := by decide +kernel
theorem dX4_settle_113 : decode cX4_settle 113 = .ok (.invokevirtual 58, 3) := by decide +kernel
theorem dX4_settle_116 : decode cX4_settle 116 = .ok (.iload_n 2, 1) := by decide +kernel
theorem dX4_settle_117 : decode cX4_settle 117 = .ok (.iconst (-1), 1) := by decide +kernel
theorem dX4_settle_118 : decode cX4_settle 118 = .ok (.ixor, 1) := by decide +kernel
theorem dX4_settle_119 : decode cX4_settle 119 = .ok (.iand, 1) := by decide +kernel
theorem dX4_settle_120 : decode cX4_settle 120 = .ok (.istore_n 3, 1) := by decide +kernel
theorem dX4_settle_121 : decode cX4_settle 121 = .ok (.iinc 4 1, 3) := by decide +kernel
theorem dX4_settle_124 : decode cX4_settle 124 = .ok (.goto (-98), 3) := by decide +kernel
theorem dX4_settle_127 : decode cX4_settle 127 = .ok (.return_, 1) := by decide +kernel
theorem dX4_allowOnePathThroughAllBut_0 : decode cX4_allowOnePathThroughAllBut 0 = .ok (.aload_n 0, 1) := by decide +kernel
theorem dX4_allowOnePathThroughAllBut_1 : decode cX4_allowOnePathThroughAllBut 1 = .ok (.getfield 18, 3) := by decide +kernel
theorem dX4_allowOnePathThroughAllBut_4 : decode cX4_allowOnePathThroughAllBut 4 = .ok (.iconst 1, 1) := by decide +kernel
theorem dX4_allowOnePathThroughAllBut_5 : decode cX4_allowOnePathThroughAllBut 5 = .ok (.invokestatic 46, 3) := by decide +kernel
theorem dX4_allowOnePathThroughAllBut_8 : decode cX4_allowOnePathThroughAllBut 8 = .ok (.aload_n 0, 1) := by decide +kernel
theorem dX4_allowOnePathThroughAllBut_9 : decode cX4_allowOnePathThroughAllBut 9 = .ok (.getfield 18, 3) := by decide +kernel
theorem dX4_allowOnePathThroughAllBut_12 : decode cX4_allowOnePathThroughAllBut 12 = .ok (.iload_n 1, 1) := by decide +kernel
theorem dX4_allowOnePathThroughAllBut_13 : decode cX4_allowOnePathThroughAllBut 13 = .ok (.bipush 9, 2) := by decide +kernel
theorem dX4_allowOnePathThroughAllBut_15 : decode cX4_allowOnePathThroughAllBut 15 = .ok (.iastore, 1) := by decide +kernel
theorem dX4_allowOnePathThroughAllBut_16 : decode cX4_allowOnePathThroughAllBut 16 = .ok (.return_, 1) := by decide +kernel
theorem dX4_vouchedBy_0 : decode cX4_vouchedBy 0 = .ok (.iconst 0, 1) := by decide +kernel
theorem dX4_vouchedBy_1 : decode cX4_vouchedBy 1 = .ok (.istore_n 2, 1) := by decide +kernel
theorem dX4_vouchedBy_2 : decode cX4_vouchedBy 2 = .ok (.iconst 0, 1) := by decide +kernel
theorem dX4_vouchedBy_3 : decode cX4_vouchedBy 3 = .ok (.istore_n 3, 1) := by decide +kernel
theorem dX4_vouchedBy_4 : decode cX4_vouchedBy 4 = .ok (.iload_n 3, 1) := by decide +kernel
theorem dX4_vouchedBy_5 : decode cX4_vouchedBy 5 = .ok (.aload_n 0, 1) := by decide +kernel
theorem dX4_vouchedBy_6 : decode cX4_vouchedBy 6 = .ok (.getfield 27, 3) := by decide +kernel
theorem dX4_vouchedBy_9 : decode cX4_vouchedBy 9 = .ok (.if_icmp .ge 27, 3) := by decide +kernel
theorem dX4_vouchedBy_12 : decode cX4_vouchedBy 12 = .ok (.iload_n 1, 1) := by decide +kernel
theorem dX4_vouchedBy_13 : decode cX4_vouchedBy 13 = .ok (.iload_n 3, 1) := by decide +kernel
theorem dX4_vouchedBy_14 : decode cX4_vouchedBy 14 = .ok (.invokestatic 42, 3) := by decide +kernel
theorem dX4_vouchedBy_17 : decode cX4_vouchedBy 17 = .ok (.iconst 1, 1) := by decide +kernel
theorem dX4_vouchedBy_18 : decode cX4_vouchedBy 18 = .ok (.if_icmp .ne 12, 3) := by decide +kernel
theorem dX4_vouchedBy_21 : decode cX4_vouchedBy 21 = .ok (.iload_n 2, 1) := by decide +kernel
theorem dX4_vouchedBy_22 : decode cX4_vouchedBy 22 = .ok (.aload_n 0, 1) := by decide +kernel
theorem dX4_vouchedBy_23 : decode cX4_vouchedBy 23 = .ok (.getfield 9, 3) := by decide +kernel
theorem dX4_vouchedBy_26 : decode cX4_vouchedBy 26 = .ok (.iload_n 3, 1) := by decide +kernel
theorem dX4_vouchedBy_27 : decode cX4_vouchedBy 27 = .ok (.iaload, 1) := by decide +kernel
theorem dX4_vouchedBy_28 : decode cX4_vouchedBy 28 = .ok (.ior, 1) := by decide +kernel
theorem dX4_vouchedBy_29 : decode cX4_vouchedBy 29 = .ok (.istore_n 2, 1) := by decide +kernel
theorem dX4_vouchedBy_30 : decode cX4_vouchedBy 30 = .ok (.iinc 3 1, 3) := by decide +kernel
theorem dX4_vouchedBy_33 : decode cX4_vouchedBy 33 = .ok (.goto (-29), 3) := by decide +kernel
theorem dX4_vouchedBy_36 : decode cX4_vouchedBy 36 = .ok (.iload_n 2, 1) := by decide +kernel
theorem dX4_vouchedBy_37 : decode cX4_vouchedBy 37 = .ok (.ireturn, 1) := by decide +kernel
theorem dX4_reachedWithout_0 : decode cX4_reachedWithout 0 = .ok (.aload_n 0, 1) := by decide +kernel
theorem dX4_reachedWithout_1 : decode cX4_reachedWithout 1 = .ok (.getfield 32, 3) := by decide +kernel
theorem dX4_reachedWithout_4 : decode cX4_reachedWithout 4 = .ok (.iload_n 1, 1) := by decide +kernel
theorem dX4_reachedWithout_5 : decode cX4_reachedWithout 5 = .ok (.iconst (-1), 1) := by decide +kernel
theorem dX4_reachedWithout_6 : decode cX4_reachedWithout 6 = .ok (.ixor, 1) := by decide +kernel
theorem dX4_reachedWithout_7 : decode cX4_reachedWithout 7 = .ok (.iand, 1) := by decide +kernel
theorem dX4_reachedWithout_8 : decode cX4_reachedWithout 8 = .ok (.istore_n 2, 1) := by decide +kernel
theorem dX4_reachedWithout_9 : decode cX4_reachedWithout 9 = .ok (.iload_n 2, 1) := by decide +kernel
theorem dX4_reachedWithout_10 : decode cX4_reachedWithout 10 = .ok (.istore_n 3, 1) := by decide +kernel
theorem dX4_reachedWithout_11 : decode cX4_reachedWithout 11 = .ok (.iconst 0, 1) := by decide +kernel
theorem dX4_reachedWithout_12 : decode cX4_reachedWithout 12 = .ok (.istore 4, 2) := by decide +kernel
theorem dX4_reachedWithout_14 : decode cX4_reachedWithout 14 = .ok (.iload 4, 2) := by decide +kernel
theorem dX4_reachedWithout_16 : decode cX4_reachedWithout 16 = .ok (.aload_n 0, 1) := by decide +kernel
theorem dX4_reachedWithout_17 : decode cX4_reachedWithout 17 = .ok (.getfield 27, 3) := by decide +kernel
theorem dX4_reachedWithout_20 : decode cX4_reachedWithout 20 = .ok (.if_icmp .ge 31, 3) := by decide +kernel
theorem dX4_reachedWithout_23 : decode cX4_reachedWithout 23 = .ok (.iload_n 3, 1) := by decide +kernel
theorem dX4_reachedWithout_24 : decode cX4_reachedWithout 24 = .ok (.ifCond .eq 27, 3) := by decide +kernel
theorem dX4_reachedWithout_27 : decode cX4_reachedWithout 27 = .ok (.aload_n 0, 1) := by decide +kernel
theorem dX4_reachedWithout_28 : decode cX4_reachedWithout 28 = .ok (.iload_n 3, 1) := by decide +kernel
theorem dX4_reachedWithout_29 : decode cX4_reachedWithout 29 = .ok (.invokevirtual 58, 3) := by decide +kernel
theorem dX4_reachedWithout_32 : decode cX4_reachedWithout 32 = .ok (.iload_n 1, 1) := by decide +kernel
theorem dX4_reachedWithout_33 : decode cX4_reachedWithout 33 = .ok (.iconst (-1), 1) := by decide +kernel
theorem dX4_reachedWithout_34 : decode cX4_reachedWithout 34 = .ok (.ixor, 1) := by decide +kernel
theorem dX4_reachedWithout_35 : decode cX4_reachedWithout 35 = .ok (.iand, 1) := by decide +kernel
theorem dX4_reachedWithout_36 : decode cX4_reachedWithout 36 = .ok (.iload_n 2, 1) := by decide +kernel
theorem dX4_reachedWithout_37 : decode cX4_reachedWithout 37 = .ok (.iconst (-1), 1) := by decide +kernel
theorem dX4_reachedWithout_38 : decode cX4_reachedWithout 38 = .ok (.ixor, 1) := by decide +kernel
theorem dX4_reachedWithout_39 : decode cX4_reachedWithout 39 = .ok (.iand, 1) := by decide +kernel
theorem dX4_reachedWithout_40 : decode cX4_reachedWithout 40 = .ok (.istore_n 3, 1) := by decide +kernel
theorem dX4_reachedWithout_41 : decode cX4_reachedWithout 41 = .ok (.iload_n 2, 1) := by decide +kernel
theorem dX4_reachedWithout_42 : decode cX4_reachedWithout 42 = .ok (.iload_n 3, 1) := by decide +kernel
theorem dX4_reachedWithout_43 : decode cX4_reachedWithout 43 = .ok (.ior, 1) := by decide +kernel
theorem dX4_reachedWithout_44 : decode cX4_reachedWithout 44 = .ok (.istore_n 2, 1) := by decide +kernel
theorem dX4_reachedWithout_45 : decode cX4_reachedWithout 45 = .ok (.iinc 4 1, 3) := by decide +kernel
theorem dX4_reachedWithout_48 : decode cX4_reachedWithout 48 = .ok (.goto (-34), 3) := by decide +kernel
theorem dX4_reachedWithout_51 : decode cX4_reachedWithout 51 = .ok (.iload_n 2, 1) := by decide +kernel
theorem dX4_reachedWithout_52 : decode cX4_reachedWithout 52 = .ok (.ireturn, 1) := by decide +kernel
theorem dX4_personsWithLevel_0 : decode cX4_personsWithLevel 0 = .ok (.iconst 0, 1) := by decide +kernel
theorem dX4_personsWithLevel_1 : decode cX4_personsWithLevel 1 = .ok (.istore_n 1, 1) := by decide +kernel
theorem dX4_personsWithLevel_2 : decode cX4_personsWithLevel 2 = .ok (.iconst 0, 1) := by decide +kernel
theorem dX4_personsWithLevel_3 : decode cX4_personsWithLevel 3 = .ok (.istore_n 2, 1) := by decide +kernel
theorem dX4_personsWithLevel_4 : decode cX4_personsWithLevel 4 = .ok (.iload_n 2, 1) := by decide +kernel
theorem dX4_personsWithLevel_5 : decode cX4_personsWithLevel 5 = .ok (.aload_n 0, 1) := by decide +kernel
theorem dX4_personsWithLevel_6 : decode cX4_personsWithLevel 6 = .ok (.getfield 27, 3) := by decide +kernel
theorem dX4_personsWithLevel_9 : decode cX4_personsWithLevel 9 = .ok (.if_icmp .ge 22, 3) := by decide +kernel
theorem dX4_personsWithLevel_12 : decode cX4_personsWithLevel 12 = .ok (.aload_n 0, 1) := by decide +kernel
theorem dX4_personsWithLevel_13 : decode cX4_personsWithLevel 13 = .ok (.getfield 15, 3) := by decide +kernel
theorem dX4_personsWithLevel_16 : decode cX4_personsWithLevel 16 = .ok (.iload_n 2, 1) := by decide +kernel
theorem dX4_personsWithLevel_17 : decode cX4_personsWithLevel 17 = .ok (.iaload, 1) := by decide +kernel
theorem dX4_personsWithLevel_18 : decode cX4_personsWithLevel 18 = .ok (.iconst (-1), 1) := by decide +kernel
theorem dX4_personsWithLevel_19 : decode cX4_personsWithLevel 19 = .ok (.if_icmp .eq 6, 3) := by decide +kernel
theorem dX4_personsWithLevel_22 : decode cX4_personsWithLevel 22 = .ok (.iinc 1 1, 3) := by decide +kernel
theorem dX4_personsWithLevel_25 : decode cX4_personsWithLevel 25 = .ok (.iinc 2 1, 3) := by decide +kernel
theorem dX4_personsWithLevel_28 : decode cX4_personsWithLevel 28 = .ok (.goto (-24), 3) := by decide +kernel
theorem dX4_personsWithLevel_31 : decode cX4_personsWithLevel 31 = .ok (.iload_n 1, 1) := by decide +kernel
theorem dX4_personsWithLevel_32 : decode cX4_personsWithLevel 32 = .ok (.ireturn, 1) := by decide +kernel
theorem dX4_greatestLevel_0 : decode cX4_greatestLevel 0 = .ok (.iconst (-1), 1) := by decide +kernel
theorem dX4_greatestLevel_1 : decode cX4_greatestLevel 1 = .ok (.istore_n 1, 1) := by decide +kernel
theorem dX4_greatestLevel_2 : decode cX4_greatestLevel 2 = .ok (.iconst 0, 1) := by decide +kernel
theorem dX4_greatestLevel_3 : decode cX4_greatestLevel 3 = .ok (.istore_n 2, 1) := by decide +kernel
theorem dX4_greatestLevel_4 : decode cX4_greatestLevel 4 = .ok (.iload_n 2, 1) := by decide +kernel
theorem dX4_greatestLevel_5 : decode cX4_greatestLevel 5 = .ok (.aload_n 0, 1) := by decide +kernel
theorem dX4_greatestLevel_6 : decode cX4_greatestLevel 6 = .ok (.getfield 27, 3) := by decide +kernel
theorem dX4_greatestLevel_9 : decode cX4_greatestLevel 9 = .ok (.if_icmp .ge 20, 3) := by decide +kernel
theorem dX4_greatestLevel_12 : decode cX4_greatestLevel 12 = .ok (.iload_n 1, 1) := by decide +kernel
theorem dX4_greatestLevel_13 : decode cX4_greatestLevel 13 = .ok (.aload_n 0, 1) := by decide +kernel
theorem dX4_greatestLevel_14 : decode cX4_greatestLevel 14 = .ok (.getfield 15, 3) := by decide +kernel
theorem dX4_greatestLevel_17 : decode cX4_greatestLevel 17 = .ok (.iload_n 2, 1) := by decide +kernel
theorem dX4_greatestLevel_18 : decode cX4_greatestLevel 18 = .ok (.iaload, 1) := by decide +kernel
theorem dX4_greatestLevel_19 : decode cX4_greatestLevel 19 = .ok (.invokestatic 61, 3) := by decide +kernel
theorem dX4_greatestLevel_22 : decode cX4_greatestLevel 22 = .ok (.istore_n 1, 1) := by decide +kernel
theorem dX4_greatestLevel_23 : decode cX4_greatestLevel 23 = .ok (.iinc 2 1, 3) := by decide +kernel
theorem dX4_greatestLevel_26 : decode cX4_greatestLevel 26 = .ok (.goto (-22), 3) := by decide +kernel
theorem dX4_greatestLevel_29 : decode cX4_greatestLevel 29 = .ok (.iload_n 1, 1) := by decide +kernel
theorem dX4_greatestLevel_30 : decode cX4_greatestLevel 30 = .ok (.ireturn, 1) := by decide +kernel
theorem dX4_limitsOf_0 : decode cX4_limitsOf 0 = .ok (.iconst 0, 1) := by decide +kernel
theorem dX4_limitsOf_1 : decode cX4_limitsOf 1 = .ok (.istore_n 2, 1) := by decide +kernel
theorem dX4_limitsOf_2 : decode cX4_limitsOf 2 = .ok (.iconst 0, 1) := by decide +kernel
theorem dX4_limitsOf_3 : decode cX4_limitsOf 3 = .ok (.istore_n 3, 1) := by decide +kernel
theorem dX4_limitsOf_4 : decode cX4_limitsOf 4 = .ok (.iload_n 3, 1) := by decide +kernel
theorem dX4_limitsOf_5 : decode cX4_limitsOf 5 = .ok (.aload_n 0, 1) := by decide +kernel
theorem dX4_limitsOf_6 : decode cX4_limitsOf 6 = .ok (.getfield 27, 3) := by decide +kernel
theorem dX4_limitsOf_9 : decode cX4_limitsOf 9 = .ok (.if_icmp .ge 27, 3) := by decide +kernel
theorem dX4_limitsOf_12 : decode cX4_limitsOf 12 = .ok (.iload_n 1, 1) := by decide +kernel
theorem dX4_limitsOf_13 : decode cX4_limitsOf 13 = .ok (.iload_n 3, 1) := by decide +kernel
theorem dX4_limitsOf_14 : decode cX4_limitsOf 14 = .ok (.invokestatic 42, 3) := by decide +kernel
theorem dX4_limitsOf_17 : decode cX4_limitsOf 17 = .ok (.iconst 1, 1) := by decide +kernel
theorem dX4_limitsOf_18 : decode cX4_limitsOf 18 = .ok (.if_icmp .ne 12, 3) := by decide +kernel
theorem dX4_limitsOf_21 : decode cX4_limitsOf 21 = .ok (.iload_n 2, 1) := by decide +kernel
theorem dX4_limitsOf_22 : decode cX4_limitsOf 22 = .ok (.aload_n 0, 1) := by decide +kernel
theorem dX4_limitsOf_23 : decode cX4_limitsOf 23 = .ok (.getfield 18, 3) := by decide +kernel
theorem dX4_limitsOf_26 : decode cX4_limitsOf 26 = .ok (.iload_n 3, 1) := by decide +kernel
theorem dX4_limitsOf_27 : decode cX4_limitsOf 27 = .ok (.iaload, 1) := by decide +kernel
theorem dX4_limitsOf_28 : decode cX4_limitsOf 28 = .ok (.iadd, 1) := by decide +kernel
theorem dX4_limitsOf_29 : decode cX4_limitsOf 29 = .ok (.istore_n 2, 1) := by decide +kernel
theorem dX4_limitsOf_30 : decode cX4_limitsOf 30 = .ok (.iinc 3 1, 3) := by decide +kernel
theorem dX4_limitsOf_33 : decode cX4_limitsOf 33 = .ok (.goto (-29), 3) := by decide +kernel
theorem dX4_limitsOf_36 : decode cX4_limitsOf 36 = .ok (.iload_n 2, 1) := by decide +kernel
theorem dX4_limitsOf_37 : decode cX4_limitsOf 37 = .ok (.ireturn, 1) := by decide +kernel
theorem dX5_init_0 : decode cX5_init 0 = .ok (.aload_n 0, 1) := by decide +kernel
theorem dX5_init_1 : decode cX5_init 1 = .ok (.invokespecial 3, 3) := by decide +kernel
theorem dX5_init_4 : decode cX5_init 4 = .ok (.aload_n 0, 1) := by decide +kernel
theorem dX5_init_5 : decode cX5_init 5 = .ok (.bipush 115, 2) := by decide +kernel
theorem dX5_init_7 : decode cX5_init 7 = .ok (.newarray .int, 2) := by decide +kernel
theorem dX5_init_9 : decode cX5_init 9 = .ok (.putfield 11, 3) := by decide +kernel
theorem dX5_init_12 : decode cX5_init 12 = .ok (.return_, 1) := by decide +kernel
theorem dX5_write_0 : decode cX5_write 0 = .ok (.aload_n 0, 1) := by decide +kernel
theorem dX5_write_1 : decode cX5_write 1 = .ok (.iconst 0, 1) := by decide +kernel
theorem dX5_write_2 : decode cX5_write 2 = .ok (.putfield 15, 3) := by decide +kernel
theorem dX5_write_5 : decode cX5_write 5 = .ok (.aload_n 0, 1) := by decide +kernel
theorem dX5_write_6 : decode cX5_write 6 = .ok (.bipush 48, 2) := by decide +kernel
theorem dX5_write_8 : decode cX5_write 8 = .ok (.aload_n 1, 1) := by decide +kernel
theorem dX5_write_9 : decode cX5_write 9 = .ok (.getfield 19, 3) := by decide +kernel
theorem dX5_write_12 : decode cX5_write 12 = .ok (.iadd, 1) := by decide +kernel
theorem dX5_write_13 : decode cX5_write 13 = .ok (.invokevirtual 24, 3) := by decide +kernel
theorem dX5_write_16 : decode cX5_write 16 = .ok (.aload_n 0, 1) := by decide +kernel
theorem dX5_write_17 : decode cX5_write 17 = .ok (.bipush 58, 2) := by decide +kernel
theorem dX5_write_19 : decode cX5_write 19 = .ok (.invokevirtual 24, 3) := by decide +kernel
theorem dX5_write_22 : decode cX5_write 22 = .ok (.iconst 0, 1) := by decide +kernel
theorem dX5_write_23 : decode cX5_write 23 = .ok (.istore_n 2, 1) := by decide +kernel
theorem dX5_write_24 : decode cX5_write 24 = .ok (.iload_n 2, 1) := by decide +kernel
theorem dX5_write_25 : decode cX5_write 25 = .ok (.aload_n 1, 1) := by decide +kernel
theorem dX5_write_26 : decode cX5_write 26 = .ok (.getfield 28, 3) := by decide +kernel
theorem dX5_write_29 : decode cX5_write 29 = .ok (.if_icmp .ge 22, 3) := by decide +kernel
theorem dX5_write_32 : decode cX5_write 32 = .ok (.aload_n 0, 1) := by decide +kernel
theorem dX5_write_33 : decode cX5_write 33 = .ok (.bipush 48, 2) := by decide +kernel
theorem dX5_write_35 : decode cX5_write 35 = .ok (.aload_n 1, 1) := by decide +kernel
theorem dX5_write_36 : decode cX5_write 36 = .ok (.getfield 31, 3) := by decide +kernel
theorem dX5_write_39 : decode cX5_write 39 = .ok (.iload_n 2, 1) := by decide +kernel
theorem dX5_write_40 : decode cX5_write 40 = .ok (.iaload, 1) := by decide +kernel
theorem dX5_write_41 : decode cX5_write 41 = .ok (.iadd, 1) := by decide +kernel
theorem dX5_write_42 : decode cX5_write 42 = .ok (.invokevirtual 24, 3) := by decide +kernel
theorem dX5_write_45 : decode cX5_write 45 = .ok (.iinc 2 1, 3) := by decide +kernel
theorem dX5_write_48 : decode cX5_write 48 = .ok (.goto (-24), 3) := by decide +kernel
theorem dX5_write_51 : decode cX5_write 51 = .ok (.aload_n 0, 1) := by decide +kernel
theorem dX5_write_52 : decode cX5_write 52 = .ok (.bipush 58, 2) := by decide +kernel
theorem dX5_write_54 : decode cX5_write 54 = .ok (.invokevirtual 24, 3) := by decide +kernel
theorem dX5_write_57 : decode cX5_write 57 = .ok (.iconst 0, 1) := by decide +kernel
theorem dX5_write_58 : decode cX5_write 58 = .ok (.istore_n 2, 1) := by decide +kernel
theorem dX5_write_59 : decode cX5_write 59 = .ok (.iload_n 2, 1) := by decide +kernel
theorem dX5_write_60 : decode cX5_write 60 = .ok (.aload_n 1, 1) := by decide +kernel
theorem dX5_write_61 : decode cX5_write 61 = .ok (.getfield 19, 3) := by decide +kernel
theorem dX5_write_64 : decode cX5_write 64 = .ok (.if_icmp .ge 25, 3) := by decide +kernel
theorem dX5_write_67 : decode cX5_write 67 = .ok (.iload_n 2, 1) := by decide +kernel
theorem dX5_write_68 : decode cX5_write 68 = .ok (.ifCond .le 9, 3) := by decide +kernel
theorem dX5_write_71 : decode cX5_write 71 = .ok (.aload_n 0, 1) := by decide +kernel
theorem dX5_write_72 : decode cX5_write 72 = .ok (.bipush 59, 2) := by decide +kernel
theorem dX5_write_74 : decode cX5_write 74 = .ok (.invokevirtual 24, 3) := by decide +kernel
theorem dX5_write_77 : decode cX5_write 77 = .ok (.aload_n 0, 1) := by decide +kernel
theorem dX5_write_78 : decode cX5_write 78 = .ok (.aload_n 1, 1) := by decide +kernel
theorem dX5_write_79 : decode cX5_write 79 = .ok (.iload_n 2, 1) := by decide +kernel
theorem dX5_write_80 : decode cX5_write 80 = .ok (.invokevirtual 34, 3) := by decide +kernel
theorem dX5_write_83 : decode cX5_write 83 = .ok (.iinc 2 1, 3) := by decide +kernel
theorem dX5_write_86 : decode cX5_write 86 = .ok (.goto (-27), 3) := by decide +kernel
theorem dX5_write_89 : decode cX5_write 89 = .ok (.return_, 1) := by decide +kernel
theorem dX5_writePerson_0 : decode cX5_writePerson 0 = .ok (.aload_n 1, 1) := by decide +kernel
theorem dX5_writePerson_1 : decode cX5_writePerson 1 = .ok (.getfield 38, 3) := by decide +kernel
theorem dX5_writePerson_4 : decode cX5_writePerson 4 = .ok (.iload_n 2, 1) := by decide +kernel
theorem dX5_writePerson_5 : decode cX5_writePerson 5 = .ok (.iaload, 1) := by decide +kernel
theorem dX5_writePerson_6 : decode cX5_writePerson 6 = .ok (.iconst 1, 1) := by decide +kernel
theorem dX5_writePerson_7 : decode cX5_writePerson 7 = .ok (.if_icmp .ne 9, 3) := by decide +kernel
theorem dX5_writePerson_10 : decode cX5_writePerson 10 = .ok (.aload_n 0, 1) := by decide +kernel
theorem dX5_writePerson_11 : decode cX5_writePerson 11 = .ok (.bipush 42, 2) := by decide +kernel
theorem dX5_writePerson_13 : decode cX5_writePerson 13 = .ok (.invokevirtual 24, 3) := by decide +kernel
theorem dX5_writePerson_16 : decode cX5_writePerson 16 = .ok (.aload_n 1, 1) := by decide +kernel
theorem dX5_writePerson_17 : decode cX5_writePerson 17 = .ok (.getfield 38, 3) := by decide +kernel
theorem dX5_writePerson_20 : decode cX5_writePerson 20 = .ok (.iload_n 2, 1) := by decide +kernel
theorem dX5_writePerson_21 : decode cX5_writePerson 21 = .ok (.iaload, 1) := by decide +kernel
theorem dX5_writePerson_22 : decode cX5_writePerson 22 = .ok (.iconst 2, 1) := by decide +kernel
theorem dX5_writePerson_23 : decode cX5_writePerson 23 = .ok (.if_icmp .ne 9, 3) := by decide +kernel
theorem dX5_writePerson_26 : decode cX5_writePerson 26 = .ok (.aload_n 0, 1) := by decide +kernel
theorem dX5_writePerson_27 : decode cX5_writePerson 27 = .ok (.bipush 33, 2) := by decide +kernel
theorem dX5_writePerson_29 : decode cX5_writePerson 29 = .ok (.invokevirtual 24, 3) := by decide +kernel
theorem dX5_writePerson_32 : decode cX5_writePerson 32 = .ok (.iconst 0, 1) := by decide +kernel
theorem dX5_writePerson_33 : decode cX5_writePerson 33 = .ok (.istore_n 3, 1) := by decide +kernel
theorem dX5_writePerson_34 : decode cX5_writePerson 34 = .ok (.iload_n 3, 1) := by decide +kernel
theorem dX5_writePerson_35 : decode cX5_writePerson 35 = .ok (.aload_n 1, 1) := by decide +kernel
theorem dX5_writePerson_36 : decode cX5_writePerson 36 = .ok (.getfield 19, 3) := by decide +kernel
theorem dX5_writePerson_39 : decode cX5_writePerson 39 = .ok (.if_icmp .ge 32, 3) := by decide +kernel
theorem dX5_writePerson_42 : decode cX5_writePerson 42 = .ok (.aload_n 1, 1) := by decide +kernel
theorem dX5_writePerson_43 : decode cX5_writePerson 43 = .ok (.iload_n 2, 1) := by decide +kernel
theorem dX5_writePerson_44 : decode cX5_writePerson 44 = .ok (.iload_n 3, 1) := by decide +kernel
theorem dX5_writePerson_45 : decode cX5_writePerson 45 = .ok (.invokevirtual 41, 3) := by decide +kernel
theorem dX5_writePerson_48 : decode cX5_writePerson 48 = .ok (.ifCond .eq 17, 3) := by decide +kernel
theorem dX5_writePerson_51 : decode cX5_writePerson 51 = .ok (.aload_n 0, 1) := by decide +kernel
theorem dX5_writePerson_52 : decode cX5_writePerson 52 = .ok (.bipush 62, 2) := by decide +kernel
theorem dX5_writePerson_54 : decode cX5_writePerson 54 = .ok (.invokevirtual 24, 3) := by decide +kernel
theorem dX5_writePerson_57 : decode cX5_writePerson 57 = .ok (.aload_n 0, 1) := by decide +kernel
theorem dX5_writePerson_58 : decode cX5_writePerson 58 = .ok (.bipush 48, 2) := by decide +kernel
theorem dX5_writePerson_60 : decode cX5_writePerson 60 = .ok (.iload_n 3, 1) := by decide +kernel
theorem dX5_writePerson_61 : decode cX5_writePerson 61 = .ok (.iadd, 1) := by decide +kernel
theorem dX5_writePerson_62 : decode cX5_writePerson 62 = .ok (.invokevirtual 24, 3) := by decide +kernel
theorem dX5_writePerson_65 : decode cX5_writePerson 65 = .ok (.iinc 3 1, 3) := by decide +kernel
theorem dX5_writePerson_68 : decode cX5_writePerson 68 = .ok (.goto (-34), 3) := by decide +kernel
theorem dX5_writePerson_71 : decode cX5_writePerson 71 = .ok (.return_, 1) := by decide +kernel
theorem dX5_put_0 : decode cX5_put 0 = .ok (.aload_n 0, 1) := by decide +kernel
theorem dX5_put_1 : decode cX5_put 1 = .ok (.getfield 15, 3) := by decide +kernel
theorem dX5_put_4 : decode cX5_put 4 = .ok (.bipush 115, 2) := by decide +kernel
theorem dX5_put_6 : decode cX5_put 6 = .ok (.if_icmp .ge 23, 3) := by decide +kernel
theorem dX5_put_9 : decode cX5_put 9 = .ok (.aload_n 0, 1) := by decide +kernel
theorem dX5_put_10 : decode cX5_put 10 = .ok (.getfield 11, 3) := by decide +kernel
theorem dX5_put_13 : decode cX5_put 13 = .ok (.aload_n 0, 1) := by decide +kernel
theorem dX5_put_14 : decode cX5_put 14 = .ok (.getfield 15, 3) := by decide +kernel
theorem dX5_put_17 : decode cX5_put 17 = .ok (.iload_n 1, 1) := by decide +kernel
theorem dX5_put_18 : decode cX5_put 18 = .ok (.iastore, 1) := by decide +kernel
theorem dX5_put_19 : decode cX5_put 19 = .ok (.aload_n 0, 1) := by decide +kernel
theorem dX5_put_20 : decode cX5_put 20 = .ok (.dup, 1) := by decide +kernel
theorem dX5_put_21 : decode cX5_put 21 = .ok (.getfield 15, 3) := by decide +kernel
theorem dX5_put_24 : decode cX5_put 24 = .ok (.iconst 1, 1) := by decide +kernel
theorem dX5_put_25 : decode cX5_put 25 = .ok (.iadd, 1) := by decide +kernel
theorem dX5_put_26 : decode cX5_put 26 = .ok (.putfield 15, 3) := by decide +kernel
theorem dX5_put_29 : decode cX5_put 29 = .ok (.return_, 1) := by decide +kernel
theorem dJ6_bitCount_0f7a4_0 : decode cJ6_bitCount_0f7a4 0 = .ok (.iload_n 0, 1) := by decide +kernel
theorem dJ6_bitCount_0f7a4_1 : decode cJ6_bitCount_0f7a4 1 = .ok (.iload_n 0, 1) := by decide +kernel
theorem dJ6_bitCount_0f7a4_2 : decode cJ6_bitCount_0f7a4 2 = .ok (.iconst 1, 1) := by decide +kernel
theorem dJ6_bitCount_0f7a4_3 : decode cJ6_bitCount_0f7a4 3 = .ok (.iushr, 1) := by decide +kernel
theorem dJ6_bitCount_0f7a4_4 : decode cJ6_bitCount_0f7a4 4 = .ok (.ldc_w 265, 3) := by decide +kernel
theorem dJ6_bitCount_0f7a4_7 : decode cJ6_bitCount_0f7a4 7 = .ok (.iand, 1) := by decide +kernel
theorem dJ6_bitCount_0f7a4_8 : decode cJ6_bitCount_0f7a4 8 = .ok (.isub, 1) := by decide +kernel
theorem dJ6_bitCount_0f7a4_9 : decode cJ6_bitCount_0f7a4 9 = .ok (.istore_n 0, 1) := by decide +kernel
theorem dJ6_bitCount_0f7a4_10 : decode cJ6_bitCount_0f7a4 10 = .ok (.iload_n 0, 1) := by decide +kernel
theorem dJ6_bitCount_0f7a4_11 : decode cJ6_bitCount_0f7a4 11 = .ok (.ldc_w 266, 3) := by decide +kernel
theorem dJ6_bitCount_0f7a4_14 : decode cJ6_bitCount_0f7a4 14 = .ok (.iand, 1) := by decide +kernel
theorem dJ6_bitCount_0f7a4_15 : decode cJ6_bitCount_0f7a4 15 = .ok (.iload_n 0, 1) := by decide +kernel
theorem dJ6_bitCount_0f7a4_16 : decode cJ6_bitCount_0f7a4 16 = .ok (.iconst 2, 1) := by decide +kernel
theorem dJ6_bitCount_0f7a4_17 : decode cJ6_bitCount_0f7a4 17 = .ok (.iushr, 1) := by decide +kernel
theorem dJ6_bitCount_0f7a4_18 : decode cJ6_bitCount_0f7a4 18 = .ok (.ldc_w 266, 3) := by decide +kernel
theorem dJ6_bitCount_0f7a4_21 : decode cJ6_bitCount_0f7a4 21 = .ok (.iand, 1) := by decide +kernel
theorem dJ6_bitCount_0f7a4_22 : decode cJ6_bitCount_0f7a4 22 = .ok (.iadd, 1) := by decide +kernel
theorem dJ6_bitCount_0f7a4_23 : decode cJ6_bitCount_0f7a4 23 = .ok (.istore_n 0, 1) := by decide +kernel
theorem dJ6_bitCount_0f7a4_24 : decode cJ6_bitCount_0f7a4 24 = .ok (.iload_n 0, 1) := by decide +kernel
theorem dJ6_bitCount_0f7a4_25 : decode cJ6_bitCount_0f7a4 25 = .ok (.iload_n 0, 1) := by decide +kernel
theorem dJ6_bitCount_0f7a4_26 : decode cJ6_bitCount_0f7a4 26 = .ok (.iconst 4, 1) := by decide +kernel
theorem dJ6_bitCount_0f7a4_27 : decode cJ6_bitCount_0f7a4 27 = .ok (.iushr, 1) := by decide +kernel
theorem dJ6_bitCount_0f7a4_28 : decode cJ6_bitCount_0f7a4 28 = .ok (.iadd, 1) := by decide +kernel
theorem dJ6_bitCount_0f7a4_29 : decode cJ6_bitCount_0f7a4 29 = .ok (.ldc_w 267, 3) := by decide +kernel
theorem dJ6_bitCount_0f7a4_32 : decode cJ6_bitCount_0f7a4 32 = .ok (.iand, 1) := by decide +kernel
theorem dJ6_bitCount_0f7a4_33 : decode cJ6_bitCount_0f7a4 33 = .ok (.istore_n 0, 1) := by decide +kernel
theorem dJ6_bitCount_0f7a4_34 : decode cJ6_bitCount_0f7a4 34 = .ok (.iload_n 0, 1) := by decide +kernel
theorem dJ6_bitCount_0f7a4_35 : decode cJ6_bitCount_0f7a4 35 = .ok (.iload_n 0, 1) := by decide +kernel
theorem dJ6_bitCount_0f7a4_36 : decode cJ6_bitCount_0f7a4 36 = .ok (.bipush 8, 2) := by decide +kernel
theorem dJ6_bitCount_0f7a4_38 : decode cJ6_bitCount_0f7a4 38 = .ok (.iushr, 1) := by decide +kernel
theorem dJ6_bitCount_0f7a4_39 : decode cJ6_bitCount_0f7a4 39 = .ok (.iadd, 1) := by decide +kernel
theorem dJ6_bitCount_0f7a4_40 : decode cJ6_bitCount_0f7a4 40 = .ok (.istore_n 0, 1) := by decide +kernel
theorem dJ6_bitCount_0f7a4_41 : decode cJ6_bitCount_0f7a4 41 = .ok (.iload_n 0, 1) := by decide +kernel
theorem dJ6_bitCount_0f7a4_42 : decode cJ6_bitCount_0f7a4 42 = .ok (.iload_n 0, 1) := by decide +kernel
theorem dJ6_bitCount_0f7a4_43 : decode cJ6_bitCount_0f7a4 43 = .ok (.bipush 16, 2) := by decide +kernel
theorem dJ6_bitCount_0f7a4_45 : decode cJ6_bitCount_0f7a4 45 = .ok (.iushr, 1) := by decide +kernel
theorem dJ6_bitCount_0f7a4_46 : decode cJ6_bitCount_0f7a4 46 = .ok (.iadd, 1) := by decide +kernel
theorem dJ6_bitCount_0f7a4_47 : decode cJ6_bitCount_0f7a4 47 = .ok (.istore_n 0, 1) := by decide +kernel
theorem dJ6_bitCount_0f7a4_48 : decode cJ6_bitCount_0f7a4 48 = .ok (.iload_n 0, 1) := by decide +kernel
theorem dJ6_bitCount_0f7a4_49 : decode cJ6_bitCount_0f7a4 49 = .ok (.bipush 63, 2) := by decide +kernel
theorem dJ6_bitCount_0f7a4_51 : decode cJ6_bitCount_0f7a4 51 = .ok (.iand, 1) := by decide +kernel
theorem dJ6_bitCount_0f7a4_52 : decode cJ6_bitCount_0f7a4 52 = .ok (.ireturn, 1) := by decide +kernel
theorem dJ9_max_7cf53_0 : decode cJ9_max_7cf53 0 = .ok (.iload_n 0, 1) := by decide +kernel
theorem dJ9_max_7cf53_1 : decode cJ9_max_7cf53 1 = .ok (.iload_n 1, 1) := by decide +kernel
theorem dJ9_max_7cf53_2 : decode cJ9_max_7cf53 2 = .ok (.if_icmp .lt 7, 3) := by decide +kernel
theorem dJ9_max_7cf53_5 : decode cJ9_max_7cf53 5 = .ok (.iload_n 0, 1) := by decide +kernel
theorem dJ9_max_7cf53_6 : decode cJ9_max_7cf53 6 = .ok (.goto 4, 3) := by decide +kernel
theorem dJ9_max_7cf53_9 : decode cJ9_max_7cf53 9 = .ok (.iload_n 1, 1) := by decide +kernel
theorem dJ9_max_7cf53_10 : decode cJ9_max_7cf53 10 = .ok (.ireturn, 1) := by decide +kernel
theorem dJ9_max_f86c9_0 : decode cJ9_max_f86c9 0 = .ok (.lload_n 0, 1) := by decide +kernel
theorem dJ9_max_f86c9_1 : decode cJ9_max_f86c9 1 = .ok (.lload_n 2, 1) := by decide +kernel
theorem dJ9_max_f86c9_2 : decode cJ9_max_f86c9 2 = .ok (.lcmp, 1) := by decide +kernel
theorem dJ9_max_f86c9_3 : decode cJ9_max_f86c9 3 = .ok (.ifCond .lt 7, 3) := by decide +kernel
theorem dJ9_max_f86c9_6 : decode cJ9_max_f86c9 6 = .ok (.lload_n 0, 1) := by decide +kernel
theorem dJ9_max_f86c9_7 : decode cJ9_max_f86c9 7 = .ok (.goto 4, 3) := by decide +kernel
theorem dJ9_max_f86c9_10 : decode cJ9_max_f86c9 10 = .ok (.lload_n 2, 1) := by decide +kernel
theorem dJ9_max_f86c9_11 : decode cJ9_max_f86c9 11 = .ok (.lreturn, 1) := by decide +kernel
theorem dJ7_fill_d0a16_0 : decode cJ7_fill_d0a16 0 = .ok (.iconst 0, 1) := by decide +kernel
theorem dJ7_fill_d0a16_1 : decode cJ7_fill_d0a16 1 = .ok (.istore_n 3, 1) := by decide +kernel
theorem dJ7_fill_d0a16_2 : decode cJ7_fill_d0a16 2 = .ok (.aload_n 0, 1) := by decide +kernel
theorem dJ7_fill_d0a16_3 : decode cJ7_fill_d0a16 3 = .ok (.arraylength, 1) := by decide +kernel
theorem dJ7_fill_d0a16_4 : decode cJ7_fill_d0a16 4 = .ok (.istore 4, 2) := by decide +kernel
theorem dJ7_fill_d0a16_6 : decode cJ7_fill_d0a16 6 = .ok (.iload_n 3, 1) := by decide +kernel
theorem dJ7_fill_d0a16_7 : decode cJ7_fill_d0a16 7 = .ok (.iload 4, 2) := by decide +kernel
theorem dJ7_fill_d0a16_9 : decode cJ7_fill_d0a16 9 = .ok (.if_icmp .ge 13, 3) := by decide +kernel
theorem dJ7_fill_d0a16_12 : decode cJ7_fill_d0a16 12 = .ok (.aload_n 0, 1) := by decide +kernel
theorem dJ7_fill_d0a16_13 : decode cJ7_fill_d0a16 13 = .ok (.iload_n 3, 1) := by decide +kernel
theorem dJ7_fill_d0a16_14 : decode cJ7_fill_d0a16 14 = .ok (.lload_n 1, 1) := by decide +kernel
theorem dJ7_fill_d0a16_15 : decode cJ7_fill_d0a16 15 = .ok (.lastore, 1) := by decide +kernel
theorem dJ7_fill_d0a16_16 : decode cJ7_fill_d0a16 16 = .ok (.iinc 3 1, 3) := by decide +kernel
theorem dJ7_fill_d0a16_19 : decode cJ7_fill_d0a16 19 = .ok (.goto (-13), 3) := by decide +kernel
theorem dJ7_fill_d0a16_22 : decode cJ7_fill_d0a16 22 = .ok (.return_, 1) := by decide +kernel
theorem dJ7_fill_53178_0 : decode cJ7_fill_53178 0 = .ok (.iconst 0, 1) := by decide +kernel
theorem dJ7_fill_53178_1 : decode cJ7_fill_53178 1 = .ok (.istore_n 2, 1) := by decide +kernel
theorem dJ7_fill_53178_2 : decode cJ7_fill_53178 2 = .ok (.aload_n 0, 1) := by decide +kernel
theorem dJ7_fill_53178_3 : decode cJ7_fill_53178 3 = .ok (.arraylength, 1) := by decide +kernel
theorem dJ7_fill_53178_4 : decode cJ7_fill_53178 4 = .ok (.istore_n 3, 1) := by decide +kernel
theorem dJ7_fill_53178_5 : decode cJ7_fill_53178 5 = .ok (.iload_n 2, 1) := by decide +kernel
theorem dJ7_fill_53178_6 : decode cJ7_fill_53178 6 = .ok (.iload_n 3, 1) := by decide +kernel
theorem dJ7_fill_53178_7 : decode cJ7_fill_53178 7 = .ok (.if_icmp .ge 13, 3) := by decide +kernel
theorem dJ7_fill_53178_10 : decode cJ7_fill_53178 10 = .ok (.aload_n 0, 1) := by decide +kernel
theorem dJ7_fill_53178_11 : decode cJ7_fill_53178 11 = .ok (.iload_n 2, 1) := by decide +kernel
theorem dJ7_fill_53178_12 : decode cJ7_fill_53178 12 = .ok (.iload_n 1, 1) := by decide +kernel
theorem dJ7_fill_53178_13 : decode cJ7_fill_53178 13 = .ok (.iastore, 1) := by decide +kernel
theorem dJ7_fill_53178_14 : decode cJ7_fill_53178 14 = .ok (.iinc 2 1, 3) := by decide +kernel
theorem dJ7_fill_53178_17 : decode cJ7_fill_53178 17 = .ok (.goto (-12), 3) := by decide +kernel
theorem dJ7_fill_53178_20 : decode cJ7_fill_53178 20 = .ok (.return_, 1) := by decide +kernel
