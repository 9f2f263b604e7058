theorem dX0_init_0 : decode cX0_init 0 = .ok (.aload_n 0, 1) := by decide +kernel
theorem dX0_init_1 : decode cX0_init 1 = .ok (.invokespecial 3, 3) := by decide +kernel
theorem dX0_init_4 : decode cX0_init 4 = .ok (.aload_n 0, 1) := by decide +kernel
theorem dX0_init_5 : decode cX0_init 5 = .ok (.bipush 6, 2) := by decide +kernel
theorem dX0_init_7 : decode cX0_init 7 = .ok (.newarray .int, 2) := by decide +kernel
theorem dX0_init_9 : decode cX0_init 9 = .ok (.putfield 9, 3) := by decide +kernel
theorem dX0_init_12 : decode cX0_init 12 = .ok (.aload_n 0, 1) := by decide +kernel
theorem dX0_init_13 : decode cX0_init 13 = .ok (.bipush 26, 2) := by decide +kernel
theorem dX0_init_15 : decode cX0_init 15 = .ok (.newarray .int, 2) := by decide +kernel
theorem dX0_init_17 : decode cX0_init 17 = .ok (.putfield 15, 3) := by decide +kernel
theorem dX0_init_20 : decode cX0_init 20 = .ok (.aload_n 0, 1) := by decide +kernel
theorem dX0_init_21 : decode cX0_init 21 = .ok (.iconst 0, 1) := by decide +kernel
theorem dX0_init_22 : decode cX0_init 22 = .ok (.putfield 18, 3) := by decide +kernel
theorem dX0_init_25 : decode cX0_init 25 = .ok (.return_, 1) := by decide +kernel
theorem dX0_reset_0 : decode cX0_reset 0 = .ok (.aload_n 0, 1) := by decide +kernel
theorem dX0_reset_1 : decode cX0_reset 1 = .ok (.iconst 0, 1) := by decide +kernel
theorem dX0_reset_2 : decode cX0_reset 2 = .ok (.putfield 18, 3) := by decide +kernel
theorem dX0_reset_5 : decode cX0_reset 5 = .ok (.iconst 0, 1) := by decide +kernel
theorem dX0_reset_6 : decode cX0_reset 6 = .ok (.istore_n 1, 1) := by decide +kernel
theorem dX0_reset_7 : decode cX0_reset 7 = .ok (.iload_n 1, 1) := by decide +kernel
theorem dX0_reset_8 : decode cX0_reset 8 = .ok (.bipush 26, 2) := by decide +kernel
theorem dX0_reset_10 : decode cX0_reset 10 = .ok (.if_icmp .ge 18, 3) := by decide +kernel
theorem dX0_reset_13 : decode cX0_reset 13 = .ok (.aload_n 0, 1) := by decide +kernel
theorem dX0_reset_14 : decode cX0_reset 14 = .ok (.getfield 15, 3) := by decide +kernel
theorem dX0_reset_17 : decode cX0_reset 17 = .ok (.iload_n 1, 1) := by decide +kernel
theorem dX0_reset_18 : decode cX0_reset 18 = .ok (.iload_n 1, 1) := by decide +kernel
theorem dX0_reset_19 : decode cX0_reset 19 = .ok (.iconst 1, 1) := by decide +kernel
theorem dX0_reset_20 : decode cX0_reset 20 = .ok (.iadd, 1) := by decide +kernel
theorem dX0_reset_21 : decode cX0_reset 21 = .ok (.iastore, 1) := by decide +kernel
theorem dX0_reset_22 : decode cX0_reset 22 = .ok (.iinc 1 1, 3) := by decide +kernel
theorem dX0_reset_25 : decode cX0_reset 25 = .ok (.goto (-18), 3) := by decide +kernel
theorem dX0_reset_28 : decode cX0_reset 28 = .ok (.return_, 1) := by decide +kernel
theorem dX0_copyFrom_0 : decode cX0_copyFrom 0 = .ok (.aload_n 1, 1) := by decide +kernel
theorem dX0_copyFrom_1 : decode cX0_copyFrom 1 = .ok (.getfield 9, 3) := by decide +kernel
theorem dX0_copyFrom_4 : decode cX0_copyFrom 4 = .ok (.iconst 0, 1) := by decide +kernel
theorem dX0_copyFrom_5 : decode cX0_copyFrom 5 = .ok (.aload_n 0, 1) := by decide +kernel
theorem dX0_copyFrom_6 : decode cX0_copyFrom 6 = .ok (.getfield 9, 3) := by decide +kernel
theorem dX0_copyFrom_9 : decode cX0_copyFrom 9 = .ok (.iconst 0, 1) := by decide +kernel
theorem dX0_copyFrom_10 : decode cX0_copyFrom 10 = .ok (.bipush 6, 2) := by decide +kernel
theorem dX0_copyFrom_12 : decode cX0_copyFrom 12 = .ok (.invokestatic 22, 3) := by decide +kernel
theorem dX0_copyFrom_15 : decode cX0_copyFrom 15 = .ok (.aload_n 1, 1) := by decide +kernel
theorem dX0_copyFrom_16 : decode cX0_copyFrom 16 = .ok (.getfield 15, 3) := by decide +kernel
theorem dX0_copyFrom_19 : decode cX0_copyFrom 19 = .ok (.iconst 0, 1) := by decide +kernel
theorem dX0_copyFrom_20 : decode cX0_copyFrom 20 = .ok (.aload_n 0, 1) := by decide +kernel
theorem dX0_copyFrom_21 : decode cX0_copyFrom 21 = .ok (.getfield 15, 3) := by decide +kernel
theorem dX0_copyFrom_24 : decode cX0_copyFrom 24 = .ok (.iconst 0, 1) := by decide +kernel
theorem dX0_copyFrom_25 : decode cX0_copyFrom 25 = .ok (.bipush 26, 2) := by decide +kernel
theorem dX0_copyFrom_27 : decode cX0_copyFrom 27 = .ok (.invokestatic 22, 3) := by decide +kernel
theorem dX0_copyFrom_30 : decode cX0_copyFrom 30 = .ok (.aload_n 0, 1) := by decide +kernel
theorem dX0_copyFrom_31 : decode cX0_copyFrom 31 = .ok (.aload_n 1, 1) := by decide +kernel
theorem dX0_copyFrom_32 : decode cX0_copyFrom 32 = .ok (.getfield 18, 3) := by decide +kernel
theorem dX0_copyFrom_35 : decode cX0_copyFrom 35 = .ok (.putfield 18, 3) := by decide +kernel
theorem dX0_copyFrom_38 : decode cX0_copyFrom 38 = .ok (.return_, 1) := by decide +kernel
theorem dX0_insert_0 : decode cX0_insert 0 = .ok (.aload_n 0, 1) := by decide +kernel
theorem dX0_insert_1 : decode cX0_insert 1 = .ok (.getfield 18, 3) := by decide +kernel
theorem dX0_insert_4 : decode cX0_insert 4 = .ok (.istore_n 3, 1) := by decide +kernel
theorem dX0_insert_5 : decode cX0_insert 5 = .ok (.iload_n 3, 1) := by decide +kernel
theorem dX0_insert_6 : decode cX0_insert 6 = .ok (.iload_n 1, 1) := by decide +kernel
theorem dX0_insert_7 : decode cX0_insert 7 = .ok (.if_icmp .le 23, 3) := by decide +kernel
theorem dX0_insert_10 : decode cX0_insert 10 = .ok (.aload_n 0, 1) := by decide +kernel
theorem dX0_insert_11 : decode cX0_insert 11 = .ok (.getfield 9, 3) := by decide +kernel
theorem dX0_insert_14 : decode cX0_insert 14 = .ok (.iload_n 3, 1) := by decide +kernel
theorem dX0_insert_15 : decode cX0_insert 15 = .ok (.aload_n 0, 1) := by decide +kernel
theorem dX0_insert_16 : decode cX0_insert 16 = .ok (.getfield 9, 3) := by decide +kernel
theorem dX0_insert_19 : decode cX0_insert 19 = .ok (.iload_n 3, 1) := by decide +kernel
theorem dX0_insert_20 : decode cX0_insert 20 = .ok (.iconst 1, 1) := by decide +kernel
theorem dX0_insert_21 : decode cX0_insert 21 = .ok (.isub, 1) := by decide +kernel
theorem dX0_insert_22 : decode cX0_insert 22 = .ok (.iaload, 1) := by decide +kernel
theorem dX0_insert_23 : decode cX0_insert 23 = .ok (.iastore, 1) := by decide +kernel
theorem dX0_insert_24 : decode cX0_insert 24 = .ok (.iinc 3 (-1), 3) := by decide +kernel
theorem dX0_insert_27 : decode cX0_insert 27 = .ok (.goto (-22), 3) := by decide +kernel
theorem dX0_insert_30 : decode cX0_insert 30 = .ok (.aload_n 0, 1) := by decide +kernel
theorem dX0_insert_31 : decode cX0_insert 31 = .ok (.getfield 9, 3) := by decide +kernel
theorem dX0_insert_34 : decode cX0_insert 34 = .ok (.iload_n 1, 1) := by decide +kernel
theorem dX0_insert_35 : decode cX0_insert 35 = .ok (.iload_n 2, 1) := by decide +kernel
theorem dX0_insert_36 : decode cX0_insert 36 = .ok (.iastore, 1) := by decide +kernel
theorem dX0_insert_37 : decode cX0_insert 37 = .ok (.aload_n 0, 1) := by decide +kernel
theorem dX0_insert_38 : decode cX0_insert 38 = .ok (.dup, 1) := by decide +kernel
theorem dX0_insert_39 : decode cX0_insert 39 = .ok (.getfield 18, 3) := by decide +kernel
theorem dX0_insert_42 : decode cX0_insert 42 = .ok (.iconst 1, 1) := by decide +kernel
theorem dX0_insert_43 : decode cX0_insert 43 = .ok (.iadd, 1) := by decide +kernel
theorem dX0_insert_44 : decode cX0_insert 44 = .ok (.putfield 18, 3) := by decide +kernel
theorem dX0_insert_47 : decode cX0_insert 47 = .ok (.return_, 1) := by decide +kernel
theorem dX0_delete_0 : decode cX0_delete 0 = .ok (.aload_n 0, 1) := by decide +kernel
theorem dX0_delete_1 : decode cX0_delete 1 = .ok (.dup, 1) := by decide +kernel
theorem dX0_delete_2 : decode cX0_delete 2 = .ok (.getfield 18, 3) := by decide +kernel
theorem dX0_delete_5 : decode cX0_delete 5 = .ok (.iconst 1, 1) := by decide +kernel
theorem dX0_delete_6 : decode cX0_delete 6 = .ok (.isub, 1) := by decide +kernel
theorem dX0_delete_7 : decode cX0_delete 7 = .ok (.putfield 18, 3) := by decide +kernel
theorem dX0_delete_10 : decode cX0_delete 10 = .ok (.iload_n 1, 1) := by decide +kernel
theorem dX0_delete_11 : decode cX0_delete 11 = .ok (.istore_n 2, 1) := by decide +kernel
theorem dX0_delete_12 : decode cX0_delete 12 = .ok (.iload_n 2, 1) := by decide +kernel
theorem dX0_delete_13 : decode cX0_delete 13 = .ok (.aload_n 0, 1) := by decide +kernel
theorem dX0_delete_14 : decode cX0_delete 14 = .ok (.getfield 18, 3) := by decide +kernel
theorem dX0_delete_17 : decode cX0_delete 17 = .ok (.if_icmp .ge 23, 3) := by decide +kernel
theorem dX0_delete_20 : decode cX0_delete 20 = .ok (.aload_n 0, 1) := by decide +kernel
theorem dX0_delete_21 : decode cX0_delete 21 = .ok (.getfield 9, 3) := by decide +kernel
theorem dX0_delete_24 : decode cX0_delete 24 = .ok (.iload_n 2, 1) := by decide +kernel
theorem dX0_delete_25 : decode cX0_delete 25 = .ok (.aload_n 0, 1) := by decide +kernel
theorem dX0_delete_26 : decode cX0_delete 26 = .ok (.getfield 9, 3) := by decide +kernel
theorem dX0_delete_29 : decode cX0_delete 29 = .ok (.iload_n 2, 1) := by decide +kernel
theorem dX0_delete_30 : decode cX0_delete 30 = .ok (.iconst 1, 1) := by decide +kernel
theorem dX0_delete_31 : decode cX0_delete 31 = .ok (.iadd, 1) := by decide +kernel
theorem dX0_delete_32 : decode cX0_delete 32 = .ok (.iaload, 1) := by decide +kernel
theorem dX0_delete_33 : decode cX0_delete 33 = .ok (.iastore, 1) := by decide +kernel
theorem dX0_delete_34 : decode cX0_delete 34 = .ok (.iinc 2 1, 3) := by decide +kernel
theorem dX0_delete_37 : decode cX0_delete 37 = .ok (.goto (-25), 3) := by decide +kernel
theorem dX0_delete_40 : decode cX0_delete 40 = .ok (.return_, 1) := by decide +kernel
theorem dX0_swapWithNext_0 : decode cX0_swapWithNext 0 = .ok (.aload_n 0, 1) := by decide +kernel
theorem dX0_swapWithNext_1 : decode cX0_swapWithNext 1 = .ok (.getfield 9, 3) := by decide +kernel
theorem dX0_swapWithNext_4 : decode cX0_swapWithNext 4 = .ok (.iload_n 1, 1) := by decide +kernel
theorem dX0_swapWithNext_5 : decode cX0_swapWithNext 5 = .ok (.iaload, 1) := by decide +kernel
theorem dX0_swapWithNext_6 : decode cX0_swapWithNext 6 = .ok (.istore_n 2, 1) := by decide +kernel
theorem dX0_swapWithNext_7 : decode cX0_swapWithNext 7 = .ok (.aload_n 0, 1) := by decide +kernel
theorem dX0_swapWithNext_8 : decode cX0_swapWithNext 8 = .ok (.getfield 9, 3) := by decide +kernel
theorem dX0_swapWithNext_11 : decode cX0_swapWithNext 11 = .ok (.iload_n 1, 1) := by decide +kernel
theorem dX0_swapWithNext_12 : decode cX0_swapWithNext 12 = .ok (.aload_n 0, 1) := by decide +kernel
theorem dX0_swapWithNext_13 : decode cX0_swapWithNext 13 = .ok (.getfield 9, 3) := by decide +kernel
theorem dX0_swapWithNext_16 : decode cX0_swapWithNext 16 = .ok (.iload_n 1, 1) := by decide +kernel
theorem dX0_swapWithNext_17 : decode cX0_swapWithNext 17 = .ok (.iconst 1, 1) := by decide +kernel
theorem dX0_swapWithNext_18 : decode cX0_swapWithNext 18 = .ok (.iadd, 1) := by decide +kernel
theorem dX0_swapWithNext_19 : decode cX0_swapWithNext 19 = .ok (.iaload, 1) := by decide +kernel
theorem dX0_swapWithNext_20 : decode cX0_swapWithNext 20 = .ok (.iastore, 1) := by decide +kernel
theorem dX0_swapWithNext_21 : decode cX0_swapWithNext 21 = .ok (.aload_n 0, 1) := by decide +kernel
theorem dX0_swapWithNext_22 : decode cX0_swapWithNext 22 = .ok (.getfield 9, 3) := by decide +kernel
theorem dX0_swapWithNext_25 : decode cX0_swapWithNext 25 = .ok (.iload_n 1, 1) := by decide +kernel
theorem dX0_swapWithNext_26 : decode cX0_swapWithNext 26 = .ok (.iconst 1, 1) := by decide +kernel
theorem dX0_swapWithNext_27 : decode cX0_swapWithNext 27 = .ok (.iadd, 1) := by decide +kernel
theorem dX0_swapWithNext_28 : decode cX0_swapWithNext 28 = .ok (.iload_n 2, 1) := by decide +kernel
theorem dX0_swapWithNext_29 : decode cX0_swapWithNext 29 = .ok (.iastore, 1) := by decide +kernel
theorem dX0_swapWithNext_30 : decode cX0_swapWithNext 30 = .ok (.return_, 1) := by decide +kernel
theorem dX1_of_0 : decode cX1_of 0 = .ok (.iload_n 3, 1) := by decide +kernel
theorem dX1_of_1 : decode cX1_of 1 = .ok (.ifCond .eq 7, 3) := by decide +kernel
theorem dX1_of_4 : decode cX1_of 4 = .ok (.iconst 1, 1) := by decide +kernel
theorem dX1_of_5 : decode cX1_of 5 = .ok (.goto 4, 3) := by decide +kernel
theorem dX1_of_8 : decode cX1_of 8 = .ok (.iconst 0, 1) := by decide +kernel
theorem dX1_of_9 : decode cX1_of 9 = .ok (.istore 4, 2) := by decide +kernel
theorem dX1_of_11 : decode cX1_of 11 = .ok (.iload_n 0, 1) := by decide +kernel
theorem dX1_of_12 : decode cX1_of 12 = .ok (.iload_n 1, 1) := by decide +kernel
theorem dX1_of_13 : decode cX1_of 13 = .ok (.iconst 4, 1) := by decide +kernel
theorem dX1_of_14 : decode cX1_of 14 = .ok (.ishl, 1) := by decide +kernel
theorem dX1_of_15 : decode cX1_of 15 = .ok (.ior, 1) := by decide +kernel
theorem dX1_of_16 : decode cX1_of 16 = .ok (.iload_n 2, 1) := by decide +kernel
theorem dX1_of_17 : decode cX1_of 17 = .ok (.bipush 8, 2) := by decide +kernel
theorem dX1_of_19 : decode cX1_of 19 = .ok (.ishl, 1) := by decide +kernel
theorem dX1_of_20 : decode cX1_of 20 = .ok (.ior, 1) := by decide +kernel
theorem dX1_of_21 : decode cX1_of 21 = .ok (.iload 4, 2) := by decide +kernel
theorem dX1_of_23 : decode cX1_of 23 = .ok (.bipush 12, 2) := by decide +kernel
theorem dX1_of_25 : decode cX1_of 25 = .ok (.ishl, 1) := by decide +kernel
theorem dX1_of_26 : decode cX1_of 26 = .ok (.ior, 1) := by decide +kernel
theorem dX1_of_27 : decode cX1_of 27 = .ok (.ireturn, 1) := by decide +kernel
theorem dX1_kind_0 : decode cX1_kind 0 = .ok (.iload_n 0, 1) := by decide +kernel
theorem dX1_kind_1 : decode cX1_kind 1 = .ok (.bipush 15, 2) := by decide +kernel
theorem dX1_kind_3 : decode cX1_kind 3 = .ok (.iand, 1) := by decide +kernel
theorem dX1_kind_4 : decode cX1_kind 4 = .ok (.ireturn, 1) := by decide +kernel
theorem dX1_symbol_0 : decode cX1_symbol 0 = .ok (.iload_n 0, 1) := by decide +kernel
theorem dX1_symbol_1 : decode cX1_symbol 1 = .ok (.iconst 4, 1) := by decide +kernel
theorem dX1_symbol_2 : decode cX1_symbol 2 = .ok (.ishr, 1) := by decide +kernel
theorem dX1_symbol_3 : decode cX1_symbol 3 = .ok (.bipush 15, 2) := by decide +kernel
theorem dX1_symbol_5 : decode cX1_symbol 5 = .ok (.iand, 1) := by decide +kernel
theorem dX1_symbol_6 : decode cX1_symbol 6 = .ok (.ireturn, 1) := by decide +kernel
theorem dX1_childSymbol_0 : decode cX1_childSymbol 0 = .ok (.iload_n 0, 1) := by decide +kernel
theorem dX1_childSymbol_1 : decode cX1_childSymbol 1 = .ok (.bipush 8, 2) := by decide +kernel
theorem dX1_childSymbol_3 : decode cX1_childSymbol 3 = .ok (.ishr, 1) := by decide +kernel
theorem dX1_childSymbol_4 : decode cX1_childSymbol 4 = .ok (.bipush 15, 2) := by decide +kernel
theorem dX1_childSymbol_6 : decode cX1_childSymbol 6 = .ok (.iand, 1) := by decide +kernel
theorem dX1_childSymbol_7 : decode cX1_childSymbol 7 = .ok (.ireturn, 1) := by decide +kernel
theorem dX1_isRightSide_0 : decode cX1_isRightSide 0 = .ok (.iload_n 0, 1) := by decide +kernel
theorem dX1_isRightSide_1 : decode cX1_isRightSide 1 = .ok (.bipush 12, 2) := by decide +kernel
theorem dX1_isRightSide_3 : decode cX1_isRightSide 3 = .ok (.ishr, 1) := by decide +kernel
theorem dX1_isRightSide_4 : decode cX1_isRightSide 4 = .ok (.bipush 15, 2) := by decide +kernel
theorem dX1_isRightSide_6 : decode cX1_isRightSide 6 = .ok (.iand, 1) := by decide +kernel
theorem dX1_isRightSide_7 : decode cX1_isRightSide 7 = .ok (.iconst 1, 1) := by decide +kernel
theorem dX1_isRightSide_8 : decode cX1_isRightSide 8 = .ok (.if_icmp .ne 7, 3) := by decide +kernel
theorem dX1_isRightSide_11 : decode cX1_isRightSide 11 = .ok (.iconst 1, 1) := by decide +kernel
theorem dX1_isRightSide_12 : decode cX1_isRightSide 12 = .ok (.goto 4, 3) := by decide +kernel
theorem dX1_isRightSide_15 : decode cX1_isRightSide 15 = .ok (.iconst 0, 1) := by decide +kernel
theorem dX1_isRightSide_16 : decode cX1_isRightSide 16 = .ok (.ireturn, 1) := by decide +kernel
theorem dX1_forbids_0 : decode cX1_forbids 0 = .ok (.aload_n 1, 1) := by decide +kernel
theorem dX1_forbids_1 : decode cX1_forbids 1 = .ok (.getfield 11, 3) := by decide +kernel
theorem dX1_forbids_4 : decode cX1_forbids 4 = .ok (.iload_n 2, 1) := by decide +kernel
theorem dX1_forbids_5 : decode cX1_forbids 5 = .ok (.iaload, 1) := by decide +kernel
theorem dX1_forbids_6 : decode cX1_forbids 6 = .ok (.istore 5, 2) := by decide +kernel
theorem dX1_forbids_8 : decode cX1_forbids 8 = .ok (.aload_n 1, 1) := by decide +kernel
theorem dX1_forbids_9 : decode cX1_forbids 9 = .ok (.getfield 11, 3) := by decide +kernel
theorem dX1_forbids_12 : decode cX1_forbids 12 = .ok (.iload_n 3, 1) := by decide +kernel
theorem dX1_forbids_13 : decode cX1_forbids 13 = .ok (.iaload, 1) := by decide +kernel
theorem dX1_forbids_14 : decode cX1_forbids 14 = .ok (.istore 6, 2) := by decide +kernel
theorem dX1_forbids_16 : decode cX1_forbids 16 = .ok (.aload_n 1, 1) := by decide +kernel
theorem dX1_forbids_17 : decode cX1_forbids 17 = .ok (.getfield 17, 3) := by decide +kernel
theorem dX1_forbids_20 : decode cX1_forbids 20 = .ok (.iload 5, 2) := by decide +kernel
theorem dX1_forbids_22 : decode cX1_forbids 22 = .ok (.iaload, 1) := by decide +kernel
theorem dX1_forbids_23 : decode cX1_forbids 23 = .ok (.istore 7, 2) := by decide +kernel
theorem dX1_forbids_25 : decode cX1_forbids 25 = .ok (.aload_n 1, 1) := by decide +kernel
theorem dX1_forbids_26 : decode cX1_forbids 26 = .ok (.getfield 17, 3) := by decide +kernel
theorem dX1_forbids_29 : decode cX1_forbids 29 = .ok (.iload 6, 2) := by decide +kernel
theorem dX1_forbids_31 : decode cX1_forbids 31 = .ok (.iaload, 1) := by decide +kernel
theorem dX1_forbids_32 : decode cX1_forbids 32 = .ok (.istore 8, 2) := by decide +kernel
theorem dX1_forbids_34 : decode cX1_forbids 34 = .ok (.iload_n 0, 1) := by decide +kernel
theorem dX1_forbids_35 : decode cX1_forbids 35 = .ok (.invokestatic 20, 3) := by decide +kernel
theorem dX1_forbids_38 : decode cX1_forbids 38 = .ok (.tableswitch 109 0 2 #[26, 39, 76], 26) := by decide +kernel
theorem dX1_forbids_64 : decode cX1_forbids 64 = .ok (.iload 8, 2) := by decide +kernel
theorem dX1_forbids_66 : decode cX1_forbids 66 = .ok (.iload 7, 2) := by decide +kernel
theorem dX1_forbids_68 : decode cX1_forbids 68 = .ok (.if_icmp .ge 7, 3) := by decide +kernel
theorem dX1_forbids_71 : decode cX1_forbids 71 = .ok (.iconst 1, 1) := by decide +kernel
theorem dX1_forbids_72 : decode cX1_forbids 72 = .ok (.goto 4, 3) := by decide +kernel
theorem dX1_forbids_75 : decode cX1_forbids 75 = .ok (.iconst 0, 1) := by decide +kernel
theorem dX1_forbids_76 : decode cX1_forbids 76 = .ok (.ireturn, 1) := by decide +kernel
theorem dX1_forbids_77 : decode cX1_forbids 77 = .ok (.iload 4, 2) := by decide +kernel
theorem dX1_forbids_79 : decode cX1_forbids 79 = .ok (.ifCond .eq 7, 3) := by decide +kernel
theorem dX1_forbids_82 : decode cX1_forbids 82 = .ok (.iconst 1, 1) := by decide +kernel
theorem dX1_forbids_83 : decode cX1_forbids 83 = .ok (.goto 4, 3) := by decide +kernel
theorem dX1_forbids_86 : decode cX1_forbids 86 = .ok (.iconst 0, 1) := by decide +kernel
theorem dX1_forbids_87 : decode cX1_forbids 87 = .ok (.istore 9, 2) := by decide +kernel
theorem dX1_forbids_89 : decode cX1_forbids 89 = .ok (.iload 8, 2) := by decide +kernel
theorem dX1_forbids_91 : decode cX1_forbids 91 = .ok (.iload 7, 2) := by decide +kernel
theorem dX1_forbids_93 : decode cX1_forbids 93 = .ok (.if_icmp .ne 19, 3) := by decide +kernel
theorem dX1_forbids_96 : decode cX1_forbids 96 = .ok (.aload_n 1, 1) := by decide +kernel
theorem dX1_forbids_97 : decode cX1_forbids 97 = .ok (.getfield 24, 3) := by decide +kernel
theorem dX1_forbids_100 : decode cX1_forbids 100 = .ok (.iload 5, 2) := by decide +kernel
theorem dX1_forbids_102 : decode cX1_forbids 102 = .ok (.iaload, 1) := by decide +kernel
theorem dX1_forbids_103 : decode cX1_forbids 103 = .ok (.iload 9, 2) := by decide +kernel
theorem dX1_forbids_105 : decode cX1_forbids 105 = .ok (.if_icmp .eq 7, 3) := by decide +kernel
theorem dX1_forbids_108 : decode cX1_forbids 108 = .ok (.iconst 1, 1) := by decide +kernel
theorem dX1_forbids_109 : decode cX1_forbids 109 = .ok (.goto 4, 3) := by decide +kernel
theorem dX1_forbids_112 : decode cX1_forbids 112 = .ok (.iconst 0, 1) := by decide +kernel
theorem dX1_forbids_113 : decode cX1_forbids 113 = .ok (.ireturn, 1) := by decide +kernel
theorem dX1_forbids_114 : decode cX1_forbids 114 = .ok (.iload 4, 2) := by decide +kernel
theorem dX1_forbids_116 : decode cX1_forbids 116 = .ok (.iload_n 0, 1) := by decide +kernel
theorem dX1_forbids_117 : decode cX1_forbids 117 = .ok (.invokestatic 27, 3) := by decide +kernel
theorem dX1_forbids_120 : decode cX1_forbids 120 = .ok (.if_icmp .ne 25, 3) := by decide +kernel
theorem dX1_forbids_123 : decode cX1_forbids 123 = .ok (.iload 5, 2) := by decide +kernel
theorem dX1_forbids_125 : decode cX1_forbids 125 = .ok (.iload_n 0, 1) := by decide +kernel
theorem dX1_forbids_126 : decode cX1_forbids 126 = .ok (.invokestatic 31, 3) := by decide +kernel
theorem dX1_forbids_129 : decode cX1_forbids 129 = .ok (.if_icmp .ne 16, 3) := by decide +kernel
theorem dX1_forbids_132 : decode cX1_forbids 132 = .ok (.iload 6, 2) := by decide +kernel
theorem dX1_forbids_134 : decode cX1_forbids 134 = .ok (.iload_n 0, 1) := by decide +kernel
theorem dX1_forbids_135 : decode cX1_forbids 135 = .ok (.invokestatic 34, 3) := by decide +kernel
theorem dX1_forbids_138 : decode cX1_forbids 138 = .ok (.if_icmp .ne 7, 3) := by decide +kernel
theorem dX1_forbids_141 : decode cX1_forbids 141 = .ok (.iconst 1, 1) := by decide +kernel
theorem dX1_forbids_142 : decode cX1_forbids 142 = .ok (.goto 4, 3) := by decide +kernel
theorem dX1_forbids_145 : decode cX1_forbids 145 = .ok (.iconst 0, 1) := by decide +kernel
theorem dX1_forbids_146 : decode cX1_forbids 146 = .ok (.ireturn, 1) := by decide +kernel
theorem dX1_forbids_147 : decode cX1_forbids 147 = .ok (.iconst 0, 1) := by decide +kernel
theorem dX1_forbids_148 : decode cX1_forbids 148 = .ok (.ireturn, 1) := by decide +kernel
theorem dX2_init_0 : decode cX2_init 0 = .ok (.aload_n 0, 1) := by decide +kernel
theorem dX2_init_1 : decode cX2_init 1 = .ok (.invokespecial 3, 3) := by decide +kernel
theorem dX2_init_4 : decode cX2_init 4 = .ok (.aload_n 0, 1) := by decide +kernel
theorem dX2_init_5 : decode cX2_init 5 = .ok (.iconst 0, 1) := by decide +kernel
theorem dX2_init_6 : decode cX2_init 6 = .ok (.putfield 9, 3) := by decide +kernel
theorem dX2_init_9 : decode cX2_init 9 = .ok (.aload_n 0, 1) := by decide +kernel
theorem dX2_init_10 : decode cX2_init 10 = .ok (.bipush 121, 2) := by decide +kernel
theorem dX2_init_12 : decode cX2_init 12 = .ok (.newarray .int, 2) := by decide +kernel
theorem dX2_init_14 : decode cX2_init 14 = .ok (.putfield 15, 3) := by decide +kernel
theorem dX2_init_17 : decode cX2_init 17 = .ok (.aload_n 0, 1) := by decide +kernel
theorem dX2_init_18 : decode cX2_init 18 = .ok (.bipush 10, 2) := by decide +kernel
theorem dX2_init_20 : decode cX2_init 20 = .ok (.newarray .int, 2) := by decide +kernel
theorem dX2_init_22 : decode cX2_init 22 = .ok (.putfield 19, 3) := by decide +kernel
theorem dX2_init_25 : decode cX2_init 25 = .ok (.aload_n 0, 1) := by decide +kernel
theorem dX2_init_26 : decode cX2_init 26 = .ok (.bipush 10, 2) := by decide +kernel
theorem dX2_init_28 : decode cX2_init 28 = .ok (.newarray .int, 2) := by decide +kernel
theorem dX2_init_30 : decode cX2_init 30 = .ok (.putfield 22, 3) := by decide +kernel
theorem dX2_init_33 : decode cX2_init 33 = .ok (.aload_n 0, 1) := by decide +kernel
theorem dX2_init_34 : decode cX2_init 34 = .ok (.sipush 1210, 3) := by decide +kernel
theorem dX2_init_37 : decode cX2_init 37 = .ok (.newarray .int, 2) := by decide +kernel
theorem dX2_init_39 : decode cX2_init 39 = .ok (.putfield 25, 3) := by decide +kernel
theorem dX2_init_42 : decode cX2_init 42 = .ok (.return_, 1) := by decide +kernel
theorem dX2_reset_0 : decode cX2_reset 0 = .ok (.aload_n 0, 1) := by decide +kernel
theorem dX2_reset_1 : decode cX2_reset 1 = .ok (.iload_n 1, 1) := by decide +kernel
theorem dX2_reset_2 : decode cX2_reset 2 = .ok (.putfield 9, 3) := by decide +kernel
theorem dX2_reset_5 : decode cX2_reset 5 = .ok (.aload_n 0, 1) := by decide +kernel
theorem dX2_reset_6 : decode cX2_reset 6 = .ok (.getfield 15, 3) := by decide +kernel
theorem dX2_reset_9 : decode cX2_reset 9 = .ok (.iconst (-1), 1) := by decide +kernel
theorem dX2_reset_10 : decode cX2_reset 10 = .ok (.invokestatic 28, 3) := by decide +kernel
theorem dX2_reset_13 : decode cX2_reset 13 = .ok (.aload_n 0, 1) := by decide +kernel
theorem dX2_reset_14 : decode cX2_reset 14 = .ok (.getfield 19, 3) := by decide +kernel
theorem dX2_reset_17 : decode cX2_reset 17 = .ok (.iconst (-1), 1) := by decide +kernel
theorem dX2_reset_18 : decode cX2_reset 18 = .ok (.invokestatic 28, 3) := by decide +kernel
theorem dX2_reset_21 : decode cX2_reset 21 = .ok (.aload_n 0, 1) := by decide +kernel
theorem dX2_reset_22 : decode cX2_reset 22 = .ok (.getfield 22, 3) := by decide +kernel
theorem dX2_reset_25 : decode cX2_reset 25 = .ok (.iconst (-1), 1) := by decide +kernel
theorem dX2_reset_26 : decode cX2_reset 26 = .ok (.invokestatic 28, 3) := by decide +kernel
theorem dX2_reset_29 : decode cX2_reset 29 = .ok (.return_, 1) := by decide +kernel
theorem dX2_apply_0 : decode cX2_apply 0 = .ok (.iload_n 2, 1) := by decide +kernel
theorem dX2_apply_1 : decode cX2_apply 1 = .ok (.invokestatic 34, 3) := by decide +kernel
theorem dX2_apply_4 : decode cX2_apply 4 = .ok (.lookupswitch 60 #[(3, 28), (4, 43)], 28) := by decide +kernel
theorem dX2_apply_32 : decode cX2_apply 32 = .ok (.aload_n 0, 1) := by decide +kernel
theorem dX2_apply_33 : decode cX2_apply 33 = .ok (.aload_n 1, 1) := by decide +kernel
theorem dX2_apply_34 : decode cX2_apply 34 = .ok (.iload_n 2, 1) := by decide +kernel
theorem dX2_apply_35 : decode cX2_apply 35 = .ok (.invokestatic 40, 3) := by decide +kernel
theorem dX2_apply_38 : decode cX2_apply 38 = .ok (.invokevirtual 43, 3) := by decide +kernel
theorem dX2_apply_41 : decode cX2_apply 41 = .ok (.invokevirtual 48, 3) := by decide +kernel
theorem dX2_apply_44 : decode cX2_apply 44 = .ok (.goto 26, 3) := by decide +kernel
theorem dX2_apply_47 : decode cX2_apply 47 = .ok (.aload_n 0, 1) := by decide +kernel
theorem dX2_apply_48 : decode cX2_apply 48 = .ok (.aload_n 1, 1) := by decide +kernel
theorem dX2_apply_49 : decode cX2_apply 49 = .ok (.iload_n 2, 1) := by decide +kernel
theorem dX2_apply_50 : decode cX2_apply 50 = .ok (.invokestatic 40, 3) := by decide +kernel
theorem dX2_apply_53 : decode cX2_apply 53 = .ok (.invokevirtual 43, 3) := by decide +kernel
theorem dX2_apply_56 : decode cX2_apply 56 = .ok (.iconst (-1), 1) := by decide +kernel
theorem dX2_apply_57 : decode cX2_apply 57 = .ok (.ixor, 1) := by decide +kernel
theorem dX2_apply_58 : decode cX2_apply 58 = .ok (.invokevirtual 48, 3) := by decide +kernel
theorem dX2_apply_61 : decode cX2_apply 61 = .ok (.goto 9, 3) := by decide +kernel
theorem dX2_apply_64 : decode cX2_apply 64 = .ok (.aload_n 0, 1) := by decide +kernel
theorem dX2_apply_65 : decode cX2_apply 65 = .ok (.aload_n 1, 1) := by decide +kernel
theorem dX2_apply_66 : decode cX2_apply 66 = .ok (.iload_n 2, 1) := by decide +kernel
theorem dX2_apply_67 : decode cX2_apply 67 = .ok (.invokevirtual 52, 3) := by decide +kernel
theorem dX2_apply_70 : decode cX2_apply 70 = .ok (.return_, 1) := by decide +kernel
theorem dX2_forbidChildren_0 : decode cX2_forbidChildren 0 = .ok (.iconst 0, 1) := by decide +kernel
theorem dX2_forbidChildren_1 : decode cX2_forbidChildren 1 = .ok (.istore_n 3, 1) := by decide +kernel
theorem dX2_forbidChildren_2 : decode cX2_forbidChildren 2 = .ok (.iload_n 3, 1) := by decide +kernel
theorem dX2_forbidChildren_3 : decode cX2_forbidChildren 3 = .ok (.aload_n 0, 1) := by decide +kernel
theorem dX2_forbidChildren_4 : decode cX2_forbidChildren 4 = .ok (.getfield 9, 3) := by decide +kernel
theorem dX2_forbidChildren_7 : decode cX2_forbidChildren 7 = .ok (.if_icmp .ge 81, 3) := by decide +kernel
theorem dX2_forbidChildren_10 : decode cX2_forbidChildren 10 = .ok (.iconst 0, 1) := by decide +kernel
theorem dX2_forbidChildren_11 : decode cX2_forbidChildren 11 = .ok (.istore 4, 2) := by decide +kernel
theorem dX2_forbidChildren_13 : decode cX2_forbidChildren 13 = .ok (.iload 4, 2) := by decide +kernel
theorem dX2_forbidChildren_15 : decode cX2_forbidChildren 15 = .ok (.aload_n 0, 1) := by decide +kernel
theorem dX2_forbidChildren_16 : decode cX2_forbidChildren 16 = .ok (.getfield 9, 3) := by decide +kernel
theorem dX2_forbidChildren_19 : decode cX2_forbidChildren 19 = .ok (.if_icmp .ge 63, 3) := by decide +kernel
theorem dX2_forbidChildren_22 : decode cX2_forbidChildren 22 = .ok (.iload_n 2, 1) := by decide +kernel
theorem dX2_forbidChildren_23 : decode cX2_forbidChildren 23 = .ok (.aload_n 1, 1) := by decide +kernel
theorem dX2_forbidChildren_24 : decode cX2_forbidChildren 24 = .ok (.iload_n 3, 1) := by decide +kernel
theorem dX2_forbidChildren_25 : decode cX2_forbidChildren 25 = .ok (.iload 4, 2) := by decide +kernel
theorem dX2_forbidChildren_27 : decode cX2_forbidChildren 27 = .ok (.iconst 0, 1) := by decide +kernel
theorem dX2_forbidChildren_28 : decode cX2_forbidChildren 28 = .ok (.invokestatic 56, 3) := by decide +kernel
theorem dX2_forbidChildren_31 : decode cX2_forbidChildren 31 = .ok (.ifCond .eq 18, 3) := by decide +kernel
theorem dX2_forbidChildren_34 : decode cX2_forbidChildren 34 = .ok (.aload_n 0, 1) := by decide +kernel
theorem dX2_forbidChildren_35 : decode cX2_forbidChildren 35 = .ok (.getfield 19, 3) := by decide +kernel
theorem dX2_forbidChildren_38 : decode cX2_forbidChildren 38 = .ok (.iload_n 3, 1) := by decide +kernel
theorem dX2_forbidChildren_39 : decode cX2_forbidChildren 39 = .ok (.dup2, 1) := by decide +kernel
theorem dX2_forbidChildren_40 : decode cX2_forbidChildren 40 = .ok (.iaload, 1) := by decide +kernel
theorem dX2_forbidChildren_41 : decode cX2_forbidChildren 41 = .ok (.iconst 1, 1) := by decide +kernel
theorem dX2_forbidChildren_42 : decode cX2_forbidChildren 42 = .ok (.iload 4, 2) := by decide +kernel
theorem dX2_forbidChildren_44 : decode cX2_forbidChildren 44 = .ok (.ishl, 1) := by decide +kernel
theorem dX2_forbidChildren_45 : decode cX2_forbidChildren 45 = .ok (.iconst (-1), 1) := by decide +kernel
theorem dX2_forbidChildren_46 : decode cX2_forbidChildren 46 = .ok (.ixor, 1) := by decide +kernel
theorem dX2_forbidChildren_47 : decode cX2_forbidChildren 47 = .ok (.iand, 1) := by decide +kernel
theorem dX2_forbidChildren_48 : decode cX2_forbidChildren 48 = .ok (.iastore, 1) := by decide +kernel
theorem dX2_forbidChildren_49 : decode cX2_forbidChildren 49 = .ok (.iload_n 2, 1) := by decide +kernel
theorem dX2_forbidChildren_50 : decode cX2_forbidChildren 50 = .ok (.aload_n 1, 1) := by decide +kernel
theorem dX2_forbidChildren_51 : decode cX2_forbidChildren 51 = .ok (.iload_n 3, 1) := by decide +kernel
theorem dX2_forbidChildren_52 : decode cX2_forbidChildren 52 = .ok (.iload 4, 2) := by decide +kernel
theorem dX2_forbidChildren_54 : decode cX2_forbidChildren 54 = .ok (.iconst 1, 1) := by decide +kernel
theorem dX2_forbidChildren_55 : decode cX2_forbidChildren 55 = .ok (.invokestatic 56, 3) := by decide +kernel
theorem dX2_forbidChildren_58 : decode cX2_forbidChildren 58 = .ok (.ifCond .eq 18, 3) := by decide +kernel
theorem dX2_forbidChildren_61 : decode cX2_forbidChildren 61 = .ok (.aload_n 0, 1) := by decide +kernel
theorem dX2_forbidChildren_62 : decode cX2_forbidChildren 62 = .ok (.getfield 22, 3) := by decide +kernel
theorem dX2_forbidChildren_65 : decode cX2_forbidChildren 65 = .ok (.iload_n 3, 1) := by decide +kernel
theorem dX2_forbidChildren_66 : decode cX2_forbidChildren 66 = .ok (.dup2, 1) := by decide +kernel
theorem dX2_forbidChildren_67 : decode cX2_forbidChildren 67 = .ok (.iaload, 1) := by decide +kernel
theorem dX2_forbidChildren_68 : decode cX2_forbidChildren 68 = .ok (.iconst 1, 1) := by decide +kernel
theorem dX2_forbidChildren_69 : decode cX2_forbidChildren 69 = .ok (.iload 4, 2) := by decide +kernel
theorem dX2_forbidChildren_71 : decode cX2_forbidChildren 71 = .ok (.ishl, 1) := by decide +kernel
theorem dX2_forbidChildren_72 : decode cX2_forbidChildren 72 = .ok (.iconst (-1), 1) := by decide +kernel
theorem dX2_forbidChildren_73 : decode cX2_forbidChildren 73 = .ok (.ixor, 1) := by decide +kernel
theorem dX2_forbidChildren_74 : decode cX2_forbidChildren 74 = .ok (.iand, 1) := by decide +kernel
theorem dX2_forbidChildren_75 : decode cX2_forbidChildren 75 = .ok (.iastore, 1) := by decide +kernel
theorem dX2_forbidChildren_76 : decode cX2_forbidChildren 76 = .ok (.iinc 4 1, 3) := by decide +kernel
theorem dX2_forbidChildren_79 : decode cX2_forbidChildren 79 = .ok (.goto (-66), 3) := by decide +kernel
theorem dX2_forbidChildren_82 : decode cX2_forbidChildren 82 = .ok (.iinc 3 1, 3) := by decide +kernel
theorem dX2_forbidChildren_85 : decode cX2_forbidChildren 85 = .ok (.goto (-83), 3) := by decide +kernel
theorem dX2_forbidChildren_88 : decode cX2_forbidChildren 88 = .ok (.return_, 1) := by decide +kernel
theorem dX2_keepRoots_0 : decode cX2_keepRoots 0 = .ok (.iconst 1, 1) := by decide +kernel
theorem dX2_keepRoots_1 : decode cX2_keepRoots 1 = .ok (.istore_n 2, 1) := by decide +kernel
theorem dX2_keepRoots_2 : decode cX2_keepRoots 2 = .ok (.iload_n 2, 1) := by decide +kernel
theorem dX2_keepRoots_3 : decode cX2_keepRoots 3 = .ok (.aload_n 0, 1) := by decide +kernel
theorem dX2_keepRoots_4 : decode cX2_keepRoots 4 = .ok (.getfield 9, 3) := by decide +kernel
theorem dX2_keepRoots_7 : decode cX2_keepRoots 7 = .ok (.if_icmp .gt 72, 3) := by decide +kernel
theorem dX2_keepRoots_10 : decode cX2_keepRoots 10 = .ok (.iconst 0, 1) := by decide +kernel
theorem dX2_keepRoots_11 : decode cX2_keepRoots 11 = .ok (.istore_n 3, 1) := by decide +kernel
theorem dX2_keepRoots_12 : decode cX2_keepRoots 12 = .ok (.iload_n 3, 1) := by decide +kernel
theorem dX2_keepRoots_13 : decode cX2_keepRoots 13 = .ok (.iload_n 2, 1) := by decide +kernel
theorem dX2_keepRoots_14 : decode cX2_keepRoots 14 = .ok (.iadd, 1) := by decide +kernel
theorem dX2_keepRoots_15 : decode cX2_keepRoots 15 = .ok (.aload_n 0, 1) := by decide +kernel
theorem dX2_keepRoots_16 : decode cX2_keepRoots 16 = .ok (.getfield 9, 3) := by decide +kernel
theorem dX2_keepRoots_19 : decode cX2_keepRoots 19 = .ok (.if_icmp .gt 54, 3) := by decide +kernel
theorem dX2_keepRoots_22 : decode cX2_keepRoots 22 = .ok (.iload_n 3, 1) := by decide +kernel
theorem dX2_keepRoots_23 : decode cX2_keepRoots 23 = .ok (.iload_n 2, 1) := by decide +kernel
theorem dX2_keepRoots_24 : decode cX2_keepRoots 24 = .ok (.iadd, 1) := by decide +kernel
theorem dX2_keepRoots_25 : decode cX2_keepRoots 25 = .ok (.istore 4, 2) := by decide +kernel
theorem dX2_keepRoots_27 : decode cX2_keepRoots 27 = .ok (.aload_n 0, 1) := by decide +kernel
theorem dX2_keepRoots_28 : decode cX2_keepRoots 28 = .ok (.iload_n 3, 1) := by decide +kernel
theorem dX2_keepRoots_29 : decode cX2_keepRoots 29 = .ok (.iload 4, 2) := by decide +kernel
theorem dX2_keepRoots_31 : decode cX2_keepRoots 31 = .ok (.invokevirtual 60, 3) := by decide +kernel
theorem dX2_keepRoots_34 : decode cX2_keepRoots 34 = .ok (.aload_n 0, 1) := by decide +kernel
theorem dX2_keepRoots_35 : decode cX2_keepRoots 35 = .ok (.iload_n 3, 1) := by decide +kernel
theorem dX2_keepRoots_36 : decode cX2_keepRoots 36 = .ok (.iload 4, 2) := by decide +kernel
theorem dX2_keepRoots_38 : decode cX2_keepRoots 38 = .ok (.iload_n 1, 1) := by decide +kernel
theorem dX2_keepRoots_39 : decode cX2_keepRoots 39 = .ok (.invokevirtual 64, 3) := by decide +kernel
theorem dX2_keepRoots_42 : decode cX2_keepRoots 42 = .ok (.ifCond .le 25, 3) := by decide +kernel
theorem dX2_keepRoots_45 : decode cX2_keepRoots 45 = .ok (.aload_n 0, 1) := by decide +kernel
theorem dX2_keepRoots_46 : decode cX2_keepRoots 46 = .ok (.getfield 15, 3) := by decide +kernel
theorem dX2_keepRoots_49 : decode cX2_keepRoots 49 = .ok (.iload_n 3, 1) := by decide +kernel
theorem dX2_keepRoots_50 : decode cX2_keepRoots 50 = .ok (.iload 4, 2) := by decide +kernel
theorem dX2_keepRoots_52 : decode cX2_keepRoots 52 = .ok (.invokestatic 68, 3) := by decide +kernel
theorem dX2_keepRoots_55 : decode cX2_keepRoots 55 = .ok (.dup2, 1) := by decide +kernel
theorem dX2_keepRoots_56 : decode cX2_keepRoots 56 = .ok (.iaload, 1) := by decide +kernel
theorem dX2_keepRoots_57 : decode cX2_keepRoots 57 = .ok (.iload_n 1, 1) := by decide +kernel
theorem dX2_keepRoots_58 : decode cX2_keepRoots 58 = .ok (.iand, 1) := by decide +kernel
theorem dX2_keepRoots_59 : decode cX2_keepRoots 59 = .ok (.iastore, 1) := by decide +kernel
theorem dX2_keepRoots_60 : decode cX2_keepRoots 60 = .ok (.aload_n 0, 1) := by decide +kernel
theorem dX2_keepRoots_61 : decode cX2_keepRoots 61 = .ok (.iload_n 3, 1) := by decide +kernel
theorem dX2_keepRoots_62 : decode cX2_keepRoots 62 = .ok (.iload 4, 2) := by decide +kernel
theorem dX2_keepRoots_64 : decode cX2_keepRoots 64 = .ok (.invokevirtual 60, 3) := by decide +kernel
theorem dX2_keepRoots_67 : decode cX2_keepRoots 67 = .ok (.iinc 3 1, 3) := by decide +kernel
theorem dX2_keepRoots_70 : decode cX2_keepRoots 70 = .ok (.goto (-58), 3) := by decide +kernel
theorem dX2_keepRoots_73 : decode cX2_keepRoots 73 = .ok (.iinc 2 1, 3) := by decide +kernel
theorem dX2_keepRoots_76 : decode cX2_keepRoots 76 = .ok (.goto (-74), 3) := by decide +kernel
theorem dX2_keepRoots_79 : decode cX2_keepRoots 79 = .ok (.return_, 1) := by decide +kernel
theorem dX2_countTrees_0 : decode cX2_countTrees 0 = .ok (.iconst 1, 1) := by decide +kernel
theorem dX2_countTrees_1 : decode cX2_countTrees 1 = .ok (.istore_n 1, 1) := by decide +kernel
theorem dX2_countTrees_2 : decode cX2_countTrees 2 = .ok (.iload_n 1, 1) := by decide +kernel
theorem dX2_countTrees_3 : decode cX2_countTrees 3 = .ok (.aload_n 0, 1) := by decide +kernel
theorem dX2_countTrees_4 : decode cX2_countTrees 4 = .ok (.getfield 9, 3) := by decide +kernel
theorem dX2_countTrees_7 : decode cX2_countTrees 7 = .ok (.if_icmp .gt 35, 3) := by decide +kernel
theorem dX2_countTrees_10 : decode cX2_countTrees 10 = .ok (.iconst 0, 1) := by decide +kernel
theorem dX2_countTrees_11 : decode cX2_countTrees 11 = .ok (.istore_n 2, 1) := by decide +kernel
theorem dX2_countTrees_12 : decode cX2_countTrees 12 = .ok (.iload_n 2, 1) := by decide +kernel
theorem dX2_countTrees_13 : decode cX2_countTrees 13 = .ok (.iload_n 1, 1) := by decide +kernel
theorem dX2_countTrees_14 : decode cX2_countTrees 14 = .ok (.iadd, 1) := by decide +kernel
theorem dX2_countTrees_15 : decode cX2_countTrees 15 = .ok (.aload_n 0, 1) := by decide +kernel
theorem dX2_countTrees_16 : decode cX2_countTrees 16 = .ok (.getfield 9, 3) := by decide +kernel
theorem dX2_countTrees_19 : decode cX2_countTrees 19 = .ok (.if_icmp .gt 17, 3) := by decide +kernel
theorem dX2_countTrees_22 : decode cX2_countTrees 22 = .ok (.aload_n 0, 1) := by decide +kernel
theorem dX2_countTrees_23 : decode cX2_countTrees 23 = .ok (.iload_n 2, 1) := by decide +kernel
theorem dX2_countTrees_24 : decode cX2_countTrees 24 = .ok (.iload_n 2, 1) := by decide +kernel
theorem dX2_countTrees_25 : decode cX2_countTrees 25 = .ok (.iload_n 1, 1) := by decide +kernel
theorem dX2_countTrees_26 : decode cX2_countTrees 26 = .ok (.iadd, 1) := by decide +kernel
theorem dX2_countTrees_27 : decode cX2_countTrees 27 = .ok (.invokevirtual 60, 3) := by decide +kernel
theorem dX2_countTrees_30 : decode cX2_countTrees 30 = .ok (.iinc 2 1, 3) := by decide +kernel
theorem dX2_countTrees_33 : decode cX2_countTrees 33 = .ok (.goto (-21), 3) := by decide +kernel
theorem dX2_countTrees_36 : decode cX2_countTrees 36 = .ok (.iinc 1 1, 3) := by decide +kernel
theorem dX2_countTrees_39 : decode cX2_countTrees 39 = .ok (.goto (-37), 3) := by decide +kernel
theorem dX2_countTrees_42 : decode cX2_countTrees 42 = .ok (.aload_n 0, 1) := by decide +kernel
theorem dX2_countTrees_43 : decode cX2_countTrees 43 = .ok (.iconst 0, 1) := by decide +kernel
theorem dX2_countTrees_44 : decode cX2_countTrees 44 = .ok (.aload_n 0, 1) := by decide +kernel
theorem dX2_countTrees_45 : decode cX2_countTrees 45 = .ok (.getfield 9, 3) := by decide +kernel
theorem dX2_countTrees_48 : decode cX2_countTrees 48 = .ok (.iconst (-1), 1) := by decide +kernel
theorem dX2_countTrees_49 : decode cX2_countTrees 49 = .ok (.invokevirtual 64, 3) := by decide +kernel
theorem dX2_countTrees_52 : decode cX2_countTrees 52 = .ok (.ireturn, 1) := by decide +kernel
theorem dX2_countSpan_0 : decode cX2_countSpan 0 = .ok (.iload_n 1, 1) := by decide +kernel
theorem dX2_countSpan_1 : decode cX2_countSpan 1 = .ok (.iload_n 2, 1) := by decide +kernel
theorem dX2_countSpan_2 : decode cX2_countSpan 2 = .ok (.invokestatic 68, 3) := by decide +kernel
theorem dX2_countSpan_5 : decode cX2_countSpan 5 = .ok (.istore_n 3, 1) := by decide +kernel
theorem dX2_countSpan_6 : decode cX2_countSpan 6 = .ok (.iload_n 1, 1) := by decide +kernel
theorem dX2_countSpan_7 : decode cX2_countSpan 7 = .ok (.istore 4, 2) := by decide +kernel
theorem dX2_countSpan_9 : decode cX2_countSpan 9 = .ok (.iload 4, 2) := by decide +kernel
theorem dX2_countSpan_11 : decode cX2_countSpan 11 = .ok (.iload_n 2, 1) := by decide +kernel
theorem dX2_countSpan_12 : decode cX2_countSpan 12 = .ok (.if_icmp .ge 73, 3) := by decide +kernel
theorem dX2_countSpan_15 : decode cX2_countSpan 15 = .ok (.iconst 0, 1) := by decide +kernel
theorem dX2_countSpan_16 : decode cX2_countSpan 16 = .ok (.istore 5, 2) := by decide +kernel
theorem dX2_countSpan_18 : decode cX2_countSpan 18 = .ok (.iload 4, 2) := by decide +kernel
theorem dX2_countSpan_20 : decode cX2_countSpan 20 = .ok (.aload_n 0, 1) := by decide +kernel
theorem dX2_countSpan_21 : decode cX2_countSpan 21 = .ok (.getfield 15, 3) := by decide +kernel
theorem dX2_countSpan_24 : decode cX2_countSpan 24 = .ok (.iload_n 3, 1) := by decide +kernel
theorem dX2_countSpan_25 : decode cX2_countSpan 25 = .ok (.iaload, 1) := by decide +kernel
theorem dX2_countSpan_26 : decode cX2_countSpan 26 = .ok (.invokestatic 72, 3) := by decide +kernel
theorem dX2_countSpan_29 : decode cX2_countSpan 29 = .ok (.ifCond .eq 36, 3) := by decide +kernel
theorem dX2_countSpan_32 : decode cX2_countSpan 32 = .ok (.aload_n 0, 1) := by decide +kernel
theorem dX2_countSpan_33 : decode cX2_countSpan 33 = .ok (.iload_n 1, 1) := by decide +kernel
theorem dX2_countSpan_34 : decode cX2_countSpan 34 = .ok (.iload 4, 2) := by decide +kernel
theorem dX2_countSpan_36 : decode cX2_countSpan 36 = .ok (.aload_n 0, 1) := by decide +kernel
theorem dX2_countSpan_37 : decode cX2_countSpan 37 = .ok (.getfield 19, 3) := by decide +kernel
theorem dX2_countSpan_40 : decode cX2_countSpan 40 = .ok (.iload 4, 2) := by decide +kernel
theorem dX2_countSpan_42 : decode cX2_countSpan 42 = .ok (.iaload, 1) := by decide +kernel
theorem dX2_countSpan_43 : decode cX2_countSpan 43 = .ok (.invokevirtual 64, 3) := by decide +kernel
theorem dX2_countSpan_46 : decode cX2_countSpan 46 = .ok (.aload_n 0, 1) := by decide +kernel
theorem dX2_countSpan_47 : decode cX2_countSpan 47 = .ok (.iload 4, 2) := by decide +kernel
theorem dX2_countSpan_49 : decode cX2_countSpan 49 = .ok (.iconst 1, 1) := by decide +kernel
theorem dX2_countSpan_50 : decode cX2_countSpan 50 = .ok (.iadd, 1) := by decide +kernel
theorem dX2_countSpan_51 : decode cX2_countSpan 51 = .ok (.iload_n 2, 1) := by decide +kernel
theorem dX2_countSpan_52 : decode cX2_countSpan 52 = .ok (.aload_n 0, 1) := by decide +kernel
theorem dX2_countSpan_53 : decode cX2_countSpan 53 = .ok (.getfield 22, 3) := by decide +kernel
theorem dX2_countSpan_56 : decode cX2_countSpan 56 = .ok (.iload 4, 2) := by decide +kernel
theorem dX2_countSpan_58 : decode cX2_countSpan 58 = .ok (.iaload, 1) := by decide +kernel
theorem dX2_countSpan_59 : decode cX2_countSpan 59 = .ok (.invokevirtual 64, 3) := by decide +kernel
theorem dX2_countSpan_62 : decode cX2_countSpan 62 = .ok (.imul, 1) := by decide +kernel
theorem dX2_countSpan_63 : decode cX2_countSpan 63 = .ok (.istore 5, 2) := by decide +kernel
theorem dX2_countSpan_65 : decode cX2_countSpan 65 = .ok (.aload_n 0, 1) := by decide +kernel
theorem dX2_countSpan_66 : decode cX2_countSpan 66 = .ok (.getfield 25, 3) := by decide +kernel
theorem dX2_countSpan_69 : decode cX2_countSpan 69 = .ok (.iload_n 3, 1) := by decide +kernel
theorem dX2_countSpan_70 : decode cX2_countSpan 70 = .ok (.bipush 10, 2) := by decide +kernel
theorem dX2_countSpan_72 : decode cX2_countSpan 72 = .ok (.imul, 1) := by decide +kernel
theorem dX2_countSpan_73 : decode cX2_countSpan 73 = .ok (.iload 4, 2) := by decide +kernel
theorem dX2_countSpan_75 : decode cX2_countSpan 75 = .ok (.iadd, 1) := by decide +kernel
theorem dX2_countSpan_76 : decode cX2_countSpan 76 = .ok (.iload 5, 2) := by decide +kernel
theorem dX2_countSpan_78 : decode cX2_countSpan 78 = .ok (.iastore, 1) := by decide +kernel
theorem dX2_countSpan_79 : decode cX2_countSpan 79 = .ok (.iinc 4 1, 3) := by decide +kernel
theorem dX2_countSpan_82 : decode cX2_countSpan 82 = .ok (.goto (-73), 3) := by decide +kernel
theorem dX2_countSpan_85 : decode cX2_countSpan 85 = .ok (.return_, 1) := by decide +kernel
theorem dX2_treesOf_0 : decode cX2_treesOf 0 = .ok (.iload_n 1, 1) := by decide +kernel
theorem dX2_treesOf_1 : decode cX2_treesOf 1 = .ok (.iload_n 2, 1) := by decide +kernel
theorem dX2_treesOf_2 : decode cX2_treesOf 2 = .ok (.if_icmp .lt 5, 3) := by decide +kernel
theorem dX2_treesOf_5 : decode cX2_treesOf 5 = .ok (.iconst 1, 1) := by decide +kernel
theorem dX2_treesOf_6 : decode cX2_treesOf 6 = .ok (.ireturn, 1) := by decide +kernel
theorem dX2_treesOf_7 : decode cX2_treesOf 7 = .ok (.iload_n 1, 1) := by decide +kernel
theorem dX2_treesOf_8 : decode cX2_treesOf 8 = .ok (.iload_n 2, 1) := by decide +kernel
theorem dX2_treesOf_9 : decode cX2_treesOf 9 = .ok (.invokestatic 68, 3) := by decide +kernel
theorem dX2_treesOf_12 : decode cX2_treesOf 12 = .ok (.bipush 10, 2) := by decide +kernel
theorem dX2_treesOf_14 : decode cX2_treesOf 14 = .ok (.imul, 1) := by decide +kernel
theorem dX2_treesOf_15 : decode cX2_treesOf 15 = .ok (.istore 4, 2) := by decide +kernel
theorem dX2_treesOf_17 : decode cX2_treesOf 17 = .ok (.iconst 0, 1) := by decide +kernel
theorem dX2_treesOf_18 : decode cX2_treesOf 18 = .ok (.istore 5, 2) := by decide +kernel
theorem dX2_treesOf_20 : decode cX2_treesOf 20 = .ok (.iload_n 1, 1) := by decide +kernel
theorem dX2_treesOf_21 : decode cX2_treesOf 21 = .ok (.istore 6, 2) := by decide +kernel
theorem dX2_treesOf_23 : decode cX2_treesOf 23 = .ok (.iload 6, 2) := by decide +kernel
theorem dX2_treesOf_25 : decode cX2_treesOf 25 = .ok (.iload_n 2, 1) := by decide +kernel
theorem dX2_treesOf_26 : decode cX2_treesOf 26 = .ok (.if_icmp .ge 33, 3) := by decide +kernel
theorem dX2_treesOf_29 : decode cX2_treesOf 29 = .ok (.iload 6, 2) := by decide +kernel
theorem dX2_treesOf_31 : decode cX2_treesOf 31 = .ok (.iload_n 3, 1) := by decide +kernel
theorem dX2_treesOf_32 : decode cX2_treesOf 32 = .ok (.invokestatic 72, 3) := by decide +kernel
theorem dX2_treesOf_35 : decode cX2_treesOf 35 = .ok (.ifCond .eq 18, 3) := by decide +kernel
theorem dX2_treesOf_38 : decode cX2_treesOf 38 = .ok (.iload 5, 2) := by decide +kernel
theorem dX2_treesOf_40 : decode cX2_treesOf 40 = .ok (.aload_n 0, 1) := by decide +kernel
theorem dX2_treesOf_41 : decode cX2_treesOf 41 = .ok (.getfield 25, 3) := by decide +kernel
theorem dX2_treesOf_44 : decode cX2_treesOf 44 = .ok (.iload 4, 2) := by decide +kernel
theorem dX2_treesOf_46 : decode cX2_treesOf 46 = .ok (.iload 6, 2) := by decide +kernel
theorem dX2_treesOf_48 : decode cX2_treesOf 48 = .ok (.iadd, 1) := by decide +kernel
theorem dX2_treesOf_49 : decode cX2_treesOf 49 = .ok (.iaload, 1) := by decide +kernel
theorem dX2_treesOf_50 : decode cX2_treesOf 50 = .ok (.iadd, 1) := by decide +kernel
theorem dX2_treesOf_51 : decode cX2_treesOf 51 = .ok (.istore 5, 2) := by decide +kernel
theorem dX2_treesOf_53 : decode cX2_treesOf 53 = .ok (.iinc 6 1, 3) := by decide +kernel
theorem dX2_treesOf_56 : decode cX2_treesOf 56 = .ok (.goto (-33), 3) := by decide +kernel
theorem dX2_treesOf_59 : decode cX2_treesOf 59 = .ok (.iload 5, 2) := by decide +kernel
theorem dX2_treesOf_61 : decode cX2_treesOf 61 = .ok (.ireturn, 1) := by decide +kernel
theorem dX2_derivationsOf_0 : decode cX2_derivationsOf 0 = .ok (.iload_n 3, 1) := by decide +kernel
theorem dX2_derivationsOf_1 : decode cX2_derivationsOf 1 = .ok (.iload 4, 2) := by decide +kernel
theorem dX2_derivationsOf_3 : decode cX2_derivationsOf 3 = .ok (.invokestatic 72, 3) := by decide +kernel
theorem dX2_derivationsOf_6 : decode cX2_derivationsOf 6 = .ok (.ifCond .eq 21, 3) := by decide +kernel
theorem dX2_derivationsOf_9 : decode cX2_derivationsOf 9 = .ok (.aload_n 0, 1) := by decide +kernel
theorem dX2_derivationsOf_10 : decode cX2_derivationsOf 10 = .ok (.getfield 25, 3) := by decide +kernel
theorem dX2_derivationsOf_13 : decode cX2_derivationsOf 13 = .ok (.iload_n 1, 1) := by decide +kernel
theorem dX2_derivationsOf_14 : decode cX2_derivationsOf 14 = .ok (.iload_n 2, 1) := by decide +kernel
theorem dX2_derivationsOf_15 : decode cX2_derivationsOf 15 = .ok (.invokestatic 68, 3) := by decide +kernel
theorem dX2_derivationsOf_18 : decode cX2_derivationsOf 18 = .ok (.bipush 10, 2) := by decide +kernel
theorem dX2_derivationsOf_20 : decode cX2_derivationsOf 20 = .ok (.imul, 1) := by decide +kernel
theorem dX2_derivationsOf_21 : decode cX2_derivationsOf 21 = .ok (.iload_n 3, 1) := by decide +kernel
theorem dX2_derivationsOf_22 : decode cX2_derivationsOf 22 = .ok (.iadd, 1) := by decide +kernel
theorem dX2_derivationsOf_23 : decode cX2_derivationsOf 23 = .ok (.iaload, 1) := by decide +kernel
theorem dX2_derivationsOf_24 : decode cX2_derivationsOf 24 = .ok (.goto 4, 3) := by decide +kernel
theorem dX2_derivationsOf_27 : decode cX2_derivationsOf 27 = .ok (.iconst 0, 1) := by decide +kernel
theorem dX2_derivationsOf_28 : decode cX2_derivationsOf 28 = .ok (.ireturn, 1) := by decide +kernel
theorem dX2_allowsRoot_0 : decode cX2_allowsRoot 0 = .ok (.iload_n 3, 1) := by decide +kernel
theorem dX2_allowsRoot_1 : decode cX2_allowsRoot 1 = .ok (.aload_n 0, 1) := by decide +kernel
theorem dX2_allowsRoot_2 : decode cX2_allowsRoot 2 = .ok (.getfield 15, 3) := by decide +kernel
theorem dX2_allowsRoot_5 : decode cX2_allowsRoot 5 = .ok (.iload_n 1, 1) := by decide +kernel
theorem dX2_allowsRoot_6 : decode cX2_allowsRoot 6 = .ok (.iload_n 2, 1) := by decide +kernel
theorem dX2_allowsRoot_7 : decode cX2_allowsRoot 7 = .ok (.invokestatic 68, 3) := by decide +kernel
theorem dX2_allowsRoot_10 : decode cX2_allowsRoot 10 = .ok (.iaload, 1) := by decide +kernel
theorem dX2_allowsRoot_11 : decode cX2_allowsRoot 11 = .ok (.invokestatic 72, 3) := by decide +kernel
theorem dX2_allowsRoot_14 : decode cX2_allowsRoot 14 = .ok (.ireturn, 1) := by decide +kernel
theorem dX2_isIn_0 : decode cX2_isIn 0 = .ok (.iload_n 1, 1) := by decide +kernel
theorem dX2_isIn_1 : decode cX2_isIn 1 = .ok (.iload_n 0, 1) := by decide +kernel
theorem dX2_isIn_2 : decode cX2_isIn 2 = .ok (.ishr, 1) := by decide +kernel
theorem dX2_isIn_3 : decode cX2_isIn 3 = .ok (.iconst 1, 1) := by decide +kernel
theorem dX2_isIn_4 : decode cX2_isIn 4 = .ok (.iand, 1) := by decide +kernel
theorem dX2_isIn_5 : decode cX2_isIn 5 = .ok (.iconst 1, 1) := by decide +kernel
theorem dX2_isIn_6 : decode cX2_isIn 6 = .ok (.if_icmp .ne 7, 3) := by decide +kernel
theorem dX2_isIn_9 : decode cX2_isIn 9 = .ok (.iconst 1, 1) := by decide +kernel
theorem dX2_isIn_10 : decode cX2_isIn 10 = .ok (.goto 4, 3) := by decide +kernel
theorem dX2_isIn_13 : decode cX2_isIn 13 = .ok (.iconst 0, 1) := by decide +kernel
theorem dX2_isIn_14 : decode cX2_isIn 14 = .ok (.ireturn, 1) := by decide +kernel
theorem dX3_init_0 : decode cX3_init 0 = .ok (.aload_n 0, 1) := by decide +kernel
theorem dX3_init_1 : decode cX3_init 1 = .ok (.invokespecial 3, 3) := by decide +kernel
theorem dX3_init_4 : decode cX3_init 4 = .ok (.aload_n 0, 1) := by decide +kernel
theorem dX3_init_5 : decode cX3_init 5 = .ok (.iconst 4, 1) := by decide +kernel
theorem dX3_init_6 : decode cX3_init 6 = .ok (.anewarray 9, 3) := by decide +kernel
theorem dX3_init_9 : decode cX3_init 9 = .ok (.putfield 11, 3) := by decide +kernel
theorem dX3_init_12 : decode cX3_init 12 = .ok (.aload_n 0, 1) := by decide +kernel
theorem dX3_init_13 : decode cX3_init 13 = .ok (.iconst 0, 1) := by decide +kernel
theorem dX3_init_14 : decode cX3_init 14 = .ok (.putfield 17, 3) := by decide +kernel
theorem dX3_init_17 : decode cX3_init 17 = .ok (.iconst 0, 1) := by decide +kernel
theorem dX3_init_18 : decode cX3_init 18 = .ok (.istore_n 1, 1) := by decide +kernel
theorem dX3_init_19 : decode cX3_init 19 = .ok (.iload_n 1, 1) := by decide +kernel
theorem dX3_init_20 : decode cX3_init 20 = .ok (.iconst 4, 1) := by decide +kernel
theorem dX3_init_21 : decode cX3_init 21 = .ok (.if_icmp .ge 22, 3) := by decide +kernel
theorem dX3_init_24 : decode cX3_init 24 = .ok (.aload_n 0, 1) := by decide +kernel
theorem dX3_init_25 : decode cX3_init 25 = .ok (.getfield 11, 3) := by decide +kernel
theorem dX3_init_28 : decode cX3_init 28 = .ok (.iload_n 1, 1) := by decide +kernel
theorem dX3_init_29 : decode cX3_init 29 = .ok (.new 9, 3) := by decide +kernel
theorem dX3_init_32 : decode cX3_init 32 = .ok (.dup, 1) := by decide +kernel
theorem dX3_init_33 : decode cX3_init 33 = .ok (.invokespecial 21, 3) := by decide +kernel
theorem dX3_init_36 : decode cX3_init 36 = .ok (.aastore, 1) := by decide +kernel
theorem dX3_init_37 : decode cX3_init 37 = .ok (.iinc 1 1, 3) := by decide +kernel
theorem dX3_init_40 : decode cX3_init 40 = .ok (.goto (-21), 3) := by decide +kernel
theorem dX3_init_43 : decode cX3_init 43 = .ok (.return_, 1) := by decide +kernel
theorem dX3_reset_0 : decode cX3_reset 0 = .ok (.aload_n 0, 1) := by decide +kernel
theorem dX3_reset_1 : decode cX3_reset 1 = .ok (.iconst 0, 1) := by decide +kernel
theorem dX3_reset_2 : decode cX3_reset 2 = .ok (.putfield 17, 3) := by decide +kernel
theorem dX3_reset_5 : decode cX3_reset 5 = .ok (.return_, 1) := by decide +kernel
theorem dX3_save_0 : decode cX3_save 0 = .ok (.aload_n 0, 1) := by decide +kernel
theorem dX3_save_1 : decode cX3_save 1 = .ok (.getfield 17, 3) := by decide +kernel
theorem dX3_save_4 : decode cX3_save 4 = .ok (.iconst 4, 1) := by decide +kernel
theorem dX3_save_5 : decode cX3_save 5 = .ok (.if_icmp .lt 7, 3) := by decide +kernel
theorem dX3_save_8 : decode cX3_save 8 = .ok (.aload_n 0, 1) := by decide +kernel
theorem dX3_save_9 : decode cX3_save 9 = .ok (.invokevirtual 22, 3) := by decide +kernel
theorem dX3_save_12 : decode cX3_save 12 = .ok (.aload_n 0, 1) := by decide +kernel
theorem dX3_save_13 : decode cX3_save 13 = .ok (.getfield 11, 3) := by decide +kernel
theorem dX3_save_16 : decode cX3_save 16 = .ok (.aload_n 0, 1) := by decide +kernel
theorem dX3_save_17 : decode cX3_save 17 = .ok (.getfield 17, 3) := by decide +kernel
theorem dX3_save_20 : decode cX3_save 20 = .ok (.aaload, 1) := by decide +kernel
theorem dX3_save_21 : decode cX3_save 21 = .ok (.aload_n 1, 1) := by decide +kernel
theorem dX3_save_22 : decode cX3_save 22 = .ok (.invokevirtual 25, 3) := by decide +kernel
theorem dX3_save_25 : decode cX3_save 25 = .ok (.aload_n 0, 1) := by decide +kernel
theorem dX3_save_26 : decode cX3_save 26 = .ok (.dup, 1) := by decide +kernel
theorem dX3_save_27 : decode cX3_save 27 = .ok (.getfield 17, 3) := by decide +kernel
theorem dX3_save_30 : decode cX3_save 30 = .ok (.iconst 1, 1) := by decide +kernel
theorem dX3_save_31 : decode cX3_save 31 = .ok (.iadd, 1) := by decide +kernel
theorem dX3_save_32 : decode cX3_save 32 = .ok (.putfield 17, 3) := by decide +kernel
theorem dX3_save_35 : decode cX3_save 35 = .ok (.return_, 1) := by decide +kernel
theorem dX3_dropOldest_0 : decode cX3_dropOldest 0 = .ok (.aload_n 0, 1) := by decide +kernel
theorem dX3_dropOldest_1 : decode cX3_dropOldest 1 = .ok (.getfield 11, 3) := by decide +kernel
theorem dX3_dropOldest_4 : decode cX3_dropOldest 4 = .ok (.iconst 0, 1) := by decide +kernel
theorem dX3_dropOldest_5 : decode cX3_dropOldest 5 = .ok (.aaload, 1) := by decide +kernel
theorem dX3_dropOldest_6 : decode cX3_dropOldest 6 = .ok (.astore_n 1, 1) := by decide +kernel
theorem dX3_dropOldest_7 : decode cX3_dropOldest 7 = .ok (.iconst 1, 1) := by decide +kernel
theorem dX3_dropOldest_8 : decode cX3_dropOldest 8 = .ok (.istore_n 2, 1) := by decide +kernel
theorem dX3_dropOldest_9 : decode cX3_dropOldest 9 = .ok (.iload_n 2, 1) := by decide +kernel
theorem dX3_dropOldest_10 : decode cX3_dropOldest 10 = .ok (.iconst 4, 1) := by decide +kernel
theorem dX3_dropOldest_11 : decode cX3_dropOldest 11 = .ok (.if_icmp .ge 23, 3) := by decide +kernel
theorem dX3_dropOldest_14 : decode cX3_dropOldest 14 = .ok (.aload_n 0, 1) := by decide +kernel
theorem dX3_dropOldest_15 : decode cX3_dropOldest 15 = .ok (.getfield 11, 3) := by decide +kernel
theorem dX3_dropOldest_18 : decode cX3_dropOldest 18 = .ok (.iload_n 2, 1) := by decide +kernel
theorem dX3_dropOldest_19 : decode cX3_dropOldest 19 = .ok (.iconst 1, 1) := by decide +kernel
theorem dX3_dropOldest_20 : decode cX3_dropOldest 20 = .ok (.isub, 1) := by decide +kernel
theorem dX3_dropOldest_21 : decode cX3_dropOldest 21 = .ok (.aload_n 0, 1) := by decide +kernel
theorem dX3_dropOldest_22 : decode cX3_dropOldest 22 = .ok (.getfield 11, 3) := by decide +kernel
theorem dX3_dropOldest_25 : decode cX3_dropOldest 25 = .ok (.iload_n 2, 1) := by decide +kernel
theorem dX3_dropOldest_26 : decode cX3_dropOldest 26 = .ok (.aaload, 1) := by decide +kernel
theorem dX3_dropOldest_27 : decode cX3_dropOldest 27 = .ok (.aastore, 1) := by decide +kernel
theorem dX3_dropOldest_28 : decode cX3_dropOldest 28 = .ok (.iinc 2 1, 3) := by decide +kernel
theorem dX3_dropOldest_31 : decode cX3_dropOldest 31 = .ok (.goto (-22), 3) := by decide +kernel
theorem dX3_dropOldest_34 : decode cX3_dropOldest 34 = .ok (.aload_n 0, 1) := by decide +kernel
theorem dX3_dropOldest_35 : decode cX3_dropOldest 35 = .ok (.getfield 11, 3) := by decide +kernel
theorem dX3_dropOldest_38 : decode cX3_dropOldest 38 = .ok (.iconst 3, 1) := by decide +kernel
theorem dX3_dropOldest_39 : decode cX3_dropOldest 39 = .ok (.aload_n 1, 1) := by decide +kernel
theorem dX3_dropOldest_40 : decode cX3_dropOldest 40 = .ok (.aastore, 1) := by decide +kernel
theorem dX3_dropOldest_41 : decode cX3_dropOldest 41 = .ok (.aload_n 0, 1) := by decide +kernel
theorem dX3_dropOldest_42 : decode cX3_dropOldest 42 = .ok (.dup, 1) := by decide +kernel
theorem dX3_dropOldest_43 : decode cX3_dropOldest 43 = .ok (.getfield 17, 3) := by decide +kernel
theorem dX3_dropOldest_46 : decode cX3_dropOldest 46 = .ok (.iconst 1, 1) := by decide +kernel
theorem dX3_dropOldest_47 : decode cX3_dropOldest 47 = .ok (.isub, 1) := by decide +kernel
theorem dX3_dropOldest_48 : decode cX3_dropOldest 48 = .ok (.putfield 17, 3) := by decide +kernel
theorem dX3_dropOldest_51 : decode cX3_dropOldest 51 = .ok (.return_, 1) := by decide +kernel
theorem dX3_restore_0 : decode cX3_restore 0 = .ok (.aload_n 0, 1) := by decide +kernel
theorem dX3_restore_1 : decode cX3_restore 1 = .ok (.getfield 17, 3) := by decide +kernel
theorem dX3_restore_4 : decode cX3_restore 4 = .ok (.ifCond .gt 5, 3) := by decide +kernel
theorem dX3_restore_7 : decode cX3_restore 7 = .ok (.iconst 0, 1) := by decide +kernel
theorem dX3_restore_8 : decode cX3_restore 8 = .ok (.ireturn, 1) := by decide +kernel
theorem dX3_restore_9 : decode cX3_restore 9 = .ok (.aload_n 0, 1) := by decide +kernel
theorem dX3_restore_10 : decode cX3_restore 10 = .ok (.dup, 1) := by decide +kernel
theorem dX3_restore_11 : decode cX3_restore 11 = .ok (.getfield 17, 3) := by decide +kernel
theorem dX3_restore_14 : decode cX3_restore 14 = .ok (.iconst 1, 1) := by decide +kernel
theorem dX3_restore_15 : decode cX3_restore 15 = .ok (.isub, 1) := by decide +kernel
theorem dX3_restore_16 : decode cX3_restore 16 = .ok (.putfield 17, 3) := by decide +kernel
theorem dX3_restore_19 : decode cX3_restore 19 = .ok (.aload_n 1, 1) := by decide +kernel
theorem dX3_restore_20 : decode cX3_restore 20 = .ok (.aload_n 0, 1) := by decide +kernel
theorem dX3_restore_21 : decode cX3_restore 21 = .ok (.getfield 11, 3) := by decide +kernel
theorem dX3_restore_24 : decode cX3_restore 24 = .ok (.aload_n 0, 1) := by decide +kernel
theorem dX3_restore_25 : decode cX3_restore 25 = .ok (.getfield 17, 3) := by decide +kernel
theorem dX3_restore_28 : decode cX3_restore 28 = .ok (.aaload, 1) := by decide +kernel
theorem dX3_restore_29 : decode cX3_restore 29 = .ok (.invokevirtual 25, 3) := by decide +kernel
theorem dX3_restore_32 : decode cX3_restore 32 = .ok (.iconst 1, 1) := by decide +kernel
theorem dX3_restore_33 : decode cX3_restore 33 = .ok (.ireturn, 1) := by decide +kernel
theorem dX4_init_0 : decode cX4_init 0 = .ok (.aload_n 0, 1) := by decide +kernel
theorem dX4_init_1 : decode cX4_init 1 = .ok (.invokespecial 3, 3) := by decide +kernel
theorem dX4_init_4 : decode cX4_init 4 = .ok (.aload_n 0, 1) := by decide +kernel
theorem dX4_init_5 : decode cX4_init 5 = .ok (.bipush 9, 2) := by decide +kernel
theorem dX4_init_7 : decode cX4_init 7 = .ok (.newarray .int, 2) := by decide +kernel
theorem dX4_init_9 : decode cX4_init 9 = .ok (.putfield 9, 3) := by decide +kernel
theorem dX4_init_12 : decode cX4_init 12 = .ok (.aload_n 0, 1) := by decide +kernel
theorem dX4_init_13 : decode cX4_init 13 = .ok (.bipush 9, 2) := by decide +kernel
theorem dX4_init_15 : decode cX4_init 15 = .ok (.newarray .int, 2) := by decide +kernel
theorem dX4_init_17 : decode cX4_init 17 = .ok (.putfield 15, 3) := by decide +kernel
theorem dX4_init_20 : decode cX4_init 20 = .ok (.aload_n 0, 1) := by decide +kernel
theorem dX4_init_21 : decode cX4_init 21 = .ok (.bipush 10, 2) := by decide +kernel
theorem dX4_init_23 : decode cX4_init 23 = .ok (.newarray .int, 2) := by decide +kernel
theorem dX4_init_25 : decode cX4_init 25 = .ok (.putfield 18, 3) := by decide +kernel
theorem dX4_init_28 : decode cX4_init 28 = .ok (.aload_n 0, 1) := by decide +kernel
theorem dX4_init_29 : decode cX4_init 29 = .ok (.bipush 11, 2) := by decide +kernel
theorem dX4_init_31 : decode cX4_init 31 = .ok (.newarray .int, 2) := by decide +kernel
theorem dX4_init_33 : decode cX4_init 33 = .ok (.putfield 21, 3) := by decide +kernel
theorem dX4_init_36 : decode cX4_init 36 = .ok (.aload_n 0, 1) := by decide +kernel
theorem dX4_init_37 : decode cX4_init 37 = .ok (.iconst 0, 1) := by decide +kernel
theorem dX4_init_38 : decode cX4_init 38 = .ok (.putfield 24, 3) := by decide +kernel
theorem dX4_init_41 : decode cX4_init 41 = .ok (.return_, 1) := by decide +kernel
theorem dX4_reset_0 : decode cX4_reset 0 = .ok (.aload_n 0, 1) := by decide +kernel
theorem dX4_reset_1 : decode cX4_reset 1 = .ok (.getfield 9, 3) := by decide +kernel
theorem dX4_reset_4 : decode cX4_reset 4 = .ok (.iconst (-1), 1) := by decide +kernel
theorem dX4_reset_5 : decode cX4_reset 5 = .ok (.invokestatic 28, 3) := by decide +kernel
theorem dX4_reset_8 : decode cX4_reset 8 = .ok (.aload_n 0, 1) := by decide +kernel
theorem dX4_reset_9 : decode cX4_reset 9 = .ok (.iconst 0, 1) := by decide +kernel
theorem dX4_reset_10 : decode cX4_reset 10 = .ok (.putfield 24, 3) := by decide +kernel
theorem dX4_reset_13 : decode cX4_reset 13 = .ok (.return_, 1) := by decide +kernel
theorem dX4_copyFrom_0 : decode cX4_copyFrom 0 = .ok (.aload_n 1, 1) := by decide +kernel
theorem dX4_copyFrom_1 : decode cX4_copyFrom 1 = .ok (.getfield 9, 3) := by decide +kernel
theorem dX4_copyFrom_4 : decode cX4_copyFrom 4 = .ok (.iconst 0, 1) := by decide +kernel
theorem dX4_copyFrom_5 : decode cX4_copyFrom 5 = .ok (.aload_n 0, 1) := by decide +kernel
theorem dX4_copyFrom_6 : decode cX4_copyFrom 6 = .ok (.getfield 9, 3) := by decide +kernel
theorem dX4_copyFrom_9 : decode cX4_copyFrom 9 = .ok (.iconst 0, 1) := by decide +kernel
theorem dX4_copyFrom_10 : decode cX4_copyFrom 10 = .ok (.bipush 9, 2) := by decide +kernel
theorem dX4_copyFrom_12 : decode cX4_copyFrom 12 = .ok (.invokestatic 34, 3) := by decide +kernel
theorem dX4_copyFrom_15 : decode cX4_copyFrom 15 = .ok (.aload_n 1, 1) := by decide +kernel
theorem dX4_copyFrom_16 : decode cX4_copyFrom 16 = .ok (.getfield 15, 3) := by decide +kernel
theorem dX4_copyFrom_19 : decode cX4_copyFrom 19 = .ok (.iconst 0, 1) := by decide +kernel
theorem dX4_copyFrom_20 : decode cX4_copyFrom 20 = .ok (.aload_n 0, 1) := by decide +kernel
theorem dX4_copyFrom_21 : decode cX4_copyFrom 21 = .ok (.getfield 15, 3) := by decide +kernel
theorem dX4_copyFrom_24 : decode cX4_copyFrom 24 = .ok (.iconst 0, 1) := by decide +kernel
theorem dX4_copyFrom_25 : decode cX4_copyFrom 25 = .ok (.bipush 9, 2) := by decide +kernel
theorem dX4_copyFrom_27 : decode cX4_copyFrom 27 = .ok (.invokestatic 34, 3) := by decide +kernel
theorem dX4_copyFrom_30 : decode cX4_copyFrom 30 = .ok (.aload_n 1, 1) := by decide +kernel
theorem dX4_copyFrom_31 : decode cX4_copyFrom 31 = .ok (.getfield 18, 3) := by decide +kernel
theorem dX4_copyFrom_34 : decode cX4_copyFrom 34 = .ok (.iconst 0, 1) := by decide +kernel
theorem dX4_copyFrom_35 : decode cX4_copyFrom 35 = .ok (.aload_n 0, 1) := by decide +kernel
theorem dX4_copyFrom_36 : decode cX4_copyFrom 36 = .ok (.getfield 18, 3) := by decide +kernel
theorem dX4_copyFrom_39 : decode cX4_copyFrom 39 = .ok (.iconst 0, 1) := by decide +kernel
theorem dX4_copyFrom_40 : decode cX4_copyFrom 40 = .ok (.bipush 10, 2) := by decide +kernel
theorem dX4_copyFrom_42 : decode cX4_copyFrom 42 = .ok (.invokestatic 34, 3) := by decide +kernel
theorem dX4_copyFrom_45 : decode cX4_copyFrom 45 = .ok (.aload_n 1, 1) := by decide +kernel
theorem dX4_copyFrom_46 : decode cX4_copyFrom 46 = .ok (.getfield 21, 3) := by decide +kernel
theorem dX4_copyFrom_49 : decode cX4_copyFrom 49 = .ok (.iconst 0, 1) := by decide +kernel
theorem dX4_copyFrom_50 : decode cX4_copyFrom 50 = .ok (.aload_n 0, 1) := by decide +kernel
theorem dX4_copyFrom_51 : decode cX4_copyFrom 51 = .ok (.getfield 21, 3) := by decide +kernel
theorem dX4_copyFrom_54 : decode cX4_copyFrom 54 = .ok (.iconst 0, 1) := by decide +kernel
theorem dX4_copyFrom_55 : decode cX4_copyFrom 55 = .ok (.bipush 11, 2) := by decide +kernel
theorem dX4_copyFrom_57 : decode cX4_copyFrom 57 = .ok (.invokestatic 34, 3) := by decide +kernel
theorem dX4_copyFrom_60 : decode cX4_copyFrom 60 = .ok (.aload_n 0, 1) := by decide +kernel
theorem dX4_copyFrom_61 : decode cX4_copyFrom 61 = .ok (.aload_n 1, 1) := by decide +kernel
theorem dX4_copyFrom_62 : decode cX4_copyFrom 62 = .ok (.getfield 24, 3) := by decide +kernel
theorem dX4_copyFrom_65 : decode cX4_copyFrom 65 = .ok (.putfield 24, 3) := by decide +kernel
theorem dX4_copyFrom_68 : decode cX4_copyFrom 68 = .ok (.return_, 1) := by decide +kernel
theorem dX4_hasExpression_0 : decode cX4_hasExpression 0 = .ok (.aload_n 0, 1) := by decide +kernel
theorem dX4_hasExpression_1 : decode cX4_hasExpression 1 = .ok (.getfield 24, 3) := by decide +kernel
theorem dX4_hasExpression_4 : decode cX4_hasExpression 4 = .ok (.ifCond .le 7, 3) := by decide +kernel
theorem dX4_hasExpression_7 : decode cX4_hasExpression 7 = .ok (.iconst 1, 1) := by decide +kernel
theorem dX4_hasExpression_8 : decode cX4_hasExpression 8 = .ok (.goto 4, 3) := by decide +kernel
theorem dX4_hasExpression_11 : decode cX4_hasExpression 11 = .ok (.iconst 0, 1) := by decide +kernel
theorem dX4_hasExpression_12 : decode cX4_hasExpression 12 = .ok (.ireturn, 1) := by decide +kernel
theorem dX4_operators_0 : decode cX4_operators 0 = .ok (.aload_n 0, 1) := by decide +kernel
theorem dX4_operators_1 : decode cX4_operators 1 = .ok (.invokevirtual 40, 3) := by decide +kernel
theorem dX4_operators_4 : decode cX4_operators 4 = .ok (.ifCond .eq 12, 3) := by decide +kernel
theorem dX4_operators_7 : decode cX4_operators 7 = .ok (.aload_n 0, 1) := by decide +kernel
theorem dX4_operators_8 : decode cX4_operators 8 = .ok (.getfield 24, 3) := by decide +kernel
theorem dX4_operators_11 : decode cX4_operators 11 = .ok (.iconst 1, 1) := by decide +kernel
theorem dX4_operators_12 : decode cX4_operators 12 = .ok (.isub, 1) := by decide +kernel
theorem dX4_operators_13 : decode cX4_operators 13 = .ok (.goto 4, 3) := by decide +kernel
theorem dX4_operators_16 : decode cX4_operators 16 = .ok (.iconst 0, 1) := by decide +kernel
theorem dX4_operators_17 : decode cX4_operators 17 = .ok (.ireturn, 1) := by decide +kernel
theorem dX4_isDeclared_0 : decode cX4_isDeclared 0 = .ok (.aload_n 0, 1) := by decide +kernel
theorem dX4_isDeclared_1 : decode cX4_isDeclared 1 = .ok (.getfield 9, 3) := by decide +kernel
theorem dX4_isDeclared_4 : decode cX4_isDeclared 4 = .ok (.iload_n 1, 1) := by decide +kernel
theorem dX4_isDeclared_5 : decode cX4_isDeclared 5 = .ok (.iaload, 1) := by decide +kernel
theorem dX4_isDeclared_6 : decode cX4_isDeclared 6 = .ok (.iconst (-1), 1) := by decide +kernel
theorem dX4_isDeclared_7 : decode cX4_isDeclared 7 = .ok (.if_icmp .eq 7, 3) := by decide +kernel
theorem dX4_isDeclared_10 : decode cX4_isDeclared 10 = .ok (.iconst 1, 1) := by decide +kernel
theorem dX4_isDeclared_11 : decode cX4_isDeclared 11 = .ok (.goto 4, 3) := by decide +kernel
theorem dX4_isDeclared_14 : decode cX4_isDeclared 14 = .ok (.iconst 0, 1) := by decide +kernel
theorem dX4_isDeclared_15 : decode cX4_isDeclared 15 = .ok (.ireturn, 1) := by decide +kernel
theorem dX4_putOperand_0 : decode cX4_putOperand 0 = .ok (.iload_n 2, 1) := by decide +kernel
theorem dX4_putOperand_1 : decode cX4_putOperand 1 = .ok (.bipush 97, 2) := by decide +kernel
theorem dX4_putOperand_3 : decode cX4_putOperand 3 = .ok (.if_icmp .lt 9, 3) := by decide +kernel
theorem dX4_putOperand_6 : decode cX4_putOperand 6 = .ok (.iload_n 2, 1) := by decide +kernel
theorem dX4_putOperand_7 : decode cX4_putOperand 7 = .ok (.bipush 122, 2) := by decide +kernel
theorem dX4_putOperand_9 : decode cX4_putOperand 9 = .ok (.if_icmp .le 5, 3) := by decide +kernel
theorem dX4_putOperand_12 : decode cX4_putOperand 12 = .ok (.iconst 0, 1) := by decide +kernel
theorem dX4_putOperand_13 : decode cX4_putOperand 13 = .ok (.ireturn, 1) := by decide +kernel
theorem dX4_putOperand_14 : decode cX4_putOperand 14 = .ok (.aload_n 0, 1) := by decide +kernel
theorem dX4_putOperand_15 : decode cX4_putOperand 15 = .ok (.getfield 21, 3) := by decide +kernel
theorem dX4_putOperand_18 : decode cX4_putOperand 18 = .ok (.iload_n 1, 1) := by decide +kernel
theorem dX4_putOperand_19 : decode cX4_putOperand 19 = .ok (.iload_n 2, 1) := by decide +kernel
theorem dX4_putOperand_20 : decode cX4_putOperand 20 = .ok (.bipush 97, 2) := by decide +kernel
theorem dX4_putOperand_22 : decode cX4_putOperand 22 = .ok (.isub, 1) := by decide +kernel
theorem dX4_putOperand_23 : decode cX4_putOperand 23 = .ok (.iastore, 1) := by decide +kernel
theorem dX4_putOperand_24 : decode cX4_putOperand 24 = .ok (.iconst 1, 1) := by decide +kernel
theorem dX4_putOperand_25 : decode cX4_putOperand 25 = .ok (.ireturn, 1) := by decide +kernel
theorem dX4_putOperator_0 : decode cX4_putOperator 0 = .ok (.ldc 44, 2) := by decide +kernel
theorem dX4_putOperator_2 : decode cX4_putOperator 2 = .ok (.iload_n 2, 1) := by decide +kernel
theorem dX4_putOperator_3 : decode cX4_putOperator 3 = .ok (.invokevirtual 46, 3) := by decide +kernel
theorem dX4_putOperator_6 : decode cX4_putOperator 6 = .ok (.istore_n 3, 1) := by decide +kernel
theorem dX4_putOperator_7 : decode cX4_putOperator 7 = .ok (.iload_n 3, 1) := by decide +kernel
theorem dX4_putOperator_8 : decode cX4_putOperator 8 = .ok (.ifCond .lt 11, 3) := by decide +kernel
theorem dX4_putOperator_11 : decode cX4_putOperator 11 = .ok (.aload_n 0, 1) := by decide +kernel
theorem dX4_putOperator_12 : decode cX4_putOperator 12 = .ok (.iload_n 3, 1) := by decide +kernel
theorem dX4_putOperator_13 : decode cX4_putOperator 13 = .ok (.invokevirtual 52, 3) := by decide +kernel
theorem dX4_putOperator_16 : decode cX4_putOperator 16 = .ok (.ifCond .ne 5, 3) := by decide +kernel
theorem dX4_putOperator_19 : decode cX4_putOperator 19 = .ok (.iconst 0, 1) := by decide +kernel
theorem dX4_putOperator_20 : decode cX4_putOperator 20 = .ok (.ireturn, 1) := by decide +kernel
theorem dX4_putOperator_21 : decode cX4_putOperator 21 = .ok (.aload_n 0, 1) := by decide +kernel
theorem dX4_putOperator_22 : decode cX4_putOperator 22 = .ok (.getfield 18, 3) := by decide +kernel
theorem dX4_putOperator_25 : decode cX4_putOperator 25 = .ok (.iload_n 1, 1) := by decide +kernel
theorem dX4_putOperator_26 : decode cX4_putOperator 26 = .ok (.iload_n 3, 1) := by decide +kernel
theorem dX4_putOperator_27 : decode cX4_putOperator 27 = .ok (.iastore, 1) := by decide +kernel
theorem dX4_putOperator_28 : decode cX4_putOperator 28 = .ok (.iconst 1, 1) := by decide +kernel
theorem dX4_putOperator_29 : decode cX4_putOperator 29 = .ok (.ireturn, 1) := by decide +kernel
theorem dX4_operatorsWith_0 : decode cX4_operatorsWith 0 = .ok (.iconst 0, 1) := by decide +kernel
theorem dX4_operatorsWith_1 : decode cX4_operatorsWith 1 = .ok (.istore_n 2, 1) := by decide +kernel
theorem dX4_operatorsWith_2 : decode cX4_operatorsWith 2 = .ok (.iconst 0, 1) := by decide +kernel
theorem dX4_operatorsWith_3 : decode cX4_operatorsWith 3 = .ok (.istore_n 3, 1) := by decide +kernel
theorem dX4_operatorsWith_4 : decode cX4_operatorsWith 4 = .ok (.iload_n 3, 1) := by decide +kernel
theorem dX4_operatorsWith_5 : decode cX4_operatorsWith 5 = .ok (.aload_n 0, 1) := by decide +kernel
theorem dX4_operatorsWith_6 : decode cX4_operatorsWith 6 = .ok (.invokevirtual 56, 3) := by decide +kernel
theorem dX4_operatorsWith_9 : decode cX4_operatorsWith 9 = .ok (.if_icmp .ge 25, 3) := by decide +kernel
theorem dX4_operatorsWith_12 : decode cX4_operatorsWith 12 = .ok (.aload_n 0, 1) := by decide +kernel
theorem dX4_operatorsWith_13 : decode cX4_operatorsWith 13 = .ok (.getfield 18, 3) := by decide +kernel
theorem dX4_operatorsWith_16 : decode cX4_operatorsWith 16 = .ok (.iload_n 3, 1) := by decide +kernel
theorem dX4_operatorsWith_17 : decode cX4_operatorsWith 17 = .ok (.iaload, 1) := by decide +kernel
theorem dX4_operatorsWith_18 : decode cX4_operatorsWith 18 = .ok (.iload_n 1, 1) := by decide +kernel
theorem dX4_operatorsWith_19 : decode cX4_operatorsWith 19 = .ok (.if_icmp .ne 9, 3) := by decide +kernel
theorem dX4_operatorsWith_22 : decode cX4_operatorsWith 22 = .ok (.iload_n 2, 1) := by decide +kernel
theorem dX4_operatorsWith_23 : decode cX4_operatorsWith 23 = .ok (.iconst 1, 1) := by decide +kernel
theorem dX4_operatorsWith_24 : decode cX4_operatorsWith 24 = .ok (.iload_n 3, 1) := by decide +kernel
theorem dX4_operatorsWith_25 : decode cX4_operatorsWith 25 = .ok (.ishl, 1) := by decide +kernel
theorem dX4_operatorsWith_26 : decode cX4_operatorsWith 26 = .ok (.ior, 1) := by decide +kernel
theorem dX4_operatorsWith_27 : decode cX4_operatorsWith 27 = .ok (.istore_n 2, 1) := by decide +kernel
theorem dX4_operatorsWith_28 : decode cX4_operatorsWith 28 = .ok (.iinc 3 1, 3) := by decide +kernel
theorem dX4_operatorsWith_31 : decode cX4_operatorsWith 31 = .ok (.goto (-27), 3) := by decide +kernel
theorem dX4_operatorsWith_34 : decode cX4_operatorsWith 34 = .ok (.iload_n 2, 1) := by decide +kernel
theorem dX4_operatorsWith_35 : decode cX4_operatorsWith 35 = .ok (.ireturn, 1) := by decide +kernel
theorem dX5_init_0 : decode cX5_init 0 = .ok (.aload_n 0, 1) := by decide +kernel
theorem dX5_init_1 : decode cX5_init 1 = .ok (.invokespecial 3, 3) := by decide +kernel
theorem dX5_init_4 : decode cX5_init 4 = .ok (.aload_n 0, 1) := by decide +kernel
theorem dX5_init_5 : decode cX5_init 5 = .ok (.sipush 200, 3) := by decide +kernel
theorem dX5_init_8 : decode cX5_init 8 = .ok (.newarray .char, 2) := by decide +kernel
theorem dX5_init_10 : decode cX5_init 10 = .ok (.putfield 9, 3) := by decide +kernel
theorem dX5_init_13 : decode cX5_init 13 = .ok (.aload_n 0, 1) := by decide +kernel
theorem dX5_init_14 : decode cX5_init 14 = .ok (.iconst 0, 1) := by decide +kernel
theorem dX5_init_15 : decode cX5_init 15 = .ok (.putfield 15, 3) := by decide +kernel
theorem dX5_init_18 : decode cX5_init 18 = .ok (.return_, 1) := by decide +kernel
theorem dX5_put_0 : decode cX5_put 0 = .ok (.aload_n 0, 1) := by decide +kernel
theorem dX5_put_1 : decode cX5_put 1 = .ok (.getfield 15, 3) := by decide +kernel
theorem dX5_put_4 : decode cX5_put 4 = .ok (.sipush 200, 3) := by decide +kernel
theorem dX5_put_7 : decode cX5_put 7 = .ok (.if_icmp .lt 5, 3) := by decide +kernel
theorem dX5_put_10 : decode cX5_put 10 = .ok (.iconst 0, 1) := by decide +kernel
theorem dX5_put_11 : decode cX5_put 11 = .ok (.ireturn, 1) := by decide +kernel
theorem dX5_put_12 : decode cX5_put 12 = .ok (.aload_n 0, 1) := by decide +kernel
theorem dX5_put_13 : decode cX5_put 13 = .ok (.getfield 9, 3) := by decide +kernel
theorem dX5_put_16 : decode cX5_put 16 = .ok (.aload_n 0, 1) := by decide +kernel
theorem dX5_put_17 : decode cX5_put 17 = .ok (.getfield 15, 3) := by decide +kernel
theorem dX5_put_20 : decode cX5_put 20 = .ok (.iload_n 1, 1) := by decide +kernel
theorem dX5_put_21 : decode cX5_put 21 = .ok (.castore, 1) := by decide +kernel
theorem dX5_put_22 : decode cX5_put 22 = .ok (.aload_n 0, 1) := by decide +kernel
theorem dX5_put_23 : decode cX5_put 23 = .ok (.dup, 1) := by decide +kernel
theorem dX5_put_24 : decode cX5_put 24 = .ok (.getfield 15, 3) := by decide +kernel
theorem dX5_put_27 : decode cX5_put 27 = .ok (.iconst 1, 1) := by decide +kernel
theorem dX5_put_28 : decode cX5_put 28 = .ok (.iadd, 1) := by decide +kernel
theorem dX5_put_29 : decode cX5_put 29 = .ok (.putfield 15, 3) := by decide +kernel
theorem dX5_put_32 : decode cX5_put 32 = .ok (.iconst 1, 1) := by decide +kernel
theorem dX5_put_33 : decode cX5_put 33 = .ok (.ireturn, 1) := by decide +kernel
theorem dX5_empty_0 : decode cX5_empty 0 = .ok (.aload_n 0, 1) := by decide +kernel
theorem dX5_empty_1 : decode cX5_empty 1 = .ok (.iconst 0, 1) := by decide +kernel
theorem dX5_empty_2 : decode cX5_empty 2 = .ok (.putfield 15, 3) := by decide +kernel
theorem dX5_empty_5 : decode cX5_empty 5 = .ok (.return_, 1) := by decide +kernel
theorem dX5_parse_0 : decode cX5_parse 0 = .ok (.aload_n 1, 1) := by decide +kernel
theorem dX5_parse_1 : decode cX5_parse 1 = .ok (.invokevirtual 19, 3) := by decide +kernel
theorem dX5_parse_4 : decode cX5_parse 4 = .ok (.iconst 0, 1) := by decide +kernel
theorem dX5_parse_5 : decode cX5_parse 5 = .ok (.istore_n 2, 1) := by decide +kernel
theorem dX5_parse_6 : decode cX5_parse 6 = .ok (.iconst 0, 1) := by decide +kernel
theorem dX5_parse_7 : decode cX5_parse 7 = .ok (.istore_n 3, 1) := by decide +kernel
theorem dX5_parse_8 : decode cX5_parse 8 = .ok (.iload_n 3, 1) := by decide +kernel
theorem dX5_parse_9 : decode cX5_parse 9 = .ok (.aload_n 0, 1) := by decide +kernel
theorem dX5_parse_10 : decode cX5_parse 10 = .ok (.getfield 15, 3) := by decide +kernel
theorem dX5_parse_13 : decode cX5_parse 13 = .ok (.if_icmp .ge 36, 3) := by decide +kernel
theorem dX5_parse_16 : decode cX5_parse 16 = .ok (.aload_n 0, 1) := by decide +kernel
theorem dX5_parse_17 : decode cX5_parse 17 = .ok (.getfield 9, 3) := by decide +kernel
theorem dX5_parse_20 : decode cX5_parse 20 = .ok (.iload_n 3, 1) := by decide +kernel
theorem dX5_parse_21 : decode cX5_parse 21 = .ok (.caload, 1) := by decide +kernel
theorem dX5_parse_22 : decode cX5_parse 22 = .ok (.bipush 59, 2) := by decide +kernel
theorem dX5_parse_24 : decode cX5_parse 24 = .ok (.if_icmp .ne 19, 3) := by decide +kernel
theorem dX5_parse_27 : decode cX5_parse 27 = .ok (.aload_n 0, 1) := by decide +kernel
theorem dX5_parse_28 : decode cX5_parse 28 = .ok (.iload_n 2, 1) := by decide +kernel
theorem dX5_parse_29 : decode cX5_parse 29 = .ok (.iload_n 3, 1) := by decide +kernel
theorem dX5_parse_30 : decode cX5_parse 30 = .ok (.aload_n 1, 1) := by decide +kernel
theorem dX5_parse_31 : decode cX5_parse 31 = .ok (.invokevirtual 24, 3) := by decide +kernel
theorem dX5_parse_34 : decode cX5_parse 34 = .ok (.ifCond .ne 5, 3) := by decide +kernel
theorem dX5_parse_37 : decode cX5_parse 37 = .ok (.iload_n 2, 1) := by decide +kernel
theorem dX5_parse_38 : decode cX5_parse 38 = .ok (.ireturn, 1) := by decide +kernel
theorem dX5_parse_39 : decode cX5_parse 39 = .ok (.iload_n 3, 1) := by decide +kernel
theorem dX5_parse_40 : decode cX5_parse 40 = .ok (.iconst 1, 1) := by decide +kernel
theorem dX5_parse_41 : decode cX5_parse 41 = .ok (.iadd, 1) := by decide +kernel
theorem dX5_parse_42 : decode cX5_parse 42 = .ok (.istore_n 2, 1) := by decide +kernel
theorem dX5_parse_43 : decode cX5_parse 43 = .ok (.iinc 3 1, 3) := by decide +kernel
theorem dX5_parse_46 : decode cX5_parse 46 = .ok (.goto (-38), 3) := by decide +kernel
theorem dX5_parse_49 : decode cX5_parse 49 = .ok (.iload_n 2, 1) := by decide +kernel
theorem dX5_parse_50 : decode cX5_parse 50 = .ok (.aload_n 0, 1) := by decide +kernel
theorem dX5_parse_51 : decode cX5_parse 51 = .ok (.getfield 15, 3) := by decide +kernel
theorem dX5_parse_54 : decode cX5_parse 54 = .ok (.if_icmp .ge 7, 3) := by decide +kernel
theorem dX5_parse_57 : decode cX5_parse 57 = .ok (.iload_n 2, 1) := by decide +kernel
theorem dX5_parse_58 : decode cX5_parse 58 = .ok (.goto 5, 3) := by decide +kernel
theorem dX5_parse_61 : decode cX5_parse 61 = .ok (.bipush (-4), 2) := by decide +kernel
theorem dX5_parse_63 : decode cX5_parse 63 = .ok (.ireturn, 1) := by decide +kernel
theorem dX5_parseStatement_0 : decode cX5_parseStatement 0 = .ok (.aload_n 0, 1) := by decide +kernel
theorem dX5_parseStatement_1 : decode cX5_parseStatement 1 = .ok (.ldc 28, 2) := by decide +kernel
theorem dX5_parseStatement_3 : decode cX5_parseStatement 3 = .ok (.iload_n 1, 1) := by decide +kernel
theorem dX5_parseStatement_4 : decode cX5_parseStatement 4 = .ok (.iload_n 2, 1) := by decide +kernel
theorem dX5_parseStatement_5 : decode cX5_parseStatement 5 = .ok (.invokevirtual 30, 3) := by decide +kernel
theorem dX5_parseStatement_8 : decode cX5_parseStatement 8 = .ok (.ifCond .eq 13, 3) := by decide +kernel
theorem dX5_parseStatement_11 : decode cX5_parseStatement 11 = .ok (.aload_n 0, 1) := by decide +kernel
theorem dX5_parseStatement_12 : decode cX5_parseStatement 12 = .ok (.iload_n 1, 1) := by decide +kernel
theorem dX5_parseStatement_13 : decode cX5_parseStatement 13 = .ok (.iconst 2, 1) := by decide +kernel
theorem dX5_parseStatement_14 : decode cX5_parseStatement 14 = .ok (.iadd, 1) := by decide +kernel
theorem dX5_parseStatement_15 : decode cX5_parseStatement 15 = .ok (.iload_n 2, 1) := by decide +kernel
theorem dX5_parseStatement_16 : decode cX5_parseStatement 16 = .ok (.aload_n 3, 1) := by decide +kernel
theorem dX5_parseStatement_17 : decode cX5_parseStatement 17 = .ok (.invokevirtual 34, 3) := by decide +kernel
theorem dX5_parseStatement_20 : decode cX5_parseStatement 20 = .ok (.ireturn, 1) := by decide +kernel
theorem dX5_parseStatement_21 : decode cX5_parseStatement 21 = .ok (.aload_n 0, 1) := by decide +kernel
theorem dX5_parseStatement_22 : decode cX5_parseStatement 22 = .ok (.ldc 37, 2) := by decide +kernel
theorem dX5_parseStatement_24 : decode cX5_parseStatement 24 = .ok (.iload_n 1, 1) := by decide +kernel
theorem dX5_parseStatement_25 : decode cX5_parseStatement 25 = .ok (.iload_n 2, 1) := by decide +kernel
theorem dX5_parseStatement_26 : decode cX5_parseStatement 26 = .ok (.invokevirtual 30, 3) := by decide +kernel
theorem dX5_parseStatement_29 : decode cX5_parseStatement 29 = .ok (.ifCond .eq 19, 3) := by decide +kernel
theorem dX5_parseStatement_32 : decode cX5_parseStatement 32 = .ok (.aload_n 0, 1) := by decide +kernel
theorem dX5_parseStatement_33 : decode cX5_parseStatement 33 = .ok (.iload_n 1, 1) := by decide +kernel
theorem dX5_parseStatement_34 : decode cX5_parseStatement 34 = .ok (.iconst 4, 1) := by decide +kernel
theorem dX5_parseStatement_35 : decode cX5_parseStatement 35 = .ok (.iadd, 1) := by decide +kernel
theorem dX5_parseStatement_36 : decode cX5_parseStatement 36 = .ok (.iload_n 2, 1) := by decide +kernel
theorem dX5_parseStatement_37 : decode cX5_parseStatement 37 = .ok (.aload_n 3, 1) := by decide +kernel
theorem dX5_parseStatement_38 : decode cX5_parseStatement 38 = .ok (.invokevirtual 39, 3) := by decide +kernel
theorem dX5_parseStatement_41 : decode cX5_parseStatement 41 = .ok (.ifCond .eq 7, 3) := by decide +kernel
theorem dX5_parseStatement_44 : decode cX5_parseStatement 44 = .ok (.iconst 1, 1) := by decide +kernel
theorem dX5_parseStatement_45 : decode cX5_parseStatement 45 = .ok (.goto 4, 3) := by decide +kernel
theorem dX5_parseStatement_48 : decode cX5_parseStatement 48 = .ok (.iconst 0, 1) := by decide +kernel
theorem dX5_parseStatement_49 : decode cX5_parseStatement 49 = .ok (.ireturn, 1) := by decide +kernel
theorem dX5_hasWord_0 : decode cX5_hasWord 0 = .ok (.iload_n 3, 1) := by decide +kernel
theorem dX5_hasWord_1 : decode cX5_hasWord 1 = .ok (.iload_n 2, 1) := by decide +kernel
theorem dX5_hasWord_2 : decode cX5_hasWord 2 = .ok (.isub, 1) := by decide +kernel
theorem dX5_hasWord_3 : decode cX5_hasWord 3 = .ok (.aload_n 1, 1) := by decide +kernel
theorem dX5_hasWord_4 : decode cX5_hasWord 4 = .ok (.invokevirtual 42, 3) := by decide +kernel
theorem dX5_hasWord_7 : decode cX5_hasWord 7 = .ok (.if_icmp .ge 5, 3) := by decide +kernel
theorem dX5_hasWord_10 : decode cX5_hasWord 10 = .ok (.iconst 0, 1) := by decide +kernel
theorem dX5_hasWord_11 : decode cX5_hasWord 11 = .ok (.ireturn, 1) := by decide +kernel
theorem dX5_hasWord_12 : decode cX5_hasWord 12 = .ok (.iconst 0, 1) := by decide +kernel
theorem dX5_hasWord_13 : decode cX5_hasWord 13 = .ok (.istore 4, 2) := by decide +kernel
theorem dX5_hasWord_15 : decode cX5_hasWord 15 = .ok (.iload 4, 2) := by decide +kernel
theorem dX5_hasWord_17 : decode cX5_hasWord 17 = .ok (.aload_n 1, 1) := by decide +kernel
theorem dX5_hasWord_18 : decode cX5_hasWord 18 = .ok (.invokevirtual 42, 3) := by decide +kernel
theorem dX5_hasWord_21 : decode cX5_hasWord 21 = .ok (.if_icmp .ge 29, 3) := by decide +kernel
theorem dX5_hasWord_24 : decode cX5_hasWord 24 = .ok (.aload_n 0, 1) := by decide +kernel
theorem dX5_hasWord_25 : decode cX5_hasWord 25 = .ok (.getfield 9, 3) := by decide +kernel
theorem dX5_hasWord_28 : decode cX5_hasWord 28 = .ok (.iload_n 2, 1) := by decide +kernel
theorem dX5_hasWord_29 : decode cX5_hasWord 29 = .ok (.iload 4, 2) := by decide +kernel
theorem dX5_hasWord_31 : decode cX5_hasWord 31 = .ok (.iadd, 1) := by decide +kernel
theorem dX5_hasWord_32 : decode cX5_hasWord 32 = .ok (.caload, 1) := by decide +kernel
theorem dX5_hasWord_33 : decode cX5_hasWord 33 = .ok (.aload_n 1, 1) := by decide +kernel
theorem dX5_hasWord_34 : decode cX5_hasWord 34 = .ok (.iload 4, 2) := by decide +kernel
theorem dX5_hasWord_36 : decode cX5_hasWord 36 = .ok (.invokevirtual 47, 3) := by decide +kernel
theorem dX5_hasWord_39 : decode cX5_hasWord 39 = .ok (.if_icmp .eq 5, 3) := by decide +kernel
theorem dX5_hasWord_42 : decode cX5_hasWord 42 = .ok (.iconst 0, 1) := by decide +kernel
theorem dX5_hasWord_43 : decode cX5_hasWord 43 = .ok (.ireturn, 1) := by decide +kernel
theorem dX5_hasWord_44 : decode cX5_hasWord 44 = .ok (.iinc 4 1, 3) := by decide +kernel
theorem dX5_hasWord_47 : decode cX5_hasWord 47 = .ok (.goto (-32), 3) := by decide +kernel
theorem dX5_hasWord_50 : decode cX5_hasWord 50 = .ok (.iconst 1, 1) := by decide +kernel
theorem dX5_hasWord_51 : decode cX5_hasWord 51 = .ok (.ireturn, 1) := by decide +kernel
theorem dX5_parseDeclaration_0 : decode cX5_parseDeclaration 0 = .ok (.iload_n 2, 1) := by decide +kernel
theorem dX5_parseDeclaration_1 : decode cX5_parseDeclaration 1 = .ok (.iload_n 1, 1) := by decide +kernel
theorem dX5_parseDeclaration_2 : decode cX5_parseDeclaration 2 = .ok (.isub, 1) := by decide +kernel
theorem dX5_parseDeclaration_3 : decode cX5_parseDeclaration 3 = .ok (.iconst 3, 1) := by decide +kernel
theorem dX5_parseDeclaration_4 : decode cX5_parseDeclaration 4 = .ok (.if_icmp .eq 5, 3) := by decide +kernel
theorem dX5_parseDeclaration_7 : decode cX5_parseDeclaration 7 = .ok (.iconst 0, 1) := by decide +kernel
theorem dX5_parseDeclaration_8 : decode cX5_parseDeclaration 8 = .ok (.ireturn, 1) := by decide +kernel
theorem dX5_parseDeclaration_9 : decode cX5_parseDeclaration 9 = .ok (.ldc 51, 2) := by decide +kernel
theorem dX5_parseDeclaration_11 : decode cX5_parseDeclaration 11 = .ok (.aload_n 0, 1) := by decide +kernel
theorem dX5_parseDeclaration_12 : decode cX5_parseDeclaration 12 = .ok (.getfield 9, 3) := by decide +kernel
theorem dX5_parseDeclaration_15 : decode cX5_parseDeclaration 15 = .ok (.iload_n 1, 1) := by decide +kernel
theorem dX5_parseDeclaration_16 : decode cX5_parseDeclaration 16 = .ok (.caload, 1) := by decide +kernel
theorem dX5_parseDeclaration_17 : decode cX5_parseDeclaration 17 = .ok (.invokevirtual 53, 3) := by decide +kernel
theorem dX5_parseDeclaration_20 : decode cX5_parseDeclaration 20 = .ok (.istore 4, 2) := by decide +kernel
theorem dX5_parseDeclaration_22 : decode cX5_parseDeclaration 22 = .ok (.aload_n 0, 1) := by decide +kernel
theorem dX5_parseDeclaration_23 : decode cX5_parseDeclaration 23 = .ok (.getfield 9, 3) := by decide +kernel
theorem dX5_parseDeclaration_26 : decode cX5_parseDeclaration 26 = .ok (.iload_n 1, 1) := by decide +kernel
theorem dX5_parseDeclaration_27 : decode cX5_parseDeclaration 27 = .ok (.iconst 1, 1) := by decide +kernel
theorem dX5_parseDeclaration_28 : decode cX5_parseDeclaration 28 = .ok (.iadd, 1) := by decide +kernel
theorem dX5_parseDeclaration_29 : decode cX5_parseDeclaration 29 = .ok (.caload, 1) := by decide +kernel
theorem dX5_parseDeclaration_30 : decode cX5_parseDeclaration 30 = .ok (.istore 5, 2) := by decide +kernel
theorem dX5_parseDeclaration_32 : decode cX5_parseDeclaration 32 = .ok (.ldc 57, 2) := by decide +kernel
theorem dX5_parseDeclaration_34 : decode cX5_parseDeclaration 34 = .ok (.aload_n 0, 1) := by decide +kernel
theorem dX5_parseDeclaration_35 : decode cX5_parseDeclaration 35 = .ok (.getfield 9, 3) := by decide +kernel
theorem dX5_parseDeclaration_38 : decode cX5_parseDeclaration 38 = .ok (.iload_n 1, 1) := by decide +kernel
theorem dX5_parseDeclaration_39 : decode cX5_parseDeclaration 39 = .ok (.iconst 2, 1) := by decide +kernel
theorem dX5_parseDeclaration_40 : decode cX5_parseDeclaration 40 = .ok (.iadd, 1) := by decide +kernel
theorem dX5_parseDeclaration_41 : decode cX5_parseDeclaration 41 = .ok (.caload, 1) := by decide +kernel
theorem dX5_parseDeclaration_42 : decode cX5_parseDeclaration 42 = .ok (.invokevirtual 53, 3) := by decide +kernel
theorem dX5_parseDeclaration_45 : decode cX5_parseDeclaration 45 = .ok (.istore 6, 2) := by decide +kernel
theorem dX5_parseDeclaration_47 : decode cX5_parseDeclaration 47 = .ok (.iload 4, 2) := by decide +kernel
theorem dX5_parseDeclaration_49 : decode cX5_parseDeclaration 49 = .ok (.ifCond .lt 22, 3) := by decide +kernel
theorem dX5_parseDeclaration_52 : decode cX5_parseDeclaration 52 = .ok (.iload 5, 2) := by decide +kernel
theorem dX5_parseDeclaration_54 : decode cX5_parseDeclaration 54 = .ok (.bipush 48, 2) := by decide +kernel
theorem dX5_parseDeclaration_56 : decode cX5_parseDeclaration 56 = .ok (.if_icmp .lt 15, 3) := by decide +kernel
theorem dX5_parseDeclaration_59 : decode cX5_parseDeclaration 59 = .ok (.iload 5, 2) := by decide +kernel
theorem dX5_parseDeclaration_61 : decode cX5_parseDeclaration 61 = .ok (.bipush 57, 2) := by decide +kernel
theorem dX5_parseDeclaration_63 : decode cX5_parseDeclaration 63 = .ok (.if_icmp .gt 8, 3) := by decide +kernel
theorem dX5_parseDeclaration_66 : decode cX5_parseDeclaration 66 = .ok (.iload 6, 2) := by decide +kernel
theorem dX5_parseDeclaration_68 : decode cX5_parseDeclaration 68 = .ok (.ifCond .ge 5, 3) := by decide +kernel
theorem dX5_parseDeclaration_71 : decode cX5_parseDeclaration 71 = .ok (.iconst 0, 1) := by decide +kernel
theorem dX5_parseDeclaration_72 : decode cX5_parseDeclaration 72 = .ok (.ireturn, 1) := by decide +kernel
theorem dX5_parseDeclaration_73 : decode cX5_parseDeclaration 73 = .ok (.aload_n 3, 1) := by decide +kernel
theorem dX5_parseDeclaration_74 : decode cX5_parseDeclaration 74 = .ok (.getfield 59, 3) := by decide +kernel
theorem dX5_parseDeclaration_77 : decode cX5_parseDeclaration 77 = .ok (.iload 4, 2) := by decide +kernel
theorem dX5_parseDeclaration_79 : decode cX5_parseDeclaration 79 = .ok (.iload 5, 2) := by decide +kernel
theorem dX5_parseDeclaration_81 : decode cX5_parseDeclaration 81 = .ok (.bipush 48, 2) := by decide +kernel
theorem dX5_parseDeclaration_83 : decode cX5_parseDeclaration 83 = .ok (.isub, 1) := by decide +kernel
theorem dX5_parseDeclaration_84 : decode cX5_parseDeclaration 84 = .ok (.iastore, 1) := by decide +kernel
theorem dX5_parseDeclaration_85 : decode cX5_parseDeclaration 85 = .ok (.aload_n 3, 1) := by decide +kernel
theorem dX5_parseDeclaration_86 : decode cX5_parseDeclaration 86 = .ok (.getfield 63, 3) := by decide +kernel
theorem dX5_parseDeclaration_89 : decode cX5_parseDeclaration 89 = .ok (.iload 4, 2) := by decide +kernel
theorem dX5_parseDeclaration_91 : decode cX5_parseDeclaration 91 = .ok (.iload 6, 2) := by decide +kernel
theorem dX5_parseDeclaration_93 : decode cX5_parseDeclaration 93 = .ok (.iastore, 1) := by decide +kernel
theorem dX5_parseDeclaration_94 : decode cX5_parseDeclaration 94 = .ok (.iconst 1, 1) := by decide +kernel
theorem dX5_parseDeclaration_95 : decode cX5_parseDeclaration 95 = .ok (.ireturn, 1) := by decide +kernel
theorem dX5_parseExpression_0 : decode cX5_parseExpression 0 = .ok (.iload_n 2, 1) := by decide +kernel
theorem dX5_parseExpression_1 : decode cX5_parseExpression 1 = .ok (.iload_n 1, 1) := by decide +kernel
theorem dX5_parseExpression_2 : decode cX5_parseExpression 2 = .ok (.isub, 1) := by decide +kernel
theorem dX5_parseExpression_3 : decode cX5_parseExpression 3 = .ok (.istore 4, 2) := by decide +kernel
theorem dX5_parseExpression_5 : decode cX5_parseExpression 5 = .ok (.aload_n 3, 1) := by decide +kernel
theorem dX5_parseExpression_6 : decode cX5_parseExpression 6 = .ok (.invokevirtual 66, 3) := by decide +kernel
theorem dX5_parseExpression_9 : decode cX5_parseExpression 9 = .ok (.ifCond .ne 17, 3) := by decide +kernel
theorem dX5_parseExpression_12 : decode cX5_parseExpression 12 = .ok (.iload 4, 2) := by decide +kernel
theorem dX5_parseExpression_14 : decode cX5_parseExpression 14 = .ok (.iconst 2, 1) := by decide +kernel
theorem dX5_parseExpression_15 : decode cX5_parseExpression 15 = .ok (.irem, 1) := by decide +kernel
theorem dX5_parseExpression_16 : decode cX5_parseExpression 16 = .ok (.ifCond .eq 10, 3) := by decide +kernel
theorem dX5_parseExpression_19 : decode cX5_parseExpression 19 = .ok (.iload 4, 2) := by decide +kernel
theorem dX5_parseExpression_21 : decode cX5_parseExpression 21 = .ok (.bipush 21, 2) := by decide +kernel
theorem dX5_parseExpression_23 : decode cX5_parseExpression 23 = .ok (.if_icmp .le 5, 3) := by decide +kernel
theorem dX5_parseExpression_26 : decode cX5_parseExpression 26 = .ok (.iconst 0, 1) := by decide +kernel
theorem dX5_parseExpression_27 : decode cX5_parseExpression 27 = .ok (.ireturn, 1) := by decide +kernel
theorem dX5_parseExpression_28 : decode cX5_parseExpression 28 = .ok (.iconst 0, 1) := by decide +kernel
theorem dX5_parseExpression_29 : decode cX5_parseExpression 29 = .ok (.istore 5, 2) := by decide +kernel
theorem dX5_parseExpression_31 : decode cX5_parseExpression 31 = .ok (.iload 5, 2) := by decide +kernel
theorem dX5_parseExpression_33 : decode cX5_parseExpression 33 = .ok (.iload 4, 2) := by decide +kernel
theorem dX5_parseExpression_35 : decode cX5_parseExpression 35 = .ok (.if_icmp .ge 59, 3) := by decide +kernel
theorem dX5_parseExpression_38 : decode cX5_parseExpression 38 = .ok (.aload_n 0, 1) := by decide +kernel
theorem dX5_parseExpression_39 : decode cX5_parseExpression 39 = .ok (.getfield 9, 3) := by decide +kernel
theorem dX5_parseExpression_42 : decode cX5_parseExpression 42 = .ok (.iload_n 1, 1) := by decide +kernel
theorem dX5_parseExpression_43 : decode cX5_parseExpression 43 = .ok (.iload 5, 2) := by decide +kernel
theorem dX5_parseExpression_45 : decode cX5_parseExpression 45 = .ok (.iadd, 1) := by decide +kernel
theorem dX5_parseExpression_46 : decode cX5_parseExpression 46 = .ok (.caload, 1) := by decide +kernel
theorem dX5_parseExpression_47 : decode cX5_parseExpression 47 = .ok (.istore 6, 2) := by decide +kernel
theorem dX5_parseExpression_49 : decode cX5_parseExpression 49 = .ok (.iload 5, 2) := by decide +kernel
theorem dX5_parseExpression_51 : decode cX5_parseExpression 51 = .ok (.iconst 2, 1) := by decide +kernel
theorem dX5_parseExpression_52 : decode cX5_parseExpression 52 = .ok (.irem, 1) := by decide +kernel
theorem dX5_parseExpression_53 : decode cX5_parseExpression 53 = .ok (.ifCond .ne 16, 3) := by decide +kernel
theorem dX5_parseExpression_56 : decode cX5_parseExpression 56 = .ok (.aload_n 3, 1) := by decide +kernel
theorem dX5_parseExpression_57 : decode cX5_parseExpression 57 = .ok (.iload 5, 2) := by decide +kernel
theorem dX5_parseExpression_59 : decode cX5_parseExpression 59 = .ok (.iconst 2, 1) := by decide +kernel
theorem dX5_parseExpression_60 : decode cX5_parseExpression 60 = .ok (.idiv, 1) := by decide +kernel
theorem dX5_parseExpression_61 : decode cX5_parseExpression 61 = .ok (.iload 6, 2) := by decide +kernel
theorem dX5_parseExpression_63 : decode cX5_parseExpression 63 = .ok (.invokevirtual 70, 3) := by decide +kernel
theorem dX5_parseExpression_66 : decode cX5_parseExpression 66 = .ok (.goto 13, 3) := by decide +kernel
theorem dX5_parseExpression_69 : decode cX5_parseExpression 69 = .ok (.aload_n 3, 1) := by decide +kernel
theorem dX5_parseExpression_70 : decode cX5_parseExpression 70 = .ok (.iload 5, 2) := by decide +kernel
theorem dX5_parseExpression_72 : decode cX5_parseExpression 72 = .ok (.iconst 2, 1) := by decide +kernel
theorem dX5_parseExpression_73 : decode cX5_parseExpression 73 = .ok (.idiv, 1) := by decide +kernel
theorem dX5_parseExpression_74 : decode cX5_parseExpression 74 = .ok (.iload 6, 2) := by decide +kernel
theorem dX5_parseExpression_76 : decode cX5_parseExpression 76 = .ok (.invokevirtual 74, 3) := by decide +kernel
theorem dX5_parseExpression_79 : decode cX5_parseExpression 79 = .ok (.istore 7, 2) := by decide +kernel
theorem dX5_parseExpression_81 : decode cX5_parseExpression 81 = .ok (.iload 7, 2) := by decide +kernel
theorem dX5_parseExpression_83 : decode cX5_parseExpression 83 = .ok (.ifCond .ne 5, 3) := by decide +kernel
theorem dX5_parseExpression_86 : decode cX5_parseExpression 86 = .ok (.iconst 0, 1) := by decide +kernel
theorem dX5_parseExpression_87 : decode cX5_parseExpression 87 = .ok (.ireturn, 1) := by decide +kernel
theorem dX5_parseExpression_88 : decode cX5_parseExpression 88 = .ok (.iinc 5 1, 3) := by decide +kernel
theorem dX5_parseExpression_91 : decode cX5_parseExpression 91 = .ok (.goto (-60), 3) := by decide +kernel
theorem dX5_parseExpression_94 : decode cX5_parseExpression 94 = .ok (.aload_n 3, 1) := by decide +kernel
theorem dX5_parseExpression_95 : decode cX5_parseExpression 95 = .ok (.iload 4, 2) := by decide +kernel
theorem dX5_parseExpression_97 : decode cX5_parseExpression 97 = .ok (.iconst 2, 1) := by decide +kernel
theorem dX5_parseExpression_98 : decode cX5_parseExpression 98 = .ok (.idiv, 1) := by decide +kernel
theorem dX5_parseExpression_99 : decode cX5_parseExpression 99 = .ok (.iconst 1, 1) := by decide +kernel
theorem dX5_parseExpression_100 : decode cX5_parseExpression 100 = .ok (.iadd, 1) := by decide +kernel
theorem dX5_parseExpression_101 : decode cX5_parseExpression 101 = .ok (.putfield 77, 3) := by decide +kernel
theorem dX5_parseExpression_104 : decode cX5_parseExpression 104 = .ok (.iconst 1, 1) := by decide +kernel
theorem dX5_parseExpression_105 : decode cX5_parseExpression 105 = .ok (.ireturn, 1) := by decide +kernel
theorem dX6_init_0 : decode cX6_init 0 = .ok (.aload_n 0, 1) := by decide +kernel
theorem dX6_init_1 : decode cX6_init 1 = .ok (.invokespecial 3, 3) := by decide +kernel
theorem dX6_init_4 : decode cX6_init 4 = .ok (.aload_n 0, 1) := by decide +kernel
theorem dX6_init_5 : decode cX6_init 5 = .ok (.iconst 0, 1) := by decide +kernel
theorem dX6_init_6 : decode cX6_init 6 = .ok (.putfield 9, 3) := by decide +kernel
theorem dX6_init_9 : decode cX6_init 9 = .ok (.aload_n 0, 1) := by decide +kernel
theorem dX6_init_10 : decode cX6_init 10 = .ok (.bipush 121, 2) := by decide +kernel
theorem dX6_init_12 : decode cX6_init 12 = .ok (.newarray .int, 2) := by decide +kernel
theorem dX6_init_14 : decode cX6_init 14 = .ok (.putfield 15, 3) := by decide +kernel
theorem dX6_init_17 : decode cX6_init 17 = .ok (.aload_n 0, 1) := by decide +kernel
theorem dX6_init_18 : decode cX6_init 18 = .ok (.bipush 121, 2) := by decide +kernel
theorem dX6_init_20 : decode cX6_init 20 = .ok (.newarray .int, 2) := by decide +kernel
theorem dX6_init_22 : decode cX6_init 22 = .ok (.putfield 19, 3) := by decide +kernel
theorem dX6_init_25 : decode cX6_init 25 = .ok (.aload_n 0, 1) := by decide +kernel
theorem dX6_init_26 : decode cX6_init 26 = .ok (.bipush 121, 2) := by decide +kernel
theorem dX6_init_28 : decode cX6_init 28 = .ok (.newarray .int, 2) := by decide +kernel
theorem dX6_init_30 : decode cX6_init 30 = .ok (.putfield 22, 3) := by decide +kernel
theorem dX6_init_33 : decode cX6_init 33 = .ok (.aload_n 0, 1) := by decide +kernel
theorem dX6_init_34 : decode cX6_init 34 = .ok (.bipush 121, 2) := by decide +kernel
theorem dX6_init_36 : decode cX6_init 36 = .ok (.newarray .int, 2) := by decide +kernel
theorem dX6_init_38 : decode cX6_init 38 = .ok (.putfield 25, 3) := by decide +kernel
theorem dX6_init_41 : decode cX6_init 41 = .ok (.aload_n 0, 1) := by decide +kernel
theorem dX6_init_42 : decode cX6_init 42 = .ok (.bipush 121, 2) := by decide +kernel
theorem dX6_init_44 : decode cX6_init 44 = .ok (.newarray .long, 2) := by decide +kernel
theorem dX6_init_46 : decode cX6_init 46 = .ok (.putfield 28, 3) := by decide +kernel
theorem dX6_init_49 : decode cX6_init 49 = .ok (.return_, 1) := by decide +kernel
theorem dX6_select_0 : decode cX6_select 0 = .ok (.aload_n 0, 1) := by decide +kernel
theorem dX6_select_1 : decode cX6_select 1 = .ok (.aload_n 1, 1) := by decide +kernel
theorem dX6_select_2 : decode cX6_select 2 = .ok (.getfield 32, 3) := by decide +kernel
theorem dX6_select_5 : decode cX6_select 5 = .ok (.putfield 9, 3) := by decide +kernel
theorem dX6_select_8 : decode cX6_select 8 = .ok (.aload_n 0, 1) := by decide +kernel
theorem dX6_select_9 : decode cX6_select 9 = .ok (.getfield 19, 3) := by decide +kernel
theorem dX6_select_12 : decode cX6_select 12 = .ok (.iconst (-1), 1) := by decide +kernel
theorem dX6_select_13 : decode cX6_select 13 = .ok (.invokestatic 35, 3) := by decide +kernel
theorem dX6_select_16 : decode cX6_select 16 = .ok (.aload_n 0, 1) := by decide +kernel
theorem dX6_select_17 : decode cX6_select 17 = .ok (.iconst 0, 1) := by decide +kernel
theorem dX6_select_18 : decode cX6_select 18 = .ok (.aload_n 0, 1) := by decide +kernel
theorem dX6_select_19 : decode cX6_select 19 = .ok (.getfield 9, 3) := by decide +kernel
theorem dX6_select_22 : decode cX6_select 22 = .ok (.iconst (-1), 1) := by decide +kernel
theorem dX6_select_23 : decode cX6_select 23 = .ok (.iload_n 2, 1) := by decide +kernel
theorem dX6_select_24 : decode cX6_select 24 = .ok (.invokevirtual 41, 3) := by decide +kernel
theorem dX6_select_27 : decode cX6_select 27 = .ok (.aload_n 0, 1) := by decide +kernel
theorem dX6_select_28 : decode cX6_select 28 = .ok (.getfield 9, 3) := by decide +kernel
theorem dX6_select_31 : decode cX6_select 31 = .ok (.istore_n 3, 1) := by decide +kernel
theorem dX6_select_32 : decode cX6_select 32 = .ok (.iload_n 3, 1) := by decide +kernel
theorem dX6_select_33 : decode cX6_select 33 = .ok (.ifCond .le 53, 3) := by decide +kernel
theorem dX6_select_36 : decode cX6_select 36 = .ok (.iconst 0, 1) := by decide +kernel
theorem dX6_select_37 : decode cX6_select 37 = .ok (.istore 4, 2) := by decide +kernel
theorem dX6_select_39 : decode cX6_select 39 = .ok (.iload 4, 2) := by decide +kernel
theorem dX6_select_41 : decode cX6_select 41 = .ok (.iload_n 3, 1) := by decide +kernel
theorem dX6_select_42 : decode cX6_select 42 = .ok (.iadd, 1) := by decide +kernel
theorem dX6_select_43 : decode cX6_select 43 = .ok (.aload_n 0, 1) := by decide +kernel
theorem dX6_select_44 : decode cX6_select 44 = .ok (.getfield 9, 3) := by decide +kernel
theorem dX6_select_47 : decode cX6_select 47 = .ok (.if_icmp .gt 33, 3) := by decide +kernel
theorem dX6_select_50 : decode cX6_select 50 = .ok (.aload_n 0, 1) := by decide +kernel
theorem dX6_select_51 : decode cX6_select 51 = .ok (.iload 4, 2) := by decide +kernel
theorem dX6_select_53 : decode cX6_select 53 = .ok (.iload 4, 2) := by decide +kernel
theorem dX6_select_55 : decode cX6_select 55 = .ok (.iload_n 3, 1) := by decide +kernel
theorem dX6_select_56 : decode cX6_select 56 = .ok (.iadd, 1) := by decide +kernel
theorem dX6_select_57 : decode cX6_select 57 = .ok (.invokevirtual 45, 3) := by decide +kernel
theorem dX6_select_60 : decode cX6_select 60 = .ok (.ifCond .eq 14, 3) := by decide +kernel
theorem dX6_select_63 : decode cX6_select 63 = .ok (.aload_n 0, 1) := by decide +kernel
theorem dX6_select_64 : decode cX6_select 64 = .ok (.aload_n 1, 1) := by decide +kernel
theorem dX6_select_65 : decode cX6_select 65 = .ok (.iload 4, 2) := by decide +kernel
theorem dX6_select_67 : decode cX6_select 67 = .ok (.iload 4, 2) := by decide +kernel
theorem dX6_select_69 : decode cX6_select 69 = .ok (.iload_n 3, 1) := by decide +kernel
theorem dX6_select_70 : decode cX6_select 70 = .ok (.iadd, 1) := by decide +kernel
theorem dX6_select_71 : decode cX6_select 71 = .ok (.invokevirtual 49, 3) := by decide +kernel
theorem dX6_select_74 : decode cX6_select 74 = .ok (.iinc 4 1, 3) := by decide +kernel
theorem dX6_select_77 : decode cX6_select 77 = .ok (.goto (-38), 3) := by decide +kernel
theorem dX6_select_80 : decode cX6_select 80 = .ok (.iinc 3 (-1), 3) := by decide +kernel
theorem dX6_select_83 : decode cX6_select 83 = .ok (.goto (-51), 3) := by decide +kernel
theorem dX6_select_86 : decode cX6_select 86 = .ok (.return_, 1) := by decide +kernel
theorem dX6_hasSubtree_0 : decode cX6_hasSubtree 0 = .ok (.aload_n 0, 1) := by decide +kernel
theorem dX6_hasSubtree_1 : decode cX6_hasSubtree 1 = .ok (.getfield 19, 3) := by decide +kernel
theorem dX6_hasSubtree_4 : decode cX6_hasSubtree 4 = .ok (.iload_n 1, 1) := by decide +kernel
theorem dX6_hasSubtree_5 : decode cX6_hasSubtree 5 = .ok (.iload_n 2, 1) := by decide +kernel
theorem dX6_hasSubtree_6 : decode cX6_hasSubtree 6 = .ok (.invokestatic 53, 3) := by decide +kernel
theorem dX6_hasSubtree_9 : decode cX6_hasSubtree 9 = .ok (.iaload, 1) := by decide +kernel
theorem dX6_hasSubtree_10 : decode cX6_hasSubtree 10 = .ok (.iconst (-1), 1) := by decide +kernel
theorem dX6_hasSubtree_11 : decode cX6_hasSubtree 11 = .ok (.if_icmp .eq 7, 3) := by decide +kernel
theorem dX6_hasSubtree_14 : decode cX6_hasSubtree 14 = .ok (.iconst 1, 1) := by decide +kernel
theorem dX6_hasSubtree_15 : decode cX6_hasSubtree 15 = .ok (.goto 4, 3) := by decide +kernel
theorem dX6_hasSubtree_18 : decode cX6_hasSubtree 18 = .ok (.iconst 0, 1) := by decide +kernel
theorem dX6_hasSubtree_19 : decode cX6_hasSubtree 19 = .ok (.ireturn, 1) := by decide +kernel
theorem dX6_putSubtree_0 : decode cX6_putSubtree 0 = .ok (.iload_n 1, 1) := by decide +kernel
theorem dX6_putSubtree_1 : decode cX6_putSubtree 1 = .ok (.iload_n 2, 1) := by decide +kernel
theorem dX6_putSubtree_2 : decode cX6_putSubtree 2 = .ok (.invokestatic 53, 3) := by decide +kernel
theorem dX6_putSubtree_5 : decode cX6_putSubtree 5 = .ok (.istore 5, 2) := by decide +kernel
theorem dX6_putSubtree_7 : decode cX6_putSubtree 7 = .ok (.aload_n 0, 1) := by decide +kernel
theorem dX6_putSubtree_8 : decode cX6_putSubtree 8 = .ok (.getfield 22, 3) := by decide +kernel
theorem dX6_putSubtree_11 : decode cX6_putSubtree 11 = .ok (.iload 5, 2) := by decide +kernel
theorem dX6_putSubtree_13 : decode cX6_putSubtree 13 = .ok (.iload_n 3, 1) := by decide +kernel
theorem dX6_putSubtree_14 : decode cX6_putSubtree 14 = .ok (.iastore, 1) := by decide +kernel
theorem dX6_putSubtree_15 : decode cX6_putSubtree 15 = .ok (.aload_n 0, 1) := by decide +kernel
theorem dX6_putSubtree_16 : decode cX6_putSubtree 16 = .ok (.getfield 19, 3) := by decide +kernel
theorem dX6_putSubtree_19 : decode cX6_putSubtree 19 = .ok (.iload 5, 2) := by decide +kernel
theorem dX6_putSubtree_21 : decode cX6_putSubtree 21 = .ok (.iload 4, 2) := by decide +kernel
theorem dX6_putSubtree_23 : decode cX6_putSubtree 23 = .ok (.iastore, 1) := by decide +kernel
theorem dX6_putSubtree_24 : decode cX6_putSubtree 24 = .ok (.return_, 1) := by decide +kernel
theorem dX6_splitSubtree_0 : decode cX6_splitSubtree 0 = .ok (.iload_n 2, 1) := by decide +kernel
theorem dX6_splitSubtree_1 : decode cX6_splitSubtree 1 = .ok (.iload_n 3, 1) := by decide +kernel
theorem dX6_splitSubtree_2 : decode cX6_splitSubtree 2 = .ok (.invokestatic 53, 3) := by decide +kernel
theorem dX6_splitSubtree_5 : decode cX6_splitSubtree 5 = .ok (.istore 4, 2) := by decide +kernel
theorem dX6_splitSubtree_7 : decode cX6_splitSubtree 7 = .ok (.aload_n 0, 1) := by decide +kernel
theorem dX6_splitSubtree_8 : decode cX6_splitSubtree 8 = .ok (.getfield 22, 3) := by decide +kernel
theorem dX6_splitSubtree_11 : decode cX6_splitSubtree 11 = .ok (.iload 4, 2) := by decide +kernel
theorem dX6_splitSubtree_13 : decode cX6_splitSubtree 13 = .ok (.iaload, 1) := by decide +kernel
theorem dX6_splitSubtree_14 : decode cX6_splitSubtree 14 = .ok (.istore 5, 2) := by decide +kernel
theorem dX6_splitSubtree_16 : decode cX6_splitSubtree 16 = .ok (.aload_n 0, 1) := by decide +kernel
theorem dX6_splitSubtree_17 : decode cX6_splitSubtree 17 = .ok (.getfield 19, 3) := by decide +kernel
theorem dX6_splitSubtree_20 : decode cX6_splitSubtree 20 = .ok (.iload 4, 2) := by decide +kernel
theorem dX6_splitSubtree_22 : decode cX6_splitSubtree 22 = .ok (.iaload, 1) := by decide +kernel
theorem dX6_splitSubtree_23 : decode cX6_splitSubtree 23 = .ok (.istore 6, 2) := by decide +kernel
theorem dX6_splitSubtree_25 : decode cX6_splitSubtree 25 = .ok (.iload_n 2, 1) := by decide +kernel
theorem dX6_splitSubtree_26 : decode cX6_splitSubtree 26 = .ok (.istore 7, 2) := by decide +kernel
theorem dX6_splitSubtree_28 : decode cX6_splitSubtree 28 = .ok (.iload 7, 2) := by decide +kernel
theorem dX6_splitSubtree_30 : decode cX6_splitSubtree 30 = .ok (.iload_n 3, 1) := by decide +kernel
theorem dX6_splitSubtree_31 : decode cX6_splitSubtree 31 = .ok (.iconst 1, 1) := by decide +kernel
theorem dX6_splitSubtree_32 : decode cX6_splitSubtree 32 = .ok (.isub, 1) := by decide +kernel
theorem dX6_splitSubtree_33 : decode cX6_splitSubtree 33 = .ok (.if_icmp .ge 39, 3) := by decide +kernel
theorem dX6_splitSubtree_36 : decode cX6_splitSubtree 36 = .ok (.iload 6, 2) := by decide +kernel
theorem dX6_splitSubtree_38 : decode cX6_splitSubtree 38 = .ok (.aload_n 1, 1) := by decide +kernel
theorem dX6_splitSubtree_39 : decode cX6_splitSubtree 39 = .ok (.iload_n 2, 1) := by decide +kernel
theorem dX6_splitSubtree_40 : decode cX6_splitSubtree 40 = .ok (.iload_n 3, 1) := by decide +kernel
theorem dX6_splitSubtree_41 : decode cX6_splitSubtree 41 = .ok (.iload 7, 2) := by decide +kernel
theorem dX6_splitSubtree_43 : decode cX6_splitSubtree 43 = .ok (.iload 5, 2) := by decide +kernel
theorem dX6_splitSubtree_45 : decode cX6_splitSubtree 45 = .ok (.invokevirtual 57, 3) := by decide +kernel
theorem dX6_splitSubtree_48 : decode cX6_splitSubtree 48 = .ok (.if_icmp .lt 24, 3) := by decide +kernel
theorem dX6_splitSubtree_51 : decode cX6_splitSubtree 51 = .ok (.iload 6, 2) := by decide +kernel
theorem dX6_splitSubtree_53 : decode cX6_splitSubtree 53 = .ok (.aload_n 1, 1) := by decide +kernel
theorem dX6_splitSubtree_54 : decode cX6_splitSubtree 54 = .ok (.iload_n 2, 1) := by decide +kernel
theorem dX6_splitSubtree_55 : decode cX6_splitSubtree 55 = .ok (.iload_n 3, 1) := by decide +kernel
theorem dX6_splitSubtree_56 : decode cX6_splitSubtree 56 = .ok (.iload 7, 2) := by decide +kernel
theorem dX6_splitSubtree_58 : decode cX6_splitSubtree 58 = .ok (.iload 5, 2) := by decide +kernel
theorem dX6_splitSubtree_60 : decode cX6_splitSubtree 60 = .ok (.invokevirtual 57, 3) := by decide +kernel
theorem dX6_splitSubtree_63 : decode cX6_splitSubtree 63 = .ok (.isub, 1) := by decide +kernel
theorem dX6_splitSubtree_64 : decode cX6_splitSubtree 64 = .ok (.istore 6, 2) := by decide +kernel
theorem dX6_splitSubtree_66 : decode cX6_splitSubtree 66 = .ok (.iinc 7 1, 3) := by decide +kernel
theorem dX6_splitSubtree_69 : decode cX6_splitSubtree 69 = .ok (.goto (-41), 3) := by decide +kernel
theorem dX6_splitSubtree_72 : decode cX6_splitSubtree 72 = .ok (.aload_n 0, 1) := by decide +kernel
theorem dX6_splitSubtree_73 : decode cX6_splitSubtree 73 = .ok (.getfield 15, 3) := by decide +kernel
theorem dX6_splitSubtree_76 : decode cX6_splitSubtree 76 = .ok (.iload 4, 2) := by decide +kernel
theorem dX6_splitSubtree_78 : decode cX6_splitSubtree 78 = .ok (.iload 7, 2) := by decide +kernel
theorem dX6_splitSubtree_80 : decode cX6_splitSubtree 80 = .ok (.iastore, 1) := by decide +kernel
theorem dX6_splitSubtree_81 : decode cX6_splitSubtree 81 = .ok (.aload_n 1, 1) := by decide +kernel
theorem dX6_splitSubtree_82 : decode cX6_splitSubtree 82 = .ok (.iload 7, 2) := by decide +kernel
theorem dX6_splitSubtree_84 : decode cX6_splitSubtree 84 = .ok (.iconst 1, 1) := by decide +kernel
theorem dX6_splitSubtree_85 : decode cX6_splitSubtree 85 = .ok (.iadd, 1) := by decide +kernel
theorem dX6_splitSubtree_86 : decode cX6_splitSubtree 86 = .ok (.iload_n 3, 1) := by decide +kernel
theorem dX6_splitSubtree_87 : decode cX6_splitSubtree 87 = .ok (.aload_n 1, 1) := by decide +kernel
theorem dX6_splitSubtree_88 : decode cX6_splitSubtree 88 = .ok (.getfield 61, 3) := by decide +kernel
theorem dX6_splitSubtree_91 : decode cX6_splitSubtree 91 = .ok (.iload 7, 2) := by decide +kernel
theorem dX6_splitSubtree_93 : decode cX6_splitSubtree 93 = .ok (.iaload, 1) := by decide +kernel
theorem dX6_splitSubtree_94 : decode cX6_splitSubtree 94 = .ok (.invokevirtual 64, 3) := by decide +kernel
theorem dX6_splitSubtree_97 : decode cX6_splitSubtree 97 = .ok (.istore 8, 2) := by decide +kernel
theorem dX6_splitSubtree_99 : decode cX6_splitSubtree 99 = .ok (.iload 8, 2) := by decide +kernel
theorem dX6_splitSubtree_101 : decode cX6_splitSubtree 101 = .ok (.ifCond .le 43, 3) := by decide +kernel
theorem dX6_splitSubtree_104 : decode cX6_splitSubtree 104 = .ok (.aload_n 0, 1) := by decide +kernel
theorem dX6_splitSubtree_105 : decode cX6_splitSubtree 105 = .ok (.iload_n 2, 1) := by decide +kernel
theorem dX6_splitSubtree_106 : decode cX6_splitSubtree 106 = .ok (.iload 7, 2) := by decide +kernel
theorem dX6_splitSubtree_108 : decode cX6_splitSubtree 108 = .ok (.aload_n 1, 1) := by decide +kernel
theorem dX6_splitSubtree_109 : decode cX6_splitSubtree 109 = .ok (.getfield 68, 3) := by decide +kernel
theorem dX6_splitSubtree_112 : decode cX6_splitSubtree 112 = .ok (.iload 7, 2) := by decide +kernel
theorem dX6_splitSubtree_114 : decode cX6_splitSubtree 114 = .ok (.iaload, 1) := by decide +kernel
theorem dX6_splitSubtree_115 : decode cX6_splitSubtree 115 = .ok (.iload 6, 2) := by decide +kernel
theorem dX6_splitSubtree_117 : decode cX6_splitSubtree 117 = .ok (.iload 8, 2) := by decide +kernel
theorem dX6_splitSubtree_119 : decode cX6_splitSubtree 119 = .ok (.idiv, 1) := by decide +kernel
theorem dX6_splitSubtree_120 : decode cX6_splitSubtree 120 = .ok (.invokevirtual 41, 3) := by decide +kernel
theorem dX6_splitSubtree_123 : decode cX6_splitSubtree 123 = .ok (.aload_n 0, 1) := by decide +kernel
theorem dX6_splitSubtree_124 : decode cX6_splitSubtree 124 = .ok (.iload 7, 2) := by decide +kernel
theorem dX6_splitSubtree_126 : decode cX6_splitSubtree 126 = .ok (.iconst 1, 1) := by decide +kernel
theorem dX6_splitSubtree_127 : decode cX6_splitSubtree 127 = .ok (.iadd, 1) := by decide +kernel
theorem dX6_splitSubtree_128 : decode cX6_splitSubtree 128 = .ok (.iload_n 3, 1) := by decide +kernel
theorem dX6_splitSubtree_129 : decode cX6_splitSubtree 129 = .ok (.aload_n 1, 1) := by decide +kernel
theorem dX6_splitSubtree_130 : decode cX6_splitSubtree 130 = .ok (.getfield 61, 3) := by decide +kernel
theorem dX6_splitSubtree_133 : decode cX6_splitSubtree 133 = .ok (.iload 7, 2) := by decide +kernel
theorem dX6_splitSubtree_135 : decode cX6_splitSubtree 135 = .ok (.iaload, 1) := by decide +kernel
theorem dX6_splitSubtree_136 : decode cX6_splitSubtree 136 = .ok (.iload 6, 2) := by decide +kernel
theorem dX6_splitSubtree_138 : decode cX6_splitSubtree 138 = .ok (.iload 8, 2) := by decide +kernel
theorem dX6_splitSubtree_140 : decode cX6_splitSubtree 140 = .ok (.irem, 1) := by decide +kernel
theorem dX6_splitSubtree_141 : decode cX6_splitSubtree 141 = .ok (.invokevirtual 41, 3) := by decide +kernel
theorem dX6_splitSubtree_144 : decode cX6_splitSubtree 144 = .ok (.return_, 1) := by decide +kernel
theorem dX6_operatorInPreorder_0 : decode cX6_operatorInPreorder 0 = .ok (.iconst 0, 1) := by decide +kernel
theorem dX6_operatorInPreorder_1 : decode cX6_operatorInPreorder 1 = .ok (.istore_n 2, 1) := by decide +kernel
theorem dX6_operatorInPreorder_2 : decode cX6_operatorInPreorder 2 = .ok (.aload_n 0, 1) := by decide +kernel
theorem dX6_operatorInPreorder_3 : decode cX6_operatorInPreorder 3 = .ok (.getfield 9, 3) := by decide +kernel
theorem dX6_operatorInPreorder_6 : decode cX6_operatorInPreorder 6 = .ok (.istore_n 3, 1) := by decide +kernel
theorem dX6_operatorInPreorder_7 : decode cX6_operatorInPreorder 7 = .ok (.iload_n 1, 1) := by decide +kernel
theorem dX6_operatorInPreorder_8 : decode cX6_operatorInPreorder 8 = .ok (.istore 4, 2) := by decide +kernel
theorem dX6_operatorInPreorder_10 : decode cX6_operatorInPreorder 10 = .ok (.iconst 0, 1) := by decide +kernel
theorem dX6_operatorInPreorder_11 : decode cX6_operatorInPreorder 11 = .ok (.istore 5, 2) := by decide +kernel
theorem dX6_operatorInPreorder_13 : decode cX6_operatorInPreorder 13 = .ok (.iload 5, 2) := by decide +kernel
theorem dX6_operatorInPreorder_15 : decode cX6_operatorInPreorder 15 = .ok (.aload_n 0, 1) := by decide +kernel
theorem dX6_operatorInPreorder_16 : decode cX6_operatorInPreorder 16 = .ok (.getfield 9, 3) := by decide +kernel
theorem dX6_operatorInPreorder_19 : decode cX6_operatorInPreorder 19 = .ok (.if_icmp .ge 69, 3) := by decide +kernel
theorem dX6_operatorInPreorder_22 : decode cX6_operatorInPreorder 22 = .ok (.iload 4, 2) := by decide +kernel
theorem dX6_operatorInPreorder_24 : decode cX6_operatorInPreorder 24 = .ok (.iload_n 3, 1) := by decide +kernel
theorem dX6_operatorInPreorder_25 : decode cX6_operatorInPreorder 25 = .ok (.iload_n 2, 1) := by decide +kernel
theorem dX6_operatorInPreorder_26 : decode cX6_operatorInPreorder 26 = .ok (.isub, 1) := by decide +kernel
theorem dX6_operatorInPreorder_27 : decode cX6_operatorInPreorder 27 = .ok (.if_icmp .ge 61, 3) := by decide +kernel
theorem dX6_operatorInPreorder_30 : decode cX6_operatorInPreorder 30 = .ok (.aload_n 0, 1) := by decide +kernel
theorem dX6_operatorInPreorder_31 : decode cX6_operatorInPreorder 31 = .ok (.getfield 15, 3) := by decide +kernel
theorem dX6_operatorInPreorder_34 : decode cX6_operatorInPreorder 34 = .ok (.iload_n 2, 1) := by decide +kernel
theorem dX6_operatorInPreorder_35 : decode cX6_operatorInPreorder 35 = .ok (.iload_n 3, 1) := by decide +kernel
theorem dX6_operatorInPreorder_36 : decode cX6_operatorInPreorder 36 = .ok (.invokestatic 53, 3) := by decide +kernel
theorem dX6_operatorInPreorder_39 : decode cX6_operatorInPreorder 39 = .ok (.iaload, 1) := by decide +kernel
theorem dX6_operatorInPreorder_40 : decode cX6_operatorInPreorder 40 = .ok (.istore 6, 2) := by decide +kernel
theorem dX6_operatorInPreorder_42 : decode cX6_operatorInPreorder 42 = .ok (.iload 4, 2) := by decide +kernel
theorem dX6_operatorInPreorder_44 : decode cX6_operatorInPreorder 44 = .ok (.ifCond .ne 6, 3) := by decide +kernel
theorem dX6_operatorInPreorder_47 : decode cX6_operatorInPreorder 47 = .ok (.iload 6, 2) := by decide +kernel
theorem dX6_operatorInPreorder_49 : decode cX6_operatorInPreorder 49 = .ok (.ireturn, 1) := by decide +kernel
theorem dX6_operatorInPreorder_50 : decode cX6_operatorInPreorder 50 = .ok (.iinc 4 (-1), 3) := by decide +kernel
theorem dX6_operatorInPreorder_53 : decode cX6_operatorInPreorder 53 = .ok (.iload 4, 2) := by decide +kernel
theorem dX6_operatorInPreorder_55 : decode cX6_operatorInPreorder 55 = .ok (.iload 6, 2) := by decide +kernel
theorem dX6_operatorInPreorder_57 : decode cX6_operatorInPreorder 57 = .ok (.iload_n 2, 1) := by decide +kernel
theorem dX6_operatorInPreorder_58 : decode cX6_operatorInPreorder 58 = .ok (.isub, 1) := by decide +kernel
theorem dX6_operatorInPreorder_59 : decode cX6_operatorInPreorder 59 = .ok (.if_icmp .ge 9, 3) := by decide +kernel
theorem dX6_operatorInPreorder_62 : decode cX6_operatorInPreorder 62 = .ok (.iload 6, 2) := by decide +kernel
theorem dX6_operatorInPreorder_64 : decode cX6_operatorInPreorder 64 = .ok (.istore_n 3, 1) := by decide +kernel
theorem dX6_operatorInPreorder_65 : decode cX6_operatorInPreorder 65 = .ok (.goto 17, 3) := by decide +kernel
theorem dX6_operatorInPreorder_68 : decode cX6_operatorInPreorder 68 = .ok (.iload 4, 2) := by decide +kernel
theorem dX6_operatorInPreorder_70 : decode cX6_operatorInPreorder 70 = .ok (.iload 6, 2) := by decide +kernel
theorem dX6_operatorInPreorder_72 : decode cX6_operatorInPreorder 72 = .ok (.iload_n 2, 1) := by decide +kernel
theorem dX6_operatorInPreorder_73 : decode cX6_operatorInPreorder 73 = .ok (.isub, 1) := by decide +kernel
theorem dX6_operatorInPreorder_74 : decode cX6_operatorInPreorder 74 = .ok (.isub, 1) := by decide +kernel
theorem dX6_operatorInPreorder_75 : decode cX6_operatorInPreorder 75 = .ok (.istore 4, 2) := by decide +kernel
theorem dX6_operatorInPreorder_77 : decode cX6_operatorInPreorder 77 = .ok (.iload 6, 2) := by decide +kernel
theorem dX6_operatorInPreorder_79 : decode cX6_operatorInPreorder 79 = .ok (.iconst 1, 1) := by decide +kernel
theorem dX6_operatorInPreorder_80 : decode cX6_operatorInPreorder 80 = .ok (.iadd, 1) := by decide +kernel
theorem dX6_operatorInPreorder_81 : decode cX6_operatorInPreorder 81 = .ok (.istore_n 2, 1) := by decide +kernel
theorem dX6_operatorInPreorder_82 : decode cX6_operatorInPreorder 82 = .ok (.iinc 5 1, 3) := by decide +kernel
theorem dX6_operatorInPreorder_85 : decode cX6_operatorInPreorder 85 = .ok (.goto (-72), 3) := by decide +kernel
theorem dX6_operatorInPreorder_88 : decode cX6_operatorInPreorder 88 = .ok (.bipush (-4), 2) := by decide +kernel
theorem dX6_operatorInPreorder_90 : decode cX6_operatorInPreorder 90 = .ok (.ireturn, 1) := by decide +kernel
theorem dX6_survives_0 : decode cX6_survives 0 = .ok (.iconst 1, 1) := by decide +kernel
theorem dX6_survives_1 : decode cX6_survives 1 = .ok (.istore_n 2, 1) := by decide +kernel
theorem dX6_survives_2 : decode cX6_survives 2 = .ok (.iload_n 2, 1) := by decide +kernel
theorem dX6_survives_3 : decode cX6_survives 3 = .ok (.aload_n 0, 1) := by decide +kernel
theorem dX6_survives_4 : decode cX6_survives 4 = .ok (.getfield 9, 3) := by decide +kernel
theorem dX6_survives_7 : decode cX6_survives 7 = .ok (.if_icmp .gt 52, 3) := by decide +kernel
theorem dX6_survives_10 : decode cX6_survives 10 = .ok (.iconst 0, 1) := by decide +kernel
theorem dX6_survives_11 : decode cX6_survives 11 = .ok (.istore_n 3, 1) := by decide +kernel
theorem dX6_survives_12 : decode cX6_survives 12 = .ok (.iload_n 3, 1) := by decide +kernel
theorem dX6_survives_13 : decode cX6_survives 13 = .ok (.iload_n 2, 1) := by decide +kernel
theorem dX6_survives_14 : decode cX6_survives 14 = .ok (.iadd, 1) := by decide +kernel
theorem dX6_survives_15 : decode cX6_survives 15 = .ok (.aload_n 0, 1) := by decide +kernel
theorem dX6_survives_16 : decode cX6_survives 16 = .ok (.getfield 9, 3) := by decide +kernel
theorem dX6_survives_19 : decode cX6_survives 19 = .ok (.if_icmp .gt 34, 3) := by decide +kernel
theorem dX6_survives_22 : decode cX6_survives 22 = .ok (.aload_n 0, 1) := by decide +kernel
theorem dX6_survives_23 : decode cX6_survives 23 = .ok (.iload_n 3, 1) := by decide +kernel
theorem dX6_survives_24 : decode cX6_survives 24 = .ok (.iload_n 3, 1) := by decide +kernel
theorem dX6_survives_25 : decode cX6_survives 25 = .ok (.iload_n 2, 1) := by decide +kernel
theorem dX6_survives_26 : decode cX6_survives 26 = .ok (.iadd, 1) := by decide +kernel
theorem dX6_survives_27 : decode cX6_survives 27 = .ok (.invokevirtual 45, 3) := by decide +kernel
theorem dX6_survives_30 : decode cX6_survives 30 = .ok (.ifCond .eq 17, 3) := by decide +kernel
theorem dX6_survives_33 : decode cX6_survives 33 = .ok (.aload_n 0, 1) := by decide +kernel
theorem dX6_survives_34 : decode cX6_survives 34 = .ok (.aload_n 1, 1) := by decide +kernel
theorem dX6_survives_35 : decode cX6_survives 35 = .ok (.iload_n 3, 1) := by decide +kernel
theorem dX6_survives_36 : decode cX6_survives 36 = .ok (.iload_n 3, 1) := by decide +kernel
theorem dX6_survives_37 : decode cX6_survives 37 = .ok (.iload_n 2, 1) := by decide +kernel
theorem dX6_survives_38 : decode cX6_survives 38 = .ok (.iadd, 1) := by decide +kernel
theorem dX6_survives_39 : decode cX6_survives 39 = .ok (.invokevirtual 71, 3) := by decide +kernel
theorem dX6_survives_42 : decode cX6_survives 42 = .ok (.ifCond .ne 5, 3) := by decide +kernel
theorem dX6_survives_45 : decode cX6_survives 45 = .ok (.iconst 0, 1) := by decide +kernel
theorem dX6_survives_46 : decode cX6_survives 46 = .ok (.ireturn, 1) := by decide +kernel
theorem dX6_survives_47 : decode cX6_survives 47 = .ok (.iinc 3 1, 3) := by decide +kernel
theorem dX6_survives_50 : decode cX6_survives 50 = .ok (.goto (-38), 3) := by decide +kernel
theorem dX6_survives_53 : decode cX6_survives 53 = .ok (.iinc 2 1, 3) := by decide +kernel
theorem dX6_survives_56 : decode cX6_survives 56 = .ok (.goto (-54), 3) := by decide +kernel
theorem dX6_survives_59 : decode cX6_survives 59 = .ok (.iconst 1, 1) := by decide +kernel
theorem dX6_survives_60 : decode cX6_survives 60 = .ok (.ireturn, 1) := by decide +kernel
theorem dX6_rootSurvives_0 : decode cX6_rootSurvives 0 = .ok (.aload_n 0, 1) := by decide +kernel
theorem dX6_rootSurvives_1 : decode cX6_rootSurvives 1 = .ok (.getfield 15, 3) := by decide +kernel
theorem dX6_rootSurvives_4 : decode cX6_rootSurvives 4 = .ok (.iload_n 2, 1) := by decide +kernel
theorem dX6_rootSurvives_5 : decode cX6_rootSurvives 5 = .ok (.iload_n 3, 1) := by decide +kernel
theorem dX6_rootSurvives_6 : decode cX6_rootSurvives 6 = .ok (.invokestatic 53, 3) := by decide +kernel
theorem dX6_rootSurvives_9 : decode cX6_rootSurvives 9 = .ok (.iaload, 1) := by decide +kernel
theorem dX6_rootSurvives_10 : decode cX6_rootSurvives 10 = .ok (.istore 4, 2) := by decide +kernel
theorem dX6_rootSurvives_12 : decode cX6_rootSurvives 12 = .ok (.aload_n 1, 1) := by decide +kernel
theorem dX6_rootSurvives_13 : decode cX6_rootSurvives 13 = .ok (.iload_n 2, 1) := by decide +kernel
theorem dX6_rootSurvives_14 : decode cX6_rootSurvives 14 = .ok (.iload_n 3, 1) := by decide +kernel
theorem dX6_rootSurvives_15 : decode cX6_rootSurvives 15 = .ok (.iload 4, 2) := by decide +kernel
theorem dX6_rootSurvives_17 : decode cX6_rootSurvives 17 = .ok (.invokevirtual 75, 3) := by decide +kernel
theorem dX6_rootSurvives_20 : decode cX6_rootSurvives 20 = .ok (.ifCond .eq 43, 3) := by decide +kernel
theorem dX6_rootSurvives_23 : decode cX6_rootSurvives 23 = .ok (.aload_n 0, 1) := by decide +kernel
theorem dX6_rootSurvives_24 : decode cX6_rootSurvives 24 = .ok (.iload_n 2, 1) := by decide +kernel
theorem dX6_rootSurvives_25 : decode cX6_rootSurvives 25 = .ok (.iload 4, 2) := by decide +kernel
theorem dX6_rootSurvives_27 : decode cX6_rootSurvives 27 = .ok (.aload_n 1, 1) := by decide +kernel
theorem dX6_rootSurvives_28 : decode cX6_rootSurvives 28 = .ok (.getfield 68, 3) := by decide +kernel
theorem dX6_rootSurvives_31 : decode cX6_rootSurvives 31 = .ok (.iload 4, 2) := by decide +kernel
theorem dX6_rootSurvives_33 : decode cX6_rootSurvives 33 = .ok (.iaload, 1) := by decide +kernel
theorem dX6_rootSurvives_34 : decode cX6_rootSurvives 34 = .ok (.invokevirtual 79, 3) := by decide +kernel
theorem dX6_rootSurvives_37 : decode cX6_rootSurvives 37 = .ok (.ifCond .eq 26, 3) := by decide +kernel
theorem dX6_rootSurvives_40 : decode cX6_rootSurvives 40 = .ok (.aload_n 0, 1) := by decide +kernel
theorem dX6_rootSurvives_41 : decode cX6_rootSurvives 41 = .ok (.iload 4, 2) := by decide +kernel
theorem dX6_rootSurvives_43 : decode cX6_rootSurvives 43 = .ok (.iconst 1, 1) := by decide +kernel
theorem dX6_rootSurvives_44 : decode cX6_rootSurvives 44 = .ok (.iadd, 1) := by decide +kernel
theorem dX6_rootSurvives_45 : decode cX6_rootSurvives 45 = .ok (.iload_n 3, 1) := by decide +kernel
theorem dX6_rootSurvives_46 : decode cX6_rootSurvives 46 = .ok (.aload_n 1, 1) := by decide +kernel
theorem dX6_rootSurvives_47 : decode cX6_rootSurvives 47 = .ok (.getfield 61, 3) := by decide +kernel
theorem dX6_rootSurvives_50 : decode cX6_rootSurvives 50 = .ok (.iload 4, 2) := by decide +kernel
theorem dX6_rootSurvives_52 : decode cX6_rootSurvives 52 = .ok (.iaload, 1) := by decide +kernel
theorem dX6_rootSurvives_53 : decode cX6_rootSurvives 53 = .ok (.invokevirtual 79, 3) := by decide +kernel
theorem dX6_rootSurvives_56 : decode cX6_rootSurvives 56 = .ok (.ifCond .eq 7, 3) := by decide +kernel
theorem dX6_rootSurvives_59 : decode cX6_rootSurvives 59 = .ok (.iconst 1, 1) := by decide +kernel
theorem dX6_rootSurvives_60 : decode cX6_rootSurvives 60 = .ok (.goto 4, 3) := by decide +kernel
theorem dX6_rootSurvives_63 : decode cX6_rootSurvives 63 = .ok (.iconst 0, 1) := by decide +kernel
theorem dX6_rootSurvives_64 : decode cX6_rootSurvives 64 = .ok (.ireturn, 1) := by decide +kernel
theorem dX6_childSurvives_0 : decode cX6_childSurvives 0 = .ok (.iload_n 1, 1) := by decide +kernel
theorem dX6_childSurvives_1 : decode cX6_childSurvives 1 = .ok (.iload_n 2, 1) := by decide +kernel
theorem dX6_childSurvives_2 : decode cX6_childSurvives 2 = .ok (.if_icmp .ge 20, 3) := by decide +kernel
theorem dX6_childSurvives_5 : decode cX6_childSurvives 5 = .ok (.aload_n 0, 1) := by decide +kernel
theorem dX6_childSurvives_6 : decode cX6_childSurvives 6 = .ok (.getfield 15, 3) := by decide +kernel
theorem dX6_childSurvives_9 : decode cX6_childSurvives 9 = .ok (.iload_n 1, 1) := by decide +kernel
theorem dX6_childSurvives_10 : decode cX6_childSurvives 10 = .ok (.iload_n 2, 1) := by decide +kernel
theorem dX6_childSurvives_11 : decode cX6_childSurvives 11 = .ok (.invokestatic 53, 3) := by decide +kernel
theorem dX6_childSurvives_14 : decode cX6_childSurvives 14 = .ok (.iaload, 1) := by decide +kernel
theorem dX6_childSurvives_15 : decode cX6_childSurvives 15 = .ok (.iload_n 3, 1) := by decide +kernel
theorem dX6_childSurvives_16 : decode cX6_childSurvives 16 = .ok (.invokestatic 82, 3) := by decide +kernel
theorem dX6_childSurvives_19 : decode cX6_childSurvives 19 = .ok (.ifCond .eq 7, 3) := by decide +kernel
theorem dX6_childSurvives_22 : decode cX6_childSurvives 22 = .ok (.iconst 1, 1) := by decide +kernel
theorem dX6_childSurvives_23 : decode cX6_childSurvives 23 = .ok (.goto 4, 3) := by decide +kernel
theorem dX6_childSurvives_26 : decode cX6_childSurvives 26 = .ok (.iconst 0, 1) := by decide +kernel
theorem dX6_childSurvives_27 : decode cX6_childSurvives 27 = .ok (.ireturn, 1) := by decide +kernel
theorem dX6_rankIn_0 : decode cX6_rankIn 0 = .ok (.iconst 1, 1) := by decide +kernel
theorem dX6_rankIn_1 : decode cX6_rankIn 1 = .ok (.istore_n 2, 1) := by decide +kernel
theorem dX6_rankIn_2 : decode cX6_rankIn 2 = .ok (.iload_n 2, 1) := by decide +kernel
theorem dX6_rankIn_3 : decode cX6_rankIn 3 = .ok (.aload_n 0, 1) := by decide +kernel
theorem dX6_rankIn_4 : decode cX6_rankIn 4 = .ok (.getfield 9, 3) := by decide +kernel
theorem dX6_rankIn_7 : decode cX6_rankIn 7 = .ok (.if_icmp .gt 47, 3) := by decide +kernel
theorem dX6_rankIn_10 : decode cX6_rankIn 10 = .ok (.iconst 0, 1) := by decide +kernel
theorem dX6_rankIn_11 : decode cX6_rankIn 11 = .ok (.istore_n 3, 1) := by decide +kernel
theorem dX6_rankIn_12 : decode cX6_rankIn 12 = .ok (.iload_n 3, 1) := by decide +kernel
theorem dX6_rankIn_13 : decode cX6_rankIn 13 = .ok (.iload_n 2, 1) := by decide +kernel
theorem dX6_rankIn_14 : decode cX6_rankIn 14 = .ok (.iadd, 1) := by decide +kernel
theorem dX6_rankIn_15 : decode cX6_rankIn 15 = .ok (.aload_n 0, 1) := by decide +kernel
theorem dX6_rankIn_16 : decode cX6_rankIn 16 = .ok (.getfield 9, 3) := by decide +kernel
theorem dX6_rankIn_19 : decode cX6_rankIn 19 = .ok (.if_icmp .gt 29, 3) := by decide +kernel
theorem dX6_rankIn_22 : decode cX6_rankIn 22 = .ok (.aload_n 0, 1) := by decide +kernel
theorem dX6_rankIn_23 : decode cX6_rankIn 23 = .ok (.iload_n 3, 1) := by decide +kernel
theorem dX6_rankIn_24 : decode cX6_rankIn 24 = .ok (.iload_n 3, 1) := by decide +kernel
theorem dX6_rankIn_25 : decode cX6_rankIn 25 = .ok (.iload_n 2, 1) := by decide +kernel
theorem dX6_rankIn_26 : decode cX6_rankIn 26 = .ok (.iadd, 1) := by decide +kernel
theorem dX6_rankIn_27 : decode cX6_rankIn 27 = .ok (.invokevirtual 45, 3) := by decide +kernel
theorem dX6_rankIn_30 : decode cX6_rankIn 30 = .ok (.ifCond .eq 12, 3) := by decide +kernel
theorem dX6_rankIn_33 : decode cX6_rankIn 33 = .ok (.aload_n 0, 1) := by decide +kernel
theorem dX6_rankIn_34 : decode cX6_rankIn 34 = .ok (.aload_n 1, 1) := by decide +kernel
theorem dX6_rankIn_35 : decode cX6_rankIn 35 = .ok (.iload_n 3, 1) := by decide +kernel
theorem dX6_rankIn_36 : decode cX6_rankIn 36 = .ok (.iload_n 3, 1) := by decide +kernel
theorem dX6_rankIn_37 : decode cX6_rankIn 37 = .ok (.iload_n 2, 1) := by decide +kernel
theorem dX6_rankIn_38 : decode cX6_rankIn 38 = .ok (.iadd, 1) := by decide +kernel
theorem dX6_rankIn_39 : decode cX6_rankIn 39 = .ok (.invokevirtual 85, 3) := by decide +kernel
theorem dX6_rankIn_42 : decode cX6_rankIn 42 = .ok (.iinc 3 1, 3) := by decide +kernel
theorem dX6_rankIn_45 : decode cX6_rankIn 45 = .ok (.goto (-33), 3) := by decide +kernel
theorem dX6_rankIn_48 : decode cX6_rankIn 48 = .ok (.iinc 2 1, 3) := by decide +kernel
theorem dX6_rankIn_51 : decode cX6_rankIn 51 = .ok (.goto (-49), 3) := by decide +kernel
theorem dX6_rankIn_54 : decode cX6_rankIn 54 = .ok (.aload_n 0, 1) := by decide +kernel
theorem dX6_rankIn_55 : decode cX6_rankIn 55 = .ok (.aload_n 1, 1) := by decide +kernel
theorem dX6_rankIn_56 : decode cX6_rankIn 56 = .ok (.iconst 0, 1) := by decide +kernel
theorem dX6_rankIn_57 : decode cX6_rankIn 57 = .ok (.aload_n 0, 1) := by decide +kernel
theorem dX6_rankIn_58 : decode cX6_rankIn 58 = .ok (.getfield 9, 3) := by decide +kernel
theorem dX6_rankIn_61 : decode cX6_rankIn 61 = .ok (.iconst (-1), 1) := by decide +kernel
theorem dX6_rankIn_62 : decode cX6_rankIn 62 = .ok (.invokevirtual 88, 3) := by decide +kernel
theorem dX6_rankIn_65 : decode cX6_rankIn 65 = .ok (.ireturn, 1) := by decide +kernel
theorem dX6_rankBelowRoot_0 : decode cX6_rankBelowRoot 0 = .ok (.iload_n 2, 1) := by decide +kernel
theorem dX6_rankBelowRoot_1 : decode cX6_rankBelowRoot 1 = .ok (.iload_n 3, 1) := by decide +kernel
theorem dX6_rankBelowRoot_2 : decode cX6_rankBelowRoot 2 = .ok (.invokestatic 53, 3) := by decide +kernel
theorem dX6_rankBelowRoot_5 : decode cX6_rankBelowRoot 5 = .ok (.istore 4, 2) := by decide +kernel
theorem dX6_rankBelowRoot_7 : decode cX6_rankBelowRoot 7 = .ok (.aload_n 0, 1) := by decide +kernel
theorem dX6_rankBelowRoot_8 : decode cX6_rankBelowRoot 8 = .ok (.getfield 15, 3) := by decide +kernel
theorem dX6_rankBelowRoot_11 : decode cX6_rankBelowRoot 11 = .ok (.iload 4, 2) := by decide +kernel
theorem dX6_rankBelowRoot_13 : decode cX6_rankBelowRoot 13 = .ok (.iaload, 1) := by decide +kernel
theorem dX6_rankBelowRoot_14 : decode cX6_rankBelowRoot 14 = .ok (.istore 5, 2) := by decide +kernel
theorem dX6_rankBelowRoot_16 : decode cX6_rankBelowRoot 16 = .ok (.aload_n 0, 1) := by decide +kernel
theorem dX6_rankBelowRoot_17 : decode cX6_rankBelowRoot 17 = .ok (.aload_n 1, 1) := by decide +kernel
theorem dX6_rankBelowRoot_18 : decode cX6_rankBelowRoot 18 = .ok (.iload_n 2, 1) := by decide +kernel
theorem dX6_rankBelowRoot_19 : decode cX6_rankBelowRoot 19 = .ok (.iload 5, 2) := by decide +kernel
theorem dX6_rankBelowRoot_21 : decode cX6_rankBelowRoot 21 = .ok (.aload_n 1, 1) := by decide +kernel
theorem dX6_rankBelowRoot_22 : decode cX6_rankBelowRoot 22 = .ok (.getfield 68, 3) := by decide +kernel
theorem dX6_rankBelowRoot_25 : decode cX6_rankBelowRoot 25 = .ok (.iload 5, 2) := by decide +kernel
theorem dX6_rankBelowRoot_27 : decode cX6_rankBelowRoot 27 = .ok (.iaload, 1) := by decide +kernel
theorem dX6_rankBelowRoot_28 : decode cX6_rankBelowRoot 28 = .ok (.invokevirtual 88, 3) := by decide +kernel
theorem dX6_rankBelowRoot_31 : decode cX6_rankBelowRoot 31 = .ok (.istore 6, 2) := by decide +kernel
theorem dX6_rankBelowRoot_33 : decode cX6_rankBelowRoot 33 = .ok (.aload_n 0, 1) := by decide +kernel
theorem dX6_rankBelowRoot_34 : decode cX6_rankBelowRoot 34 = .ok (.aload_n 1, 1) := by decide +kernel
theorem dX6_rankBelowRoot_35 : decode cX6_rankBelowRoot 35 = .ok (.iload 5, 2) := by decide +kernel
theorem dX6_rankBelowRoot_37 : decode cX6_rankBelowRoot 37 = .ok (.iconst 1, 1) := by decide +kernel
theorem dX6_rankBelowRoot_38 : decode cX6_rankBelowRoot 38 = .ok (.iadd, 1) := by decide +kernel
theorem dX6_rankBelowRoot_39 : decode cX6_rankBelowRoot 39 = .ok (.iload_n 3, 1) := by decide +kernel
theorem dX6_rankBelowRoot_40 : decode cX6_rankBelowRoot 40 = .ok (.aload_n 1, 1) := by decide +kernel
theorem dX6_rankBelowRoot_41 : decode cX6_rankBelowRoot 41 = .ok (.getfield 61, 3) := by decide +kernel
theorem dX6_rankBelowRoot_44 : decode cX6_rankBelowRoot 44 = .ok (.iload 5, 2) := by decide +kernel
theorem dX6_rankBelowRoot_46 : decode cX6_rankBelowRoot 46 = .ok (.iaload, 1) := by decide +kernel
theorem dX6_rankBelowRoot_47 : decode cX6_rankBelowRoot 47 = .ok (.invokevirtual 88, 3) := by decide +kernel
theorem dX6_rankBelowRoot_50 : decode cX6_rankBelowRoot 50 = .ok (.istore 7, 2) := by decide +kernel
theorem dX6_rankBelowRoot_52 : decode cX6_rankBelowRoot 52 = .ok (.aload_n 1, 1) := by decide +kernel
theorem dX6_rankBelowRoot_53 : decode cX6_rankBelowRoot 53 = .ok (.iload 5, 2) := by decide +kernel
theorem dX6_rankBelowRoot_55 : decode cX6_rankBelowRoot 55 = .ok (.iconst 1, 1) := by decide +kernel
theorem dX6_rankBelowRoot_56 : decode cX6_rankBelowRoot 56 = .ok (.iadd, 1) := by decide +kernel
theorem dX6_rankBelowRoot_57 : decode cX6_rankBelowRoot 57 = .ok (.iload_n 3, 1) := by decide +kernel
theorem dX6_rankBelowRoot_58 : decode cX6_rankBelowRoot 58 = .ok (.aload_n 1, 1) := by decide +kernel
theorem dX6_rankBelowRoot_59 : decode cX6_rankBelowRoot 59 = .ok (.getfield 61, 3) := by decide +kernel
theorem dX6_rankBelowRoot_62 : decode cX6_rankBelowRoot 62 = .ok (.iload 5, 2) := by decide +kernel
theorem dX6_rankBelowRoot_64 : decode cX6_rankBelowRoot 64 = .ok (.iaload, 1) := by decide +kernel
theorem dX6_rankBelowRoot_65 : decode cX6_rankBelowRoot 65 = .ok (.invokevirtual 64, 3) := by decide +kernel
theorem dX6_rankBelowRoot_68 : decode cX6_rankBelowRoot 68 = .ok (.istore 8, 2) := by decide +kernel
theorem dX6_rankBelowRoot_70 : decode cX6_rankBelowRoot 70 = .ok (.aload_n 0, 1) := by decide +kernel
theorem dX6_rankBelowRoot_71 : decode cX6_rankBelowRoot 71 = .ok (.getfield 25, 3) := by decide +kernel
theorem dX6_rankBelowRoot_74 : decode cX6_rankBelowRoot 74 = .ok (.iload 4, 2) := by decide +kernel
theorem dX6_rankBelowRoot_76 : decode cX6_rankBelowRoot 76 = .ok (.iload 6, 2) := by decide +kernel
theorem dX6_rankBelowRoot_78 : decode cX6_rankBelowRoot 78 = .ok (.iload 8, 2) := by decide +kernel
theorem dX6_rankBelowRoot_80 : decode cX6_rankBelowRoot 80 = .ok (.imul, 1) := by decide +kernel
theorem dX6_rankBelowRoot_81 : decode cX6_rankBelowRoot 81 = .ok (.iload 7, 2) := by decide +kernel
theorem dX6_rankBelowRoot_83 : decode cX6_rankBelowRoot 83 = .ok (.iadd, 1) := by decide +kernel
theorem dX6_rankBelowRoot_84 : decode cX6_rankBelowRoot 84 = .ok (.iastore, 1) := by decide +kernel
theorem dX6_rankBelowRoot_85 : decode cX6_rankBelowRoot 85 = .ok (.return_, 1) := by decide +kernel
theorem dX6_rankOf_0 : decode cX6_rankOf 0 = .ok (.iload_n 2, 1) := by decide +kernel
theorem dX6_rankOf_1 : decode cX6_rankOf 1 = .ok (.iload_n 3, 1) := by decide +kernel
theorem dX6_rankOf_2 : decode cX6_rankOf 2 = .ok (.if_icmp .lt 5, 3) := by decide +kernel
theorem dX6_rankOf_5 : decode cX6_rankOf 5 = .ok (.iconst 0, 1) := by decide +kernel
theorem dX6_rankOf_6 : decode cX6_rankOf 6 = .ok (.ireturn, 1) := by decide +kernel
theorem dX6_rankOf_7 : decode cX6_rankOf 7 = .ok (.iload_n 2, 1) := by decide +kernel
theorem dX6_rankOf_8 : decode cX6_rankOf 8 = .ok (.iload_n 3, 1) := by decide +kernel
theorem dX6_rankOf_9 : decode cX6_rankOf 9 = .ok (.invokestatic 53, 3) := by decide +kernel
theorem dX6_rankOf_12 : decode cX6_rankOf 12 = .ok (.istore 5, 2) := by decide +kernel
theorem dX6_rankOf_14 : decode cX6_rankOf 14 = .ok (.aload_n 0, 1) := by decide +kernel
theorem dX6_rankOf_15 : decode cX6_rankOf 15 = .ok (.getfield 25, 3) := by decide +kernel
theorem dX6_rankOf_18 : decode cX6_rankOf 18 = .ok (.iload 5, 2) := by decide +kernel
theorem dX6_rankOf_20 : decode cX6_rankOf 20 = .ok (.iaload, 1) := by decide +kernel
theorem dX6_rankOf_21 : decode cX6_rankOf 21 = .ok (.istore 6, 2) := by decide +kernel
theorem dX6_rankOf_23 : decode cX6_rankOf 23 = .ok (.iload_n 2, 1) := by decide +kernel
theorem dX6_rankOf_24 : decode cX6_rankOf 24 = .ok (.istore 7, 2) := by decide +kernel
theorem dX6_rankOf_26 : decode cX6_rankOf 26 = .ok (.iload 7, 2) := by decide +kernel
theorem dX6_rankOf_28 : decode cX6_rankOf 28 = .ok (.aload_n 0, 1) := by decide +kernel
theorem dX6_rankOf_29 : decode cX6_rankOf 29 = .ok (.getfield 15, 3) := by decide +kernel
theorem dX6_rankOf_32 : decode cX6_rankOf 32 = .ok (.iload 5, 2) := by decide +kernel
theorem dX6_rankOf_34 : decode cX6_rankOf 34 = .ok (.iaload, 1) := by decide +kernel
theorem dX6_rankOf_35 : decode cX6_rankOf 35 = .ok (.if_icmp .ge 24, 3) := by decide +kernel
theorem dX6_rankOf_38 : decode cX6_rankOf 38 = .ok (.iload 6, 2) := by decide +kernel
theorem dX6_rankOf_40 : decode cX6_rankOf 40 = .ok (.aload_n 1, 1) := by decide +kernel
theorem dX6_rankOf_41 : decode cX6_rankOf 41 = .ok (.iload_n 2, 1) := by decide +kernel
theorem dX6_rankOf_42 : decode cX6_rankOf 42 = .ok (.iload_n 3, 1) := by decide +kernel
theorem dX6_rankOf_43 : decode cX6_rankOf 43 = .ok (.iload 7, 2) := by decide +kernel
theorem dX6_rankOf_45 : decode cX6_rankOf 45 = .ok (.iload 4, 2) := by decide +kernel
theorem dX6_rankOf_47 : decode cX6_rankOf 47 = .ok (.invokevirtual 57, 3) := by decide +kernel
theorem dX6_rankOf_50 : decode cX6_rankOf 50 = .ok (.iadd, 1) := by decide +kernel
theorem dX6_rankOf_51 : decode cX6_rankOf 51 = .ok (.istore 6, 2) := by decide +kernel
theorem dX6_rankOf_53 : decode cX6_rankOf 53 = .ok (.iinc 7 1, 3) := by decide +kernel
theorem dX6_rankOf_56 : decode cX6_rankOf 56 = .ok (.goto (-30), 3) := by decide +kernel
theorem dX6_rankOf_59 : decode cX6_rankOf 59 = .ok (.iload 6, 2) := by decide +kernel
theorem dX6_rankOf_61 : decode cX6_rankOf 61 = .ok (.ireturn, 1) := by decide +kernel
theorem dX6_evaluate_0 : decode cX6_evaluate 0 = .ok (.iconst 0, 1) := by decide +kernel
theorem dX6_evaluate_1 : decode cX6_evaluate 1 = .ok (.istore_n 3, 1) := by decide +kernel
theorem dX6_evaluate_2 : decode cX6_evaluate 2 = .ok (.iload_n 3, 1) := by decide +kernel
theorem dX6_evaluate_3 : decode cX6_evaluate 3 = .ok (.aload_n 0, 1) := by decide +kernel
theorem dX6_evaluate_4 : decode cX6_evaluate 4 = .ok (.getfield 9, 3) := by decide +kernel
theorem dX6_evaluate_7 : decode cX6_evaluate 7 = .ok (.if_icmp .gt 28, 3) := by decide +kernel
theorem dX6_evaluate_10 : decode cX6_evaluate 10 = .ok (.aload_n 0, 1) := by decide +kernel
theorem dX6_evaluate_11 : decode cX6_evaluate 11 = .ok (.getfield 28, 3) := by decide +kernel
theorem dX6_evaluate_14 : decode cX6_evaluate 14 = .ok (.iload_n 3, 1) := by decide +kernel
theorem dX6_evaluate_15 : decode cX6_evaluate 15 = .ok (.iload_n 3, 1) := by decide +kernel
theorem dX6_evaluate_16 : decode cX6_evaluate 16 = .ok (.invokestatic 53, 3) := by decide +kernel
theorem dX6_evaluate_19 : decode cX6_evaluate 19 = .ok (.aload_n 2, 1) := by decide +kernel
theorem dX6_evaluate_20 : decode cX6_evaluate 20 = .ok (.aload_n 1, 1) := by decide +kernel
theorem dX6_evaluate_21 : decode cX6_evaluate 21 = .ok (.getfield 92, 3) := by decide +kernel
theorem dX6_evaluate_24 : decode cX6_evaluate 24 = .ok (.iload_n 3, 1) := by decide +kernel
theorem dX6_evaluate_25 : decode cX6_evaluate 25 = .ok (.iaload, 1) := by decide +kernel
theorem dX6_evaluate_26 : decode cX6_evaluate 26 = .ok (.iaload, 1) := by decide +kernel
theorem dX6_evaluate_27 : decode cX6_evaluate 27 = .ok (.i2l, 1) := by decide +kernel
theorem dX6_evaluate_28 : decode cX6_evaluate 28 = .ok (.lastore, 1) := by decide +kernel
theorem dX6_evaluate_29 : decode cX6_evaluate 29 = .ok (.iinc 3 1, 3) := by decide +kernel
theorem dX6_evaluate_32 : decode cX6_evaluate 32 = .ok (.goto (-30), 3) := by decide +kernel
theorem dX6_evaluate_35 : decode cX6_evaluate 35 = .ok (.iconst 1, 1) := by decide +kernel
theorem dX6_evaluate_36 : decode cX6_evaluate 36 = .ok (.istore_n 3, 1) := by decide +kernel
theorem dX6_evaluate_37 : decode cX6_evaluate 37 = .ok (.iload_n 3, 1) := by decide +kernel
theorem dX6_evaluate_38 : decode cX6_evaluate 38 = .ok (.aload_n 0, 1) := by decide +kernel
theorem dX6_evaluate_39 : decode cX6_evaluate 39 = .ok (.getfield 9, 3) := by decide +kernel
theorem dX6_evaluate_42 : decode cX6_evaluate 42 = .ok (.if_icmp .gt 53, 3) := by decide +kernel
theorem dX6_evaluate_45 : decode cX6_evaluate 45 = .ok (.iconst 0, 1) := by decide +kernel
theorem dX6_evaluate_46 : decode cX6_evaluate 46 = .ok (.istore 4, 2) := by decide +kernel
theorem dX6_evaluate_48 : decode cX6_evaluate 48 = .ok (.iload 4, 2) := by decide +kernel
theorem dX6_evaluate_50 : decode cX6_evaluate 50 = .ok (.iload_n 3, 1) := by decide +kernel
theorem dX6_evaluate_51 : decode cX6_evaluate 51 = .ok (.iadd, 1) := by decide +kernel
theorem dX6_evaluate_52 : decode cX6_evaluate 52 = .ok (.aload_n 0, 1) := by decide +kernel
theorem dX6_evaluate_53 : decode cX6_evaluate 53 = .ok (.getfield 9, 3) := by decide +kernel
theorem dX6_evaluate_56 : decode cX6_evaluate 56 = .ok (.if_icmp .gt 33, 3) := by decide +kernel
theorem dX6_evaluate_59 : decode cX6_evaluate 59 = .ok (.aload_n 0, 1) := by decide +kernel
theorem dX6_evaluate_60 : decode cX6_evaluate 60 = .ok (.iload 4, 2) := by decide +kernel
theorem dX6_evaluate_62 : decode cX6_evaluate 62 = .ok (.iload 4, 2) := by decide +kernel
theorem dX6_evaluate_64 : decode cX6_evaluate 64 = .ok (.iload_n 3, 1) := by decide +kernel
theorem dX6_evaluate_65 : decode cX6_evaluate 65 = .ok (.iadd, 1) := by decide +kernel
theorem dX6_evaluate_66 : decode cX6_evaluate 66 = .ok (.invokevirtual 45, 3) := by decide +kernel
theorem dX6_evaluate_69 : decode cX6_evaluate 69 = .ok (.ifCond .eq 14, 3) := by decide +kernel
theorem dX6_evaluate_72 : decode cX6_evaluate 72 = .ok (.aload_n 0, 1) := by decide +kernel
theorem dX6_evaluate_73 : decode cX6_evaluate 73 = .ok (.aload_n 1, 1) := by decide +kernel
theorem dX6_evaluate_74 : decode cX6_evaluate 74 = .ok (.iload 4, 2) := by decide +kernel
theorem dX6_evaluate_76 : decode cX6_evaluate 76 = .ok (.iload 4, 2) := by decide +kernel
theorem dX6_evaluate_78 : decode cX6_evaluate 78 = .ok (.iload_n 3, 1) := by decide +kernel
theorem dX6_evaluate_79 : decode cX6_evaluate 79 = .ok (.iadd, 1) := by decide +kernel
theorem dX6_evaluate_80 : decode cX6_evaluate 80 = .ok (.invokevirtual 97, 3) := by decide +kernel
theorem dX6_evaluate_83 : decode cX6_evaluate 83 = .ok (.iinc 4 1, 3) := by decide +kernel
theorem dX6_evaluate_86 : decode cX6_evaluate 86 = .ok (.goto (-38), 3) := by decide +kernel
theorem dX6_evaluate_89 : decode cX6_evaluate 89 = .ok (.iinc 3 1, 3) := by decide +kernel
theorem dX6_evaluate_92 : decode cX6_evaluate 92 = .ok (.goto (-55), 3) := by decide +kernel
theorem dX6_evaluate_95 : decode cX6_evaluate 95 = .ok (.aload_n 0, 1) := by decide +kernel
theorem dX6_evaluate_96 : decode cX6_evaluate 96 = .ok (.getfield 28, 3) := by decide +kernel
theorem dX6_evaluate_99 : decode cX6_evaluate 99 = .ok (.iconst 0, 1) := by decide +kernel
theorem dX6_evaluate_100 : decode cX6_evaluate 100 = .ok (.aload_n 0, 1) := by decide +kernel
theorem dX6_evaluate_101 : decode cX6_evaluate 101 = .ok (.getfield 9, 3) := by decide +kernel
theorem dX6_evaluate_104 : decode cX6_evaluate 104 = .ok (.invokestatic 53, 3) := by decide +kernel
theorem dX6_evaluate_107 : decode cX6_evaluate 107 = .ok (.laload, 1) := by decide +kernel
theorem dX6_evaluate_108 : decode cX6_evaluate 108 = .ok (.lreturn, 1) := by decide +kernel
theorem dX6_evaluateSubtree_0 : decode cX6_evaluateSubtree 0 = .ok (.aload_n 0, 1) := by decide +kernel
theorem dX6_evaluateSubtree_1 : decode cX6_evaluateSubtree 1 = .ok (.getfield 15, 3) := by decide +kernel
theorem dX6_evaluateSubtree_4 : decode cX6_evaluateSubtree 4 = .ok (.iload_n 2, 1) := by decide +kernel
theorem dX6_evaluateSubtree_5 : decode cX6_evaluateSubtree 5 = .ok (.iload_n 3, 1) := by decide +kernel
theorem dX6_evaluateSubtree_6 : decode cX6_evaluateSubtree 6 = .ok (.invokestatic 53, 3) := by decide +kernel
theorem dX6_evaluateSubtree_9 : decode cX6_evaluateSubtree 9 = .ok (.iaload, 1) := by decide +kernel
theorem dX6_evaluateSubtree_10 : decode cX6_evaluateSubtree 10 = .ok (.istore 4, 2) := by decide +kernel
theorem dX6_evaluateSubtree_12 : decode cX6_evaluateSubtree 12 = .ok (.aload_n 0, 1) := by decide +kernel
theorem dX6_evaluateSubtree_13 : decode cX6_evaluateSubtree 13 = .ok (.getfield 28, 3) := by decide +kernel
theorem dX6_evaluateSubtree_16 : decode cX6_evaluateSubtree 16 = .ok (.iload_n 2, 1) := by decide +kernel
theorem dX6_evaluateSubtree_17 : decode cX6_evaluateSubtree 17 = .ok (.iload 4, 2) := by decide +kernel
theorem dX6_evaluateSubtree_19 : decode cX6_evaluateSubtree 19 = .ok (.invokestatic 53, 3) := by decide +kernel
theorem dX6_evaluateSubtree_22 : decode cX6_evaluateSubtree 22 = .ok (.laload, 1) := by decide +kernel
theorem dX6_evaluateSubtree_23 : decode cX6_evaluateSubtree 23 = .ok (.lstore 5, 2) := by decide +kernel
theorem dX6_evaluateSubtree_25 : decode cX6_evaluateSubtree 25 = .ok (.aload_n 0, 1) := by decide +kernel
theorem dX6_evaluateSubtree_26 : decode cX6_evaluateSubtree 26 = .ok (.getfield 28, 3) := by decide +kernel
theorem dX6_evaluateSubtree_29 : decode cX6_evaluateSubtree 29 = .ok (.iload 4, 2) := by decide +kernel
theorem dX6_evaluateSubtree_31 : decode cX6_evaluateSubtree 31 = .ok (.iconst 1, 1) := by decide +kernel
theorem dX6_evaluateSubtree_32 : decode cX6_evaluateSubtree 32 = .ok (.iadd, 1) := by decide +kernel
theorem dX6_evaluateSubtree_33 : decode cX6_evaluateSubtree 33 = .ok (.iload_n 3, 1) := by decide +kernel
theorem dX6_evaluateSubtree_34 : decode cX6_evaluateSubtree 34 = .ok (.invokestatic 53, 3) := by decide +kernel
theorem dX6_evaluateSubtree_37 : decode cX6_evaluateSubtree 37 = .ok (.laload, 1) := by decide +kernel
theorem dX6_evaluateSubtree_38 : decode cX6_evaluateSubtree 38 = .ok (.lstore 7, 2) := by decide +kernel
theorem dX6_evaluateSubtree_40 : decode cX6_evaluateSubtree 40 = .ok (.lload 5, 2) := by decide +kernel
theorem dX6_evaluateSubtree_42 : decode cX6_evaluateSubtree 42 = .ok (.invokestatic 101, 3) := by decide +kernel
theorem dX6_evaluateSubtree_45 : decode cX6_evaluateSubtree 45 = .ok (.ifCond .eq 10, 3) := by decide +kernel
theorem dX6_evaluateSubtree_48 : decode cX6_evaluateSubtree 48 = .ok (.lload 5, 2) := by decide +kernel
theorem dX6_evaluateSubtree_50 : decode cX6_evaluateSubtree 50 = .ok (.lstore 9, 2) := by decide +kernel
theorem dX6_evaluateSubtree_52 : decode cX6_evaluateSubtree 52 = .ok (.goto 34, 3) := by decide +kernel
theorem dX6_evaluateSubtree_55 : decode cX6_evaluateSubtree 55 = .ok (.lload 7, 2) := by decide +kernel
theorem dX6_evaluateSubtree_57 : decode cX6_evaluateSubtree 57 = .ok (.invokestatic 101, 3) := by decide +kernel
theorem dX6_evaluateSubtree_60 : decode cX6_evaluateSubtree 60 = .ok (.ifCond .eq 10, 3) := by decide +kernel
theorem dX6_evaluateSubtree_63 : decode cX6_evaluateSubtree 63 = .ok (.lload 7, 2) := by decide +kernel
theorem dX6_evaluateSubtree_65 : decode cX6_evaluateSubtree 65 = .ok (.lstore 9, 2) := by decide +kernel
theorem dX6_evaluateSubtree_67 : decode cX6_evaluateSubtree 67 = .ok (.goto 19, 3) := by decide +kernel
theorem dX6_evaluateSubtree_70 : decode cX6_evaluateSubtree 70 = .ok (.aload_n 1, 1) := by decide +kernel
theorem dX6_evaluateSubtree_71 : decode cX6_evaluateSubtree 71 = .ok (.getfield 105, 3) := by decide +kernel
theorem dX6_evaluateSubtree_74 : decode cX6_evaluateSubtree 74 = .ok (.iload 4, 2) := by decide +kernel
theorem dX6_evaluateSubtree_76 : decode cX6_evaluateSubtree 76 = .ok (.iaload, 1) := by decide +kernel
theorem dX6_evaluateSubtree_77 : decode cX6_evaluateSubtree 77 = .ok (.lload 5, 2) := by decide +kernel
theorem dX6_evaluateSubtree_79 : decode cX6_evaluateSubtree 79 = .ok (.lload 7, 2) := by decide +kernel
theorem dX6_evaluateSubtree_81 : decode cX6_evaluateSubtree 81 = .ok (.invokestatic 108, 3) := by decide +kernel
theorem dX6_evaluateSubtree_84 : decode cX6_evaluateSubtree 84 = .ok (.lstore 9, 2) := by decide +kernel
theorem dX6_evaluateSubtree_86 : decode cX6_evaluateSubtree 86 = .ok (.aload_n 0, 1) := by decide +kernel
theorem dX6_evaluateSubtree_87 : decode cX6_evaluateSubtree 87 = .ok (.getfield 28, 3) := by decide +kernel
theorem dX6_evaluateSubtree_90 : decode cX6_evaluateSubtree 90 = .ok (.iload_n 2, 1) := by decide +kernel
theorem dX6_evaluateSubtree_91 : decode cX6_evaluateSubtree 91 = .ok (.iload_n 3, 1) := by decide +kernel
theorem dX6_evaluateSubtree_92 : decode cX6_evaluateSubtree 92 = .ok (.invokestatic 53, 3) := by decide +kernel
theorem dX6_evaluateSubtree_95 : decode cX6_evaluateSubtree 95 = .ok (.lload 9, 2) := by decide +kernel
theorem dX6_evaluateSubtree_97 : decode cX6_evaluateSubtree 97 = .ok (.lastore, 1) := by decide +kernel
theorem dX6_evaluateSubtree_98 : decode cX6_evaluateSubtree 98 = .ok (.return_, 1) := by decide +kernel
theorem dX6_isFailure_0 : decode cX6_isFailure 0 = .ok (.lload_n 0, 1) := by decide +kernel
theorem dX6_isFailure_1 : decode cX6_isFailure 1 = .ok (.ldc2_w 112, 3) := by decide +kernel
theorem dX6_isFailure_4 : decode cX6_isFailure 4 = .ok (.lcmp, 1) := by decide +kernel
theorem dX6_isFailure_5 : decode cX6_isFailure 5 = .ok (.ifCond .eq 11, 3) := by decide +kernel
theorem dX6_isFailure_8 : decode cX6_isFailure 8 = .ok (.lload_n 0, 1) := by decide +kernel
theorem dX6_isFailure_9 : decode cX6_isFailure 9 = .ok (.ldc2_w 114, 3) := by decide +kernel
theorem dX6_isFailure_12 : decode cX6_isFailure 12 = .ok (.lcmp, 1) := by decide +kernel
theorem dX6_isFailure_13 : decode cX6_isFailure 13 = .ok (.ifCond .ne 7, 3) := by decide +kernel
theorem dX6_isFailure_16 : decode cX6_isFailure 16 = .ok (.iconst 1, 1) := by decide +kernel
theorem dX6_isFailure_17 : decode cX6_isFailure 17 = .ok (.goto 4, 3) := by decide +kernel
theorem dX6_isFailure_20 : decode cX6_isFailure 20 = .ok (.iconst 0, 1) := by decide +kernel
theorem dX6_isFailure_21 : decode cX6_isFailure 21 = .ok (.ireturn, 1) := by decide +kernel
theorem dX6_combine_0 : decode cX6_combine 0 = .ok (.iload_n 0, 1) := by decide +kernel
theorem dX6_combine_1 : decode cX6_combine 1 = .ok (.tableswitch 123 0 7 #[47, 54, 61, 68, 87, 103, 107, 111], 47) := by decide +kernel
theorem dX6_combine_48 : decode cX6_combine 48 = .ok (.lload_n 1, 1) := by decide +kernel
theorem dX6_combine_49 : decode cX6_combine 49 = .ok (.lload_n 3, 1) := by decide +kernel
theorem dX6_combine_50 : decode cX6_combine 50 = .ok (.ladd, 1) := by decide +kernel
theorem dX6_combine_51 : decode cX6_combine 51 = .ok (.invokestatic 116, 3) := by decide +kernel
theorem dX6_combine_54 : decode cX6_combine 54 = .ok (.lreturn, 1) := by decide +kernel
theorem dX6_combine_55 : decode cX6_combine 55 = .ok (.lload_n 1, 1) := by decide +kernel
theorem dX6_combine_56 : decode cX6_combine 56 = .ok (.lload_n 3, 1) := by decide +kernel
theorem dX6_combine_57 : decode cX6_combine 57 = .ok (.lsub, 1) := by decide +kernel
theorem dX6_combine_58 : decode cX6_combine 58 = .ok (.invokestatic 116, 3) := by decide +kernel
theorem dX6_combine_61 : decode cX6_combine 61 = .ok (.lreturn, 1) := by decide +kernel
theorem dX6_combine_62 : decode cX6_combine 62 = .ok (.lload_n 1, 1) := by decide +kernel
theorem dX6_combine_63 : decode cX6_combine 63 = .ok (.lload_n 3, 1) := by decide +kernel
theorem dX6_combine_64 : decode cX6_combine 64 = .ok (.lmul, 1) := by decide +kernel
theorem dX6_combine_65 : decode cX6_combine 65 = .ok (.invokestatic 116, 3) := by decide +kernel
theorem dX6_combine_68 : decode cX6_combine 68 = .ok (.lreturn, 1) := by decide +kernel
theorem dX6_combine_69 : decode cX6_combine 69 = .ok (.lload_n 3, 1) := by decide +kernel
theorem dX6_combine_70 : decode cX6_combine 70 = .ok (.lconst 0, 1) := by decide +kernel
theorem dX6_combine_71 : decode cX6_combine 71 = .ok (.lcmp, 1) := by decide +kernel
theorem dX6_combine_72 : decode cX6_combine 72 = .ok (.ifCond .ne 9, 3) := by decide +kernel
theorem dX6_combine_75 : decode cX6_combine 75 = .ok (.ldc2_w 114, 3) := by decide +kernel
theorem dX6_combine_78 : decode cX6_combine 78 = .ok (.goto 9, 3) := by decide +kernel
theorem dX6_combine_81 : decode cX6_combine 81 = .ok (.lload_n 1, 1) := by decide +kernel
theorem dX6_combine_82 : decode cX6_combine 82 = .ok (.lload_n 3, 1) := by decide +kernel
theorem dX6_combine_83 : decode cX6_combine 83 = .ok (.ldiv, 1) := by decide +kernel
theorem dX6_combine_84 : decode cX6_combine 84 = .ok (.invokestatic 116, 3) := by decide +kernel
theorem dX6_combine_87 : decode cX6_combine 87 = .ok (.lreturn, 1) := by decide +kernel
theorem dX6_combine_88 : decode cX6_combine 88 = .ok (.lload_n 3, 1) := by decide +kernel
theorem dX6_combine_89 : decode cX6_combine 89 = .ok (.lconst 0, 1) := by decide +kernel
theorem dX6_combine_90 : decode cX6_combine 90 = .ok (.lcmp, 1) := by decide +kernel
theorem dX6_combine_91 : decode cX6_combine 91 = .ok (.ifCond .ne 9, 3) := by decide +kernel
theorem dX6_combine_94 : decode cX6_combine 94 = .ok (.ldc2_w 114, 3) := by decide +kernel
theorem dX6_combine_97 : decode cX6_combine 97 = .ok (.goto 6, 3) := by decide +kernel
theorem dX6_combine_100 : decode cX6_combine 100 = .ok (.lload_n 1, 1) := by decide +kernel
theorem dX6_combine_101 : decode cX6_combine 101 = .ok (.lload_n 3, 1) := by decide +kernel
theorem dX6_combine_102 : decode cX6_combine 102 = .ok (.lrem, 1) := by decide +kernel
theorem dX6_combine_103 : decode cX6_combine 103 = .ok (.lreturn, 1) := by decide +kernel
theorem dX6_combine_104 : decode cX6_combine 104 = .ok (.lload_n 1, 1) := by decide +kernel
theorem dX6_combine_105 : decode cX6_combine 105 = .ok (.lload_n 3, 1) := by decide +kernel
theorem dX6_combine_106 : decode cX6_combine 106 = .ok (.land, 1) := by decide +kernel
theorem dX6_combine_107 : decode cX6_combine 107 = .ok (.lreturn, 1) := by decide +kernel
theorem dX6_combine_108 : decode cX6_combine 108 = .ok (.lload_n 1, 1) := by decide +kernel
theorem dX6_combine_109 : decode cX6_combine 109 = .ok (.lload_n 3, 1) := by decide +kernel
theorem dX6_combine_110 : decode cX6_combine 110 = .ok (.lor, 1) := by decide +kernel
theorem dX6_combine_111 : decode cX6_combine 111 = .ok (.lreturn, 1) := by decide +kernel
theorem dX6_combine_112 : decode cX6_combine 112 = .ok (.lload_n 1, 1) := by decide +kernel
theorem dX6_combine_113 : decode cX6_combine 113 = .ok (.lload_n 3, 1) := by decide +kernel
theorem dX6_combine_114 : decode cX6_combine 114 = .ok (.lcmp, 1) := by decide +kernel
theorem dX6_combine_115 : decode cX6_combine 115 = .ok (.ifCond .ge 7, 3) := by decide +kernel
theorem dX6_combine_118 : decode cX6_combine 118 = .ok (.lconst 1, 1) := by decide +kernel
theorem dX6_combine_119 : decode cX6_combine 119 = .ok (.goto 4, 3) := by decide +kernel
theorem dX6_combine_122 : decode cX6_combine 122 = .ok (.lconst 0, 1) := by decide +kernel
theorem dX6_combine_123 : decode cX6_combine 123 = .ok (.lreturn, 1) := by decide +kernel
theorem dX6_combine_124 : decode cX6_combine 124 = .ok (.lload_n 1, 1) := by decide +kernel
theorem dX6_combine_125 : decode cX6_combine 125 = .ok (.lload_n 3, 1) := by decide +kernel
theorem dX6_combine_126 : decode cX6_combine 126 = .ok (.lcmp, 1) := by decide +kernel
theorem dX6_combine_127 : decode cX6_combine 127 = .ok (.ifCond .ne 7, 3) := by decide +kernel
theorem dX6_combine_130 : decode cX6_combine 130 = .ok (.lconst 1, 1) := by decide +kernel
theorem dX6_combine_131 : decode cX6_combine 131 = .ok (.goto 4, 3) := by decide +kernel
theorem dX6_combine_134 : decode cX6_combine 134 = .ok (.lconst 0, 1) := by decide +kernel
theorem dX6_combine_135 : decode cX6_combine 135 = .ok (.lreturn, 1) := by decide +kernel
theorem dX6_intOrOverflow_0 : decode cX6_intOrOverflow 0 = .ok (.lload_n 0, 1) := by decide +kernel
theorem dX6_intOrOverflow_1 : decode cX6_intOrOverflow 1 = .ok (.lload_n 0, 1) := by decide +kernel
theorem dX6_intOrOverflow_2 : decode cX6_intOrOverflow 2 = .ok (.l2i, 1) := by decide +kernel
theorem dX6_intOrOverflow_3 : decode cX6_intOrOverflow 3 = .ok (.i2l, 1) := by decide +kernel
theorem dX6_intOrOverflow_4 : decode cX6_intOrOverflow 4 = .ok (.lcmp, 1) := by decide +kernel
theorem dX6_intOrOverflow_5 : decode cX6_intOrOverflow 5 = .ok (.ifCond .ne 7, 3) := by decide +kernel
theorem dX6_intOrOverflow_8 : decode cX6_intOrOverflow 8 = .ok (.lload_n 0, 1) := by decide +kernel
theorem dX6_intOrOverflow_9 : decode cX6_intOrOverflow 9 = .ok (.goto 6, 3) := by decide +kernel
theorem dX6_intOrOverflow_12 : decode cX6_intOrOverflow 12 = .ok (.ldc2_w 112, 3) := by decide +kernel
theorem dX6_intOrOverflow_15 : decode cX6_intOrOverflow 15 = .ok (.lreturn, 1) := by decide +kernel
theorem dX7_init_0 : decode cX7_init 0 = .ok (.aload_n 0, 1) := by decide +kernel
theorem dX7_init_1 : decode cX7_init 1 = .ok (.invokespecial 3, 3) := by decide +kernel
theorem dX7_init_4 : decode cX7_init 4 = .ok (.aload_n 0, 1) := by decide +kernel
theorem dX7_init_5 : decode cX7_init 5 = .ok (.new 9, 3) := by decide +kernel
theorem dX7_init_8 : decode cX7_init 8 = .ok (.dup, 1) := by decide +kernel
theorem dX7_init_9 : decode cX7_init 9 = .ok (.invokespecial 11, 3) := by decide +kernel
theorem dX7_init_12 : decode cX7_init 12 = .ok (.putfield 12, 3) := by decide +kernel
theorem dX7_init_15 : decode cX7_init 15 = .ok (.aload_n 0, 1) := by decide +kernel
theorem dX7_init_16 : decode cX7_init 16 = .ok (.new 16, 3) := by decide +kernel
theorem dX7_init_19 : decode cX7_init 19 = .ok (.dup, 1) := by decide +kernel
theorem dX7_init_20 : decode cX7_init 20 = .ok (.invokespecial 18, 3) := by decide +kernel
theorem dX7_init_23 : decode cX7_init 23 = .ok (.putfield 19, 3) := by decide +kernel
theorem dX7_init_26 : decode cX7_init 26 = .ok (.aload_n 0, 1) := by decide +kernel
theorem dX7_init_27 : decode cX7_init 27 = .ok (.new 16, 3) := by decide +kernel
theorem dX7_init_30 : decode cX7_init 30 = .ok (.dup, 1) := by decide +kernel
theorem dX7_init_31 : decode cX7_init 31 = .ok (.invokespecial 18, 3) := by decide +kernel
theorem dX7_init_34 : decode cX7_init 34 = .ok (.putfield 23, 3) := by decide +kernel
theorem dX7_init_37 : decode cX7_init 37 = .ok (.aload_n 0, 1) := by decide +kernel
theorem dX7_init_38 : decode cX7_init 38 = .ok (.new 26, 3) := by decide +kernel
theorem dX7_init_41 : decode cX7_init 41 = .ok (.dup, 1) := by decide +kernel
theorem dX7_init_42 : decode cX7_init 42 = .ok (.invokespecial 28, 3) := by decide +kernel
theorem dX7_init_45 : decode cX7_init 45 = .ok (.putfield 29, 3) := by decide +kernel
theorem dX7_init_48 : decode cX7_init 48 = .ok (.aload_n 0, 1) := by decide +kernel
theorem dX7_init_49 : decode cX7_init 49 = .ok (.new 33, 3) := by decide +kernel
theorem dX7_init_52 : decode cX7_init 52 = .ok (.dup, 1) := by decide +kernel
theorem dX7_init_53 : decode cX7_init 53 = .ok (.invokespecial 35, 3) := by decide +kernel
theorem dX7_init_56 : decode cX7_init 56 = .ok (.putfield 36, 3) := by decide +kernel
theorem dX7_init_59 : decode cX7_init 59 = .ok (.aload_n 0, 1) := by decide +kernel
theorem dX7_init_60 : decode cX7_init 60 = .ok (.new 40, 3) := by decide +kernel
theorem dX7_init_63 : decode cX7_init 63 = .ok (.dup, 1) := by decide +kernel
theorem dX7_init_64 : decode cX7_init 64 = .ok (.invokespecial 42, 3) := by decide +kernel
theorem dX7_init_67 : decode cX7_init 67 = .ok (.putfield 43, 3) := by decide +kernel
theorem dX7_init_70 : decode cX7_init 70 = .ok (.aload_n 0, 1) := by decide +kernel
theorem dX7_init_71 : decode cX7_init 71 = .ok (.new 47, 3) := by decide +kernel
theorem dX7_init_74 : decode cX7_init 74 = .ok (.dup, 1) := by decide +kernel
theorem dX7_init_75 : decode cX7_init 75 = .ok (.invokespecial 49, 3) := by decide +kernel
theorem dX7_init_78 : decode cX7_init 78 = .ok (.putfield 50, 3) := by decide +kernel
theorem dX7_init_81 : decode cX7_init 81 = .ok (.aload_n 0, 1) := by decide +kernel
theorem dX7_init_82 : decode cX7_init 82 = .ok (.sipush 300, 3) := by decide +kernel
theorem dX7_init_85 : decode cX7_init 85 = .ok (.newarray .long, 2) := by decide +kernel
theorem dX7_init_87 : decode cX7_init 87 = .ok (.putfield 54, 3) := by decide +kernel
theorem dX7_init_90 : decode cX7_init 90 = .ok (.iconst 0, 1) := by decide +kernel
theorem dX7_init_91 : decode cX7_init 91 = .ok (.istore_n 1, 1) := by decide +kernel
theorem dX7_init_92 : decode cX7_init 92 = .ok (.iload_n 1, 1) := by decide +kernel
theorem dX7_init_93 : decode cX7_init 93 = .ok (.ldc 58, 2) := by decide +kernel
theorem dX7_init_95 : decode cX7_init 95 = .ok (.invokevirtual 60, 3) := by decide +kernel
theorem dX7_init_98 : decode cX7_init 98 = .ok (.if_icmp .ge 23, 3) := by decide +kernel
theorem dX7_init_101 : decode cX7_init 101 = .ok (.aload_n 0, 1) := by decide +kernel
theorem dX7_init_102 : decode cX7_init 102 = .ok (.getfield 12, 3) := by decide +kernel
theorem dX7_init_105 : decode cX7_init 105 = .ok (.ldc 58, 2) := by decide +kernel
theorem dX7_init_107 : decode cX7_init 107 = .ok (.iload_n 1, 1) := by decide +kernel
theorem dX7_init_108 : decode cX7_init 108 = .ok (.invokevirtual 66, 3) := by decide +kernel
theorem dX7_init_111 : decode cX7_init 111 = .ok (.invokevirtual 70, 3) := by decide +kernel
theorem dX7_init_114 : decode cX7_init 114 = .ok (.pop, 1) := by decide +kernel
theorem dX7_init_115 : decode cX7_init 115 = .ok (.iinc 1 1, 3) := by decide +kernel
theorem dX7_init_118 : decode cX7_init 118 = .ok (.goto (-26), 3) := by decide +kernel
theorem dX7_init_121 : decode cX7_init 121 = .ok (.aload_n 0, 1) := by decide +kernel
theorem dX7_init_122 : decode cX7_init 122 = .ok (.invokevirtual 74, 3) := by decide +kernel
theorem dX7_init_125 : decode cX7_init 125 = .ok (.pop, 1) := by decide +kernel
theorem dX7_init_126 : decode cX7_init 126 = .ok (.aload_n 0, 1) := by decide +kernel
theorem dX7_init_127 : decode cX7_init 127 = .ok (.getfield 12, 3) := by decide +kernel
theorem dX7_init_130 : decode cX7_init 130 = .ok (.invokevirtual 78, 3) := by decide +kernel
theorem dX7_init_133 : decode cX7_init 133 = .ok (.return_, 1) := by decide +kernel
theorem dX7_append_0 : decode cX7_append 0 = .ok (.iload_n 1, 1) := by decide +kernel
theorem dX7_append_1 : decode cX7_append 1 = .ok (.bipush 32, 2) := by decide +kernel
theorem dX7_append_3 : decode cX7_append 3 = .ok (.if_icmp .lt 9, 3) := by decide +kernel
theorem dX7_append_6 : decode cX7_append 6 = .ok (.iload_n 1, 1) := by decide +kernel
theorem dX7_append_7 : decode cX7_append 7 = .ok (.bipush 126, 2) := by decide +kernel
theorem dX7_append_9 : decode cX7_append 9 = .ok (.if_icmp .le 5, 3) := by decide +kernel
theorem dX7_append_12 : decode cX7_append 12 = .ok (.iconst (-1), 1) := by decide +kernel
theorem dX7_append_13 : decode cX7_append 13 = .ok (.ireturn, 1) := by decide +kernel
theorem dX7_append_14 : decode cX7_append 14 = .ok (.aload_n 0, 1) := by decide +kernel
theorem dX7_append_15 : decode cX7_append 15 = .ok (.getfield 12, 3) := by decide +kernel
theorem dX7_append_18 : decode cX7_append 18 = .ok (.iload_n 1, 1) := by decide +kernel
theorem dX7_append_19 : decode cX7_append 19 = .ok (.i2c, 1) := by decide +kernel
theorem dX7_append_20 : decode cX7_append 20 = .ok (.invokevirtual 70, 3) := by decide +kernel
theorem dX7_append_23 : decode cX7_append 23 = .ok (.ifCond .eq 13, 3) := by decide +kernel
theorem dX7_append_26 : decode cX7_append 26 = .ok (.aload_n 0, 1) := by decide +kernel
theorem dX7_append_27 : decode cX7_append 27 = .ok (.getfield 12, 3) := by decide +kernel
theorem dX7_append_30 : decode cX7_append 30 = .ok (.getfield 81, 3) := by decide +kernel
theorem dX7_append_33 : decode cX7_append 33 = .ok (.goto 5, 3) := by decide +kernel
theorem dX7_append_36 : decode cX7_append 36 = .ok (.bipush (-3), 2) := by decide +kernel
theorem dX7_append_38 : decode cX7_append 38 = .ok (.ireturn, 1) := by decide +kernel
theorem dX7_clearText_0 : decode cX7_clearText 0 = .ok (.aload_n 0, 1) := by decide +kernel
theorem dX7_clearText_1 : decode cX7_clearText 1 = .ok (.getfield 12, 3) := by decide +kernel
theorem dX7_clearText_4 : decode cX7_clearText 4 = .ok (.getfield 81, 3) := by decide +kernel
theorem dX7_clearText_7 : decode cX7_clearText 7 = .ok (.istore_n 1, 1) := by decide +kernel
theorem dX7_clearText_8 : decode cX7_clearText 8 = .ok (.aload_n 0, 1) := by decide +kernel
theorem dX7_clearText_9 : decode cX7_clearText 9 = .ok (.getfield 12, 3) := by decide +kernel
theorem dX7_clearText_12 : decode cX7_clearText 12 = .ok (.invokevirtual 78, 3) := by decide +kernel
theorem dX7_clearText_15 : decode cX7_clearText 15 = .ok (.iload_n 1, 1) := by decide +kernel
theorem dX7_clearText_16 : decode cX7_clearText 16 = .ok (.ireturn, 1) := by decide +kernel
theorem dX7_syntaxError_0 : decode cX7_syntaxError 0 = .ok (.aload_n 0, 1) := by decide +kernel
theorem dX7_syntaxError_1 : decode cX7_syntaxError 1 = .ok (.getfield 12, 3) := by decide +kernel
theorem dX7_syntaxError_4 : decode cX7_syntaxError 4 = .ok (.aload_n 0, 1) := by decide +kernel
theorem dX7_syntaxError_5 : decode cX7_syntaxError 5 = .ok (.getfield 23, 3) := by decide +kernel
theorem dX7_syntaxError_8 : decode cX7_syntaxError 8 = .ok (.invokevirtual 84, 3) := by decide +kernel
theorem dX7_syntaxError_11 : decode cX7_syntaxError 11 = .ok (.ireturn, 1) := by decide +kernel
theorem dX7_load_0 : decode cX7_load 0 = .ok (.aload_n 0, 1) := by decide +kernel
theorem dX7_load_1 : decode cX7_load 1 = .ok (.invokevirtual 74, 3) := by decide +kernel
theorem dX7_load_4 : decode cX7_load 4 = .ok (.ifCond .eq 13, 3) := by decide +kernel
theorem dX7_load_7 : decode cX7_load 7 = .ok (.aload_n 0, 1) := by decide +kernel
theorem dX7_load_8 : decode cX7_load 8 = .ok (.getfield 19, 3) := by decide +kernel
theorem dX7_load_11 : decode cX7_load 11 = .ok (.invokevirtual 88, 3) := by decide +kernel
theorem dX7_load_14 : decode cX7_load 14 = .ok (.goto 5, 3) := by decide +kernel
theorem dX7_load_17 : decode cX7_load 17 = .ok (.bipush (-2), 2) := by decide +kernel
theorem dX7_load_19 : decode cX7_load 19 = .ok (.ireturn, 1) := by decide +kernel
theorem dX7_takeSetup_0 : decode cX7_takeSetup 0 = .ok (.aload_n 0, 1) := by decide +kernel
theorem dX7_takeSetup_1 : decode cX7_takeSetup 1 = .ok (.getfield 12, 3) := by decide +kernel
theorem dX7_takeSetup_4 : decode cX7_takeSetup 4 = .ok (.aload_n 0, 1) := by decide +kernel
theorem dX7_takeSetup_5 : decode cX7_takeSetup 5 = .ok (.getfield 23, 3) := by decide +kernel
theorem dX7_takeSetup_8 : decode cX7_takeSetup 8 = .ok (.invokevirtual 84, 3) := by decide +kernel
theorem dX7_takeSetup_11 : decode cX7_takeSetup 11 = .ok (.bipush (-4), 2) := by decide +kernel
theorem dX7_takeSetup_13 : decode cX7_takeSetup 13 = .ok (.if_icmp .ne 13, 3) := by decide +kernel
theorem dX7_takeSetup_16 : decode cX7_takeSetup 16 = .ok (.aload_n 0, 1) := by decide +kernel
theorem dX7_takeSetup_17 : decode cX7_takeSetup 17 = .ok (.getfield 23, 3) := by decide +kernel
theorem dX7_takeSetup_20 : decode cX7_takeSetup 20 = .ok (.invokevirtual 91, 3) := by decide +kernel
theorem dX7_takeSetup_23 : decode cX7_takeSetup 23 = .ok (.ifCond .ne 5, 3) := by decide +kernel
theorem dX7_takeSetup_26 : decode cX7_takeSetup 26 = .ok (.iconst 0, 1) := by decide +kernel
theorem dX7_takeSetup_27 : decode cX7_takeSetup 27 = .ok (.ireturn, 1) := by decide +kernel
theorem dX7_takeSetup_28 : decode cX7_takeSetup 28 = .ok (.aload_n 0, 1) := by decide +kernel
theorem dX7_takeSetup_29 : decode cX7_takeSetup 29 = .ok (.getfield 19, 3) := by decide +kernel
theorem dX7_takeSetup_32 : decode cX7_takeSetup 32 = .ok (.aload_n 0, 1) := by decide +kernel
theorem dX7_takeSetup_33 : decode cX7_takeSetup 33 = .ok (.getfield 23, 3) := by decide +kernel
theorem dX7_takeSetup_36 : decode cX7_takeSetup 36 = .ok (.invokevirtual 94, 3) := by decide +kernel
theorem dX7_takeSetup_39 : decode cX7_takeSetup 39 = .ok (.aload_n 0, 1) := by decide +kernel
theorem dX7_takeSetup_40 : decode cX7_takeSetup 40 = .ok (.getfield 29, 3) := by decide +kernel
theorem dX7_takeSetup_43 : decode cX7_takeSetup 43 = .ok (.invokevirtual 98, 3) := by decide +kernel
theorem dX7_takeSetup_46 : decode cX7_takeSetup 46 = .ok (.aload_n 0, 1) := by decide +kernel
theorem dX7_takeSetup_47 : decode cX7_takeSetup 47 = .ok (.getfield 36, 3) := by decide +kernel
theorem dX7_takeSetup_50 : decode cX7_takeSetup 50 = .ok (.invokevirtual 101, 3) := by decide +kernel
theorem dX7_takeSetup_53 : decode cX7_takeSetup 53 = .ok (.iconst 1, 1) := by decide +kernel
theorem dX7_takeSetup_54 : decode cX7_takeSetup 54 = .ok (.ireturn, 1) := by decide +kernel
theorem dX7_addPriorityFilter_0 : decode cX7_addPriorityFilter 0 = .ok (.aload_n 0, 1) := by decide +kernel
theorem dX7_addPriorityFilter_1 : decode cX7_addPriorityFilter 1 = .ok (.iload_n 1, 1) := by decide +kernel
theorem dX7_addPriorityFilter_2 : decode cX7_addPriorityFilter 2 = .ok (.iconst 0, 1) := by decide +kernel
theorem dX7_addPriorityFilter_3 : decode cX7_addPriorityFilter 3 = .ok (.iconst 0, 1) := by decide +kernel
theorem dX7_addPriorityFilter_4 : decode cX7_addPriorityFilter 4 = .ok (.iconst 0, 1) := by decide +kernel
theorem dX7_addPriorityFilter_5 : decode cX7_addPriorityFilter 5 = .ok (.iconst 0, 1) := by decide +kernel
theorem dX7_addPriorityFilter_6 : decode cX7_addPriorityFilter 6 = .ok (.invokestatic 102, 3) := by decide +kernel
theorem dX7_addPriorityFilter_9 : decode cX7_addPriorityFilter 9 = .ok (.invokevirtual 108, 3) := by decide +kernel
theorem dX7_addPriorityFilter_12 : decode cX7_addPriorityFilter 12 = .ok (.ireturn, 1) := by decide +kernel
theorem dX7_addAssociativityFilter_0 : decode cX7_addAssociativityFilter 0 = .ok (.aload_n 0, 1) := by decide +kernel
theorem dX7_addAssociativityFilter_1 : decode cX7_addAssociativityFilter 1 = .ok (.iload_n 1, 1) := by decide +kernel
theorem dX7_addAssociativityFilter_2 : decode cX7_addAssociativityFilter 2 = .ok (.iconst 1, 1) := by decide +kernel
theorem dX7_addAssociativityFilter_3 : decode cX7_addAssociativityFilter 3 = .ok (.iconst 0, 1) := by decide +kernel
theorem dX7_addAssociativityFilter_4 : decode cX7_addAssociativityFilter 4 = .ok (.iconst 0, 1) := by decide +kernel
theorem dX7_addAssociativityFilter_5 : decode cX7_addAssociativityFilter 5 = .ok (.iconst 0, 1) := by decide +kernel
theorem dX7_addAssociativityFilter_6 : decode cX7_addAssociativityFilter 6 = .ok (.invokestatic 102, 3) := by decide +kernel
theorem dX7_addAssociativityFilter_9 : decode cX7_addAssociativityFilter 9 = .ok (.invokevirtual 108, 3) := by decide +kernel
theorem dX7_addAssociativityFilter_12 : decode cX7_addAssociativityFilter 12 = .ok (.ireturn, 1) := by decide +kernel
theorem dX7_addRejectFilter_0 : decode cX7_addRejectFilter 0 = .ok (.iload_n 2, 1) := by decide +kernel
theorem dX7_addRejectFilter_1 : decode cX7_addRejectFilter 1 = .ok (.invokestatic 112, 3) := by decide +kernel
theorem dX7_addRejectFilter_4 : decode cX7_addRejectFilter 4 = .ok (.ifCond .eq 10, 3) := by decide +kernel
theorem dX7_addRejectFilter_7 : decode cX7_addRejectFilter 7 = .ok (.iload_n 3, 1) := by decide +kernel
theorem dX7_addRejectFilter_8 : decode cX7_addRejectFilter 8 = .ok (.invokestatic 112, 3) := by decide +kernel
theorem dX7_addRejectFilter_11 : decode cX7_addRejectFilter 11 = .ok (.ifCond .ne 5, 3) := by decide +kernel
theorem dX7_addRejectFilter_14 : decode cX7_addRejectFilter 14 = .ok (.iconst (-1), 1) := by decide +kernel
theorem dX7_addRejectFilter_15 : decode cX7_addRejectFilter 15 = .ok (.ireturn, 1) := by decide +kernel
theorem dX7_addRejectFilter_16 : decode cX7_addRejectFilter 16 = .ok (.aload_n 0, 1) := by decide +kernel
theorem dX7_addRejectFilter_17 : decode cX7_addRejectFilter 17 = .ok (.iload_n 1, 1) := by decide +kernel
theorem dX7_addRejectFilter_18 : decode cX7_addRejectFilter 18 = .ok (.iconst 2, 1) := by decide +kernel
theorem dX7_addRejectFilter_19 : decode cX7_addRejectFilter 19 = .ok (.iload_n 2, 1) := by decide +kernel
theorem dX7_addRejectFilter_20 : decode cX7_addRejectFilter 20 = .ok (.iload_n 3, 1) := by decide +kernel
theorem dX7_addRejectFilter_21 : decode cX7_addRejectFilter 21 = .ok (.iload 4, 2) := by decide +kernel
theorem dX7_addRejectFilter_23 : decode cX7_addRejectFilter 23 = .ok (.invokestatic 102, 3) := by decide +kernel
theorem dX7_addRejectFilter_26 : decode cX7_addRejectFilter 26 = .ok (.invokevirtual 108, 3) := by decide +kernel
theorem dX7_addRejectFilter_29 : decode cX7_addRejectFilter 29 = .ok (.ireturn, 1) := by decide +kernel
theorem dX7_addPreferFilter_0 : decode cX7_addPreferFilter 0 = .ok (.iload_n 2, 1) := by decide +kernel
theorem dX7_addPreferFilter_1 : decode cX7_addPreferFilter 1 = .ok (.invokestatic 112, 3) := by decide +kernel
theorem dX7_addPreferFilter_4 : decode cX7_addPreferFilter 4 = .ok (.ifCond .ne 5, 3) := by decide +kernel
theorem dX7_addPreferFilter_7 : decode cX7_addPreferFilter 7 = .ok (.iconst (-1), 1) := by decide +kernel
theorem dX7_addPreferFilter_8 : decode cX7_addPreferFilter 8 = .ok (.ireturn, 1) := by decide +kernel
theorem dX7_addPreferFilter_9 : decode cX7_addPreferFilter 9 = .ok (.aload_n 0, 1) := by decide +kernel
theorem dX7_addPreferFilter_10 : decode cX7_addPreferFilter 10 = .ok (.iload_n 1, 1) := by decide +kernel
theorem dX7_addPreferFilter_11 : decode cX7_addPreferFilter 11 = .ok (.iconst 3, 1) := by decide +kernel
theorem dX7_addPreferFilter_12 : decode cX7_addPreferFilter 12 = .ok (.iload_n 2, 1) := by decide +kernel
theorem dX7_addPreferFilter_13 : decode cX7_addPreferFilter 13 = .ok (.iconst 0, 1) := by decide +kernel
theorem dX7_addPreferFilter_14 : decode cX7_addPreferFilter 14 = .ok (.iconst 0, 1) := by decide +kernel
theorem dX7_addPreferFilter_15 : decode cX7_addPreferFilter 15 = .ok (.invokestatic 102, 3) := by decide +kernel
theorem dX7_addPreferFilter_18 : decode cX7_addPreferFilter 18 = .ok (.invokevirtual 108, 3) := by decide +kernel
theorem dX7_addPreferFilter_21 : decode cX7_addPreferFilter 21 = .ok (.ireturn, 1) := by decide +kernel
theorem dX7_addAvoidFilter_0 : decode cX7_addAvoidFilter 0 = .ok (.iload_n 2, 1) := by decide +kernel
theorem dX7_addAvoidFilter_1 : decode cX7_addAvoidFilter 1 = .ok (.invokestatic 112, 3) := by decide +kernel
theorem dX7_addAvoidFilter_4 : decode cX7_addAvoidFilter 4 = .ok (.ifCond .ne 5, 3) := by decide +kernel
theorem dX7_addAvoidFilter_7 : decode cX7_addAvoidFilter 7 = .ok (.iconst (-1), 1) := by decide +kernel
theorem dX7_addAvoidFilter_8 : decode cX7_addAvoidFilter 8 = .ok (.ireturn, 1) := by decide +kernel
theorem dX7_addAvoidFilter_9 : decode cX7_addAvoidFilter 9 = .ok (.aload_n 0, 1) := by decide +kernel
theorem dX7_addAvoidFilter_10 : decode cX7_addAvoidFilter 10 = .ok (.iload_n 1, 1) := by decide +kernel
theorem dX7_addAvoidFilter_11 : decode cX7_addAvoidFilter 11 = .ok (.iconst 4, 1) := by decide +kernel
theorem dX7_addAvoidFilter_12 : decode cX7_addAvoidFilter 12 = .ok (.iload_n 2, 1) := by decide +kernel
theorem dX7_addAvoidFilter_13 : decode cX7_addAvoidFilter 13 = .ok (.iconst 0, 1) := by decide +kernel
theorem dX7_addAvoidFilter_14 : decode cX7_addAvoidFilter 14 = .ok (.iconst 0, 1) := by decide +kernel
theorem dX7_addAvoidFilter_15 : decode cX7_addAvoidFilter 15 = .ok (.invokestatic 102, 3) := by decide +kernel
theorem dX7_addAvoidFilter_18 : decode cX7_addAvoidFilter 18 = .ok (.invokevirtual 108, 3) := by decide +kernel
theorem dX7_addAvoidFilter_21 : decode cX7_addAvoidFilter 21 = .ok (.ireturn, 1) := by decide +kernel
theorem dX7_insertFilter_0 : decode cX7_insertFilter 0 = .ok (.iload_n 1, 1) := by decide +kernel
theorem dX7_insertFilter_1 : decode cX7_insertFilter 1 = .ok (.ifCond .lt 14, 3) := by decide +kernel
theorem dX7_insertFilter_4 : decode cX7_insertFilter 4 = .ok (.iload_n 1, 1) := by decide +kernel
theorem dX7_insertFilter_5 : decode cX7_insertFilter 5 = .ok (.aload_n 0, 1) := by decide +kernel
theorem dX7_insertFilter_6 : decode cX7_insertFilter 6 = .ok (.getfield 29, 3) := by decide +kernel
theorem dX7_insertFilter_9 : decode cX7_insertFilter 9 = .ok (.getfield 116, 3) := by decide +kernel
theorem dX7_insertFilter_12 : decode cX7_insertFilter 12 = .ok (.if_icmp .le 5, 3) := by decide +kernel
theorem dX7_insertFilter_15 : decode cX7_insertFilter 15 = .ok (.iconst (-1), 1) := by decide +kernel
theorem dX7_insertFilter_16 : decode cX7_insertFilter 16 = .ok (.ireturn, 1) := by decide +kernel
theorem dX7_insertFilter_17 : decode cX7_insertFilter 17 = .ok (.aload_n 0, 1) := by decide +kernel
theorem dX7_insertFilter_18 : decode cX7_insertFilter 18 = .ok (.getfield 29, 3) := by decide +kernel
theorem dX7_insertFilter_21 : decode cX7_insertFilter 21 = .ok (.getfield 116, 3) := by decide +kernel
theorem dX7_insertFilter_24 : decode cX7_insertFilter 24 = .ok (.bipush 6, 2) := by decide +kernel
theorem dX7_insertFilter_26 : decode cX7_insertFilter 26 = .ok (.if_icmp .lt 6, 3) := by decide +kernel
theorem dX7_insertFilter_29 : decode cX7_insertFilter 29 = .ok (.bipush (-3), 2) := by decide +kernel
theorem dX7_insertFilter_31 : decode cX7_insertFilter 31 = .ok (.ireturn, 1) := by decide +kernel
theorem dX7_insertFilter_32 : decode cX7_insertFilter 32 = .ok (.aload_n 0, 1) := by decide +kernel
theorem dX7_insertFilter_33 : decode cX7_insertFilter 33 = .ok (.getfield 36, 3) := by decide +kernel
theorem dX7_insertFilter_36 : decode cX7_insertFilter 36 = .ok (.aload_n 0, 1) := by decide +kernel
theorem dX7_insertFilter_37 : decode cX7_insertFilter 37 = .ok (.getfield 29, 3) := by decide +kernel
theorem dX7_insertFilter_40 : decode cX7_insertFilter 40 = .ok (.invokevirtual 119, 3) := by decide +kernel
theorem dX7_insertFilter_43 : decode cX7_insertFilter 43 = .ok (.aload_n 0, 1) := by decide +kernel
theorem dX7_insertFilter_44 : decode cX7_insertFilter 44 = .ok (.getfield 29, 3) := by decide +kernel
theorem dX7_insertFilter_47 : decode cX7_insertFilter 47 = .ok (.iload_n 1, 1) := by decide +kernel
theorem dX7_insertFilter_48 : decode cX7_insertFilter 48 = .ok (.iload_n 2, 1) := by decide +kernel
theorem dX7_insertFilter_49 : decode cX7_insertFilter 49 = .ok (.invokevirtual 123, 3) := by decide +kernel
theorem dX7_insertFilter_52 : decode cX7_insertFilter 52 = .ok (.aload_n 0, 1) := by decide +kernel
theorem dX7_insertFilter_53 : decode cX7_insertFilter 53 = .ok (.getfield 29, 3) := by decide +kernel
theorem dX7_insertFilter_56 : decode cX7_insertFilter 56 = .ok (.getfield 116, 3) := by decide +kernel
theorem dX7_insertFilter_59 : decode cX7_insertFilter 59 = .ok (.ireturn, 1) := by decide +kernel
theorem dX7_removeFilter_0 : decode cX7_removeFilter 0 = .ok (.aload_n 0, 1) := by decide +kernel
theorem dX7_removeFilter_1 : decode cX7_removeFilter 1 = .ok (.iload_n 1, 1) := by decide +kernel
theorem dX7_removeFilter_2 : decode cX7_removeFilter 2 = .ok (.invokevirtual 127, 3) := by decide +kernel
theorem dX7_removeFilter_5 : decode cX7_removeFilter 5 = .ok (.ifCond .ne 5, 3) := by decide +kernel
theorem dX7_removeFilter_8 : decode cX7_removeFilter 8 = .ok (.iconst (-1), 1) := by decide +kernel
theorem dX7_removeFilter_9 : decode cX7_removeFilter 9 = .ok (.ireturn, 1) := by decide +kernel
theorem dX7_removeFilter_10 : decode cX7_removeFilter 10 = .ok (.aload_n 0, 1) := by decide +kernel
theorem dX7_removeFilter_11 : decode cX7_removeFilter 11 = .ok (.getfield 36, 3) := by decide +kernel
theorem dX7_removeFilter_14 : decode cX7_removeFilter 14 = .ok (.aload_n 0, 1) := by decide +kernel
theorem dX7_removeFilter_15 : decode cX7_removeFilter 15 = .ok (.getfield 29, 3) := by decide +kernel
theorem dX7_removeFilter_18 : decode cX7_removeFilter 18 = .ok (.invokevirtual 119, 3) := by decide +kernel
theorem dX7_removeFilter_21 : decode cX7_removeFilter 21 = .ok (.aload_n 0, 1) := by decide +kernel
theorem dX7_removeFilter_22 : decode cX7_removeFilter 22 = .ok (.getfield 29, 3) := by decide +kernel
theorem dX7_removeFilter_25 : decode cX7_removeFilter 25 = .ok (.iload_n 1, 1) := by decide +kernel
theorem dX7_removeFilter_26 : decode cX7_removeFilter 26 = .ok (.invokevirtual 130, 3) := by decide +kernel
theorem dX7_removeFilter_29 : decode cX7_removeFilter 29 = .ok (.aload_n 0, 1) := by decide +kernel
theorem dX7_removeFilter_30 : decode cX7_removeFilter 30 = .ok (.getfield 29, 3) := by decide +kernel
theorem dX7_removeFilter_33 : decode cX7_removeFilter 33 = .ok (.getfield 116, 3) := by decide +kernel
theorem dX7_removeFilter_36 : decode cX7_removeFilter 36 = .ok (.ireturn, 1) := by decide +kernel
theorem dX7_swapFilters_0 : decode cX7_swapFilters 0 = .ok (.aload_n 0, 1) := by decide +kernel
theorem dX7_swapFilters_1 : decode cX7_swapFilters 1 = .ok (.iload_n 1, 1) := by decide +kernel
theorem dX7_swapFilters_2 : decode cX7_swapFilters 2 = .ok (.invokevirtual 127, 3) := by decide +kernel
theorem dX7_swapFilters_5 : decode cX7_swapFilters 5 = .ok (.ifCond .ne 5, 3) := by decide +kernel
theorem dX7_swapFilters_8 : decode cX7_swapFilters 8 = .ok (.iconst (-1), 1) := by decide +kernel
theorem dX7_swapFilters_9 : decode cX7_swapFilters 9 = .ok (.ireturn, 1) := by decide +kernel
theorem dX7_swapFilters_10 : decode cX7_swapFilters 10 = .ok (.aload_n 0, 1) := by decide +kernel
theorem dX7_swapFilters_11 : decode cX7_swapFilters 11 = .ok (.iload_n 1, 1) := by decide +kernel
theorem dX7_swapFilters_12 : decode cX7_swapFilters 12 = .ok (.invokevirtual 134, 3) := by decide +kernel
theorem dX7_swapFilters_15 : decode cX7_swapFilters 15 = .ok (.ifCond .eq 6, 3) := by decide +kernel
theorem dX7_swapFilters_18 : decode cX7_swapFilters 18 = .ok (.bipush (-2), 2) := by decide +kernel
theorem dX7_swapFilters_20 : decode cX7_swapFilters 20 = .ok (.ireturn, 1) := by decide +kernel
theorem dX7_swapFilters_21 : decode cX7_swapFilters 21 = .ok (.aload_n 0, 1) := by decide +kernel
theorem dX7_swapFilters_22 : decode cX7_swapFilters 22 = .ok (.getfield 36, 3) := by decide +kernel
theorem dX7_swapFilters_25 : decode cX7_swapFilters 25 = .ok (.aload_n 0, 1) := by decide +kernel
theorem dX7_swapFilters_26 : decode cX7_swapFilters 26 = .ok (.getfield 29, 3) := by decide +kernel
theorem dX7_swapFilters_29 : decode cX7_swapFilters 29 = .ok (.invokevirtual 119, 3) := by decide +kernel
theorem dX7_swapFilters_32 : decode cX7_swapFilters 32 = .ok (.aload_n 0, 1) := by decide +kernel
theorem dX7_swapFilters_33 : decode cX7_swapFilters 33 = .ok (.getfield 29, 3) := by decide +kernel
theorem dX7_swapFilters_36 : decode cX7_swapFilters 36 = .ok (.iload_n 1, 1) := by decide +kernel
theorem dX7_swapFilters_37 : decode cX7_swapFilters 37 = .ok (.invokevirtual 137, 3) := by decide +kernel
theorem dX7_swapFilters_40 : decode cX7_swapFilters 40 = .ok (.aload_n 0, 1) := by decide +kernel
theorem dX7_swapFilters_41 : decode cX7_swapFilters 41 = .ok (.getfield 29, 3) := by decide +kernel
theorem dX7_swapFilters_44 : decode cX7_swapFilters 44 = .ok (.getfield 140, 3) := by decide +kernel
theorem dX7_swapFilters_47 : decode cX7_swapFilters 47 = .ok (.iload_n 1, 1) := by decide +kernel
theorem dX7_swapFilters_48 : decode cX7_swapFilters 48 = .ok (.iaload, 1) := by decide +kernel
theorem dX7_swapFilters_49 : decode cX7_swapFilters 49 = .ok (.invokestatic 144, 3) := by decide +kernel
theorem dX7_swapFilters_52 : decode cX7_swapFilters 52 = .ok (.ireturn, 1) := by decide +kernel
theorem dX7_filterKind_0 : decode cX7_filterKind 0 = .ok (.aload_n 0, 1) := by decide +kernel
theorem dX7_filterKind_1 : decode cX7_filterKind 1 = .ok (.iload_n 1, 1) := by decide +kernel
theorem dX7_filterKind_2 : decode cX7_filterKind 2 = .ok (.invokevirtual 127, 3) := by decide +kernel
theorem dX7_filterKind_5 : decode cX7_filterKind 5 = .ok (.ifCond .eq 18, 3) := by decide +kernel
theorem dX7_filterKind_8 : decode cX7_filterKind 8 = .ok (.aload_n 0, 1) := by decide +kernel
theorem dX7_filterKind_9 : decode cX7_filterKind 9 = .ok (.getfield 29, 3) := by decide +kernel
theorem dX7_filterKind_12 : decode cX7_filterKind 12 = .ok (.getfield 140, 3) := by decide +kernel
theorem dX7_filterKind_15 : decode cX7_filterKind 15 = .ok (.iload_n 1, 1) := by decide +kernel
theorem dX7_filterKind_16 : decode cX7_filterKind 16 = .ok (.iaload, 1) := by decide +kernel
theorem dX7_filterKind_17 : decode cX7_filterKind 17 = .ok (.invokestatic 144, 3) := by decide +kernel
theorem dX7_filterKind_20 : decode cX7_filterKind 20 = .ok (.goto 4, 3) := by decide +kernel
theorem dX7_filterKind_23 : decode cX7_filterKind 23 = .ok (.iconst (-1), 1) := by decide +kernel
theorem dX7_filterKind_24 : decode cX7_filterKind 24 = .ok (.ireturn, 1) := by decide +kernel
theorem dX7_setVariable_0 : decode cX7_setVariable 0 = .ok (.iload_n 1, 1) := by decide +kernel
theorem dX7_setVariable_1 : decode cX7_setVariable 1 = .ok (.ifCond .lt 21, 3) := by decide +kernel
theorem dX7_setVariable_4 : decode cX7_setVariable 4 = .ok (.iload_n 1, 1) := by decide +kernel
theorem dX7_setVariable_5 : decode cX7_setVariable 5 = .ok (.bipush 26, 2) := by decide +kernel
theorem dX7_setVariable_7 : decode cX7_setVariable 7 = .ok (.if_icmp .ge 15, 3) := by decide +kernel
theorem dX7_setVariable_10 : decode cX7_setVariable 10 = .ok (.iload_n 2, 1) := by decide +kernel
theorem dX7_setVariable_11 : decode cX7_setVariable 11 = .ok (.ldc 148, 2) := by decide +kernel
theorem dX7_setVariable_13 : decode cX7_setVariable 13 = .ok (.if_icmp .lt 9, 3) := by decide +kernel
theorem dX7_setVariable_16 : decode cX7_setVariable 16 = .ok (.iload_n 2, 1) := by decide +kernel
theorem dX7_setVariable_17 : decode cX7_setVariable 17 = .ok (.ldc 149, 2) := by decide +kernel
theorem dX7_setVariable_19 : decode cX7_setVariable 19 = .ok (.if_icmp .le 5, 3) := by decide +kernel
theorem dX7_setVariable_22 : decode cX7_setVariable 22 = .ok (.iconst (-1), 1) := by decide +kernel
theorem dX7_setVariable_23 : decode cX7_setVariable 23 = .ok (.ireturn, 1) := by decide +kernel
theorem dX7_setVariable_24 : decode cX7_setVariable 24 = .ok (.aload_n 0, 1) := by decide +kernel
theorem dX7_setVariable_25 : decode cX7_setVariable 25 = .ok (.getfield 29, 3) := by decide +kernel
theorem dX7_setVariable_28 : decode cX7_setVariable 28 = .ok (.getfield 150, 3) := by decide +kernel
theorem dX7_setVariable_31 : decode cX7_setVariable 31 = .ok (.iload_n 1, 1) := by decide +kernel
theorem dX7_setVariable_32 : decode cX7_setVariable 32 = .ok (.iaload, 1) := by decide +kernel
theorem dX7_setVariable_33 : decode cX7_setVariable 33 = .ok (.iload_n 2, 1) := by decide +kernel
theorem dX7_setVariable_34 : decode cX7_setVariable 34 = .ok (.if_icmp .eq 7, 3) := by decide +kernel
theorem dX7_setVariable_37 : decode cX7_setVariable 37 = .ok (.iconst 1, 1) := by decide +kernel
theorem dX7_setVariable_38 : decode cX7_setVariable 38 = .ok (.goto 4, 3) := by decide +kernel
theorem dX7_setVariable_41 : decode cX7_setVariable 41 = .ok (.iconst 0, 1) := by decide +kernel
theorem dX7_setVariable_42 : decode cX7_setVariable 42 = .ok (.istore_n 3, 1) := by decide +kernel
theorem dX7_setVariable_43 : decode cX7_setVariable 43 = .ok (.aload_n 0, 1) := by decide +kernel
theorem dX7_setVariable_44 : decode cX7_setVariable 44 = .ok (.getfield 36, 3) := by decide +kernel
theorem dX7_setVariable_47 : decode cX7_setVariable 47 = .ok (.aload_n 0, 1) := by decide +kernel
theorem dX7_setVariable_48 : decode cX7_setVariable 48 = .ok (.getfield 29, 3) := by decide +kernel
theorem dX7_setVariable_51 : decode cX7_setVariable 51 = .ok (.invokevirtual 119, 3) := by decide +kernel
theorem dX7_setVariable_54 : decode cX7_setVariable 54 = .ok (.aload_n 0, 1) := by decide +kernel
theorem dX7_setVariable_55 : decode cX7_setVariable 55 = .ok (.getfield 29, 3) := by decide +kernel
theorem dX7_setVariable_58 : decode cX7_setVariable 58 = .ok (.getfield 150, 3) := by decide +kernel
theorem dX7_setVariable_61 : decode cX7_setVariable 61 = .ok (.iload_n 1, 1) := by decide +kernel
theorem dX7_setVariable_62 : decode cX7_setVariable 62 = .ok (.iload_n 2, 1) := by decide +kernel
theorem dX7_setVariable_63 : decode cX7_setVariable 63 = .ok (.iastore, 1) := by decide +kernel
theorem dX7_setVariable_64 : decode cX7_setVariable 64 = .ok (.iload_n 3, 1) := by decide +kernel
theorem dX7_setVariable_65 : decode cX7_setVariable 65 = .ok (.ifCond .eq 7, 3) := by decide +kernel
theorem dX7_setVariable_68 : decode cX7_setVariable 68 = .ok (.iconst 1, 1) := by decide +kernel
theorem dX7_setVariable_69 : decode cX7_setVariable 69 = .ok (.goto 4, 3) := by decide +kernel
theorem dX7_setVariable_72 : decode cX7_setVariable 72 = .ok (.iconst 0, 1) := by decide +kernel
theorem dX7_setVariable_73 : decode cX7_setVariable 73 = .ok (.ireturn, 1) := by decide +kernel
theorem dX7_undo_0 : decode cX7_undo 0 = .ok (.aload_n 0, 1) := by decide +kernel
theorem dX7_undo_1 : decode cX7_undo 1 = .ok (.getfield 36, 3) := by decide +kernel
theorem dX7_undo_4 : decode cX7_undo 4 = .ok (.aload_n 0, 1) := by decide +kernel
theorem dX7_undo_5 : decode cX7_undo 5 = .ok (.getfield 29, 3) := by decide +kernel
theorem dX7_undo_8 : decode cX7_undo 8 = .ok (.invokevirtual 153, 3) := by decide +kernel
theorem dX7_undo_11 : decode cX7_undo 11 = .ok (.ifCond .eq 13, 3) := by decide +kernel
theorem dX7_undo_14 : decode cX7_undo 14 = .ok (.aload_n 0, 1) := by decide +kernel
theorem dX7_undo_15 : decode cX7_undo 15 = .ok (.getfield 36, 3) := by decide +kernel
theorem dX7_undo_18 : decode cX7_undo 18 = .ok (.getfield 157, 3) := by decide +kernel
theorem dX7_undo_21 : decode cX7_undo 21 = .ok (.goto 5, 3) := by decide +kernel
theorem dX7_undo_24 : decode cX7_undo 24 = .ok (.bipush (-2), 2) := by decide +kernel
theorem dX7_undo_26 : decode cX7_undo 26 = .ok (.ireturn, 1) := by decide +kernel
theorem dX7_symbolOf_0 : decode cX7_symbolOf 0 = .ok (.iload_n 1, 1) := by decide +kernel
theorem dX7_symbolOf_1 : decode cX7_symbolOf 1 = .ok (.ifCond .lt 26, 3) := by decide +kernel
theorem dX7_symbolOf_4 : decode cX7_symbolOf 4 = .ok (.iload_n 1, 1) := by decide +kernel
theorem dX7_symbolOf_5 : decode cX7_symbolOf 5 = .ok (.aload_n 0, 1) := by decide +kernel
theorem dX7_symbolOf_6 : decode cX7_symbolOf 6 = .ok (.getfield 19, 3) := by decide +kernel
theorem dX7_symbolOf_9 : decode cX7_symbolOf 9 = .ok (.invokevirtual 88, 3) := by decide +kernel
theorem dX7_symbolOf_12 : decode cX7_symbolOf 12 = .ok (.if_icmp .ge 15, 3) := by decide +kernel
theorem dX7_symbolOf_15 : decode cX7_symbolOf 15 = .ok (.aload_n 0, 1) := by decide +kernel
theorem dX7_symbolOf_16 : decode cX7_symbolOf 16 = .ok (.getfield 19, 3) := by decide +kernel
theorem dX7_symbolOf_19 : decode cX7_symbolOf 19 = .ok (.getfield 160, 3) := by decide +kernel
theorem dX7_symbolOf_22 : decode cX7_symbolOf 22 = .ok (.iload_n 1, 1) := by decide +kernel
theorem dX7_symbolOf_23 : decode cX7_symbolOf 23 = .ok (.iaload, 1) := by decide +kernel
theorem dX7_symbolOf_24 : decode cX7_symbolOf 24 = .ok (.goto 4, 3) := by decide +kernel
theorem dX7_symbolOf_27 : decode cX7_symbolOf 27 = .ok (.iconst (-1), 1) := by decide +kernel
theorem dX7_symbolOf_28 : decode cX7_symbolOf 28 = .ok (.ireturn, 1) := by decide +kernel
theorem dX7_priorityOf_0 : decode cX7_priorityOf 0 = .ok (.iload_n 1, 1) := by decide +kernel
theorem dX7_priorityOf_1 : decode cX7_priorityOf 1 = .ok (.invokestatic 112, 3) := by decide +kernel
theorem dX7_priorityOf_4 : decode cX7_priorityOf 4 = .ok (.ifCond .ne 5, 3) := by decide +kernel
theorem dX7_priorityOf_7 : decode cX7_priorityOf 7 = .ok (.iconst (-1), 1) := by decide +kernel
theorem dX7_priorityOf_8 : decode cX7_priorityOf 8 = .ok (.ireturn, 1) := by decide +kernel
theorem dX7_priorityOf_9 : decode cX7_priorityOf 9 = .ok (.aload_n 0, 1) := by decide +kernel
theorem dX7_priorityOf_10 : decode cX7_priorityOf 10 = .ok (.getfield 19, 3) := by decide +kernel
theorem dX7_priorityOf_13 : decode cX7_priorityOf 13 = .ok (.iload_n 1, 1) := by decide +kernel
theorem dX7_priorityOf_14 : decode cX7_priorityOf 14 = .ok (.invokevirtual 163, 3) := by decide +kernel
theorem dX7_priorityOf_17 : decode cX7_priorityOf 17 = .ok (.ifCond .eq 15, 3) := by decide +kernel
theorem dX7_priorityOf_20 : decode cX7_priorityOf 20 = .ok (.aload_n 0, 1) := by decide +kernel
theorem dX7_priorityOf_21 : decode cX7_priorityOf 21 = .ok (.getfield 19, 3) := by decide +kernel
theorem dX7_priorityOf_24 : decode cX7_priorityOf 24 = .ok (.getfield 166, 3) := by decide +kernel
theorem dX7_priorityOf_27 : decode cX7_priorityOf 27 = .ok (.iload_n 1, 1) := by decide +kernel
theorem dX7_priorityOf_28 : decode cX7_priorityOf 28 = .ok (.iaload, 1) := by decide +kernel
theorem dX7_priorityOf_29 : decode cX7_priorityOf 29 = .ok (.goto 5, 3) := by decide +kernel
theorem dX7_priorityOf_32 : decode cX7_priorityOf 32 = .ok (.bipush (-4), 2) := by decide +kernel
theorem dX7_priorityOf_34 : decode cX7_priorityOf 34 = .ok (.ireturn, 1) := by decide +kernel
theorem dX7_treeCount_0 : decode cX7_treeCount 0 = .ok (.aload_n 0, 1) := by decide +kernel
theorem dX7_treeCount_1 : decode cX7_treeCount 1 = .ok (.iload_n 1, 1) := by decide +kernel
theorem dX7_treeCount_2 : decode cX7_treeCount 2 = .ok (.invokevirtual 169, 3) := by decide +kernel
theorem dX7_treeCount_5 : decode cX7_treeCount 5 = .ok (.ifCond .eq 11, 3) := by decide +kernel
theorem dX7_treeCount_8 : decode cX7_treeCount 8 = .ok (.aload_n 0, 1) := by decide +kernel
theorem dX7_treeCount_9 : decode cX7_treeCount 9 = .ok (.iload_n 1, 1) := by decide +kernel
theorem dX7_treeCount_10 : decode cX7_treeCount 10 = .ok (.invokevirtual 172, 3) := by decide +kernel
theorem dX7_treeCount_13 : decode cX7_treeCount 13 = .ok (.goto 4, 3) := by decide +kernel
theorem dX7_treeCount_16 : decode cX7_treeCount 16 = .ok (.iconst (-1), 1) := by decide +kernel
theorem dX7_treeCount_17 : decode cX7_treeCount 17 = .ok (.ireturn, 1) := by decide +kernel
theorem dX7_derivations_0 : decode cX7_derivations 0 = .ok (.iload_n 2, 1) := by decide +kernel
theorem dX7_derivations_1 : decode cX7_derivations 1 = .ok (.ifCond .lt 23, 3) := by decide +kernel
theorem dX7_derivations_4 : decode cX7_derivations 4 = .ok (.iload_n 2, 1) := by decide +kernel
theorem dX7_derivations_5 : decode cX7_derivations 5 = .ok (.iload_n 3, 1) := by decide +kernel
theorem dX7_derivations_6 : decode cX7_derivations 6 = .ok (.if_icmp .ge 18, 3) := by decide +kernel
theorem dX7_derivations_9 : decode cX7_derivations 9 = .ok (.iload_n 3, 1) := by decide +kernel
theorem dX7_derivations_10 : decode cX7_derivations 10 = .ok (.aload_n 0, 1) := by decide +kernel
theorem dX7_derivations_11 : decode cX7_derivations 11 = .ok (.getfield 19, 3) := by decide +kernel
theorem dX7_derivations_14 : decode cX7_derivations 14 = .ok (.invokevirtual 88, 3) := by decide +kernel
theorem dX7_derivations_17 : decode cX7_derivations 17 = .ok (.if_icmp .gt 7, 3) := by decide +kernel
theorem dX7_derivations_20 : decode cX7_derivations 20 = .ok (.iconst 1, 1) := by decide +kernel
theorem dX7_derivations_21 : decode cX7_derivations 21 = .ok (.goto 4, 3) := by decide +kernel
theorem dX7_derivations_24 : decode cX7_derivations 24 = .ok (.iconst 0, 1) := by decide +kernel
theorem dX7_derivations_25 : decode cX7_derivations 25 = .ok (.istore 5, 2) := by decide +kernel
theorem dX7_derivations_27 : decode cX7_derivations 27 = .ok (.aload_n 0, 1) := by decide +kernel
theorem dX7_derivations_28 : decode cX7_derivations 28 = .ok (.iload_n 1, 1) := by decide +kernel
theorem dX7_derivations_29 : decode cX7_derivations 29 = .ok (.invokevirtual 169, 3) := by decide +kernel
theorem dX7_derivations_32 : decode cX7_derivations 32 = .ok (.ifCond .eq 20, 3) := by decide +kernel
theorem dX7_derivations_35 : decode cX7_derivations 35 = .ok (.iload 5, 2) := by decide +kernel
theorem dX7_derivations_37 : decode cX7_derivations 37 = .ok (.ifCond .eq 15, 3) := by decide +kernel
theorem dX7_derivations_40 : decode cX7_derivations 40 = .ok (.iload 4, 2) := by decide +kernel
theorem dX7_derivations_42 : decode cX7_derivations 42 = .ok (.iload_n 2, 1) := by decide +kernel
theorem dX7_derivations_43 : decode cX7_derivations 43 = .ok (.if_icmp .lt 9, 3) := by decide +kernel
theorem dX7_derivations_46 : decode cX7_derivations 46 = .ok (.iload 4, 2) := by decide +kernel
theorem dX7_derivations_48 : decode cX7_derivations 48 = .ok (.iload_n 3, 1) := by decide +kernel
theorem dX7_derivations_49 : decode cX7_derivations 49 = .ok (.if_icmp .lt 5, 3) := by decide +kernel
theorem dX7_derivations_52 : decode cX7_derivations 52 = .ok (.iconst (-1), 1) := by decide +kernel
theorem dX7_derivations_53 : decode cX7_derivations 53 = .ok (.ireturn, 1) := by decide +kernel
theorem dX7_derivations_54 : decode cX7_derivations 54 = .ok (.aload_n 0, 1) := by decide +kernel
theorem dX7_derivations_55 : decode cX7_derivations 55 = .ok (.iload_n 1, 1) := by decide +kernel
theorem dX7_derivations_56 : decode cX7_derivations 56 = .ok (.invokevirtual 172, 3) := by decide +kernel
theorem dX7_derivations_59 : decode cX7_derivations 59 = .ok (.pop, 1) := by decide +kernel
theorem dX7_derivations_60 : decode cX7_derivations 60 = .ok (.aload_n 0, 1) := by decide +kernel
theorem dX7_derivations_61 : decode cX7_derivations 61 = .ok (.getfield 43, 3) := by decide +kernel
theorem dX7_derivations_64 : decode cX7_derivations 64 = .ok (.iload_n 2, 1) := by decide +kernel
theorem dX7_derivations_65 : decode cX7_derivations 65 = .ok (.iload_n 3, 1) := by decide +kernel
theorem dX7_derivations_66 : decode cX7_derivations 66 = .ok (.iload 4, 2) := by decide +kernel
theorem dX7_derivations_68 : decode cX7_derivations 68 = .ok (.iconst (-1), 1) := by decide +kernel
theorem dX7_derivations_69 : decode cX7_derivations 69 = .ok (.invokevirtual 175, 3) := by decide +kernel
theorem dX7_derivations_72 : decode cX7_derivations 72 = .ok (.ireturn, 1) := by decide +kernel
theorem dX7_orderMatters_0 : decode cX7_orderMatters 0 = .ok (.aload_n 0, 1) := by decide +kernel
theorem dX7_orderMatters_1 : decode cX7_orderMatters 1 = .ok (.iload_n 1, 1) := by decide +kernel
theorem dX7_orderMatters_2 : decode cX7_orderMatters 2 = .ok (.invokevirtual 127, 3) := by decide +kernel
theorem dX7_orderMatters_5 : decode cX7_orderMatters 5 = .ok (.ifCond .ne 5, 3) := by decide +kernel
theorem dX7_orderMatters_8 : decode cX7_orderMatters 8 = .ok (.iconst (-1), 1) := by decide +kernel
theorem dX7_orderMatters_9 : decode cX7_orderMatters 9 = .ok (.ireturn, 1) := by decide +kernel
theorem dX7_orderMatters_10 : decode cX7_orderMatters 10 = .ok (.aload_n 0, 1) := by decide +kernel
theorem dX7_orderMatters_11 : decode cX7_orderMatters 11 = .ok (.iload_n 1, 1) := by decide +kernel
theorem dX7_orderMatters_12 : decode cX7_orderMatters 12 = .ok (.invokevirtual 134, 3) := by decide +kernel
theorem dX7_orderMatters_15 : decode cX7_orderMatters 15 = .ok (.ifCond .eq 6, 3) := by decide +kernel
theorem dX7_orderMatters_18 : decode cX7_orderMatters 18 = .ok (.bipush (-2), 2) := by decide +kernel
theorem dX7_orderMatters_20 : decode cX7_orderMatters 20 = .ok (.ireturn, 1) := by decide +kernel
theorem dX7_orderMatters_21 : decode cX7_orderMatters 21 = .ok (.aload_n 0, 1) := by decide +kernel
theorem dX7_orderMatters_22 : decode cX7_orderMatters 22 = .ok (.aload_n 0, 1) := by decide +kernel
theorem dX7_orderMatters_23 : decode cX7_orderMatters 23 = .ok (.getfield 29, 3) := by decide +kernel
theorem dX7_orderMatters_26 : decode cX7_orderMatters 26 = .ok (.getfield 116, 3) := by decide +kernel
theorem dX7_orderMatters_29 : decode cX7_orderMatters 29 = .ok (.invokevirtual 172, 3) := by decide +kernel
theorem dX7_orderMatters_32 : decode cX7_orderMatters 32 = .ok (.istore_n 2, 1) := by decide +kernel
theorem dX7_orderMatters_33 : decode cX7_orderMatters 33 = .ok (.aload_n 0, 1) := by decide +kernel
theorem dX7_orderMatters_34 : decode cX7_orderMatters 34 = .ok (.getfield 29, 3) := by decide +kernel
theorem dX7_orderMatters_37 : decode cX7_orderMatters 37 = .ok (.iload_n 1, 1) := by decide +kernel
theorem dX7_orderMatters_38 : decode cX7_orderMatters 38 = .ok (.invokevirtual 137, 3) := by decide +kernel
theorem dX7_orderMatters_41 : decode cX7_orderMatters 41 = .ok (.aload_n 0, 1) := by decide +kernel
theorem dX7_orderMatters_42 : decode cX7_orderMatters 42 = .ok (.aload_n 0, 1) := by decide +kernel
theorem dX7_orderMatters_43 : decode cX7_orderMatters 43 = .ok (.getfield 29, 3) := by decide +kernel
theorem dX7_orderMatters_46 : decode cX7_orderMatters 46 = .ok (.getfield 116, 3) := by decide +kernel
theorem dX7_orderMatters_49 : decode cX7_orderMatters 49 = .ok (.invokevirtual 172, 3) := by decide +kernel
theorem dX7_orderMatters_52 : decode cX7_orderMatters 52 = .ok (.istore_n 3, 1) := by decide +kernel
theorem dX7_orderMatters_53 : decode cX7_orderMatters 53 = .ok (.aload_n 0, 1) := by decide +kernel
theorem dX7_orderMatters_54 : decode cX7_orderMatters 54 = .ok (.getfield 29, 3) := by decide +kernel
theorem dX7_orderMatters_57 : decode cX7_orderMatters 57 = .ok (.iload_n 1, 1) := by decide +kernel
theorem dX7_orderMatters_58 : decode cX7_orderMatters 58 = .ok (.invokevirtual 137, 3) := by decide +kernel
theorem dX7_orderMatters_61 : decode cX7_orderMatters 61 = .ok (.iload_n 2, 1) := by decide +kernel
theorem dX7_orderMatters_62 : decode cX7_orderMatters 62 = .ok (.iload_n 3, 1) := by decide +kernel
theorem dX7_orderMatters_63 : decode cX7_orderMatters 63 = .ok (.if_icmp .ne 7, 3) := by decide +kernel
theorem dX7_orderMatters_66 : decode cX7_orderMatters 66 = .ok (.iconst 0, 1) := by decide +kernel
theorem dX7_orderMatters_67 : decode cX7_orderMatters 67 = .ok (.goto 4, 3) := by decide +kernel
theorem dX7_orderMatters_70 : decode cX7_orderMatters 70 = .ok (.iconst 1, 1) := by decide +kernel
theorem dX7_orderMatters_71 : decode cX7_orderMatters 71 = .ok (.ireturn, 1) := by decide +kernel
theorem dX7_operatorAt_0 : decode cX7_operatorAt 0 = .ok (.aload_n 0, 1) := by decide +kernel
theorem dX7_operatorAt_1 : decode cX7_operatorAt 1 = .ok (.iload_n 1, 1) := by decide +kernel
theorem dX7_operatorAt_2 : decode cX7_operatorAt 2 = .ok (.invokevirtual 169, 3) := by decide +kernel
theorem dX7_operatorAt_5 : decode cX7_operatorAt 5 = .ok (.ifCond .eq 11, 3) := by decide +kernel
theorem dX7_operatorAt_8 : decode cX7_operatorAt 8 = .ok (.iload_n 2, 1) := by decide +kernel
theorem dX7_operatorAt_9 : decode cX7_operatorAt 9 = .ok (.ifCond .lt 7, 3) := by decide +kernel
theorem dX7_operatorAt_12 : decode cX7_operatorAt 12 = .ok (.iload_n 3, 1) := by decide +kernel
theorem dX7_operatorAt_13 : decode cX7_operatorAt 13 = .ok (.ifCond .ge 5, 3) := by decide +kernel
theorem dX7_operatorAt_16 : decode cX7_operatorAt 16 = .ok (.iconst (-1), 1) := by decide +kernel
theorem dX7_operatorAt_17 : decode cX7_operatorAt 17 = .ok (.ireturn, 1) := by decide +kernel
theorem dX7_operatorAt_18 : decode cX7_operatorAt 18 = .ok (.aload_n 0, 1) := by decide +kernel
theorem dX7_operatorAt_19 : decode cX7_operatorAt 19 = .ok (.iload_n 1, 1) := by decide +kernel
theorem dX7_operatorAt_20 : decode cX7_operatorAt 20 = .ok (.iload_n 2, 1) := by decide +kernel
theorem dX7_operatorAt_21 : decode cX7_operatorAt 21 = .ok (.invokevirtual 179, 3) := by decide +kernel
theorem dX7_operatorAt_24 : decode cX7_operatorAt 24 = .ok (.ifCond .eq 14, 3) := by decide +kernel
theorem dX7_operatorAt_27 : decode cX7_operatorAt 27 = .ok (.aload_n 0, 1) := by decide +kernel
theorem dX7_operatorAt_28 : decode cX7_operatorAt 28 = .ok (.getfield 50, 3) := by decide +kernel
theorem dX7_operatorAt_31 : decode cX7_operatorAt 31 = .ok (.iload_n 3, 1) := by decide +kernel
theorem dX7_operatorAt_32 : decode cX7_operatorAt 32 = .ok (.invokevirtual 183, 3) := by decide +kernel
theorem dX7_operatorAt_35 : decode cX7_operatorAt 35 = .ok (.goto 5, 3) := by decide +kernel
theorem dX7_operatorAt_38 : decode cX7_operatorAt 38 = .ok (.bipush (-4), 2) := by decide +kernel
theorem dX7_operatorAt_40 : decode cX7_operatorAt 40 = .ok (.ireturn, 1) := by decide +kernel
theorem dX7_discardedBy_0 : decode cX7_discardedBy 0 = .ok (.iload_n 1, 1) := by decide +kernel
theorem dX7_discardedBy_1 : decode cX7_discardedBy 1 = .ok (.ifCond .ge 5, 3) := by decide +kernel
theorem dX7_discardedBy_4 : decode cX7_discardedBy 4 = .ok (.iconst (-1), 1) := by decide +kernel
theorem dX7_discardedBy_5 : decode cX7_discardedBy 5 = .ok (.ireturn, 1) := by decide +kernel
theorem dX7_discardedBy_6 : decode cX7_discardedBy 6 = .ok (.aload_n 0, 1) := by decide +kernel
theorem dX7_discardedBy_7 : decode cX7_discardedBy 7 = .ok (.iconst 0, 1) := by decide +kernel
theorem dX7_discardedBy_8 : decode cX7_discardedBy 8 = .ok (.iload_n 1, 1) := by decide +kernel
theorem dX7_discardedBy_9 : decode cX7_discardedBy 9 = .ok (.invokevirtual 179, 3) := by decide +kernel
theorem dX7_discardedBy_12 : decode cX7_discardedBy 12 = .ok (.ifCond .ne 6, 3) := by decide +kernel
theorem dX7_discardedBy_15 : decode cX7_discardedBy 15 = .ok (.bipush (-4), 2) := by decide +kernel
theorem dX7_discardedBy_17 : decode cX7_discardedBy 17 = .ok (.ireturn, 1) := by decide +kernel
theorem dX7_discardedBy_18 : decode cX7_discardedBy 18 = .ok (.iconst 0, 1) := by decide +kernel
theorem dX7_discardedBy_19 : decode cX7_discardedBy 19 = .ok (.istore_n 2, 1) := by decide +kernel
theorem dX7_discardedBy_20 : decode cX7_discardedBy 20 = .ok (.iload_n 2, 1) := by decide +kernel
theorem dX7_discardedBy_21 : decode cX7_discardedBy 21 = .ok (.aload_n 0, 1) := by decide +kernel
theorem dX7_discardedBy_22 : decode cX7_discardedBy 22 = .ok (.getfield 29, 3) := by decide +kernel
theorem dX7_discardedBy_25 : decode cX7_discardedBy 25 = .ok (.getfield 116, 3) := by decide +kernel
theorem dX7_discardedBy_28 : decode cX7_discardedBy 28 = .ok (.if_icmp .ge 45, 3) := by decide +kernel
theorem dX7_discardedBy_31 : decode cX7_discardedBy 31 = .ok (.aload_n 0, 1) := by decide +kernel
theorem dX7_discardedBy_32 : decode cX7_discardedBy 32 = .ok (.getfield 43, 3) := by decide +kernel
theorem dX7_discardedBy_35 : decode cX7_discardedBy 35 = .ok (.aload_n 0, 1) := by decide +kernel
theorem dX7_discardedBy_36 : decode cX7_discardedBy 36 = .ok (.getfield 19, 3) := by decide +kernel
theorem dX7_discardedBy_39 : decode cX7_discardedBy 39 = .ok (.aload_n 0, 1) := by decide +kernel
theorem dX7_discardedBy_40 : decode cX7_discardedBy 40 = .ok (.getfield 29, 3) := by decide +kernel
theorem dX7_discardedBy_43 : decode cX7_discardedBy 43 = .ok (.getfield 140, 3) := by decide +kernel
theorem dX7_discardedBy_46 : decode cX7_discardedBy 46 = .ok (.iload_n 2, 1) := by decide +kernel
theorem dX7_discardedBy_47 : decode cX7_discardedBy 47 = .ok (.iaload, 1) := by decide +kernel
theorem dX7_discardedBy_48 : decode cX7_discardedBy 48 = .ok (.invokevirtual 186, 3) := by decide +kernel
theorem dX7_discardedBy_51 : decode cX7_discardedBy 51 = .ok (.aload_n 0, 1) := by decide +kernel
theorem dX7_discardedBy_52 : decode cX7_discardedBy 52 = .ok (.getfield 50, 3) := by decide +kernel
theorem dX7_discardedBy_55 : decode cX7_discardedBy 55 = .ok (.aload_n 0, 1) := by decide +kernel
theorem dX7_discardedBy_56 : decode cX7_discardedBy 56 = .ok (.getfield 43, 3) := by decide +kernel
theorem dX7_discardedBy_59 : decode cX7_discardedBy 59 = .ok (.invokevirtual 190, 3) := by decide +kernel
theorem dX7_discardedBy_62 : decode cX7_discardedBy 62 = .ok (.ifCond .ne 5, 3) := by decide +kernel
theorem dX7_discardedBy_65 : decode cX7_discardedBy 65 = .ok (.iload_n 2, 1) := by decide +kernel
theorem dX7_discardedBy_66 : decode cX7_discardedBy 66 = .ok (.ireturn, 1) := by decide +kernel
theorem dX7_discardedBy_67 : decode cX7_discardedBy 67 = .ok (.iinc 2 1, 3) := by decide +kernel
theorem dX7_discardedBy_70 : decode cX7_discardedBy 70 = .ok (.goto (-50), 3) := by decide +kernel
theorem dX7_discardedBy_73 : decode cX7_discardedBy 73 = .ok (.aload_n 0, 1) := by decide +kernel
theorem dX7_discardedBy_74 : decode cX7_discardedBy 74 = .ok (.getfield 29, 3) := by decide +kernel
theorem dX7_discardedBy_77 : decode cX7_discardedBy 77 = .ok (.getfield 116, 3) := by decide +kernel
theorem dX7_discardedBy_80 : decode cX7_discardedBy 80 = .ok (.ireturn, 1) := by decide +kernel
theorem dX7_survivorRank_0 : decode cX7_survivorRank 0 = .ok (.aload_n 0, 1) := by decide +kernel
theorem dX7_survivorRank_1 : decode cX7_survivorRank 1 = .ok (.iload_n 1, 1) := by decide +kernel
theorem dX7_survivorRank_2 : decode cX7_survivorRank 2 = .ok (.invokevirtual 169, 3) := by decide +kernel
theorem dX7_survivorRank_5 : decode cX7_survivorRank 5 = .ok (.ifCond .eq 7, 3) := by decide +kernel
theorem dX7_survivorRank_8 : decode cX7_survivorRank 8 = .ok (.iload_n 2, 1) := by decide +kernel
theorem dX7_survivorRank_9 : decode cX7_survivorRank 9 = .ok (.ifCond .ge 5, 3) := by decide +kernel
theorem dX7_survivorRank_12 : decode cX7_survivorRank 12 = .ok (.iconst (-1), 1) := by decide +kernel
theorem dX7_survivorRank_13 : decode cX7_survivorRank 13 = .ok (.ireturn, 1) := by decide +kernel
theorem dX7_survivorRank_14 : decode cX7_survivorRank 14 = .ok (.aload_n 0, 1) := by decide +kernel
theorem dX7_survivorRank_15 : decode cX7_survivorRank 15 = .ok (.iconst 0, 1) := by decide +kernel
theorem dX7_survivorRank_16 : decode cX7_survivorRank 16 = .ok (.iload_n 2, 1) := by decide +kernel
theorem dX7_survivorRank_17 : decode cX7_survivorRank 17 = .ok (.invokevirtual 179, 3) := by decide +kernel
theorem dX7_survivorRank_20 : decode cX7_survivorRank 20 = .ok (.ifCond .ne 6, 3) := by decide +kernel
theorem dX7_survivorRank_23 : decode cX7_survivorRank 23 = .ok (.bipush (-4), 2) := by decide +kernel
theorem dX7_survivorRank_25 : decode cX7_survivorRank 25 = .ok (.ireturn, 1) := by decide +kernel
theorem dX7_survivorRank_26 : decode cX7_survivorRank 26 = .ok (.aload_n 0, 1) := by decide +kernel
theorem dX7_survivorRank_27 : decode cX7_survivorRank 27 = .ok (.iload_n 1, 1) := by decide +kernel
theorem dX7_survivorRank_28 : decode cX7_survivorRank 28 = .ok (.invokevirtual 172, 3) := by decide +kernel
theorem dX7_survivorRank_31 : decode cX7_survivorRank 31 = .ok (.pop, 1) := by decide +kernel
theorem dX7_survivorRank_32 : decode cX7_survivorRank 32 = .ok (.aload_n 0, 1) := by decide +kernel
theorem dX7_survivorRank_33 : decode cX7_survivorRank 33 = .ok (.getfield 50, 3) := by decide +kernel
theorem dX7_survivorRank_36 : decode cX7_survivorRank 36 = .ok (.aload_n 0, 1) := by decide +kernel
theorem dX7_survivorRank_37 : decode cX7_survivorRank 37 = .ok (.getfield 43, 3) := by decide +kernel
theorem dX7_survivorRank_40 : decode cX7_survivorRank 40 = .ok (.invokevirtual 190, 3) := by decide +kernel
theorem dX7_survivorRank_43 : decode cX7_survivorRank 43 = .ok (.ifCond .eq 17, 3) := by decide +kernel
theorem dX7_survivorRank_46 : decode cX7_survivorRank 46 = .ok (.aload_n 0, 1) := by decide +kernel
theorem dX7_survivorRank_47 : decode cX7_survivorRank 47 = .ok (.getfield 50, 3) := by decide +kernel
theorem dX7_survivorRank_50 : decode cX7_survivorRank 50 = .ok (.aload_n 0, 1) := by decide +kernel
theorem dX7_survivorRank_51 : decode cX7_survivorRank 51 = .ok (.getfield 43, 3) := by decide +kernel
theorem dX7_survivorRank_54 : decode cX7_survivorRank 54 = .ok (.invokevirtual 194, 3) := by decide +kernel
theorem dX7_survivorRank_57 : decode cX7_survivorRank 57 = .ok (.goto 5, 3) := by decide +kernel
theorem dX7_survivorRank_60 : decode cX7_survivorRank 60 = .ok (.bipush (-4), 2) := by decide +kernel
theorem dX7_survivorRank_62 : decode cX7_survivorRank 62 = .ok (.ireturn, 1) := by decide +kernel
theorem dX7_value_0 : decode cX7_value 0 = .ok (.aload_n 0, 1) := by decide +kernel
theorem dX7_value_1 : decode cX7_value 1 = .ok (.iload_n 1, 1) := by decide +kernel
theorem dX7_value_2 : decode cX7_value 2 = .ok (.invokevirtual 169, 3) := by decide +kernel
theorem dX7_value_5 : decode cX7_value 5 = .ok (.ifCond .eq 16, 3) := by decide +kernel
theorem dX7_value_8 : decode cX7_value 8 = .ok (.iload_n 2, 1) := by decide +kernel
theorem dX7_value_9 : decode cX7_value 9 = .ok (.ifCond .lt 12, 3) := by decide +kernel
theorem dX7_value_12 : decode cX7_value 12 = .ok (.aload_n 0, 1) := by decide +kernel
theorem dX7_value_13 : decode cX7_value 13 = .ok (.iload_n 1, 1) := by decide +kernel
theorem dX7_value_14 : decode cX7_value 14 = .ok (.iload_n 2, 1) := by decide +kernel
theorem dX7_value_15 : decode cX7_value 15 = .ok (.invokevirtual 179, 3) := by decide +kernel
theorem dX7_value_18 : decode cX7_value 18 = .ok (.ifCond .ne 7, 3) := by decide +kernel
theorem dX7_value_21 : decode cX7_value 21 = .ok (.ldc2_w 198, 3) := by decide +kernel
theorem dX7_value_24 : decode cX7_value 24 = .ok (.lreturn, 1) := by decide +kernel
theorem dX7_value_25 : decode cX7_value 25 = .ok (.aload_n 0, 1) := by decide +kernel
theorem dX7_value_26 : decode cX7_value 26 = .ok (.getfield 50, 3) := by decide +kernel
theorem dX7_value_29 : decode cX7_value 29 = .ok (.aload_n 0, 1) := by decide +kernel
theorem dX7_value_30 : decode cX7_value 30 = .ok (.getfield 19, 3) := by decide +kernel
theorem dX7_value_33 : decode cX7_value 33 = .ok (.aload_n 0, 1) := by decide +kernel
theorem dX7_value_34 : decode cX7_value 34 = .ok (.getfield 29, 3) := by decide +kernel
theorem dX7_value_37 : decode cX7_value 37 = .ok (.getfield 150, 3) := by decide +kernel
theorem dX7_value_40 : decode cX7_value 40 = .ok (.invokevirtual 200, 3) := by decide +kernel
theorem dX7_value_43 : decode cX7_value 43 = .ok (.lreturn, 1) := by decide +kernel
theorem dX7_distinctValues_0 : decode cX7_distinctValues 0 = .ok (.aload_n 0, 1) := by decide +kernel
theorem dX7_distinctValues_1 : decode cX7_distinctValues 1 = .ok (.iload_n 1, 1) := by decide +kernel
theorem dX7_distinctValues_2 : decode cX7_distinctValues 2 = .ok (.invokevirtual 169, 3) := by decide +kernel
theorem dX7_distinctValues_5 : decode cX7_distinctValues 5 = .ok (.ifCond .ne 5, 3) := by decide +kernel
theorem dX7_distinctValues_8 : decode cX7_distinctValues 8 = .ok (.iconst (-1), 1) := by decide +kernel
theorem dX7_distinctValues_9 : decode cX7_distinctValues 9 = .ok (.ireturn, 1) := by decide +kernel
theorem dX7_distinctValues_10 : decode cX7_distinctValues 10 = .ok (.aload_n 0, 1) := by decide +kernel
theorem dX7_distinctValues_11 : decode cX7_distinctValues 11 = .ok (.iload_n 1, 1) := by decide +kernel
theorem dX7_distinctValues_12 : decode cX7_distinctValues 12 = .ok (.invokevirtual 172, 3) := by decide +kernel
theorem dX7_distinctValues_15 : decode cX7_distinctValues 15 = .ok (.istore_n 2, 1) := by decide +kernel
theorem dX7_distinctValues_16 : decode cX7_distinctValues 16 = .ok (.iload_n 2, 1) := by decide +kernel
theorem dX7_distinctValues_17 : decode cX7_distinctValues 17 = .ok (.sipush 300, 3) := by decide +kernel
theorem dX7_distinctValues_20 : decode cX7_distinctValues 20 = .ok (.if_icmp .le 6, 3) := by decide +kernel
theorem dX7_distinctValues_23 : decode cX7_distinctValues 23 = .ok (.bipush (-3), 2) := by decide +kernel
theorem dX7_distinctValues_25 : decode cX7_distinctValues 25 = .ok (.ireturn, 1) := by decide +kernel
theorem dX7_distinctValues_26 : decode cX7_distinctValues 26 = .ok (.iconst 0, 1) := by decide +kernel
theorem dX7_distinctValues_27 : decode cX7_distinctValues 27 = .ok (.istore_n 3, 1) := by decide +kernel
theorem dX7_distinctValues_28 : decode cX7_distinctValues 28 = .ok (.iconst 0, 1) := by decide +kernel
theorem dX7_distinctValues_29 : decode cX7_distinctValues 29 = .ok (.istore 4, 2) := by decide +kernel
theorem dX7_distinctValues_31 : decode cX7_distinctValues 31 = .ok (.iload 4, 2) := by decide +kernel
theorem dX7_distinctValues_33 : decode cX7_distinctValues 33 = .ok (.iload_n 2, 1) := by decide +kernel
theorem dX7_distinctValues_34 : decode cX7_distinctValues 34 = .ok (.if_icmp .ge 46, 3) := by decide +kernel
theorem dX7_distinctValues_37 : decode cX7_distinctValues 37 = .ok (.aload_n 0, 1) := by decide +kernel
theorem dX7_distinctValues_38 : decode cX7_distinctValues 38 = .ok (.getfield 50, 3) := by decide +kernel
theorem dX7_distinctValues_41 : decode cX7_distinctValues 41 = .ok (.aload_n 0, 1) := by decide +kernel
theorem dX7_distinctValues_42 : decode cX7_distinctValues 42 = .ok (.getfield 43, 3) := by decide +kernel
theorem dX7_distinctValues_45 : decode cX7_distinctValues 45 = .ok (.iload 4, 2) := by decide +kernel
theorem dX7_distinctValues_47 : decode cX7_distinctValues 47 = .ok (.invokevirtual 204, 3) := by decide +kernel
theorem dX7_distinctValues_50 : decode cX7_distinctValues 50 = .ok (.aload_n 0, 1) := by decide +kernel
theorem dX7_distinctValues_51 : decode cX7_distinctValues 51 = .ok (.iload_n 3, 1) := by decide +kernel
theorem dX7_distinctValues_52 : decode cX7_distinctValues 52 = .ok (.aload_n 0, 1) := by decide +kernel
theorem dX7_distinctValues_53 : decode cX7_distinctValues 53 = .ok (.getfield 50, 3) := by decide +kernel
theorem dX7_distinctValues_56 : decode cX7_distinctValues 56 = .ok (.aload_n 0, 1) := by decide +kernel
theorem dX7_distinctValues_57 : decode cX7_distinctValues 57 = .ok (.getfield 19, 3) := by decide +kernel
theorem dX7_distinctValues_60 : decode cX7_distinctValues 60 = .ok (.aload_n 0, 1) := by decide +kernel
theorem dX7_distinctValues_61 : decode cX7_distinctValues 61 = .ok (.getfield 29, 3) := by decide +kernel
theorem dX7_distinctValues_64 : decode cX7_distinctValues 64 = .ok (.getfield 150, 3) := by decide +kernel
theorem dX7_distinctValues_67 : decode cX7_distinctValues 67 = .ok (.invokevirtual 200, 3) := by decide +kernel
theorem dX7_distinctValues_70 : decode cX7_distinctValues 70 = .ok (.invokevirtual 208, 3) := by decide +kernel
theorem dX7_distinctValues_73 : decode cX7_distinctValues 73 = .ok (.istore_n 3, 1) := by decide +kernel
theorem dX7_distinctValues_74 : decode cX7_distinctValues 74 = .ok (.iinc 4 1, 3) := by decide +kernel
theorem dX7_distinctValues_77 : decode cX7_distinctValues 77 = .ok (.goto (-46), 3) := by decide +kernel
theorem dX7_distinctValues_80 : decode cX7_distinctValues 80 = .ok (.iload_n 3, 1) := by decide +kernel
theorem dX7_distinctValues_81 : decode cX7_distinctValues 81 = .ok (.ireturn, 1) := by decide +kernel
theorem dX7_noteResult_0 : decode cX7_noteResult 0 = .ok (.iconst 0, 1) := by decide +kernel
theorem dX7_noteResult_1 : decode cX7_noteResult 1 = .ok (.istore 4, 2) := by decide +kernel
theorem dX7_noteResult_3 : decode cX7_noteResult 3 = .ok (.iload 4, 2) := by decide +kernel
theorem dX7_noteResult_5 : decode cX7_noteResult 5 = .ok (.iload_n 1, 1) := by decide +kernel
theorem dX7_noteResult_6 : decode cX7_noteResult 6 = .ok (.if_icmp .ge 23, 3) := by decide +kernel
theorem dX7_noteResult_9 : decode cX7_noteResult 9 = .ok (.aload_n 0, 1) := by decide +kernel
theorem dX7_noteResult_10 : decode cX7_noteResult 10 = .ok (.getfield 54, 3) := by decide +kernel
theorem dX7_noteResult_13 : decode cX7_noteResult 13 = .ok (.iload 4, 2) := by decide +kernel
theorem dX7_noteResult_15 : decode cX7_noteResult 15 = .ok (.laload, 1) := by decide +kernel
theorem dX7_noteResult_16 : decode cX7_noteResult 16 = .ok (.lload_n 2, 1) := by decide +kernel
theorem dX7_noteResult_17 : decode cX7_noteResult 17 = .ok (.lcmp, 1) := by decide +kernel
theorem dX7_noteResult_18 : decode cX7_noteResult 18 = .ok (.ifCond .ne 5, 3) := by decide +kernel
theorem dX7_noteResult_21 : decode cX7_noteResult 21 = .ok (.iload_n 1, 1) := by decide +kernel
theorem dX7_noteResult_22 : decode cX7_noteResult 22 = .ok (.ireturn, 1) := by decide +kernel
theorem dX7_noteResult_23 : decode cX7_noteResult 23 = .ok (.iinc 4 1, 3) := by decide +kernel
theorem dX7_noteResult_26 : decode cX7_noteResult 26 = .ok (.goto (-23), 3) := by decide +kernel
theorem dX7_noteResult_29 : decode cX7_noteResult 29 = .ok (.aload_n 0, 1) := by decide +kernel
theorem dX7_noteResult_30 : decode cX7_noteResult 30 = .ok (.getfield 54, 3) := by decide +kernel
theorem dX7_noteResult_33 : decode cX7_noteResult 33 = .ok (.iload_n 1, 1) := by decide +kernel
theorem dX7_noteResult_34 : decode cX7_noteResult 34 = .ok (.lload_n 2, 1) := by decide +kernel
theorem dX7_noteResult_35 : decode cX7_noteResult 35 = .ok (.lastore, 1) := by decide +kernel
theorem dX7_noteResult_36 : decode cX7_noteResult 36 = .ok (.iload_n 1, 1) := by decide +kernel
theorem dX7_noteResult_37 : decode cX7_noteResult 37 = .ok (.iconst 1, 1) := by decide +kernel
theorem dX7_noteResult_38 : decode cX7_noteResult 38 = .ok (.iadd, 1) := by decide +kernel
theorem dX7_noteResult_39 : decode cX7_noteResult 39 = .ok (.ireturn, 1) := by decide +kernel
theorem dX7_operatorCount_0 : decode cX7_operatorCount 0 = .ok (.aload_n 0, 1) := by decide +kernel
theorem dX7_operatorCount_1 : decode cX7_operatorCount 1 = .ok (.getfield 19, 3) := by decide +kernel
theorem dX7_operatorCount_4 : decode cX7_operatorCount 4 = .ok (.invokevirtual 88, 3) := by decide +kernel
theorem dX7_operatorCount_7 : decode cX7_operatorCount 7 = .ok (.ireturn, 1) := by decide +kernel
theorem dX7_filterCount_0 : decode cX7_filterCount 0 = .ok (.aload_n 0, 1) := by decide +kernel
theorem dX7_filterCount_1 : decode cX7_filterCount 1 = .ok (.getfield 29, 3) := by decide +kernel
theorem dX7_filterCount_4 : decode cX7_filterCount 4 = .ok (.getfield 116, 3) := by decide +kernel
theorem dX7_filterCount_7 : decode cX7_filterCount 7 = .ok (.ireturn, 1) := by decide +kernel
theorem dX7_historySize_0 : decode cX7_historySize 0 = .ok (.aload_n 0, 1) := by decide +kernel
theorem dX7_historySize_1 : decode cX7_historySize 1 = .ok (.getfield 36, 3) := by decide +kernel
theorem dX7_historySize_4 : decode cX7_historySize 4 = .ok (.getfield 157, 3) := by decide +kernel
theorem dX7_historySize_7 : decode cX7_historySize 7 = .ok (.ireturn, 1) := by decide +kernel
theorem dX7_isSymbol_0 : decode cX7_isSymbol 0 = .ok (.iload_n 0, 1) := by decide +kernel
theorem dX7_isSymbol_1 : decode cX7_isSymbol 1 = .ok (.ifCond .lt 13, 3) := by decide +kernel
theorem dX7_isSymbol_4 : decode cX7_isSymbol 4 = .ok (.iload_n 0, 1) := by decide +kernel
theorem dX7_isSymbol_5 : decode cX7_isSymbol 5 = .ok (.bipush 9, 2) := by decide +kernel
theorem dX7_isSymbol_7 : decode cX7_isSymbol 7 = .ok (.if_icmp .ge 7, 3) := by decide +kernel
theorem dX7_isSymbol_10 : decode cX7_isSymbol 10 = .ok (.iconst 1, 1) := by decide +kernel
theorem dX7_isSymbol_11 : decode cX7_isSymbol 11 = .ok (.goto 4, 3) := by decide +kernel
theorem dX7_isSymbol_14 : decode cX7_isSymbol 14 = .ok (.iconst 0, 1) := by decide +kernel
theorem dX7_isSymbol_15 : decode cX7_isSymbol 15 = .ok (.ireturn, 1) := by decide +kernel
theorem dX7_isFilterCount_0 : decode cX7_isFilterCount 0 = .ok (.iload_n 1, 1) := by decide +kernel
theorem dX7_isFilterCount_1 : decode cX7_isFilterCount 1 = .ok (.ifCond .lt 18, 3) := by decide +kernel
theorem dX7_isFilterCount_4 : decode cX7_isFilterCount 4 = .ok (.iload_n 1, 1) := by decide +kernel
theorem dX7_isFilterCount_5 : decode cX7_isFilterCount 5 = .ok (.aload_n 0, 1) := by decide +kernel
theorem dX7_isFilterCount_6 : decode cX7_isFilterCount 6 = .ok (.getfield 29, 3) := by decide +kernel
theorem dX7_isFilterCount_9 : decode cX7_isFilterCount 9 = .ok (.getfield 116, 3) := by decide +kernel
theorem dX7_isFilterCount_12 : decode cX7_isFilterCount 12 = .ok (.if_icmp .gt 7, 3) := by decide +kernel
theorem dX7_isFilterCount_15 : decode cX7_isFilterCount 15 = .ok (.iconst 1, 1) := by decide +kernel
theorem dX7_isFilterCount_16 : decode cX7_isFilterCount 16 = .ok (.goto 4, 3) := by decide +kernel
theorem dX7_isFilterCount_19 : decode cX7_isFilterCount 19 = .ok (.iconst 0, 1) := by decide +kernel
theorem dX7_isFilterCount_20 : decode cX7_isFilterCount 20 = .ok (.ireturn, 1) := by decide +kernel
theorem dX7_isPosition_0 : decode cX7_isPosition 0 = .ok (.iload_n 1, 1) := by decide +kernel
theorem dX7_isPosition_1 : decode cX7_isPosition 1 = .ok (.ifCond .lt 18, 3) := by decide +kernel
theorem dX7_isPosition_4 : decode cX7_isPosition 4 = .ok (.iload_n 1, 1) := by decide +kernel
theorem dX7_isPosition_5 : decode cX7_isPosition 5 = .ok (.aload_n 0, 1) := by decide +kernel
theorem dX7_isPosition_6 : decode cX7_isPosition 6 = .ok (.getfield 29, 3) := by decide +kernel
theorem dX7_isPosition_9 : decode cX7_isPosition 9 = .ok (.getfield 116, 3) := by decide +kernel
theorem dX7_isPosition_12 : decode cX7_isPosition 12 = .ok (.if_icmp .ge 7, 3) := by decide +kernel
theorem dX7_isPosition_15 : decode cX7_isPosition 15 = .ok (.iconst 1, 1) := by decide +kernel
theorem dX7_isPosition_16 : decode cX7_isPosition 16 = .ok (.goto 4, 3) := by decide +kernel
theorem dX7_isPosition_19 : decode cX7_isPosition 19 = .ok (.iconst 0, 1) := by decide +kernel
theorem dX7_isPosition_20 : decode cX7_isPosition 20 = .ok (.ireturn, 1) := by decide +kernel
theorem dX7_isLastPosition_0 : decode cX7_isLastPosition 0 = .ok (.iload_n 1, 1) := by decide +kernel
theorem dX7_isLastPosition_1 : decode cX7_isLastPosition 1 = .ok (.aload_n 0, 1) := by decide +kernel
theorem dX7_isLastPosition_2 : decode cX7_isLastPosition 2 = .ok (.getfield 29, 3) := by decide +kernel
theorem dX7_isLastPosition_5 : decode cX7_isLastPosition 5 = .ok (.getfield 116, 3) := by decide +kernel
theorem dX7_isLastPosition_8 : decode cX7_isLastPosition 8 = .ok (.iconst 1, 1) := by decide +kernel
theorem dX7_isLastPosition_9 : decode cX7_isLastPosition 9 = .ok (.isub, 1) := by decide +kernel
theorem dX7_isLastPosition_10 : decode cX7_isLastPosition 10 = .ok (.if_icmp .ne 7, 3) := by decide +kernel
theorem dX7_isLastPosition_13 : decode cX7_isLastPosition 13 = .ok (.iconst 1, 1) := by decide +kernel
theorem dX7_isLastPosition_14 : decode cX7_isLastPosition 14 = .ok (.goto 4, 3) := by decide +kernel
theorem dX7_isLastPosition_17 : decode cX7_isLastPosition 17 = .ok (.iconst 0, 1) := by decide +kernel
theorem dX7_isLastPosition_18 : decode cX7_isLastPosition 18 = .ok (.ireturn, 1) := by decide +kernel
theorem dX7_growForest_0 : decode cX7_growForest 0 = .ok (.aload_n 0, 1) := by decide +kernel
theorem dX7_growForest_1 : decode cX7_growForest 1 = .ok (.getfield 43, 3) := by decide +kernel
theorem dX7_growForest_4 : decode cX7_growForest 4 = .ok (.aload_n 0, 1) := by decide +kernel
theorem dX7_growForest_5 : decode cX7_growForest 5 = .ok (.getfield 19, 3) := by decide +kernel
theorem dX7_growForest_8 : decode cX7_growForest 8 = .ok (.invokevirtual 88, 3) := by decide +kernel
theorem dX7_growForest_11 : decode cX7_growForest 11 = .ok (.invokevirtual 212, 3) := by decide +kernel
theorem dX7_growForest_14 : decode cX7_growForest 14 = .ok (.iconst 0, 1) := by decide +kernel
theorem dX7_growForest_15 : decode cX7_growForest 15 = .ok (.istore_n 2, 1) := by decide +kernel
theorem dX7_growForest_16 : decode cX7_growForest 16 = .ok (.iload_n 2, 1) := by decide +kernel
theorem dX7_growForest_17 : decode cX7_growForest 17 = .ok (.iload_n 1, 1) := by decide +kernel
theorem dX7_growForest_18 : decode cX7_growForest 18 = .ok (.if_icmp .ge 29, 3) := by decide +kernel
theorem dX7_growForest_21 : decode cX7_growForest 21 = .ok (.aload_n 0, 1) := by decide +kernel
theorem dX7_growForest_22 : decode cX7_growForest 22 = .ok (.getfield 43, 3) := by decide +kernel
theorem dX7_growForest_25 : decode cX7_growForest 25 = .ok (.aload_n 0, 1) := by decide +kernel
theorem dX7_growForest_26 : decode cX7_growForest 26 = .ok (.getfield 19, 3) := by decide +kernel
theorem dX7_growForest_29 : decode cX7_growForest 29 = .ok (.aload_n 0, 1) := by decide +kernel
theorem dX7_growForest_30 : decode cX7_growForest 30 = .ok (.getfield 29, 3) := by decide +kernel
theorem dX7_growForest_33 : decode cX7_growForest 33 = .ok (.getfield 140, 3) := by decide +kernel
theorem dX7_growForest_36 : decode cX7_growForest 36 = .ok (.iload_n 2, 1) := by decide +kernel
theorem dX7_growForest_37 : decode cX7_growForest 37 = .ok (.iaload, 1) := by decide +kernel
theorem dX7_growForest_38 : decode cX7_growForest 38 = .ok (.invokevirtual 186, 3) := by decide +kernel
theorem dX7_growForest_41 : decode cX7_growForest 41 = .ok (.iinc 2 1, 3) := by decide +kernel
theorem dX7_growForest_44 : decode cX7_growForest 44 = .ok (.goto (-28), 3) := by decide +kernel
theorem dX7_growForest_47 : decode cX7_growForest 47 = .ok (.aload_n 0, 1) := by decide +kernel
theorem dX7_growForest_48 : decode cX7_growForest 48 = .ok (.getfield 43, 3) := by decide +kernel
theorem dX7_growForest_51 : decode cX7_growForest 51 = .ok (.invokevirtual 214, 3) := by decide +kernel
theorem dX7_growForest_54 : decode cX7_growForest 54 = .ok (.ireturn, 1) := by decide +kernel
theorem dX7_selectTree_0 : decode cX7_selectTree 0 = .ok (.iload_n 2, 1) := by decide +kernel
theorem dX7_selectTree_1 : decode cX7_selectTree 1 = .ok (.aload_n 0, 1) := by decide +kernel
theorem dX7_selectTree_2 : decode cX7_selectTree 2 = .ok (.iload_n 1, 1) := by decide +kernel
theorem dX7_selectTree_3 : decode cX7_selectTree 3 = .ok (.invokevirtual 172, 3) := by decide +kernel
theorem dX7_selectTree_6 : decode cX7_selectTree 6 = .ok (.if_icmp .lt 5, 3) := by decide +kernel
theorem dX7_selectTree_9 : decode cX7_selectTree 9 = .ok (.iconst 0, 1) := by decide +kernel
theorem dX7_selectTree_10 : decode cX7_selectTree 10 = .ok (.ireturn, 1) := by decide +kernel
theorem dX7_selectTree_11 : decode cX7_selectTree 11 = .ok (.aload_n 0, 1) := by decide +kernel
theorem dX7_selectTree_12 : decode cX7_selectTree 12 = .ok (.getfield 50, 3) := by decide +kernel
theorem dX7_selectTree_15 : decode cX7_selectTree 15 = .ok (.aload_n 0, 1) := by decide +kernel
theorem dX7_selectTree_16 : decode cX7_selectTree 16 = .ok (.getfield 43, 3) := by decide +kernel
theorem dX7_selectTree_19 : decode cX7_selectTree 19 = .ok (.iload_n 2, 1) := by decide +kernel
theorem dX7_selectTree_20 : decode cX7_selectTree 20 = .ok (.invokevirtual 204, 3) := by decide +kernel
theorem dX7_selectTree_23 : decode cX7_selectTree 23 = .ok (.iconst 1, 1) := by decide +kernel
theorem dX7_selectTree_24 : decode cX7_selectTree 24 = .ok (.ireturn, 1) := by decide +kernel
theorem dX7_spanIndex_0 : decode cX7_spanIndex 0 = .ok (.iload_n 0, 1) := by decide +kernel
theorem dX7_spanIndex_1 : decode cX7_spanIndex 1 = .ok (.bipush 11, 2) := by decide +kernel
theorem dX7_spanIndex_3 : decode cX7_spanIndex 3 = .ok (.imul, 1) := by decide +kernel
theorem dX7_spanIndex_4 : decode cX7_spanIndex 4 = .ok (.iload_n 1, 1) := by decide +kernel
theorem dX7_spanIndex_5 : decode cX7_spanIndex 5 = .ok (.iadd, 1) := by decide +kernel
theorem dX7_spanIndex_6 : decode cX7_spanIndex 6 = .ok (.ireturn, 1) := by decide +kernel
