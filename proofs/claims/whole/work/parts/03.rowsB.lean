theorem dX5_init_0 : decode cX5_init 0 = .ok (.aload_n 0, 1) := by decide +kernel
theorem dX5_init_1 : decode cX5_init 1 = .ok (.invokespecial 1, 3) := by decide +kernel
theorem dX5_init_4 : decode cX5_init 4 = .ok (.aload_n 0, 1) := by decide +kernel
theorem dX5_init_5 : decode cX5_init 5 = .ok (.sipush 3880, 3) := by decide +kernel
theorem dX5_init_8 : decode cX5_init 8 = .ok (.newarray .int, 2) := by decide +kernel
theorem dX5_init_10 : decode cX5_init 10 = .ok (.putfield 7, 3) := by decide +kernel
theorem dX5_init_13 : decode cX5_init 13 = .ok (.aload_n 0, 1) := by decide +kernel
theorem dX5_init_14 : decode cX5_init 14 = .ok (.iconst 2, 1) := by decide +kernel
theorem dX5_init_15 : decode cX5_init 15 = .ok (.newarray .boolean, 2) := by decide +kernel
theorem dX5_init_17 : decode cX5_init 17 = .ok (.putfield 13, 3) := by decide +kernel
theorem dX5_init_20 : decode cX5_init 20 = .ok (.aload_n 0, 1) := by decide +kernel
theorem dX5_init_21 : decode cX5_init 21 = .ok (.bipush 24, 2) := by decide +kernel
theorem dX5_init_23 : decode cX5_init 23 = .ok (.newarray .int, 2) := by decide +kernel
theorem dX5_init_25 : decode cX5_init 25 = .ok (.putfield 17, 3) := by decide +kernel
theorem dX5_init_28 : decode cX5_init 28 = .ok (.aload_n 0, 1) := by decide +kernel
theorem dX5_init_29 : decode cX5_init 29 = .ok (.bipush 24, 2) := by decide +kernel
theorem dX5_init_31 : decode cX5_init 31 = .ok (.newarray .boolean, 2) := by decide +kernel
theorem dX5_init_33 : decode cX5_init 33 = .ok (.putfield 20, 3) := by decide +kernel
theorem dX5_init_36 : decode cX5_init 36 = .ok (.iconst 0, 1) := by decide +kernel
theorem dX5_init_37 : decode cX5_init 37 = .ok (.istore_n 1, 1) := by decide +kernel
theorem dX5_init_38 : decode cX5_init 38 = .ok (.iload_n 1, 1) := by decide +kernel
theorem dX5_init_39 : decode cX5_init 39 = .ok (.bipush 24, 2) := by decide +kernel
theorem dX5_init_41 : decode cX5_init 41 = .ok (.if_icmp .ge 22, 3) := by decide +kernel
theorem dX5_init_44 : decode cX5_init 44 = .ok (.aload_n 0, 1) := by decide +kernel
theorem dX5_init_45 : decode cX5_init 45 = .ok (.getfield 7, 3) := by decide +kernel
theorem dX5_init_48 : decode cX5_init 48 = .ok (.bipush 15, 2) := by decide +kernel
theorem dX5_init_50 : decode cX5_init 50 = .ok (.iload_n 1, 1) := by decide +kernel
theorem dX5_init_51 : decode cX5_init 51 = .ok (.imul, 1) := by decide +kernel
theorem dX5_init_52 : decode cX5_init 52 = .ok (.iconst 0, 1) := by decide +kernel
theorem dX5_init_53 : decode cX5_init 53 = .ok (.iadd, 1) := by decide +kernel
theorem dX5_init_54 : decode cX5_init 54 = .ok (.bipush (-9), 2) := by decide +kernel
theorem dX5_init_56 : decode cX5_init 56 = .ok (.iastore, 1) := by decide +kernel
theorem dX5_init_57 : decode cX5_init 57 = .ok (.iinc 1 1, 3) := by decide +kernel
theorem dX5_init_60 : decode cX5_init 60 = .ok (.goto (-22), 3) := by decide +kernel
theorem dX5_init_63 : decode cX5_init 63 = .ok (.iconst 0, 1) := by decide +kernel
theorem dX5_init_64 : decode cX5_init 64 = .ok (.istore_n 1, 1) := by decide +kernel
theorem dX5_init_65 : decode cX5_init 65 = .ok (.iload_n 1, 1) := by decide +kernel
theorem dX5_init_66 : decode cX5_init 66 = .ok (.bipush 6, 2) := by decide +kernel
theorem dX5_init_68 : decode cX5_init 68 = .ok (.if_icmp .ge 21, 3) := by decide +kernel
theorem dX5_init_71 : decode cX5_init 71 = .ok (.aload_n 0, 1) := by decide +kernel
theorem dX5_init_72 : decode cX5_init 72 = .ok (.getfield 7, 3) := by decide +kernel
theorem dX5_init_75 : decode cX5_init 75 = .ok (.sipush 360, 3) := by decide +kernel
theorem dX5_init_78 : decode cX5_init 78 = .ok (.iload_n 1, 1) := by decide +kernel
theorem dX5_init_79 : decode cX5_init 79 = .ok (.iadd, 1) := by decide +kernel
theorem dX5_init_80 : decode cX5_init 80 = .ok (.bipush (-9), 2) := by decide +kernel
theorem dX5_init_82 : decode cX5_init 82 = .ok (.iastore, 1) := by decide +kernel
theorem dX5_init_83 : decode cX5_init 83 = .ok (.iinc 1 1, 3) := by decide +kernel
theorem dX5_init_86 : decode cX5_init 86 = .ok (.goto (-21), 3) := by decide +kernel
theorem dX5_init_89 : decode cX5_init 89 = .ok (.return_, 1) := by decide +kernel
theorem dX5_within_0 : decode cX5_within 0 = .ok (.iload_n 0, 1) := by decide +kernel
theorem dX5_within_1 : decode cX5_within 1 = .ok (.iload_n 1, 1) := by decide +kernel
theorem dX5_within_2 : decode cX5_within 2 = .ok (.if_icmp .lt 12, 3) := by decide +kernel
theorem dX5_within_5 : decode cX5_within 5 = .ok (.iload_n 0, 1) := by decide +kernel
theorem dX5_within_6 : decode cX5_within 6 = .ok (.iload_n 2, 1) := by decide +kernel
theorem dX5_within_7 : decode cX5_within 7 = .ok (.if_icmp .gt 7, 3) := by decide +kernel
theorem dX5_within_10 : decode cX5_within 10 = .ok (.iconst 1, 1) := by decide +kernel
theorem dX5_within_11 : decode cX5_within 11 = .ok (.goto 4, 3) := by decide +kernel
theorem dX5_within_14 : decode cX5_within 14 = .ok (.iconst 0, 1) := by decide +kernel
theorem dX5_within_15 : decode cX5_within 15 = .ok (.ireturn, 1) := by decide +kernel
theorem dX5_copyState_0 : decode cX5_copyState 0 = .ok (.iconst 0, 1) := by decide +kernel
theorem dX5_copyState_1 : decode cX5_copyState 1 = .ok (.istore_n 3, 1) := by decide +kernel
theorem dX5_copyState_2 : decode cX5_copyState 2 = .ok (.iload_n 3, 1) := by decide +kernel
theorem dX5_copyState_3 : decode cX5_copyState 3 = .ok (.sipush 388, 3) := by decide +kernel
theorem dX5_copyState_6 : decode cX5_copyState 6 = .ok (.if_icmp .ge 33, 3) := by decide +kernel
theorem dX5_copyState_9 : decode cX5_copyState 9 = .ok (.aload_n 0, 1) := by decide +kernel
theorem dX5_copyState_10 : decode cX5_copyState 10 = .ok (.getfield 7, 3) := by decide +kernel
theorem dX5_copyState_13 : decode cX5_copyState 13 = .ok (.sipush 388, 3) := by decide +kernel
theorem dX5_copyState_16 : decode cX5_copyState 16 = .ok (.iload_n 2, 1) := by decide +kernel
theorem dX5_copyState_17 : decode cX5_copyState 17 = .ok (.imul, 1) := by decide +kernel
theorem dX5_copyState_18 : decode cX5_copyState 18 = .ok (.iload_n 3, 1) := by decide +kernel
theorem dX5_copyState_19 : decode cX5_copyState 19 = .ok (.iadd, 1) := by decide +kernel
theorem dX5_copyState_20 : decode cX5_copyState 20 = .ok (.aload_n 0, 1) := by decide +kernel
theorem dX5_copyState_21 : decode cX5_copyState 21 = .ok (.getfield 7, 3) := by decide +kernel
theorem dX5_copyState_24 : decode cX5_copyState 24 = .ok (.sipush 388, 3) := by decide +kernel
theorem dX5_copyState_27 : decode cX5_copyState 27 = .ok (.iload_n 1, 1) := by decide +kernel
theorem dX5_copyState_28 : decode cX5_copyState 28 = .ok (.imul, 1) := by decide +kernel
theorem dX5_copyState_29 : decode cX5_copyState 29 = .ok (.iload_n 3, 1) := by decide +kernel
theorem dX5_copyState_30 : decode cX5_copyState 30 = .ok (.iadd, 1) := by decide +kernel
theorem dX5_copyState_31 : decode cX5_copyState 31 = .ok (.iaload, 1) := by decide +kernel
theorem dX5_copyState_32 : decode cX5_copyState 32 = .ok (.iastore, 1) := by decide +kernel
theorem dX5_copyState_33 : decode cX5_copyState 33 = .ok (.iinc 3 1, 3) := by decide +kernel
theorem dX5_copyState_36 : decode cX5_copyState 36 = .ok (.goto (-34), 3) := by decide +kernel
theorem dX5_copyState_39 : decode cX5_copyState 39 = .ok (.return_, 1) := by decide +kernel
set_option maxRecDepth 20000 in
theorem ggX5_saveState_X5_copyState : GoodIn wsX5_saveState wsX5_copyState := goodIn_r _ [6, 7, 8, 9, 10, 11, 12] (by decide +kernel) (by decide +kernel)
set_option maxRecDepth 20000 in
theorem gX5_saveState_X5_copyState : GoodIn wsX5_saveState (wsV RX5 27 RX5 yX5_copyState wsX5_copyState) := goodIn_app (goodIn_of _ (by decide +kernel)) ggX5_saveState_X5_copyState
theorem dX5_saveState_0 : decode cX5_saveState 0 = .ok (.aload_n 0, 1) := by decide +kernel
theorem dX5_saveState_1 : decode cX5_saveState 1 = .ok (.getfield 23, 3) := by decide +kernel
theorem dX5_saveState_4 : decode cX5_saveState 4 = .ok (.bipush 6, 2) := by decide +kernel
theorem dX5_saveState_6 : decode cX5_saveState 6 = .ok (.if_icmp .ne 35, 3) := by decide +kernel
theorem dX5_saveState_9 : decode cX5_saveState 9 = .ok (.iconst 2, 1) := by decide +kernel
theorem dX5_saveState_10 : decode cX5_saveState 10 = .ok (.istore_n 1, 1) := by decide +kernel
theorem dX5_saveState_11 : decode cX5_saveState 11 = .ok (.iload_n 1, 1) := by decide +kernel
theorem dX5_saveState_12 : decode cX5_saveState 12 = .ok (.bipush 7, 2) := by decide +kernel
theorem dX5_saveState_14 : decode cX5_saveState 14 = .ok (.if_icmp .ge 17, 3) := by decide +kernel
theorem dX5_saveState_17 : decode cX5_saveState 17 = .ok (.aload_n 0, 1) := by decide +kernel
theorem dX5_saveState_18 : decode cX5_saveState 18 = .ok (.iload_n 1, 1) := by decide +kernel
theorem dX5_saveState_19 : decode cX5_saveState 19 = .ok (.iconst 1, 1) := by decide +kernel
theorem dX5_saveState_20 : decode cX5_saveState 20 = .ok (.iadd, 1) := by decide +kernel
theorem dX5_saveState_21 : decode cX5_saveState 21 = .ok (.iload_n 1, 1) := by decide +kernel
theorem dX5_saveState_22 : decode cX5_saveState 22 = .ok (.invokevirtual 27, 3) := by decide +kernel
theorem dX5_saveState_25 : decode cX5_saveState 25 = .ok (.iinc 1 1, 3) := by decide +kernel
theorem dX5_saveState_28 : decode cX5_saveState 28 = .ok (.goto (-17), 3) := by decide +kernel
theorem dX5_saveState_31 : decode cX5_saveState 31 = .ok (.aload_n 0, 1) := by decide +kernel
theorem dX5_saveState_32 : decode cX5_saveState 32 = .ok (.dup, 1) := by decide +kernel
theorem dX5_saveState_33 : decode cX5_saveState 33 = .ok (.getfield 23, 3) := by decide +kernel
theorem dX5_saveState_36 : decode cX5_saveState 36 = .ok (.iconst 1, 1) := by decide +kernel
theorem dX5_saveState_37 : decode cX5_saveState 37 = .ok (.isub, 1) := by decide +kernel
theorem dX5_saveState_38 : decode cX5_saveState 38 = .ok (.putfield 23, 3) := by decide +kernel
theorem dX5_saveState_41 : decode cX5_saveState 41 = .ok (.aload_n 0, 1) := by decide +kernel
theorem dX5_saveState_42 : decode cX5_saveState 42 = .ok (.iconst 0, 1) := by decide +kernel
theorem dX5_saveState_43 : decode cX5_saveState 43 = .ok (.iconst 2, 1) := by decide +kernel
theorem dX5_saveState_44 : decode cX5_saveState 44 = .ok (.aload_n 0, 1) := by decide +kernel
theorem dX5_saveState_45 : decode cX5_saveState 45 = .ok (.getfield 23, 3) := by decide +kernel
theorem dX5_saveState_48 : decode cX5_saveState 48 = .ok (.iadd, 1) := by decide +kernel
theorem dX5_saveState_49 : decode cX5_saveState 49 = .ok (.invokevirtual 27, 3) := by decide +kernel
theorem dX5_saveState_52 : decode cX5_saveState 52 = .ok (.aload_n 0, 1) := by decide +kernel
theorem dX5_saveState_53 : decode cX5_saveState 53 = .ok (.dup, 1) := by decide +kernel
theorem dX5_saveState_54 : decode cX5_saveState 54 = .ok (.getfield 23, 3) := by decide +kernel
theorem dX5_saveState_57 : decode cX5_saveState 57 = .ok (.iconst 1, 1) := by decide +kernel
theorem dX5_saveState_58 : decode cX5_saveState 58 = .ok (.iadd, 1) := by decide +kernel
theorem dX5_saveState_59 : decode cX5_saveState 59 = .ok (.putfield 23, 3) := by decide +kernel
theorem dX5_saveState_62 : decode cX5_saveState 62 = .ok (.return_, 1) := by decide +kernel
set_option maxRecDepth 20000 in
theorem ggX5_undo_X5_copyState : GoodIn wsX5_undo wsX5_copyState := goodIn_r _ [6, 7, 8, 9, 10, 11, 12] (by decide +kernel) (by decide +kernel)
set_option maxRecDepth 20000 in
theorem gX5_undo_X5_copyState : GoodIn wsX5_undo (wsV RX5 27 RX5 yX5_copyState wsX5_copyState) := goodIn_app (goodIn_of _ (by decide +kernel)) ggX5_undo_X5_copyState
theorem dX5_undo_0 : decode cX5_undo 0 = .ok (.aload_n 0, 1) := by decide +kernel
theorem dX5_undo_1 : decode cX5_undo 1 = .ok (.getfield 23, 3) := by decide +kernel
theorem dX5_undo_4 : decode cX5_undo 4 = .ok (.ifCond .ne 6, 3) := by decide +kernel
theorem dX5_undo_7 : decode cX5_undo 7 = .ok (.bipush (-2), 2) := by decide +kernel
theorem dX5_undo_9 : decode cX5_undo 9 = .ok (.ireturn, 1) := by decide +kernel
theorem dX5_undo_10 : decode cX5_undo 10 = .ok (.aload_n 0, 1) := by decide +kernel
theorem dX5_undo_11 : decode cX5_undo 11 = .ok (.dup, 1) := by decide +kernel
theorem dX5_undo_12 : decode cX5_undo 12 = .ok (.getfield 23, 3) := by decide +kernel
theorem dX5_undo_15 : decode cX5_undo 15 = .ok (.iconst 1, 1) := by decide +kernel
theorem dX5_undo_16 : decode cX5_undo 16 = .ok (.isub, 1) := by decide +kernel
theorem dX5_undo_17 : decode cX5_undo 17 = .ok (.putfield 23, 3) := by decide +kernel
theorem dX5_undo_20 : decode cX5_undo 20 = .ok (.aload_n 0, 1) := by decide +kernel
theorem dX5_undo_21 : decode cX5_undo 21 = .ok (.iconst 2, 1) := by decide +kernel
theorem dX5_undo_22 : decode cX5_undo 22 = .ok (.aload_n 0, 1) := by decide +kernel
theorem dX5_undo_23 : decode cX5_undo 23 = .ok (.getfield 23, 3) := by decide +kernel
theorem dX5_undo_26 : decode cX5_undo 26 = .ok (.iadd, 1) := by decide +kernel
theorem dX5_undo_27 : decode cX5_undo 27 = .ok (.iconst 0, 1) := by decide +kernel
theorem dX5_undo_28 : decode cX5_undo 28 = .ok (.invokevirtual 27, 3) := by decide +kernel
theorem dX5_undo_31 : decode cX5_undo 31 = .ok (.aload_n 0, 1) := by decide +kernel
theorem dX5_undo_32 : decode cX5_undo 32 = .ok (.getfield 23, 3) := by decide +kernel
theorem dX5_undo_35 : decode cX5_undo 35 = .ok (.ireturn, 1) := by decide +kernel
theorem dX5_undoDepth_0 : decode cX5_undoDepth 0 = .ok (.aload_n 0, 1) := by decide +kernel
theorem dX5_undoDepth_1 : decode cX5_undoDepth 1 = .ok (.getfield 23, 3) := by decide +kernel
theorem dX5_undoDepth_4 : decode cX5_undoDepth 4 = .ok (.ireturn, 1) := by decide +kernel
set_option maxRecDepth 20000 in
theorem ggX5_save_X5_within : GoodIn wsX5_save wsX5_within := goodIn_r _ [5] (by decide +kernel) (by decide +kernel)
set_option maxRecDepth 20000 in
theorem gX5_save_X5_within : GoodIn wsX5_save (va_wsS RX5 31 yX5_within wsX5_within) := goodIn_app (goodIn_of _ (by decide +kernel)) ggX5_save_X5_within
set_option maxRecDepth 20000 in
theorem ggX5_save_X5_copyState : GoodIn wsX5_save wsX5_copyState := goodIn_r _ [9, 10, 23, 24, 25, 26, 27] (by decide +kernel) (by decide +kernel)
set_option maxRecDepth 20000 in
theorem gX5_save_X5_copyState : GoodIn wsX5_save (wsV RX5 27 RX5 yX5_copyState wsX5_copyState) := goodIn_app (goodIn_of _ (by decide +kernel)) ggX5_save_X5_copyState
set_option maxRecDepth 20000 in
theorem ggX5_save_X5_objectCount : GoodIn wsX5_save wsX5_objectCount := goodIn_r _ [14, 15, 16, 17, 4, 18, 2, 3, 5, 19, 20, 21, 22, 10, 23, 24, 25, 26, 27] (by decide +kernel) (by decide +kernel)
set_option maxRecDepth 20000 in
theorem gX5_save_X5_objectCount : GoodIn wsX5_save (wsV RX5 35 RX5 yX5_objectCount wsX5_objectCount) := goodIn_app (goodIn_of _ (by decide +kernel)) ggX5_save_X5_objectCount
theorem dX5_save_0 : decode cX5_save 0 = .ok (.iload_n 1, 1) := by decide +kernel
theorem dX5_save_1 : decode cX5_save 1 = .ok (.iconst 0, 1) := by decide +kernel
theorem dX5_save_2 : decode cX5_save 2 = .ok (.iconst 1, 1) := by decide +kernel
theorem dX5_save_3 : decode cX5_save 3 = .ok (.invokestatic 31, 3) := by decide +kernel
theorem dX5_save_6 : decode cX5_save 6 = .ok (.ifCond .ne 5, 3) := by decide +kernel
theorem dX5_save_9 : decode cX5_save 9 = .ok (.iconst (-1), 1) := by decide +kernel
theorem dX5_save_10 : decode cX5_save 10 = .ok (.ireturn, 1) := by decide +kernel
theorem dX5_save_11 : decode cX5_save 11 = .ok (.aload_n 0, 1) := by decide +kernel
theorem dX5_save_12 : decode cX5_save 12 = .ok (.iconst 0, 1) := by decide +kernel
theorem dX5_save_13 : decode cX5_save 13 = .ok (.bipush 8, 2) := by decide +kernel
theorem dX5_save_15 : decode cX5_save 15 = .ok (.iload_n 1, 1) := by decide +kernel
theorem dX5_save_16 : decode cX5_save 16 = .ok (.iadd, 1) := by decide +kernel
theorem dX5_save_17 : decode cX5_save 17 = .ok (.invokevirtual 27, 3) := by decide +kernel
theorem dX5_save_20 : decode cX5_save 20 = .ok (.aload_n 0, 1) := by decide +kernel
theorem dX5_save_21 : decode cX5_save 21 = .ok (.getfield 13, 3) := by decide +kernel
theorem dX5_save_24 : decode cX5_save 24 = .ok (.iload_n 1, 1) := by decide +kernel
theorem dX5_save_25 : decode cX5_save 25 = .ok (.iconst 1, 1) := by decide +kernel
theorem dX5_save_26 : decode cX5_save 26 = .ok (.bastore, 1) := by decide +kernel
theorem dX5_save_27 : decode cX5_save 27 = .ok (.aload_n 0, 1) := by decide +kernel
theorem dX5_save_28 : decode cX5_save 28 = .ok (.invokevirtual 35, 3) := by decide +kernel
theorem dX5_save_31 : decode cX5_save 31 = .ok (.ireturn, 1) := by decide +kernel
set_option maxRecDepth 20000 in
theorem ggX5_restore_X5_within : GoodIn wsX5_restore wsX5_within := goodIn_r _ [6] (by decide +kernel) (by decide +kernel)
set_option maxRecDepth 20000 in
theorem gX5_restore_X5_within : GoodIn wsX5_restore (va_wsS RX5 31 yX5_within wsX5_within) := goodIn_app (goodIn_of _ (by decide +kernel)) ggX5_restore_X5_within
set_option maxRecDepth 20000 in
theorem ggX5_restore_X5_copyState : GoodIn wsX5_restore wsX5_copyState := goodIn_r _ [10, 11, 24, 25, 26, 27, 28] (by decide +kernel) (by decide +kernel)
set_option maxRecDepth 20000 in
theorem gX5_restore_X5_copyState : GoodIn wsX5_restore (wsV RX5 27 RX5 yX5_copyState wsX5_copyState) := goodIn_app (goodIn_of _ (by decide +kernel)) ggX5_restore_X5_copyState
set_option maxRecDepth 20000 in
theorem ggX5_restore_X5_objectCount : GoodIn wsX5_restore wsX5_objectCount := goodIn_r _ [15, 16, 17, 18, 5, 19, 3, 4, 6, 20, 21, 22, 23, 11, 24, 25, 26, 27, 28] (by decide +kernel) (by decide +kernel)
set_option maxRecDepth 20000 in
theorem gX5_restore_X5_objectCount : GoodIn wsX5_restore (wsV RX5 35 RX5 yX5_objectCount wsX5_objectCount) := goodIn_app (goodIn_of _ (by decide +kernel)) ggX5_restore_X5_objectCount
theorem dX5_restore_0 : decode cX5_restore 0 = .ok (.iload_n 1, 1) := by decide +kernel
theorem dX5_restore_1 : decode cX5_restore 1 = .ok (.iconst 0, 1) := by decide +kernel
theorem dX5_restore_2 : decode cX5_restore 2 = .ok (.iconst 1, 1) := by decide +kernel
theorem dX5_restore_3 : decode cX5_restore 3 = .ok (.invokestatic 31, 3) := by decide +kernel
theorem dX5_restore_6 : decode cX5_restore 6 = .ok (.ifCond .ne 5, 3) := by decide +kernel
theorem dX5_restore_9 : decode cX5_restore 9 = .ok (.iconst (-1), 1) := by decide +kernel
theorem dX5_restore_10 : decode cX5_restore 10 = .ok (.ireturn, 1) := by decide +kernel
theorem dX5_restore_11 : decode cX5_restore 11 = .ok (.aload_n 0, 1) := by decide +kernel
theorem dX5_restore_12 : decode cX5_restore 12 = .ok (.getfield 13, 3) := by decide +kernel
theorem dX5_restore_15 : decode cX5_restore 15 = .ok (.iload_n 1, 1) := by decide +kernel
theorem dX5_restore_16 : decode cX5_restore 16 = .ok (.baload, 1) := by decide +kernel
theorem dX5_restore_17 : decode cX5_restore 17 = .ok (.ifCond .ne 6, 3) := by decide +kernel
theorem dX5_restore_20 : decode cX5_restore 20 = .ok (.bipush (-2), 2) := by decide +kernel
theorem dX5_restore_22 : decode cX5_restore 22 = .ok (.ireturn, 1) := by decide +kernel
theorem dX5_restore_23 : decode cX5_restore 23 = .ok (.aload_n 0, 1) := by decide +kernel
theorem dX5_restore_24 : decode cX5_restore 24 = .ok (.bipush 8, 2) := by decide +kernel
theorem dX5_restore_26 : decode cX5_restore 26 = .ok (.iload_n 1, 1) := by decide +kernel
theorem dX5_restore_27 : decode cX5_restore 27 = .ok (.iadd, 1) := by decide +kernel
theorem dX5_restore_28 : decode cX5_restore 28 = .ok (.iconst 0, 1) := by decide +kernel
theorem dX5_restore_29 : decode cX5_restore 29 = .ok (.invokevirtual 27, 3) := by decide +kernel
theorem dX5_restore_32 : decode cX5_restore 32 = .ok (.aload_n 0, 1) := by decide +kernel
theorem dX5_restore_33 : decode cX5_restore 33 = .ok (.iconst 0, 1) := by decide +kernel
theorem dX5_restore_34 : decode cX5_restore 34 = .ok (.putfield 23, 3) := by decide +kernel
theorem dX5_restore_37 : decode cX5_restore 37 = .ok (.aload_n 0, 1) := by decide +kernel
theorem dX5_restore_38 : decode cX5_restore 38 = .ok (.invokevirtual 35, 3) := by decide +kernel
theorem dX5_restore_41 : decode cX5_restore 41 = .ok (.ireturn, 1) := by decide +kernel
theorem dX5_part_0 : decode cX5_part 0 = .ok (.aload_n 0, 1) := by decide +kernel
theorem dX5_part_1 : decode cX5_part 1 = .ok (.getfield 7, 3) := by decide +kernel
theorem dX5_part_4 : decode cX5_part 4 = .ok (.bipush 15, 2) := by decide +kernel
theorem dX5_part_6 : decode cX5_part 6 = .ok (.iload_n 1, 1) := by decide +kernel
theorem dX5_part_7 : decode cX5_part 7 = .ok (.imul, 1) := by decide +kernel
theorem dX5_part_8 : decode cX5_part 8 = .ok (.iload_n 2, 1) := by decide +kernel
theorem dX5_part_9 : decode cX5_part 9 = .ok (.iadd, 1) := by decide +kernel
theorem dX5_part_10 : decode cX5_part 10 = .ok (.iaload, 1) := by decide +kernel
theorem dX5_part_11 : decode cX5_part 11 = .ok (.ireturn, 1) := by decide +kernel
set_option maxRecDepth 20000 in
theorem ggX5_isAllocated_X5_within : GoodIn wsX5_isAllocated wsX5_within := goodIn_r _ [4] (by decide +kernel) (by decide +kernel)
set_option maxRecDepth 20000 in
theorem gX5_isAllocated_X5_within : GoodIn wsX5_isAllocated (va_wsS RX5 31 yX5_within wsX5_within) := goodIn_app (goodIn_of _ (by decide +kernel)) ggX5_isAllocated_X5_within
set_option maxRecDepth 20000 in
theorem ggX5_isAllocated_X5_part : GoodIn wsX5_isAllocated wsX5_part := goodIn_r _ [8, 9, 10, 11, 12, 13, 14] (by decide +kernel) (by decide +kernel)
set_option maxRecDepth 20000 in
theorem gX5_isAllocated_X5_part : GoodIn wsX5_isAllocated (wsV RX5 39 RX5 yX5_part wsX5_part) := goodIn_app (goodIn_of _ (by decide +kernel)) ggX5_isAllocated_X5_part
theorem dX5_isAllocated_0 : decode cX5_isAllocated 0 = .ok (.iload_n 1, 1) := by decide +kernel
theorem dX5_isAllocated_1 : decode cX5_isAllocated 1 = .ok (.iconst 0, 1) := by decide +kernel
theorem dX5_isAllocated_2 : decode cX5_isAllocated 2 = .ok (.bipush 23, 2) := by decide +kernel
theorem dX5_isAllocated_4 : decode cX5_isAllocated 4 = .ok (.invokestatic 31, 3) := by decide +kernel
theorem dX5_isAllocated_7 : decode cX5_isAllocated 7 = .ok (.ifCond .eq 18, 3) := by decide +kernel
theorem dX5_isAllocated_10 : decode cX5_isAllocated 10 = .ok (.aload_n 0, 1) := by decide +kernel
theorem dX5_isAllocated_11 : decode cX5_isAllocated 11 = .ok (.iload_n 1, 1) := by decide +kernel
theorem dX5_isAllocated_12 : decode cX5_isAllocated 12 = .ok (.iconst 0, 1) := by decide +kernel
theorem dX5_isAllocated_13 : decode cX5_isAllocated 13 = .ok (.invokevirtual 39, 3) := by decide +kernel
theorem dX5_isAllocated_16 : decode cX5_isAllocated 16 = .ok (.bipush (-9), 2) := by decide +kernel
theorem dX5_isAllocated_18 : decode cX5_isAllocated 18 = .ok (.if_icmp .eq 7, 3) := by decide +kernel
theorem dX5_isAllocated_21 : decode cX5_isAllocated 21 = .ok (.iconst 1, 1) := by decide +kernel
theorem dX5_isAllocated_22 : decode cX5_isAllocated 22 = .ok (.goto 4, 3) := by decide +kernel
theorem dX5_isAllocated_25 : decode cX5_isAllocated 25 = .ok (.iconst 0, 1) := by decide +kernel
theorem dX5_isAllocated_26 : decode cX5_isAllocated 26 = .ok (.ireturn, 1) := by decide +kernel
set_option maxRecDepth 20000 in
theorem ggX5_isKind_X5_isAllocated : GoodIn wsX5_isKind wsX5_isAllocated := goodIn_r _ [5, 6, 7, 4, 8, 9, 10, 11, 12, 13, 14, 15, 16, 17, 18] (by decide +kernel) (by decide +kernel)
set_option maxRecDepth 20000 in
theorem gX5_isKind_X5_isAllocated : GoodIn wsX5_isKind (wsV RX5 43 RX5 yX5_isAllocated wsX5_isAllocated) := goodIn_app (goodIn_of _ (by decide +kernel)) ggX5_isKind_X5_isAllocated
set_option maxRecDepth 20000 in
theorem ggX5_isKind_X5_part : GoodIn wsX5_isKind wsX5_part := goodIn_r _ [12, 13, 14, 15, 16, 17, 18] (by decide +kernel) (by decide +kernel)
set_option maxRecDepth 20000 in
theorem gX5_isKind_X5_part : GoodIn wsX5_isKind (wsV RX5 39 RX5 yX5_part wsX5_part) := goodIn_app (goodIn_of _ (by decide +kernel)) ggX5_isKind_X5_part
theorem dX5_isKind_0 : decode cX5_isKind 0 = .ok (.aload_n 0, 1) := by decide +kernel
theorem dX5_isKind_1 : decode cX5_isKind 1 = .ok (.iload_n 1, 1) := by decide +kernel
theorem dX5_isKind_2 : decode cX5_isKind 2 = .ok (.invokevirtual 43, 3) := by decide +kernel
theorem dX5_isKind_5 : decode cX5_isKind 5 = .ok (.ifCond .eq 17, 3) := by decide +kernel
theorem dX5_isKind_8 : decode cX5_isKind 8 = .ok (.aload_n 0, 1) := by decide +kernel
theorem dX5_isKind_9 : decode cX5_isKind 9 = .ok (.iload_n 1, 1) := by decide +kernel
theorem dX5_isKind_10 : decode cX5_isKind 10 = .ok (.iconst 0, 1) := by decide +kernel
theorem dX5_isKind_11 : decode cX5_isKind 11 = .ok (.invokevirtual 39, 3) := by decide +kernel
theorem dX5_isKind_14 : decode cX5_isKind 14 = .ok (.iload_n 2, 1) := by decide +kernel
theorem dX5_isKind_15 : decode cX5_isKind 15 = .ok (.if_icmp .ne 7, 3) := by decide +kernel
theorem dX5_isKind_18 : decode cX5_isKind 18 = .ok (.iconst 1, 1) := by decide +kernel
theorem dX5_isKind_19 : decode cX5_isKind 19 = .ok (.goto 4, 3) := by decide +kernel
theorem dX5_isKind_22 : decode cX5_isKind 22 = .ok (.iconst 0, 1) := by decide +kernel
theorem dX5_isKind_23 : decode cX5_isKind 23 = .ok (.ireturn, 1) := by decide +kernel
set_option maxRecDepth 20000 in
theorem ggX5_make_X5_isAllocated : GoodIn wsX5_make wsX5_isAllocated := goodIn_r _ [6, 7, 8, 5, 9, 10, 11, 12, 13, 1, 23, 24, 25, 26, 27] (by decide +kernel) (by decide +kernel)
set_option maxRecDepth 20000 in
theorem gX5_make_X5_isAllocated : GoodIn wsX5_make (wsV RX5 43 RX5 yX5_isAllocated wsX5_isAllocated) := goodIn_app (goodIn_of _ (by decide +kernel)) ggX5_make_X5_isAllocated
set_option maxRecDepth 20000 in
theorem ggX5_make_X5_saveState : GoodIn wsX5_make wsX5_saveState := goodIn_r _ [17, 18, 19, 20, 21, 5, 22, 1, 23, 24, 25, 26, 27] (by decide +kernel) (by decide +kernel)
set_option maxRecDepth 20000 in
theorem gX5_make_X5_saveState : GoodIn wsX5_make (wsV RX5 47 RX5 yX5_saveState wsX5_saveState) := goodIn_app (goodIn_of _ (by decide +kernel)) ggX5_make_X5_saveState
theorem dX5_make_0 : decode cX5_make 0 = .ok (.iconst 0, 1) := by decide +kernel
theorem dX5_make_1 : decode cX5_make 1 = .ok (.istore_n 3, 1) := by decide +kernel
theorem dX5_make_2 : decode cX5_make 2 = .ok (.iload_n 3, 1) := by decide +kernel
theorem dX5_make_3 : decode cX5_make 3 = .ok (.bipush 24, 2) := by decide +kernel
theorem dX5_make_5 : decode cX5_make 5 = .ok (.if_icmp .ge 17, 3) := by decide +kernel
theorem dX5_make_8 : decode cX5_make 8 = .ok (.aload_n 0, 1) := by decide +kernel
theorem dX5_make_9 : decode cX5_make 9 = .ok (.iload_n 3, 1) := by decide +kernel
theorem dX5_make_10 : decode cX5_make 10 = .ok (.invokevirtual 43, 3) := by decide +kernel
theorem dX5_make_13 : decode cX5_make 13 = .ok (.ifCond .eq 9, 3) := by decide +kernel
theorem dX5_make_16 : decode cX5_make 16 = .ok (.iinc 3 1, 3) := by decide +kernel
theorem dX5_make_19 : decode cX5_make 19 = .ok (.goto (-17), 3) := by decide +kernel
theorem dX5_make_22 : decode cX5_make 22 = .ok (.iload_n 3, 1) := by decide +kernel
theorem dX5_make_23 : decode cX5_make 23 = .ok (.bipush 24, 2) := by decide +kernel
theorem dX5_make_25 : decode cX5_make 25 = .ok (.if_icmp .ne 6, 3) := by decide +kernel
theorem dX5_make_28 : decode cX5_make 28 = .ok (.bipush (-3), 2) := by decide +kernel
theorem dX5_make_30 : decode cX5_make 30 = .ok (.ireturn, 1) := by decide +kernel
theorem dX5_make_31 : decode cX5_make 31 = .ok (.aload_n 0, 1) := by decide +kernel
theorem dX5_make_32 : decode cX5_make 32 = .ok (.invokevirtual 47, 3) := by decide +kernel
theorem dX5_make_35 : decode cX5_make 35 = .ok (.iconst 0, 1) := by decide +kernel
theorem dX5_make_36 : decode cX5_make 36 = .ok (.istore 4, 2) := by decide +kernel
theorem dX5_make_38 : decode cX5_make 38 = .ok (.iload 4, 2) := by decide +kernel
theorem dX5_make_40 : decode cX5_make 40 = .ok (.bipush 15, 2) := by decide +kernel
theorem dX5_make_42 : decode cX5_make 42 = .ok (.if_icmp .ge 33, 3) := by decide +kernel
theorem dX5_make_45 : decode cX5_make 45 = .ok (.aload_n 0, 1) := by decide +kernel
theorem dX5_make_46 : decode cX5_make 46 = .ok (.getfield 7, 3) := by decide +kernel
theorem dX5_make_49 : decode cX5_make 49 = .ok (.bipush 15, 2) := by decide +kernel
theorem dX5_make_51 : decode cX5_make 51 = .ok (.iload_n 3, 1) := by decide +kernel
theorem dX5_make_52 : decode cX5_make 52 = .ok (.imul, 1) := by decide +kernel
theorem dX5_make_53 : decode cX5_make 53 = .ok (.iload 4, 2) := by decide +kernel
theorem dX5_make_55 : decode cX5_make 55 = .ok (.iadd, 1) := by decide +kernel
theorem dX5_make_56 : decode cX5_make 56 = .ok (.iload 4, 2) := by decide +kernel
theorem dX5_make_58 : decode cX5_make 58 = .ok (.iconst 3, 1) := by decide +kernel
theorem dX5_make_59 : decode cX5_make 59 = .ok (.if_icmp .ge 7, 3) := by decide +kernel
theorem dX5_make_62 : decode cX5_make 62 = .ok (.iconst 0, 1) := by decide +kernel
theorem dX5_make_63 : decode cX5_make 63 = .ok (.goto 5, 3) := by decide +kernel
theorem dX5_make_66 : decode cX5_make 66 = .ok (.bipush (-9), 2) := by decide +kernel
theorem dX5_make_68 : decode cX5_make 68 = .ok (.iastore, 1) := by decide +kernel
theorem dX5_make_69 : decode cX5_make 69 = .ok (.iinc 4 1, 3) := by decide +kernel
theorem dX5_make_72 : decode cX5_make 72 = .ok (.goto (-34), 3) := by decide +kernel
theorem dX5_make_75 : decode cX5_make 75 = .ok (.aload_n 0, 1) := by decide +kernel
theorem dX5_make_76 : decode cX5_make 76 = .ok (.getfield 7, 3) := by decide +kernel
theorem dX5_make_79 : decode cX5_make 79 = .ok (.bipush 15, 2) := by decide +kernel
theorem dX5_make_81 : decode cX5_make 81 = .ok (.iload_n 3, 1) := by decide +kernel
theorem dX5_make_82 : decode cX5_make 82 = .ok (.imul, 1) := by decide +kernel
theorem dX5_make_83 : decode cX5_make 83 = .ok (.iconst 0, 1) := by decide +kernel
theorem dX5_make_84 : decode cX5_make 84 = .ok (.iadd, 1) := by decide +kernel
theorem dX5_make_85 : decode cX5_make 85 = .ok (.iload_n 1, 1) := by decide +kernel
theorem dX5_make_86 : decode cX5_make 86 = .ok (.iastore, 1) := by decide +kernel
theorem dX5_make_87 : decode cX5_make 87 = .ok (.aload_n 0, 1) := by decide +kernel
theorem dX5_make_88 : decode cX5_make 88 = .ok (.getfield 7, 3) := by decide +kernel
theorem dX5_make_91 : decode cX5_make 91 = .ok (.bipush 15, 2) := by decide +kernel
theorem dX5_make_93 : decode cX5_make 93 = .ok (.iload_n 3, 1) := by decide +kernel
theorem dX5_make_94 : decode cX5_make 94 = .ok (.imul, 1) := by decide +kernel
theorem dX5_make_95 : decode cX5_make 95 = .ok (.iconst 3, 1) := by decide +kernel
theorem dX5_make_96 : decode cX5_make 96 = .ok (.iadd, 1) := by decide +kernel
theorem dX5_make_97 : decode cX5_make 97 = .ok (.iload_n 2, 1) := by decide +kernel
theorem dX5_make_98 : decode cX5_make 98 = .ok (.iastore, 1) := by decide +kernel
theorem dX5_make_99 : decode cX5_make 99 = .ok (.iload_n 3, 1) := by decide +kernel
theorem dX5_make_100 : decode cX5_make 100 = .ok (.ireturn, 1) := by decide +kernel
set_option maxRecDepth 20000 in
theorem ggX5_allocate_X5_make : GoodIn wsX5_allocate wsX5_make := goodIn_r _ [5, 6, 7, 8, 9, 4, 10, 11, 12, 13, 14, 15, 16, 17, 18, 19, 20, 21, 22, 23, 24, 25, 26, 27, 28, 29, 30, 31] (by decide +kernel) (by decide +kernel)
set_option maxRecDepth 20000 in
theorem gX5_allocate_X5_make : GoodIn wsX5_allocate (wsV RX5 50 RX5 yX5_make wsX5_make) := goodIn_app (goodIn_of _ (by decide +kernel)) ggX5_allocate_X5_make
theorem dX5_allocate_0 : decode cX5_allocate 0 = .ok (.aload_n 0, 1) := by decide +kernel
theorem dX5_allocate_1 : decode cX5_allocate 1 = .ok (.iconst 0, 1) := by decide +kernel
theorem dX5_allocate_2 : decode cX5_allocate 2 = .ok (.bipush (-9), 2) := by decide +kernel
theorem dX5_allocate_4 : decode cX5_allocate 4 = .ok (.invokevirtual 50, 3) := by decide +kernel
theorem dX5_allocate_7 : decode cX5_allocate 7 = .ok (.ireturn, 1) := by decide +kernel
set_option maxRecDepth 20000 in
theorem ggX5_allocateTable_X5_make : GoodIn wsX5_allocateTable wsX5_make := goodIn_r _ [5, 6, 7, 8, 9, 4, 10, 11, 12, 13, 14, 15, 16, 17, 18, 19, 20, 21, 22, 23, 24, 25, 26, 27, 28, 29, 30, 31] (by decide +kernel) (by decide +kernel)
set_option maxRecDepth 20000 in
theorem gX5_allocateTable_X5_make : GoodIn wsX5_allocateTable (wsV RX5 50 RX5 yX5_make wsX5_make) := goodIn_app (goodIn_of _ (by decide +kernel)) ggX5_allocateTable_X5_make
theorem dX5_allocateTable_0 : decode cX5_allocateTable 0 = .ok (.aload_n 0, 1) := by decide +kernel
theorem dX5_allocateTable_1 : decode cX5_allocateTable 1 = .ok (.iconst 1, 1) := by decide +kernel
theorem dX5_allocateTable_2 : decode cX5_allocateTable 2 = .ok (.bipush (-9), 2) := by decide +kernel
theorem dX5_allocateTable_4 : decode cX5_allocateTable 4 = .ok (.invokevirtual 50, 3) := by decide +kernel
theorem dX5_allocateTable_7 : decode cX5_allocateTable 7 = .ok (.ireturn, 1) := by decide +kernel
set_option maxRecDepth 20000 in
theorem ggX5_allocateWeak_X5_isAllocated : GoodIn wsX5_allocateWeak wsX5_isAllocated := goodIn_r _ [5, 6, 7, 4, 8, 9, 10, 11, 12, 13, 27, 28, 29, 30, 31] (by decide +kernel) (by decide +kernel)
set_option maxRecDepth 20000 in
theorem gX5_allocateWeak_X5_isAllocated : GoodIn wsX5_allocateWeak (wsV RX5 43 RX5 yX5_isAllocated wsX5_isAllocated) := goodIn_app (goodIn_of _ (by decide +kernel)) ggX5_allocateWeak_X5_isAllocated
set_option maxRecDepth 20000 in
theorem ggX5_allocateWeak_X5_make : GoodIn wsX5_allocateWeak wsX5_make := goodIn_r _ [17, 13, 1, 2, 3, 4, 5, 6, 7, 8, 9, 10, 11, 12, 18, 19, 20, 21, 22, 23, 24, 25, 26, 27, 28, 29, 30, 31] (by decide +kernel) (by decide +kernel)
set_option maxRecDepth 20000 in
theorem gX5_allocateWeak_X5_make : GoodIn wsX5_allocateWeak (wsV RX5 50 RX5 yX5_make wsX5_make) := goodIn_app (goodIn_of _ (by decide +kernel)) ggX5_allocateWeak_X5_make
theorem dX5_allocateWeak_0 : decode cX5_allocateWeak 0 = .ok (.aload_n 0, 1) := by decide +kernel
theorem dX5_allocateWeak_1 : decode cX5_allocateWeak 1 = .ok (.iload_n 1, 1) := by decide +kernel
theorem dX5_allocateWeak_2 : decode cX5_allocateWeak 2 = .ok (.invokevirtual 43, 3) := by decide +kernel
theorem dX5_allocateWeak_5 : decode cX5_allocateWeak 5 = .ok (.ifCond .eq 12, 3) := by decide +kernel
theorem dX5_allocateWeak_8 : decode cX5_allocateWeak 8 = .ok (.aload_n 0, 1) := by decide +kernel
theorem dX5_allocateWeak_9 : decode cX5_allocateWeak 9 = .ok (.iconst 2, 1) := by decide +kernel
theorem dX5_allocateWeak_10 : decode cX5_allocateWeak 10 = .ok (.iload_n 1, 1) := by decide +kernel
theorem dX5_allocateWeak_11 : decode cX5_allocateWeak 11 = .ok (.invokevirtual 50, 3) := by decide +kernel
theorem dX5_allocateWeak_14 : decode cX5_allocateWeak 14 = .ok (.goto 4, 3) := by decide +kernel
theorem dX5_allocateWeak_17 : decode cX5_allocateWeak 17 = .ok (.iconst (-1), 1) := by decide +kernel
theorem dX5_allocateWeak_18 : decode cX5_allocateWeak 18 = .ok (.ireturn, 1) := by decide +kernel
set_option maxRecDepth 20000 in
theorem ggX5_kind_X5_isAllocated : GoodIn wsX5_kind wsX5_isAllocated := goodIn_r _ [5, 6, 7, 4, 8, 9, 10, 11, 12, 13, 14, 15, 16, 17, 18] (by decide +kernel) (by decide +kernel)
set_option maxRecDepth 20000 in
theorem gX5_kind_X5_isAllocated : GoodIn wsX5_kind (wsV RX5 43 RX5 yX5_isAllocated wsX5_isAllocated) := goodIn_app (goodIn_of _ (by decide +kernel)) ggX5_kind_X5_isAllocated
set_option maxRecDepth 20000 in
theorem ggX5_kind_X5_part : GoodIn wsX5_kind wsX5_part := goodIn_r _ [12, 13, 14, 15, 16, 17, 18] (by decide +kernel) (by decide +kernel)
set_option maxRecDepth 20000 in
theorem gX5_kind_X5_part : GoodIn wsX5_kind (wsV RX5 39 RX5 yX5_part wsX5_part) := goodIn_app (goodIn_of _ (by decide +kernel)) ggX5_kind_X5_part
theorem dX5_kind_0 : decode cX5_kind 0 = .ok (.aload_n 0, 1) := by decide +kernel
theorem dX5_kind_1 : decode cX5_kind 1 = .ok (.iload_n 1, 1) := by decide +kernel
theorem dX5_kind_2 : decode cX5_kind 2 = .ok (.invokevirtual 43, 3) := by decide +kernel
theorem dX5_kind_5 : decode cX5_kind 5 = .ok (.ifCond .eq 12, 3) := by decide +kernel
theorem dX5_kind_8 : decode cX5_kind 8 = .ok (.aload_n 0, 1) := by decide +kernel
theorem dX5_kind_9 : decode cX5_kind 9 = .ok (.iload_n 1, 1) := by decide +kernel
theorem dX5_kind_10 : decode cX5_kind 10 = .ok (.iconst 0, 1) := by decide +kernel
theorem dX5_kind_11 : decode cX5_kind 11 = .ok (.invokevirtual 39, 3) := by decide +kernel
theorem dX5_kind_14 : decode cX5_kind 14 = .ok (.goto 5, 3) := by decide +kernel
theorem dX5_kind_17 : decode cX5_kind 17 = .ok (.bipush (-9), 2) := by decide +kernel
theorem dX5_kind_19 : decode cX5_kind 19 = .ok (.ireturn, 1) := by decide +kernel
set_option maxRecDepth 20000 in
theorem ggX5_change_X5_saveState : GoodIn wsX5_change wsX5_saveState := goodIn_r _ [6, 7, 8, 9, 10, 5, 11, 1, 12, 13, 14, 15, 16] (by decide +kernel) (by decide +kernel)
set_option maxRecDepth 20000 in
theorem gX5_change_X5_saveState : GoodIn wsX5_change (wsV RX5 47 RX5 yX5_saveState wsX5_saveState) := goodIn_app (goodIn_of _ (by decide +kernel)) ggX5_change_X5_saveState
theorem dX5_change_0 : decode cX5_change 0 = .ok (.aload_n 0, 1) := by decide +kernel
theorem dX5_change_1 : decode cX5_change 1 = .ok (.getfield 7, 3) := by decide +kernel
theorem dX5_change_4 : decode cX5_change 4 = .ok (.iload_n 1, 1) := by decide +kernel
theorem dX5_change_5 : decode cX5_change 5 = .ok (.iaload, 1) := by decide +kernel
theorem dX5_change_6 : decode cX5_change 6 = .ok (.istore_n 3, 1) := by decide +kernel
theorem dX5_change_7 : decode cX5_change 7 = .ok (.iload_n 3, 1) := by decide +kernel
theorem dX5_change_8 : decode cX5_change 8 = .ok (.iload_n 2, 1) := by decide +kernel
theorem dX5_change_9 : decode cX5_change 9 = .ok (.if_icmp .ne 6, 3) := by decide +kernel
theorem dX5_change_12 : decode cX5_change 12 = .ok (.bipush (-2), 2) := by decide +kernel
theorem dX5_change_14 : decode cX5_change 14 = .ok (.ireturn, 1) := by decide +kernel
theorem dX5_change_15 : decode cX5_change 15 = .ok (.aload_n 0, 1) := by decide +kernel
theorem dX5_change_16 : decode cX5_change 16 = .ok (.invokevirtual 47, 3) := by decide +kernel
theorem dX5_change_19 : decode cX5_change 19 = .ok (.aload_n 0, 1) := by decide +kernel
theorem dX5_change_20 : decode cX5_change 20 = .ok (.getfield 7, 3) := by decide +kernel
theorem dX5_change_23 : decode cX5_change 23 = .ok (.iload_n 1, 1) := by decide +kernel
theorem dX5_change_24 : decode cX5_change 24 = .ok (.iload_n 2, 1) := by decide +kernel
theorem dX5_change_25 : decode cX5_change 25 = .ok (.iastore, 1) := by decide +kernel
theorem dX5_change_26 : decode cX5_change 26 = .ok (.iload_n 3, 1) := by decide +kernel
theorem dX5_change_27 : decode cX5_change 27 = .ok (.ireturn, 1) := by decide +kernel
set_option maxRecDepth 20000 in
theorem ggX5_setField_X5_isKind : GoodIn wsX5_setField wsX5_isKind := goodIn_r _ [5, 6, 7, 8, 4, 9, 10, 11, 12, 13, 14, 15, 16, 17, 31, 32, 33, 34, 35] (by decide +kernel) (by decide +kernel)
set_option maxRecDepth 20000 in
theorem gX5_setField_X5_isKind : GoodIn wsX5_setField (wsV RX5 53 RX5 yX5_isKind wsX5_isKind) := goodIn_app (goodIn_of _ (by decide +kernel)) ggX5_setField_X5_isKind
set_option maxRecDepth 20000 in
theorem ggX5_setField_X5_within : GoodIn wsX5_setField wsX5_within := goodIn_r _ [12] (by decide +kernel) (by decide +kernel)
set_option maxRecDepth 20000 in
theorem gX5_setField_X5_within : GoodIn wsX5_setField (va_wsS RX5 31 yX5_within wsX5_within) := goodIn_app (goodIn_of _ (by decide +kernel)) ggX5_setField_X5_within
set_option maxRecDepth 20000 in
theorem ggX5_setField_X5_isAllocated : GoodIn wsX5_setField wsX5_isAllocated := goodIn_r _ [9, 10, 11, 4, 12, 13, 14, 15, 16, 17, 31, 32, 33, 34, 35] (by decide +kernel) (by decide +kernel)
set_option maxRecDepth 20000 in
theorem gX5_setField_X5_isAllocated : GoodIn wsX5_setField (wsV RX5 43 RX5 yX5_isAllocated wsX5_isAllocated) := goodIn_app (goodIn_of _ (by decide +kernel)) ggX5_setField_X5_isAllocated
set_option maxRecDepth 20000 in
theorem ggX5_setField_X5_change : GoodIn wsX5_setField wsX5_change := goodIn_r _ [21, 17, 22, 23, 24, 4, 25, 26, 27, 28, 29, 30, 31, 32, 33, 34, 35] (by decide +kernel) (by decide +kernel)
set_option maxRecDepth 20000 in
theorem gX5_setField_X5_change : GoodIn wsX5_setField (wsV RX5 57 RX5 yX5_change wsX5_change) := goodIn_app (goodIn_of _ (by decide +kernel)) ggX5_setField_X5_change
theorem dX5_setField_0 : decode cX5_setField 0 = .ok (.aload_n 0, 1) := by decide +kernel
theorem dX5_setField_1 : decode cX5_setField 1 = .ok (.iload_n 1, 1) := by decide +kernel
theorem dX5_setField_2 : decode cX5_setField 2 = .ok (.iconst 0, 1) := by decide +kernel
theorem dX5_setField_3 : decode cX5_setField 3 = .ok (.invokevirtual 53, 3) := by decide +kernel
theorem dX5_setField_6 : decode cX5_setField 6 = .ok (.ifCond .eq 26, 3) := by decide +kernel
theorem dX5_setField_9 : decode cX5_setField 9 = .ok (.iload_n 2, 1) := by decide +kernel
theorem dX5_setField_10 : decode cX5_setField 10 = .ok (.iconst 0, 1) := by decide +kernel
theorem dX5_setField_11 : decode cX5_setField 11 = .ok (.iconst 2, 1) := by decide +kernel
theorem dX5_setField_12 : decode cX5_setField 12 = .ok (.invokestatic 31, 3) := by decide +kernel
theorem dX5_setField_15 : decode cX5_setField 15 = .ok (.ifCond .eq 17, 3) := by decide +kernel
theorem dX5_setField_18 : decode cX5_setField 18 = .ok (.iload_n 3, 1) := by decide +kernel
theorem dX5_setField_19 : decode cX5_setField 19 = .ok (.bipush (-9), 2) := by decide +kernel
theorem dX5_setField_21 : decode cX5_setField 21 = .ok (.if_icmp .eq 13, 3) := by decide +kernel
theorem dX5_setField_24 : decode cX5_setField 24 = .ok (.aload_n 0, 1) := by decide +kernel
theorem dX5_setField_25 : decode cX5_setField 25 = .ok (.iload_n 3, 1) := by decide +kernel
theorem dX5_setField_26 : decode cX5_setField 26 = .ok (.invokevirtual 43, 3) := by decide +kernel
theorem dX5_setField_29 : decode cX5_setField 29 = .ok (.ifCond .ne 5, 3) := by decide +kernel
theorem dX5_setField_32 : decode cX5_setField 32 = .ok (.iconst (-1), 1) := by decide +kernel
theorem dX5_setField_33 : decode cX5_setField 33 = .ok (.ireturn, 1) := by decide +kernel
theorem dX5_setField_34 : decode cX5_setField 34 = .ok (.aload_n 0, 1) := by decide +kernel
theorem dX5_setField_35 : decode cX5_setField 35 = .ok (.bipush 15, 2) := by decide +kernel
theorem dX5_setField_37 : decode cX5_setField 37 = .ok (.iload_n 1, 1) := by decide +kernel
theorem dX5_setField_38 : decode cX5_setField 38 = .ok (.imul, 1) := by decide +kernel
theorem dX5_setField_39 : decode cX5_setField 39 = .ok (.iconst 3, 1) := by decide +kernel
theorem dX5_setField_40 : decode cX5_setField 40 = .ok (.iadd, 1) := by decide +kernel
theorem dX5_setField_41 : decode cX5_setField 41 = .ok (.iload_n 2, 1) := by decide +kernel
theorem dX5_setField_42 : decode cX5_setField 42 = .ok (.iadd, 1) := by decide +kernel
theorem dX5_setField_43 : decode cX5_setField 43 = .ok (.iload_n 3, 1) := by decide +kernel
theorem dX5_setField_44 : decode cX5_setField 44 = .ok (.invokevirtual 57, 3) := by decide +kernel
theorem dX5_setField_47 : decode cX5_setField 47 = .ok (.ireturn, 1) := by decide +kernel
set_option maxRecDepth 20000 in
theorem ggX5_field_X5_isKind : GoodIn wsX5_field wsX5_isKind := goodIn_r _ [5, 6, 7, 8, 4, 9, 10, 11, 12, 13, 14, 15, 16, 17, 18, 19, 20, 21, 22] (by decide +kernel) (by decide +kernel)
set_option maxRecDepth 20000 in
theorem gX5_field_X5_isKind : GoodIn wsX5_field (wsV RX5 53 RX5 yX5_isKind wsX5_isKind) := goodIn_app (goodIn_of _ (by decide +kernel)) ggX5_field_X5_isKind
set_option maxRecDepth 20000 in
theorem ggX5_field_X5_within : GoodIn wsX5_field wsX5_within := goodIn_r _ [12] (by decide +kernel) (by decide +kernel)
set_option maxRecDepth 20000 in
theorem gX5_field_X5_within : GoodIn wsX5_field (va_wsS RX5 31 yX5_within wsX5_within) := goodIn_app (goodIn_of _ (by decide +kernel)) ggX5_field_X5_within
set_option maxRecDepth 20000 in
theorem ggX5_field_X5_part : GoodIn wsX5_field wsX5_part := goodIn_r _ [16, 17, 18, 19, 20, 21, 22] (by decide +kernel) (by decide +kernel)
set_option maxRecDepth 20000 in
theorem gX5_field_X5_part : GoodIn wsX5_field (wsV RX5 39 RX5 yX5_part wsX5_part) := goodIn_app (goodIn_of _ (by decide +kernel)) ggX5_field_X5_part
theorem dX5_field_0 : decode cX5_field 0 = .ok (.aload_n 0, 1) := by decide +kernel
theorem dX5_field_1 : decode cX5_field 1 = .ok (.iload_n 1, 1) := by decide +kernel
theorem dX5_field_2 : decode cX5_field 2 = .ok (.iconst 0, 1) := by decide +kernel
theorem dX5_field_3 : decode cX5_field 3 = .ok (.invokevirtual 53, 3) := by decide +kernel
theorem dX5_field_6 : decode cX5_field 6 = .ok (.ifCond .eq 23, 3) := by decide +kernel
theorem dX5_field_9 : decode cX5_field 9 = .ok (.iload_n 2, 1) := by decide +kernel
theorem dX5_field_10 : decode cX5_field 10 = .ok (.iconst 0, 1) := by decide +kernel
theorem dX5_field_11 : decode cX5_field 11 = .ok (.iconst 2, 1) := by decide +kernel
theorem dX5_field_12 : decode cX5_field 12 = .ok (.invokestatic 31, 3) := by decide +kernel
theorem dX5_field_15 : decode cX5_field 15 = .ok (.ifCond .eq 14, 3) := by decide +kernel
theorem dX5_field_18 : decode cX5_field 18 = .ok (.aload_n 0, 1) := by decide +kernel
theorem dX5_field_19 : decode cX5_field 19 = .ok (.iload_n 1, 1) := by decide +kernel
theorem dX5_field_20 : decode cX5_field 20 = .ok (.iconst 3, 1) := by decide +kernel
theorem dX5_field_21 : decode cX5_field 21 = .ok (.iload_n 2, 1) := by decide +kernel
theorem dX5_field_22 : decode cX5_field 22 = .ok (.iadd, 1) := by decide +kernel
theorem dX5_field_23 : decode cX5_field 23 = .ok (.invokevirtual 39, 3) := by decide +kernel
theorem dX5_field_26 : decode cX5_field 26 = .ok (.goto 4, 3) := by decide +kernel
theorem dX5_field_29 : decode cX5_field 29 = .ok (.iconst (-1), 1) := by decide +kernel
theorem dX5_field_30 : decode cX5_field 30 = .ok (.ireturn, 1) := by decide +kernel
set_option maxRecDepth 20000 in
theorem ggX5_setRoot_X5_within : GoodIn wsX5_setRoot wsX5_within := goodIn_r _ [4] (by decide +kernel) (by decide +kernel)
set_option maxRecDepth 20000 in
theorem gX5_setRoot_X5_within : GoodIn wsX5_setRoot (va_wsS RX5 31 yX5_within wsX5_within) := goodIn_app (goodIn_of _ (by decide +kernel)) ggX5_setRoot_X5_within
set_option maxRecDepth 20000 in
theorem ggX5_setRoot_X5_isAllocated : GoodIn wsX5_setRoot wsX5_isAllocated := goodIn_r _ [8, 1, 2, 3, 4, 9, 10, 11, 12, 13, 27, 28, 29, 30, 31] (by decide +kernel) (by decide +kernel)
set_option maxRecDepth 20000 in
theorem gX5_setRoot_X5_isAllocated : GoodIn wsX5_setRoot (wsV RX5 43 RX5 yX5_isAllocated wsX5_isAllocated) := goodIn_app (goodIn_of _ (by decide +kernel)) ggX5_setRoot_X5_isAllocated
set_option maxRecDepth 20000 in
theorem ggX5_setRoot_X5_change : GoodIn wsX5_setRoot wsX5_change := goodIn_r _ [17, 13, 18, 19, 20, 3, 21, 22, 23, 24, 25, 26, 27, 28, 29, 30, 31] (by decide +kernel) (by decide +kernel)
set_option maxRecDepth 20000 in
theorem gX5_setRoot_X5_change : GoodIn wsX5_setRoot (wsV RX5 57 RX5 yX5_change wsX5_change) := goodIn_app (goodIn_of _ (by decide +kernel)) ggX5_setRoot_X5_change
theorem dX5_setRoot_0 : decode cX5_setRoot 0 = .ok (.iload_n 1, 1) := by decide +kernel
theorem dX5_setRoot_1 : decode cX5_setRoot 1 = .ok (.iconst 0, 1) := by decide +kernel
theorem dX5_setRoot_2 : decode cX5_setRoot 2 = .ok (.iconst 5, 1) := by decide +kernel
theorem dX5_setRoot_3 : decode cX5_setRoot 3 = .ok (.invokestatic 31, 3) := by decide +kernel
theorem dX5_setRoot_6 : decode cX5_setRoot 6 = .ok (.ifCond .eq 17, 3) := by decide +kernel
theorem dX5_setRoot_9 : decode cX5_setRoot 9 = .ok (.iload_n 2, 1) := by decide +kernel
theorem dX5_setRoot_10 : decode cX5_setRoot 10 = .ok (.bipush (-9), 2) := by decide +kernel
theorem dX5_setRoot_12 : decode cX5_setRoot 12 = .ok (.if_icmp .eq 13, 3) := by decide +kernel
theorem dX5_setRoot_15 : decode cX5_setRoot 15 = .ok (.aload_n 0, 1) := by decide +kernel
theorem dX5_setRoot_16 : decode cX5_setRoot 16 = .ok (.iload_n 2, 1) := by decide +kernel
theorem dX5_setRoot_17 : decode cX5_setRoot 17 = .ok (.invokevirtual 43, 3) := by decide +kernel
theorem dX5_setRoot_20 : decode cX5_setRoot 20 = .ok (.ifCond .ne 5, 3) := by decide +kernel
theorem dX5_setRoot_23 : decode cX5_setRoot 23 = .ok (.iconst (-1), 1) := by decide +kernel
theorem dX5_setRoot_24 : decode cX5_setRoot 24 = .ok (.ireturn, 1) := by decide +kernel
theorem dX5_setRoot_25 : decode cX5_setRoot 25 = .ok (.aload_n 0, 1) := by decide +kernel
theorem dX5_setRoot_26 : decode cX5_setRoot 26 = .ok (.sipush 360, 3) := by decide +kernel
theorem dX5_setRoot_29 : decode cX5_setRoot 29 = .ok (.iload_n 1, 1) := by decide +kernel
theorem dX5_setRoot_30 : decode cX5_setRoot 30 = .ok (.iadd, 1) := by decide +kernel
theorem dX5_setRoot_31 : decode cX5_setRoot 31 = .ok (.iload_n 2, 1) := by decide +kernel
theorem dX5_setRoot_32 : decode cX5_setRoot 32 = .ok (.invokevirtual 57, 3) := by decide +kernel
theorem dX5_setRoot_35 : decode cX5_setRoot 35 = .ok (.ireturn, 1) := by decide +kernel
set_option maxRecDepth 20000 in
theorem ggX5_root_X5_within : GoodIn wsX5_root wsX5_within := goodIn_r _ [5] (by decide +kernel) (by decide +kernel)
set_option maxRecDepth 20000 in
theorem gX5_root_X5_within : GoodIn wsX5_root (va_wsS RX5 31 yX5_within wsX5_within) := goodIn_app (goodIn_of _ (by decide +kernel)) ggX5_root_X5_within
theorem dX5_root_0 : decode cX5_root 0 = .ok (.iload_n 1, 1) := by decide +kernel
theorem dX5_root_1 : decode cX5_root 1 = .ok (.iconst 0, 1) := by decide +kernel
theorem dX5_root_2 : decode cX5_root 2 = .ok (.iconst 5, 1) := by decide +kernel
theorem dX5_root_3 : decode cX5_root 3 = .ok (.invokestatic 31, 3) := by decide +kernel
theorem dX5_root_6 : decode cX5_root 6 = .ok (.ifCond .eq 16, 3) := by decide +kernel
theorem dX5_root_9 : decode cX5_root 9 = .ok (.aload_n 0, 1) := by decide +kernel
theorem dX5_root_10 : decode cX5_root 10 = .ok (.getfield 7, 3) := by decide +kernel
theorem dX5_root_13 : decode cX5_root 13 = .ok (.sipush 360, 3) := by decide +kernel
theorem dX5_root_16 : decode cX5_root 16 = .ok (.iload_n 1, 1) := by decide +kernel
theorem dX5_root_17 : decode cX5_root 17 = .ok (.iadd, 1) := by decide +kernel
theorem dX5_root_18 : decode cX5_root 18 = .ok (.iaload, 1) := by decide +kernel
theorem dX5_root_19 : decode cX5_root 19 = .ok (.goto 4, 3) := by decide +kernel
theorem dX5_root_22 : decode cX5_root 22 = .ok (.iconst (-1), 1) := by decide +kernel
theorem dX5_root_23 : decode cX5_root 23 = .ok (.ireturn, 1) := by decide +kernel
set_option maxRecDepth 20000 in
theorem ggX5_target_X5_isKind : GoodIn wsX5_target wsX5_isKind := goodIn_r _ [5, 6, 7, 8, 4, 9, 10, 11, 12, 13, 14, 15, 16, 17, 18, 19, 20, 21, 22] (by decide +kernel) (by decide +kernel)
set_option maxRecDepth 20000 in
theorem gX5_target_X5_isKind : GoodIn wsX5_target (wsV RX5 53 RX5 yX5_isKind wsX5_isKind) := goodIn_app (goodIn_of _ (by decide +kernel)) ggX5_target_X5_isKind
set_option maxRecDepth 20000 in
theorem ggX5_target_X5_part : GoodIn wsX5_target wsX5_part := goodIn_r _ [16, 17, 18, 19, 20, 21, 22] (by decide +kernel) (by decide +kernel)
set_option maxRecDepth 20000 in
theorem gX5_target_X5_part : GoodIn wsX5_target (wsV RX5 39 RX5 yX5_part wsX5_part) := goodIn_app (goodIn_of _ (by decide +kernel)) ggX5_target_X5_part
theorem dX5_target_0 : decode cX5_target 0 = .ok (.aload_n 0, 1) := by decide +kernel
theorem dX5_target_1 : decode cX5_target 1 = .ok (.iload_n 1, 1) := by decide +kernel
theorem dX5_target_2 : decode cX5_target 2 = .ok (.iconst 2, 1) := by decide +kernel
theorem dX5_target_3 : decode cX5_target 3 = .ok (.invokevirtual 53, 3) := by decide +kernel
theorem dX5_target_6 : decode cX5_target 6 = .ok (.ifCond .eq 12, 3) := by decide +kernel
theorem dX5_target_9 : decode cX5_target 9 = .ok (.aload_n 0, 1) := by decide +kernel
theorem dX5_target_10 : decode cX5_target 10 = .ok (.iload_n 1, 1) := by decide +kernel
theorem dX5_target_11 : decode cX5_target 11 = .ok (.iconst 3, 1) := by decide +kernel
theorem dX5_target_12 : decode cX5_target 12 = .ok (.invokevirtual 39, 3) := by decide +kernel
theorem dX5_target_15 : decode cX5_target 15 = .ok (.goto 4, 3) := by decide +kernel
theorem dX5_target_18 : decode cX5_target 18 = .ok (.iconst (-1), 1) := by decide +kernel
theorem dX5_target_19 : decode cX5_target 19 = .ok (.ireturn, 1) := by decide +kernel
set_option maxRecDepth 20000 in
theorem ggX5_setFinalizable_X5_isAllocated : GoodIn wsX5_setFinalizable wsX5_isAllocated := goodIn_r _ [6, 7, 8, 5, 9, 10, 11, 12, 13, 1, 23, 24, 25, 26, 27] (by decide +kernel) (by decide +kernel)
set_option maxRecDepth 20000 in
theorem gX5_setFinalizable_X5_isAllocated : GoodIn wsX5_setFinalizable (wsV RX5 43 RX5 yX5_isAllocated wsX5_isAllocated) := goodIn_app (goodIn_of _ (by decide +kernel)) ggX5_setFinalizable_X5_isAllocated
set_option maxRecDepth 20000 in
theorem ggX5_setFinalizable_X5_within : GoodIn wsX5_setFinalizable wsX5_within := goodIn_r _ [9] (by decide +kernel) (by decide +kernel)
set_option maxRecDepth 20000 in
theorem gX5_setFinalizable_X5_within : GoodIn wsX5_setFinalizable (va_wsS RX5 31 yX5_within wsX5_within) := goodIn_app (goodIn_of _ (by decide +kernel)) ggX5_setFinalizable_X5_within
set_option maxRecDepth 20000 in
theorem ggX5_setFinalizable_X5_part : GoodIn wsX5_setFinalizable wsX5_part := goodIn_r _ [13, 1, 23, 24, 25, 26, 27] (by decide +kernel) (by decide +kernel)
set_option maxRecDepth 20000 in
theorem gX5_setFinalizable_X5_part : GoodIn wsX5_setFinalizable (wsV RX5 39 RX5 yX5_part wsX5_part) := goodIn_app (goodIn_of _ (by decide +kernel)) ggX5_setFinalizable_X5_part
set_option maxRecDepth 20000 in
theorem ggX5_setFinalizable_X5_saveState : GoodIn wsX5_setFinalizable wsX5_saveState := goodIn_r _ [17, 18, 19, 20, 21, 5, 22, 1, 23, 24, 25, 26, 27] (by decide +kernel) (by decide +kernel)
set_option maxRecDepth 20000 in
theorem gX5_setFinalizable_X5_saveState : GoodIn wsX5_setFinalizable (wsV RX5 47 RX5 yX5_saveState wsX5_saveState) := goodIn_app (goodIn_of _ (by decide +kernel)) ggX5_setFinalizable_X5_saveState
theorem dX5_setFinalizable_0 : decode cX5_setFinalizable 0 = .ok (.aload_n 0, 1) := by decide +kernel
theorem dX5_setFinalizable_1 : decode cX5_setFinalizable 1 = .ok (.iload_n 1, 1) := by decide +kernel
theorem dX5_setFinalizable_2 : decode cX5_setFinalizable 2 = .ok (.invokevirtual 43, 3) := by decide +kernel
theorem dX5_setFinalizable_5 : decode cX5_setFinalizable 5 = .ok (.ifCond .eq 12, 3) := by decide +kernel
theorem dX5_setFinalizable_8 : decode cX5_setFinalizable 8 = .ok (.iload_n 2, 1) := by decide +kernel
theorem dX5_setFinalizable_9 : decode cX5_setFinalizable 9 = .ok (.iconst 0, 1) := by decide +kernel
theorem dX5_setFinalizable_10 : decode cX5_setFinalizable 10 = .ok (.iconst 1, 1) := by decide +kernel
theorem dX5_setFinalizable_11 : decode cX5_setFinalizable 11 = .ok (.invokestatic 31, 3) := by decide +kernel
theorem dX5_setFinalizable_14 : decode cX5_setFinalizable 14 = .ok (.ifCond .ne 5, 3) := by decide +kernel
theorem dX5_setFinalizable_17 : decode cX5_setFinalizable 17 = .ok (.iconst (-1), 1) := by decide +kernel
theorem dX5_setFinalizable_18 : decode cX5_setFinalizable 18 = .ok (.ireturn, 1) := by decide +kernel
theorem dX5_setFinalizable_19 : decode cX5_setFinalizable 19 = .ok (.aload_n 0, 1) := by decide +kernel
theorem dX5_setFinalizable_20 : decode cX5_setFinalizable 20 = .ok (.iload_n 1, 1) := by decide +kernel
theorem dX5_setFinalizable_21 : decode cX5_setFinalizable 21 = .ok (.iconst 1, 1) := by decide +kernel
theorem dX5_setFinalizable_22 : decode cX5_setFinalizable 22 = .ok (.invokevirtual 39, 3) := by decide +kernel
theorem dX5_setFinalizable_25 : decode cX5_setFinalizable 25 = .ok (.iload_n 2, 1) := by decide +kernel
theorem dX5_setFinalizable_26 : decode cX5_setFinalizable 26 = .ok (.if_icmp .ne 6, 3) := by decide +kernel
theorem dX5_setFinalizable_29 : decode cX5_setFinalizable 29 = .ok (.bipush (-2), 2) := by decide +kernel
theorem dX5_setFinalizable_31 : decode cX5_setFinalizable 31 = .ok (.ireturn, 1) := by decide +kernel
theorem dX5_setFinalizable_32 : decode cX5_setFinalizable 32 = .ok (.aload_n 0, 1) := by decide +kernel
theorem dX5_setFinalizable_33 : decode cX5_setFinalizable 33 = .ok (.invokevirtual 47, 3) := by decide +kernel
theorem dX5_setFinalizable_36 : decode cX5_setFinalizable 36 = .ok (.aload_n 0, 1) := by decide +kernel
theorem dX5_setFinalizable_37 : decode cX5_setFinalizable 37 = .ok (.getfield 7, 3) := by decide +kernel
theorem dX5_setFinalizable_40 : decode cX5_setFinalizable 40 = .ok (.bipush 15, 2) := by decide +kernel
theorem dX5_setFinalizable_42 : decode cX5_setFinalizable 42 = .ok (.iload_n 1, 1) := by decide +kernel
theorem dX5_setFinalizable_43 : decode cX5_setFinalizable 43 = .ok (.imul, 1) := by decide +kernel
theorem dX5_setFinalizable_44 : decode cX5_setFinalizable 44 = .ok (.iconst 1, 1) := by decide +kernel
theorem dX5_setFinalizable_45 : decode cX5_setFinalizable 45 = .ok (.iadd, 1) := by decide +kernel
theorem dX5_setFinalizable_46 : decode cX5_setFinalizable 46 = .ok (.iload_n 2, 1) := by decide +kernel
theorem dX5_setFinalizable_47 : decode cX5_setFinalizable 47 = .ok (.iastore, 1) := by decide +kernel
theorem dX5_setFinalizable_48 : decode cX5_setFinalizable 48 = .ok (.iconst 0, 1) := by decide +kernel
theorem dX5_setFinalizable_49 : decode cX5_setFinalizable 49 = .ok (.istore_n 3, 1) := by decide +kernel
theorem dX5_setFinalizable_50 : decode cX5_setFinalizable 50 = .ok (.iconst 0, 1) := by decide +kernel
theorem dX5_setFinalizable_51 : decode cX5_setFinalizable 51 = .ok (.istore 4, 2) := by decide +kernel
theorem dX5_setFinalizable_53 : decode cX5_setFinalizable 53 = .ok (.iload 4, 2) := by decide +kernel
theorem dX5_setFinalizable_55 : decode cX5_setFinalizable 55 = .ok (.bipush 24, 2) := by decide +kernel
theorem dX5_setFinalizable_57 : decode cX5_setFinalizable 57 = .ok (.if_icmp .ge 32, 3) := by decide +kernel
theorem dX5_setFinalizable_60 : decode cX5_setFinalizable 60 = .ok (.iload_n 3, 1) := by decide +kernel
theorem dX5_setFinalizable_61 : decode cX5_setFinalizable 61 = .ok (.aload_n 0, 1) := by decide +kernel
theorem dX5_setFinalizable_62 : decode cX5_setFinalizable 62 = .ok (.iload 4, 2) := by decide +kernel
theorem dX5_setFinalizable_64 : decode cX5_setFinalizable 64 = .ok (.invokevirtual 43, 3) := by decide +kernel
theorem dX5_setFinalizable_67 : decode cX5_setFinalizable 67 = .ok (.ifCond .eq 13, 3) := by decide +kernel
theorem dX5_setFinalizable_70 : decode cX5_setFinalizable 70 = .ok (.aload_n 0, 1) := by decide +kernel
theorem dX5_setFinalizable_71 : decode cX5_setFinalizable 71 = .ok (.iload 4, 2) := by decide +kernel
theorem dX5_setFinalizable_73 : decode cX5_setFinalizable 73 = .ok (.iconst 1, 1) := by decide +kernel
theorem dX5_setFinalizable_74 : decode cX5_setFinalizable 74 = .ok (.invokevirtual 39, 3) := by decide +kernel
theorem dX5_setFinalizable_77 : decode cX5_setFinalizable 77 = .ok (.goto 4, 3) := by decide +kernel
theorem dX5_setFinalizable_80 : decode cX5_setFinalizable 80 = .ok (.iconst 0, 1) := by decide +kernel
theorem dX5_setFinalizable_81 : decode cX5_setFinalizable 81 = .ok (.iadd, 1) := by decide +kernel
theorem dX5_setFinalizable_82 : decode cX5_setFinalizable 82 = .ok (.istore_n 3, 1) := by decide +kernel
theorem dX5_setFinalizable_83 : decode cX5_setFinalizable 83 = .ok (.iinc 4 1, 3) := by decide +kernel
theorem dX5_setFinalizable_86 : decode cX5_setFinalizable 86 = .ok (.goto (-33), 3) := by decide +kernel
theorem dX5_setFinalizable_89 : decode cX5_setFinalizable 89 = .ok (.iload_n 3, 1) := by decide +kernel
theorem dX5_setFinalizable_90 : decode cX5_setFinalizable 90 = .ok (.ireturn, 1) := by decide +kernel
set_option maxRecDepth 20000 in
theorem ggX5_placeOf_X5_part : GoodIn wsX5_placeOf wsX5_part := goodIn_r _ [5, 6, 7, 8, 9, 10, 11] (by decide +kernel) (by decide +kernel)
set_option maxRecDepth 20000 in
theorem gX5_placeOf_X5_part : GoodIn wsX5_placeOf (wsV RX5 39 RX5 yX5_part wsX5_part) := goodIn_app (goodIn_of _ (by decide +kernel)) ggX5_placeOf_X5_part
theorem dX5_placeOf_0 : decode cX5_placeOf 0 = .ok (.iconst 0, 1) := by decide +kernel
theorem dX5_placeOf_1 : decode cX5_placeOf 1 = .ok (.istore_n 3, 1) := by decide +kernel
theorem dX5_placeOf_2 : decode cX5_placeOf 2 = .ok (.iload_n 3, 1) := by decide +kernel
theorem dX5_placeOf_3 : decode cX5_placeOf 3 = .ok (.aload_n 0, 1) := by decide +kernel
theorem dX5_placeOf_4 : decode cX5_placeOf 4 = .ok (.iload_n 1, 1) := by decide +kernel
theorem dX5_placeOf_5 : decode cX5_placeOf 5 = .ok (.iconst 2, 1) := by decide +kernel
theorem dX5_placeOf_6 : decode cX5_placeOf 6 = .ok (.invokevirtual 39, 3) := by decide +kernel
theorem dX5_placeOf_9 : decode cX5_placeOf 9 = .ok (.if_icmp .ge 23, 3) := by decide +kernel
theorem dX5_placeOf_12 : decode cX5_placeOf 12 = .ok (.aload_n 0, 1) := by decide +kernel
theorem dX5_placeOf_13 : decode cX5_placeOf 13 = .ok (.iload_n 1, 1) := by decide +kernel
theorem dX5_placeOf_14 : decode cX5_placeOf 14 = .ok (.iconst 3, 1) := by decide +kernel
theorem dX5_placeOf_15 : decode cX5_placeOf 15 = .ok (.iload_n 3, 1) := by decide +kernel
theorem dX5_placeOf_16 : decode cX5_placeOf 16 = .ok (.iadd, 1) := by decide +kernel
theorem dX5_placeOf_17 : decode cX5_placeOf 17 = .ok (.invokevirtual 39, 3) := by decide +kernel
theorem dX5_placeOf_20 : decode cX5_placeOf 20 = .ok (.iload_n 2, 1) := by decide +kernel
theorem dX5_placeOf_21 : decode cX5_placeOf 21 = .ok (.if_icmp .ne 5, 3) := by decide +kernel
theorem dX5_placeOf_24 : decode cX5_placeOf 24 = .ok (.iload_n 3, 1) := by decide +kernel
theorem dX5_placeOf_25 : decode cX5_placeOf 25 = .ok (.ireturn, 1) := by decide +kernel
theorem dX5_placeOf_26 : decode cX5_placeOf 26 = .ok (.iinc 3 1, 3) := by decide +kernel
theorem dX5_placeOf_29 : decode cX5_placeOf 29 = .ok (.goto (-27), 3) := by decide +kernel
theorem dX5_placeOf_32 : decode cX5_placeOf 32 = .ok (.bipush (-9), 2) := by decide +kernel
theorem dX5_placeOf_34 : decode cX5_placeOf 34 = .ok (.ireturn, 1) := by decide +kernel
set_option maxRecDepth 20000 in
theorem ggX5_removeAt_X5_part : GoodIn wsX5_removeAt wsX5_part := goodIn_r _ [6, 1, 7, 8, 9, 10, 11] (by decide +kernel) (by decide +kernel)
set_option maxRecDepth 20000 in
theorem gX5_removeAt_X5_part : GoodIn wsX5_removeAt (wsV RX5 39 RX5 yX5_part wsX5_part) := goodIn_app (goodIn_of _ (by decide +kernel)) ggX5_removeAt_X5_part
theorem dX5_removeAt_0 : decode cX5_removeAt 0 = .ok (.aload_n 0, 1) := by decide +kernel
theorem dX5_removeAt_1 : decode cX5_removeAt 1 = .ok (.iload_n 1, 1) := by decide +kernel
theorem dX5_removeAt_2 : decode cX5_removeAt 2 = .ok (.iconst 2, 1) := by decide +kernel
theorem dX5_removeAt_3 : decode cX5_removeAt 3 = .ok (.invokevirtual 39, 3) := by decide +kernel
theorem dX5_removeAt_6 : decode cX5_removeAt 6 = .ok (.iconst 1, 1) := by decide +kernel
theorem dX5_removeAt_7 : decode cX5_removeAt 7 = .ok (.isub, 1) := by decide +kernel
theorem dX5_removeAt_8 : decode cX5_removeAt 8 = .ok (.istore_n 3, 1) := by decide +kernel
theorem dX5_removeAt_9 : decode cX5_removeAt 9 = .ok (.iload_n 2, 1) := by decide +kernel
theorem dX5_removeAt_10 : decode cX5_removeAt 10 = .ok (.istore 4, 2) := by decide +kernel
theorem dX5_removeAt_12 : decode cX5_removeAt 12 = .ok (.iload 4, 2) := by decide +kernel
theorem dX5_removeAt_14 : decode cX5_removeAt 14 = .ok (.iload_n 3, 1) := by decide +kernel
theorem dX5_removeAt_15 : decode cX5_removeAt 15 = .ok (.if_icmp .ge 61, 3) := by decide +kernel
theorem dX5_removeAt_18 : decode cX5_removeAt 18 = .ok (.aload_n 0, 1) := by decide +kernel
theorem dX5_removeAt_19 : decode cX5_removeAt 19 = .ok (.getfield 7, 3) := by decide +kernel
theorem dX5_removeAt_22 : decode cX5_removeAt 22 = .ok (.bipush 15, 2) := by decide +kernel
theorem dX5_removeAt_24 : decode cX5_removeAt 24 = .ok (.iload_n 1, 1) := by decide +kernel
theorem dX5_removeAt_25 : decode cX5_removeAt 25 = .ok (.imul, 1) := by decide +kernel
theorem dX5_removeAt_26 : decode cX5_removeAt 26 = .ok (.iconst 3, 1) := by decide +kernel
theorem dX5_removeAt_27 : decode cX5_removeAt 27 = .ok (.iadd, 1) := by decide +kernel
theorem dX5_removeAt_28 : decode cX5_removeAt 28 = .ok (.iload 4, 2) := by decide +kernel
theorem dX5_removeAt_30 : decode cX5_removeAt 30 = .ok (.iadd, 1) := by decide +kernel
theorem dX5_removeAt_31 : decode cX5_removeAt 31 = .ok (.aload_n 0, 1) := by decide +kernel
theorem dX5_removeAt_32 : decode cX5_removeAt 32 = .ok (.iload_n 1, 1) := by decide +kernel
theorem dX5_removeAt_33 : decode cX5_removeAt 33 = .ok (.iconst 3, 1) := by decide +kernel
theorem dX5_removeAt_34 : decode cX5_removeAt 34 = .ok (.iload 4, 2) := by decide +kernel
theorem dX5_removeAt_36 : decode cX5_removeAt 36 = .ok (.iadd, 1) := by decide +kernel
theorem dX5_removeAt_37 : decode cX5_removeAt 37 = .ok (.iconst 1, 1) := by decide +kernel
theorem dX5_removeAt_38 : decode cX5_removeAt 38 = .ok (.iadd, 1) := by decide +kernel
theorem dX5_removeAt_39 : decode cX5_removeAt 39 = .ok (.invokevirtual 39, 3) := by decide +kernel
theorem dX5_removeAt_42 : decode cX5_removeAt 42 = .ok (.iastore, 1) := by decide +kernel
theorem dX5_removeAt_43 : decode cX5_removeAt 43 = .ok (.aload_n 0, 1) := by decide +kernel
theorem dX5_removeAt_44 : decode cX5_removeAt 44 = .ok (.getfield 7, 3) := by decide +kernel
theorem dX5_removeAt_47 : decode cX5_removeAt 47 = .ok (.bipush 15, 2) := by decide +kernel
theorem dX5_removeAt_49 : decode cX5_removeAt 49 = .ok (.iload_n 1, 1) := by decide +kernel
theorem dX5_removeAt_50 : decode cX5_removeAt 50 = .ok (.imul, 1) := by decide +kernel
theorem dX5_removeAt_51 : decode cX5_removeAt 51 = .ok (.bipush 9, 2) := by decide +kernel
theorem dX5_removeAt_53 : decode cX5_removeAt 53 = .ok (.iadd, 1) := by decide +kernel
theorem dX5_removeAt_54 : decode cX5_removeAt 54 = .ok (.iload 4, 2) := by decide +kernel
theorem dX5_removeAt_56 : decode cX5_removeAt 56 = .ok (.iadd, 1) := by decide +kernel
theorem dX5_removeAt_57 : decode cX5_removeAt 57 = .ok (.aload_n 0, 1) := by decide +kernel
theorem dX5_removeAt_58 : decode cX5_removeAt 58 = .ok (.iload_n 1, 1) := by decide +kernel
theorem dX5_removeAt_59 : decode cX5_removeAt 59 = .ok (.bipush 9, 2) := by decide +kernel
theorem dX5_removeAt_61 : decode cX5_removeAt 61 = .ok (.iload 4, 2) := by decide +kernel
theorem dX5_removeAt_63 : decode cX5_removeAt 63 = .ok (.iadd, 1) := by decide +kernel
theorem dX5_removeAt_64 : decode cX5_removeAt 64 = .ok (.iconst 1, 1) := by decide +kernel
theorem dX5_removeAt_65 : decode cX5_removeAt 65 = .ok (.iadd, 1) := by decide +kernel
theorem dX5_removeAt_66 : decode cX5_removeAt 66 = .ok (.invokevirtual 39, 3) := by decide +kernel
theorem dX5_removeAt_69 : decode cX5_removeAt 69 = .ok (.iastore, 1) := by decide +kernel
theorem dX5_removeAt_70 : decode cX5_removeAt 70 = .ok (.iinc 4 1, 3) := by decide +kernel
theorem dX5_removeAt_73 : decode cX5_removeAt 73 = .ok (.goto (-61), 3) := by decide +kernel
theorem dX5_removeAt_76 : decode cX5_removeAt 76 = .ok (.aload_n 0, 1) := by decide +kernel
theorem dX5_removeAt_77 : decode cX5_removeAt 77 = .ok (.getfield 7, 3) := by decide +kernel
theorem dX5_removeAt_80 : decode cX5_removeAt 80 = .ok (.bipush 15, 2) := by decide +kernel
theorem dX5_removeAt_82 : decode cX5_removeAt 82 = .ok (.iload_n 1, 1) := by decide +kernel
theorem dX5_removeAt_83 : decode cX5_removeAt 83 = .ok (.imul, 1) := by decide +kernel
theorem dX5_removeAt_84 : decode cX5_removeAt 84 = .ok (.iconst 3, 1) := by decide +kernel
theorem dX5_removeAt_85 : decode cX5_removeAt 85 = .ok (.iadd, 1) := by decide +kernel
theorem dX5_removeAt_86 : decode cX5_removeAt 86 = .ok (.iload_n 3, 1) := by decide +kernel
theorem dX5_removeAt_87 : decode cX5_removeAt 87 = .ok (.iadd, 1) := by decide +kernel
theorem dX5_removeAt_88 : decode cX5_removeAt 88 = .ok (.bipush (-9), 2) := by decide +kernel
theorem dX5_removeAt_90 : decode cX5_removeAt 90 = .ok (.iastore, 1) := by decide +kernel
theorem dX5_removeAt_91 : decode cX5_removeAt 91 = .ok (.aload_n 0, 1) := by decide +kernel
theorem dX5_removeAt_92 : decode cX5_removeAt 92 = .ok (.getfield 7, 3) := by decide +kernel
theorem dX5_removeAt_95 : decode cX5_removeAt 95 = .ok (.bipush 15, 2) := by decide +kernel
theorem dX5_removeAt_97 : decode cX5_removeAt 97 = .ok (.iload_n 1, 1) := by decide +kernel
theorem dX5_removeAt_98 : decode cX5_removeAt 98 = .ok (.imul, 1) := by decide +kernel
theorem dX5_removeAt_99 : decode cX5_removeAt 99 = .ok (.bipush 9, 2) := by decide +kernel
theorem dX5_removeAt_101 : decode cX5_removeAt 101 = .ok (.iadd, 1) := by decide +kernel
theorem dX5_removeAt_102 : decode cX5_removeAt 102 = .ok (.iload_n 3, 1) := by decide +kernel
theorem dX5_removeAt_103 : decode cX5_removeAt 103 = .ok (.iadd, 1) := by decide +kernel
theorem dX5_removeAt_104 : decode cX5_removeAt 104 = .ok (.bipush (-9), 2) := by decide +kernel
theorem dX5_removeAt_106 : decode cX5_removeAt 106 = .ok (.iastore, 1) := by decide +kernel
theorem dX5_removeAt_107 : decode cX5_removeAt 107 = .ok (.aload_n 0, 1) := by decide +kernel
theorem dX5_removeAt_108 : decode cX5_removeAt 108 = .ok (.getfield 7, 3) := by decide +kernel
theorem dX5_removeAt_111 : decode cX5_removeAt 111 = .ok (.bipush 15, 2) := by decide +kernel
theorem dX5_removeAt_113 : decode cX5_removeAt 113 = .ok (.iload_n 1, 1) := by decide +kernel
theorem dX5_removeAt_114 : decode cX5_removeAt 114 = .ok (.imul, 1) := by decide +kernel
theorem dX5_removeAt_115 : decode cX5_removeAt 115 = .ok (.iconst 2, 1) := by decide +kernel
theorem dX5_removeAt_116 : decode cX5_removeAt 116 = .ok (.iadd, 1) := by decide +kernel
theorem dX5_removeAt_117 : decode cX5_removeAt 117 = .ok (.iload_n 3, 1) := by decide +kernel
theorem dX5_removeAt_118 : decode cX5_removeAt 118 = .ok (.iastore, 1) := by decide +kernel
theorem dX5_removeAt_119 : decode cX5_removeAt 119 = .ok (.return_, 1) := by decide +kernel
set_option maxRecDepth 20000 in
theorem ggX5_put_X5_isKind : GoodIn wsX5_put wsX5_isKind := goodIn_r _ [6, 7, 8, 9, 5, 10, 11, 12, 13, 14, 15, 16, 17, 1, 31, 32, 33, 34, 35] (by decide +kernel) (by decide +kernel)
set_option maxRecDepth 20000 in
theorem gX5_put_X5_isKind : GoodIn wsX5_put (wsV RX5 53 RX5 yX5_isKind wsX5_isKind) := goodIn_app (goodIn_of _ (by decide +kernel)) ggX5_put_X5_isKind
set_option maxRecDepth 20000 in
theorem ggX5_put_X5_isAllocated : GoodIn wsX5_put wsX5_isAllocated := goodIn_r _ [10, 11, 12, 5, 13, 14, 15, 16, 17, 1, 31, 32, 33, 34, 35] (by decide +kernel) (by decide +kernel)
set_option maxRecDepth 20000 in
theorem gX5_put_X5_isAllocated : GoodIn wsX5_put (wsV RX5 43 RX5 yX5_isAllocated wsX5_isAllocated) := goodIn_app (goodIn_of _ (by decide +kernel)) ggX5_put_X5_isAllocated
set_option maxRecDepth 20000 in
theorem ggX5_put_X5_placeOf : GoodIn wsX5_put wsX5_placeOf := goodIn_r _ [21, 14, 15, 16, 5, 17, 1, 31, 32, 33, 34, 35] (by decide +kernel) (by decide +kernel)
set_option maxRecDepth 20000 in
theorem gX5_put_X5_placeOf : GoodIn wsX5_put (wsV RX5 60 RX5 yX5_placeOf wsX5_placeOf) := goodIn_app (goodIn_of _ (by decide +kernel)) ggX5_put_X5_placeOf
set_option maxRecDepth 20000 in
theorem ggX5_put_X5_part : GoodIn wsX5_put wsX5_part := goodIn_r _ [17, 1, 31, 32, 33, 34, 35] (by decide +kernel) (by decide +kernel)
set_option maxRecDepth 20000 in
theorem gX5_put_X5_part : GoodIn wsX5_put (wsV RX5 39 RX5 yX5_part wsX5_part) := goodIn_app (goodIn_of _ (by decide +kernel)) ggX5_put_X5_part
set_option maxRecDepth 20000 in
theorem ggX5_put_X5_saveState : GoodIn wsX5_put wsX5_saveState := goodIn_r _ [25, 26, 27, 28, 29, 5, 30, 1, 31, 32, 33, 34, 35] (by decide +kernel) (by decide +kernel)
set_option maxRecDepth 20000 in
theorem gX5_put_X5_saveState : GoodIn wsX5_put (wsV RX5 47 RX5 yX5_saveState wsX5_saveState) := goodIn_app (goodIn_of _ (by decide +kernel)) ggX5_put_X5_saveState
theorem dX5_put_0 : decode cX5_put 0 = .ok (.aload_n 0, 1) := by decide +kernel
theorem dX5_put_1 : decode cX5_put 1 = .ok (.iload_n 1, 1) := by decide +kernel
theorem dX5_put_2 : decode cX5_put 2 = .ok (.iconst 1, 1) := by decide +kernel
theorem dX5_put_3 : decode cX5_put 3 = .ok (.invokevirtual 53, 3) := by decide +kernel
theorem dX5_put_6 : decode cX5_put 6 = .ok (.ifCond .eq 19, 3) := by decide +kernel
theorem dX5_put_9 : decode cX5_put 9 = .ok (.aload_n 0, 1) := by decide +kernel
theorem dX5_put_10 : decode cX5_put 10 = .ok (.iload_n 2, 1) := by decide +kernel
theorem dX5_put_11 : decode cX5_put 11 = .ok (.invokevirtual 43, 3) := by decide +kernel
theorem dX5_put_14 : decode cX5_put 14 = .ok (.ifCond .eq 11, 3) := by decide +kernel
theorem dX5_put_17 : decode cX5_put 17 = .ok (.aload_n 0, 1) := by decide +kernel
theorem dX5_put_18 : decode cX5_put 18 = .ok (.iload_n 3, 1) := by decide +kernel
theorem dX5_put_19 : decode cX5_put 19 = .ok (.invokevirtual 43, 3) := by decide +kernel
theorem dX5_put_22 : decode cX5_put 22 = .ok (.ifCond .ne 5, 3) := by decide +kernel
theorem dX5_put_25 : decode cX5_put 25 = .ok (.iconst (-1), 1) := by decide +kernel
theorem dX5_put_26 : decode cX5_put 26 = .ok (.ireturn, 1) := by decide +kernel
theorem dX5_put_27 : decode cX5_put 27 = .ok (.aload_n 0, 1) := by decide +kernel
theorem dX5_put_28 : decode cX5_put 28 = .ok (.iload_n 1, 1) := by decide +kernel
theorem dX5_put_29 : decode cX5_put 29 = .ok (.iload_n 2, 1) := by decide +kernel
theorem dX5_put_30 : decode cX5_put 30 = .ok (.invokevirtual 60, 3) := by decide +kernel
theorem dX5_put_33 : decode cX5_put 33 = .ok (.istore 4, 2) := by decide +kernel
theorem dX5_put_35 : decode cX5_put 35 = .ok (.iload 4, 2) := by decide +kernel
theorem dX5_put_37 : decode cX5_put 37 = .ok (.bipush (-9), 2) := by decide +kernel
theorem dX5_put_39 : decode cX5_put 39 = .ok (.if_icmp .ne 17, 3) := by decide +kernel
theorem dX5_put_42 : decode cX5_put 42 = .ok (.aload_n 0, 1) := by decide +kernel
theorem dX5_put_43 : decode cX5_put 43 = .ok (.iload_n 1, 1) := by decide +kernel
theorem dX5_put_44 : decode cX5_put 44 = .ok (.iconst 2, 1) := by decide +kernel
theorem dX5_put_45 : decode cX5_put 45 = .ok (.invokevirtual 39, 3) := by decide +kernel
theorem dX5_put_48 : decode cX5_put 48 = .ok (.bipush 6, 2) := by decide +kernel
theorem dX5_put_50 : decode cX5_put 50 = .ok (.if_icmp .ne 6, 3) := by decide +kernel
theorem dX5_put_53 : decode cX5_put 53 = .ok (.bipush (-3), 2) := by decide +kernel
theorem dX5_put_55 : decode cX5_put 55 = .ok (.ireturn, 1) := by decide +kernel
theorem dX5_put_56 : decode cX5_put 56 = .ok (.aload_n 0, 1) := by decide +kernel
theorem dX5_put_57 : decode cX5_put 57 = .ok (.invokevirtual 47, 3) := by decide +kernel
theorem dX5_put_60 : decode cX5_put 60 = .ok (.iload 4, 2) := by decide +kernel
theorem dX5_put_62 : decode cX5_put 62 = .ok (.bipush (-9), 2) := by decide +kernel
theorem dX5_put_64 : decode cX5_put 64 = .ok (.if_icmp .ne 26, 3) := by decide +kernel
theorem dX5_put_67 : decode cX5_put 67 = .ok (.aload_n 0, 1) := by decide +kernel
theorem dX5_put_68 : decode cX5_put 68 = .ok (.iload_n 1, 1) := by decide +kernel
theorem dX5_put_69 : decode cX5_put 69 = .ok (.iconst 2, 1) := by decide +kernel
theorem dX5_put_70 : decode cX5_put 70 = .ok (.invokevirtual 39, 3) := by decide +kernel
theorem dX5_put_73 : decode cX5_put 73 = .ok (.istore 4, 2) := by decide +kernel
theorem dX5_put_75 : decode cX5_put 75 = .ok (.aload_n 0, 1) := by decide +kernel
theorem dX5_put_76 : decode cX5_put 76 = .ok (.getfield 7, 3) := by decide +kernel
theorem dX5_put_79 : decode cX5_put 79 = .ok (.bipush 15, 2) := by decide +kernel
theorem dX5_put_81 : decode cX5_put 81 = .ok (.iload_n 1, 1) := by decide +kernel
theorem dX5_put_82 : decode cX5_put 82 = .ok (.imul, 1) := by decide +kernel
theorem dX5_put_83 : decode cX5_put 83 = .ok (.iconst 2, 1) := by decide +kernel
theorem dX5_put_84 : decode cX5_put 84 = .ok (.iadd, 1) := by decide +kernel
theorem dX5_put_85 : decode cX5_put 85 = .ok (.dup2, 1) := by decide +kernel
theorem dX5_put_86 : decode cX5_put 86 = .ok (.iaload, 1) := by decide +kernel
theorem dX5_put_87 : decode cX5_put 87 = .ok (.iconst 1, 1) := by decide +kernel
theorem dX5_put_88 : decode cX5_put 88 = .ok (.iadd, 1) := by decide +kernel
theorem dX5_put_89 : decode cX5_put 89 = .ok (.iastore, 1) := by decide +kernel
theorem dX5_put_90 : decode cX5_put 90 = .ok (.aload_n 0, 1) := by decide +kernel
theorem dX5_put_91 : decode cX5_put 91 = .ok (.iload_n 1, 1) := by decide +kernel
theorem dX5_put_92 : decode cX5_put 92 = .ok (.bipush 9, 2) := by decide +kernel
theorem dX5_put_94 : decode cX5_put 94 = .ok (.iload 4, 2) := by decide +kernel
theorem dX5_put_96 : decode cX5_put 96 = .ok (.iadd, 1) := by decide +kernel
theorem dX5_put_97 : decode cX5_put 97 = .ok (.invokevirtual 39, 3) := by decide +kernel
theorem dX5_put_100 : decode cX5_put 100 = .ok (.istore 5, 2) := by decide +kernel
theorem dX5_put_102 : decode cX5_put 102 = .ok (.aload_n 0, 1) := by decide +kernel
theorem dX5_put_103 : decode cX5_put 103 = .ok (.getfield 7, 3) := by decide +kernel
theorem dX5_put_106 : decode cX5_put 106 = .ok (.bipush 15, 2) := by decide +kernel
theorem dX5_put_108 : decode cX5_put 108 = .ok (.iload_n 1, 1) := by decide +kernel
theorem dX5_put_109 : decode cX5_put 109 = .ok (.imul, 1) := by decide +kernel
theorem dX5_put_110 : decode cX5_put 110 = .ok (.iconst 3, 1) := by decide +kernel
theorem dX5_put_111 : decode cX5_put 111 = .ok (.iadd, 1) := by decide +kernel
theorem dX5_put_112 : decode cX5_put 112 = .ok (.iload 4, 2) := by decide +kernel
theorem dX5_put_114 : decode cX5_put 114 = .ok (.iadd, 1) := by decide +kernel
theorem dX5_put_115 : decode cX5_put 115 = .ok (.iload_n 2, 1) := by decide +kernel
theorem dX5_put_116 : decode cX5_put 116 = .ok (.iastore, 1) := by decide +kernel
theorem dX5_put_117 : decode cX5_put 117 = .ok (.aload_n 0, 1) := by decide +kernel
theorem dX5_put_118 : decode cX5_put 118 = .ok (.getfield 7, 3) := by decide +kernel
theorem dX5_put_121 : decode cX5_put 121 = .ok (.bipush 15, 2) := by decide +kernel
theorem dX5_put_123 : decode cX5_put 123 = .ok (.iload_n 1, 1) := by decide +kernel
theorem dX5_put_124 : decode cX5_put 124 = .ok (.imul, 1) := by decide +kernel
theorem dX5_put_125 : decode cX5_put 125 = .ok (.bipush 9, 2) := by decide +kernel
theorem dX5_put_127 : decode cX5_put 127 = .ok (.iadd, 1) := by decide +kernel
theorem dX5_put_128 : decode cX5_put 128 = .ok (.iload 4, 2) := by decide +kernel
theorem dX5_put_130 : decode cX5_put 130 = .ok (.iadd, 1) := by decide +kernel
theorem dX5_put_131 : decode cX5_put 131 = .ok (.iload_n 3, 1) := by decide +kernel
theorem dX5_put_132 : decode cX5_put 132 = .ok (.iastore, 1) := by decide +kernel
theorem dX5_put_133 : decode cX5_put 133 = .ok (.iload 5, 2) := by decide +kernel
theorem dX5_put_135 : decode cX5_put 135 = .ok (.ireturn, 1) := by decide +kernel
set_option maxRecDepth 20000 in
theorem ggX5_get_X5_isKind : GoodIn wsX5_get wsX5_isKind := goodIn_r _ [5, 6, 7, 8, 4, 9, 10, 11, 12, 13, 14, 15, 16, 17, 22, 23, 24, 25, 26] (by decide +kernel) (by decide +kernel)
set_option maxRecDepth 20000 in
theorem gX5_get_X5_isKind : GoodIn wsX5_get (wsV RX5 53 RX5 yX5_isKind wsX5_isKind) := goodIn_app (goodIn_of _ (by decide +kernel)) ggX5_get_X5_isKind
set_option maxRecDepth 20000 in
theorem ggX5_get_X5_isAllocated : GoodIn wsX5_get wsX5_isAllocated := goodIn_r _ [9, 10, 11, 4, 12, 13, 14, 15, 16, 17, 22, 23, 24, 25, 26] (by decide +kernel) (by decide +kernel)
set_option maxRecDepth 20000 in
theorem gX5_get_X5_isAllocated : GoodIn wsX5_get (wsV RX5 43 RX5 yX5_isAllocated wsX5_isAllocated) := goodIn_app (goodIn_of _ (by decide +kernel)) ggX5_get_X5_isAllocated
set_option maxRecDepth 20000 in
theorem ggX5_get_X5_placeOf : GoodIn wsX5_get wsX5_placeOf := goodIn_r _ [21, 13, 14, 15, 4, 16, 17, 22, 23, 24, 25, 26] (by decide +kernel) (by decide +kernel)
set_option maxRecDepth 20000 in
theorem gX5_get_X5_placeOf : GoodIn wsX5_get (wsV RX5 60 RX5 yX5_placeOf wsX5_placeOf) := goodIn_app (goodIn_of _ (by decide +kernel)) ggX5_get_X5_placeOf
set_option maxRecDepth 20000 in
theorem ggX5_get_X5_part : GoodIn wsX5_get wsX5_part := goodIn_r _ [16, 17, 22, 23, 24, 25, 26] (by decide +kernel) (by decide +kernel)
set_option maxRecDepth 20000 in
theorem gX5_get_X5_part : GoodIn wsX5_get (wsV RX5 39 RX5 yX5_part wsX5_part) := goodIn_app (goodIn_of _ (by decide +kernel)) ggX5_get_X5_part
theorem dX5_get_0 : decode cX5_get 0 = .ok (.aload_n 0, 1) := by decide +kernel
theorem dX5_get_1 : decode cX5_get 1 = .ok (.iload_n 1, 1) := by decide +kernel
theorem dX5_get_2 : decode cX5_get 2 = .ok (.iconst 1, 1) := by decide +kernel
theorem dX5_get_3 : decode cX5_get 3 = .ok (.invokevirtual 53, 3) := by decide +kernel
theorem dX5_get_6 : decode cX5_get 6 = .ok (.ifCond .eq 11, 3) := by decide +kernel
theorem dX5_get_9 : decode cX5_get 9 = .ok (.aload_n 0, 1) := by decide +kernel
theorem dX5_get_10 : decode cX5_get 10 = .ok (.iload_n 2, 1) := by decide +kernel
theorem dX5_get_11 : decode cX5_get 11 = .ok (.invokevirtual 43, 3) := by decide +kernel
theorem dX5_get_14 : decode cX5_get 14 = .ok (.ifCond .ne 5, 3) := by decide +kernel
theorem dX5_get_17 : decode cX5_get 17 = .ok (.iconst (-1), 1) := by decide +kernel
theorem dX5_get_18 : decode cX5_get 18 = .ok (.ireturn, 1) := by decide +kernel
theorem dX5_get_19 : decode cX5_get 19 = .ok (.aload_n 0, 1) := by decide +kernel
theorem dX5_get_20 : decode cX5_get 20 = .ok (.iload_n 1, 1) := by decide +kernel
theorem dX5_get_21 : decode cX5_get 21 = .ok (.iload_n 2, 1) := by decide +kernel
theorem dX5_get_22 : decode cX5_get 22 = .ok (.invokevirtual 60, 3) := by decide +kernel
theorem dX5_get_25 : decode cX5_get 25 = .ok (.istore_n 3, 1) := by decide +kernel
theorem dX5_get_26 : decode cX5_get 26 = .ok (.iload_n 3, 1) := by decide +kernel
theorem dX5_get_27 : decode cX5_get 27 = .ok (.bipush (-9), 2) := by decide +kernel
theorem dX5_get_29 : decode cX5_get 29 = .ok (.if_icmp .ne 8, 3) := by decide +kernel
theorem dX5_get_32 : decode cX5_get 32 = .ok (.bipush (-9), 2) := by decide +kernel
theorem dX5_get_34 : decode cX5_get 34 = .ok (.goto 12, 3) := by decide +kernel
theorem dX5_get_37 : decode cX5_get 37 = .ok (.aload_n 0, 1) := by decide +kernel
theorem dX5_get_38 : decode cX5_get 38 = .ok (.iload_n 1, 1) := by decide +kernel
theorem dX5_get_39 : decode cX5_get 39 = .ok (.bipush 9, 2) := by decide +kernel
theorem dX5_get_41 : decode cX5_get 41 = .ok (.iload_n 3, 1) := by decide +kernel
theorem dX5_get_42 : decode cX5_get 42 = .ok (.iadd, 1) := by decide +kernel
theorem dX5_get_43 : decode cX5_get 43 = .ok (.invokevirtual 39, 3) := by decide +kernel
theorem dX5_get_46 : decode cX5_get 46 = .ok (.ireturn, 1) := by decide +kernel
set_option maxRecDepth 20000 in
theorem ggX5_removeEntry_X5_isKind : GoodIn wsX5_removeEntry wsX5_isKind := goodIn_r _ [5, 6, 7, 8, 4, 9, 10, 11, 12, 13, 14, 15, 16, 17, 35, 36, 37, 38, 39] (by decide +kernel) (by decide +kernel)
set_option maxRecDepth 20000 in
theorem gX5_removeEntry_X5_isKind : GoodIn wsX5_removeEntry (wsV RX5 53 RX5 yX5_isKind wsX5_isKind) := goodIn_app (goodIn_of _ (by decide +kernel)) ggX5_removeEntry_X5_isKind
set_option maxRecDepth 20000 in
theorem ggX5_removeEntry_X5_isAllocated : GoodIn wsX5_removeEntry wsX5_isAllocated := goodIn_r _ [9, 10, 11, 4, 12, 13, 14, 15, 16, 17, 35, 36, 37, 38, 39] (by decide +kernel) (by decide +kernel)
set_option maxRecDepth 20000 in
theorem gX5_removeEntry_X5_isAllocated : GoodIn wsX5_removeEntry (wsV RX5 43 RX5 yX5_isAllocated wsX5_isAllocated) := goodIn_app (goodIn_of _ (by decide +kernel)) ggX5_removeEntry_X5_isAllocated
set_option maxRecDepth 20000 in
theorem ggX5_removeEntry_X5_placeOf : GoodIn wsX5_removeEntry wsX5_placeOf := goodIn_r _ [21, 13, 14, 15, 4, 16, 17, 35, 36, 37, 38, 39] (by decide +kernel) (by decide +kernel)
set_option maxRecDepth 20000 in
theorem gX5_removeEntry_X5_placeOf : GoodIn wsX5_removeEntry (wsV RX5 60 RX5 yX5_placeOf wsX5_placeOf) := goodIn_app (goodIn_of _ (by decide +kernel)) ggX5_removeEntry_X5_placeOf
set_option maxRecDepth 20000 in
theorem ggX5_removeEntry_X5_saveState : GoodIn wsX5_removeEntry wsX5_saveState := goodIn_r _ [25, 26, 27, 28, 29, 4, 30, 17, 35, 36, 37, 38, 39] (by decide +kernel) (by decide +kernel)
set_option maxRecDepth 20000 in
theorem gX5_removeEntry_X5_saveState : GoodIn wsX5_removeEntry (wsV RX5 47 RX5 yX5_saveState wsX5_saveState) := goodIn_app (goodIn_of _ (by decide +kernel)) ggX5_removeEntry_X5_saveState
set_option maxRecDepth 20000 in
theorem ggX5_removeEntry_X5_part : GoodIn wsX5_removeEntry wsX5_part := goodIn_r _ [16, 17, 35, 36, 37, 38, 39] (by decide +kernel) (by decide +kernel)
set_option maxRecDepth 20000 in
theorem gX5_removeEntry_X5_part : GoodIn wsX5_removeEntry (wsV RX5 39 RX5 yX5_part wsX5_part) := goodIn_app (goodIn_of _ (by decide +kernel)) ggX5_removeEntry_X5_part
set_option maxRecDepth 20000 in
theorem ggX5_removeEntry_X5_removeAt : GoodIn wsX5_removeEntry wsX5_removeAt := goodIn_r _ [34, 17, 13, 14, 15, 4, 16, 35, 36, 37, 38, 39] (by decide +kernel) (by decide +kernel)
set_option maxRecDepth 20000 in
theorem gX5_removeEntry_X5_removeAt : GoodIn wsX5_removeEntry (wsV RX5 63 RX5 yX5_removeAt wsX5_removeAt) := goodIn_app (goodIn_of _ (by decide +kernel)) ggX5_removeEntry_X5_removeAt
theorem dX5_removeEntry_0 : decode cX5_removeEntry 0 = .ok (.aload_n 0, 1) := by decide +kernel
theorem dX5_removeEntry_1 : decode cX5_removeEntry 1 = .ok (.iload_n 1, 1) := by decide +kernel
theorem dX5_removeEntry_2 : decode cX5_removeEntry 2 = .ok (.iconst 1, 1) := by decide +kernel
theorem dX5_removeEntry_3 : decode cX5_removeEntry 3 = .ok (.invokevirtual 53, 3) := by decide +kernel
theorem dX5_removeEntry_6 : decode cX5_removeEntry 6 = .ok (.ifCond .eq 11, 3) := by decide +kernel
theorem dX5_removeEntry_9 : decode cX5_removeEntry 9 = .ok (.aload_n 0, 1) := by decide +kernel
theorem dX5_removeEntry_10 : decode cX5_removeEntry 10 = .ok (.iload_n 2, 1) := by decide +kernel
theorem dX5_removeEntry_11 : decode cX5_removeEntry 11 = .ok (.invokevirtual 43, 3) := by decide +kernel
theorem dX5_removeEntry_14 : decode cX5_removeEntry 14 = .ok (.ifCond .ne 5, 3) := by decide +kernel
theorem dX5_removeEntry_17 : decode cX5_removeEntry 17 = .ok (.iconst (-1), 1) := by decide +kernel
theorem dX5_removeEntry_18 : decode cX5_removeEntry 18 = .ok (.ireturn, 1) := by decide +kernel
theorem dX5_removeEntry_19 : decode cX5_removeEntry 19 = .ok (.aload_n 0, 1) := by decide +kernel
theorem dX5_removeEntry_20 : decode cX5_removeEntry 20 = .ok (.iload_n 1, 1) := by decide +kernel
theorem dX5_removeEntry_21 : decode cX5_removeEntry 21 = .ok (.iload_n 2, 1) := by decide +kernel
theorem dX5_removeEntry_22 : decode cX5_removeEntry 22 = .ok (.invokevirtual 60, 3) := by decide +kernel
theorem dX5_removeEntry_25 : decode cX5_removeEntry 25 = .ok (.istore_n 3, 1) := by decide +kernel
theorem dX5_removeEntry_26 : decode cX5_removeEntry 26 = .ok (.iload_n 3, 1) := by decide +kernel
theorem dX5_removeEntry_27 : decode cX5_removeEntry 27 = .ok (.bipush (-9), 2) := by decide +kernel
theorem dX5_removeEntry_29 : decode cX5_removeEntry 29 = .ok (.if_icmp .ne 6, 3) := by decide +kernel
theorem dX5_removeEntry_32 : decode cX5_removeEntry 32 = .ok (.bipush (-2), 2) := by decide +kernel
theorem dX5_removeEntry_34 : decode cX5_removeEntry 34 = .ok (.ireturn, 1) := by decide +kernel
theorem dX5_removeEntry_35 : decode cX5_removeEntry 35 = .ok (.aload_n 0, 1) := by decide +kernel
theorem dX5_removeEntry_36 : decode cX5_removeEntry 36 = .ok (.invokevirtual 47, 3) := by decide +kernel
theorem dX5_removeEntry_39 : decode cX5_removeEntry 39 = .ok (.aload_n 0, 1) := by decide +kernel
theorem dX5_removeEntry_40 : decode cX5_removeEntry 40 = .ok (.iload_n 1, 1) := by decide +kernel
theorem dX5_removeEntry_41 : decode cX5_removeEntry 41 = .ok (.bipush 9, 2) := by decide +kernel
theorem dX5_removeEntry_43 : decode cX5_removeEntry 43 = .ok (.iload_n 3, 1) := by decide +kernel
theorem dX5_removeEntry_44 : decode cX5_removeEntry 44 = .ok (.iadd, 1) := by decide +kernel
theorem dX5_removeEntry_45 : decode cX5_removeEntry 45 = .ok (.invokevirtual 39, 3) := by decide +kernel
theorem dX5_removeEntry_48 : decode cX5_removeEntry 48 = .ok (.istore 4, 2) := by decide +kernel
theorem dX5_removeEntry_50 : decode cX5_removeEntry 50 = .ok (.aload_n 0, 1) := by decide +kernel
theorem dX5_removeEntry_51 : decode cX5_removeEntry 51 = .ok (.iload_n 1, 1) := by decide +kernel
theorem dX5_removeEntry_52 : decode cX5_removeEntry 52 = .ok (.iload_n 3, 1) := by decide +kernel
theorem dX5_removeEntry_53 : decode cX5_removeEntry 53 = .ok (.invokevirtual 63, 3) := by decide +kernel
theorem dX5_removeEntry_56 : decode cX5_removeEntry 56 = .ok (.iload 4, 2) := by decide +kernel
theorem dX5_removeEntry_58 : decode cX5_removeEntry 58 = .ok (.ireturn, 1) := by decide +kernel
set_option maxRecDepth 20000 in
theorem ggX5_entryCount_X5_isKind : GoodIn wsX5_entryCount wsX5_isKind := goodIn_r _ [5, 6, 7, 8, 4, 9, 10, 11, 12, 13, 14, 15, 16, 17, 18, 19, 20, 21, 22] (by decide +kernel) (by decide +kernel)
set_option maxRecDepth 20000 in
theorem gX5_entryCount_X5_isKind : GoodIn wsX5_entryCount (wsV RX5 53 RX5 yX5_isKind wsX5_isKind) := goodIn_app (goodIn_of _ (by decide +kernel)) ggX5_entryCount_X5_isKind
set_option maxRecDepth 20000 in
theorem ggX5_entryCount_X5_part : GoodIn wsX5_entryCount wsX5_part := goodIn_r _ [16, 17, 18, 19, 20, 21, 22] (by decide +kernel) (by decide +kernel)
set_option maxRecDepth 20000 in
theorem gX5_entryCount_X5_part : GoodIn wsX5_entryCount (wsV RX5 39 RX5 yX5_part wsX5_part) := goodIn_app (goodIn_of _ (by decide +kernel)) ggX5_entryCount_X5_part
theorem dX5_entryCount_0 : decode cX5_entryCount 0 = .ok (.aload_n 0, 1) := by decide +kernel
theorem dX5_entryCount_1 : decode cX5_entryCount 1 = .ok (.iload_n 1, 1) := by decide +kernel
theorem dX5_entryCount_2 : decode cX5_entryCount 2 = .ok (.iconst 1, 1) := by decide +kernel
theorem dX5_entryCount_3 : decode cX5_entryCount 3 = .ok (.invokevirtual 53, 3) := by decide +kernel
theorem dX5_entryCount_6 : decode cX5_entryCount 6 = .ok (.ifCond .eq 12, 3) := by decide +kernel
theorem dX5_entryCount_9 : decode cX5_entryCount 9 = .ok (.aload_n 0, 1) := by decide +kernel
theorem dX5_entryCount_10 : decode cX5_entryCount 10 = .ok (.iload_n 1, 1) := by decide +kernel
theorem dX5_entryCount_11 : decode cX5_entryCount 11 = .ok (.iconst 2, 1) := by decide +kernel
theorem dX5_entryCount_12 : decode cX5_entryCount 12 = .ok (.invokevirtual 39, 3) := by decide +kernel
theorem dX5_entryCount_15 : decode cX5_entryCount 15 = .ok (.goto 4, 3) := by decide +kernel
theorem dX5_entryCount_18 : decode cX5_entryCount 18 = .ok (.iconst (-1), 1) := by decide +kernel
theorem dX5_entryCount_19 : decode cX5_entryCount 19 = .ok (.ireturn, 1) := by decide +kernel
set_option maxRecDepth 20000 in
theorem ggX5_entryKey_X5_isKind : GoodIn wsX5_entryKey wsX5_isKind := goodIn_r _ [5, 6, 7, 8, 4, 9, 10, 11, 12, 13, 14, 15, 16, 17, 18, 19, 20, 21, 22] (by decide +kernel) (by decide +kernel)
set_option maxRecDepth 20000 in
theorem gX5_entryKey_X5_isKind : GoodIn wsX5_entryKey (wsV RX5 53 RX5 yX5_isKind wsX5_isKind) := goodIn_app (goodIn_of _ (by decide +kernel)) ggX5_entryKey_X5_isKind
set_option maxRecDepth 20000 in
theorem ggX5_entryKey_X5_part : GoodIn wsX5_entryKey wsX5_part := goodIn_r _ [16, 17, 18, 19, 20, 21, 22] (by decide +kernel) (by decide +kernel)
set_option maxRecDepth 20000 in
theorem gX5_entryKey_X5_part : GoodIn wsX5_entryKey (wsV RX5 39 RX5 yX5_part wsX5_part) := goodIn_app (goodIn_of _ (by decide +kernel)) ggX5_entryKey_X5_part
theorem dX5_entryKey_0 : decode cX5_entryKey 0 = .ok (.aload_n 0, 1) := by decide +kernel
theorem dX5_entryKey_1 : decode cX5_entryKey 1 = .ok (.iload_n 1, 1) := by decide +kernel
theorem dX5_entryKey_2 : decode cX5_entryKey 2 = .ok (.iconst 1, 1) := by decide +kernel
theorem dX5_entryKey_3 : decode cX5_entryKey 3 = .ok (.invokevirtual 53, 3) := by decide +kernel
theorem dX5_entryKey_6 : decode cX5_entryKey 6 = .ok (.ifCond .eq 7, 3) := by decide +kernel
theorem dX5_entryKey_9 : decode cX5_entryKey 9 = .ok (.iload_n 2, 1) := by decide +kernel
theorem dX5_entryKey_10 : decode cX5_entryKey 10 = .ok (.ifCond .ge 5, 3) := by decide +kernel
theorem dX5_entryKey_13 : decode cX5_entryKey 13 = .ok (.iconst (-1), 1) := by decide +kernel
theorem dX5_entryKey_14 : decode cX5_entryKey 14 = .ok (.ireturn, 1) := by decide +kernel
theorem dX5_entryKey_15 : decode cX5_entryKey 15 = .ok (.iload_n 2, 1) := by decide +kernel
theorem dX5_entryKey_16 : decode cX5_entryKey 16 = .ok (.aload_n 0, 1) := by decide +kernel
theorem dX5_entryKey_17 : decode cX5_entryKey 17 = .ok (.iload_n 1, 1) := by decide +kernel
theorem dX5_entryKey_18 : decode cX5_entryKey 18 = .ok (.iconst 2, 1) := by decide +kernel
theorem dX5_entryKey_19 : decode cX5_entryKey 19 = .ok (.invokevirtual 39, 3) := by decide +kernel
theorem dX5_entryKey_22 : decode cX5_entryKey 22 = .ok (.if_icmp .ge 14, 3) := by decide +kernel
theorem dX5_entryKey_25 : decode cX5_entryKey 25 = .ok (.aload_n 0, 1) := by decide +kernel
theorem dX5_entryKey_26 : decode cX5_entryKey 26 = .ok (.iload_n 1, 1) := by decide +kernel
theorem dX5_entryKey_27 : decode cX5_entryKey 27 = .ok (.iconst 3, 1) := by decide +kernel
theorem dX5_entryKey_28 : decode cX5_entryKey 28 = .ok (.iload_n 2, 1) := by decide +kernel
theorem dX5_entryKey_29 : decode cX5_entryKey 29 = .ok (.iadd, 1) := by decide +kernel
theorem dX5_entryKey_30 : decode cX5_entryKey 30 = .ok (.invokevirtual 39, 3) := by decide +kernel
theorem dX5_entryKey_33 : decode cX5_entryKey 33 = .ok (.goto 5, 3) := by decide +kernel
theorem dX5_entryKey_36 : decode cX5_entryKey 36 = .ok (.bipush (-9), 2) := by decide +kernel
theorem dX5_entryKey_38 : decode cX5_entryKey 38 = .ok (.ireturn, 1) := by decide +kernel
theorem dX5_startAtRoots_0 : decode cX5_startAtRoots 0 = .ok (.iconst 0, 1) := by decide +kernel
theorem dX5_startAtRoots_1 : decode cX5_startAtRoots 1 = .ok (.istore_n 1, 1) := by decide +kernel
theorem dX5_startAtRoots_2 : decode cX5_startAtRoots 2 = .ok (.iload_n 1, 1) := by decide +kernel
theorem dX5_startAtRoots_3 : decode cX5_startAtRoots 3 = .ok (.bipush 24, 2) := by decide +kernel
theorem dX5_startAtRoots_5 : decode cX5_startAtRoots 5 = .ok (.if_icmp .ge 16, 3) := by decide +kernel
theorem dX5_startAtRoots_8 : decode cX5_startAtRoots 8 = .ok (.aload_n 0, 1) := by decide +kernel
theorem dX5_startAtRoots_9 : decode cX5_startAtRoots 9 = .ok (.getfield 20, 3) := by decide +kernel
theorem dX5_startAtRoots_12 : decode cX5_startAtRoots 12 = .ok (.iload_n 1, 1) := by decide +kernel
theorem dX5_startAtRoots_13 : decode cX5_startAtRoots 13 = .ok (.iconst 0, 1) := by decide +kernel
theorem dX5_startAtRoots_14 : decode cX5_startAtRoots 14 = .ok (.bastore, 1) := by decide +kernel
theorem dX5_startAtRoots_15 : decode cX5_startAtRoots 15 = .ok (.iinc 1 1, 3) := by decide +kernel
theorem dX5_startAtRoots_18 : decode cX5_startAtRoots 18 = .ok (.goto (-16), 3) := by decide +kernel
theorem dX5_startAtRoots_21 : decode cX5_startAtRoots 21 = .ok (.iconst 0, 1) := by decide +kernel
theorem dX5_startAtRoots_22 : decode cX5_startAtRoots 22 = .ok (.istore_n 1, 1) := by decide +kernel
theorem dX5_startAtRoots_23 : decode cX5_startAtRoots 23 = .ok (.iload_n 1, 1) := by decide +kernel
theorem dX5_startAtRoots_24 : decode cX5_startAtRoots 24 = .ok (.bipush 6, 2) := by decide +kernel
theorem dX5_startAtRoots_26 : decode cX5_startAtRoots 26 = .ok (.if_icmp .ge 40, 3) := by decide +kernel
theorem dX5_startAtRoots_29 : decode cX5_startAtRoots 29 = .ok (.aload_n 0, 1) := by decide +kernel
theorem dX5_startAtRoots_30 : decode cX5_startAtRoots 30 = .ok (.getfield 7, 3) := by decide +kernel
theorem dX5_startAtRoots_33 : decode cX5_startAtRoots 33 = .ok (.sipush 360, 3) := by decide +kernel
theorem dX5_startAtRoots_36 : decode cX5_startAtRoots 36 = .ok (.iload_n 1, 1) := by decide +kernel
theorem dX5_startAtRoots_37 : decode cX5_startAtRoots 37 = .ok (.iadd, 1) := by decide +kernel
theorem dX5_startAtRoots_38 : decode cX5_startAtRoots 38 = .ok (.iaload, 1) := by decide +kernel
theorem dX5_startAtRoots_39 : decode cX5_startAtRoots 39 = .ok (.bipush (-9), 2) := by decide +kernel
theorem dX5_startAtRoots_41 : decode cX5_startAtRoots 41 = .ok (.if_icmp .eq 19, 3) := by decide +kernel
theorem dX5_startAtRoots_44 : decode cX5_startAtRoots 44 = .ok (.aload_n 0, 1) := by decide +kernel
theorem dX5_startAtRoots_45 : decode cX5_startAtRoots 45 = .ok (.getfield 20, 3) := by decide +kernel
theorem dX5_startAtRoots_48 : decode cX5_startAtRoots 48 = .ok (.aload_n 0, 1) := by decide +kernel
theorem dX5_startAtRoots_49 : decode cX5_startAtRoots 49 = .ok (.getfield 7, 3) := by decide +kernel
theorem dX5_startAtRoots_52 : decode cX5_startAtRoots 52 = .ok (.sipush 360, 3) := by decide +kernel
theorem dX5_startAtRoots_55 : decode cX5_startAtRoots 55 = .ok (.iload_n 1, 1) := by decide +kernel
theorem dX5_startAtRoots_56 : decode cX5_startAtRoots 56 = .ok (.iadd, 1) := by decide +kernel
theorem dX5_startAtRoots_57 : decode cX5_startAtRoots 57 = .ok (.iaload, 1) := by decide +kernel
theorem dX5_startAtRoots_58 : decode cX5_startAtRoots 58 = .ok (.iconst 1, 1) := by decide +kernel
theorem dX5_startAtRoots_59 : decode cX5_startAtRoots 59 = .ok (.bastore, 1) := by decide +kernel
theorem dX5_startAtRoots_60 : decode cX5_startAtRoots 60 = .ok (.iinc 1 1, 3) := by decide +kernel
theorem dX5_startAtRoots_63 : decode cX5_startAtRoots 63 = .ok (.goto (-40), 3) := by decide +kernel
theorem dX5_startAtRoots_66 : decode cX5_startAtRoots 66 = .ok (.return_, 1) := by decide +kernel
set_option maxRecDepth 20000 in
theorem ggX5_followFields_X5_part : GoodIn wsX5_followFields wsX5_part := goodIn_r _ [6, 7, 8, 9, 10, 11, 12] (by decide +kernel) (by decide +kernel)
set_option maxRecDepth 20000 in
theorem gX5_followFields_X5_part : GoodIn wsX5_followFields (wsV RX5 39 RX5 yX5_part wsX5_part) := goodIn_app (goodIn_of _ (by decide +kernel)) ggX5_followFields_X5_part
theorem dX5_followFields_0 : decode cX5_followFields 0 = .ok (.iconst 1, 1) := by decide +kernel
theorem dX5_followFields_1 : decode cX5_followFields 1 = .ok (.istore_n 3, 1) := by decide +kernel
theorem dX5_followFields_2 : decode cX5_followFields 2 = .ok (.iload_n 3, 1) := by decide +kernel
theorem dX5_followFields_3 : decode cX5_followFields 3 = .ok (.ifCond .eq 106, 3) := by decide +kernel
theorem dX5_followFields_6 : decode cX5_followFields 6 = .ok (.iconst 0, 1) := by decide +kernel
theorem dX5_followFields_7 : decode cX5_followFields 7 = .ok (.istore_n 3, 1) := by decide +kernel
theorem dX5_followFields_8 : decode cX5_followFields 8 = .ok (.iconst 0, 1) := by decide +kernel
theorem dX5_followFields_9 : decode cX5_followFields 9 = .ok (.istore 4, 2) := by decide +kernel
theorem dX5_followFields_11 : decode cX5_followFields 11 = .ok (.iload 4, 2) := by decide +kernel
theorem dX5_followFields_13 : decode cX5_followFields 13 = .ok (.bipush 72, 2) := by decide +kernel
theorem dX5_followFields_15 : decode cX5_followFields 15 = .ok (.if_icmp .ge 91, 3) := by decide +kernel
theorem dX5_followFields_18 : decode cX5_followFields 18 = .ok (.iload 4, 2) := by decide +kernel
theorem dX5_followFields_20 : decode cX5_followFields 20 = .ok (.iconst 3, 1) := by decide +kernel
theorem dX5_followFields_21 : decode cX5_followFields 21 = .ok (.idiv, 1) := by decide +kernel
theorem dX5_followFields_22 : decode cX5_followFields 22 = .ok (.istore 5, 2) := by decide +kernel
theorem dX5_followFields_24 : decode cX5_followFields 24 = .ok (.aload_n 0, 1) := by decide +kernel
theorem dX5_followFields_25 : decode cX5_followFields 25 = .ok (.getfield 17, 3) := by decide +kernel
theorem dX5_followFields_28 : decode cX5_followFields 28 = .ok (.iload 5, 2) := by decide +kernel
theorem dX5_followFields_30 : decode cX5_followFields 30 = .ok (.iaload, 1) := by decide +kernel
theorem dX5_followFields_31 : decode cX5_followFields 31 = .ok (.bipush (-9), 2) := by decide +kernel
theorem dX5_followFields_33 : decode cX5_followFields 33 = .ok (.if_icmp .eq 28, 3) := by decide +kernel
theorem dX5_followFields_36 : decode cX5_followFields 36 = .ok (.aload_n 0, 1) := by decide +kernel
theorem dX5_followFields_37 : decode cX5_followFields 37 = .ok (.iload 5, 2) := by decide +kernel
theorem dX5_followFields_39 : decode cX5_followFields 39 = .ok (.iconst 0, 1) := by decide +kernel
theorem dX5_followFields_40 : decode cX5_followFields 40 = .ok (.invokevirtual 39, 3) := by decide +kernel
theorem dX5_followFields_43 : decode cX5_followFields 43 = .ok (.ifCond .ne 18, 3) := by decide +kernel
theorem dX5_followFields_46 : decode cX5_followFields 46 = .ok (.aload_n 0, 1) := by decide +kernel
theorem dX5_followFields_47 : decode cX5_followFields 47 = .ok (.iload 5, 2) := by decide +kernel
theorem dX5_followFields_49 : decode cX5_followFields 49 = .ok (.iconst 3, 1) := by decide +kernel
theorem dX5_followFields_50 : decode cX5_followFields 50 = .ok (.iload 4, 2) := by decide +kernel
theorem dX5_followFields_52 : decode cX5_followFields 52 = .ok (.iconst 3, 1) := by decide +kernel
theorem dX5_followFields_53 : decode cX5_followFields 53 = .ok (.irem, 1) := by decide +kernel
theorem dX5_followFields_54 : decode cX5_followFields 54 = .ok (.iadd, 1) := by decide +kernel
theorem dX5_followFields_55 : decode cX5_followFields 55 = .ok (.invokevirtual 39, 3) := by decide +kernel
theorem dX5_followFields_58 : decode cX5_followFields 58 = .ok (.goto 5, 3) := by decide +kernel
theorem dX5_followFields_61 : decode cX5_followFields 61 = .ok (.bipush (-9), 2) := by decide +kernel
theorem dX5_followFields_63 : decode cX5_followFields 63 = .ok (.istore 6, 2) := by decide +kernel
theorem dX5_followFields_65 : decode cX5_followFields 65 = .ok (.iload 6, 2) := by decide +kernel
theorem dX5_followFields_67 : decode cX5_followFields 67 = .ok (.bipush (-9), 2) := by decide +kernel
theorem dX5_followFields_69 : decode cX5_followFields 69 = .ok (.if_icmp .eq 31, 3) := by decide +kernel
theorem dX5_followFields_72 : decode cX5_followFields 72 = .ok (.iload 6, 2) := by decide +kernel
theorem dX5_followFields_74 : decode cX5_followFields 74 = .ok (.iload_n 2, 1) := by decide +kernel
theorem dX5_followFields_75 : decode cX5_followFields 75 = .ok (.if_icmp .eq 25, 3) := by decide +kernel
theorem dX5_followFields_78 : decode cX5_followFields 78 = .ok (.aload_n 0, 1) := by decide +kernel
theorem dX5_followFields_79 : decode cX5_followFields 79 = .ok (.getfield 17, 3) := by decide +kernel
theorem dX5_followFields_82 : decode cX5_followFields 82 = .ok (.iload 6, 2) := by decide +kernel
theorem dX5_followFields_84 : decode cX5_followFields 84 = .ok (.iaload, 1) := by decide +kernel
theorem dX5_followFields_85 : decode cX5_followFields 85 = .ok (.bipush (-9), 2) := by decide +kernel
theorem dX5_followFields_87 : decode cX5_followFields 87 = .ok (.if_icmp .ne 13, 3) := by decide +kernel
theorem dX5_followFields_90 : decode cX5_followFields 90 = .ok (.aload_n 0, 1) := by decide +kernel
theorem dX5_followFields_91 : decode cX5_followFields 91 = .ok (.getfield 17, 3) := by decide +kernel
theorem dX5_followFields_94 : decode cX5_followFields 94 = .ok (.iload 6, 2) := by decide +kernel
theorem dX5_followFields_96 : decode cX5_followFields 96 = .ok (.iload_n 1, 1) := by decide +kernel
theorem dX5_followFields_97 : decode cX5_followFields 97 = .ok (.iastore, 1) := by decide +kernel
theorem dX5_followFields_98 : decode cX5_followFields 98 = .ok (.iconst 1, 1) := by decide +kernel
theorem dX5_followFields_99 : decode cX5_followFields 99 = .ok (.istore_n 3, 1) := by decide +kernel
theorem dX5_followFields_100 : decode cX5_followFields 100 = .ok (.iinc 4 1, 3) := by decide +kernel
theorem dX5_followFields_103 : decode cX5_followFields 103 = .ok (.goto (-92), 3) := by decide +kernel
theorem dX5_followFields_106 : decode cX5_followFields 106 = .ok (.goto (-104), 3) := by decide +kernel
theorem dX5_followFields_109 : decode cX5_followFields 109 = .ok (.return_, 1) := by decide +kernel
set_option maxRecDepth 20000 in
theorem ggX5_followEntries_X5_part : GoodIn wsX5_followEntries wsX5_part := goodIn_r _ [6, 7, 8, 9, 10, 11, 12] (by decide +kernel) (by decide +kernel)
set_option maxRecDepth 20000 in
theorem gX5_followEntries_X5_part : GoodIn wsX5_followEntries (wsV RX5 39 RX5 yX5_part wsX5_part) := goodIn_app (goodIn_of _ (by decide +kernel)) ggX5_followEntries_X5_part
theorem dX5_followEntries_0 : decode cX5_followEntries 0 = .ok (.iconst 0, 1) := by decide +kernel
theorem dX5_followEntries_1 : decode cX5_followEntries 1 = .ok (.istore_n 3, 1) := by decide +kernel
theorem dX5_followEntries_2 : decode cX5_followEntries 2 = .ok (.iconst 0, 1) := by decide +kernel
theorem dX5_followEntries_3 : decode cX5_followEntries 3 = .ok (.istore 4, 2) := by decide +kernel
theorem dX5_followEntries_5 : decode cX5_followEntries 5 = .ok (.iload 4, 2) := by decide +kernel
theorem dX5_followEntries_7 : decode cX5_followEntries 7 = .ok (.sipush 144, 3) := by decide +kernel
theorem dX5_followEntries_10 : decode cX5_followEntries 10 = .ok (.if_icmp .ge 145, 3) := by decide +kernel
theorem dX5_followEntries_13 : decode cX5_followEntries 13 = .ok (.iload 4, 2) := by decide +kernel
theorem dX5_followEntries_15 : decode cX5_followEntries 15 = .ok (.bipush 6, 2) := by decide +kernel
theorem dX5_followEntries_17 : decode cX5_followEntries 17 = .ok (.idiv, 1) := by decide +kernel
theorem dX5_followEntries_18 : decode cX5_followEntries 18 = .ok (.istore 5, 2) := by decide +kernel
theorem dX5_followEntries_20 : decode cX5_followEntries 20 = .ok (.iload 4, 2) := by decide +kernel
theorem dX5_followEntries_22 : decode cX5_followEntries 22 = .ok (.bipush 6, 2) := by decide +kernel
theorem dX5_followEntries_24 : decode cX5_followEntries 24 = .ok (.irem, 1) := by decide +kernel
theorem dX5_followEntries_25 : decode cX5_followEntries 25 = .ok (.istore 6, 2) := by decide +kernel
theorem dX5_followEntries_27 : decode cX5_followEntries 27 = .ok (.aload_n 0, 1) := by decide +kernel
theorem dX5_followEntries_28 : decode cX5_followEntries 28 = .ok (.getfield 17, 3) := by decide +kernel
theorem dX5_followEntries_31 : decode cX5_followEntries 31 = .ok (.iload 5, 2) := by decide +kernel
theorem dX5_followEntries_33 : decode cX5_followEntries 33 = .ok (.iaload, 1) := by decide +kernel
theorem dX5_followEntries_34 : decode cX5_followEntries 34 = .ok (.bipush (-9), 2) := by decide +kernel
theorem dX5_followEntries_36 : decode cX5_followEntries 36 = .ok (.if_icmp .eq 113, 3) := by decide +kernel
theorem dX5_followEntries_39 : decode cX5_followEntries 39 = .ok (.aload_n 0, 1) := by decide +kernel
theorem dX5_followEntries_40 : decode cX5_followEntries 40 = .ok (.getfield 17, 3) := by decide +kernel
theorem dX5_followEntries_43 : decode cX5_followEntries 43 = .ok (.iload 5, 2) := by decide +kernel
theorem dX5_followEntries_45 : decode cX5_followEntries 45 = .ok (.iaload, 1) := by decide +kernel
theorem dX5_followEntries_46 : decode cX5_followEntries 46 = .ok (.iload_n 1, 1) := by decide +kernel
theorem dX5_followEntries_47 : decode cX5_followEntries 47 = .ok (.if_icmp .ge 102, 3) := by decide +kernel
theorem dX5_followEntries_50 : decode cX5_followEntries 50 = .ok (.aload_n 0, 1) := by decide +kernel
theorem dX5_followEntries_51 : decode cX5_followEntries 51 = .ok (.iload 5, 2) := by decide +kernel
theorem dX5_followEntries_53 : decode cX5_followEntries 53 = .ok (.iconst 0, 1) := by decide +kernel
theorem dX5_followEntries_54 : decode cX5_followEntries 54 = .ok (.invokevirtual 39, 3) := by decide +kernel
theorem dX5_followEntries_57 : decode cX5_followEntries 57 = .ok (.iconst 1, 1) := by decide +kernel
theorem dX5_followEntries_58 : decode cX5_followEntries 58 = .ok (.if_icmp .ne 91, 3) := by decide +kernel
theorem dX5_followEntries_61 : decode cX5_followEntries 61 = .ok (.iload 6, 2) := by decide +kernel
theorem dX5_followEntries_63 : decode cX5_followEntries 63 = .ok (.aload_n 0, 1) := by decide +kernel
theorem dX5_followEntries_64 : decode cX5_followEntries 64 = .ok (.iload 5, 2) := by decide +kernel
theorem dX5_followEntries_66 : decode cX5_followEntries 66 = .ok (.iconst 2, 1) := by decide +kernel
theorem dX5_followEntries_67 : decode cX5_followEntries 67 = .ok (.invokevirtual 39, 3) := by decide +kernel
theorem dX5_followEntries_70 : decode cX5_followEntries 70 = .ok (.if_icmp .ge 79, 3) := by decide +kernel
theorem dX5_followEntries_73 : decode cX5_followEntries 73 = .ok (.aload_n 0, 1) := by decide +kernel
theorem dX5_followEntries_74 : decode cX5_followEntries 74 = .ok (.iload 5, 2) := by decide +kernel
theorem dX5_followEntries_76 : decode cX5_followEntries 76 = .ok (.iconst 3, 1) := by decide +kernel
theorem dX5_followEntries_77 : decode cX5_followEntries 77 = .ok (.iload 6, 2) := by decide +kernel
theorem dX5_followEntries_79 : decode cX5_followEntries 79 = .ok (.iadd, 1) := by decide +kernel
theorem dX5_followEntries_80 : decode cX5_followEntries 80 = .ok (.invokevirtual 39, 3) := by decide +kernel
theorem dX5_followEntries_83 : decode cX5_followEntries 83 = .ok (.istore 7, 2) := by decide +kernel
theorem dX5_followEntries_85 : decode cX5_followEntries 85 = .ok (.aload_n 0, 1) := by decide +kernel
theorem dX5_followEntries_86 : decode cX5_followEntries 86 = .ok (.iload 5, 2) := by decide +kernel
theorem dX5_followEntries_88 : decode cX5_followEntries 88 = .ok (.bipush 9, 2) := by decide +kernel
theorem dX5_followEntries_90 : decode cX5_followEntries 90 = .ok (.iload 6, 2) := by decide +kernel
theorem dX5_followEntries_92 : decode cX5_followEntries 92 = .ok (.iadd, 1) := by decide +kernel
theorem dX5_followEntries_93 : decode cX5_followEntries 93 = .ok (.invokevirtual 39, 3) := by decide +kernel
theorem dX5_followEntries_96 : decode cX5_followEntries 96 = .ok (.istore 8, 2) := by decide +kernel
theorem dX5_followEntries_98 : decode cX5_followEntries 98 = .ok (.aload_n 0, 1) := by decide +kernel
theorem dX5_followEntries_99 : decode cX5_followEntries 99 = .ok (.getfield 17, 3) := by decide +kernel
theorem dX5_followEntries_102 : decode cX5_followEntries 102 = .ok (.iload 7, 2) := by decide +kernel
theorem dX5_followEntries_104 : decode cX5_followEntries 104 = .ok (.iaload, 1) := by decide +kernel
theorem dX5_followEntries_105 : decode cX5_followEntries 105 = .ok (.bipush (-9), 2) := by decide +kernel
theorem dX5_followEntries_107 : decode cX5_followEntries 107 = .ok (.if_icmp .eq 42, 3) := by decide +kernel
theorem dX5_followEntries_110 : decode cX5_followEntries 110 = .ok (.aload_n 0, 1) := by decide +kernel
theorem dX5_followEntries_111 : decode cX5_followEntries 111 = .ok (.getfield 17, 3) := by decide +kernel
theorem dX5_followEntries_114 : decode cX5_followEntries 114 = .ok (.iload 7, 2) := by decide +kernel
theorem dX5_followEntries_116 : decode cX5_followEntries 116 = .ok (.iaload, 1) := by decide +kernel
theorem dX5_followEntries_117 : decode cX5_followEntries 117 = .ok (.iload_n 1, 1) := by decide +kernel
theorem dX5_followEntries_118 : decode cX5_followEntries 118 = .ok (.if_icmp .ge 31, 3) := by decide +kernel
theorem dX5_followEntries_121 : decode cX5_followEntries 121 = .ok (.aload_n 0, 1) := by decide +kernel
theorem dX5_followEntries_122 : decode cX5_followEntries 122 = .ok (.getfield 17, 3) := by decide +kernel
theorem dX5_followEntries_125 : decode cX5_followEntries 125 = .ok (.iload 8, 2) := by decide +kernel
theorem dX5_followEntries_127 : decode cX5_followEntries 127 = .ok (.iaload, 1) := by decide +kernel
theorem dX5_followEntries_128 : decode cX5_followEntries 128 = .ok (.bipush (-9), 2) := by decide +kernel
theorem dX5_followEntries_130 : decode cX5_followEntries 130 = .ok (.if_icmp .ne 19, 3) := by decide +kernel
theorem dX5_followEntries_133 : decode cX5_followEntries 133 = .ok (.iload 8, 2) := by decide +kernel
theorem dX5_followEntries_135 : decode cX5_followEntries 135 = .ok (.iload_n 2, 1) := by decide +kernel
theorem dX5_followEntries_136 : decode cX5_followEntries 136 = .ok (.if_icmp .eq 13, 3) := by decide +kernel
theorem dX5_followEntries_139 : decode cX5_followEntries 139 = .ok (.aload_n 0, 1) := by decide +kernel
theorem dX5_followEntries_140 : decode cX5_followEntries 140 = .ok (.getfield 17, 3) := by decide +kernel
theorem dX5_followEntries_143 : decode cX5_followEntries 143 = .ok (.iload 8, 2) := by decide +kernel
theorem dX5_followEntries_145 : decode cX5_followEntries 145 = .ok (.iload_n 1, 1) := by decide +kernel
theorem dX5_followEntries_146 : decode cX5_followEntries 146 = .ok (.iastore, 1) := by decide +kernel
theorem dX5_followEntries_147 : decode cX5_followEntries 147 = .ok (.iconst 1, 1) := by decide +kernel
theorem dX5_followEntries_148 : decode cX5_followEntries 148 = .ok (.istore_n 3, 1) := by decide +kernel
theorem dX5_followEntries_149 : decode cX5_followEntries 149 = .ok (.iinc 4 1, 3) := by decide +kernel
theorem dX5_followEntries_152 : decode cX5_followEntries 152 = .ok (.goto (-147), 3) := by decide +kernel
theorem dX5_followEntries_155 : decode cX5_followEntries 155 = .ok (.iload_n 3, 1) := by decide +kernel
theorem dX5_followEntries_156 : decode cX5_followEntries 156 = .ok (.ireturn, 1) := by decide +kernel
set_option maxRecDepth 20000 in
theorem ggX5_marks_X5_followFields : GoodIn wsX5_marks wsX5_followFields := goodIn_r _ [7, 1, 8, 9, 10, 6, 11, 12, 17, 18, 19, 20, 21] (by decide +kernel) (by decide +kernel)
set_option maxRecDepth 20000 in
theorem gX5_marks_X5_followFields : GoodIn wsX5_marks (wsV RX5 66 RX5 yX5_followFields wsX5_followFields) := goodIn_app (goodIn_of _ (by decide +kernel)) ggX5_marks_X5_followFields
set_option maxRecDepth 20000 in
theorem ggX5_marks_X5_followEntries : GoodIn wsX5_marks wsX5_followEntries := goodIn_r _ [16, 1, 8, 9, 10, 6, 11, 12, 17, 18, 19, 20, 21] (by decide +kernel) (by decide +kernel)
set_option maxRecDepth 20000 in
theorem gX5_marks_X5_followEntries : GoodIn wsX5_marks (wsV RX5 69 RX5 yX5_followEntries wsX5_followEntries) := goodIn_app (goodIn_of _ (by decide +kernel)) ggX5_marks_X5_followEntries
theorem dX5_marks_0 : decode cX5_marks 0 = .ok (.iconst 0, 1) := by decide +kernel
theorem dX5_marks_1 : decode cX5_marks 1 = .ok (.istore_n 2, 1) := by decide +kernel
theorem dX5_marks_2 : decode cX5_marks 2 = .ok (.iload_n 2, 1) := by decide +kernel
theorem dX5_marks_3 : decode cX5_marks 3 = .ok (.bipush 24, 2) := by decide +kernel
theorem dX5_marks_5 : decode cX5_marks 5 = .ok (.if_icmp .ge 35, 3) := by decide +kernel
theorem dX5_marks_8 : decode cX5_marks 8 = .ok (.aload_n 0, 1) := by decide +kernel
theorem dX5_marks_9 : decode cX5_marks 9 = .ok (.getfield 17, 3) := by decide +kernel
theorem dX5_marks_12 : decode cX5_marks 12 = .ok (.iload_n 2, 1) := by decide +kernel
theorem dX5_marks_13 : decode cX5_marks 13 = .ok (.aload_n 0, 1) := by decide +kernel
theorem dX5_marks_14 : decode cX5_marks 14 = .ok (.getfield 20, 3) := by decide +kernel
theorem dX5_marks_17 : decode cX5_marks 17 = .ok (.iload_n 2, 1) := by decide +kernel
theorem dX5_marks_18 : decode cX5_marks 18 = .ok (.baload, 1) := by decide +kernel
theorem dX5_marks_19 : decode cX5_marks 19 = .ok (.ifCond .eq 12, 3) := by decide +kernel
theorem dX5_marks_22 : decode cX5_marks 22 = .ok (.iload_n 2, 1) := by decide +kernel
theorem dX5_marks_23 : decode cX5_marks 23 = .ok (.iload_n 1, 1) := by decide +kernel
theorem dX5_marks_24 : decode cX5_marks 24 = .ok (.if_icmp .eq 7, 3) := by decide +kernel
theorem dX5_marks_27 : decode cX5_marks 27 = .ok (.iconst 0, 1) := by decide +kernel
theorem dX5_marks_28 : decode cX5_marks 28 = .ok (.goto 5, 3) := by decide +kernel
theorem dX5_marks_31 : decode cX5_marks 31 = .ok (.bipush (-9), 2) := by decide +kernel
theorem dX5_marks_33 : decode cX5_marks 33 = .ok (.iastore, 1) := by decide +kernel
theorem dX5_marks_34 : decode cX5_marks 34 = .ok (.iinc 2 1, 3) := by decide +kernel
theorem dX5_marks_37 : decode cX5_marks 37 = .ok (.goto (-35), 3) := by decide +kernel
theorem dX5_marks_40 : decode cX5_marks 40 = .ok (.aload_n 0, 1) := by decide +kernel
theorem dX5_marks_41 : decode cX5_marks 41 = .ok (.iconst 0, 1) := by decide +kernel
theorem dX5_marks_42 : decode cX5_marks 42 = .ok (.iload_n 1, 1) := by decide +kernel
theorem dX5_marks_43 : decode cX5_marks 43 = .ok (.invokevirtual 66, 3) := by decide +kernel
theorem dX5_marks_46 : decode cX5_marks 46 = .ok (.iconst 1, 1) := by decide +kernel
theorem dX5_marks_47 : decode cX5_marks 47 = .ok (.istore_n 2, 1) := by decide +kernel
theorem dX5_marks_48 : decode cX5_marks 48 = .ok (.aload_n 0, 1) := by decide +kernel
theorem dX5_marks_49 : decode cX5_marks 49 = .ok (.iload_n 2, 1) := by decide +kernel
theorem dX5_marks_50 : decode cX5_marks 50 = .ok (.iload_n 1, 1) := by decide +kernel
theorem dX5_marks_51 : decode cX5_marks 51 = .ok (.invokevirtual 69, 3) := by decide +kernel
theorem dX5_marks_54 : decode cX5_marks 54 = .ok (.ifCond .eq 15, 3) := by decide +kernel
theorem dX5_marks_57 : decode cX5_marks 57 = .ok (.aload_n 0, 1) := by decide +kernel
theorem dX5_marks_58 : decode cX5_marks 58 = .ok (.iload_n 2, 1) := by decide +kernel
theorem dX5_marks_59 : decode cX5_marks 59 = .ok (.iload_n 1, 1) := by decide +kernel
theorem dX5_marks_60 : decode cX5_marks 60 = .ok (.invokevirtual 66, 3) := by decide +kernel
theorem dX5_marks_63 : decode cX5_marks 63 = .ok (.iinc 2 1, 3) := by decide +kernel
theorem dX5_marks_66 : decode cX5_marks 66 = .ok (.goto (-18), 3) := by decide +kernel
theorem dX5_marks_69 : decode cX5_marks 69 = .ok (.iload_n 2, 1) := by decide +kernel
theorem dX5_marks_70 : decode cX5_marks 70 = .ok (.iconst 1, 1) := by decide +kernel
theorem dX5_marks_71 : decode cX5_marks 71 = .ok (.isub, 1) := by decide +kernel
theorem dX5_marks_72 : decode cX5_marks 72 = .ok (.ireturn, 1) := by decide +kernel
theorem dX5_marked_0 : decode cX5_marked 0 = .ok (.iconst 0, 1) := by decide +kernel
theorem dX5_marked_1 : decode cX5_marked 1 = .ok (.istore_n 1, 1) := by decide +kernel
theorem dX5_marked_2 : decode cX5_marked 2 = .ok (.iconst 0, 1) := by decide +kernel
theorem dX5_marked_3 : decode cX5_marked 3 = .ok (.istore_n 2, 1) := by decide +kernel
theorem dX5_marked_4 : decode cX5_marked 4 = .ok (.iload_n 2, 1) := by decide +kernel
theorem dX5_marked_5 : decode cX5_marked 5 = .ok (.bipush 24, 2) := by decide +kernel
theorem dX5_marked_7 : decode cX5_marked 7 = .ok (.if_icmp .ge 28, 3) := by decide +kernel
theorem dX5_marked_10 : decode cX5_marked 10 = .ok (.iload_n 1, 1) := by decide +kernel
theorem dX5_marked_11 : decode cX5_marked 11 = .ok (.aload_n 0, 1) := by decide +kernel
theorem dX5_marked_12 : decode cX5_marked 12 = .ok (.getfield 17, 3) := by decide +kernel
theorem dX5_marked_15 : decode cX5_marked 15 = .ok (.iload_n 2, 1) := by decide +kernel
theorem dX5_marked_16 : decode cX5_marked 16 = .ok (.iaload, 1) := by decide +kernel
theorem dX5_marked_17 : decode cX5_marked 17 = .ok (.bipush (-9), 2) := by decide +kernel
theorem dX5_marked_19 : decode cX5_marked 19 = .ok (.if_icmp .ne 7, 3) := by decide +kernel
theorem dX5_marked_22 : decode cX5_marked 22 = .ok (.iconst 0, 1) := by decide +kernel
theorem dX5_marked_23 : decode cX5_marked 23 = .ok (.goto 4, 3) := by decide +kernel
theorem dX5_marked_26 : decode cX5_marked 26 = .ok (.iconst 1, 1) := by decide +kernel
theorem dX5_marked_27 : decode cX5_marked 27 = .ok (.iadd, 1) := by decide +kernel
theorem dX5_marked_28 : decode cX5_marked 28 = .ok (.istore_n 1, 1) := by decide +kernel
theorem dX5_marked_29 : decode cX5_marked 29 = .ok (.iinc 2 1, 3) := by decide +kernel
theorem dX5_marked_32 : decode cX5_marked 32 = .ok (.goto (-28), 3) := by decide +kernel
theorem dX5_marked_35 : decode cX5_marked 35 = .ok (.iload_n 1, 1) := by decide +kernel
theorem dX5_marked_36 : decode cX5_marked 36 = .ok (.ireturn, 1) := by decide +kernel
set_option maxRecDepth 20000 in
theorem ggX5_markAll_X5_startAtRoots : GoodIn wsX5_markAll wsX5_startAtRoots := goodIn_r _ [5, 6, 7, 25, 26, 27, 28, 29] (by decide +kernel) (by decide +kernel)
set_option maxRecDepth 20000 in
theorem gX5_markAll_X5_startAtRoots : GoodIn wsX5_markAll (wsV RX5 72 RX5 yX5_startAtRoots wsX5_startAtRoots) := goodIn_app (goodIn_of _ (by decide +kernel)) ggX5_markAll_X5_startAtRoots
set_option maxRecDepth 20000 in
theorem ggX5_markAll_X5_marks : GoodIn wsX5_markAll wsX5_marks := goodIn_r _ [11, 12, 6, 13, 14, 15, 4, 16, 17, 18, 19, 20, 7, 21, 22, 23, 24, 25, 26, 27, 28, 29] (by decide +kernel) (by decide +kernel)
set_option maxRecDepth 20000 in
theorem gX5_markAll_X5_marks : GoodIn wsX5_markAll (wsV RX5 75 RX5 yX5_marks wsX5_marks) := goodIn_app (goodIn_of _ (by decide +kernel)) ggX5_markAll_X5_marks
theorem dX5_markAll_0 : decode cX5_markAll 0 = .ok (.aload_n 0, 1) := by decide +kernel
theorem dX5_markAll_1 : decode cX5_markAll 1 = .ok (.invokevirtual 72, 3) := by decide +kernel
theorem dX5_markAll_4 : decode cX5_markAll 4 = .ok (.aload_n 0, 1) := by decide +kernel
theorem dX5_markAll_5 : decode cX5_markAll 5 = .ok (.iload_n 1, 1) := by decide +kernel
theorem dX5_markAll_6 : decode cX5_markAll 6 = .ok (.invokevirtual 75, 3) := by decide +kernel
theorem dX5_markAll_9 : decode cX5_markAll 9 = .ok (.ireturn, 1) := by decide +kernel
set_option maxRecDepth 20000 in
theorem ggX5_notice_X5_takeNotice : GoodIn wsX5_notice wsX5_takeNotice := goodIn_r _ [6, 1, 7, 8, 9, 10, 11] (by decide +kernel) (by decide +kernel)
set_option maxRecDepth 20000 in
theorem gX5_notice_X5_takeNotice : GoodIn wsX5_notice (wsV RX5 79 RX5 yX5_takeNotice wsX5_takeNotice) := goodIn_app (goodIn_of _ (by decide +kernel)) ggX5_notice_X5_takeNotice
theorem dX5_notice_0 : decode cX5_notice 0 = .ok (.aload_n 0, 1) := by decide +kernel
theorem dX5_notice_1 : decode cX5_notice 1 = .ok (.getfield 7, 3) := by decide +kernel
theorem dX5_notice_4 : decode cX5_notice 4 = .ok (.sipush 366, 3) := by decide +kernel
theorem dX5_notice_7 : decode cX5_notice 7 = .ok (.iaload, 1) := by decide +kernel
theorem dX5_notice_8 : decode cX5_notice 8 = .ok (.bipush 20, 2) := by decide +kernel
theorem dX5_notice_10 : decode cX5_notice 10 = .ok (.if_icmp .ne 8, 3) := by decide +kernel
theorem dX5_notice_13 : decode cX5_notice 13 = .ok (.aload_n 0, 1) := by decide +kernel
theorem dX5_notice_14 : decode cX5_notice 14 = .ok (.invokevirtual 79, 3) := by decide +kernel
theorem dX5_notice_17 : decode cX5_notice 17 = .ok (.pop, 1) := by decide +kernel
theorem dX5_notice_18 : decode cX5_notice 18 = .ok (.aload_n 0, 1) := by decide +kernel
theorem dX5_notice_19 : decode cX5_notice 19 = .ok (.getfield 7, 3) := by decide +kernel
theorem dX5_notice_22 : decode cX5_notice 22 = .ok (.sipush 367, 3) := by decide +kernel
theorem dX5_notice_25 : decode cX5_notice 25 = .ok (.aload_n 0, 1) := by decide +kernel
theorem dX5_notice_26 : decode cX5_notice 26 = .ok (.getfield 7, 3) := by decide +kernel
theorem dX5_notice_29 : decode cX5_notice 29 = .ok (.sipush 366, 3) := by decide +kernel
theorem dX5_notice_32 : decode cX5_notice 32 = .ok (.iaload, 1) := by decide +kernel
theorem dX5_notice_33 : decode cX5_notice 33 = .ok (.iadd, 1) := by decide +kernel
theorem dX5_notice_34 : decode cX5_notice 34 = .ok (.iload_n 1, 1) := by decide +kernel
theorem dX5_notice_35 : decode cX5_notice 35 = .ok (.iastore, 1) := by decide +kernel
theorem dX5_notice_36 : decode cX5_notice 36 = .ok (.aload_n 0, 1) := by decide +kernel
theorem dX5_notice_37 : decode cX5_notice 37 = .ok (.getfield 7, 3) := by decide +kernel
theorem dX5_notice_40 : decode cX5_notice 40 = .ok (.sipush 366, 3) := by decide +kernel
theorem dX5_notice_43 : decode cX5_notice 43 = .ok (.dup2, 1) := by decide +kernel
theorem dX5_notice_44 : decode cX5_notice 44 = .ok (.iaload, 1) := by decide +kernel
theorem dX5_notice_45 : decode cX5_notice 45 = .ok (.iconst 1, 1) := by decide +kernel
theorem dX5_notice_46 : decode cX5_notice 46 = .ok (.iadd, 1) := by decide +kernel
theorem dX5_notice_47 : decode cX5_notice 47 = .ok (.iastore, 1) := by decide +kernel
theorem dX5_notice_48 : decode cX5_notice 48 = .ok (.return_, 1) := by decide +kernel
theorem dX5_takeNotice_0 : decode cX5_takeNotice 0 = .ok (.aload_n 0, 1) := by decide +kernel
theorem dX5_takeNotice_1 : decode cX5_takeNotice 1 = .ok (.getfield 7, 3) := by decide +kernel
theorem dX5_takeNotice_4 : decode cX5_takeNotice 4 = .ok (.sipush 367, 3) := by decide +kernel
theorem dX5_takeNotice_7 : decode cX5_takeNotice 7 = .ok (.iaload, 1) := by decide +kernel
theorem dX5_takeNotice_8 : decode cX5_takeNotice 8 = .ok (.istore_n 1, 1) := by decide +kernel
theorem dX5_takeNotice_9 : decode cX5_takeNotice 9 = .ok (.aload_n 0, 1) := by decide +kernel
theorem dX5_takeNotice_10 : decode cX5_takeNotice 10 = .ok (.getfield 7, 3) := by decide +kernel
theorem dX5_takeNotice_13 : decode cX5_takeNotice 13 = .ok (.sipush 366, 3) := by decide +kernel
theorem dX5_takeNotice_16 : decode cX5_takeNotice 16 = .ok (.dup2, 1) := by decide +kernel
theorem dX5_takeNotice_17 : decode cX5_takeNotice 17 = .ok (.iaload, 1) := by decide +kernel
theorem dX5_takeNotice_18 : decode cX5_takeNotice 18 = .ok (.iconst 1, 1) := by decide +kernel
theorem dX5_takeNotice_19 : decode cX5_takeNotice 19 = .ok (.isub, 1) := by decide +kernel
theorem dX5_takeNotice_20 : decode cX5_takeNotice 20 = .ok (.iastore, 1) := by decide +kernel
theorem dX5_takeNotice_21 : decode cX5_takeNotice 21 = .ok (.iconst 0, 1) := by decide +kernel
theorem dX5_takeNotice_22 : decode cX5_takeNotice 22 = .ok (.istore_n 2, 1) := by decide +kernel
theorem dX5_takeNotice_23 : decode cX5_takeNotice 23 = .ok (.iload_n 2, 1) := by decide +kernel
theorem dX5_takeNotice_24 : decode cX5_takeNotice 24 = .ok (.aload_n 0, 1) := by decide +kernel
theorem dX5_takeNotice_25 : decode cX5_takeNotice 25 = .ok (.getfield 7, 3) := by decide +kernel
theorem dX5_takeNotice_28 : decode cX5_takeNotice 28 = .ok (.sipush 366, 3) := by decide +kernel
theorem dX5_takeNotice_31 : decode cX5_takeNotice 31 = .ok (.iaload, 1) := by decide +kernel
theorem dX5_takeNotice_32 : decode cX5_takeNotice 32 = .ok (.if_icmp .ge 31, 3) := by decide +kernel
theorem dX5_takeNotice_35 : decode cX5_takeNotice 35 = .ok (.aload_n 0, 1) := by decide +kernel
theorem dX5_takeNotice_36 : decode cX5_takeNotice 36 = .ok (.getfield 7, 3) := by decide +kernel
theorem dX5_takeNotice_39 : decode cX5_takeNotice 39 = .ok (.sipush 367, 3) := by decide +kernel
theorem dX5_takeNotice_42 : decode cX5_takeNotice 42 = .ok (.iload_n 2, 1) := by decide +kernel
theorem dX5_takeNotice_43 : decode cX5_takeNotice 43 = .ok (.iadd, 1) := by decide +kernel
theorem dX5_takeNotice_44 : decode cX5_takeNotice 44 = .ok (.aload_n 0, 1) := by decide +kernel
theorem dX5_takeNotice_45 : decode cX5_takeNotice 45 = .ok (.getfield 7, 3) := by decide +kernel
theorem dX5_takeNotice_48 : decode cX5_takeNotice 48 = .ok (.sipush 367, 3) := by decide +kernel
theorem dX5_takeNotice_51 : decode cX5_takeNotice 51 = .ok (.iload_n 2, 1) := by decide +kernel
theorem dX5_takeNotice_52 : decode cX5_takeNotice 52 = .ok (.iadd, 1) := by decide +kernel
theorem dX5_takeNotice_53 : decode cX5_takeNotice 53 = .ok (.iconst 1, 1) := by decide +kernel
theorem dX5_takeNotice_54 : decode cX5_takeNotice 54 = .ok (.iadd, 1) := by decide +kernel
theorem dX5_takeNotice_55 : decode cX5_takeNotice 55 = .ok (.iaload, 1) := by decide +kernel
theorem dX5_takeNotice_56 : decode cX5_takeNotice 56 = .ok (.iastore, 1) := by decide +kernel
theorem dX5_takeNotice_57 : decode cX5_takeNotice 57 = .ok (.iinc 2 1, 3) := by decide +kernel
theorem dX5_takeNotice_60 : decode cX5_takeNotice 60 = .ok (.goto (-37), 3) := by decide +kernel
theorem dX5_takeNotice_63 : decode cX5_takeNotice 63 = .ok (.aload_n 0, 1) := by decide +kernel
theorem dX5_takeNotice_64 : decode cX5_takeNotice 64 = .ok (.getfield 7, 3) := by decide +kernel
theorem dX5_takeNotice_67 : decode cX5_takeNotice 67 = .ok (.sipush 367, 3) := by decide +kernel
theorem dX5_takeNotice_70 : decode cX5_takeNotice 70 = .ok (.aload_n 0, 1) := by decide +kernel
theorem dX5_takeNotice_71 : decode cX5_takeNotice 71 = .ok (.getfield 7, 3) := by decide +kernel
theorem dX5_takeNotice_74 : decode cX5_takeNotice 74 = .ok (.sipush 366, 3) := by decide +kernel
theorem dX5_takeNotice_77 : decode cX5_takeNotice 77 = .ok (.iaload, 1) := by decide +kernel
theorem dX5_takeNotice_78 : decode cX5_takeNotice 78 = .ok (.iadd, 1) := by decide +kernel
theorem dX5_takeNotice_79 : decode cX5_takeNotice 79 = .ok (.iconst 0, 1) := by decide +kernel
theorem dX5_takeNotice_80 : decode cX5_takeNotice 80 = .ok (.iastore, 1) := by decide +kernel
theorem dX5_takeNotice_81 : decode cX5_takeNotice 81 = .ok (.iload_n 1, 1) := by decide +kernel
theorem dX5_takeNotice_82 : decode cX5_takeNotice 82 = .ok (.ireturn, 1) := by decide +kernel
set_option maxRecDepth 20000 in
theorem ggX5_emptyWeak_X5_part : GoodIn wsX5_emptyWeak wsX5_part := goodIn_r _ [7, 2, 16, 17, 18, 19, 20] (by decide +kernel) (by decide +kernel)
set_option maxRecDepth 20000 in
theorem gX5_emptyWeak_X5_part : GoodIn wsX5_emptyWeak (wsV RX5 39 RX5 yX5_part wsX5_part) := goodIn_app (goodIn_of _ (by decide +kernel)) ggX5_emptyWeak_X5_part
set_option maxRecDepth 20000 in
theorem ggX5_emptyWeak_X5_notice : GoodIn wsX5_emptyWeak wsX5_notice := goodIn_r _ [11, 2, 12, 13, 14, 6, 15, 16, 17, 18, 19, 20] (by decide +kernel) (by decide +kernel)
set_option maxRecDepth 20000 in
theorem gX5_emptyWeak_X5_notice : GoodIn wsX5_emptyWeak (wsV RX5 82 RX5 yX5_notice wsX5_notice) := goodIn_app (goodIn_of _ (by decide +kernel)) ggX5_emptyWeak_X5_notice
theorem dX5_emptyWeak_0 : decode cX5_emptyWeak 0 = .ok (.iconst 0, 1) := by decide +kernel
theorem dX5_emptyWeak_1 : decode cX5_emptyWeak 1 = .ok (.istore_n 2, 1) := by decide +kernel
theorem dX5_emptyWeak_2 : decode cX5_emptyWeak 2 = .ok (.iload_n 2, 1) := by decide +kernel
theorem dX5_emptyWeak_3 : decode cX5_emptyWeak 3 = .ok (.bipush 24, 2) := by decide +kernel
theorem dX5_emptyWeak_5 : decode cX5_emptyWeak 5 = .ok (.if_icmp .ge 93, 3) := by decide +kernel
theorem dX5_emptyWeak_8 : decode cX5_emptyWeak 8 = .ok (.aload_n 0, 1) := by decide +kernel
theorem dX5_emptyWeak_9 : decode cX5_emptyWeak 9 = .ok (.getfield 17, 3) := by decide +kernel
theorem dX5_emptyWeak_12 : decode cX5_emptyWeak 12 = .ok (.iload_n 2, 1) := by decide +kernel
theorem dX5_emptyWeak_13 : decode cX5_emptyWeak 13 = .ok (.iaload, 1) := by decide +kernel
theorem dX5_emptyWeak_14 : decode cX5_emptyWeak 14 = .ok (.bipush (-9), 2) := by decide +kernel
theorem dX5_emptyWeak_16 : decode cX5_emptyWeak 16 = .ok (.if_icmp .eq 28, 3) := by decide +kernel
theorem dX5_emptyWeak_19 : decode cX5_emptyWeak 19 = .ok (.aload_n 0, 1) := by decide +kernel
theorem dX5_emptyWeak_20 : decode cX5_emptyWeak 20 = .ok (.iload_n 2, 1) := by decide +kernel
theorem dX5_emptyWeak_21 : decode cX5_emptyWeak 21 = .ok (.iconst 0, 1) := by decide +kernel
theorem dX5_emptyWeak_22 : decode cX5_emptyWeak 22 = .ok (.invokevirtual 39, 3) := by decide +kernel
theorem dX5_emptyWeak_25 : decode cX5_emptyWeak 25 = .ok (.iconst 2, 1) := by decide +kernel
theorem dX5_emptyWeak_26 : decode cX5_emptyWeak 26 = .ok (.if_icmp .ne 18, 3) := by decide +kernel
theorem dX5_emptyWeak_29 : decode cX5_emptyWeak 29 = .ok (.aload_n 0, 1) := by decide +kernel
theorem dX5_emptyWeak_30 : decode cX5_emptyWeak 30 = .ok (.iload_n 2, 1) := by decide +kernel
theorem dX5_emptyWeak_31 : decode cX5_emptyWeak 31 = .ok (.iconst 3, 1) := by decide +kernel
theorem dX5_emptyWeak_32 : decode cX5_emptyWeak 32 = .ok (.invokevirtual 39, 3) := by decide +kernel
theorem dX5_emptyWeak_35 : decode cX5_emptyWeak 35 = .ok (.bipush (-9), 2) := by decide +kernel
theorem dX5_emptyWeak_37 : decode cX5_emptyWeak 37 = .ok (.if_icmp .eq 7, 3) := by decide +kernel
theorem dX5_emptyWeak_40 : decode cX5_emptyWeak 40 = .ok (.iconst 1, 1) := by decide +kernel
theorem dX5_emptyWeak_41 : decode cX5_emptyWeak 41 = .ok (.goto 4, 3) := by decide +kernel
theorem dX5_emptyWeak_44 : decode cX5_emptyWeak 44 = .ok (.iconst 0, 1) := by decide +kernel
theorem dX5_emptyWeak_45 : decode cX5_emptyWeak 45 = .ok (.istore_n 3, 1) := by decide +kernel
theorem dX5_emptyWeak_46 : decode cX5_emptyWeak 46 = .ok (.iload_n 3, 1) := by decide +kernel
theorem dX5_emptyWeak_47 : decode cX5_emptyWeak 47 = .ok (.ifCond .eq 45, 3) := by decide +kernel
theorem dX5_emptyWeak_50 : decode cX5_emptyWeak 50 = .ok (.aload_n 0, 1) := by decide +kernel
theorem dX5_emptyWeak_51 : decode cX5_emptyWeak 51 = .ok (.getfield 17, 3) := by decide +kernel
theorem dX5_emptyWeak_54 : decode cX5_emptyWeak 54 = .ok (.aload_n 0, 1) := by decide +kernel
theorem dX5_emptyWeak_55 : decode cX5_emptyWeak 55 = .ok (.iload_n 2, 1) := by decide +kernel
theorem dX5_emptyWeak_56 : decode cX5_emptyWeak 56 = .ok (.iconst 3, 1) := by decide +kernel
theorem dX5_emptyWeak_57 : decode cX5_emptyWeak 57 = .ok (.invokevirtual 39, 3) := by decide +kernel
theorem dX5_emptyWeak_60 : decode cX5_emptyWeak 60 = .ok (.iaload, 1) := by decide +kernel
theorem dX5_emptyWeak_61 : decode cX5_emptyWeak 61 = .ok (.bipush (-9), 2) := by decide +kernel
theorem dX5_emptyWeak_63 : decode cX5_emptyWeak 63 = .ok (.if_icmp .ne 29, 3) := by decide +kernel
theorem dX5_emptyWeak_66 : decode cX5_emptyWeak 66 = .ok (.aload_n 0, 1) := by decide +kernel
theorem dX5_emptyWeak_67 : decode cX5_emptyWeak 67 = .ok (.getfield 7, 3) := by decide +kernel
theorem dX5_emptyWeak_70 : decode cX5_emptyWeak 70 = .ok (.bipush 15, 2) := by decide +kernel
theorem dX5_emptyWeak_72 : decode cX5_emptyWeak 72 = .ok (.iload_n 2, 1) := by decide +kernel
theorem dX5_emptyWeak_73 : decode cX5_emptyWeak 73 = .ok (.imul, 1) := by decide +kernel
theorem dX5_emptyWeak_74 : decode cX5_emptyWeak 74 = .ok (.iconst 3, 1) := by decide +kernel
theorem dX5_emptyWeak_75 : decode cX5_emptyWeak 75 = .ok (.iadd, 1) := by decide +kernel
theorem dX5_emptyWeak_76 : decode cX5_emptyWeak 76 = .ok (.bipush (-9), 2) := by decide +kernel
theorem dX5_emptyWeak_78 : decode cX5_emptyWeak 78 = .ok (.iastore, 1) := by decide +kernel
theorem dX5_emptyWeak_79 : decode cX5_emptyWeak 79 = .ok (.iload_n 1, 1) := by decide +kernel
theorem dX5_emptyWeak_80 : decode cX5_emptyWeak 80 = .ok (.ifCond .eq 12, 3) := by decide +kernel
theorem dX5_emptyWeak_83 : decode cX5_emptyWeak 83 = .ok (.aload_n 0, 1) := by decide +kernel
theorem dX5_emptyWeak_84 : decode cX5_emptyWeak 84 = .ok (.sipush 1000, 3) := by decide +kernel
theorem dX5_emptyWeak_87 : decode cX5_emptyWeak 87 = .ok (.iload_n 2, 1) := by decide +kernel
theorem dX5_emptyWeak_88 : decode cX5_emptyWeak 88 = .ok (.iadd, 1) := by decide +kernel
theorem dX5_emptyWeak_89 : decode cX5_emptyWeak 89 = .ok (.invokevirtual 82, 3) := by decide +kernel
theorem dX5_emptyWeak_92 : decode cX5_emptyWeak 92 = .ok (.iinc 2 1, 3) := by decide +kernel
theorem dX5_emptyWeak_95 : decode cX5_emptyWeak 95 = .ok (.goto (-93), 3) := by decide +kernel
theorem dX5_emptyWeak_98 : decode cX5_emptyWeak 98 = .ok (.return_, 1) := by decide +kernel
set_option maxRecDepth 20000 in
theorem ggX5_finalizeAll_X5_isAllocated : GoodIn wsX5_finalizeAll wsX5_isAllocated := goodIn_r _ [8, 9, 10, 7, 11, 12, 13, 14, 15, 2, 24, 25, 26, 27, 28] (by decide +kernel) (by decide +kernel)
set_option maxRecDepth 20000 in
theorem gX5_finalizeAll_X5_isAllocated : GoodIn wsX5_finalizeAll (wsV RX5 43 RX5 yX5_isAllocated wsX5_isAllocated) := goodIn_app (goodIn_of _ (by decide +kernel)) ggX5_finalizeAll_X5_isAllocated
set_option maxRecDepth 20000 in
theorem ggX5_finalizeAll_X5_part : GoodIn wsX5_finalizeAll wsX5_part := goodIn_r _ [15, 2, 24, 25, 26, 27, 28] (by decide +kernel) (by decide +kernel)
set_option maxRecDepth 20000 in
theorem gX5_finalizeAll_X5_part : GoodIn wsX5_finalizeAll (wsV RX5 39 RX5 yX5_part wsX5_part) := goodIn_app (goodIn_of _ (by decide +kernel)) ggX5_finalizeAll_X5_part
set_option maxRecDepth 20000 in
theorem ggX5_finalizeAll_X5_notice : GoodIn wsX5_finalizeAll wsX5_notice := goodIn_r _ [19, 2, 20, 21, 22, 7, 23, 24, 25, 26, 27, 28] (by decide +kernel) (by decide +kernel)
set_option maxRecDepth 20000 in
theorem gX5_finalizeAll_X5_notice : GoodIn wsX5_finalizeAll (wsV RX5 82 RX5 yX5_notice wsX5_notice) := goodIn_app (goodIn_of _ (by decide +kernel)) ggX5_finalizeAll_X5_notice
theorem dX5_finalizeAll_0 : decode cX5_finalizeAll 0 = .ok (.iconst 0, 1) := by decide +kernel
theorem dX5_finalizeAll_1 : decode cX5_finalizeAll 1 = .ok (.istore_n 1, 1) := by decide +kernel
theorem dX5_finalizeAll_2 : decode cX5_finalizeAll 2 = .ok (.iload_n 1, 1) := by decide +kernel
theorem dX5_finalizeAll_3 : decode cX5_finalizeAll 3 = .ok (.bipush 24, 2) := by decide +kernel
theorem dX5_finalizeAll_5 : decode cX5_finalizeAll 5 = .ok (.if_icmp .ge 66, 3) := by decide +kernel
theorem dX5_finalizeAll_8 : decode cX5_finalizeAll 8 = .ok (.aload_n 0, 1) := by decide +kernel
theorem dX5_finalizeAll_9 : decode cX5_finalizeAll 9 = .ok (.getfield 17, 3) := by decide +kernel
theorem dX5_finalizeAll_12 : decode cX5_finalizeAll 12 = .ok (.iload_n 1, 1) := by decide +kernel
theorem dX5_finalizeAll_13 : decode cX5_finalizeAll 13 = .ok (.iaload, 1) := by decide +kernel
theorem dX5_finalizeAll_14 : decode cX5_finalizeAll 14 = .ok (.bipush (-9), 2) := by decide +kernel
theorem dX5_finalizeAll_16 : decode cX5_finalizeAll 16 = .ok (.if_icmp .ne 49, 3) := by decide +kernel
theorem dX5_finalizeAll_19 : decode cX5_finalizeAll 19 = .ok (.aload_n 0, 1) := by decide +kernel
theorem dX5_finalizeAll_20 : decode cX5_finalizeAll 20 = .ok (.iload_n 1, 1) := by decide +kernel
theorem dX5_finalizeAll_21 : decode cX5_finalizeAll 21 = .ok (.invokevirtual 43, 3) := by decide +kernel
theorem dX5_finalizeAll_24 : decode cX5_finalizeAll 24 = .ok (.ifCond .eq 41, 3) := by decide +kernel
theorem dX5_finalizeAll_27 : decode cX5_finalizeAll 27 = .ok (.aload_n 0, 1) := by decide +kernel
theorem dX5_finalizeAll_28 : decode cX5_finalizeAll 28 = .ok (.iload_n 1, 1) := by decide +kernel
theorem dX5_finalizeAll_29 : decode cX5_finalizeAll 29 = .ok (.iconst 1, 1) := by decide +kernel
theorem dX5_finalizeAll_30 : decode cX5_finalizeAll 30 = .ok (.invokevirtual 39, 3) := by decide +kernel
theorem dX5_finalizeAll_33 : decode cX5_finalizeAll 33 = .ok (.iconst 1, 1) := by decide +kernel
theorem dX5_finalizeAll_34 : decode cX5_finalizeAll 34 = .ok (.if_icmp .ne 31, 3) := by decide +kernel
theorem dX5_finalizeAll_37 : decode cX5_finalizeAll 37 = .ok (.aload_n 0, 1) := by decide +kernel
theorem dX5_finalizeAll_38 : decode cX5_finalizeAll 38 = .ok (.sipush 3000, 3) := by decide +kernel
theorem dX5_finalizeAll_41 : decode cX5_finalizeAll 41 = .ok (.iload_n 1, 1) := by decide +kernel
theorem dX5_finalizeAll_42 : decode cX5_finalizeAll 42 = .ok (.iadd, 1) := by decide +kernel
theorem dX5_finalizeAll_43 : decode cX5_finalizeAll 43 = .ok (.invokevirtual 82, 3) := by decide +kernel
theorem dX5_finalizeAll_46 : decode cX5_finalizeAll 46 = .ok (.aload_n 0, 1) := by decide +kernel
theorem dX5_finalizeAll_47 : decode cX5_finalizeAll 47 = .ok (.getfield 7, 3) := by decide +kernel
theorem dX5_finalizeAll_50 : decode cX5_finalizeAll 50 = .ok (.bipush 15, 2) := by decide +kernel
theorem dX5_finalizeAll_52 : decode cX5_finalizeAll 52 = .ok (.iload_n 1, 1) := by decide +kernel
theorem dX5_finalizeAll_53 : decode cX5_finalizeAll 53 = .ok (.imul, 1) := by decide +kernel
theorem dX5_finalizeAll_54 : decode cX5_finalizeAll 54 = .ok (.iconst 1, 1) := by decide +kernel
theorem dX5_finalizeAll_55 : decode cX5_finalizeAll 55 = .ok (.iadd, 1) := by decide +kernel
theorem dX5_finalizeAll_56 : decode cX5_finalizeAll 56 = .ok (.iconst 0, 1) := by decide +kernel
theorem dX5_finalizeAll_57 : decode cX5_finalizeAll 57 = .ok (.iastore, 1) := by decide +kernel
theorem dX5_finalizeAll_58 : decode cX5_finalizeAll 58 = .ok (.aload_n 0, 1) := by decide +kernel
theorem dX5_finalizeAll_59 : decode cX5_finalizeAll 59 = .ok (.getfield 20, 3) := by decide +kernel
theorem dX5_finalizeAll_62 : decode cX5_finalizeAll 62 = .ok (.iload_n 1, 1) := by decide +kernel
theorem dX5_finalizeAll_63 : decode cX5_finalizeAll 63 = .ok (.iconst 1, 1) := by decide +kernel
theorem dX5_finalizeAll_64 : decode cX5_finalizeAll 64 = .ok (.bastore, 1) := by decide +kernel
theorem dX5_finalizeAll_65 : decode cX5_finalizeAll 65 = .ok (.iinc 1 1, 3) := by decide +kernel
theorem dX5_finalizeAll_68 : decode cX5_finalizeAll 68 = .ok (.goto (-66), 3) := by decide +kernel
theorem dX5_finalizeAll_71 : decode cX5_finalizeAll 71 = .ok (.return_, 1) := by decide +kernel
set_option maxRecDepth 20000 in
theorem ggX5_dropEntries_X5_part : GoodIn wsX5_dropEntries wsX5_part := goodIn_r _ [6, 7, 20, 21, 22, 23, 24] (by decide +kernel) (by decide +kernel)
set_option maxRecDepth 20000 in
theorem gX5_dropEntries_X5_part : GoodIn wsX5_dropEntries (wsV RX5 39 RX5 yX5_part wsX5_part) := goodIn_app (goodIn_of _ (by decide +kernel)) ggX5_dropEntries_X5_part
set_option maxRecDepth 20000 in
theorem ggX5_dropEntries_X5_notice : GoodIn wsX5_dropEntries wsX5_notice := goodIn_r _ [11, 7, 12, 13, 14, 5, 15, 20, 21, 22, 23, 24] (by decide +kernel) (by decide +kernel)
set_option maxRecDepth 20000 in
theorem gX5_dropEntries_X5_notice : GoodIn wsX5_dropEntries (wsV RX5 82 RX5 yX5_notice wsX5_notice) := goodIn_app (goodIn_of _ (by decide +kernel)) ggX5_dropEntries_X5_notice
set_option maxRecDepth 20000 in
theorem ggX5_dropEntries_X5_removeAt : GoodIn wsX5_dropEntries wsX5_removeAt := goodIn_r _ [19, 7, 2, 3, 4, 5, 6, 20, 21, 22, 23, 24] (by decide +kernel) (by decide +kernel)
set_option maxRecDepth 20000 in
theorem gX5_dropEntries_X5_removeAt : GoodIn wsX5_dropEntries (wsV RX5 63 RX5 yX5_removeAt wsX5_removeAt) := goodIn_app (goodIn_of _ (by decide +kernel)) ggX5_dropEntries_X5_removeAt
theorem dX5_dropEntries_0 : decode cX5_dropEntries 0 = .ok (.iconst 0, 1) := by decide +kernel
theorem dX5_dropEntries_1 : decode cX5_dropEntries 1 = .ok (.istore_n 1, 1) := by decide +kernel
theorem dX5_dropEntries_2 : decode cX5_dropEntries 2 = .ok (.iload_n 1, 1) := by decide +kernel
theorem dX5_dropEntries_3 : decode cX5_dropEntries 3 = .ok (.bipush 24, 2) := by decide +kernel
theorem dX5_dropEntries_5 : decode cX5_dropEntries 5 = .ok (.if_icmp .ge 91, 3) := by decide +kernel
theorem dX5_dropEntries_8 : decode cX5_dropEntries 8 = .ok (.aload_n 0, 1) := by decide +kernel
theorem dX5_dropEntries_9 : decode cX5_dropEntries 9 = .ok (.getfield 17, 3) := by decide +kernel
theorem dX5_dropEntries_12 : decode cX5_dropEntries 12 = .ok (.iload_n 1, 1) := by decide +kernel
theorem dX5_dropEntries_13 : decode cX5_dropEntries 13 = .ok (.iaload, 1) := by decide +kernel
theorem dX5_dropEntries_14 : decode cX5_dropEntries 14 = .ok (.bipush (-9), 2) := by decide +kernel
theorem dX5_dropEntries_16 : decode cX5_dropEntries 16 = .ok (.if_icmp .eq 74, 3) := by decide +kernel
theorem dX5_dropEntries_19 : decode cX5_dropEntries 19 = .ok (.aload_n 0, 1) := by decide +kernel
theorem dX5_dropEntries_20 : decode cX5_dropEntries 20 = .ok (.iload_n 1, 1) := by decide +kernel
theorem dX5_dropEntries_21 : decode cX5_dropEntries 21 = .ok (.iconst 0, 1) := by decide +kernel
theorem dX5_dropEntries_22 : decode cX5_dropEntries 22 = .ok (.invokevirtual 39, 3) := by decide +kernel
theorem dX5_dropEntries_25 : decode cX5_dropEntries 25 = .ok (.iconst 1, 1) := by decide +kernel
theorem dX5_dropEntries_26 : decode cX5_dropEntries 26 = .ok (.if_icmp .ne 64, 3) := by decide +kernel
theorem dX5_dropEntries_29 : decode cX5_dropEntries 29 = .ok (.iconst 0, 1) := by decide +kernel
theorem dX5_dropEntries_30 : decode cX5_dropEntries 30 = .ok (.istore_n 2, 1) := by decide +kernel
theorem dX5_dropEntries_31 : decode cX5_dropEntries 31 = .ok (.iload_n 2, 1) := by decide +kernel
theorem dX5_dropEntries_32 : decode cX5_dropEntries 32 = .ok (.aload_n 0, 1) := by decide +kernel
theorem dX5_dropEntries_33 : decode cX5_dropEntries 33 = .ok (.iload_n 1, 1) := by decide +kernel
theorem dX5_dropEntries_34 : decode cX5_dropEntries 34 = .ok (.iconst 2, 1) := by decide +kernel
theorem dX5_dropEntries_35 : decode cX5_dropEntries 35 = .ok (.invokevirtual 39, 3) := by decide +kernel
theorem dX5_dropEntries_38 : decode cX5_dropEntries 38 = .ok (.if_icmp .ge 52, 3) := by decide +kernel
theorem dX5_dropEntries_41 : decode cX5_dropEntries 41 = .ok (.aload_n 0, 1) := by decide +kernel
theorem dX5_dropEntries_42 : decode cX5_dropEntries 42 = .ok (.iload_n 1, 1) := by decide +kernel
theorem dX5_dropEntries_43 : decode cX5_dropEntries 43 = .ok (.iconst 3, 1) := by decide +kernel
theorem dX5_dropEntries_44 : decode cX5_dropEntries 44 = .ok (.iload_n 2, 1) := by decide +kernel
theorem dX5_dropEntries_45 : decode cX5_dropEntries 45 = .ok (.iadd, 1) := by decide +kernel
theorem dX5_dropEntries_46 : decode cX5_dropEntries 46 = .ok (.invokevirtual 39, 3) := by decide +kernel
theorem dX5_dropEntries_49 : decode cX5_dropEntries 49 = .ok (.istore_n 3, 1) := by decide +kernel
theorem dX5_dropEntries_50 : decode cX5_dropEntries 50 = .ok (.aload_n 0, 1) := by decide +kernel
theorem dX5_dropEntries_51 : decode cX5_dropEntries 51 = .ok (.getfield 17, 3) := by decide +kernel
theorem dX5_dropEntries_54 : decode cX5_dropEntries 54 = .ok (.iload_n 3, 1) := by decide +kernel
theorem dX5_dropEntries_55 : decode cX5_dropEntries 55 = .ok (.iaload, 1) := by decide +kernel
theorem dX5_dropEntries_56 : decode cX5_dropEntries 56 = .ok (.bipush (-9), 2) := by decide +kernel
theorem dX5_dropEntries_58 : decode cX5_dropEntries 58 = .ok (.if_icmp .ne 26, 3) := by decide +kernel
theorem dX5_dropEntries_61 : decode cX5_dropEntries 61 = .ok (.aload_n 0, 1) := by decide +kernel
theorem dX5_dropEntries_62 : decode cX5_dropEntries 62 = .ok (.sipush 2000, 3) := by decide +kernel
theorem dX5_dropEntries_65 : decode cX5_dropEntries 65 = .ok (.bipush 32, 2) := by decide +kernel
theorem dX5_dropEntries_67 : decode cX5_dropEntries 67 = .ok (.iload_n 1, 1) := by decide +kernel
theorem dX5_dropEntries_68 : decode cX5_dropEntries 68 = .ok (.imul, 1) := by decide +kernel
theorem dX5_dropEntries_69 : decode cX5_dropEntries 69 = .ok (.iadd, 1) := by decide +kernel
theorem dX5_dropEntries_70 : decode cX5_dropEntries 70 = .ok (.iload_n 3, 1) := by decide +kernel
theorem dX5_dropEntries_71 : decode cX5_dropEntries 71 = .ok (.iadd, 1) := by decide +kernel
theorem dX5_dropEntries_72 : decode cX5_dropEntries 72 = .ok (.invokevirtual 82, 3) := by decide +kernel
theorem dX5_dropEntries_75 : decode cX5_dropEntries 75 = .ok (.aload_n 0, 1) := by decide +kernel
theorem dX5_dropEntries_76 : decode cX5_dropEntries 76 = .ok (.iload_n 1, 1) := by decide +kernel
theorem dX5_dropEntries_77 : decode cX5_dropEntries 77 = .ok (.iload_n 2, 1) := by decide +kernel
theorem dX5_dropEntries_78 : decode cX5_dropEntries 78 = .ok (.invokevirtual 63, 3) := by decide +kernel
theorem dX5_dropEntries_81 : decode cX5_dropEntries 81 = .ok (.goto 6, 3) := by decide +kernel
theorem dX5_dropEntries_84 : decode cX5_dropEntries 84 = .ok (.iinc 2 1, 3) := by decide +kernel
theorem dX5_dropEntries_87 : decode cX5_dropEntries 87 = .ok (.goto (-56), 3) := by decide +kernel
theorem dX5_dropEntries_90 : decode cX5_dropEntries 90 = .ok (.iinc 1 1, 3) := by decide +kernel
theorem dX5_dropEntries_93 : decode cX5_dropEntries 93 = .ok (.goto (-91), 3) := by decide +kernel
theorem dX5_dropEntries_96 : decode cX5_dropEntries 96 = .ok (.return_, 1) := by decide +kernel
set_option maxRecDepth 20000 in
theorem ggX5_free_X5_isAllocated : GoodIn wsX5_free wsX5_isAllocated := goodIn_r _ [7, 8, 9, 6, 10, 11, 12, 13, 14, 2, 15, 16, 17, 18, 19] (by decide +kernel) (by decide +kernel)
set_option maxRecDepth 20000 in
theorem gX5_free_X5_isAllocated : GoodIn wsX5_free (wsV RX5 43 RX5 yX5_isAllocated wsX5_isAllocated) := goodIn_app (goodIn_of _ (by decide +kernel)) ggX5_free_X5_isAllocated
theorem dX5_free_0 : decode cX5_free 0 = .ok (.iconst 0, 1) := by decide +kernel
theorem dX5_free_1 : decode cX5_free 1 = .ok (.istore_n 1, 1) := by decide +kernel
theorem dX5_free_2 : decode cX5_free 2 = .ok (.iconst 0, 1) := by decide +kernel
theorem dX5_free_3 : decode cX5_free 3 = .ok (.istore_n 2, 1) := by decide +kernel
theorem dX5_free_4 : decode cX5_free 4 = .ok (.iload_n 2, 1) := by decide +kernel
theorem dX5_free_5 : decode cX5_free 5 = .ok (.bipush 24, 2) := by decide +kernel
theorem dX5_free_7 : decode cX5_free 7 = .ok (.if_icmp .ge 56, 3) := by decide +kernel
theorem dX5_free_10 : decode cX5_free 10 = .ok (.aload_n 0, 1) := by decide +kernel
theorem dX5_free_11 : decode cX5_free 11 = .ok (.iload_n 2, 1) := by decide +kernel
theorem dX5_free_12 : decode cX5_free 12 = .ok (.invokevirtual 43, 3) := by decide +kernel
theorem dX5_free_15 : decode cX5_free 15 = .ok (.ifCond .eq 42, 3) := by decide +kernel
theorem dX5_free_18 : decode cX5_free 18 = .ok (.aload_n 0, 1) := by decide +kernel
theorem dX5_free_19 : decode cX5_free 19 = .ok (.getfield 17, 3) := by decide +kernel
theorem dX5_free_22 : decode cX5_free 22 = .ok (.iload_n 2, 1) := by decide +kernel
theorem dX5_free_23 : decode cX5_free 23 = .ok (.iaload, 1) := by decide +kernel
theorem dX5_free_24 : decode cX5_free 24 = .ok (.bipush (-9), 2) := by decide +kernel
theorem dX5_free_26 : decode cX5_free 26 = .ok (.if_icmp .ne 31, 3) := by decide +kernel
theorem dX5_free_29 : decode cX5_free 29 = .ok (.aload_n 0, 1) := by decide +kernel
theorem dX5_free_30 : decode cX5_free 30 = .ok (.getfield 7, 3) := by decide +kernel
theorem dX5_free_33 : decode cX5_free 33 = .ok (.bipush 15, 2) := by decide +kernel
theorem dX5_free_35 : decode cX5_free 35 = .ok (.iload_n 2, 1) := by decide +kernel
theorem dX5_free_36 : decode cX5_free 36 = .ok (.imul, 1) := by decide +kernel
theorem dX5_free_37 : decode cX5_free 37 = .ok (.iconst 0, 1) := by decide +kernel
theorem dX5_free_38 : decode cX5_free 38 = .ok (.iadd, 1) := by decide +kernel
theorem dX5_free_39 : decode cX5_free 39 = .ok (.bipush (-9), 2) := by decide +kernel
theorem dX5_free_41 : decode cX5_free 41 = .ok (.iastore, 1) := by decide +kernel
theorem dX5_free_42 : decode cX5_free 42 = .ok (.aload_n 0, 1) := by decide +kernel
theorem dX5_free_43 : decode cX5_free 43 = .ok (.getfield 7, 3) := by decide +kernel
theorem dX5_free_46 : decode cX5_free 46 = .ok (.bipush 15, 2) := by decide +kernel
theorem dX5_free_48 : decode cX5_free 48 = .ok (.iload_n 2, 1) := by decide +kernel
theorem dX5_free_49 : decode cX5_free 49 = .ok (.imul, 1) := by decide +kernel
theorem dX5_free_50 : decode cX5_free 50 = .ok (.iconst 1, 1) := by decide +kernel
theorem dX5_free_51 : decode cX5_free 51 = .ok (.iadd, 1) := by decide +kernel
theorem dX5_free_52 : decode cX5_free 52 = .ok (.iconst 0, 1) := by decide +kernel
theorem dX5_free_53 : decode cX5_free 53 = .ok (.iastore, 1) := by decide +kernel
theorem dX5_free_54 : decode cX5_free 54 = .ok (.iinc 1 1, 3) := by decide +kernel
theorem dX5_free_57 : decode cX5_free 57 = .ok (.iinc 2 1, 3) := by decide +kernel
theorem dX5_free_60 : decode cX5_free 60 = .ok (.goto (-56), 3) := by decide +kernel
theorem dX5_free_63 : decode cX5_free 63 = .ok (.iload_n 1, 1) := by decide +kernel
theorem dX5_free_64 : decode cX5_free 64 = .ok (.ireturn, 1) := by decide +kernel
set_option maxRecDepth 20000 in
theorem ggX5_collectNow_X5_markAll : GoodIn wsX5_collectNow wsX5_markAll := goodIn_r _ [6, 7, 8, 9, 5, 10, 11, 1, 12, 13, 14, 15, 16, 17, 18, 19, 20, 21, 22, 23, 24, 25, 26, 27, 28, 64, 65, 66, 67, 68] (by decide +kernel) (by decide +kernel)
set_option maxRecDepth 20000 in
theorem gX5_collectNow_X5_markAll : GoodIn wsX5_collectNow (wsV RX5 86 RX5 yX5_markAll wsX5_markAll) := goodIn_app (goodIn_of _ (by decide +kernel)) ggX5_collectNow_X5_markAll
set_option maxRecDepth 20000 in
theorem ggX5_collectNow_X5_emptyWeak : GoodIn wsX5_collectNow wsX5_emptyWeak := goodIn_r _ [32, 16, 1, 21, 22, 23, 5, 24, 33, 34, 35, 36, 37, 38, 39, 40, 64, 65, 66, 67, 68] (by decide +kernel) (by decide +kernel)
set_option maxRecDepth 20000 in
theorem gX5_collectNow_X5_emptyWeak : GoodIn wsX5_collectNow (wsV RX5 89 RX5 yX5_emptyWeak wsX5_emptyWeak) := goodIn_app (goodIn_of _ (by decide +kernel)) ggX5_collectNow_X5_emptyWeak
set_option maxRecDepth 20000 in
theorem ggX5_collectNow_X5_finalizeAll : GoodIn wsX5_collectNow wsX5_finalizeAll := goodIn_r _ [44, 16, 1, 11, 45, 46, 47, 5, 48, 49, 50, 51, 21, 22, 23, 24, 33, 34, 35, 36, 37, 38, 39, 40, 64, 65, 66, 67, 68] (by decide +kernel) (by decide +kernel)
set_option maxRecDepth 20000 in
theorem gX5_collectNow_X5_finalizeAll : GoodIn wsX5_collectNow (wsV RX5 93 RX5 yX5_finalizeAll wsX5_finalizeAll) := goodIn_app (goodIn_of _ (by decide +kernel)) ggX5_collectNow_X5_finalizeAll
set_option maxRecDepth 20000 in
theorem ggX5_collectNow_X5_marks : GoodIn wsX5_collectNow wsX5_marks := goodIn_r _ [15, 16, 11, 17, 18, 19, 5, 20, 21, 22, 23, 24, 1, 25, 26, 27, 28, 64, 65, 66, 67, 68] (by decide +kernel) (by decide +kernel)
set_option maxRecDepth 20000 in
theorem gX5_collectNow_X5_marks : GoodIn wsX5_collectNow (wsV RX5 75 RX5 yX5_marks wsX5_marks) := goodIn_app (goodIn_of _ (by decide +kernel)) ggX5_collectNow_X5_marks
set_option maxRecDepth 20000 in
theorem ggX5_collectNow_X5_dropEntries : GoodIn wsX5_collectNow wsX5_dropEntries := goodIn_r _ [55, 16, 21, 22, 23, 5, 24, 1, 33, 34, 35, 36, 37, 38, 39, 40, 56, 57, 58, 59, 64, 65, 66, 67, 68] (by decide +kernel) (by decide +kernel)
set_option maxRecDepth 20000 in
theorem gX5_collectNow_X5_dropEntries : GoodIn wsX5_collectNow (wsV RX5 96 RX5 yX5_dropEntries wsX5_dropEntries) := goodIn_app (goodIn_of _ (by decide +kernel)) ggX5_collectNow_X5_dropEntries
set_option maxRecDepth 20000 in
theorem ggX5_collectNow_X5_free : GoodIn wsX5_collectNow wsX5_free := goodIn_r _ [63, 16, 1, 45, 46, 47, 5, 48, 49, 50, 51, 21, 22, 23, 24, 64, 65, 66, 67, 68] (by decide +kernel) (by decide +kernel)
set_option maxRecDepth 20000 in
theorem gX5_collectNow_X5_free : GoodIn wsX5_collectNow (wsV RX5 99 RX5 yX5_free wsX5_free) := goodIn_app (goodIn_of _ (by decide +kernel)) ggX5_collectNow_X5_free
theorem dX5_collectNow_0 : decode cX5_collectNow 0 = .ok (.aload_n 0, 1) := by decide +kernel
theorem dX5_collectNow_1 : decode cX5_collectNow 1 = .ok (.getfield 7, 3) := by decide +kernel
theorem dX5_collectNow_4 : decode cX5_collectNow 4 = .ok (.sipush 387, 3) := by decide +kernel
theorem dX5_collectNow_7 : decode cX5_collectNow 7 = .ok (.aload_n 0, 1) := by decide +kernel
theorem dX5_collectNow_8 : decode cX5_collectNow 8 = .ok (.bipush (-9), 2) := by decide +kernel
theorem dX5_collectNow_10 : decode cX5_collectNow 10 = .ok (.invokevirtual 86, 3) := by decide +kernel
theorem dX5_collectNow_13 : decode cX5_collectNow 13 = .ok (.iastore, 1) := by decide +kernel
theorem dX5_collectNow_14 : decode cX5_collectNow 14 = .ok (.aload_n 0, 1) := by decide +kernel
theorem dX5_collectNow_15 : decode cX5_collectNow 15 = .ok (.iconst 1, 1) := by decide +kernel
theorem dX5_collectNow_16 : decode cX5_collectNow 16 = .ok (.invokevirtual 89, 3) := by decide +kernel
theorem dX5_collectNow_19 : decode cX5_collectNow 19 = .ok (.aload_n 0, 1) := by decide +kernel
theorem dX5_collectNow_20 : decode cX5_collectNow 20 = .ok (.invokevirtual 93, 3) := by decide +kernel
theorem dX5_collectNow_23 : decode cX5_collectNow 23 = .ok (.aload_n 0, 1) := by decide +kernel
theorem dX5_collectNow_24 : decode cX5_collectNow 24 = .ok (.bipush (-9), 2) := by decide +kernel
theorem dX5_collectNow_26 : decode cX5_collectNow 26 = .ok (.invokevirtual 75, 3) := by decide +kernel
theorem dX5_collectNow_29 : decode cX5_collectNow 29 = .ok (.pop, 1) := by decide +kernel
theorem dX5_collectNow_30 : decode cX5_collectNow 30 = .ok (.aload_n 0, 1) := by decide +kernel
theorem dX5_collectNow_31 : decode cX5_collectNow 31 = .ok (.invokevirtual 96, 3) := by decide +kernel
theorem dX5_collectNow_34 : decode cX5_collectNow 34 = .ok (.aload_n 0, 1) := by decide +kernel
theorem dX5_collectNow_35 : decode cX5_collectNow 35 = .ok (.iconst 0, 1) := by decide +kernel
theorem dX5_collectNow_36 : decode cX5_collectNow 36 = .ok (.invokevirtual 89, 3) := by decide +kernel
theorem dX5_collectNow_39 : decode cX5_collectNow 39 = .ok (.aload_n 0, 1) := by decide +kernel
theorem dX5_collectNow_40 : decode cX5_collectNow 40 = .ok (.invokevirtual 99, 3) := by decide +kernel
theorem dX5_collectNow_43 : decode cX5_collectNow 43 = .ok (.ireturn, 1) := by decide +kernel
set_option maxRecDepth 20000 in
theorem ggX5_collect_X5_saveState : GoodIn wsX5_collect wsX5_saveState := goodIn_r _ [5, 6, 7, 8, 9, 4, 10, 11, 77, 78, 79, 80, 81] (by decide +kernel) (by decide +kernel)
set_option maxRecDepth 20000 in
theorem gX5_collect_X5_saveState : GoodIn wsX5_collect (wsV RX5 47 RX5 yX5_saveState wsX5_saveState) := goodIn_app (goodIn_of _ (by decide +kernel)) ggX5_collect_X5_saveState
set_option maxRecDepth 20000 in
theorem ggX5_collect_X5_collectNow : GoodIn wsX5_collect wsX5_collectNow := goodIn_r _ [15, 11, 16, 17, 18, 4, 19, 20, 21, 22, 23, 24, 25, 26, 27, 28, 29, 30, 31, 32, 33, 34, 35, 36, 37, 38, 39, 40, 41, 42, 43, 44, 45, 46, 47, 48, 49, 50, 51, 52, 53, 54, 55, 56, 57, 58, 59, 60, 61, 62, 63, 64, 65, 66, 67, 68, 69, 70, 71, 72, 73, 74, 75, 76, 77, 78, 79, 80, 81] (by decide +kernel) (by decide +kernel)
set_option maxRecDepth 20000 in
theorem gX5_collect_X5_collectNow : GoodIn wsX5_collect (wsV RX5 102 RX5 yX5_collectNow wsX5_collectNow) := goodIn_app (goodIn_of _ (by decide +kernel)) ggX5_collect_X5_collectNow
theorem dX5_collect_0 : decode cX5_collect 0 = .ok (.aload_n 0, 1) := by decide +kernel
theorem dX5_collect_1 : decode cX5_collect 1 = .ok (.invokevirtual 47, 3) := by decide +kernel
theorem dX5_collect_4 : decode cX5_collect 4 = .ok (.aload_n 0, 1) := by decide +kernel
theorem dX5_collect_5 : decode cX5_collect 5 = .ok (.invokevirtual 102, 3) := by decide +kernel
theorem dX5_collect_8 : decode cX5_collect 8 = .ok (.ireturn, 1) := by decide +kernel
set_option maxRecDepth 20000 in
theorem ggX5_wouldFree_X5_copyState : GoodIn wsX5_wouldFree wsX5_copyState := goodIn_r _ [5, 6, 72, 73, 74, 75, 76] (by decide +kernel) (by decide +kernel)
set_option maxRecDepth 20000 in
theorem gX5_wouldFree_X5_copyState : GoodIn wsX5_wouldFree (wsV RX5 27 RX5 yX5_copyState wsX5_copyState) := goodIn_app (goodIn_of _ (by decide +kernel)) ggX5_wouldFree_X5_copyState
set_option maxRecDepth 20000 in
theorem ggX5_wouldFree_X5_collectNow : GoodIn wsX5_wouldFree wsX5_collectNow := goodIn_r _ [10, 6, 11, 12, 13, 4, 14, 15, 16, 17, 18, 19, 20, 21, 22, 23, 24, 25, 26, 27, 28, 29, 30, 31, 32, 33, 34, 35, 36, 37, 38, 39, 40, 41, 42, 43, 44, 45, 46, 47, 48, 49, 50, 51, 52, 53, 54, 55, 56, 57, 58, 59, 60, 61, 62, 63, 64, 65, 66, 67, 68, 69, 70, 71, 72, 73, 74, 75, 76] (by decide +kernel) (by decide +kernel)
set_option maxRecDepth 20000 in
theorem gX5_wouldFree_X5_collectNow : GoodIn wsX5_wouldFree (wsV RX5 102 RX5 yX5_collectNow wsX5_collectNow) := goodIn_app (goodIn_of _ (by decide +kernel)) ggX5_wouldFree_X5_collectNow
theorem dX5_wouldFree_0 : decode cX5_wouldFree 0 = .ok (.aload_n 0, 1) := by decide +kernel
theorem dX5_wouldFree_1 : decode cX5_wouldFree 1 = .ok (.iconst 0, 1) := by decide +kernel
theorem dX5_wouldFree_2 : decode cX5_wouldFree 2 = .ok (.iconst 1, 1) := by decide +kernel
theorem dX5_wouldFree_3 : decode cX5_wouldFree 3 = .ok (.invokevirtual 27, 3) := by decide +kernel
theorem dX5_wouldFree_6 : decode cX5_wouldFree 6 = .ok (.aload_n 0, 1) := by decide +kernel
theorem dX5_wouldFree_7 : decode cX5_wouldFree 7 = .ok (.invokevirtual 102, 3) := by decide +kernel
theorem dX5_wouldFree_10 : decode cX5_wouldFree 10 = .ok (.istore_n 1, 1) := by decide +kernel
theorem dX5_wouldFree_11 : decode cX5_wouldFree 11 = .ok (.aload_n 0, 1) := by decide +kernel
theorem dX5_wouldFree_12 : decode cX5_wouldFree 12 = .ok (.iconst 1, 1) := by decide +kernel
theorem dX5_wouldFree_13 : decode cX5_wouldFree 13 = .ok (.iconst 0, 1) := by decide +kernel
theorem dX5_wouldFree_14 : decode cX5_wouldFree 14 = .ok (.invokevirtual 27, 3) := by decide +kernel
theorem dX5_wouldFree_17 : decode cX5_wouldFree 17 = .ok (.iload_n 1, 1) := by decide +kernel
theorem dX5_wouldFree_18 : decode cX5_wouldFree 18 = .ok (.ireturn, 1) := by decide +kernel
theorem dX5_lastRounds_0 : decode cX5_lastRounds 0 = .ok (.aload_n 0, 1) := by decide +kernel
theorem dX5_lastRounds_1 : decode cX5_lastRounds 1 = .ok (.getfield 7, 3) := by decide +kernel
theorem dX5_lastRounds_4 : decode cX5_lastRounds 4 = .ok (.sipush 387, 3) := by decide +kernel
theorem dX5_lastRounds_7 : decode cX5_lastRounds 7 = .ok (.iaload, 1) := by decide +kernel
theorem dX5_lastRounds_8 : decode cX5_lastRounds 8 = .ok (.ireturn, 1) := by decide +kernel
set_option maxRecDepth 20000 in
theorem ggX5_pollNotice_X5_saveState : GoodIn wsX5_pollNotice wsX5_saveState := goodIn_r _ [6, 7, 8, 9, 10, 5, 11, 1, 16, 17, 18, 19, 20] (by decide +kernel) (by decide +kernel)
set_option maxRecDepth 20000 in
theorem gX5_pollNotice_X5_saveState : GoodIn wsX5_pollNotice (wsV RX5 47 RX5 yX5_saveState wsX5_saveState) := goodIn_app (goodIn_of _ (by decide +kernel)) ggX5_pollNotice_X5_saveState
set_option maxRecDepth 20000 in
theorem ggX5_pollNotice_X5_takeNotice : GoodIn wsX5_pollNotice wsX5_takeNotice := goodIn_r _ [15, 1, 16, 17, 18, 19, 20] (by decide +kernel) (by decide +kernel)
set_option maxRecDepth 20000 in
theorem gX5_pollNotice_X5_takeNotice : GoodIn wsX5_pollNotice (wsV RX5 79 RX5 yX5_takeNotice wsX5_takeNotice) := goodIn_app (goodIn_of _ (by decide +kernel)) ggX5_pollNotice_X5_takeNotice
theorem dX5_pollNotice_0 : decode cX5_pollNotice 0 = .ok (.aload_n 0, 1) := by decide +kernel
theorem dX5_pollNotice_1 : decode cX5_pollNotice 1 = .ok (.getfield 7, 3) := by decide +kernel
theorem dX5_pollNotice_4 : decode cX5_pollNotice 4 = .ok (.sipush 366, 3) := by decide +kernel
theorem dX5_pollNotice_7 : decode cX5_pollNotice 7 = .ok (.iaload, 1) := by decide +kernel
theorem dX5_pollNotice_8 : decode cX5_pollNotice 8 = .ok (.ifCond .ne 6, 3) := by decide +kernel
theorem dX5_pollNotice_11 : decode cX5_pollNotice 11 = .ok (.bipush (-2), 2) := by decide +kernel
theorem dX5_pollNotice_13 : decode cX5_pollNotice 13 = .ok (.ireturn, 1) := by decide +kernel
theorem dX5_pollNotice_14 : decode cX5_pollNotice 14 = .ok (.aload_n 0, 1) := by decide +kernel
theorem dX5_pollNotice_15 : decode cX5_pollNotice 15 = .ok (.invokevirtual 47, 3) := by decide +kernel
theorem dX5_pollNotice_18 : decode cX5_pollNotice 18 = .ok (.aload_n 0, 1) := by decide +kernel
theorem dX5_pollNotice_19 : decode cX5_pollNotice 19 = .ok (.invokevirtual 79, 3) := by decide +kernel
theorem dX5_pollNotice_22 : decode cX5_pollNotice 22 = .ok (.ireturn, 1) := by decide +kernel
theorem dX5_noticeCount_0 : decode cX5_noticeCount 0 = .ok (.aload_n 0, 1) := by decide +kernel
theorem dX5_noticeCount_1 : decode cX5_noticeCount 1 = .ok (.getfield 7, 3) := by decide +kernel
theorem dX5_noticeCount_4 : decode cX5_noticeCount 4 = .ok (.sipush 366, 3) := by decide +kernel
theorem dX5_noticeCount_7 : decode cX5_noticeCount 7 = .ok (.iaload, 1) := by decide +kernel
theorem dX5_noticeCount_8 : decode cX5_noticeCount 8 = .ok (.ireturn, 1) := by decide +kernel
set_option maxRecDepth 20000 in
theorem ggX5_objectCount_X5_isAllocated : GoodIn wsX5_objectCount wsX5_isAllocated := goodIn_r _ [5, 6, 7, 4, 8, 9, 10, 11, 12, 13, 14, 15, 16, 17, 18] (by decide +kernel) (by decide +kernel)
set_option maxRecDepth 20000 in
theorem gX5_objectCount_X5_isAllocated : GoodIn wsX5_objectCount (wsV RX5 43 RX5 yX5_isAllocated wsX5_isAllocated) := goodIn_app (goodIn_of _ (by decide +kernel)) ggX5_objectCount_X5_isAllocated
theorem dX5_objectCount_0 : decode cX5_objectCount 0 = .ok (.iconst 0, 1) := by decide +kernel
theorem dX5_objectCount_1 : decode cX5_objectCount 1 = .ok (.istore_n 1, 1) := by decide +kernel
theorem dX5_objectCount_2 : decode cX5_objectCount 2 = .ok (.iconst 0, 1) := by decide +kernel
theorem dX5_objectCount_3 : decode cX5_objectCount 3 = .ok (.istore_n 2, 1) := by decide +kernel
theorem dX5_objectCount_4 : decode cX5_objectCount 4 = .ok (.iload_n 2, 1) := by decide +kernel
theorem dX5_objectCount_5 : decode cX5_objectCount 5 = .ok (.bipush 24, 2) := by decide +kernel
theorem dX5_objectCount_7 : decode cX5_objectCount 7 = .ok (.if_icmp .ge 25, 3) := by decide +kernel
theorem dX5_objectCount_10 : decode cX5_objectCount 10 = .ok (.iload_n 1, 1) := by decide +kernel
theorem dX5_objectCount_11 : decode cX5_objectCount 11 = .ok (.aload_n 0, 1) := by decide +kernel
theorem dX5_objectCount_12 : decode cX5_objectCount 12 = .ok (.iload_n 2, 1) := by decide +kernel
theorem dX5_objectCount_13 : decode cX5_objectCount 13 = .ok (.invokevirtual 43, 3) := by decide +kernel
theorem dX5_objectCount_16 : decode cX5_objectCount 16 = .ok (.ifCond .eq 7, 3) := by decide +kernel
theorem dX5_objectCount_19 : decode cX5_objectCount 19 = .ok (.iconst 1, 1) := by decide +kernel
theorem dX5_objectCount_20 : decode cX5_objectCount 20 = .ok (.goto 4, 3) := by decide +kernel
theorem dX5_objectCount_23 : decode cX5_objectCount 23 = .ok (.iconst 0, 1) := by decide +kernel
theorem dX5_objectCount_24 : decode cX5_objectCount 24 = .ok (.iadd, 1) := by decide +kernel
theorem dX5_objectCount_25 : decode cX5_objectCount 25 = .ok (.istore_n 1, 1) := by decide +kernel
theorem dX5_objectCount_26 : decode cX5_objectCount 26 = .ok (.iinc 2 1, 3) := by decide +kernel
theorem dX5_objectCount_29 : decode cX5_objectCount 29 = .ok (.goto (-25), 3) := by decide +kernel
theorem dX5_objectCount_32 : decode cX5_objectCount 32 = .ok (.iload_n 1, 1) := by decide +kernel
theorem dX5_objectCount_33 : decode cX5_objectCount 33 = .ok (.ireturn, 1) := by decide +kernel
set_option maxRecDepth 20000 in
theorem ggX5_reachableCount_X5_markAll : GoodIn wsX5_reachableCount wsX5_markAll := goodIn_r _ [5, 6, 7, 8, 4, 9, 10, 11, 12, 13, 14, 15, 16, 17, 18, 19, 20, 21, 22, 23, 24, 25, 26, 27, 28, 33, 34, 35, 36, 37] (by decide +kernel) (by decide +kernel)
set_option maxRecDepth 20000 in
theorem gX5_reachableCount_X5_markAll : GoodIn wsX5_reachableCount (wsV RX5 86 RX5 yX5_markAll wsX5_markAll) := goodIn_app (goodIn_of _ (by decide +kernel)) ggX5_reachableCount_X5_markAll
set_option maxRecDepth 20000 in
theorem ggX5_reachableCount_X5_marked : GoodIn wsX5_reachableCount wsX5_marked := goodIn_r _ [32, 16, 33, 34, 35, 36, 37] (by decide +kernel) (by decide +kernel)
set_option maxRecDepth 20000 in
theorem gX5_reachableCount_X5_marked : GoodIn wsX5_reachableCount (wsV RX5 105 RX5 yX5_marked wsX5_marked) := goodIn_app (goodIn_of _ (by decide +kernel)) ggX5_reachableCount_X5_marked
theorem dX5_reachableCount_0 : decode cX5_reachableCount 0 = .ok (.aload_n 0, 1) := by decide +kernel
theorem dX5_reachableCount_1 : decode cX5_reachableCount 1 = .ok (.bipush (-9), 2) := by decide +kernel
theorem dX5_reachableCount_3 : decode cX5_reachableCount 3 = .ok (.invokevirtual 86, 3) := by decide +kernel
theorem dX5_reachableCount_6 : decode cX5_reachableCount 6 = .ok (.pop, 1) := by decide +kernel
theorem dX5_reachableCount_7 : decode cX5_reachableCount 7 = .ok (.aload_n 0, 1) := by decide +kernel
theorem dX5_reachableCount_8 : decode cX5_reachableCount 8 = .ok (.invokevirtual 105, 3) := by decide +kernel
theorem dX5_reachableCount_11 : decode cX5_reachableCount 11 = .ok (.ireturn, 1) := by decide +kernel
set_option maxRecDepth 20000 in
theorem ggX5_markRound_X5_isAllocated : GoodIn wsX5_markRound wsX5_isAllocated := goodIn_r _ [6, 7, 8, 5, 9, 10, 11, 12, 13, 14, 36, 37, 38, 39, 40] (by decide +kernel) (by decide +kernel)
set_option maxRecDepth 20000 in
theorem gX5_markRound_X5_isAllocated : GoodIn wsX5_markRound (wsV RX5 43 RX5 yX5_isAllocated wsX5_isAllocated) := goodIn_app (goodIn_of _ (by decide +kernel)) ggX5_markRound_X5_isAllocated
set_option maxRecDepth 20000 in
theorem ggX5_markRound_X5_markAll : GoodIn wsX5_markRound wsX5_markAll := goodIn_r _ [18, 19, 20, 21, 5, 22, 23, 14, 24, 25, 26, 27, 1, 28, 29, 30, 31, 10, 11, 12, 13, 32, 33, 34, 35, 36, 37, 38, 39, 40] (by decide +kernel) (by decide +kernel)
set_option maxRecDepth 20000 in
theorem gX5_markRound_X5_markAll : GoodIn wsX5_markRound (wsV RX5 86 RX5 yX5_markAll wsX5_markAll) := goodIn_app (goodIn_of _ (by decide +kernel)) ggX5_markRound_X5_markAll
theorem dX5_markRound_0 : decode cX5_markRound 0 = .ok (.aload_n 0, 1) := by decide +kernel
theorem dX5_markRound_1 : decode cX5_markRound 1 = .ok (.iload_n 1, 1) := by decide +kernel
theorem dX5_markRound_2 : decode cX5_markRound 2 = .ok (.invokevirtual 43, 3) := by decide +kernel
theorem dX5_markRound_5 : decode cX5_markRound 5 = .ok (.ifCond .ne 5, 3) := by decide +kernel
theorem dX5_markRound_8 : decode cX5_markRound 8 = .ok (.iconst (-1), 1) := by decide +kernel
theorem dX5_markRound_9 : decode cX5_markRound 9 = .ok (.ireturn, 1) := by decide +kernel
theorem dX5_markRound_10 : decode cX5_markRound 10 = .ok (.aload_n 0, 1) := by decide +kernel
theorem dX5_markRound_11 : decode cX5_markRound 11 = .ok (.bipush (-9), 2) := by decide +kernel
theorem dX5_markRound_13 : decode cX5_markRound 13 = .ok (.invokevirtual 86, 3) := by decide +kernel
theorem dX5_markRound_16 : decode cX5_markRound 16 = .ok (.pop, 1) := by decide +kernel
theorem dX5_markRound_17 : decode cX5_markRound 17 = .ok (.aload_n 0, 1) := by decide +kernel
theorem dX5_markRound_18 : decode cX5_markRound 18 = .ok (.getfield 17, 3) := by decide +kernel
theorem dX5_markRound_21 : decode cX5_markRound 21 = .ok (.iload_n 1, 1) := by decide +kernel
theorem dX5_markRound_22 : decode cX5_markRound 22 = .ok (.iaload, 1) := by decide +kernel
theorem dX5_markRound_23 : decode cX5_markRound 23 = .ok (.ireturn, 1) := by decide +kernel
set_option maxRecDepth 20000 in
theorem ggX5_retainedSize_X5_isAllocated : GoodIn wsX5_retainedSize wsX5_isAllocated := goodIn_r _ [5, 6, 7, 4, 8, 9, 10, 11, 12, 13, 44, 45, 46, 47, 48] (by decide +kernel) (by decide +kernel)
set_option maxRecDepth 20000 in
theorem gX5_retainedSize_X5_isAllocated : GoodIn wsX5_retainedSize (wsV RX5 43 RX5 yX5_isAllocated wsX5_isAllocated) := goodIn_app (goodIn_of _ (by decide +kernel)) ggX5_retainedSize_X5_isAllocated
set_option maxRecDepth 20000 in
theorem ggX5_retainedSize_X5_reachableCount : GoodIn wsX5_retainedSize wsX5_reachableCount := goodIn_r _ [17, 18, 19, 20, 4, 21, 22, 23, 24, 25, 26, 13, 27, 28, 29, 30, 31, 32, 33, 34, 35, 9, 10, 11, 12, 36, 37, 38, 39, 40, 41, 42, 43, 44, 45, 46, 47, 48] (by decide +kernel) (by decide +kernel)
set_option maxRecDepth 20000 in
theorem gX5_retainedSize_X5_reachableCount : GoodIn wsX5_retainedSize (wsV RX5 108 RX5 yX5_reachableCount wsX5_reachableCount) := goodIn_app (goodIn_of _ (by decide +kernel)) ggX5_retainedSize_X5_reachableCount
set_option maxRecDepth 20000 in
theorem ggX5_retainedSize_X5_markAll : GoodIn wsX5_retainedSize wsX5_markAll := goodIn_r _ [21, 22, 23, 24, 4, 25, 26, 13, 27, 28, 29, 30, 31, 32, 33, 34, 35, 9, 10, 11, 12, 36, 37, 38, 39, 44, 45, 46, 47, 48] (by decide +kernel) (by decide +kernel)
set_option maxRecDepth 20000 in
theorem gX5_retainedSize_X5_markAll : GoodIn wsX5_retainedSize (wsV RX5 86 RX5 yX5_markAll wsX5_markAll) := goodIn_app (goodIn_of _ (by decide +kernel)) ggX5_retainedSize_X5_markAll
set_option maxRecDepth 20000 in
theorem ggX5_retainedSize_X5_marked : GoodIn wsX5_retainedSize wsX5_marked := goodIn_r _ [43, 31, 44, 45, 46, 47, 48] (by decide +kernel) (by decide +kernel)
set_option maxRecDepth 20000 in
theorem gX5_retainedSize_X5_marked : GoodIn wsX5_retainedSize (wsV RX5 105 RX5 yX5_marked wsX5_marked) := goodIn_app (goodIn_of _ (by decide +kernel)) ggX5_retainedSize_X5_marked
theorem dX5_retainedSize_0 : decode cX5_retainedSize 0 = .ok (.aload_n 0, 1) := by decide +kernel
theorem dX5_retainedSize_1 : decode cX5_retainedSize 1 = .ok (.iload_n 1, 1) := by decide +kernel
theorem dX5_retainedSize_2 : decode cX5_retainedSize 2 = .ok (.invokevirtual 43, 3) := by decide +kernel
theorem dX5_retainedSize_5 : decode cX5_retainedSize 5 = .ok (.ifCond .ne 5, 3) := by decide +kernel
theorem dX5_retainedSize_8 : decode cX5_retainedSize 8 = .ok (.iconst (-1), 1) := by decide +kernel
theorem dX5_retainedSize_9 : decode cX5_retainedSize 9 = .ok (.ireturn, 1) := by decide +kernel
theorem dX5_retainedSize_10 : decode cX5_retainedSize 10 = .ok (.aload_n 0, 1) := by decide +kernel
theorem dX5_retainedSize_11 : decode cX5_retainedSize 11 = .ok (.invokevirtual 108, 3) := by decide +kernel
theorem dX5_retainedSize_14 : decode cX5_retainedSize 14 = .ok (.istore_n 2, 1) := by decide +kernel
theorem dX5_retainedSize_15 : decode cX5_retainedSize 15 = .ok (.aload_n 0, 1) := by decide +kernel
theorem dX5_retainedSize_16 : decode cX5_retainedSize 16 = .ok (.iload_n 1, 1) := by decide +kernel
theorem dX5_retainedSize_17 : decode cX5_retainedSize 17 = .ok (.invokevirtual 86, 3) := by decide +kernel
theorem dX5_retainedSize_20 : decode cX5_retainedSize 20 = .ok (.pop, 1) := by decide +kernel
theorem dX5_retainedSize_21 : decode cX5_retainedSize 21 = .ok (.iload_n 2, 1) := by decide +kernel
theorem dX5_retainedSize_22 : decode cX5_retainedSize 22 = .ok (.aload_n 0, 1) := by decide +kernel
theorem dX5_retainedSize_23 : decode cX5_retainedSize 23 = .ok (.invokevirtual 105, 3) := by decide +kernel
theorem dX5_retainedSize_26 : decode cX5_retainedSize 26 = .ok (.isub, 1) := by decide +kernel
theorem dX5_retainedSize_27 : decode cX5_retainedSize 27 = .ok (.ireturn, 1) := by decide +kernel
set_option maxRecDepth 20000 in
theorem ggX5_waitingEntries_X5_isAllocated : GoodIn wsX5_waitingEntries wsX5_isAllocated := goodIn_r _ [6, 7, 8, 5, 9, 10, 11, 12, 13, 14, 40, 41, 42, 43, 44] (by decide +kernel) (by decide +kernel)
set_option maxRecDepth 20000 in
theorem gX5_waitingEntries_X5_isAllocated : GoodIn wsX5_waitingEntries (wsV RX5 43 RX5 yX5_isAllocated wsX5_isAllocated) := goodIn_app (goodIn_of _ (by decide +kernel)) ggX5_waitingEntries_X5_isAllocated
set_option maxRecDepth 20000 in
theorem ggX5_waitingEntries_X5_markAll : GoodIn wsX5_waitingEntries wsX5_markAll := goodIn_r _ [18, 19, 20, 21, 5, 22, 23, 14, 24, 25, 26, 27, 1, 28, 29, 30, 31, 10, 11, 12, 13, 32, 33, 34, 35, 40, 41, 42, 43, 44] (by decide +kernel) (by decide +kernel)
set_option maxRecDepth 20000 in
theorem gX5_waitingEntries_X5_markAll : GoodIn wsX5_waitingEntries (wsV RX5 86 RX5 yX5_markAll wsX5_markAll) := goodIn_app (goodIn_of _ (by decide +kernel)) ggX5_waitingEntries_X5_markAll
set_option maxRecDepth 20000 in
theorem ggX5_waitingEntries_X5_part : GoodIn wsX5_waitingEntries wsX5_part := goodIn_r _ [13, 14, 40, 41, 42, 43, 44] (by decide +kernel) (by decide +kernel)
set_option maxRecDepth 20000 in
theorem gX5_waitingEntries_X5_part : GoodIn wsX5_waitingEntries (wsV RX5 39 RX5 yX5_part wsX5_part) := goodIn_app (goodIn_of _ (by decide +kernel)) ggX5_waitingEntries_X5_part
set_option maxRecDepth 20000 in
theorem ggX5_waitingEntries_X5_placeOf : GoodIn wsX5_waitingEntries wsX5_placeOf := goodIn_r _ [39, 10, 11, 12, 5, 13, 14, 40, 41, 42, 43, 44] (by decide +kernel) (by decide +kernel)
set_option maxRecDepth 20000 in
theorem gX5_waitingEntries_X5_placeOf : GoodIn wsX5_waitingEntries (wsV RX5 60 RX5 yX5_placeOf wsX5_placeOf) := goodIn_app (goodIn_of _ (by decide +kernel)) ggX5_waitingEntries_X5_placeOf
theorem dX5_waitingEntries_0 : decode cX5_waitingEntries 0 = .ok (.aload_n 0, 1) := by decide +kernel
theorem dX5_waitingEntries_1 : decode cX5_waitingEntries 1 = .ok (.iload_n 1, 1) := by decide +kernel
theorem dX5_waitingEntries_2 : decode cX5_waitingEntries 2 = .ok (.invokevirtual 43, 3) := by decide +kernel
theorem dX5_waitingEntries_5 : decode cX5_waitingEntries 5 = .ok (.ifCond .ne 5, 3) := by decide +kernel
theorem dX5_waitingEntries_8 : decode cX5_waitingEntries 8 = .ok (.iconst (-1), 1) := by decide +kernel
theorem dX5_waitingEntries_9 : decode cX5_waitingEntries 9 = .ok (.ireturn, 1) := by decide +kernel
theorem dX5_waitingEntries_10 : decode cX5_waitingEntries 10 = .ok (.aload_n 0, 1) := by decide +kernel
theorem dX5_waitingEntries_11 : decode cX5_waitingEntries 11 = .ok (.bipush (-9), 2) := by decide +kernel
theorem dX5_waitingEntries_13 : decode cX5_waitingEntries 13 = .ok (.invokevirtual 86, 3) := by decide +kernel
theorem dX5_waitingEntries_16 : decode cX5_waitingEntries 16 = .ok (.pop, 1) := by decide +kernel
theorem dX5_waitingEntries_17 : decode cX5_waitingEntries 17 = .ok (.iconst 0, 1) := by decide +kernel
theorem dX5_waitingEntries_18 : decode cX5_waitingEntries 18 = .ok (.istore_n 2, 1) := by decide +kernel
theorem dX5_waitingEntries_19 : decode cX5_waitingEntries 19 = .ok (.iconst 0, 1) := by decide +kernel
theorem dX5_waitingEntries_20 : decode cX5_waitingEntries 20 = .ok (.istore_n 3, 1) := by decide +kernel
theorem dX5_waitingEntries_21 : decode cX5_waitingEntries 21 = .ok (.iload_n 3, 1) := by decide +kernel
theorem dX5_waitingEntries_22 : decode cX5_waitingEntries 22 = .ok (.bipush 24, 2) := by decide +kernel
theorem dX5_waitingEntries_24 : decode cX5_waitingEntries 24 = .ok (.if_icmp .ge 60, 3) := by decide +kernel
theorem dX5_waitingEntries_27 : decode cX5_waitingEntries 27 = .ok (.aload_n 0, 1) := by decide +kernel
theorem dX5_waitingEntries_28 : decode cX5_waitingEntries 28 = .ok (.getfield 17, 3) := by decide +kernel
theorem dX5_waitingEntries_31 : decode cX5_waitingEntries 31 = .ok (.iload_n 1, 1) := by decide +kernel
theorem dX5_waitingEntries_32 : decode cX5_waitingEntries 32 = .ok (.iaload, 1) := by decide +kernel
theorem dX5_waitingEntries_33 : decode cX5_waitingEntries 33 = .ok (.bipush (-9), 2) := by decide +kernel
theorem dX5_waitingEntries_35 : decode cX5_waitingEntries 35 = .ok (.if_icmp .ne 49, 3) := by decide +kernel
theorem dX5_waitingEntries_38 : decode cX5_waitingEntries 38 = .ok (.iload_n 2, 1) := by decide +kernel
theorem dX5_waitingEntries_39 : decode cX5_waitingEntries 39 = .ok (.aload_n 0, 1) := by decide +kernel
theorem dX5_waitingEntries_40 : decode cX5_waitingEntries 40 = .ok (.getfield 17, 3) := by decide +kernel
theorem dX5_waitingEntries_43 : decode cX5_waitingEntries 43 = .ok (.iload_n 3, 1) := by decide +kernel
theorem dX5_waitingEntries_44 : decode cX5_waitingEntries 44 = .ok (.iaload, 1) := by decide +kernel
theorem dX5_waitingEntries_45 : decode cX5_waitingEntries 45 = .ok (.bipush (-9), 2) := by decide +kernel
theorem dX5_waitingEntries_47 : decode cX5_waitingEntries 47 = .ok (.if_icmp .eq 28, 3) := by decide +kernel
theorem dX5_waitingEntries_50 : decode cX5_waitingEntries 50 = .ok (.aload_n 0, 1) := by decide +kernel
theorem dX5_waitingEntries_51 : decode cX5_waitingEntries 51 = .ok (.iload_n 3, 1) := by decide +kernel
theorem dX5_waitingEntries_52 : decode cX5_waitingEntries 52 = .ok (.iconst 0, 1) := by decide +kernel
theorem dX5_waitingEntries_53 : decode cX5_waitingEntries 53 = .ok (.invokevirtual 39, 3) := by decide +kernel
theorem dX5_waitingEntries_56 : decode cX5_waitingEntries 56 = .ok (.iconst 1, 1) := by decide +kernel
theorem dX5_waitingEntries_57 : decode cX5_waitingEntries 57 = .ok (.if_icmp .ne 18, 3) := by decide +kernel
theorem dX5_waitingEntries_60 : decode cX5_waitingEntries 60 = .ok (.aload_n 0, 1) := by decide +kernel
theorem dX5_waitingEntries_61 : decode cX5_waitingEntries 61 = .ok (.iload_n 3, 1) := by decide +kernel
theorem dX5_waitingEntries_62 : decode cX5_waitingEntries 62 = .ok (.iload_n 1, 1) := by decide +kernel
theorem dX5_waitingEntries_63 : decode cX5_waitingEntries 63 = .ok (.invokevirtual 60, 3) := by decide +kernel
theorem dX5_waitingEntries_66 : decode cX5_waitingEntries 66 = .ok (.bipush (-9), 2) := by decide +kernel
theorem dX5_waitingEntries_68 : decode cX5_waitingEntries 68 = .ok (.if_icmp .eq 7, 3) := by decide +kernel
theorem dX5_waitingEntries_71 : decode cX5_waitingEntries 71 = .ok (.iconst 1, 1) := by decide +kernel
theorem dX5_waitingEntries_72 : decode cX5_waitingEntries 72 = .ok (.goto 4, 3) := by decide +kernel
theorem dX5_waitingEntries_75 : decode cX5_waitingEntries 75 = .ok (.iconst 0, 1) := by decide +kernel
theorem dX5_waitingEntries_76 : decode cX5_waitingEntries 76 = .ok (.iadd, 1) := by decide +kernel
theorem dX5_waitingEntries_77 : decode cX5_waitingEntries 77 = .ok (.istore_n 2, 1) := by decide +kernel
theorem dX5_waitingEntries_78 : decode cX5_waitingEntries 78 = .ok (.iinc 3 1, 3) := by decide +kernel
theorem dX5_waitingEntries_81 : decode cX5_waitingEntries 81 = .ok (.goto (-60), 3) := by decide +kernel
theorem dX5_waitingEntries_84 : decode cX5_waitingEntries 84 = .ok (.iload_n 2, 1) := by decide +kernel
theorem dX5_waitingEntries_85 : decode cX5_waitingEntries 85 = .ok (.ireturn, 1) := by decide +kernel
set_option maxRecDepth 20000 in
theorem ggX5_referenceCount_X5_isAllocated : GoodIn wsX5_referenceCount wsX5_isAllocated := goodIn_r _ [6, 7, 8, 5, 9, 10, 11, 12, 13, 1, 14, 15, 16, 17, 18] (by decide +kernel) (by decide +kernel)
set_option maxRecDepth 20000 in
theorem gX5_referenceCount_X5_isAllocated : GoodIn wsX5_referenceCount (wsV RX5 43 RX5 yX5_isAllocated wsX5_isAllocated) := goodIn_app (goodIn_of _ (by decide +kernel)) ggX5_referenceCount_X5_isAllocated
set_option maxRecDepth 20000 in
theorem ggX5_referenceCount_X5_part : GoodIn wsX5_referenceCount wsX5_part := goodIn_r _ [13, 1, 14, 15, 16, 17, 18] (by decide +kernel) (by decide +kernel)
set_option maxRecDepth 20000 in
theorem gX5_referenceCount_X5_part : GoodIn wsX5_referenceCount (wsV RX5 39 RX5 yX5_part wsX5_part) := goodIn_app (goodIn_of _ (by decide +kernel)) ggX5_referenceCount_X5_part
theorem dX5_referenceCount_0 : decode cX5_referenceCount 0 = .ok (.aload_n 0, 1) := by decide +kernel
theorem dX5_referenceCount_1 : decode cX5_referenceCount 1 = .ok (.iload_n 1, 1) := by decide +kernel
theorem dX5_referenceCount_2 : decode cX5_referenceCount 2 = .ok (.invokevirtual 43, 3) := by decide +kernel
theorem dX5_referenceCount_5 : decode cX5_referenceCount 5 = .ok (.ifCond .ne 5, 3) := by decide +kernel
theorem dX5_referenceCount_8 : decode cX5_referenceCount 8 = .ok (.iconst (-1), 1) := by decide +kernel
theorem dX5_referenceCount_9 : decode cX5_referenceCount 9 = .ok (.ireturn, 1) := by decide +kernel
theorem dX5_referenceCount_10 : decode cX5_referenceCount 10 = .ok (.iconst 0, 1) := by decide +kernel
theorem dX5_referenceCount_11 : decode cX5_referenceCount 11 = .ok (.istore_n 2, 1) := by decide +kernel
theorem dX5_referenceCount_12 : decode cX5_referenceCount 12 = .ok (.iconst 0, 1) := by decide +kernel
theorem dX5_referenceCount_13 : decode cX5_referenceCount 13 = .ok (.istore_n 3, 1) := by decide +kernel
theorem dX5_referenceCount_14 : decode cX5_referenceCount 14 = .ok (.iload_n 3, 1) := by decide +kernel
theorem dX5_referenceCount_15 : decode cX5_referenceCount 15 = .ok (.bipush 6, 2) := by decide +kernel
theorem dX5_referenceCount_17 : decode cX5_referenceCount 17 = .ok (.if_icmp .ge 31, 3) := by decide +kernel
theorem dX5_referenceCount_20 : decode cX5_referenceCount 20 = .ok (.iload_n 2, 1) := by decide +kernel
theorem dX5_referenceCount_21 : decode cX5_referenceCount 21 = .ok (.aload_n 0, 1) := by decide +kernel
theorem dX5_referenceCount_22 : decode cX5_referenceCount 22 = .ok (.getfield 7, 3) := by decide +kernel
theorem dX5_referenceCount_25 : decode cX5_referenceCount 25 = .ok (.sipush 360, 3) := by decide +kernel
theorem dX5_referenceCount_28 : decode cX5_referenceCount 28 = .ok (.iload_n 3, 1) := by decide +kernel
theorem dX5_referenceCount_29 : decode cX5_referenceCount 29 = .ok (.iadd, 1) := by decide +kernel
theorem dX5_referenceCount_30 : decode cX5_referenceCount 30 = .ok (.iaload, 1) := by decide +kernel
theorem dX5_referenceCount_31 : decode cX5_referenceCount 31 = .ok (.iload_n 1, 1) := by decide +kernel
theorem dX5_referenceCount_32 : decode cX5_referenceCount 32 = .ok (.if_icmp .ne 7, 3) := by decide +kernel
theorem dX5_referenceCount_35 : decode cX5_referenceCount 35 = .ok (.iconst 1, 1) := by decide +kernel
theorem dX5_referenceCount_36 : decode cX5_referenceCount 36 = .ok (.goto 4, 3) := by decide +kernel
theorem dX5_referenceCount_39 : decode cX5_referenceCount 39 = .ok (.iconst 0, 1) := by decide +kernel
theorem dX5_referenceCount_40 : decode cX5_referenceCount 40 = .ok (.iadd, 1) := by decide +kernel
theorem dX5_referenceCount_41 : decode cX5_referenceCount 41 = .ok (.istore_n 2, 1) := by decide +kernel
theorem dX5_referenceCount_42 : decode cX5_referenceCount 42 = .ok (.iinc 3 1, 3) := by decide +kernel
theorem dX5_referenceCount_45 : decode cX5_referenceCount 45 = .ok (.goto (-31), 3) := by decide +kernel
theorem dX5_referenceCount_48 : decode cX5_referenceCount 48 = .ok (.iconst 0, 1) := by decide +kernel
theorem dX5_referenceCount_49 : decode cX5_referenceCount 49 = .ok (.istore_n 3, 1) := by decide +kernel
theorem dX5_referenceCount_50 : decode cX5_referenceCount 50 = .ok (.iload_n 3, 1) := by decide +kernel
theorem dX5_referenceCount_51 : decode cX5_referenceCount 51 = .ok (.bipush 24, 2) := by decide +kernel
theorem dX5_referenceCount_53 : decode cX5_referenceCount 53 = .ok (.if_icmp .ge 52, 3) := by decide +kernel
theorem dX5_referenceCount_56 : decode cX5_referenceCount 56 = .ok (.iconst 3, 1) := by decide +kernel
theorem dX5_referenceCount_57 : decode cX5_referenceCount 57 = .ok (.istore 4, 2) := by decide +kernel
theorem dX5_referenceCount_59 : decode cX5_referenceCount 59 = .ok (.iload 4, 2) := by decide +kernel
theorem dX5_referenceCount_61 : decode cX5_referenceCount 61 = .ok (.bipush 15, 2) := by decide +kernel
theorem dX5_referenceCount_63 : decode cX5_referenceCount 63 = .ok (.if_icmp .ge 36, 3) := by decide +kernel
theorem dX5_referenceCount_66 : decode cX5_referenceCount 66 = .ok (.aload_n 0, 1) := by decide +kernel
theorem dX5_referenceCount_67 : decode cX5_referenceCount 67 = .ok (.iload_n 3, 1) := by decide +kernel
theorem dX5_referenceCount_68 : decode cX5_referenceCount 68 = .ok (.invokevirtual 43, 3) := by decide +kernel
theorem dX5_referenceCount_71 : decode cX5_referenceCount 71 = .ok (.ifCond .eq 28, 3) := by decide +kernel
theorem dX5_referenceCount_74 : decode cX5_referenceCount 74 = .ok (.iload_n 2, 1) := by decide +kernel
theorem dX5_referenceCount_75 : decode cX5_referenceCount 75 = .ok (.aload_n 0, 1) := by decide +kernel
theorem dX5_referenceCount_76 : decode cX5_referenceCount 76 = .ok (.iload_n 3, 1) := by decide +kernel
theorem dX5_referenceCount_77 : decode cX5_referenceCount 77 = .ok (.iload 4, 2) := by decide +kernel
theorem dX5_referenceCount_79 : decode cX5_referenceCount 79 = .ok (.invokevirtual 39, 3) := by decide +kernel
theorem dX5_referenceCount_82 : decode cX5_referenceCount 82 = .ok (.iload_n 1, 1) := by decide +kernel
theorem dX5_referenceCount_83 : decode cX5_referenceCount 83 = .ok (.if_icmp .ne 7, 3) := by decide +kernel
theorem dX5_referenceCount_86 : decode cX5_referenceCount 86 = .ok (.iconst 1, 1) := by decide +kernel
theorem dX5_referenceCount_87 : decode cX5_referenceCount 87 = .ok (.goto 4, 3) := by decide +kernel
theorem dX5_referenceCount_90 : decode cX5_referenceCount 90 = .ok (.iconst 0, 1) := by decide +kernel
theorem dX5_referenceCount_91 : decode cX5_referenceCount 91 = .ok (.iadd, 1) := by decide +kernel
theorem dX5_referenceCount_92 : decode cX5_referenceCount 92 = .ok (.istore_n 2, 1) := by decide +kernel
theorem dX5_referenceCount_93 : decode cX5_referenceCount 93 = .ok (.iinc 4 1, 3) := by decide +kernel
theorem dX5_referenceCount_96 : decode cX5_referenceCount 96 = .ok (.goto (-37), 3) := by decide +kernel
theorem dX5_referenceCount_99 : decode cX5_referenceCount 99 = .ok (.iinc 3 1, 3) := by decide +kernel
theorem dX5_referenceCount_102 : decode cX5_referenceCount 102 = .ok (.goto (-52), 3) := by decide +kernel
theorem dX5_referenceCount_105 : decode cX5_referenceCount 105 = .ok (.iload_n 2, 1) := by decide +kernel
theorem dX5_referenceCount_106 : decode cX5_referenceCount 106 = .ok (.ireturn, 1) := by decide +kernel
theorem dJ6_bitCount_0f7a4_0 : decode cJ6_bitCount_0f7a4 0 = .ok (.iload_n 0, 1) := by decide +kernel
theorem dJ6_bitCount_0f7a4_1 : decode cJ6_bitCount_0f7a4 1 = .ok (.iload_n 0, 1) := by decide +kernel
theorem dJ6_bitCount_0f7a4_2 : decode cJ6_bitCount_0f7a4 2 = .ok (.iconst 1, 1) := by decide +kernel
theorem dJ6_bitCount_0f7a4_3 : decode cJ6_bitCount_0f7a4 3 = .ok (.iushr, 1) := by decide +kernel
theorem dJ6_bitCount_0f7a4_4 : decode cJ6_bitCount_0f7a4 4 = .ok (.ldc_w 265, 3) := by decide +kernel
theorem dJ6_bitCount_0f7a4_7 : decode cJ6_bitCount_0f7a4 7 = .ok (.iand, 1) := by decide +kernel
theorem dJ6_bitCount_0f7a4_8 : decode cJ6_bitCount_0f7a4 8 = .ok (.isub, 1) := by decide +kernel
theorem dJ6_bitCount_0f7a4_9 : decode cJ6_bitCount_0f7a4 9 = .ok (.istore_n 0, 1) := by decide +kernel
theorem dJ6_bitCount_0f7a4_10 : decode cJ6_bitCount_0f7a4 10 = .ok (.iload_n 0, 1) := by decide +kernel
theorem dJ6_bitCount_0f7a4_11 : decode cJ6_bitCount_0f7a4 11 = .ok (.ldc_w 266, 3) := by decide +kernel
theorem dJ6_bitCount_0f7a4_14 : decode cJ6_bitCount_0f7a4 14 = .ok (.iand, 1) := by decide +kernel
theorem dJ6_bitCount_0f7a4_15 : decode cJ6_bitCount_0f7a4 15 = .ok (.iload_n 0, 1) := by decide +kernel
theorem dJ6_bitCount_0f7a4_16 : decode cJ6_bitCount_0f7a4 16 = .ok (.iconst 2, 1) := by decide +kernel
theorem dJ6_bitCount_0f7a4_17 : decode cJ6_bitCount_0f7a4 17 = .ok (.iushr, 1) := by decide +kernel
theorem dJ6_bitCount_0f7a4_18 : decode cJ6_bitCount_0f7a4 18 = .ok (.ldc_w 266, 3) := by decide +kernel
theorem dJ6_bitCount_0f7a4_21 : decode cJ6_bitCount_0f7a4 21 = .ok (.iand, 1) := by decide +kernel
theorem dJ6_bitCount_0f7a4_22 : decode cJ6_bitCount_0f7a4 22 = .ok (.iadd, 1) := by decide +kernel
theorem dJ6_bitCount_0f7a4_23 : decode cJ6_bitCount_0f7a4 23 = .ok (.istore_n 0, 1) := by decide +kernel
theorem dJ6_bitCount_0f7a4_24 : decode cJ6_bitCount_0f7a4 24 = .ok (.iload_n 0, 1) := by decide +kernel
theorem dJ6_bitCount_0f7a4_25 : decode cJ6_bitCount_0f7a4 25 = .ok (.iload_n 0, 1) := by decide +kernel
theorem dJ6_bitCount_0f7a4_26 : decode cJ6_bitCount_0f7a4 26 = .ok (.iconst 4, 1) := by decide +kernel
theorem dJ6_bitCount_0f7a4_27 : decode cJ6_bitCount_0f7a4 27 = .ok (.iushr, 1) := by decide +kernel
theorem dJ6_bitCount_0f7a4_28 : decode cJ6_bitCount_0f7a4 28 = .ok (.iadd, 1) := by decide +kernel
theorem dJ6_bitCount_0f7a4_29 : decode cJ6_bitCount_0f7a4 29 = .ok (.ldc_w 267, 3) := by decide +kernel
theorem dJ6_bitCount_0f7a4_32 : decode cJ6_bitCount_0f7a4 32 = .ok (.iand, 1) := by decide +kernel
theorem dJ6_bitCount_0f7a4_33 : decode cJ6_bitCount_0f7a4 33 = .ok (.istore_n 0, 1) := by decide +kernel
theorem dJ6_bitCount_0f7a4_34 : decode cJ6_bitCount_0f7a4 34 = .ok (.iload_n 0, 1) := by decide +kernel
theorem dJ6_bitCount_0f7a4_35 : decode cJ6_bitCount_0f7a4 35 = .ok (.iload_n 0, 1) := by decide +kernel
theorem dJ6_bitCount_0f7a4_36 : decode cJ6_bitCount_0f7a4 36 = .ok (.bipush 8, 2) := by decide +kernel
theorem dJ6_bitCount_0f7a4_38 : decode cJ6_bitCount_0f7a4 38 = .ok (.iushr, 1) := by decide +kernel
theorem dJ6_bitCount_0f7a4_39 : decode cJ6_bitCount_0f7a4 39 = .ok (.iadd, 1) := by decide +kernel
theorem dJ6_bitCount_0f7a4_40 : decode cJ6_bitCount_0f7a4 40 = .ok (.istore_n 0, 1) := by decide +kernel
theorem dJ6_bitCount_0f7a4_41 : decode cJ6_bitCount_0f7a4 41 = .ok (.iload_n 0, 1) := by decide +kernel
theorem dJ6_bitCount_0f7a4_42 : decode cJ6_bitCount_0f7a4 42 = .ok (.iload_n 0, 1) := by decide +kernel
theorem dJ6_bitCount_0f7a4_43 : decode cJ6_bitCount_0f7a4 43 = .ok (.bipush 16, 2) := by decide +kernel
theorem dJ6_bitCount_0f7a4_45 : decode cJ6_bitCount_0f7a4 45 = .ok (.iushr, 1) := by decide +kernel
theorem dJ6_bitCount_0f7a4_46 : decode cJ6_bitCount_0f7a4 46 = .ok (.iadd, 1) := by decide +kernel
theorem dJ6_bitCount_0f7a4_47 : decode cJ6_bitCount_0f7a4 47 = .ok (.istore_n 0, 1) := by decide +kernel
theorem dJ6_bitCount_0f7a4_48 : decode cJ6_bitCount_0f7a4 48 = .ok (.iload_n 0, 1) := by decide +kernel
theorem dJ6_bitCount_0f7a4_49 : decode cJ6_bitCount_0f7a4 49 = .ok (.bipush 63, 2) := by decide +kernel
theorem dJ6_bitCount_0f7a4_51 : decode cJ6_bitCount_0f7a4 51 = .ok (.iand, 1) := by decide +kernel
theorem dJ6_bitCount_0f7a4_52 : decode cJ6_bitCount_0f7a4 52 = .ok (.ireturn, 1) := by decide +kernel
theorem dJ9_max_7cf53_0 : decode cJ9_max_7cf53 0 = .ok (.iload_n 0, 1) := by decide +kernel
theorem dJ9_max_7cf53_1 : decode cJ9_max_7cf53 1 = .ok (.iload_n 1, 1) := by decide +kernel
theorem dJ9_max_7cf53_2 : decode cJ9_max_7cf53 2 = .ok (.if_icmp .lt 7, 3) := by decide +kernel
theorem dJ9_max_7cf53_5 : decode cJ9_max_7cf53 5 = .ok (.iload_n 0, 1) := by decide +kernel
theorem dJ9_max_7cf53_6 : decode cJ9_max_7cf53 6 = .ok (.goto 4, 3) := by decide +kernel
theorem dJ9_max_7cf53_9 : decode cJ9_max_7cf53 9 = .ok (.iload_n 1, 1) := by decide +kernel
theorem dJ9_max_7cf53_10 : decode cJ9_max_7cf53 10 = .ok (.ireturn, 1) := by decide +kernel
theorem dJ9_min_7cf53_0 : decode cJ9_min_7cf53 0 = .ok (.iload_n 0, 1) := by decide +kernel
theorem dJ9_min_7cf53_1 : decode cJ9_min_7cf53 1 = .ok (.iload_n 1, 1) := by decide +kernel
theorem dJ9_min_7cf53_2 : decode cJ9_min_7cf53 2 = .ok (.if_icmp .gt 7, 3) := by decide +kernel
theorem dJ9_min_7cf53_5 : decode cJ9_min_7cf53 5 = .ok (.iload_n 0, 1) := by decide +kernel
theorem dJ9_min_7cf53_6 : decode cJ9_min_7cf53 6 = .ok (.goto 4, 3) := by decide +kernel
theorem dJ9_min_7cf53_9 : decode cJ9_min_7cf53 9 = .ok (.iload_n 1, 1) := by decide +kernel
theorem dJ9_min_7cf53_10 : decode cJ9_min_7cf53 10 = .ok (.ireturn, 1) := by decide +kernel
theorem dJ7_rangeCheck_23922_0 : decode cJ7_rangeCheck_23922 0 = .ok (.iload_n 1, 1) := by decide +kernel
theorem dJ7_rangeCheck_23922_1 : decode cJ7_rangeCheck_23922 1 = .ok (.iload_n 2, 1) := by decide +kernel
theorem dJ7_rangeCheck_23922_2 : decode cJ7_rangeCheck_23922 2 = .ok (.if_icmp .le 44, 3) := by decide +kernel
theorem dJ7_rangeCheck_23922_5 : decode cJ7_rangeCheck_23922 5 = .ok (.new 43, 3) := by decide +kernel
theorem dJ7_rangeCheck_23922_8 : decode cJ7_rangeCheck_23922 8 = .ok (.dup, 1) := by decide +kernel
theorem dJ7_rangeCheck_23922_9 : decode cJ7_rangeCheck_23922 9 = .ok (.new 45, 3) := by decide +kernel
theorem dJ7_rangeCheck_23922_12 : decode cJ7_rangeCheck_23922 12 = .ok (.dup, 1) := by decide +kernel
theorem dJ7_rangeCheck_23922_13 : decode cJ7_rangeCheck_23922 13 = .ok (.invokespecial 47, 3) := by decide +kernel
theorem dJ7_rangeCheck_23922_16 : decode cJ7_rangeCheck_23922 16 = .ok (.ldc 48, 2) := by decide +kernel
theorem dJ7_rangeCheck_23922_18 : decode cJ7_rangeCheck_23922 18 = .ok (.invokevirtual 50, 3) := by decide +kernel
theorem dJ7_rangeCheck_23922_21 : decode cJ7_rangeCheck_23922 21 = .ok (.iload_n 1, 1) := by decide +kernel
theorem dJ7_rangeCheck_23922_22 : decode cJ7_rangeCheck_23922 22 = .ok (.invokevirtual 54, 3) := by decide +kernel
theorem dJ7_rangeCheck_23922_25 : decode cJ7_rangeCheck_23922 25 = .ok (.ldc 57, 2) := by decide +kernel
theorem dJ7_rangeCheck_23922_27 : decode cJ7_rangeCheck_23922 27 = .ok (.invokevirtual 50, 3) := by decide +kernel
theorem dJ7_rangeCheck_23922_30 : decode cJ7_rangeCheck_23922 30 = .ok (.iload_n 2, 1) := by decide +kernel
theorem dJ7_rangeCheck_23922_31 : decode cJ7_rangeCheck_23922 31 = .ok (.invokevirtual 54, 3) := by decide +kernel
theorem dJ7_rangeCheck_23922_34 : decode cJ7_rangeCheck_23922 34 = .ok (.ldc 59, 2) := by decide +kernel
theorem dJ7_rangeCheck_23922_36 : decode cJ7_rangeCheck_23922 36 = .ok (.invokevirtual 50, 3) := by decide +kernel
theorem dJ7_rangeCheck_23922_39 : decode cJ7_rangeCheck_23922 39 = .ok (.invokevirtual 61, 3) := by decide +kernel
theorem dJ7_rangeCheck_23922_42 : decode cJ7_rangeCheck_23922 42 = .ok (.invokespecial 65, 3) := by decide +kernel
theorem dJ7_rangeCheck_23922_45 : decode cJ7_rangeCheck_23922 45 = .ok (.athrow, 1) := by decide +kernel
theorem dJ7_rangeCheck_23922_46 : decode cJ7_rangeCheck_23922 46 = .ok (.iload_n 1, 1) := by decide +kernel
theorem dJ7_rangeCheck_23922_47 : decode cJ7_rangeCheck_23922 47 = .ok (.ifCond .ge 12, 3) := by decide +kernel
theorem dJ7_rangeCheck_23922_50 : decode cJ7_rangeCheck_23922 50 = .ok (.new 68, 3) := by decide +kernel
theorem dJ7_rangeCheck_23922_53 : decode cJ7_rangeCheck_23922 53 = .ok (.dup, 1) := by decide +kernel
theorem dJ7_rangeCheck_23922_54 : decode cJ7_rangeCheck_23922 54 = .ok (.iload_n 1, 1) := by decide +kernel
theorem dJ7_rangeCheck_23922_55 : decode cJ7_rangeCheck_23922 55 = .ok (.invokespecial 70, 3) := by decide +kernel
theorem dJ7_rangeCheck_23922_58 : decode cJ7_rangeCheck_23922 58 = .ok (.athrow, 1) := by decide +kernel
theorem dJ7_rangeCheck_23922_59 : decode cJ7_rangeCheck_23922 59 = .ok (.iload_n 2, 1) := by decide +kernel
theorem dJ7_rangeCheck_23922_60 : decode cJ7_rangeCheck_23922 60 = .ok (.iload_n 0, 1) := by decide +kernel
theorem dJ7_rangeCheck_23922_61 : decode cJ7_rangeCheck_23922 61 = .ok (.if_icmp .le 12, 3) := by decide +kernel
theorem dJ7_rangeCheck_23922_64 : decode cJ7_rangeCheck_23922 64 = .ok (.new 68, 3) := by decide +kernel
theorem dJ7_rangeCheck_23922_67 : decode cJ7_rangeCheck_23922 67 = .ok (.dup, 1) := by decide +kernel
theorem dJ7_rangeCheck_23922_68 : decode cJ7_rangeCheck_23922 68 = .ok (.iload_n 2, 1) := by decide +kernel
theorem dJ7_rangeCheck_23922_69 : decode cJ7_rangeCheck_23922 69 = .ok (.invokespecial 70, 3) := by decide +kernel
theorem dJ7_rangeCheck_23922_72 : decode cJ7_rangeCheck_23922 72 = .ok (.athrow, 1) := by decide +kernel
theorem dJ7_rangeCheck_23922_73 : decode cJ7_rangeCheck_23922 73 = .ok (.return_, 1) := by decide +kernel
theorem dJ7_fill_53178_0 : decode cJ7_fill_53178 0 = .ok (.iconst 0, 1) := by decide +kernel
theorem dJ7_fill_53178_1 : decode cJ7_fill_53178 1 = .ok (.istore_n 2, 1) := by decide +kernel
theorem dJ7_fill_53178_2 : decode cJ7_fill_53178 2 = .ok (.aload_n 0, 1) := by decide +kernel
theorem dJ7_fill_53178_3 : decode cJ7_fill_53178 3 = .ok (.arraylength, 1) := by decide +kernel
theorem dJ7_fill_53178_4 : decode cJ7_fill_53178 4 = .ok (.istore_n 3, 1) := by decide +kernel
theorem dJ7_fill_53178_5 : decode cJ7_fill_53178 5 = .ok (.iload_n 2, 1) := by decide +kernel
theorem dJ7_fill_53178_6 : decode cJ7_fill_53178 6 = .ok (.iload_n 3, 1) := by decide +kernel
theorem dJ7_fill_53178_7 : decode cJ7_fill_53178 7 = .ok (.if_icmp .ge 13, 3) := by decide +kernel
theorem dJ7_fill_53178_10 : decode cJ7_fill_53178 10 = .ok (.aload_n 0, 1) := by decide +kernel
theorem dJ7_fill_53178_11 : decode cJ7_fill_53178 11 = .ok (.iload_n 2, 1) := by decide +kernel
theorem dJ7_fill_53178_12 : decode cJ7_fill_53178 12 = .ok (.iload_n 1, 1) := by decide +kernel
theorem dJ7_fill_53178_13 : decode cJ7_fill_53178 13 = .ok (.iastore, 1) := by decide +kernel
theorem dJ7_fill_53178_14 : decode cJ7_fill_53178 14 = .ok (.iinc 2 1, 3) := by decide +kernel
theorem dJ7_fill_53178_17 : decode cJ7_fill_53178 17 = .ok (.goto (-12), 3) := by decide +kernel
theorem dJ7_fill_53178_20 : decode cJ7_fill_53178 20 = .ok (.return_, 1) := by decide +kernel
set_option maxRecDepth 20000 in
theorem ggJ7_fill_fda19_J7_rangeCheck_23922 : GoodIn wsJ7_fill_fda19 wsJ7_rangeCheck_23922 := goodIn_r _ [4] (by decide +kernel) (by decide +kernel)
set_option maxRecDepth 20000 in
theorem gJ7_fill_fda19_J7_rangeCheck_23922 : GoodIn wsJ7_fill_fda19 (va_wsS RJ7 13 yJ7_rangeCheck_23922 wsJ7_rangeCheck_23922) := goodIn_app (goodIn_of _ (by decide +kernel)) ggJ7_fill_fda19_J7_rangeCheck_23922
theorem dJ7_fill_fda19_0 : decode cJ7_fill_fda19 0 = .ok (.aload_n 0, 1) := by decide +kernel
theorem dJ7_fill_fda19_1 : decode cJ7_fill_fda19 1 = .ok (.arraylength, 1) := by decide +kernel
theorem dJ7_fill_fda19_2 : decode cJ7_fill_fda19 2 = .ok (.iload_n 1, 1) := by decide +kernel
theorem dJ7_fill_fda19_3 : decode cJ7_fill_fda19 3 = .ok (.iload_n 2, 1) := by decide +kernel
theorem dJ7_fill_fda19_4 : decode cJ7_fill_fda19 4 = .ok (.invokestatic 13, 3) := by decide +kernel
theorem dJ7_fill_fda19_7 : decode cJ7_fill_fda19 7 = .ok (.iload_n 1, 1) := by decide +kernel
theorem dJ7_fill_fda19_8 : decode cJ7_fill_fda19 8 = .ok (.istore 4, 2) := by decide +kernel
theorem dJ7_fill_fda19_10 : decode cJ7_fill_fda19 10 = .ok (.iload 4, 2) := by decide +kernel
theorem dJ7_fill_fda19_12 : decode cJ7_fill_fda19 12 = .ok (.iload_n 2, 1) := by decide +kernel
theorem dJ7_fill_fda19_13 : decode cJ7_fill_fda19 13 = .ok (.if_icmp .ge 14, 3) := by decide +kernel
theorem dJ7_fill_fda19_16 : decode cJ7_fill_fda19 16 = .ok (.aload_n 0, 1) := by decide +kernel
theorem dJ7_fill_fda19_17 : decode cJ7_fill_fda19 17 = .ok (.iload 4, 2) := by decide +kernel
theorem dJ7_fill_fda19_19 : decode cJ7_fill_fda19 19 = .ok (.iload_n 3, 1) := by decide +kernel
theorem dJ7_fill_fda19_20 : decode cJ7_fill_fda19 20 = .ok (.iastore, 1) := by decide +kernel
theorem dJ7_fill_fda19_21 : decode cJ7_fill_fda19 21 = .ok (.iinc 4 1, 3) := by decide +kernel
theorem dJ7_fill_fda19_24 : decode cJ7_fill_fda19 24 = .ok (.goto (-14), 3) := by decide +kernel
theorem dJ7_fill_fda19_27 : decode cJ7_fill_fda19 27 = .ok (.return_, 1) := by decide +kernel
