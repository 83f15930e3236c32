theorem dX0_init_0 : decode cX0_init 0 = .ok (.aload_n 0, 1) := by decide +kernel
theorem dX0_init_1 : decode cX0_init 1 = .ok (.invokespecial 3, 3) := by decide +kernel
theorem dX0_init_4 : decode cX0_init 4 = .ok (.aload_n 0, 1) := by decide +kernel
theorem dX0_init_5 : decode cX0_init 5 = .ok (.bipush 6, 2) := by decide +kernel
theorem dX0_init_7 : decode cX0_init 7 = .ok (.anewarray 9, 3) := by decide +kernel
theorem dX0_init_10 : decode cX0_init 10 = .ok (.putfield 11, 3) := by decide +kernel
theorem dX0_init_13 : decode cX0_init 13 = .ok (.return_, 1) := by decide +kernel
set_option maxRecDepth 20000 in
theorem ggX0_push_X3_init : GoodIn wsX0_push wsX3_init := goodIn_r _ [12, 13, 14, 15, 16, 17, 18, 19, 20, 21, 22, 23, 24, 25, 26, 27, 28, 29, 30, 9, 31, 32, 33, 34, 35, 36, 37, 38, 39, 40, 62, 63, 64, 65, 66, 67, 68, 69, 70, 71, 72] (by decide +kernel) (by decide +kernel)
set_option maxRecDepth 20000 in
theorem gX0_push_X3_init_n21 : GoodIn wsX0_push (wsX3_init) := ggX0_push_X3_init
set_option maxRecDepth 20000 in
theorem ggX0_push_X3_copyFrom : GoodIn wsX0_push wsX3_copyFrom := goodIn_r _ [44, 16, 17, 18, 19, 20, 21, 25, 45, 46, 47, 27, 48, 49, 8, 9, 10, 50, 51, 52, 53, 54, 55, 56, 24, 57, 40, 58, 62, 63, 64, 65, 66, 67, 68, 69, 70, 71, 72] (by decide +kernel) (by decide +kernel)
set_option maxRecDepth 20000 in
theorem gX0_push_X3_copyFrom : GoodIn wsX0_push (wsV RX0 22 RX3 yX3_copyFrom wsX3_copyFrom) := goodIn_app (goodIn_of _ (by decide +kernel)) ggX0_push_X3_copyFrom
theorem dX0_push_0 : decode cX0_push 0 = .ok (.aload_n 0, 1) := by decide +kernel
theorem dX0_push_1 : decode cX0_push 1 = .ok (.getfield 11, 3) := by decide +kernel
theorem dX0_push_4 : decode cX0_push 4 = .ok (.aload_n 0, 1) := by decide +kernel
theorem dX0_push_5 : decode cX0_push 5 = .ok (.getfield 17, 3) := by decide +kernel
theorem dX0_push_8 : decode cX0_push 8 = .ok (.aaload, 1) := by decide +kernel
theorem dX0_push_9 : decode cX0_push 9 = .ok (.ifnonnull 19, 3) := by decide +kernel
theorem dX0_push_12 : decode cX0_push 12 = .ok (.aload_n 0, 1) := by decide +kernel
theorem dX0_push_13 : decode cX0_push 13 = .ok (.getfield 11, 3) := by decide +kernel
theorem dX0_push_16 : decode cX0_push 16 = .ok (.aload_n 0, 1) := by decide +kernel
theorem dX0_push_17 : decode cX0_push 17 = .ok (.getfield 17, 3) := by decide +kernel
theorem dX0_push_20 : decode cX0_push 20 = .ok (.new 9, 3) := by decide +kernel
theorem dX0_push_23 : decode cX0_push 23 = .ok (.dup, 1) := by decide +kernel
theorem dX0_push_24 : decode cX0_push 24 = .ok (.invokespecial 21, 3) := by decide +kernel
theorem dX0_push_27 : decode cX0_push 27 = .ok (.aastore, 1) := by decide +kernel
theorem dX0_push_28 : decode cX0_push 28 = .ok (.aload_n 0, 1) := by decide +kernel
theorem dX0_push_29 : decode cX0_push 29 = .ok (.getfield 11, 3) := by decide +kernel
theorem dX0_push_32 : decode cX0_push 32 = .ok (.aload_n 0, 1) := by decide +kernel
theorem dX0_push_33 : decode cX0_push 33 = .ok (.getfield 17, 3) := by decide +kernel
theorem dX0_push_36 : decode cX0_push 36 = .ok (.aaload, 1) := by decide +kernel
theorem dX0_push_37 : decode cX0_push 37 = .ok (.aload_n 1, 1) := by decide +kernel
theorem dX0_push_38 : decode cX0_push 38 = .ok (.invokevirtual 22, 3) := by decide +kernel
theorem dX0_push_41 : decode cX0_push 41 = .ok (.aload_n 0, 1) := by decide +kernel
theorem dX0_push_42 : decode cX0_push 42 = .ok (.aload_n 0, 1) := by decide +kernel
theorem dX0_push_43 : decode cX0_push 43 = .ok (.getfield 17, 3) := by decide +kernel
theorem dX0_push_46 : decode cX0_push 46 = .ok (.iconst 1, 1) := by decide +kernel
theorem dX0_push_47 : decode cX0_push 47 = .ok (.iadd, 1) := by decide +kernel
theorem dX0_push_48 : decode cX0_push 48 = .ok (.bipush 6, 2) := by decide +kernel
theorem dX0_push_50 : decode cX0_push 50 = .ok (.irem, 1) := by decide +kernel
theorem dX0_push_51 : decode cX0_push 51 = .ok (.putfield 17, 3) := by decide +kernel
theorem dX0_push_54 : decode cX0_push 54 = .ok (.aload_n 0, 1) := by decide +kernel
theorem dX0_push_55 : decode cX0_push 55 = .ok (.aload_n 0, 1) := by decide +kernel
theorem dX0_push_56 : decode cX0_push 56 = .ok (.getfield 26, 3) := by decide +kernel
theorem dX0_push_59 : decode cX0_push 59 = .ok (.iconst 1, 1) := by decide +kernel
theorem dX0_push_60 : decode cX0_push 60 = .ok (.iadd, 1) := by decide +kernel
theorem dX0_push_61 : decode cX0_push 61 = .ok (.bipush 6, 2) := by decide +kernel
theorem dX0_push_63 : decode cX0_push 63 = .ok (.invokestatic 29, 3) := by decide +kernel
theorem dX0_push_66 : decode cX0_push 66 = .ok (.putfield 26, 3) := by decide +kernel
theorem dX0_push_69 : decode cX0_push 69 = .ok (.return_, 1) := by decide +kernel
set_option maxRecDepth 20000 in
theorem ggX0_popInto_X3_copyFrom : GoodIn wsX0_popInto wsX3_copyFrom := goodIn_r _ [8, 9, 10, 11, 12, 13, 14, 15, 16, 17, 18, 19, 20, 21, 22, 23, 24, 25, 26, 27, 28, 29, 30, 31, 32, 33, 34, 35, 39, 40, 41, 42, 43, 44, 45, 46, 47, 48, 49] (by decide +kernel) (by decide +kernel)
set_option maxRecDepth 20000 in
theorem gX0_popInto_X3_copyFrom : GoodIn wsX0_popInto (wsV RX0 22 RX3 yX3_copyFrom wsX3_copyFrom) := goodIn_app (goodIn_of _ (by decide +kernel)) ggX0_popInto_X3_copyFrom
theorem dX0_popInto_0 : decode cX0_popInto 0 = .ok (.aload_n 0, 1) := by decide +kernel
theorem dX0_popInto_1 : decode cX0_popInto 1 = .ok (.getfield 17, 3) := by decide +kernel
theorem dX0_popInto_4 : decode cX0_popInto 4 = .ok (.bipush 6, 2) := by decide +kernel
theorem dX0_popInto_6 : decode cX0_popInto 6 = .ok (.iadd, 1) := by decide +kernel
theorem dX0_popInto_7 : decode cX0_popInto 7 = .ok (.iconst 1, 1) := by decide +kernel
theorem dX0_popInto_8 : decode cX0_popInto 8 = .ok (.isub, 1) := by decide +kernel
theorem dX0_popInto_9 : decode cX0_popInto 9 = .ok (.bipush 6, 2) := by decide +kernel
theorem dX0_popInto_11 : decode cX0_popInto 11 = .ok (.irem, 1) := by decide +kernel
theorem dX0_popInto_12 : decode cX0_popInto 12 = .ok (.istore_n 2, 1) := by decide +kernel
theorem dX0_popInto_13 : decode cX0_popInto 13 = .ok (.aload_n 0, 1) := by decide +kernel
theorem dX0_popInto_14 : decode cX0_popInto 14 = .ok (.getfield 26, 3) := by decide +kernel
theorem dX0_popInto_17 : decode cX0_popInto 17 = .ok (.ifCond .eq 12, 3) := by decide +kernel
theorem dX0_popInto_20 : decode cX0_popInto 20 = .ok (.aload_n 0, 1) := by decide +kernel
theorem dX0_popInto_21 : decode cX0_popInto 21 = .ok (.getfield 11, 3) := by decide +kernel
theorem dX0_popInto_24 : decode cX0_popInto 24 = .ok (.iload_n 2, 1) := by decide +kernel
theorem dX0_popInto_25 : decode cX0_popInto 25 = .ok (.aaload, 1) := by decide +kernel
theorem dX0_popInto_26 : decode cX0_popInto 26 = .ok (.ifnonnull 5, 3) := by decide +kernel
theorem dX0_popInto_29 : decode cX0_popInto 29 = .ok (.iconst 0, 1) := by decide +kernel
theorem dX0_popInto_30 : decode cX0_popInto 30 = .ok (.ireturn, 1) := by decide +kernel
theorem dX0_popInto_31 : decode cX0_popInto 31 = .ok (.aload_n 1, 1) := by decide +kernel
theorem dX0_popInto_32 : decode cX0_popInto 32 = .ok (.aload_n 0, 1) := by decide +kernel
theorem dX0_popInto_33 : decode cX0_popInto 33 = .ok (.getfield 11, 3) := by decide +kernel
theorem dX0_popInto_36 : decode cX0_popInto 36 = .ok (.iload_n 2, 1) := by decide +kernel
theorem dX0_popInto_37 : decode cX0_popInto 37 = .ok (.aaload, 1) := by decide +kernel
theorem dX0_popInto_38 : decode cX0_popInto 38 = .ok (.invokevirtual 22, 3) := by decide +kernel
theorem dX0_popInto_41 : decode cX0_popInto 41 = .ok (.aload_n 0, 1) := by decide +kernel
theorem dX0_popInto_42 : decode cX0_popInto 42 = .ok (.iload_n 2, 1) := by decide +kernel
theorem dX0_popInto_43 : decode cX0_popInto 43 = .ok (.putfield 17, 3) := by decide +kernel
theorem dX0_popInto_46 : decode cX0_popInto 46 = .ok (.aload_n 0, 1) := by decide +kernel
theorem dX0_popInto_47 : decode cX0_popInto 47 = .ok (.dup, 1) := by decide +kernel
theorem dX0_popInto_48 : decode cX0_popInto 48 = .ok (.getfield 26, 3) := by decide +kernel
theorem dX0_popInto_51 : decode cX0_popInto 51 = .ok (.iconst 1, 1) := by decide +kernel
theorem dX0_popInto_52 : decode cX0_popInto 52 = .ok (.isub, 1) := by decide +kernel
theorem dX0_popInto_53 : decode cX0_popInto 53 = .ok (.putfield 26, 3) := by decide +kernel
theorem dX0_popInto_56 : decode cX0_popInto 56 = .ok (.iconst 1, 1) := by decide +kernel
theorem dX0_popInto_57 : decode cX0_popInto 57 = .ok (.ireturn, 1) := by decide +kernel
theorem dX0_forget_0 : decode cX0_forget 0 = .ok (.aload_n 0, 1) := by decide +kernel
theorem dX0_forget_1 : decode cX0_forget 1 = .ok (.iconst 0, 1) := by decide +kernel
theorem dX0_forget_2 : decode cX0_forget 2 = .ok (.putfield 26, 3) := by decide +kernel
theorem dX0_forget_5 : decode cX0_forget 5 = .ok (.return_, 1) := by decide +kernel
theorem dX1_init_0 : decode cX1_init 0 = .ok (.aload_n 0, 1) := by decide +kernel
theorem dX1_init_1 : decode cX1_init 1 = .ok (.invokespecial 3, 3) := by decide +kernel
theorem dX1_init_4 : decode cX1_init 4 = .ok (.aload_n 0, 1) := by decide +kernel
theorem dX1_init_5 : decode cX1_init 5 = .ok (.bipush 24, 2) := by decide +kernel
theorem dX1_init_7 : decode cX1_init 7 = .ok (.newarray .int, 2) := by decide +kernel
theorem dX1_init_9 : decode cX1_init 9 = .ok (.putfield 9, 3) := by decide +kernel
theorem dX1_init_12 : decode cX1_init 12 = .ok (.return_, 1) := by decide +kernel
set_option maxRecDepth 20000 in
theorem ggX1_run_J7_fill_53178 : GoodIn wsX1_run wsJ7_fill_53178 := goodIn_r _ [8] (by decide +kernel) (by decide +kernel)
set_option maxRecDepth 20000 in
theorem gX1_run_J7_fill_53178 : GoodIn wsX1_run (va_wsS RX1 15 yJ7_fill_53178 wsJ7_fill_53178) := goodIn_app (goodIn_of _ (by decide +kernel)) ggX1_run_J7_fill_53178
set_option maxRecDepth 20000 in
theorem ggX1_run_X1_markWithFields : GoodIn wsX1_run wsX1_markWithFields := goodIn_r _ [13, 2, 14, 15, 16, 12, 17, 3, 18, 19, 20, 21, 1, 4, 22, 23, 24, 25, 26, 27, 28, 29, 30, 31, 32, 33, 34, 35, 36, 37, 48, 49, 50, 51, 52, 53, 54, 55, 56, 57, 58, 59, 60] (by decide +kernel) (by decide +kernel)
set_option maxRecDepth 20000 in
theorem gX1_run_X1_markWithFields : GoodIn wsX1_run (wsV RX1 31 RX1 yX1_markWithFields wsX1_markWithFields) := goodIn_app (goodIn_of _ (by decide +kernel)) ggX1_run_X1_markWithFields
set_option maxRecDepth 20000 in
theorem ggX1_run_X3_valuesOfEntries : GoodIn wsX1_run wsX3_valuesOfEntries := goodIn_r _ [41, 22, 23, 24, 25, 26, 27, 42, 43, 44, 31, 45, 46, 47, 52, 53, 54, 55, 56, 57, 58, 59, 60] (by decide +kernel) (by decide +kernel)
set_option maxRecDepth 20000 in
theorem gX1_run_X3_valuesOfEntries : GoodIn wsX1_run (wsV RX1 35 RX3 yX3_valuesOfEntries wsX3_valuesOfEntries) := goodIn_app (goodIn_of _ (by decide +kernel)) ggX1_run_X3_valuesOfEntries
set_option maxRecDepth 20000 in
theorem ggX1_run_X1_markable : GoodIn wsX1_run wsX1_markable := goodIn_r _ [17, 2, 3, 48, 49, 50, 51] (by decide +kernel) (by decide +kernel)
set_option maxRecDepth 20000 in
theorem gX1_run_X1_markable : GoodIn wsX1_run (wsV RX1 41 RX1 yX1_markable wsX1_markable) := goodIn_app (goodIn_of _ (by decide +kernel)) ggX1_run_X1_markable
theorem dX1_run_0 : decode cX1_run 0 = .ok (.aload_n 0, 1) := by decide +kernel
theorem dX1_run_1 : decode cX1_run 1 = .ok (.getfield 9, 3) := by decide +kernel
theorem dX1_run_4 : decode cX1_run 4 = .ok (.bipush (-9), 2) := by decide +kernel
theorem dX1_run_6 : decode cX1_run 6 = .ok (.invokestatic 15, 3) := by decide +kernel
theorem dX1_run_9 : decode cX1_run 9 = .ok (.aload_n 0, 1) := by decide +kernel
theorem dX1_run_10 : decode cX1_run 10 = .ok (.iconst 0, 1) := by decide +kernel
theorem dX1_run_11 : decode cX1_run 11 = .ok (.putfield 21, 3) := by decide +kernel
theorem dX1_run_14 : decode cX1_run 14 = .ok (.aload_n 0, 1) := by decide +kernel
theorem dX1_run_15 : decode cX1_run 15 = .ok (.iload_n 3, 1) := by decide +kernel
theorem dX1_run_16 : decode cX1_run 16 = .ok (.putfield 25, 3) := by decide +kernel
theorem dX1_run_19 : decode cX1_run 19 = .ok (.aload_n 0, 1) := by decide +kernel
theorem dX1_run_20 : decode cX1_run 20 = .ok (.iconst 0, 1) := by decide +kernel
theorem dX1_run_21 : decode cX1_run 21 = .ok (.putfield 28, 3) := by decide +kernel
theorem dX1_run_24 : decode cX1_run 24 = .ok (.aload_n 0, 1) := by decide +kernel
theorem dX1_run_25 : decode cX1_run 25 = .ok (.aload_n 1, 1) := by decide +kernel
theorem dX1_run_26 : decode cX1_run 26 = .ok (.iload_n 2, 1) := by decide +kernel
theorem dX1_run_27 : decode cX1_run 27 = .ok (.invokevirtual 31, 3) := by decide +kernel
theorem dX1_run_30 : decode cX1_run 30 = .ok (.iconst 1, 1) := by decide +kernel
theorem dX1_run_31 : decode cX1_run 31 = .ok (.istore 4, 2) := by decide +kernel
theorem dX1_run_33 : decode cX1_run 33 = .ok (.iload 4, 2) := by decide +kernel
theorem dX1_run_35 : decode cX1_run 35 = .ok (.bipush 24, 2) := by decide +kernel
theorem dX1_run_37 : decode cX1_run 37 = .ok (.if_icmp .gt 46, 3) := by decide +kernel
theorem dX1_run_40 : decode cX1_run 40 = .ok (.aload_n 0, 1) := by decide +kernel
theorem dX1_run_41 : decode cX1_run 41 = .ok (.aload_n 1, 1) := by decide +kernel
theorem dX1_run_42 : decode cX1_run 42 = .ok (.aload_n 0, 1) := by decide +kernel
theorem dX1_run_43 : decode cX1_run 43 = .ok (.getfield 21, 3) := by decide +kernel
theorem dX1_run_46 : decode cX1_run 46 = .ok (.aload_n 0, 1) := by decide +kernel
theorem dX1_run_47 : decode cX1_run 47 = .ok (.getfield 21, 3) := by decide +kernel
theorem dX1_run_50 : decode cX1_run 50 = .ok (.invokevirtual 35, 3) := by decide +kernel
theorem dX1_run_53 : decode cX1_run 53 = .ok (.invokevirtual 41, 3) := by decide +kernel
theorem dX1_run_56 : decode cX1_run 56 = .ok (.istore 5, 2) := by decide +kernel
theorem dX1_run_58 : decode cX1_run 58 = .ok (.iload 5, 2) := by decide +kernel
theorem dX1_run_60 : decode cX1_run 60 = .ok (.ifCond .ne 4, 3) := by decide +kernel
theorem dX1_run_63 : decode cX1_run 63 = .ok (.return_, 1) := by decide +kernel
theorem dX1_run_64 : decode cX1_run 64 = .ok (.aload_n 0, 1) := by decide +kernel
theorem dX1_run_65 : decode cX1_run 65 = .ok (.iload 4, 2) := by decide +kernel
theorem dX1_run_67 : decode cX1_run 67 = .ok (.putfield 28, 3) := by decide +kernel
theorem dX1_run_70 : decode cX1_run 70 = .ok (.aload_n 0, 1) := by decide +kernel
theorem dX1_run_71 : decode cX1_run 71 = .ok (.aload_n 1, 1) := by decide +kernel
theorem dX1_run_72 : decode cX1_run 72 = .ok (.iload 5, 2) := by decide +kernel
theorem dX1_run_74 : decode cX1_run 74 = .ok (.invokevirtual 31, 3) := by decide +kernel
theorem dX1_run_77 : decode cX1_run 77 = .ok (.iinc 4 1, 3) := by decide +kernel
theorem dX1_run_80 : decode cX1_run 80 = .ok (.goto (-47), 3) := by decide +kernel
theorem dX1_run_83 : decode cX1_run 83 = .ok (.return_, 1) := by decide +kernel
theorem dX1_markable_0 : decode cX1_markable 0 = .ok (.iload_n 1, 1) := by decide +kernel
theorem dX1_markable_1 : decode cX1_markable 1 = .ok (.aload_n 0, 1) := by decide +kernel
theorem dX1_markable_2 : decode cX1_markable 2 = .ok (.getfield 21, 3) := by decide +kernel
theorem dX1_markable_5 : decode cX1_markable 5 = .ok (.iconst (-1), 1) := by decide +kernel
theorem dX1_markable_6 : decode cX1_markable 6 = .ok (.ixor, 1) := by decide +kernel
theorem dX1_markable_7 : decode cX1_markable 7 = .ok (.iand, 1) := by decide +kernel
theorem dX1_markable_8 : decode cX1_markable 8 = .ok (.aload_n 0, 1) := by decide +kernel
theorem dX1_markable_9 : decode cX1_markable 9 = .ok (.getfield 25, 3) := by decide +kernel
theorem dX1_markable_12 : decode cX1_markable 12 = .ok (.iconst (-1), 1) := by decide +kernel
theorem dX1_markable_13 : decode cX1_markable 13 = .ok (.ixor, 1) := by decide +kernel
theorem dX1_markable_14 : decode cX1_markable 14 = .ok (.iand, 1) := by decide +kernel
theorem dX1_markable_15 : decode cX1_markable 15 = .ok (.ireturn, 1) := by decide +kernel
set_option maxRecDepth 20000 in
theorem ggX1_markWithFields_X1_markable : GoodIn wsX1_markWithFields wsX1_markable := goodIn_r _ [6, 1, 7, 30, 31, 32, 33] (by decide +kernel) (by decide +kernel)
set_option maxRecDepth 20000 in
theorem gX1_markWithFields_X1_markable : GoodIn wsX1_markWithFields (wsV RX1 41 RX1 yX1_markable wsX1_markable) := goodIn_app (goodIn_of _ (by decide +kernel)) ggX1_markWithFields_X1_markable
set_option maxRecDepth 20000 in
theorem ggX1_markWithFields_X1_number : GoodIn wsX1_markWithFields wsX1_number := goodIn_r _ [11, 12, 13, 14, 15, 16, 17, 18, 19, 30, 31, 32, 33] (by decide +kernel) (by decide +kernel)
set_option maxRecDepth 20000 in
theorem gX1_markWithFields_X1_number : GoodIn wsX1_markWithFields (wsV RX1 45 RX1 yX1_number wsX1_number) := goodIn_app (goodIn_of _ (by decide +kernel)) ggX1_markWithFields_X1_number
set_option maxRecDepth 20000 in
theorem ggX1_markWithFields_X3_fieldTargets : GoodIn wsX1_markWithFields wsX3_fieldTargets := goodIn_r _ [24, 14, 15, 16, 17, 18, 19, 25, 26, 27, 23, 28, 29, 34, 35, 36, 37, 38, 39, 40, 41, 42] (by decide +kernel) (by decide +kernel)
set_option maxRecDepth 20000 in
theorem gX1_markWithFields_X3_fieldTargets : GoodIn wsX1_markWithFields (wsV RX1 49 RX3 yX3_fieldTargets wsX3_fieldTargets) := goodIn_app (goodIn_of _ (by decide +kernel)) ggX1_markWithFields_X3_fieldTargets
theorem dX1_markWithFields_0 : decode cX1_markWithFields 0 = .ok (.aload_n 0, 1) := by decide +kernel
theorem dX1_markWithFields_1 : decode cX1_markWithFields 1 = .ok (.iload_n 2, 1) := by decide +kernel
theorem dX1_markWithFields_2 : decode cX1_markWithFields 2 = .ok (.invokevirtual 41, 3) := by decide +kernel
theorem dX1_markWithFields_5 : decode cX1_markWithFields 5 = .ok (.istore_n 3, 1) := by decide +kernel
theorem dX1_markWithFields_6 : decode cX1_markWithFields 6 = .ok (.iconst 0, 1) := by decide +kernel
theorem dX1_markWithFields_7 : decode cX1_markWithFields 7 = .ok (.istore 4, 2) := by decide +kernel
theorem dX1_markWithFields_9 : decode cX1_markWithFields 9 = .ok (.iload 4, 2) := by decide +kernel
theorem dX1_markWithFields_11 : decode cX1_markWithFields 11 = .ok (.bipush 24, 2) := by decide +kernel
theorem dX1_markWithFields_13 : decode cX1_markWithFields 13 = .ok (.if_icmp .ge 38, 3) := by decide +kernel
theorem dX1_markWithFields_16 : decode cX1_markWithFields 16 = .ok (.iload_n 3, 1) := by decide +kernel
theorem dX1_markWithFields_17 : decode cX1_markWithFields 17 = .ok (.ifCond .eq 34, 3) := by decide +kernel
theorem dX1_markWithFields_20 : decode cX1_markWithFields 20 = .ok (.aload_n 0, 1) := by decide +kernel
theorem dX1_markWithFields_21 : decode cX1_markWithFields 21 = .ok (.iload_n 3, 1) := by decide +kernel
theorem dX1_markWithFields_22 : decode cX1_markWithFields 22 = .ok (.invokevirtual 45, 3) := by decide +kernel
theorem dX1_markWithFields_25 : decode cX1_markWithFields 25 = .ok (.aload_n 0, 1) := by decide +kernel
theorem dX1_markWithFields_26 : decode cX1_markWithFields 26 = .ok (.dup, 1) := by decide +kernel
theorem dX1_markWithFields_27 : decode cX1_markWithFields 27 = .ok (.getfield 21, 3) := by decide +kernel
theorem dX1_markWithFields_30 : decode cX1_markWithFields 30 = .ok (.iload_n 3, 1) := by decide +kernel
theorem dX1_markWithFields_31 : decode cX1_markWithFields 31 = .ok (.ior, 1) := by decide +kernel
theorem dX1_markWithFields_32 : decode cX1_markWithFields 32 = .ok (.putfield 21, 3) := by decide +kernel
theorem dX1_markWithFields_35 : decode cX1_markWithFields 35 = .ok (.aload_n 0, 1) := by decide +kernel
theorem dX1_markWithFields_36 : decode cX1_markWithFields 36 = .ok (.aload_n 1, 1) := by decide +kernel
theorem dX1_markWithFields_37 : decode cX1_markWithFields 37 = .ok (.iload_n 3, 1) := by decide +kernel
theorem dX1_markWithFields_38 : decode cX1_markWithFields 38 = .ok (.invokevirtual 49, 3) := by decide +kernel
theorem dX1_markWithFields_41 : decode cX1_markWithFields 41 = .ok (.invokevirtual 41, 3) := by decide +kernel
theorem dX1_markWithFields_44 : decode cX1_markWithFields 44 = .ok (.istore_n 3, 1) := by decide +kernel
theorem dX1_markWithFields_45 : decode cX1_markWithFields 45 = .ok (.iinc 4 1, 3) := by decide +kernel
theorem dX1_markWithFields_48 : decode cX1_markWithFields 48 = .ok (.goto (-39), 3) := by decide +kernel
theorem dX1_markWithFields_51 : decode cX1_markWithFields 51 = .ok (.return_, 1) := by decide +kernel
set_option maxRecDepth 20000 in
theorem ggX1_number_X4_contains : GoodIn wsX1_number wsX4_contains := goodIn_r _ [5, 6, 7, 4, 8] (by decide +kernel) (by decide +kernel)
set_option maxRecDepth 20000 in
theorem gX1_number_X4_contains_n52 : GoodIn wsX1_number (wsX4_contains) := ggX1_number_X4_contains
theorem dX1_number_0 : decode cX1_number 0 = .ok (.iconst 0, 1) := by decide +kernel
theorem dX1_number_1 : decode cX1_number 1 = .ok (.istore_n 2, 1) := by decide +kernel
theorem dX1_number_2 : decode cX1_number 2 = .ok (.iload_n 2, 1) := by decide +kernel
theorem dX1_number_3 : decode cX1_number 3 = .ok (.bipush 24, 2) := by decide +kernel
theorem dX1_number_5 : decode cX1_number 5 = .ok (.if_icmp .ge 27, 3) := by decide +kernel
theorem dX1_number_8 : decode cX1_number 8 = .ok (.iload_n 1, 1) := by decide +kernel
theorem dX1_number_9 : decode cX1_number 9 = .ok (.iload_n 2, 1) := by decide +kernel
theorem dX1_number_10 : decode cX1_number 10 = .ok (.invokestatic 52, 3) := by decide +kernel
theorem dX1_number_13 : decode cX1_number 13 = .ok (.ifCond .eq 13, 3) := by decide +kernel
theorem dX1_number_16 : decode cX1_number 16 = .ok (.aload_n 0, 1) := by decide +kernel
theorem dX1_number_17 : decode cX1_number 17 = .ok (.getfield 9, 3) := by decide +kernel
theorem dX1_number_20 : decode cX1_number 20 = .ok (.iload_n 2, 1) := by decide +kernel
theorem dX1_number_21 : decode cX1_number 21 = .ok (.aload_n 0, 1) := by decide +kernel
theorem dX1_number_22 : decode cX1_number 22 = .ok (.getfield 28, 3) := by decide +kernel
theorem dX1_number_25 : decode cX1_number 25 = .ok (.iastore, 1) := by decide +kernel
theorem dX1_number_26 : decode cX1_number 26 = .ok (.iinc 2 1, 3) := by decide +kernel
theorem dX1_number_29 : decode cX1_number 29 = .ok (.goto (-27), 3) := by decide +kernel
theorem dX1_number_32 : decode cX1_number 32 = .ok (.return_, 1) := by decide +kernel
theorem dX2_init_0 : decode cX2_init 0 = .ok (.aload_n 0, 1) := by decide +kernel
theorem dX2_init_1 : decode cX2_init 1 = .ok (.invokespecial 3, 3) := by decide +kernel
theorem dX2_init_4 : decode cX2_init 4 = .ok (.aload_n 0, 1) := by decide +kernel
theorem dX2_init_5 : decode cX2_init 5 = .ok (.bipush 20, 2) := by decide +kernel
theorem dX2_init_7 : decode cX2_init 7 = .ok (.newarray .int, 2) := by decide +kernel
theorem dX2_init_9 : decode cX2_init 9 = .ok (.putfield 9, 3) := by decide +kernel
theorem dX2_init_12 : decode cX2_init 12 = .ok (.return_, 1) := by decide +kernel
set_option maxRecDepth 20000 in
theorem ggX2_copyFrom_X4_copyRow : GoodIn wsX2_copyFrom wsX4_copyRow := goodIn_r _ [5, 6, 7, 8, 9, 10, 11, 12, 13] (by decide +kernel) (by decide +kernel)
set_option maxRecDepth 20000 in
theorem gX2_copyFrom_X4_copyRow_n15 : GoodIn wsX2_copyFrom (wsX4_copyRow) := ggX2_copyFrom_X4_copyRow
theorem dX2_copyFrom_0 : decode cX2_copyFrom 0 = .ok (.aload_n 1, 1) := by decide +kernel
theorem dX2_copyFrom_1 : decode cX2_copyFrom 1 = .ok (.getfield 9, 3) := by decide +kernel
theorem dX2_copyFrom_4 : decode cX2_copyFrom 4 = .ok (.aload_n 0, 1) := by decide +kernel
theorem dX2_copyFrom_5 : decode cX2_copyFrom 5 = .ok (.getfield 9, 3) := by decide +kernel
theorem dX2_copyFrom_8 : decode cX2_copyFrom 8 = .ok (.invokestatic 15, 3) := by decide +kernel
theorem dX2_copyFrom_11 : decode cX2_copyFrom 11 = .ok (.aload_n 0, 1) := by decide +kernel
theorem dX2_copyFrom_12 : decode cX2_copyFrom 12 = .ok (.aload_n 1, 1) := by decide +kernel
theorem dX2_copyFrom_13 : decode cX2_copyFrom 13 = .ok (.getfield 19, 3) := by decide +kernel
theorem dX2_copyFrom_16 : decode cX2_copyFrom 16 = .ok (.putfield 19, 3) := by decide +kernel
theorem dX2_copyFrom_19 : decode cX2_copyFrom 19 = .ok (.return_, 1) := by decide +kernel
set_option maxRecDepth 20000 in
theorem ggX2_issue_X2_removeOldest : GoodIn wsX2_issue wsX2_removeOldest := goodIn_r _ [7, 2, 8, 9, 10, 11, 1, 12, 13, 14, 15, 19, 20] (by decide +kernel) (by decide +kernel)
set_option maxRecDepth 20000 in
theorem gX2_issue_X2_removeOldest : GoodIn wsX2_issue (wsV RX2 23 RX2 yX2_removeOldest wsX2_removeOldest) := goodIn_app (goodIn_of _ (by decide +kernel)) ggX2_issue_X2_removeOldest
set_option maxRecDepth 20000 in
theorem ggX2_issue_X4_within : GoodIn wsX2_issue wsX4_within := goodIn_r _ [18] (by decide +kernel) (by decide +kernel)
set_option maxRecDepth 20000 in
theorem gX2_issue_X4_within_n27 : GoodIn wsX2_issue (wsX4_within) := ggX2_issue_X4_within
theorem dX2_issue_0 : decode cX2_issue 0 = .ok (.aload_n 0, 1) := by decide +kernel
theorem dX2_issue_1 : decode cX2_issue 1 = .ok (.getfield 19, 3) := by decide +kernel
theorem dX2_issue_4 : decode cX2_issue 4 = .ok (.bipush 20, 2) := by decide +kernel
theorem dX2_issue_6 : decode cX2_issue 6 = .ok (.if_icmp .lt 8, 3) := by decide +kernel
theorem dX2_issue_9 : decode cX2_issue 9 = .ok (.aload_n 0, 1) := by decide +kernel
theorem dX2_issue_10 : decode cX2_issue 10 = .ok (.invokevirtual 23, 3) := by decide +kernel
theorem dX2_issue_13 : decode cX2_issue 13 = .ok (.pop, 1) := by decide +kernel
theorem dX2_issue_14 : decode cX2_issue 14 = .ok (.aload_n 0, 1) := by decide +kernel
theorem dX2_issue_15 : decode cX2_issue 15 = .ok (.getfield 19, 3) := by decide +kernel
theorem dX2_issue_18 : decode cX2_issue 18 = .ok (.bipush 20, 2) := by decide +kernel
theorem dX2_issue_20 : decode cX2_issue 20 = .ok (.invokestatic 27, 3) := by decide +kernel
theorem dX2_issue_23 : decode cX2_issue 23 = .ok (.ifCond .eq 23, 3) := by decide +kernel
theorem dX2_issue_26 : decode cX2_issue 26 = .ok (.aload_n 0, 1) := by decide +kernel
theorem dX2_issue_27 : decode cX2_issue 27 = .ok (.getfield 9, 3) := by decide +kernel
theorem dX2_issue_30 : decode cX2_issue 30 = .ok (.aload_n 0, 1) := by decide +kernel
theorem dX2_issue_31 : decode cX2_issue 31 = .ok (.getfield 19, 3) := by decide +kernel
theorem dX2_issue_34 : decode cX2_issue 34 = .ok (.iload_n 1, 1) := by decide +kernel
theorem dX2_issue_35 : decode cX2_issue 35 = .ok (.iastore, 1) := by decide +kernel
theorem dX2_issue_36 : decode cX2_issue 36 = .ok (.aload_n 0, 1) := by decide +kernel
theorem dX2_issue_37 : decode cX2_issue 37 = .ok (.dup, 1) := by decide +kernel
theorem dX2_issue_38 : decode cX2_issue 38 = .ok (.getfield 19, 3) := by decide +kernel
theorem dX2_issue_41 : decode cX2_issue 41 = .ok (.iconst 1, 1) := by decide +kernel
theorem dX2_issue_42 : decode cX2_issue 42 = .ok (.iadd, 1) := by decide +kernel
theorem dX2_issue_43 : decode cX2_issue 43 = .ok (.putfield 19, 3) := by decide +kernel
theorem dX2_issue_46 : decode cX2_issue 46 = .ok (.return_, 1) := by decide +kernel
theorem dX2_removeOldest_0 : decode cX2_removeOldest 0 = .ok (.aload_n 0, 1) := by decide +kernel
theorem dX2_removeOldest_1 : decode cX2_removeOldest 1 = .ok (.getfield 9, 3) := by decide +kernel
theorem dX2_removeOldest_4 : decode cX2_removeOldest 4 = .ok (.iconst 0, 1) := by decide +kernel
theorem dX2_removeOldest_5 : decode cX2_removeOldest 5 = .ok (.iaload, 1) := by decide +kernel
theorem dX2_removeOldest_6 : decode cX2_removeOldest 6 = .ok (.istore_n 1, 1) := by decide +kernel
theorem dX2_removeOldest_7 : decode cX2_removeOldest 7 = .ok (.aload_n 0, 1) := by decide +kernel
theorem dX2_removeOldest_8 : decode cX2_removeOldest 8 = .ok (.getfield 9, 3) := by decide +kernel
theorem dX2_removeOldest_11 : decode cX2_removeOldest 11 = .ok (.iconst 1, 1) := by decide +kernel
theorem dX2_removeOldest_12 : decode cX2_removeOldest 12 = .ok (.aload_n 0, 1) := by decide +kernel
theorem dX2_removeOldest_13 : decode cX2_removeOldest 13 = .ok (.getfield 9, 3) := by decide +kernel
theorem dX2_removeOldest_16 : decode cX2_removeOldest 16 = .ok (.iconst 0, 1) := by decide +kernel
theorem dX2_removeOldest_17 : decode cX2_removeOldest 17 = .ok (.bipush 19, 2) := by decide +kernel
theorem dX2_removeOldest_19 : decode cX2_removeOldest 19 = .ok (.invokestatic 31, 3) := by decide +kernel
theorem dX2_removeOldest_22 : decode cX2_removeOldest 22 = .ok (.aload_n 0, 1) := by decide +kernel
theorem dX2_removeOldest_23 : decode cX2_removeOldest 23 = .ok (.aload_n 0, 1) := by decide +kernel
theorem dX2_removeOldest_24 : decode cX2_removeOldest 24 = .ok (.getfield 19, 3) := by decide +kernel
theorem dX2_removeOldest_27 : decode cX2_removeOldest 27 = .ok (.iconst 1, 1) := by decide +kernel
theorem dX2_removeOldest_28 : decode cX2_removeOldest 28 = .ok (.isub, 1) := by decide +kernel
theorem dX2_removeOldest_29 : decode cX2_removeOldest 29 = .ok (.iconst 0, 1) := by decide +kernel
theorem dX2_removeOldest_30 : decode cX2_removeOldest 30 = .ok (.invokestatic 37, 3) := by decide +kernel
theorem dX2_removeOldest_33 : decode cX2_removeOldest 33 = .ok (.putfield 19, 3) := by decide +kernel
theorem dX2_removeOldest_36 : decode cX2_removeOldest 36 = .ok (.iload_n 1, 1) := by decide +kernel
theorem dX2_removeOldest_37 : decode cX2_removeOldest 37 = .ok (.ireturn, 1) := by decide +kernel
set_option maxRecDepth 20000 in
theorem ggX3_init_X4_emptyRow : GoodIn wsX3_init wsX4_emptyRow := goodIn_r _ [16, 17, 18, 19, 20, 21, 22, 23, 24, 25] (by decide +kernel) (by decide +kernel)
set_option maxRecDepth 20000 in
theorem gX3_init_X4_emptyRow_n9 : GoodIn wsX3_init (wsX4_emptyRow) := ggX3_init_X4_emptyRow
set_option maxRecDepth 20000 in
theorem ggX3_init_X2_init : GoodIn wsX3_init wsX2_init := goodIn_r _ [27, 28, 2, 3, 21, 29, 39, 40] (by decide +kernel) (by decide +kernel)
set_option maxRecDepth 20000 in
theorem gX3_init_X2_init_n36 : GoodIn wsX3_init (wsX2_init) := ggX3_init_X2_init
theorem dX3_init_0 : decode cX3_init 0 = .ok (.aload_n 0, 1) := by decide +kernel
theorem dX3_init_1 : decode cX3_init 1 = .ok (.invokespecial 3, 3) := by decide +kernel
theorem dX3_init_4 : decode cX3_init 4 = .ok (.aload_n 0, 1) := by decide +kernel
theorem dX3_init_5 : decode cX3_init 5 = .ok (.bipush 24, 2) := by decide +kernel
theorem dX3_init_7 : decode cX3_init 7 = .ok (.invokestatic 9, 3) := by decide +kernel
theorem dX3_init_10 : decode cX3_init 10 = .ok (.putfield 13, 3) := by decide +kernel
theorem dX3_init_13 : decode cX3_init 13 = .ok (.aload_n 0, 1) := by decide +kernel
theorem dX3_init_14 : decode cX3_init 14 = .ok (.bipush 72, 2) := by decide +kernel
theorem dX3_init_16 : decode cX3_init 16 = .ok (.invokestatic 9, 3) := by decide +kernel
theorem dX3_init_19 : decode cX3_init 19 = .ok (.putfield 19, 3) := by decide +kernel
theorem dX3_init_22 : decode cX3_init 22 = .ok (.aload_n 0, 1) := by decide +kernel
theorem dX3_init_23 : decode cX3_init 23 = .ok (.sipush 144, 3) := by decide +kernel
theorem dX3_init_26 : decode cX3_init 26 = .ok (.invokestatic 9, 3) := by decide +kernel
theorem dX3_init_29 : decode cX3_init 29 = .ok (.putfield 22, 3) := by decide +kernel
theorem dX3_init_32 : decode cX3_init 32 = .ok (.aload_n 0, 1) := by decide +kernel
theorem dX3_init_33 : decode cX3_init 33 = .ok (.sipush 144, 3) := by decide +kernel
theorem dX3_init_36 : decode cX3_init 36 = .ok (.invokestatic 9, 3) := by decide +kernel
theorem dX3_init_39 : decode cX3_init 39 = .ok (.putfield 25, 3) := by decide +kernel
theorem dX3_init_42 : decode cX3_init 42 = .ok (.aload_n 0, 1) := by decide +kernel
theorem dX3_init_43 : decode cX3_init 43 = .ok (.bipush 24, 2) := by decide +kernel
theorem dX3_init_45 : decode cX3_init 45 = .ok (.invokestatic 9, 3) := by decide +kernel
theorem dX3_init_48 : decode cX3_init 48 = .ok (.putfield 28, 3) := by decide +kernel
theorem dX3_init_51 : decode cX3_init 51 = .ok (.aload_n 0, 1) := by decide +kernel
theorem dX3_init_52 : decode cX3_init 52 = .ok (.bipush 6, 2) := by decide +kernel
theorem dX3_init_54 : decode cX3_init 54 = .ok (.invokestatic 9, 3) := by decide +kernel
theorem dX3_init_57 : decode cX3_init 57 = .ok (.putfield 31, 3) := by decide +kernel
theorem dX3_init_60 : decode cX3_init 60 = .ok (.aload_n 0, 1) := by decide +kernel
theorem dX3_init_61 : decode cX3_init 61 = .ok (.new 34, 3) := by decide +kernel
theorem dX3_init_64 : decode cX3_init 64 = .ok (.dup, 1) := by decide +kernel
theorem dX3_init_65 : decode cX3_init 65 = .ok (.invokespecial 36, 3) := by decide +kernel
theorem dX3_init_68 : decode cX3_init 68 = .ok (.putfield 37, 3) := by decide +kernel
theorem dX3_init_71 : decode cX3_init 71 = .ok (.return_, 1) := by decide +kernel
set_option maxRecDepth 20000 in
theorem ggX3_copyFrom_X4_copyRow : GoodIn wsX3_copyFrom wsX4_copyRow := goodIn_r _ [12, 13, 14, 15, 16, 17, 18, 19, 20] (by decide +kernel) (by decide +kernel)
set_option maxRecDepth 20000 in
theorem gX3_copyFrom_X4_copyRow_n41 : GoodIn wsX3_copyFrom (wsX4_copyRow) := ggX3_copyFrom_X4_copyRow
set_option maxRecDepth 20000 in
theorem ggX3_copyFrom_X2_copyFrom : GoodIn wsX3_copyFrom wsX2_copyFrom := goodIn_r _ [25, 26, 27, 10, 11, 12, 13, 14, 15, 16, 17, 18, 19, 20, 37, 38] (by decide +kernel) (by decide +kernel)
set_option maxRecDepth 20000 in
theorem gX3_copyFrom_X2_copyFrom : GoodIn wsX3_copyFrom (wsV RX3 45 RX2 yX2_copyFrom wsX2_copyFrom) := goodIn_app (goodIn_of _ (by decide +kernel)) ggX3_copyFrom_X2_copyFrom
theorem dX3_copyFrom_0 : decode cX3_copyFrom 0 = .ok (.aload_n 1, 1) := by decide +kernel
theorem dX3_copyFrom_1 : decode cX3_copyFrom 1 = .ok (.getfield 13, 3) := by decide +kernel
theorem dX3_copyFrom_4 : decode cX3_copyFrom 4 = .ok (.aload_n 0, 1) := by decide +kernel
theorem dX3_copyFrom_5 : decode cX3_copyFrom 5 = .ok (.getfield 13, 3) := by decide +kernel
theorem dX3_copyFrom_8 : decode cX3_copyFrom 8 = .ok (.invokestatic 41, 3) := by decide +kernel
theorem dX3_copyFrom_11 : decode cX3_copyFrom 11 = .ok (.aload_n 1, 1) := by decide +kernel
theorem dX3_copyFrom_12 : decode cX3_copyFrom 12 = .ok (.getfield 19, 3) := by decide +kernel
theorem dX3_copyFrom_15 : decode cX3_copyFrom 15 = .ok (.aload_n 0, 1) := by decide +kernel
theorem dX3_copyFrom_16 : decode cX3_copyFrom 16 = .ok (.getfield 19, 3) := by decide +kernel
theorem dX3_copyFrom_19 : decode cX3_copyFrom 19 = .ok (.invokestatic 41, 3) := by decide +kernel
theorem dX3_copyFrom_22 : decode cX3_copyFrom 22 = .ok (.aload_n 1, 1) := by decide +kernel
theorem dX3_copyFrom_23 : decode cX3_copyFrom 23 = .ok (.getfield 22, 3) := by decide +kernel
theorem dX3_copyFrom_26 : decode cX3_copyFrom 26 = .ok (.aload_n 0, 1) := by decide +kernel
theorem dX3_copyFrom_27 : decode cX3_copyFrom 27 = .ok (.getfield 22, 3) := by decide +kernel
theorem dX3_copyFrom_30 : decode cX3_copyFrom 30 = .ok (.invokestatic 41, 3) := by decide +kernel
theorem dX3_copyFrom_33 : decode cX3_copyFrom 33 = .ok (.aload_n 1, 1) := by decide +kernel
theorem dX3_copyFrom_34 : decode cX3_copyFrom 34 = .ok (.getfield 25, 3) := by decide +kernel
theorem dX3_copyFrom_37 : decode cX3_copyFrom 37 = .ok (.aload_n 0, 1) := by decide +kernel
theorem dX3_copyFrom_38 : decode cX3_copyFrom 38 = .ok (.getfield 25, 3) := by decide +kernel
theorem dX3_copyFrom_41 : decode cX3_copyFrom 41 = .ok (.invokestatic 41, 3) := by decide +kernel
theorem dX3_copyFrom_44 : decode cX3_copyFrom 44 = .ok (.aload_n 1, 1) := by decide +kernel
theorem dX3_copyFrom_45 : decode cX3_copyFrom 45 = .ok (.getfield 28, 3) := by decide +kernel
theorem dX3_copyFrom_48 : decode cX3_copyFrom 48 = .ok (.aload_n 0, 1) := by decide +kernel
theorem dX3_copyFrom_49 : decode cX3_copyFrom 49 = .ok (.getfield 28, 3) := by decide +kernel
theorem dX3_copyFrom_52 : decode cX3_copyFrom 52 = .ok (.invokestatic 41, 3) := by decide +kernel
theorem dX3_copyFrom_55 : decode cX3_copyFrom 55 = .ok (.aload_n 1, 1) := by decide +kernel
theorem dX3_copyFrom_56 : decode cX3_copyFrom 56 = .ok (.getfield 31, 3) := by decide +kernel
theorem dX3_copyFrom_59 : decode cX3_copyFrom 59 = .ok (.aload_n 0, 1) := by decide +kernel
theorem dX3_copyFrom_60 : decode cX3_copyFrom 60 = .ok (.getfield 31, 3) := by decide +kernel
theorem dX3_copyFrom_63 : decode cX3_copyFrom 63 = .ok (.invokestatic 41, 3) := by decide +kernel
theorem dX3_copyFrom_66 : decode cX3_copyFrom 66 = .ok (.aload_n 0, 1) := by decide +kernel
theorem dX3_copyFrom_67 : decode cX3_copyFrom 67 = .ok (.getfield 37, 3) := by decide +kernel
theorem dX3_copyFrom_70 : decode cX3_copyFrom 70 = .ok (.aload_n 1, 1) := by decide +kernel
theorem dX3_copyFrom_71 : decode cX3_copyFrom 71 = .ok (.getfield 37, 3) := by decide +kernel
theorem dX3_copyFrom_74 : decode cX3_copyFrom 74 = .ok (.invokevirtual 45, 3) := by decide +kernel
theorem dX3_copyFrom_77 : decode cX3_copyFrom 77 = .ok (.aload_n 0, 1) := by decide +kernel
theorem dX3_copyFrom_78 : decode cX3_copyFrom 78 = .ok (.aload_n 1, 1) := by decide +kernel
theorem dX3_copyFrom_79 : decode cX3_copyFrom 79 = .ok (.getfield 49, 3) := by decide +kernel
theorem dX3_copyFrom_82 : decode cX3_copyFrom 82 = .ok (.putfield 49, 3) := by decide +kernel
theorem dX3_copyFrom_85 : decode cX3_copyFrom 85 = .ok (.aload_n 0, 1) := by decide +kernel
theorem dX3_copyFrom_86 : decode cX3_copyFrom 86 = .ok (.aload_n 1, 1) := by decide +kernel
theorem dX3_copyFrom_87 : decode cX3_copyFrom 87 = .ok (.getfield 53, 3) := by decide +kernel
theorem dX3_copyFrom_90 : decode cX3_copyFrom 90 = .ok (.putfield 53, 3) := by decide +kernel
theorem dX3_copyFrom_93 : decode cX3_copyFrom 93 = .ok (.return_, 1) := by decide +kernel
set_option maxRecDepth 20000 in
theorem ggX3_isAllocated_X4_within : GoodIn wsX3_isAllocated wsX4_within := goodIn_r _ [4] (by decide +kernel) (by decide +kernel)
set_option maxRecDepth 20000 in
theorem gX3_isAllocated_X4_within_n56 : GoodIn wsX3_isAllocated (wsX4_within) := ggX3_isAllocated_X4_within
theorem dX3_isAllocated_0 : decode cX3_isAllocated 0 = .ok (.iload_n 1, 1) := by decide +kernel
theorem dX3_isAllocated_1 : decode cX3_isAllocated 1 = .ok (.bipush 24, 2) := by decide +kernel
theorem dX3_isAllocated_3 : decode cX3_isAllocated 3 = .ok (.invokestatic 56, 3) := by decide +kernel
theorem dX3_isAllocated_6 : decode cX3_isAllocated 6 = .ok (.ifCond .eq 18, 3) := by decide +kernel
theorem dX3_isAllocated_9 : decode cX3_isAllocated 9 = .ok (.aload_n 0, 1) := by decide +kernel
theorem dX3_isAllocated_10 : decode cX3_isAllocated 10 = .ok (.getfield 13, 3) := by decide +kernel
theorem dX3_isAllocated_13 : decode cX3_isAllocated 13 = .ok (.iload_n 1, 1) := by decide +kernel
theorem dX3_isAllocated_14 : decode cX3_isAllocated 14 = .ok (.iaload, 1) := by decide +kernel
theorem dX3_isAllocated_15 : decode cX3_isAllocated 15 = .ok (.bipush (-9), 2) := by decide +kernel
theorem dX3_isAllocated_17 : decode cX3_isAllocated 17 = .ok (.if_icmp .eq 7, 3) := by decide +kernel
theorem dX3_isAllocated_20 : decode cX3_isAllocated 20 = .ok (.iconst 1, 1) := by decide +kernel
theorem dX3_isAllocated_21 : decode cX3_isAllocated 21 = .ok (.goto 4, 3) := by decide +kernel
theorem dX3_isAllocated_24 : decode cX3_isAllocated 24 = .ok (.iconst 0, 1) := by decide +kernel
theorem dX3_isAllocated_25 : decode cX3_isAllocated 25 = .ok (.ireturn, 1) := by decide +kernel
set_option maxRecDepth 20000 in
theorem ggX3_hasKind_X4_within : GoodIn wsX3_hasKind wsX4_within := goodIn_r _ [4] (by decide +kernel) (by decide +kernel)
set_option maxRecDepth 20000 in
theorem gX3_hasKind_X4_within_n56 : GoodIn wsX3_hasKind (wsX4_within) := ggX3_hasKind_X4_within
theorem dX3_hasKind_0 : decode cX3_hasKind 0 = .ok (.iload_n 1, 1) := by decide +kernel
theorem dX3_hasKind_1 : decode cX3_hasKind 1 = .ok (.bipush 24, 2) := by decide +kernel
theorem dX3_hasKind_3 : decode cX3_hasKind 3 = .ok (.invokestatic 56, 3) := by decide +kernel
theorem dX3_hasKind_6 : decode cX3_hasKind 6 = .ok (.ifCond .eq 17, 3) := by decide +kernel
theorem dX3_hasKind_9 : decode cX3_hasKind 9 = .ok (.aload_n 0, 1) := by decide +kernel
theorem dX3_hasKind_10 : decode cX3_hasKind 10 = .ok (.getfield 13, 3) := by decide +kernel
theorem dX3_hasKind_13 : decode cX3_hasKind 13 = .ok (.iload_n 1, 1) := by decide +kernel
theorem dX3_hasKind_14 : decode cX3_hasKind 14 = .ok (.iaload, 1) := by decide +kernel
theorem dX3_hasKind_15 : decode cX3_hasKind 15 = .ok (.iload_n 2, 1) := by decide +kernel
theorem dX3_hasKind_16 : decode cX3_hasKind 16 = .ok (.if_icmp .ne 7, 3) := by decide +kernel
theorem dX3_hasKind_19 : decode cX3_hasKind 19 = .ok (.iconst 1, 1) := by decide +kernel
theorem dX3_hasKind_20 : decode cX3_hasKind 20 = .ok (.goto 4, 3) := by decide +kernel
theorem dX3_hasKind_23 : decode cX3_hasKind 23 = .ok (.iconst 0, 1) := by decide +kernel
theorem dX3_hasKind_24 : decode cX3_hasKind 24 = .ok (.ireturn, 1) := by decide +kernel
set_option maxRecDepth 20000 in
theorem ggX3_isContent_X3_isAllocated : GoodIn wsX3_isContent wsX3_isAllocated := goodIn_r _ [5, 6, 7, 8, 9, 10, 11, 12, 13, 14, 15, 16, 17, 18] (by decide +kernel) (by decide +kernel)
set_option maxRecDepth 20000 in
theorem gX3_isContent_X3_isAllocated : GoodIn wsX3_isContent (wsV RX3 60 RX3 yX3_isAllocated wsX3_isAllocated) := goodIn_app (goodIn_of _ (by decide +kernel)) ggX3_isContent_X3_isAllocated
theorem dX3_isContent_0 : decode cX3_isContent 0 = .ok (.iload_n 1, 1) := by decide +kernel
theorem dX3_isContent_1 : decode cX3_isContent 1 = .ok (.bipush (-9), 2) := by decide +kernel
theorem dX3_isContent_3 : decode cX3_isContent 3 = .ok (.if_icmp .eq 11, 3) := by decide +kernel
theorem dX3_isContent_6 : decode cX3_isContent 6 = .ok (.aload_n 0, 1) := by decide +kernel
theorem dX3_isContent_7 : decode cX3_isContent 7 = .ok (.iload_n 1, 1) := by decide +kernel
theorem dX3_isContent_8 : decode cX3_isContent 8 = .ok (.invokevirtual 60, 3) := by decide +kernel
theorem dX3_isContent_11 : decode cX3_isContent 11 = .ok (.ifCond .eq 7, 3) := by decide +kernel
theorem dX3_isContent_14 : decode cX3_isContent 14 = .ok (.iconst 1, 1) := by decide +kernel
theorem dX3_isContent_15 : decode cX3_isContent 15 = .ok (.goto 4, 3) := by decide +kernel
theorem dX3_isContent_18 : decode cX3_isContent 18 = .ok (.iconst 0, 1) := by decide +kernel
theorem dX3_isContent_19 : decode cX3_isContent 19 = .ok (.ireturn, 1) := by decide +kernel
set_option maxRecDepth 20000 in
theorem ggX3_isTableAndKey_X3_hasKind : GoodIn wsX3_isTableAndKey wsX3_hasKind := goodIn_r _ [5, 6, 7, 8, 9, 14, 15, 16, 17, 18, 19, 20, 21, 22] (by decide +kernel) (by decide +kernel)
set_option maxRecDepth 20000 in
theorem gX3_isTableAndKey_X3_hasKind : GoodIn wsX3_isTableAndKey (wsV RX3 64 RX3 yX3_hasKind wsX3_hasKind) := goodIn_app (goodIn_of _ (by decide +kernel)) ggX3_isTableAndKey_X3_hasKind
set_option maxRecDepth 20000 in
theorem ggX3_isTableAndKey_X3_isAllocated : GoodIn wsX3_isTableAndKey wsX3_isAllocated := goodIn_r _ [13, 6, 7, 8, 9, 14, 15, 16, 17, 18, 19, 20, 21, 22] (by decide +kernel) (by decide +kernel)
set_option maxRecDepth 20000 in
theorem gX3_isTableAndKey_X3_isAllocated : GoodIn wsX3_isTableAndKey (wsV RX3 60 RX3 yX3_isAllocated wsX3_isAllocated) := goodIn_app (goodIn_of _ (by decide +kernel)) ggX3_isTableAndKey_X3_isAllocated
theorem dX3_isTableAndKey_0 : decode cX3_isTableAndKey 0 = .ok (.aload_n 0, 1) := by decide +kernel
theorem dX3_isTableAndKey_1 : decode cX3_isTableAndKey 1 = .ok (.iload_n 1, 1) := by decide +kernel
theorem dX3_isTableAndKey_2 : decode cX3_isTableAndKey 2 = .ok (.iconst 1, 1) := by decide +kernel
theorem dX3_isTableAndKey_3 : decode cX3_isTableAndKey 3 = .ok (.invokevirtual 64, 3) := by decide +kernel
theorem dX3_isTableAndKey_6 : decode cX3_isTableAndKey 6 = .ok (.ifCond .eq 15, 3) := by decide +kernel
theorem dX3_isTableAndKey_9 : decode cX3_isTableAndKey 9 = .ok (.aload_n 0, 1) := by decide +kernel
theorem dX3_isTableAndKey_10 : decode cX3_isTableAndKey 10 = .ok (.iload_n 2, 1) := by decide +kernel
theorem dX3_isTableAndKey_11 : decode cX3_isTableAndKey 11 = .ok (.invokevirtual 60, 3) := by decide +kernel
theorem dX3_isTableAndKey_14 : decode cX3_isTableAndKey 14 = .ok (.ifCond .eq 7, 3) := by decide +kernel
theorem dX3_isTableAndKey_17 : decode cX3_isTableAndKey 17 = .ok (.iconst 1, 1) := by decide +kernel
theorem dX3_isTableAndKey_18 : decode cX3_isTableAndKey 18 = .ok (.goto 4, 3) := by decide +kernel
theorem dX3_isTableAndKey_21 : decode cX3_isTableAndKey 21 = .ok (.iconst 0, 1) := by decide +kernel
theorem dX3_isTableAndKey_22 : decode cX3_isTableAndKey 22 = .ok (.ireturn, 1) := by decide +kernel
theorem dX3_smallestFree_0 : decode cX3_smallestFree 0 = .ok (.iconst 0, 1) := by decide +kernel
theorem dX3_smallestFree_1 : decode cX3_smallestFree 1 = .ok (.istore_n 1, 1) := by decide +kernel
theorem dX3_smallestFree_2 : decode cX3_smallestFree 2 = .ok (.iload_n 1, 1) := by decide +kernel
theorem dX3_smallestFree_3 : decode cX3_smallestFree 3 = .ok (.bipush 24, 2) := by decide +kernel
theorem dX3_smallestFree_5 : decode cX3_smallestFree 5 = .ok (.if_icmp .ge 22, 3) := by decide +kernel
theorem dX3_smallestFree_8 : decode cX3_smallestFree 8 = .ok (.aload_n 0, 1) := by decide +kernel
theorem dX3_smallestFree_9 : decode cX3_smallestFree 9 = .ok (.getfield 13, 3) := by decide +kernel
theorem dX3_smallestFree_12 : decode cX3_smallestFree 12 = .ok (.iload_n 1, 1) := by decide +kernel
theorem dX3_smallestFree_13 : decode cX3_smallestFree 13 = .ok (.iaload, 1) := by decide +kernel
theorem dX3_smallestFree_14 : decode cX3_smallestFree 14 = .ok (.bipush (-9), 2) := by decide +kernel
theorem dX3_smallestFree_16 : decode cX3_smallestFree 16 = .ok (.if_icmp .ne 5, 3) := by decide +kernel
theorem dX3_smallestFree_19 : decode cX3_smallestFree 19 = .ok (.iload_n 1, 1) := by decide +kernel
theorem dX3_smallestFree_20 : decode cX3_smallestFree 20 = .ok (.ireturn, 1) := by decide +kernel
theorem dX3_smallestFree_21 : decode cX3_smallestFree 21 = .ok (.iinc 1 1, 3) := by decide +kernel
theorem dX3_smallestFree_24 : decode cX3_smallestFree 24 = .ok (.goto (-22), 3) := by decide +kernel
theorem dX3_smallestFree_27 : decode cX3_smallestFree 27 = .ok (.bipush (-9), 2) := by decide +kernel
theorem dX3_smallestFree_29 : decode cX3_smallestFree 29 = .ok (.ireturn, 1) := by decide +kernel
set_option maxRecDepth 20000 in
theorem ggX3_occupy_X4_within : GoodIn wsX3_occupy wsX4_within := goodIn_r _ [5] (by decide +kernel) (by decide +kernel)
set_option maxRecDepth 20000 in
theorem gX3_occupy_X4_within_n56 : GoodIn wsX3_occupy (wsX4_within) := ggX3_occupy_X4_within
theorem dX3_occupy_0 : decode cX3_occupy 0 = .ok (.iload_n 1, 1) := by decide +kernel
theorem dX3_occupy_1 : decode cX3_occupy 1 = .ok (.bipush 24, 2) := by decide +kernel
theorem dX3_occupy_3 : decode cX3_occupy 3 = .ok (.invokestatic 56, 3) := by decide +kernel
theorem dX3_occupy_6 : decode cX3_occupy 6 = .ok (.ifCond .eq 17, 3) := by decide +kernel
theorem dX3_occupy_9 : decode cX3_occupy 9 = .ok (.aload_n 0, 1) := by decide +kernel
theorem dX3_occupy_10 : decode cX3_occupy 10 = .ok (.getfield 13, 3) := by decide +kernel
theorem dX3_occupy_13 : decode cX3_occupy 13 = .ok (.iload_n 1, 1) := by decide +kernel
theorem dX3_occupy_14 : decode cX3_occupy 14 = .ok (.iload_n 2, 1) := by decide +kernel
theorem dX3_occupy_15 : decode cX3_occupy 15 = .ok (.iastore, 1) := by decide +kernel
theorem dX3_occupy_16 : decode cX3_occupy 16 = .ok (.aload_n 0, 1) := by decide +kernel
theorem dX3_occupy_17 : decode cX3_occupy 17 = .ok (.getfield 28, 3) := by decide +kernel
theorem dX3_occupy_20 : decode cX3_occupy 20 = .ok (.iload_n 1, 1) := by decide +kernel
theorem dX3_occupy_21 : decode cX3_occupy 21 = .ok (.iload_n 3, 1) := by decide +kernel
theorem dX3_occupy_22 : decode cX3_occupy 22 = .ok (.iastore, 1) := by decide +kernel
theorem dX3_occupy_23 : decode cX3_occupy 23 = .ok (.return_, 1) := by decide +kernel
set_option maxRecDepth 20000 in
theorem ggX3_allocated_X4_setOf : GoodIn wsX3_allocated wsX4_setOf := goodIn_r _ [4] (by decide +kernel) (by decide +kernel)
set_option maxRecDepth 20000 in
theorem gX3_allocated_X4_setOf_n67 : GoodIn wsX3_allocated (wsX4_setOf) := ggX3_allocated_X4_setOf
theorem dX3_allocated_0 : decode cX3_allocated 0 = .ok (.iconst 0, 1) := by decide +kernel
theorem dX3_allocated_1 : decode cX3_allocated 1 = .ok (.istore_n 1, 1) := by decide +kernel
theorem dX3_allocated_2 : decode cX3_allocated 2 = .ok (.iconst 0, 1) := by decide +kernel
theorem dX3_allocated_3 : decode cX3_allocated 3 = .ok (.istore_n 2, 1) := by decide +kernel
theorem dX3_allocated_4 : decode cX3_allocated 4 = .ok (.iload_n 2, 1) := by decide +kernel
theorem dX3_allocated_5 : decode cX3_allocated 5 = .ok (.bipush 24, 2) := by decide +kernel
theorem dX3_allocated_7 : decode cX3_allocated 7 = .ok (.if_icmp .ge 27, 3) := by decide +kernel
theorem dX3_allocated_10 : decode cX3_allocated 10 = .ok (.aload_n 0, 1) := by decide +kernel
theorem dX3_allocated_11 : decode cX3_allocated 11 = .ok (.getfield 13, 3) := by decide +kernel
theorem dX3_allocated_14 : decode cX3_allocated 14 = .ok (.iload_n 2, 1) := by decide +kernel
theorem dX3_allocated_15 : decode cX3_allocated 15 = .ok (.iaload, 1) := by decide +kernel
theorem dX3_allocated_16 : decode cX3_allocated 16 = .ok (.bipush (-9), 2) := by decide +kernel
theorem dX3_allocated_18 : decode cX3_allocated 18 = .ok (.if_icmp .eq 10, 3) := by decide +kernel
theorem dX3_allocated_21 : decode cX3_allocated 21 = .ok (.iload_n 1, 1) := by decide +kernel
theorem dX3_allocated_22 : decode cX3_allocated 22 = .ok (.iload_n 2, 1) := by decide +kernel
theorem dX3_allocated_23 : decode cX3_allocated 23 = .ok (.invokestatic 67, 3) := by decide +kernel
theorem dX3_allocated_26 : decode cX3_allocated 26 = .ok (.ior, 1) := by decide +kernel
theorem dX3_allocated_27 : decode cX3_allocated 27 = .ok (.istore_n 1, 1) := by decide +kernel
theorem dX3_allocated_28 : decode cX3_allocated 28 = .ok (.iinc 2 1, 3) := by decide +kernel
theorem dX3_allocated_31 : decode cX3_allocated 31 = .ok (.goto (-27), 3) := by decide +kernel
theorem dX3_allocated_34 : decode cX3_allocated 34 = .ok (.iload_n 1, 1) := by decide +kernel
theorem dX3_allocated_35 : decode cX3_allocated 35 = .ok (.ireturn, 1) := by decide +kernel
set_option maxRecDepth 20000 in
theorem ggX3_rootObjects_X4_setOf : GoodIn wsX3_rootObjects wsX4_setOf := goodIn_r _ [4] (by decide +kernel) (by decide +kernel)
set_option maxRecDepth 20000 in
theorem gX3_rootObjects_X4_setOf_n67 : GoodIn wsX3_rootObjects (wsX4_setOf) := ggX3_rootObjects_X4_setOf
theorem dX3_rootObjects_0 : decode cX3_rootObjects 0 = .ok (.iconst 0, 1) := by decide +kernel
theorem dX3_rootObjects_1 : decode cX3_rootObjects 1 = .ok (.istore_n 1, 1) := by decide +kernel
theorem dX3_rootObjects_2 : decode cX3_rootObjects 2 = .ok (.iconst 0, 1) := by decide +kernel
theorem dX3_rootObjects_3 : decode cX3_rootObjects 3 = .ok (.istore_n 2, 1) := by decide +kernel
theorem dX3_rootObjects_4 : decode cX3_rootObjects 4 = .ok (.iload_n 2, 1) := by decide +kernel
theorem dX3_rootObjects_5 : decode cX3_rootObjects 5 = .ok (.bipush 6, 2) := by decide +kernel
theorem dX3_rootObjects_7 : decode cX3_rootObjects 7 = .ok (.if_icmp .ge 21, 3) := by decide +kernel
theorem dX3_rootObjects_10 : decode cX3_rootObjects 10 = .ok (.iload_n 1, 1) := by decide +kernel
theorem dX3_rootObjects_11 : decode cX3_rootObjects 11 = .ok (.aload_n 0, 1) := by decide +kernel
theorem dX3_rootObjects_12 : decode cX3_rootObjects 12 = .ok (.getfield 31, 3) := by decide +kernel
theorem dX3_rootObjects_15 : decode cX3_rootObjects 15 = .ok (.iload_n 2, 1) := by decide +kernel
theorem dX3_rootObjects_16 : decode cX3_rootObjects 16 = .ok (.iaload, 1) := by decide +kernel
theorem dX3_rootObjects_17 : decode cX3_rootObjects 17 = .ok (.invokestatic 67, 3) := by decide +kernel
theorem dX3_rootObjects_20 : decode cX3_rootObjects 20 = .ok (.ior, 1) := by decide +kernel
theorem dX3_rootObjects_21 : decode cX3_rootObjects 21 = .ok (.istore_n 1, 1) := by decide +kernel
theorem dX3_rootObjects_22 : decode cX3_rootObjects 22 = .ok (.iinc 2 1, 3) := by decide +kernel
theorem dX3_rootObjects_25 : decode cX3_rootObjects 25 = .ok (.goto (-21), 3) := by decide +kernel
theorem dX3_rootObjects_28 : decode cX3_rootObjects 28 = .ok (.iload_n 1, 1) := by decide +kernel
theorem dX3_rootObjects_29 : decode cX3_rootObjects 29 = .ok (.ireturn, 1) := by decide +kernel
set_option maxRecDepth 20000 in
theorem ggX3_fieldTargets_X4_contains : GoodIn wsX3_fieldTargets wsX4_contains := goodIn_r _ [3, 4, 5, 2, 6] (by decide +kernel) (by decide +kernel)
set_option maxRecDepth 20000 in
theorem gX3_fieldTargets_X4_contains_n71 : GoodIn wsX3_fieldTargets (wsX4_contains) := ggX3_fieldTargets_X4_contains
set_option maxRecDepth 20000 in
theorem ggX3_fieldTargets_X3_fieldTargetsOf : GoodIn wsX3_fieldTargets wsX3_fieldTargetsOf := goodIn_r _ [11, 12, 5, 2, 6, 13, 14, 15, 16, 17, 18, 19, 20, 21] (by decide +kernel) (by decide +kernel)
set_option maxRecDepth 20000 in
theorem gX3_fieldTargets_X3_fieldTargetsOf : GoodIn wsX3_fieldTargets (wsV RX3 74 RX3 yX3_fieldTargetsOf wsX3_fieldTargetsOf) := goodIn_app (goodIn_of _ (by decide +kernel)) ggX3_fieldTargets_X3_fieldTargetsOf
theorem dX3_fieldTargets_0 : decode cX3_fieldTargets 0 = .ok (.iconst 0, 1) := by decide +kernel
theorem dX3_fieldTargets_1 : decode cX3_fieldTargets 1 = .ok (.istore_n 2, 1) := by decide +kernel
theorem dX3_fieldTargets_2 : decode cX3_fieldTargets 2 = .ok (.iconst 0, 1) := by decide +kernel
theorem dX3_fieldTargets_3 : decode cX3_fieldTargets 3 = .ok (.istore_n 3, 1) := by decide +kernel
theorem dX3_fieldTargets_4 : decode cX3_fieldTargets 4 = .ok (.iload_n 3, 1) := by decide +kernel
theorem dX3_fieldTargets_5 : decode cX3_fieldTargets 5 = .ok (.bipush 24, 2) := by decide +kernel
theorem dX3_fieldTargets_7 : decode cX3_fieldTargets 7 = .ok (.if_icmp .ge 25, 3) := by decide +kernel
theorem dX3_fieldTargets_10 : decode cX3_fieldTargets 10 = .ok (.iload_n 1, 1) := by decide +kernel
theorem dX3_fieldTargets_11 : decode cX3_fieldTargets 11 = .ok (.iload_n 3, 1) := by decide +kernel
theorem dX3_fieldTargets_12 : decode cX3_fieldTargets 12 = .ok (.invokestatic 71, 3) := by decide +kernel
theorem dX3_fieldTargets_15 : decode cX3_fieldTargets 15 = .ok (.ifCond .eq 11, 3) := by decide +kernel
theorem dX3_fieldTargets_18 : decode cX3_fieldTargets 18 = .ok (.iload_n 2, 1) := by decide +kernel
theorem dX3_fieldTargets_19 : decode cX3_fieldTargets 19 = .ok (.aload_n 0, 1) := by decide +kernel
theorem dX3_fieldTargets_20 : decode cX3_fieldTargets 20 = .ok (.iload_n 3, 1) := by decide +kernel
theorem dX3_fieldTargets_21 : decode cX3_fieldTargets 21 = .ok (.invokevirtual 74, 3) := by decide +kernel
theorem dX3_fieldTargets_24 : decode cX3_fieldTargets 24 = .ok (.ior, 1) := by decide +kernel
theorem dX3_fieldTargets_25 : decode cX3_fieldTargets 25 = .ok (.istore_n 2, 1) := by decide +kernel
theorem dX3_fieldTargets_26 : decode cX3_fieldTargets 26 = .ok (.iinc 3 1, 3) := by decide +kernel
theorem dX3_fieldTargets_29 : decode cX3_fieldTargets 29 = .ok (.goto (-25), 3) := by decide +kernel
theorem dX3_fieldTargets_32 : decode cX3_fieldTargets 32 = .ok (.iload_n 2, 1) := by decide +kernel
theorem dX3_fieldTargets_33 : decode cX3_fieldTargets 33 = .ok (.ireturn, 1) := by decide +kernel
set_option maxRecDepth 20000 in
theorem ggX3_fieldTargetsOf_X4_setOf : GoodIn wsX3_fieldTargetsOf wsX4_setOf := goodIn_r _ [4] (by decide +kernel) (by decide +kernel)
set_option maxRecDepth 20000 in
theorem gX3_fieldTargetsOf_X4_setOf_n67 : GoodIn wsX3_fieldTargetsOf (wsX4_setOf) := ggX3_fieldTargetsOf_X4_setOf
theorem dX3_fieldTargetsOf_0 : decode cX3_fieldTargetsOf 0 = .ok (.iconst 0, 1) := by decide +kernel
theorem dX3_fieldTargetsOf_1 : decode cX3_fieldTargetsOf 1 = .ok (.istore_n 2, 1) := by decide +kernel
theorem dX3_fieldTargetsOf_2 : decode cX3_fieldTargetsOf 2 = .ok (.iload_n 1, 1) := by decide +kernel
theorem dX3_fieldTargetsOf_3 : decode cX3_fieldTargetsOf 3 = .ok (.iconst 3, 1) := by decide +kernel
theorem dX3_fieldTargetsOf_4 : decode cX3_fieldTargetsOf 4 = .ok (.imul, 1) := by decide +kernel
theorem dX3_fieldTargetsOf_5 : decode cX3_fieldTargetsOf 5 = .ok (.istore_n 3, 1) := by decide +kernel
theorem dX3_fieldTargetsOf_6 : decode cX3_fieldTargetsOf 6 = .ok (.iload_n 3, 1) := by decide +kernel
theorem dX3_fieldTargetsOf_7 : decode cX3_fieldTargetsOf 7 = .ok (.iload_n 1, 1) := by decide +kernel
theorem dX3_fieldTargetsOf_8 : decode cX3_fieldTargetsOf 8 = .ok (.iconst 1, 1) := by decide +kernel
theorem dX3_fieldTargetsOf_9 : decode cX3_fieldTargetsOf 9 = .ok (.iadd, 1) := by decide +kernel
theorem dX3_fieldTargetsOf_10 : decode cX3_fieldTargetsOf 10 = .ok (.iconst 3, 1) := by decide +kernel
theorem dX3_fieldTargetsOf_11 : decode cX3_fieldTargetsOf 11 = .ok (.imul, 1) := by decide +kernel
theorem dX3_fieldTargetsOf_12 : decode cX3_fieldTargetsOf 12 = .ok (.if_icmp .ge 21, 3) := by decide +kernel
theorem dX3_fieldTargetsOf_15 : decode cX3_fieldTargetsOf 15 = .ok (.iload_n 2, 1) := by decide +kernel
theorem dX3_fieldTargetsOf_16 : decode cX3_fieldTargetsOf 16 = .ok (.aload_n 0, 1) := by decide +kernel
theorem dX3_fieldTargetsOf_17 : decode cX3_fieldTargetsOf 17 = .ok (.getfield 19, 3) := by decide +kernel
theorem dX3_fieldTargetsOf_20 : decode cX3_fieldTargetsOf 20 = .ok (.iload_n 3, 1) := by decide +kernel
theorem dX3_fieldTargetsOf_21 : decode cX3_fieldTargetsOf 21 = .ok (.iaload, 1) := by decide +kernel
theorem dX3_fieldTargetsOf_22 : decode cX3_fieldTargetsOf 22 = .ok (.invokestatic 67, 3) := by decide +kernel
theorem dX3_fieldTargetsOf_25 : decode cX3_fieldTargetsOf 25 = .ok (.ior, 1) := by decide +kernel
theorem dX3_fieldTargetsOf_26 : decode cX3_fieldTargetsOf 26 = .ok (.istore_n 2, 1) := by decide +kernel
theorem dX3_fieldTargetsOf_27 : decode cX3_fieldTargetsOf 27 = .ok (.iinc 3 1, 3) := by decide +kernel
theorem dX3_fieldTargetsOf_30 : decode cX3_fieldTargetsOf 30 = .ok (.goto (-24), 3) := by decide +kernel
theorem dX3_fieldTargetsOf_33 : decode cX3_fieldTargetsOf 33 = .ok (.iload_n 2, 1) := by decide +kernel
theorem dX3_fieldTargetsOf_34 : decode cX3_fieldTargetsOf 34 = .ok (.ireturn, 1) := by decide +kernel
set_option maxRecDepth 20000 in
theorem ggX3_valuesOfEntries_X4_contains : GoodIn wsX3_valuesOfEntries wsX4_contains := goodIn_r _ [3, 4, 5, 2, 6] (by decide +kernel) (by decide +kernel)
set_option maxRecDepth 20000 in
theorem gX3_valuesOfEntries_X4_contains_n71 : GoodIn wsX3_valuesOfEntries (wsX4_contains) := ggX3_valuesOfEntries_X4_contains
set_option maxRecDepth 20000 in
theorem ggX3_valuesOfEntries_X3_valuesOfEntriesOf : GoodIn wsX3_valuesOfEntries wsX3_valuesOfEntriesOf := goodIn_r _ [11, 12, 13, 1, 2, 3, 4, 5, 6, 14, 15, 16, 17, 18, 19, 20, 21, 22] (by decide +kernel) (by decide +kernel)
set_option maxRecDepth 20000 in
theorem gX3_valuesOfEntries_X3_valuesOfEntriesOf : GoodIn wsX3_valuesOfEntries (wsV RX3 77 RX3 yX3_valuesOfEntriesOf wsX3_valuesOfEntriesOf) := goodIn_app (goodIn_of _ (by decide +kernel)) ggX3_valuesOfEntries_X3_valuesOfEntriesOf
theorem dX3_valuesOfEntries_0 : decode cX3_valuesOfEntries 0 = .ok (.iconst 0, 1) := by decide +kernel
theorem dX3_valuesOfEntries_1 : decode cX3_valuesOfEntries 1 = .ok (.istore_n 3, 1) := by decide +kernel
theorem dX3_valuesOfEntries_2 : decode cX3_valuesOfEntries 2 = .ok (.iconst 0, 1) := by decide +kernel
theorem dX3_valuesOfEntries_3 : decode cX3_valuesOfEntries 3 = .ok (.istore 4, 2) := by decide +kernel
theorem dX3_valuesOfEntries_5 : decode cX3_valuesOfEntries 5 = .ok (.iload 4, 2) := by decide +kernel
theorem dX3_valuesOfEntries_7 : decode cX3_valuesOfEntries 7 = .ok (.bipush 24, 2) := by decide +kernel
theorem dX3_valuesOfEntries_9 : decode cX3_valuesOfEntries 9 = .ok (.if_icmp .ge 28, 3) := by decide +kernel
theorem dX3_valuesOfEntries_12 : decode cX3_valuesOfEntries 12 = .ok (.iload_n 1, 1) := by decide +kernel
theorem dX3_valuesOfEntries_13 : decode cX3_valuesOfEntries 13 = .ok (.iload 4, 2) := by decide +kernel
theorem dX3_valuesOfEntries_15 : decode cX3_valuesOfEntries 15 = .ok (.invokestatic 71, 3) := by decide +kernel
theorem dX3_valuesOfEntries_18 : decode cX3_valuesOfEntries 18 = .ok (.ifCond .eq 13, 3) := by decide +kernel
theorem dX3_valuesOfEntries_21 : decode cX3_valuesOfEntries 21 = .ok (.iload_n 3, 1) := by decide +kernel
theorem dX3_valuesOfEntries_22 : decode cX3_valuesOfEntries 22 = .ok (.aload_n 0, 1) := by decide +kernel
theorem dX3_valuesOfEntries_23 : decode cX3_valuesOfEntries 23 = .ok (.iload 4, 2) := by decide +kernel
theorem dX3_valuesOfEntries_25 : decode cX3_valuesOfEntries 25 = .ok (.iload_n 2, 1) := by decide +kernel
theorem dX3_valuesOfEntries_26 : decode cX3_valuesOfEntries 26 = .ok (.invokevirtual 77, 3) := by decide +kernel
theorem dX3_valuesOfEntries_29 : decode cX3_valuesOfEntries 29 = .ok (.ior, 1) := by decide +kernel
theorem dX3_valuesOfEntries_30 : decode cX3_valuesOfEntries 30 = .ok (.istore_n 3, 1) := by decide +kernel
theorem dX3_valuesOfEntries_31 : decode cX3_valuesOfEntries 31 = .ok (.iinc 4 1, 3) := by decide +kernel
theorem dX3_valuesOfEntries_34 : decode cX3_valuesOfEntries 34 = .ok (.goto (-29), 3) := by decide +kernel
theorem dX3_valuesOfEntries_37 : decode cX3_valuesOfEntries 37 = .ok (.iload_n 3, 1) := by decide +kernel
theorem dX3_valuesOfEntries_38 : decode cX3_valuesOfEntries 38 = .ok (.ireturn, 1) := by decide +kernel
set_option maxRecDepth 20000 in
theorem ggX3_valuesOfEntriesOf_X4_contains : GoodIn wsX3_valuesOfEntriesOf wsX4_contains := goodIn_r _ [5, 6, 7, 4, 8] (by decide +kernel) (by decide +kernel)
set_option maxRecDepth 20000 in
theorem gX3_valuesOfEntriesOf_X4_contains_n71 : GoodIn wsX3_valuesOfEntriesOf (wsX4_contains) := ggX3_valuesOfEntriesOf_X4_contains
set_option maxRecDepth 20000 in
theorem ggX3_valuesOfEntriesOf_X4_setOf : GoodIn wsX3_valuesOfEntriesOf wsX4_setOf := goodIn_r _ [8] (by decide +kernel) (by decide +kernel)
set_option maxRecDepth 20000 in
theorem gX3_valuesOfEntriesOf_X4_setOf_n67 : GoodIn wsX3_valuesOfEntriesOf (wsX4_setOf) := ggX3_valuesOfEntriesOf_X4_setOf
theorem dX3_valuesOfEntriesOf_0 : decode cX3_valuesOfEntriesOf 0 = .ok (.iconst 0, 1) := by decide +kernel
theorem dX3_valuesOfEntriesOf_1 : decode cX3_valuesOfEntriesOf 1 = .ok (.istore_n 3, 1) := by decide +kernel
theorem dX3_valuesOfEntriesOf_2 : decode cX3_valuesOfEntriesOf 2 = .ok (.iload_n 1, 1) := by decide +kernel
theorem dX3_valuesOfEntriesOf_3 : decode cX3_valuesOfEntriesOf 3 = .ok (.bipush 6, 2) := by decide +kernel
theorem dX3_valuesOfEntriesOf_5 : decode cX3_valuesOfEntriesOf 5 = .ok (.imul, 1) := by decide +kernel
theorem dX3_valuesOfEntriesOf_6 : decode cX3_valuesOfEntriesOf 6 = .ok (.istore 4, 2) := by decide +kernel
theorem dX3_valuesOfEntriesOf_8 : decode cX3_valuesOfEntriesOf 8 = .ok (.iload 4, 2) := by decide +kernel
theorem dX3_valuesOfEntriesOf_10 : decode cX3_valuesOfEntriesOf 10 = .ok (.iload_n 1, 1) := by decide +kernel
theorem dX3_valuesOfEntriesOf_11 : decode cX3_valuesOfEntriesOf 11 = .ok (.iconst 1, 1) := by decide +kernel
theorem dX3_valuesOfEntriesOf_12 : decode cX3_valuesOfEntriesOf 12 = .ok (.iadd, 1) := by decide +kernel
theorem dX3_valuesOfEntriesOf_13 : decode cX3_valuesOfEntriesOf 13 = .ok (.bipush 6, 2) := by decide +kernel
theorem dX3_valuesOfEntriesOf_15 : decode cX3_valuesOfEntriesOf 15 = .ok (.imul, 1) := by decide +kernel
theorem dX3_valuesOfEntriesOf_16 : decode cX3_valuesOfEntriesOf 16 = .ok (.if_icmp .ge 36, 3) := by decide +kernel
theorem dX3_valuesOfEntriesOf_19 : decode cX3_valuesOfEntriesOf 19 = .ok (.iload_n 2, 1) := by decide +kernel
theorem dX3_valuesOfEntriesOf_20 : decode cX3_valuesOfEntriesOf 20 = .ok (.aload_n 0, 1) := by decide +kernel
theorem dX3_valuesOfEntriesOf_21 : decode cX3_valuesOfEntriesOf 21 = .ok (.getfield 22, 3) := by decide +kernel
theorem dX3_valuesOfEntriesOf_24 : decode cX3_valuesOfEntriesOf 24 = .ok (.iload 4, 2) := by decide +kernel
theorem dX3_valuesOfEntriesOf_26 : decode cX3_valuesOfEntriesOf 26 = .ok (.iaload, 1) := by decide +kernel
theorem dX3_valuesOfEntriesOf_27 : decode cX3_valuesOfEntriesOf 27 = .ok (.invokestatic 71, 3) := by decide +kernel
theorem dX3_valuesOfEntriesOf_30 : decode cX3_valuesOfEntriesOf 30 = .ok (.ifCond .eq 16, 3) := by decide +kernel
theorem dX3_valuesOfEntriesOf_33 : decode cX3_valuesOfEntriesOf 33 = .ok (.iload_n 3, 1) := by decide +kernel
theorem dX3_valuesOfEntriesOf_34 : decode cX3_valuesOfEntriesOf 34 = .ok (.aload_n 0, 1) := by decide +kernel
theorem dX3_valuesOfEntriesOf_35 : decode cX3_valuesOfEntriesOf 35 = .ok (.getfield 25, 3) := by decide +kernel
theorem dX3_valuesOfEntriesOf_38 : decode cX3_valuesOfEntriesOf 38 = .ok (.iload 4, 2) := by decide +kernel
theorem dX3_valuesOfEntriesOf_40 : decode cX3_valuesOfEntriesOf 40 = .ok (.iaload, 1) := by decide +kernel
theorem dX3_valuesOfEntriesOf_41 : decode cX3_valuesOfEntriesOf 41 = .ok (.invokestatic 67, 3) := by decide +kernel
theorem dX3_valuesOfEntriesOf_44 : decode cX3_valuesOfEntriesOf 44 = .ok (.ior, 1) := by decide +kernel
theorem dX3_valuesOfEntriesOf_45 : decode cX3_valuesOfEntriesOf 45 = .ok (.istore_n 3, 1) := by decide +kernel
theorem dX3_valuesOfEntriesOf_46 : decode cX3_valuesOfEntriesOf 46 = .ok (.iinc 4 1, 3) := by decide +kernel
theorem dX3_valuesOfEntriesOf_49 : decode cX3_valuesOfEntriesOf 49 = .ok (.goto (-41), 3) := by decide +kernel
theorem dX3_valuesOfEntriesOf_52 : decode cX3_valuesOfEntriesOf 52 = .ok (.iload_n 3, 1) := by decide +kernel
theorem dX3_valuesOfEntriesOf_53 : decode cX3_valuesOfEntriesOf 53 = .ok (.ireturn, 1) := by decide +kernel
set_option maxRecDepth 20000 in
theorem ggX3_tablesWithKey_X4_contains : GoodIn wsX3_tablesWithKey wsX4_contains := goodIn_r _ [3, 4, 5, 2, 6] (by decide +kernel) (by decide +kernel)
set_option maxRecDepth 20000 in
theorem gX3_tablesWithKey_X4_contains_n71 : GoodIn wsX3_tablesWithKey (wsX4_contains) := ggX3_tablesWithKey_X4_contains
set_option maxRecDepth 20000 in
theorem ggX3_tablesWithKey_X3_placeOfKey : GoodIn wsX3_tablesWithKey wsX3_placeOfKey := goodIn_r _ [11, 12, 13, 2, 14, 15, 16, 17, 18, 19, 20, 21, 22, 23] (by decide +kernel) (by decide +kernel)
set_option maxRecDepth 20000 in
theorem gX3_tablesWithKey_X3_placeOfKey : GoodIn wsX3_tablesWithKey (wsV RX3 81 RX3 yX3_placeOfKey wsX3_placeOfKey) := goodIn_app (goodIn_of _ (by decide +kernel)) ggX3_tablesWithKey_X3_placeOfKey
theorem dX3_tablesWithKey_0 : decode cX3_tablesWithKey 0 = .ok (.iconst 0, 1) := by decide +kernel
theorem dX3_tablesWithKey_1 : decode cX3_tablesWithKey 1 = .ok (.istore_n 3, 1) := by decide +kernel
theorem dX3_tablesWithKey_2 : decode cX3_tablesWithKey 2 = .ok (.iconst 0, 1) := by decide +kernel
theorem dX3_tablesWithKey_3 : decode cX3_tablesWithKey 3 = .ok (.istore 4, 2) := by decide +kernel
theorem dX3_tablesWithKey_5 : decode cX3_tablesWithKey 5 = .ok (.iload 4, 2) := by decide +kernel
theorem dX3_tablesWithKey_7 : decode cX3_tablesWithKey 7 = .ok (.bipush 24, 2) := by decide +kernel
theorem dX3_tablesWithKey_9 : decode cX3_tablesWithKey 9 = .ok (.if_icmp .ge 33, 3) := by decide +kernel
theorem dX3_tablesWithKey_12 : decode cX3_tablesWithKey 12 = .ok (.iload_n 1, 1) := by decide +kernel
theorem dX3_tablesWithKey_13 : decode cX3_tablesWithKey 13 = .ok (.iload 4, 2) := by decide +kernel
theorem dX3_tablesWithKey_15 : decode cX3_tablesWithKey 15 = .ok (.invokestatic 71, 3) := by decide +kernel
theorem dX3_tablesWithKey_18 : decode cX3_tablesWithKey 18 = .ok (.ifCond .eq 18, 3) := by decide +kernel
theorem dX3_tablesWithKey_21 : decode cX3_tablesWithKey 21 = .ok (.aload_n 0, 1) := by decide +kernel
theorem dX3_tablesWithKey_22 : decode cX3_tablesWithKey 22 = .ok (.iload 4, 2) := by decide +kernel
theorem dX3_tablesWithKey_24 : decode cX3_tablesWithKey 24 = .ok (.iload_n 2, 1) := by decide +kernel
theorem dX3_tablesWithKey_25 : decode cX3_tablesWithKey 25 = .ok (.invokevirtual 81, 3) := by decide +kernel
theorem dX3_tablesWithKey_28 : decode cX3_tablesWithKey 28 = .ok (.bipush (-9), 2) := by decide +kernel
theorem dX3_tablesWithKey_30 : decode cX3_tablesWithKey 30 = .ok (.if_icmp .eq 6, 3) := by decide +kernel
theorem dX3_tablesWithKey_33 : decode cX3_tablesWithKey 33 = .ok (.iinc 3 1, 3) := by decide +kernel
theorem dX3_tablesWithKey_36 : decode cX3_tablesWithKey 36 = .ok (.iinc 4 1, 3) := by decide +kernel
theorem dX3_tablesWithKey_39 : decode cX3_tablesWithKey 39 = .ok (.goto (-34), 3) := by decide +kernel
theorem dX3_tablesWithKey_42 : decode cX3_tablesWithKey 42 = .ok (.iload_n 3, 1) := by decide +kernel
theorem dX3_tablesWithKey_43 : decode cX3_tablesWithKey 43 = .ok (.ireturn, 1) := by decide +kernel
set_option maxRecDepth 20000 in
theorem ggX3_placeOfKey_X4_within : GoodIn wsX3_placeOfKey wsX4_within := goodIn_r _ [4] (by decide +kernel) (by decide +kernel)
set_option maxRecDepth 20000 in
theorem gX3_placeOfKey_X4_within_n56 : GoodIn wsX3_placeOfKey (wsX4_within) := ggX3_placeOfKey_X4_within
theorem dX3_placeOfKey_0 : decode cX3_placeOfKey 0 = .ok (.iload_n 1, 1) := by decide +kernel
theorem dX3_placeOfKey_1 : decode cX3_placeOfKey 1 = .ok (.bipush 24, 2) := by decide +kernel
theorem dX3_placeOfKey_3 : decode cX3_placeOfKey 3 = .ok (.invokestatic 56, 3) := by decide +kernel
theorem dX3_placeOfKey_6 : decode cX3_placeOfKey 6 = .ok (.ifCond .ne 6, 3) := by decide +kernel
theorem dX3_placeOfKey_9 : decode cX3_placeOfKey 9 = .ok (.bipush (-9), 2) := by decide +kernel
theorem dX3_placeOfKey_11 : decode cX3_placeOfKey 11 = .ok (.ireturn, 1) := by decide +kernel
theorem dX3_placeOfKey_12 : decode cX3_placeOfKey 12 = .ok (.iload_n 1, 1) := by decide +kernel
theorem dX3_placeOfKey_13 : decode cX3_placeOfKey 13 = .ok (.bipush 6, 2) := by decide +kernel
theorem dX3_placeOfKey_15 : decode cX3_placeOfKey 15 = .ok (.imul, 1) := by decide +kernel
theorem dX3_placeOfKey_16 : decode cX3_placeOfKey 16 = .ok (.istore_n 3, 1) := by decide +kernel
theorem dX3_placeOfKey_17 : decode cX3_placeOfKey 17 = .ok (.iload_n 3, 1) := by decide +kernel
theorem dX3_placeOfKey_18 : decode cX3_placeOfKey 18 = .ok (.iload_n 1, 1) := by decide +kernel
theorem dX3_placeOfKey_19 : decode cX3_placeOfKey 19 = .ok (.iconst 1, 1) := by decide +kernel
theorem dX3_placeOfKey_20 : decode cX3_placeOfKey 20 = .ok (.iadd, 1) := by decide +kernel
theorem dX3_placeOfKey_21 : decode cX3_placeOfKey 21 = .ok (.bipush 6, 2) := by decide +kernel
theorem dX3_placeOfKey_23 : decode cX3_placeOfKey 23 = .ok (.imul, 1) := by decide +kernel
theorem dX3_placeOfKey_24 : decode cX3_placeOfKey 24 = .ok (.if_icmp .ge 21, 3) := by decide +kernel
theorem dX3_placeOfKey_27 : decode cX3_placeOfKey 27 = .ok (.aload_n 0, 1) := by decide +kernel
theorem dX3_placeOfKey_28 : decode cX3_placeOfKey 28 = .ok (.getfield 22, 3) := by decide +kernel
theorem dX3_placeOfKey_31 : decode cX3_placeOfKey 31 = .ok (.iload_n 3, 1) := by decide +kernel
theorem dX3_placeOfKey_32 : decode cX3_placeOfKey 32 = .ok (.iaload, 1) := by decide +kernel
theorem dX3_placeOfKey_33 : decode cX3_placeOfKey 33 = .ok (.iload_n 2, 1) := by decide +kernel
theorem dX3_placeOfKey_34 : decode cX3_placeOfKey 34 = .ok (.if_icmp .ne 5, 3) := by decide +kernel
theorem dX3_placeOfKey_37 : decode cX3_placeOfKey 37 = .ok (.iload_n 3, 1) := by decide +kernel
theorem dX3_placeOfKey_38 : decode cX3_placeOfKey 38 = .ok (.ireturn, 1) := by decide +kernel
theorem dX3_placeOfKey_39 : decode cX3_placeOfKey 39 = .ok (.iinc 3 1, 3) := by decide +kernel
theorem dX3_placeOfKey_42 : decode cX3_placeOfKey 42 = .ok (.goto (-25), 3) := by decide +kernel
theorem dX3_placeOfKey_45 : decode cX3_placeOfKey 45 = .ok (.bipush (-9), 2) := by decide +kernel
theorem dX3_placeOfKey_47 : decode cX3_placeOfKey 47 = .ok (.ireturn, 1) := by decide +kernel
set_option maxRecDepth 20000 in
theorem ggX3_keepEntries_X4_within : GoodIn wsX3_keepEntries wsX4_within := goodIn_r _ [5] (by decide +kernel) (by decide +kernel)
set_option maxRecDepth 20000 in
theorem gX3_keepEntries_X4_within_n56 : GoodIn wsX3_keepEntries (wsX4_within) := ggX3_keepEntries_X4_within
set_option maxRecDepth 20000 in
theorem ggX3_keepEntries_X4_contains : GoodIn wsX3_keepEntries wsX4_contains := goodIn_r _ [7, 8, 9, 4, 10] (by decide +kernel) (by decide +kernel)
set_option maxRecDepth 20000 in
theorem gX3_keepEntries_X4_contains_n71 : GoodIn wsX3_keepEntries (wsX4_contains) := ggX3_keepEntries_X4_contains
theorem dX3_keepEntries_0 : decode cX3_keepEntries 0 = .ok (.iload_n 1, 1) := by decide +kernel
theorem dX3_keepEntries_1 : decode cX3_keepEntries 1 = .ok (.bipush 24, 2) := by decide +kernel
theorem dX3_keepEntries_3 : decode cX3_keepEntries 3 = .ok (.invokestatic 56, 3) := by decide +kernel
theorem dX3_keepEntries_6 : decode cX3_keepEntries 6 = .ok (.ifCond .ne 4, 3) := by decide +kernel
theorem dX3_keepEntries_9 : decode cX3_keepEntries 9 = .ok (.return_, 1) := by decide +kernel
theorem dX3_keepEntries_10 : decode cX3_keepEntries 10 = .ok (.iload_n 1, 1) := by decide +kernel
theorem dX3_keepEntries_11 : decode cX3_keepEntries 11 = .ok (.bipush 6, 2) := by decide +kernel
theorem dX3_keepEntries_13 : decode cX3_keepEntries 13 = .ok (.imul, 1) := by decide +kernel
theorem dX3_keepEntries_14 : decode cX3_keepEntries 14 = .ok (.istore_n 3, 1) := by decide +kernel
theorem dX3_keepEntries_15 : decode cX3_keepEntries 15 = .ok (.iload_n 1, 1) := by decide +kernel
theorem dX3_keepEntries_16 : decode cX3_keepEntries 16 = .ok (.bipush 6, 2) := by decide +kernel
theorem dX3_keepEntries_18 : decode cX3_keepEntries 18 = .ok (.imul, 1) := by decide +kernel
theorem dX3_keepEntries_19 : decode cX3_keepEntries 19 = .ok (.istore 4, 2) := by decide +kernel
theorem dX3_keepEntries_21 : decode cX3_keepEntries 21 = .ok (.iload 4, 2) := by decide +kernel
theorem dX3_keepEntries_23 : decode cX3_keepEntries 23 = .ok (.iload_n 1, 1) := by decide +kernel
theorem dX3_keepEntries_24 : decode cX3_keepEntries 24 = .ok (.iconst 1, 1) := by decide +kernel
theorem dX3_keepEntries_25 : decode cX3_keepEntries 25 = .ok (.iadd, 1) := by decide +kernel
theorem dX3_keepEntries_26 : decode cX3_keepEntries 26 = .ok (.bipush 6, 2) := by decide +kernel
theorem dX3_keepEntries_28 : decode cX3_keepEntries 28 = .ok (.imul, 1) := by decide +kernel
theorem dX3_keepEntries_29 : decode cX3_keepEntries 29 = .ok (.if_icmp .ge 73, 3) := by decide +kernel
theorem dX3_keepEntries_32 : decode cX3_keepEntries 32 = .ok (.aload_n 0, 1) := by decide +kernel
theorem dX3_keepEntries_33 : decode cX3_keepEntries 33 = .ok (.getfield 22, 3) := by decide +kernel
theorem dX3_keepEntries_36 : decode cX3_keepEntries 36 = .ok (.iload 4, 2) := by decide +kernel
theorem dX3_keepEntries_38 : decode cX3_keepEntries 38 = .ok (.iaload, 1) := by decide +kernel
theorem dX3_keepEntries_39 : decode cX3_keepEntries 39 = .ok (.istore 5, 2) := by decide +kernel
theorem dX3_keepEntries_41 : decode cX3_keepEntries 41 = .ok (.aload_n 0, 1) := by decide +kernel
theorem dX3_keepEntries_42 : decode cX3_keepEntries 42 = .ok (.getfield 25, 3) := by decide +kernel
theorem dX3_keepEntries_45 : decode cX3_keepEntries 45 = .ok (.iload 4, 2) := by decide +kernel
theorem dX3_keepEntries_47 : decode cX3_keepEntries 47 = .ok (.iaload, 1) := by decide +kernel
theorem dX3_keepEntries_48 : decode cX3_keepEntries 48 = .ok (.istore 6, 2) := by decide +kernel
theorem dX3_keepEntries_50 : decode cX3_keepEntries 50 = .ok (.aload_n 0, 1) := by decide +kernel
theorem dX3_keepEntries_51 : decode cX3_keepEntries 51 = .ok (.getfield 22, 3) := by decide +kernel
theorem dX3_keepEntries_54 : decode cX3_keepEntries 54 = .ok (.iload 4, 2) := by decide +kernel
theorem dX3_keepEntries_56 : decode cX3_keepEntries 56 = .ok (.bipush (-9), 2) := by decide +kernel
theorem dX3_keepEntries_58 : decode cX3_keepEntries 58 = .ok (.iastore, 1) := by decide +kernel
theorem dX3_keepEntries_59 : decode cX3_keepEntries 59 = .ok (.aload_n 0, 1) := by decide +kernel
theorem dX3_keepEntries_60 : decode cX3_keepEntries 60 = .ok (.getfield 25, 3) := by decide +kernel
theorem dX3_keepEntries_63 : decode cX3_keepEntries 63 = .ok (.iload 4, 2) := by decide +kernel
theorem dX3_keepEntries_65 : decode cX3_keepEntries 65 = .ok (.bipush (-9), 2) := by decide +kernel
theorem dX3_keepEntries_67 : decode cX3_keepEntries 67 = .ok (.iastore, 1) := by decide +kernel
theorem dX3_keepEntries_68 : decode cX3_keepEntries 68 = .ok (.iload_n 2, 1) := by decide +kernel
theorem dX3_keepEntries_69 : decode cX3_keepEntries 69 = .ok (.iload 5, 2) := by decide +kernel
theorem dX3_keepEntries_71 : decode cX3_keepEntries 71 = .ok (.invokestatic 71, 3) := by decide +kernel
theorem dX3_keepEntries_74 : decode cX3_keepEntries 74 = .ok (.ifCond .eq 22, 3) := by decide +kernel
theorem dX3_keepEntries_77 : decode cX3_keepEntries 77 = .ok (.aload_n 0, 1) := by decide +kernel
theorem dX3_keepEntries_78 : decode cX3_keepEntries 78 = .ok (.getfield 22, 3) := by decide +kernel
theorem dX3_keepEntries_81 : decode cX3_keepEntries 81 = .ok (.iload_n 3, 1) := by decide +kernel
theorem dX3_keepEntries_82 : decode cX3_keepEntries 82 = .ok (.iload 5, 2) := by decide +kernel
theorem dX3_keepEntries_84 : decode cX3_keepEntries 84 = .ok (.iastore, 1) := by decide +kernel
theorem dX3_keepEntries_85 : decode cX3_keepEntries 85 = .ok (.aload_n 0, 1) := by decide +kernel
theorem dX3_keepEntries_86 : decode cX3_keepEntries 86 = .ok (.getfield 25, 3) := by decide +kernel
theorem dX3_keepEntries_89 : decode cX3_keepEntries 89 = .ok (.iload_n 3, 1) := by decide +kernel
theorem dX3_keepEntries_90 : decode cX3_keepEntries 90 = .ok (.iload 6, 2) := by decide +kernel
theorem dX3_keepEntries_92 : decode cX3_keepEntries 92 = .ok (.iastore, 1) := by decide +kernel
theorem dX3_keepEntries_93 : decode cX3_keepEntries 93 = .ok (.iinc 3 1, 3) := by decide +kernel
theorem dX3_keepEntries_96 : decode cX3_keepEntries 96 = .ok (.iinc 4 1, 3) := by decide +kernel
theorem dX3_keepEntries_99 : decode cX3_keepEntries 99 = .ok (.goto (-78), 3) := by decide +kernel
theorem dX3_keepEntries_102 : decode cX3_keepEntries 102 = .ok (.return_, 1) := by decide +kernel
set_option maxRecDepth 20000 in
theorem ggX3_emptyWeakReferences_X4_contains : GoodIn wsX3_emptyWeakReferences wsX4_contains := goodIn_r _ [5, 6, 7, 4, 8] (by decide +kernel) (by decide +kernel)
set_option maxRecDepth 20000 in
theorem gX3_emptyWeakReferences_X4_contains_n71 : GoodIn wsX3_emptyWeakReferences (wsX4_contains) := ggX3_emptyWeakReferences_X4_contains
set_option maxRecDepth 20000 in
theorem ggX3_emptyWeakReferences_X2_issue : GoodIn wsX3_emptyWeakReferences wsX2_issue := goodIn_r _ [13, 14, 15, 16, 17, 18, 12, 19, 20, 21, 22, 23, 24, 25, 26, 27, 28, 4, 29, 39, 40] (by decide +kernel) (by decide +kernel)
set_option maxRecDepth 20000 in
theorem gX3_emptyWeakReferences_X2_issue : GoodIn wsX3_emptyWeakReferences (wsV RX3 84 RX2 yX2_issue wsX2_issue) := goodIn_app (goodIn_of _ (by decide +kernel)) ggX3_emptyWeakReferences_X2_issue
theorem dX3_emptyWeakReferences_0 : decode cX3_emptyWeakReferences 0 = .ok (.iconst 0, 1) := by decide +kernel
theorem dX3_emptyWeakReferences_1 : decode cX3_emptyWeakReferences 1 = .ok (.istore_n 3, 1) := by decide +kernel
theorem dX3_emptyWeakReferences_2 : decode cX3_emptyWeakReferences 2 = .ok (.iload_n 3, 1) := by decide +kernel
theorem dX3_emptyWeakReferences_3 : decode cX3_emptyWeakReferences 3 = .ok (.bipush 24, 2) := by decide +kernel
theorem dX3_emptyWeakReferences_5 : decode cX3_emptyWeakReferences 5 = .ok (.if_icmp .ge 77, 3) := by decide +kernel
theorem dX3_emptyWeakReferences_8 : decode cX3_emptyWeakReferences 8 = .ok (.aload_n 0, 1) := by decide +kernel
theorem dX3_emptyWeakReferences_9 : decode cX3_emptyWeakReferences 9 = .ok (.getfield 28, 3) := by decide +kernel
theorem dX3_emptyWeakReferences_12 : decode cX3_emptyWeakReferences 12 = .ok (.iload_n 3, 1) := by decide +kernel
theorem dX3_emptyWeakReferences_13 : decode cX3_emptyWeakReferences 13 = .ok (.iaload, 1) := by decide +kernel
theorem dX3_emptyWeakReferences_14 : decode cX3_emptyWeakReferences 14 = .ok (.bipush (-9), 2) := by decide +kernel
theorem dX3_emptyWeakReferences_16 : decode cX3_emptyWeakReferences 16 = .ok (.if_icmp .eq 20, 3) := by decide +kernel
theorem dX3_emptyWeakReferences_19 : decode cX3_emptyWeakReferences 19 = .ok (.iload_n 1, 1) := by decide +kernel
theorem dX3_emptyWeakReferences_20 : decode cX3_emptyWeakReferences 20 = .ok (.aload_n 0, 1) := by decide +kernel
theorem dX3_emptyWeakReferences_21 : decode cX3_emptyWeakReferences 21 = .ok (.getfield 28, 3) := by decide +kernel
theorem dX3_emptyWeakReferences_24 : decode cX3_emptyWeakReferences 24 = .ok (.iload_n 3, 1) := by decide +kernel
theorem dX3_emptyWeakReferences_25 : decode cX3_emptyWeakReferences 25 = .ok (.iaload, 1) := by decide +kernel
theorem dX3_emptyWeakReferences_26 : decode cX3_emptyWeakReferences 26 = .ok (.invokestatic 71, 3) := by decide +kernel
theorem dX3_emptyWeakReferences_29 : decode cX3_emptyWeakReferences 29 = .ok (.ifCond .ne 7, 3) := by decide +kernel
theorem dX3_emptyWeakReferences_32 : decode cX3_emptyWeakReferences 32 = .ok (.iconst 1, 1) := by decide +kernel
theorem dX3_emptyWeakReferences_33 : decode cX3_emptyWeakReferences 33 = .ok (.goto 4, 3) := by decide +kernel
theorem dX3_emptyWeakReferences_36 : decode cX3_emptyWeakReferences 36 = .ok (.iconst 0, 1) := by decide +kernel
theorem dX3_emptyWeakReferences_37 : decode cX3_emptyWeakReferences 37 = .ok (.istore 4, 2) := by decide +kernel
theorem dX3_emptyWeakReferences_39 : decode cX3_emptyWeakReferences 39 = .ok (.iload 4, 2) := by decide +kernel
theorem dX3_emptyWeakReferences_41 : decode cX3_emptyWeakReferences 41 = .ok (.ifCond .eq 35, 3) := by decide +kernel
theorem dX3_emptyWeakReferences_44 : decode cX3_emptyWeakReferences 44 = .ok (.iload_n 1, 1) := by decide +kernel
theorem dX3_emptyWeakReferences_45 : decode cX3_emptyWeakReferences 45 = .ok (.iload_n 3, 1) := by decide +kernel
theorem dX3_emptyWeakReferences_46 : decode cX3_emptyWeakReferences 46 = .ok (.invokestatic 71, 3) := by decide +kernel
theorem dX3_emptyWeakReferences_49 : decode cX3_emptyWeakReferences 49 = .ok (.ifCond .eq 27, 3) := by decide +kernel
theorem dX3_emptyWeakReferences_52 : decode cX3_emptyWeakReferences 52 = .ok (.aload_n 0, 1) := by decide +kernel
theorem dX3_emptyWeakReferences_53 : decode cX3_emptyWeakReferences 53 = .ok (.getfield 28, 3) := by decide +kernel
theorem dX3_emptyWeakReferences_56 : decode cX3_emptyWeakReferences 56 = .ok (.iload_n 3, 1) := by decide +kernel
theorem dX3_emptyWeakReferences_57 : decode cX3_emptyWeakReferences 57 = .ok (.bipush (-9), 2) := by decide +kernel
theorem dX3_emptyWeakReferences_59 : decode cX3_emptyWeakReferences 59 = .ok (.iastore, 1) := by decide +kernel
theorem dX3_emptyWeakReferences_60 : decode cX3_emptyWeakReferences 60 = .ok (.iload_n 2, 1) := by decide +kernel
theorem dX3_emptyWeakReferences_61 : decode cX3_emptyWeakReferences 61 = .ok (.ifCond .eq 15, 3) := by decide +kernel
theorem dX3_emptyWeakReferences_64 : decode cX3_emptyWeakReferences 64 = .ok (.aload_n 0, 1) := by decide +kernel
theorem dX3_emptyWeakReferences_65 : decode cX3_emptyWeakReferences 65 = .ok (.getfield 37, 3) := by decide +kernel
theorem dX3_emptyWeakReferences_68 : decode cX3_emptyWeakReferences 68 = .ok (.sipush 1000, 3) := by decide +kernel
theorem dX3_emptyWeakReferences_71 : decode cX3_emptyWeakReferences 71 = .ok (.iload_n 3, 1) := by decide +kernel
theorem dX3_emptyWeakReferences_72 : decode cX3_emptyWeakReferences 72 = .ok (.iadd, 1) := by decide +kernel
theorem dX3_emptyWeakReferences_73 : decode cX3_emptyWeakReferences 73 = .ok (.invokevirtual 84, 3) := by decide +kernel
theorem dX3_emptyWeakReferences_76 : decode cX3_emptyWeakReferences 76 = .ok (.iinc 3 1, 3) := by decide +kernel
theorem dX3_emptyWeakReferences_79 : decode cX3_emptyWeakReferences 79 = .ok (.goto (-77), 3) := by decide +kernel
theorem dX3_emptyWeakReferences_82 : decode cX3_emptyWeakReferences 82 = .ok (.return_, 1) := by decide +kernel
set_option maxRecDepth 20000 in
theorem ggX3_finalizeObjects_X4_contains : GoodIn wsX3_finalizeObjects wsX4_contains := goodIn_r _ [5, 6, 7, 4, 8] (by decide +kernel) (by decide +kernel)
set_option maxRecDepth 20000 in
theorem gX3_finalizeObjects_X4_contains_n71 : GoodIn wsX3_finalizeObjects (wsX4_contains) := ggX3_finalizeObjects_X4_contains
set_option maxRecDepth 20000 in
theorem ggX3_finalizeObjects_X2_issue : GoodIn wsX3_finalizeObjects wsX2_issue := goodIn_r _ [13, 14, 15, 16, 17, 18, 12, 19, 20, 21, 22, 23, 24, 25, 26, 27, 28, 4, 29, 39, 40] (by decide +kernel) (by decide +kernel)
set_option maxRecDepth 20000 in
theorem gX3_finalizeObjects_X2_issue : GoodIn wsX3_finalizeObjects (wsV RX3 84 RX2 yX2_issue wsX2_issue) := goodIn_app (goodIn_of _ (by decide +kernel)) ggX3_finalizeObjects_X2_issue
theorem dX3_finalizeObjects_0 : decode cX3_finalizeObjects 0 = .ok (.iconst 0, 1) := by decide +kernel
theorem dX3_finalizeObjects_1 : decode cX3_finalizeObjects 1 = .ok (.istore_n 2, 1) := by decide +kernel
theorem dX3_finalizeObjects_2 : decode cX3_finalizeObjects 2 = .ok (.iload_n 2, 1) := by decide +kernel
theorem dX3_finalizeObjects_3 : decode cX3_finalizeObjects 3 = .ok (.bipush 24, 2) := by decide +kernel
theorem dX3_finalizeObjects_5 : decode cX3_finalizeObjects 5 = .ok (.if_icmp .ge 29, 3) := by decide +kernel
theorem dX3_finalizeObjects_8 : decode cX3_finalizeObjects 8 = .ok (.iload_n 1, 1) := by decide +kernel
theorem dX3_finalizeObjects_9 : decode cX3_finalizeObjects 9 = .ok (.iload_n 2, 1) := by decide +kernel
theorem dX3_finalizeObjects_10 : decode cX3_finalizeObjects 10 = .ok (.invokestatic 71, 3) := by decide +kernel
theorem dX3_finalizeObjects_13 : decode cX3_finalizeObjects 13 = .ok (.ifCond .eq 15, 3) := by decide +kernel
theorem dX3_finalizeObjects_16 : decode cX3_finalizeObjects 16 = .ok (.aload_n 0, 1) := by decide +kernel
theorem dX3_finalizeObjects_17 : decode cX3_finalizeObjects 17 = .ok (.getfield 37, 3) := by decide +kernel
theorem dX3_finalizeObjects_20 : decode cX3_finalizeObjects 20 = .ok (.sipush 3000, 3) := by decide +kernel
theorem dX3_finalizeObjects_23 : decode cX3_finalizeObjects 23 = .ok (.iload_n 2, 1) := by decide +kernel
theorem dX3_finalizeObjects_24 : decode cX3_finalizeObjects 24 = .ok (.iadd, 1) := by decide +kernel
theorem dX3_finalizeObjects_25 : decode cX3_finalizeObjects 25 = .ok (.invokevirtual 84, 3) := by decide +kernel
theorem dX3_finalizeObjects_28 : decode cX3_finalizeObjects 28 = .ok (.iinc 2 1, 3) := by decide +kernel
theorem dX3_finalizeObjects_31 : decode cX3_finalizeObjects 31 = .ok (.goto (-29), 3) := by decide +kernel
theorem dX3_finalizeObjects_34 : decode cX3_finalizeObjects 34 = .ok (.aload_n 0, 1) := by decide +kernel
theorem dX3_finalizeObjects_35 : decode cX3_finalizeObjects 35 = .ok (.dup, 1) := by decide +kernel
theorem dX3_finalizeObjects_36 : decode cX3_finalizeObjects 36 = .ok (.getfield 49, 3) := by decide +kernel
theorem dX3_finalizeObjects_39 : decode cX3_finalizeObjects 39 = .ok (.iload_n 1, 1) := by decide +kernel
theorem dX3_finalizeObjects_40 : decode cX3_finalizeObjects 40 = .ok (.iconst (-1), 1) := by decide +kernel
theorem dX3_finalizeObjects_41 : decode cX3_finalizeObjects 41 = .ok (.ixor, 1) := by decide +kernel
theorem dX3_finalizeObjects_42 : decode cX3_finalizeObjects 42 = .ok (.iand, 1) := by decide +kernel
theorem dX3_finalizeObjects_43 : decode cX3_finalizeObjects 43 = .ok (.putfield 49, 3) := by decide +kernel
theorem dX3_finalizeObjects_46 : decode cX3_finalizeObjects 46 = .ok (.return_, 1) := by decide +kernel
set_option maxRecDepth 20000 in
theorem ggX3_removeEntriesWithoutKey_X4_contains : GoodIn wsX3_removeEntriesWithoutKey wsX4_contains := goodIn_r _ [3, 4, 5, 2, 6] (by decide +kernel) (by decide +kernel)
set_option maxRecDepth 20000 in
theorem gX3_removeEntriesWithoutKey_X4_contains_n71 : GoodIn wsX3_removeEntriesWithoutKey (wsX4_contains) := ggX3_removeEntriesWithoutKey_X4_contains
set_option maxRecDepth 20000 in
theorem ggX3_removeEntriesWithoutKey_X3_announceEntriesWithoutKey : GoodIn wsX3_removeEntriesWithoutKey wsX3_announceEntriesWithoutKey := goodIn_r _ [11, 12, 13, 1, 2, 3, 4, 5, 6, 14, 15, 16, 17, 18, 19, 20, 21, 22, 23, 24, 25, 26, 27, 28, 29, 30, 31, 32, 33, 34, 40, 41, 42, 43, 44, 45, 46, 47, 48, 49, 50] (by decide +kernel) (by decide +kernel)
set_option maxRecDepth 20000 in
theorem gX3_removeEntriesWithoutKey_X3_announceEntriesWithoutKey : GoodIn wsX3_removeEntriesWithoutKey (wsV RX3 88 RX3 yX3_announceEntriesWithoutKey wsX3_announceEntriesWithoutKey) := goodIn_app (goodIn_of _ (by decide +kernel)) ggX3_removeEntriesWithoutKey_X3_announceEntriesWithoutKey
set_option maxRecDepth 20000 in
theorem ggX3_removeEntriesWithoutKey_X3_keepEntries : GoodIn wsX3_removeEntriesWithoutKey wsX3_keepEntries := goodIn_r _ [38, 12, 39, 33, 2, 34, 1, 3, 4, 5, 6, 40, 41, 42, 43, 44, 45, 46, 47, 48] (by decide +kernel) (by decide +kernel)
set_option maxRecDepth 20000 in
theorem gX3_removeEntriesWithoutKey_X3_keepEntries : GoodIn wsX3_removeEntriesWithoutKey (wsV RX3 92 RX3 yX3_keepEntries wsX3_keepEntries) := goodIn_app (goodIn_of _ (by decide +kernel)) ggX3_removeEntriesWithoutKey_X3_keepEntries
theorem dX3_removeEntriesWithoutKey_0 : decode cX3_removeEntriesWithoutKey 0 = .ok (.iconst 0, 1) := by decide +kernel
theorem dX3_removeEntriesWithoutKey_1 : decode cX3_removeEntriesWithoutKey 1 = .ok (.istore_n 2, 1) := by decide +kernel
theorem dX3_removeEntriesWithoutKey_2 : decode cX3_removeEntriesWithoutKey 2 = .ok (.iload_n 2, 1) := by decide +kernel
theorem dX3_removeEntriesWithoutKey_3 : decode cX3_removeEntriesWithoutKey 3 = .ok (.bipush 24, 2) := by decide +kernel
theorem dX3_removeEntriesWithoutKey_5 : decode cX3_removeEntriesWithoutKey 5 = .ok (.if_icmp .ge 29, 3) := by decide +kernel
theorem dX3_removeEntriesWithoutKey_8 : decode cX3_removeEntriesWithoutKey 8 = .ok (.iload_n 1, 1) := by decide +kernel
theorem dX3_removeEntriesWithoutKey_9 : decode cX3_removeEntriesWithoutKey 9 = .ok (.iload_n 2, 1) := by decide +kernel
theorem dX3_removeEntriesWithoutKey_10 : decode cX3_removeEntriesWithoutKey 10 = .ok (.invokestatic 71, 3) := by decide +kernel
theorem dX3_removeEntriesWithoutKey_13 : decode cX3_removeEntriesWithoutKey 13 = .ok (.ifCond .eq 15, 3) := by decide +kernel
theorem dX3_removeEntriesWithoutKey_16 : decode cX3_removeEntriesWithoutKey 16 = .ok (.aload_n 0, 1) := by decide +kernel
theorem dX3_removeEntriesWithoutKey_17 : decode cX3_removeEntriesWithoutKey 17 = .ok (.iload_n 2, 1) := by decide +kernel
theorem dX3_removeEntriesWithoutKey_18 : decode cX3_removeEntriesWithoutKey 18 = .ok (.iload_n 1, 1) := by decide +kernel
theorem dX3_removeEntriesWithoutKey_19 : decode cX3_removeEntriesWithoutKey 19 = .ok (.invokevirtual 88, 3) := by decide +kernel
theorem dX3_removeEntriesWithoutKey_22 : decode cX3_removeEntriesWithoutKey 22 = .ok (.aload_n 0, 1) := by decide +kernel
theorem dX3_removeEntriesWithoutKey_23 : decode cX3_removeEntriesWithoutKey 23 = .ok (.iload_n 2, 1) := by decide +kernel
theorem dX3_removeEntriesWithoutKey_24 : decode cX3_removeEntriesWithoutKey 24 = .ok (.iload_n 1, 1) := by decide +kernel
theorem dX3_removeEntriesWithoutKey_25 : decode cX3_removeEntriesWithoutKey 25 = .ok (.invokevirtual 92, 3) := by decide +kernel
theorem dX3_removeEntriesWithoutKey_28 : decode cX3_removeEntriesWithoutKey 28 = .ok (.iinc 2 1, 3) := by decide +kernel
theorem dX3_removeEntriesWithoutKey_31 : decode cX3_removeEntriesWithoutKey 31 = .ok (.goto (-29), 3) := by decide +kernel
theorem dX3_removeEntriesWithoutKey_34 : decode cX3_removeEntriesWithoutKey 34 = .ok (.return_, 1) := by decide +kernel
set_option maxRecDepth 20000 in
theorem ggX3_announceEntriesWithoutKey_X4_contains : GoodIn wsX3_announceEntriesWithoutKey wsX4_contains := goodIn_r _ [5, 6, 7, 4, 8] (by decide +kernel) (by decide +kernel)
set_option maxRecDepth 20000 in
theorem gX3_announceEntriesWithoutKey_X4_contains_n71 : GoodIn wsX3_announceEntriesWithoutKey (wsX4_contains) := ggX3_announceEntriesWithoutKey_X4_contains
set_option maxRecDepth 20000 in
theorem ggX3_announceEntriesWithoutKey_X2_issue : GoodIn wsX3_announceEntriesWithoutKey wsX2_issue := goodIn_r _ [13, 14, 15, 16, 17, 18, 12, 19, 20, 21, 22, 23, 24, 25, 26, 27, 28, 4, 29, 39, 40] (by decide +kernel) (by decide +kernel)
set_option maxRecDepth 20000 in
theorem gX3_announceEntriesWithoutKey_X2_issue : GoodIn wsX3_announceEntriesWithoutKey (wsV RX3 84 RX2 yX2_issue wsX2_issue) := goodIn_app (goodIn_of _ (by decide +kernel)) ggX3_announceEntriesWithoutKey_X2_issue
theorem dX3_announceEntriesWithoutKey_0 : decode cX3_announceEntriesWithoutKey 0 = .ok (.iload_n 1, 1) := by decide +kernel
theorem dX3_announceEntriesWithoutKey_1 : decode cX3_announceEntriesWithoutKey 1 = .ok (.bipush 6, 2) := by decide +kernel
theorem dX3_announceEntriesWithoutKey_3 : decode cX3_announceEntriesWithoutKey 3 = .ok (.imul, 1) := by decide +kernel
theorem dX3_announceEntriesWithoutKey_4 : decode cX3_announceEntriesWithoutKey 4 = .ok (.istore_n 3, 1) := by decide +kernel
theorem dX3_announceEntriesWithoutKey_5 : decode cX3_announceEntriesWithoutKey 5 = .ok (.iload_n 3, 1) := by decide +kernel
theorem dX3_announceEntriesWithoutKey_6 : decode cX3_announceEntriesWithoutKey 6 = .ok (.iload_n 1, 1) := by decide +kernel
theorem dX3_announceEntriesWithoutKey_7 : decode cX3_announceEntriesWithoutKey 7 = .ok (.iconst 1, 1) := by decide +kernel
theorem dX3_announceEntriesWithoutKey_8 : decode cX3_announceEntriesWithoutKey 8 = .ok (.iadd, 1) := by decide +kernel
theorem dX3_announceEntriesWithoutKey_9 : decode cX3_announceEntriesWithoutKey 9 = .ok (.bipush 6, 2) := by decide +kernel
theorem dX3_announceEntriesWithoutKey_11 : decode cX3_announceEntriesWithoutKey 11 = .ok (.imul, 1) := by decide +kernel
theorem dX3_announceEntriesWithoutKey_12 : decode cX3_announceEntriesWithoutKey 12 = .ok (.if_icmp .ge 55, 3) := by decide +kernel
theorem dX3_announceEntriesWithoutKey_15 : decode cX3_announceEntriesWithoutKey 15 = .ok (.aload_n 0, 1) := by decide +kernel
theorem dX3_announceEntriesWithoutKey_16 : decode cX3_announceEntriesWithoutKey 16 = .ok (.getfield 22, 3) := by decide +kernel
theorem dX3_announceEntriesWithoutKey_19 : decode cX3_announceEntriesWithoutKey 19 = .ok (.iload_n 3, 1) := by decide +kernel
theorem dX3_announceEntriesWithoutKey_20 : decode cX3_announceEntriesWithoutKey 20 = .ok (.iaload, 1) := by decide +kernel
theorem dX3_announceEntriesWithoutKey_21 : decode cX3_announceEntriesWithoutKey 21 = .ok (.bipush (-9), 2) := by decide +kernel
theorem dX3_announceEntriesWithoutKey_23 : decode cX3_announceEntriesWithoutKey 23 = .ok (.if_icmp .eq 38, 3) := by decide +kernel
theorem dX3_announceEntriesWithoutKey_26 : decode cX3_announceEntriesWithoutKey 26 = .ok (.iload_n 2, 1) := by decide +kernel
theorem dX3_announceEntriesWithoutKey_27 : decode cX3_announceEntriesWithoutKey 27 = .ok (.aload_n 0, 1) := by decide +kernel
theorem dX3_announceEntriesWithoutKey_28 : decode cX3_announceEntriesWithoutKey 28 = .ok (.getfield 22, 3) := by decide +kernel
theorem dX3_announceEntriesWithoutKey_31 : decode cX3_announceEntriesWithoutKey 31 = .ok (.iload_n 3, 1) := by decide +kernel
theorem dX3_announceEntriesWithoutKey_32 : decode cX3_announceEntriesWithoutKey 32 = .ok (.iaload, 1) := by decide +kernel
theorem dX3_announceEntriesWithoutKey_33 : decode cX3_announceEntriesWithoutKey 33 = .ok (.invokestatic 71, 3) := by decide +kernel
theorem dX3_announceEntriesWithoutKey_36 : decode cX3_announceEntriesWithoutKey 36 = .ok (.ifCond .ne 25, 3) := by decide +kernel
theorem dX3_announceEntriesWithoutKey_39 : decode cX3_announceEntriesWithoutKey 39 = .ok (.aload_n 0, 1) := by decide +kernel
theorem dX3_announceEntriesWithoutKey_40 : decode cX3_announceEntriesWithoutKey 40 = .ok (.getfield 37, 3) := by decide +kernel
theorem dX3_announceEntriesWithoutKey_43 : decode cX3_announceEntriesWithoutKey 43 = .ok (.sipush 2000, 3) := by decide +kernel
theorem dX3_announceEntriesWithoutKey_46 : decode cX3_announceEntriesWithoutKey 46 = .ok (.bipush 32, 2) := by decide +kernel
theorem dX3_announceEntriesWithoutKey_48 : decode cX3_announceEntriesWithoutKey 48 = .ok (.iload_n 1, 1) := by decide +kernel
theorem dX3_announceEntriesWithoutKey_49 : decode cX3_announceEntriesWithoutKey 49 = .ok (.imul, 1) := by decide +kernel
theorem dX3_announceEntriesWithoutKey_50 : decode cX3_announceEntriesWithoutKey 50 = .ok (.iadd, 1) := by decide +kernel
theorem dX3_announceEntriesWithoutKey_51 : decode cX3_announceEntriesWithoutKey 51 = .ok (.aload_n 0, 1) := by decide +kernel
theorem dX3_announceEntriesWithoutKey_52 : decode cX3_announceEntriesWithoutKey 52 = .ok (.getfield 22, 3) := by decide +kernel
theorem dX3_announceEntriesWithoutKey_55 : decode cX3_announceEntriesWithoutKey 55 = .ok (.iload_n 3, 1) := by decide +kernel
theorem dX3_announceEntriesWithoutKey_56 : decode cX3_announceEntriesWithoutKey 56 = .ok (.iaload, 1) := by decide +kernel
theorem dX3_announceEntriesWithoutKey_57 : decode cX3_announceEntriesWithoutKey 57 = .ok (.iadd, 1) := by decide +kernel
theorem dX3_announceEntriesWithoutKey_58 : decode cX3_announceEntriesWithoutKey 58 = .ok (.invokevirtual 84, 3) := by decide +kernel
theorem dX3_announceEntriesWithoutKey_61 : decode cX3_announceEntriesWithoutKey 61 = .ok (.iinc 3 1, 3) := by decide +kernel
theorem dX3_announceEntriesWithoutKey_64 : decode cX3_announceEntriesWithoutKey 64 = .ok (.goto (-59), 3) := by decide +kernel
theorem dX3_announceEntriesWithoutKey_67 : decode cX3_announceEntriesWithoutKey 67 = .ok (.return_, 1) := by decide +kernel
set_option maxRecDepth 20000 in
theorem ggX3_free_X4_contains : GoodIn wsX3_free wsX4_contains := goodIn_r _ [7, 8, 9, 6, 10] (by decide +kernel) (by decide +kernel)
set_option maxRecDepth 20000 in
theorem gX3_free_X4_contains_n71 : GoodIn wsX3_free (wsX4_contains) := ggX3_free_X4_contains
set_option maxRecDepth 20000 in
theorem ggX3_free_J7_fill_fda19 : GoodIn wsX3_free wsJ7_fill_fda19 := goodIn_r _ [14, 15, 16, 13, 17] (by decide +kernel) (by decide +kernel)
set_option maxRecDepth 20000 in
theorem gX3_free_J7_fill_fda19 : GoodIn wsX3_free (va_wsS RX3 95 yJ7_fill_fda19 wsJ7_fill_fda19) := goodIn_app (goodIn_of _ (by decide +kernel)) ggX3_free_J7_fill_fda19
set_option maxRecDepth 20000 in
theorem ggX3_free_X3_keepEntries : GoodIn wsX3_free wsX3_keepEntries := goodIn_r _ [22, 23, 24, 25, 6, 26, 5, 7, 8, 9, 10, 27, 28, 29, 30, 31, 32, 33, 34, 35] (by decide +kernel) (by decide +kernel)
set_option maxRecDepth 20000 in
theorem gX3_free_X3_keepEntries : GoodIn wsX3_free (wsV RX3 92 RX3 yX3_keepEntries wsX3_keepEntries) := goodIn_app (goodIn_of _ (by decide +kernel)) ggX3_free_X3_keepEntries
theorem dX3_free_0 : decode cX3_free 0 = .ok (.iconst 0, 1) := by decide +kernel
theorem dX3_free_1 : decode cX3_free 1 = .ok (.istore_n 2, 1) := by decide +kernel
theorem dX3_free_2 : decode cX3_free 2 = .ok (.iload_n 2, 1) := by decide +kernel
theorem dX3_free_3 : decode cX3_free 3 = .ok (.bipush 24, 2) := by decide +kernel
theorem dX3_free_5 : decode cX3_free 5 = .ok (.if_icmp .ge 56, 3) := by decide +kernel
theorem dX3_free_8 : decode cX3_free 8 = .ok (.iload_n 1, 1) := by decide +kernel
theorem dX3_free_9 : decode cX3_free 9 = .ok (.iload_n 2, 1) := by decide +kernel
theorem dX3_free_10 : decode cX3_free 10 = .ok (.invokestatic 71, 3) := by decide +kernel
theorem dX3_free_13 : decode cX3_free 13 = .ok (.ifCond .eq 42, 3) := by decide +kernel
theorem dX3_free_16 : decode cX3_free 16 = .ok (.aload_n 0, 1) := by decide +kernel
theorem dX3_free_17 : decode cX3_free 17 = .ok (.getfield 13, 3) := by decide +kernel
theorem dX3_free_20 : decode cX3_free 20 = .ok (.iload_n 2, 1) := by decide +kernel
theorem dX3_free_21 : decode cX3_free 21 = .ok (.bipush (-9), 2) := by decide +kernel
theorem dX3_free_23 : decode cX3_free 23 = .ok (.iastore, 1) := by decide +kernel
theorem dX3_free_24 : decode cX3_free 24 = .ok (.aload_n 0, 1) := by decide +kernel
theorem dX3_free_25 : decode cX3_free 25 = .ok (.getfield 28, 3) := by decide +kernel
theorem dX3_free_28 : decode cX3_free 28 = .ok (.iload_n 2, 1) := by decide +kernel
theorem dX3_free_29 : decode cX3_free 29 = .ok (.bipush (-9), 2) := by decide +kernel
theorem dX3_free_31 : decode cX3_free 31 = .ok (.iastore, 1) := by decide +kernel
theorem dX3_free_32 : decode cX3_free 32 = .ok (.aload_n 0, 1) := by decide +kernel
theorem dX3_free_33 : decode cX3_free 33 = .ok (.getfield 19, 3) := by decide +kernel
theorem dX3_free_36 : decode cX3_free 36 = .ok (.iload_n 2, 1) := by decide +kernel
theorem dX3_free_37 : decode cX3_free 37 = .ok (.iconst 3, 1) := by decide +kernel
theorem dX3_free_38 : decode cX3_free 38 = .ok (.imul, 1) := by decide +kernel
theorem dX3_free_39 : decode cX3_free 39 = .ok (.iload_n 2, 1) := by decide +kernel
theorem dX3_free_40 : decode cX3_free 40 = .ok (.iconst 1, 1) := by decide +kernel
theorem dX3_free_41 : decode cX3_free 41 = .ok (.iadd, 1) := by decide +kernel
theorem dX3_free_42 : decode cX3_free 42 = .ok (.iconst 3, 1) := by decide +kernel
theorem dX3_free_43 : decode cX3_free 43 = .ok (.imul, 1) := by decide +kernel
theorem dX3_free_44 : decode cX3_free 44 = .ok (.bipush (-9), 2) := by decide +kernel
theorem dX3_free_46 : decode cX3_free 46 = .ok (.invokestatic 95, 3) := by decide +kernel
theorem dX3_free_49 : decode cX3_free 49 = .ok (.aload_n 0, 1) := by decide +kernel
theorem dX3_free_50 : decode cX3_free 50 = .ok (.iload_n 2, 1) := by decide +kernel
theorem dX3_free_51 : decode cX3_free 51 = .ok (.iconst 0, 1) := by decide +kernel
theorem dX3_free_52 : decode cX3_free 52 = .ok (.invokevirtual 92, 3) := by decide +kernel
theorem dX3_free_55 : decode cX3_free 55 = .ok (.iinc 2 1, 3) := by decide +kernel
theorem dX3_free_58 : decode cX3_free 58 = .ok (.goto (-56), 3) := by decide +kernel
theorem dX3_free_61 : decode cX3_free 61 = .ok (.aload_n 0, 1) := by decide +kernel
theorem dX3_free_62 : decode cX3_free 62 = .ok (.dup, 1) := by decide +kernel
theorem dX3_free_63 : decode cX3_free 63 = .ok (.getfield 49, 3) := by decide +kernel
theorem dX3_free_66 : decode cX3_free 66 = .ok (.iload_n 1, 1) := by decide +kernel
theorem dX3_free_67 : decode cX3_free 67 = .ok (.iconst (-1), 1) := by decide +kernel
theorem dX3_free_68 : decode cX3_free 68 = .ok (.ixor, 1) := by decide +kernel
theorem dX3_free_69 : decode cX3_free 69 = .ok (.iand, 1) := by decide +kernel
theorem dX3_free_70 : decode cX3_free 70 = .ok (.putfield 49, 3) := by decide +kernel
theorem dX3_free_73 : decode cX3_free 73 = .ok (.return_, 1) := by decide +kernel
set_option maxRecDepth 20000 in
theorem ggX4_init_X3_init : GoodIn wsX4_init wsX3_init := goodIn_r _ [18, 19, 2, 3, 20, 21, 22, 23, 24, 25, 26, 27, 28, 29, 30, 31, 32, 33, 34, 35, 36, 37, 38, 39, 40, 41, 42, 43, 44, 45, 55, 56, 57, 58, 59, 60, 61, 62, 63, 75, 76] (by decide +kernel) (by decide +kernel)
set_option maxRecDepth 20000 in
theorem gX4_init_X3_init_n9 : GoodIn wsX4_init (wsX3_init) := ggX4_init_X3_init
set_option maxRecDepth 20000 in
theorem ggX4_init_X0_init : GoodIn wsX4_init wsX0_init := goodIn_r _ [47, 48, 2, 3, 49, 50, 68, 69, 70] (by decide +kernel) (by decide +kernel)
set_option maxRecDepth 20000 in
theorem gX4_init_X0_init_n18 : GoodIn wsX4_init (wsX0_init) := ggX4_init_X0_init
set_option maxRecDepth 20000 in
theorem ggX4_init_X1_init : GoodIn wsX4_init wsX1_init := goodIn_r _ [52, 53, 2, 3, 37, 54, 71, 72, 73, 74] (by decide +kernel) (by decide +kernel)
set_option maxRecDepth 20000 in
theorem gX4_init_X1_init_n29 : GoodIn wsX4_init (wsX1_init) := ggX4_init_X1_init
theorem dX4_init_0 : decode cX4_init 0 = .ok (.aload_n 0, 1) := by decide +kernel
theorem dX4_init_1 : decode cX4_init 1 = .ok (.invokespecial 1, 3) := by decide +kernel
theorem dX4_init_4 : decode cX4_init 4 = .ok (.aload_n 0, 1) := by decide +kernel
theorem dX4_init_5 : decode cX4_init 5 = .ok (.new 7, 3) := by decide +kernel
theorem dX4_init_8 : decode cX4_init 8 = .ok (.dup, 1) := by decide +kernel
theorem dX4_init_9 : decode cX4_init 9 = .ok (.invokespecial 9, 3) := by decide +kernel
theorem dX4_init_12 : decode cX4_init 12 = .ok (.putfield 10, 3) := by decide +kernel
theorem dX4_init_15 : decode cX4_init 15 = .ok (.aload_n 0, 1) := by decide +kernel
theorem dX4_init_16 : decode cX4_init 16 = .ok (.new 16, 3) := by decide +kernel
theorem dX4_init_19 : decode cX4_init 19 = .ok (.dup, 1) := by decide +kernel
theorem dX4_init_20 : decode cX4_init 20 = .ok (.invokespecial 18, 3) := by decide +kernel
theorem dX4_init_23 : decode cX4_init 23 = .ok (.putfield 19, 3) := by decide +kernel
theorem dX4_init_26 : decode cX4_init 26 = .ok (.aload_n 0, 1) := by decide +kernel
theorem dX4_init_27 : decode cX4_init 27 = .ok (.iconst 2, 1) := by decide +kernel
theorem dX4_init_28 : decode cX4_init 28 = .ok (.anewarray 7, 3) := by decide +kernel
theorem dX4_init_31 : decode cX4_init 31 = .ok (.putfield 23, 3) := by decide +kernel
theorem dX4_init_34 : decode cX4_init 34 = .ok (.aload_n 0, 1) := by decide +kernel
theorem dX4_init_35 : decode cX4_init 35 = .ok (.new 27, 3) := by decide +kernel
theorem dX4_init_38 : decode cX4_init 38 = .ok (.dup, 1) := by decide +kernel
theorem dX4_init_39 : decode cX4_init 39 = .ok (.invokespecial 29, 3) := by decide +kernel
theorem dX4_init_42 : decode cX4_init 42 = .ok (.putfield 30, 3) := by decide +kernel
theorem dX4_init_45 : decode cX4_init 45 = .ok (.return_, 1) := by decide +kernel
set_option maxRecDepth 20000 in
theorem ggX4_allocate_X4_occupyNext : GoodIn wsX4_allocate wsX4_occupyNext := goodIn_r _ [5, 6, 7, 8, 9, 10, 11, 12, 13, 14, 15, 16, 17, 18, 19, 20, 21, 22, 23, 24, 25, 26, 27, 28, 29, 30, 31, 32, 33, 34, 35, 36, 37, 38, 39, 40, 41, 42, 4, 43, 44, 45, 46, 47, 48, 49, 50, 51, 52, 53, 54, 55, 56, 57, 58, 59, 60, 61, 62, 63, 64, 65, 66, 67, 68, 69, 70, 71, 72, 73, 74, 75, 76, 77, 78, 79, 80, 81, 82, 83, 84, 85, 86, 87, 88, 89, 90, 91, 92, 93, 94, 95, 96, 97] (by decide +kernel) (by decide +kernel)
set_option maxRecDepth 20000 in
theorem gX4_allocate_X4_occupyNext : GoodIn wsX4_allocate (wsV RX4 34 RX4 yX4_occupyNext wsX4_occupyNext) := goodIn_app (goodIn_of _ (by decide +kernel)) ggX4_allocate_X4_occupyNext
theorem dX4_allocate_0 : decode cX4_allocate 0 = .ok (.aload_n 0, 1) := by decide +kernel
theorem dX4_allocate_1 : decode cX4_allocate 1 = .ok (.iconst 0, 1) := by decide +kernel
theorem dX4_allocate_2 : decode cX4_allocate 2 = .ok (.bipush (-9), 2) := by decide +kernel
theorem dX4_allocate_4 : decode cX4_allocate 4 = .ok (.invokevirtual 34, 3) := by decide +kernel
theorem dX4_allocate_7 : decode cX4_allocate 7 = .ok (.ireturn, 1) := by decide +kernel
set_option maxRecDepth 20000 in
theorem ggX4_allocateTable_X4_occupyNext : GoodIn wsX4_allocateTable wsX4_occupyNext := goodIn_r _ [5, 6, 7, 8, 9, 10, 11, 12, 13, 14, 15, 16, 17, 18, 19, 20, 21, 22, 23, 24, 25, 26, 27, 28, 29, 30, 31, 32, 33, 34, 35, 36, 37, 38, 39, 40, 41, 42, 4, 43, 44, 45, 46, 47, 48, 49, 50, 51, 52, 53, 54, 55, 56, 57, 58, 59, 60, 61, 62, 63, 64, 65, 66, 67, 68, 69, 70, 71, 72, 73, 74, 75, 76, 77, 78, 79, 80, 81, 82, 83, 84, 85, 86, 87, 88, 89, 90, 91, 92, 93, 94, 95, 96, 97] (by decide +kernel) (by decide +kernel)
set_option maxRecDepth 20000 in
theorem gX4_allocateTable_X4_occupyNext : GoodIn wsX4_allocateTable (wsV RX4 34 RX4 yX4_occupyNext wsX4_occupyNext) := goodIn_app (goodIn_of _ (by decide +kernel)) ggX4_allocateTable_X4_occupyNext
theorem dX4_allocateTable_0 : decode cX4_allocateTable 0 = .ok (.aload_n 0, 1) := by decide +kernel
theorem dX4_allocateTable_1 : decode cX4_allocateTable 1 = .ok (.iconst 1, 1) := by decide +kernel
theorem dX4_allocateTable_2 : decode cX4_allocateTable 2 = .ok (.bipush (-9), 2) := by decide +kernel
theorem dX4_allocateTable_4 : decode cX4_allocateTable 4 = .ok (.invokevirtual 34, 3) := by decide +kernel
theorem dX4_allocateTable_7 : decode cX4_allocateTable 7 = .ok (.ireturn, 1) := by decide +kernel
set_option maxRecDepth 20000 in
theorem ggX4_allocateWeak_X3_isAllocated : GoodIn wsX4_allocateWeak wsX3_isAllocated := goodIn_r _ [6, 7, 8, 9, 10, 88, 89, 90, 91, 92, 93, 94, 95, 96] (by decide +kernel) (by decide +kernel)
set_option maxRecDepth 20000 in
theorem gX4_allocateWeak_X3_isAllocated : GoodIn wsX4_allocateWeak (wsV RX4 38 RX3 yX3_isAllocated wsX3_isAllocated) := goodIn_app (goodIn_of _ (by decide +kernel)) ggX4_allocateWeak_X3_isAllocated
set_option maxRecDepth 20000 in
theorem ggX4_allocateWeak_X4_occupyNext : GoodIn wsX4_allocateWeak wsX4_occupyNext := goodIn_r _ [14, 1, 15, 16, 17, 18, 5, 19, 7, 20, 21, 22, 23, 24, 25, 26, 27, 28, 29, 30, 31, 32, 33, 34, 35, 36, 37, 38, 39, 40, 41, 42, 43, 44, 45, 46, 47, 48, 9, 49, 50, 51, 52, 53, 54, 55, 56, 57, 58, 59, 60, 61, 62, 63, 64, 65, 66, 67, 68, 69, 70, 71, 72, 73, 74, 75, 76, 77, 78, 79, 80, 81, 82, 83, 8, 10, 84, 85, 86, 87, 88, 89, 90, 91, 92, 93, 94, 95, 96, 97, 98, 99, 100, 101] (by decide +kernel) (by decide +kernel)
set_option maxRecDepth 20000 in
theorem gX4_allocateWeak_X4_occupyNext : GoodIn wsX4_allocateWeak (wsV RX4 34 RX4 yX4_occupyNext wsX4_occupyNext) := goodIn_app (goodIn_of _ (by decide +kernel)) ggX4_allocateWeak_X4_occupyNext
theorem dX4_allocateWeak_0 : decode cX4_allocateWeak 0 = .ok (.aload_n 0, 1) := by decide +kernel
theorem dX4_allocateWeak_1 : decode cX4_allocateWeak 1 = .ok (.getfield 10, 3) := by decide +kernel
theorem dX4_allocateWeak_4 : decode cX4_allocateWeak 4 = .ok (.iload_n 1, 1) := by decide +kernel
theorem dX4_allocateWeak_5 : decode cX4_allocateWeak 5 = .ok (.invokevirtual 38, 3) := by decide +kernel
theorem dX4_allocateWeak_8 : decode cX4_allocateWeak 8 = .ok (.ifCond .ne 5, 3) := by decide +kernel
theorem dX4_allocateWeak_11 : decode cX4_allocateWeak 11 = .ok (.iconst (-1), 1) := by decide +kernel
theorem dX4_allocateWeak_12 : decode cX4_allocateWeak 12 = .ok (.ireturn, 1) := by decide +kernel
theorem dX4_allocateWeak_13 : decode cX4_allocateWeak 13 = .ok (.aload_n 0, 1) := by decide +kernel
theorem dX4_allocateWeak_14 : decode cX4_allocateWeak 14 = .ok (.iconst 2, 1) := by decide +kernel
theorem dX4_allocateWeak_15 : decode cX4_allocateWeak 15 = .ok (.iload_n 1, 1) := by decide +kernel
theorem dX4_allocateWeak_16 : decode cX4_allocateWeak 16 = .ok (.invokevirtual 34, 3) := by decide +kernel
theorem dX4_allocateWeak_19 : decode cX4_allocateWeak 19 = .ok (.ireturn, 1) := by decide +kernel
set_option maxRecDepth 20000 in
theorem ggX4_occupyNext_X3_smallestFree : GoodIn wsX4_occupyNext wsX3_smallestFree := goodIn_r _ [7, 8, 80, 81, 82, 83, 84, 85, 86, 87, 88] (by decide +kernel) (by decide +kernel)
set_option maxRecDepth 20000 in
theorem gX4_occupyNext_X3_smallestFree : GoodIn wsX4_occupyNext (wsV RX4 42 RX3 yX3_smallestFree wsX3_smallestFree) := goodIn_app (goodIn_of _ (by decide +kernel)) ggX4_occupyNext_X3_smallestFree
set_option maxRecDepth 20000 in
theorem ggX4_occupyNext_X0_push : GoodIn wsX4_occupyNext wsX0_push := goodIn_r _ [13, 14, 15, 16, 17, 6, 18, 19, 20, 21, 22, 23, 24, 25, 26, 27, 8, 28, 29, 30, 31, 32, 33, 34, 35, 36, 37, 38, 39, 40, 41, 42, 43, 44, 45, 46, 47, 48, 49, 50, 51, 52, 53, 54, 55, 56, 57, 58, 59, 60, 61, 62, 63, 64, 65, 66, 67, 68, 69, 89, 90, 91, 80, 81, 82, 83, 84, 85, 86, 87, 88, 92, 93] (by decide +kernel) (by decide +kernel)
set_option maxRecDepth 20000 in
theorem gX4_occupyNext_X0_push : GoodIn wsX4_occupyNext (wsV RX4 46 RX0 yX0_push wsX0_push) := goodIn_app (goodIn_of _ (by decide +kernel)) ggX4_occupyNext_X0_push
set_option maxRecDepth 20000 in
theorem ggX4_occupyNext_X3_occupy : GoodIn wsX4_occupyNext wsX3_occupy := goodIn_r _ [73, 8, 31, 74, 38, 75, 80, 81, 82, 83, 84, 85, 86, 87, 88] (by decide +kernel) (by decide +kernel)
set_option maxRecDepth 20000 in
theorem gX4_occupyNext_X3_occupy : GoodIn wsX4_occupyNext (wsV RX4 50 RX3 yX3_occupy wsX3_occupy) := goodIn_app (goodIn_of _ (by decide +kernel)) ggX4_occupyNext_X3_occupy
theorem dX4_occupyNext_0 : decode cX4_occupyNext 0 = .ok (.aload_n 0, 1) := by decide +kernel
theorem dX4_occupyNext_1 : decode cX4_occupyNext 1 = .ok (.getfield 10, 3) := by decide +kernel
theorem dX4_occupyNext_4 : decode cX4_occupyNext 4 = .ok (.invokevirtual 42, 3) := by decide +kernel
theorem dX4_occupyNext_7 : decode cX4_occupyNext 7 = .ok (.istore_n 3, 1) := by decide +kernel
theorem dX4_occupyNext_8 : decode cX4_occupyNext 8 = .ok (.iload_n 3, 1) := by decide +kernel
theorem dX4_occupyNext_9 : decode cX4_occupyNext 9 = .ok (.bipush (-9), 2) := by decide +kernel
theorem dX4_occupyNext_11 : decode cX4_occupyNext 11 = .ok (.if_icmp .ne 6, 3) := by decide +kernel
theorem dX4_occupyNext_14 : decode cX4_occupyNext 14 = .ok (.bipush (-3), 2) := by decide +kernel
theorem dX4_occupyNext_16 : decode cX4_occupyNext 16 = .ok (.ireturn, 1) := by decide +kernel
theorem dX4_occupyNext_17 : decode cX4_occupyNext 17 = .ok (.aload_n 0, 1) := by decide +kernel
theorem dX4_occupyNext_18 : decode cX4_occupyNext 18 = .ok (.getfield 19, 3) := by decide +kernel
theorem dX4_occupyNext_21 : decode cX4_occupyNext 21 = .ok (.aload_n 0, 1) := by decide +kernel
theorem dX4_occupyNext_22 : decode cX4_occupyNext 22 = .ok (.getfield 10, 3) := by decide +kernel
theorem dX4_occupyNext_25 : decode cX4_occupyNext 25 = .ok (.invokevirtual 46, 3) := by decide +kernel
theorem dX4_occupyNext_28 : decode cX4_occupyNext 28 = .ok (.aload_n 0, 1) := by decide +kernel
theorem dX4_occupyNext_29 : decode cX4_occupyNext 29 = .ok (.getfield 10, 3) := by decide +kernel
theorem dX4_occupyNext_32 : decode cX4_occupyNext 32 = .ok (.iload_n 3, 1) := by decide +kernel
theorem dX4_occupyNext_33 : decode cX4_occupyNext 33 = .ok (.iload_n 1, 1) := by decide +kernel
theorem dX4_occupyNext_34 : decode cX4_occupyNext 34 = .ok (.iload_n 2, 1) := by decide +kernel
theorem dX4_occupyNext_35 : decode cX4_occupyNext 35 = .ok (.invokevirtual 50, 3) := by decide +kernel
theorem dX4_occupyNext_38 : decode cX4_occupyNext 38 = .ok (.iload_n 3, 1) := by decide +kernel
theorem dX4_occupyNext_39 : decode cX4_occupyNext 39 = .ok (.ireturn, 1) := by decide +kernel
set_option maxRecDepth 20000 in
theorem ggX4_kind_X4_within : GoodIn wsX4_kind wsX4_within := goodIn_r _ [6] (by decide +kernel) (by decide +kernel)
set_option maxRecDepth 20000 in
theorem gX4_kind_X4_within : GoodIn wsX4_kind (va_wsS RX4 54 yX4_within wsX4_within) := goodIn_app (goodIn_of _ (by decide +kernel)) ggX4_kind_X4_within
theorem dX4_kind_0 : decode cX4_kind 0 = .ok (.iload_n 1, 1) := by decide +kernel
theorem dX4_kind_1 : decode cX4_kind 1 = .ok (.bipush 24, 2) := by decide +kernel
theorem dX4_kind_3 : decode cX4_kind 3 = .ok (.invokestatic 54, 3) := by decide +kernel
theorem dX4_kind_6 : decode cX4_kind 6 = .ok (.ifCond .eq 15, 3) := by decide +kernel
theorem dX4_kind_9 : decode cX4_kind 9 = .ok (.aload_n 0, 1) := by decide +kernel
theorem dX4_kind_10 : decode cX4_kind 10 = .ok (.getfield 10, 3) := by decide +kernel
theorem dX4_kind_13 : decode cX4_kind 13 = .ok (.getfield 58, 3) := by decide +kernel
theorem dX4_kind_16 : decode cX4_kind 16 = .ok (.iload_n 1, 1) := by decide +kernel
theorem dX4_kind_17 : decode cX4_kind 17 = .ok (.iaload, 1) := by decide +kernel
theorem dX4_kind_18 : decode cX4_kind 18 = .ok (.goto 5, 3) := by decide +kernel
theorem dX4_kind_21 : decode cX4_kind 21 = .ok (.bipush (-9), 2) := by decide +kernel
theorem dX4_kind_23 : decode cX4_kind 23 = .ok (.ireturn, 1) := by decide +kernel
set_option maxRecDepth 20000 in
theorem ggX4_setField_X3_hasKind : GoodIn wsX4_setField wsX3_hasKind := goodIn_r _ [8, 9, 10, 11, 12, 86, 87, 88, 89, 90, 91, 92, 93, 94] (by decide +kernel) (by decide +kernel)
set_option maxRecDepth 20000 in
theorem gX4_setField_X3_hasKind : GoodIn wsX4_setField (wsV RX4 62 RX3 yX3_hasKind wsX3_hasKind) := goodIn_app (goodIn_of _ (by decide +kernel)) ggX4_setField_X3_hasKind
set_option maxRecDepth 20000 in
theorem ggX4_setField_X4_within : GoodIn wsX4_setField wsX4_within := goodIn_r _ [12] (by decide +kernel) (by decide +kernel)
set_option maxRecDepth 20000 in
theorem gX4_setField_X4_within : GoodIn wsX4_setField (va_wsS RX4 54 yX4_within wsX4_within) := goodIn_app (goodIn_of _ (by decide +kernel)) ggX4_setField_X4_within
set_option maxRecDepth 20000 in
theorem ggX4_setField_X3_isContent : GoodIn wsX4_setField wsX3_isContent := goodIn_r _ [17, 18, 19, 20, 7, 21, 9, 10, 11, 12, 86, 87, 88, 89, 90, 91, 92, 93, 94] (by decide +kernel) (by decide +kernel)
set_option maxRecDepth 20000 in
theorem gX4_setField_X3_isContent : GoodIn wsX4_setField (wsV RX4 65 RX3 yX3_isContent wsX3_isContent) := goodIn_app (goodIn_of _ (by decide +kernel)) ggX4_setField_X3_isContent
set_option maxRecDepth 20000 in
theorem ggX4_setField_X0_push : GoodIn wsX4_setField wsX0_push := goodIn_r _ [26, 27, 28, 29, 30, 7, 31, 32, 33, 34, 35, 36, 37, 38, 39, 40, 9, 41, 42, 43, 44, 45, 46, 47, 48, 49, 50, 11, 51, 52, 53, 54, 55, 56, 57, 58, 59, 60, 61, 62, 63, 64, 65, 66, 67, 68, 69, 70, 71, 72, 73, 74, 75, 76, 77, 78, 79, 80, 81, 95, 96, 97, 86, 87, 88, 89, 90, 91, 92, 93, 94, 98, 99] (by decide +kernel) (by decide +kernel)
set_option maxRecDepth 20000 in
theorem gX4_setField_X0_push : GoodIn wsX4_setField (wsV RX4 46 RX0 yX0_push wsX0_push) := goodIn_app (goodIn_of _ (by decide +kernel)) ggX4_setField_X0_push
theorem dX4_setField_0 : decode cX4_setField 0 = .ok (.aload_n 0, 1) := by decide +kernel
theorem dX4_setField_1 : decode cX4_setField 1 = .ok (.getfield 10, 3) := by decide +kernel
theorem dX4_setField_4 : decode cX4_setField 4 = .ok (.iload_n 1, 1) := by decide +kernel
theorem dX4_setField_5 : decode cX4_setField 5 = .ok (.iconst 0, 1) := by decide +kernel
theorem dX4_setField_6 : decode cX4_setField 6 = .ok (.invokevirtual 62, 3) := by decide +kernel
theorem dX4_setField_9 : decode cX4_setField 9 = .ok (.ifCond .eq 22, 3) := by decide +kernel
theorem dX4_setField_12 : decode cX4_setField 12 = .ok (.iload_n 2, 1) := by decide +kernel
theorem dX4_setField_13 : decode cX4_setField 13 = .ok (.iconst 3, 1) := by decide +kernel
theorem dX4_setField_14 : decode cX4_setField 14 = .ok (.invokestatic 54, 3) := by decide +kernel
theorem dX4_setField_17 : decode cX4_setField 17 = .ok (.ifCond .eq 14, 3) := by decide +kernel
theorem dX4_setField_20 : decode cX4_setField 20 = .ok (.aload_n 0, 1) := by decide +kernel
theorem dX4_setField_21 : decode cX4_setField 21 = .ok (.getfield 10, 3) := by decide +kernel
theorem dX4_setField_24 : decode cX4_setField 24 = .ok (.iload_n 3, 1) := by decide +kernel
theorem dX4_setField_25 : decode cX4_setField 25 = .ok (.invokevirtual 65, 3) := by decide +kernel
theorem dX4_setField_28 : decode cX4_setField 28 = .ok (.ifCond .ne 5, 3) := by decide +kernel
theorem dX4_setField_31 : decode cX4_setField 31 = .ok (.iconst (-1), 1) := by decide +kernel
theorem dX4_setField_32 : decode cX4_setField 32 = .ok (.ireturn, 1) := by decide +kernel
theorem dX4_setField_33 : decode cX4_setField 33 = .ok (.iload_n 1, 1) := by decide +kernel
theorem dX4_setField_34 : decode cX4_setField 34 = .ok (.iconst 3, 1) := by decide +kernel
theorem dX4_setField_35 : decode cX4_setField 35 = .ok (.imul, 1) := by decide +kernel
theorem dX4_setField_36 : decode cX4_setField 36 = .ok (.iload_n 2, 1) := by decide +kernel
theorem dX4_setField_37 : decode cX4_setField 37 = .ok (.iadd, 1) := by decide +kernel
theorem dX4_setField_38 : decode cX4_setField 38 = .ok (.istore 4, 2) := by decide +kernel
theorem dX4_setField_40 : decode cX4_setField 40 = .ok (.aload_n 0, 1) := by decide +kernel
theorem dX4_setField_41 : decode cX4_setField 41 = .ok (.getfield 10, 3) := by decide +kernel
theorem dX4_setField_44 : decode cX4_setField 44 = .ok (.getfield 68, 3) := by decide +kernel
theorem dX4_setField_47 : decode cX4_setField 47 = .ok (.iload 4, 2) := by decide +kernel
theorem dX4_setField_49 : decode cX4_setField 49 = .ok (.iaload, 1) := by decide +kernel
theorem dX4_setField_50 : decode cX4_setField 50 = .ok (.istore 5, 2) := by decide +kernel
theorem dX4_setField_52 : decode cX4_setField 52 = .ok (.iload 5, 2) := by decide +kernel
theorem dX4_setField_54 : decode cX4_setField 54 = .ok (.iload_n 3, 1) := by decide +kernel
theorem dX4_setField_55 : decode cX4_setField 55 = .ok (.if_icmp .ne 6, 3) := by decide +kernel
theorem dX4_setField_58 : decode cX4_setField 58 = .ok (.bipush (-2), 2) := by decide +kernel
theorem dX4_setField_60 : decode cX4_setField 60 = .ok (.ireturn, 1) := by decide +kernel
theorem dX4_setField_61 : decode cX4_setField 61 = .ok (.aload_n 0, 1) := by decide +kernel
theorem dX4_setField_62 : decode cX4_setField 62 = .ok (.getfield 19, 3) := by decide +kernel
theorem dX4_setField_65 : decode cX4_setField 65 = .ok (.aload_n 0, 1) := by decide +kernel
theorem dX4_setField_66 : decode cX4_setField 66 = .ok (.getfield 10, 3) := by decide +kernel
theorem dX4_setField_69 : decode cX4_setField 69 = .ok (.invokevirtual 46, 3) := by decide +kernel
theorem dX4_setField_72 : decode cX4_setField 72 = .ok (.aload_n 0, 1) := by decide +kernel
theorem dX4_setField_73 : decode cX4_setField 73 = .ok (.getfield 10, 3) := by decide +kernel
theorem dX4_setField_76 : decode cX4_setField 76 = .ok (.getfield 68, 3) := by decide +kernel
theorem dX4_setField_79 : decode cX4_setField 79 = .ok (.iload 4, 2) := by decide +kernel
theorem dX4_setField_81 : decode cX4_setField 81 = .ok (.iload_n 3, 1) := by decide +kernel
theorem dX4_setField_82 : decode cX4_setField 82 = .ok (.iastore, 1) := by decide +kernel
theorem dX4_setField_83 : decode cX4_setField 83 = .ok (.iload 5, 2) := by decide +kernel
theorem dX4_setField_85 : decode cX4_setField 85 = .ok (.ireturn, 1) := by decide +kernel
set_option maxRecDepth 20000 in
theorem ggX4_field_X3_hasKind : GoodIn wsX4_field wsX3_hasKind := goodIn_r _ [7, 8, 9, 10, 11, 17, 18, 19, 20, 21, 22, 23, 24, 25] (by decide +kernel) (by decide +kernel)
set_option maxRecDepth 20000 in
theorem gX4_field_X3_hasKind : GoodIn wsX4_field (wsV RX4 62 RX3 yX3_hasKind wsX3_hasKind) := goodIn_app (goodIn_of _ (by decide +kernel)) ggX4_field_X3_hasKind
set_option maxRecDepth 20000 in
theorem ggX4_field_X4_within : GoodIn wsX4_field wsX4_within := goodIn_r _ [11] (by decide +kernel) (by decide +kernel)
set_option maxRecDepth 20000 in
theorem gX4_field_X4_within : GoodIn wsX4_field (va_wsS RX4 54 yX4_within wsX4_within) := goodIn_app (goodIn_of _ (by decide +kernel)) ggX4_field_X4_within
theorem dX4_field_0 : decode cX4_field 0 = .ok (.aload_n 0, 1) := by decide +kernel
theorem dX4_field_1 : decode cX4_field 1 = .ok (.getfield 10, 3) := by decide +kernel
theorem dX4_field_4 : decode cX4_field 4 = .ok (.iload_n 1, 1) := by decide +kernel
theorem dX4_field_5 : decode cX4_field 5 = .ok (.iconst 0, 1) := by decide +kernel
theorem dX4_field_6 : decode cX4_field 6 = .ok (.invokevirtual 62, 3) := by decide +kernel
theorem dX4_field_9 : decode cX4_field 9 = .ok (.ifCond .eq 11, 3) := by decide +kernel
theorem dX4_field_12 : decode cX4_field 12 = .ok (.iload_n 2, 1) := by decide +kernel
theorem dX4_field_13 : decode cX4_field 13 = .ok (.iconst 3, 1) := by decide +kernel
theorem dX4_field_14 : decode cX4_field 14 = .ok (.invokestatic 54, 3) := by decide +kernel
theorem dX4_field_17 : decode cX4_field 17 = .ok (.ifCond .ne 5, 3) := by decide +kernel
theorem dX4_field_20 : decode cX4_field 20 = .ok (.iconst (-1), 1) := by decide +kernel
theorem dX4_field_21 : decode cX4_field 21 = .ok (.ireturn, 1) := by decide +kernel
theorem dX4_field_22 : decode cX4_field 22 = .ok (.aload_n 0, 1) := by decide +kernel
theorem dX4_field_23 : decode cX4_field 23 = .ok (.getfield 10, 3) := by decide +kernel
theorem dX4_field_26 : decode cX4_field 26 = .ok (.getfield 68, 3) := by decide +kernel
theorem dX4_field_29 : decode cX4_field 29 = .ok (.iload_n 1, 1) := by decide +kernel
theorem dX4_field_30 : decode cX4_field 30 = .ok (.iconst 3, 1) := by decide +kernel
theorem dX4_field_31 : decode cX4_field 31 = .ok (.imul, 1) := by decide +kernel
theorem dX4_field_32 : decode cX4_field 32 = .ok (.iload_n 2, 1) := by decide +kernel
theorem dX4_field_33 : decode cX4_field 33 = .ok (.iadd, 1) := by decide +kernel
theorem dX4_field_34 : decode cX4_field 34 = .ok (.iaload, 1) := by decide +kernel
theorem dX4_field_35 : decode cX4_field 35 = .ok (.ireturn, 1) := by decide +kernel
set_option maxRecDepth 20000 in
theorem ggX4_setRoot_X4_within : GoodIn wsX4_setRoot wsX4_within := goodIn_r _ [7] (by decide +kernel) (by decide +kernel)
set_option maxRecDepth 20000 in
theorem gX4_setRoot_X4_within : GoodIn wsX4_setRoot (va_wsS RX4 54 yX4_within wsX4_within) := goodIn_app (goodIn_of _ (by decide +kernel)) ggX4_setRoot_X4_within
set_option maxRecDepth 20000 in
theorem ggX4_setRoot_X3_isContent : GoodIn wsX4_setRoot wsX3_isContent := goodIn_r _ [12, 13, 14, 15, 11, 16, 17, 5, 6, 7, 82, 83, 84, 85, 86, 87, 88, 89, 90] (by decide +kernel) (by decide +kernel)
set_option maxRecDepth 20000 in
theorem gX4_setRoot_X3_isContent : GoodIn wsX4_setRoot (wsV RX4 65 RX3 yX3_isContent wsX3_isContent) := goodIn_app (goodIn_of _ (by decide +kernel)) ggX4_setRoot_X3_isContent
set_option maxRecDepth 20000 in
theorem ggX4_setRoot_X0_push : GoodIn wsX4_setRoot wsX0_push := goodIn_r _ [22, 23, 24, 25, 26, 11, 27, 28, 29, 30, 31, 32, 33, 34, 35, 36, 17, 37, 38, 39, 40, 41, 42, 43, 44, 45, 46, 6, 47, 48, 49, 50, 51, 52, 53, 54, 55, 56, 57, 58, 59, 60, 61, 62, 63, 64, 65, 66, 67, 68, 69, 70, 71, 72, 73, 74, 75, 76, 77, 91, 92, 93, 82, 83, 84, 85, 86, 87, 88, 89, 90, 94, 95] (by decide +kernel) (by decide +kernel)
set_option maxRecDepth 20000 in
theorem gX4_setRoot_X0_push : GoodIn wsX4_setRoot (wsV RX4 46 RX0 yX0_push wsX0_push) := goodIn_app (goodIn_of _ (by decide +kernel)) ggX4_setRoot_X0_push
theorem dX4_setRoot_0 : decode cX4_setRoot 0 = .ok (.iload_n 1, 1) := by decide +kernel
theorem dX4_setRoot_1 : decode cX4_setRoot 1 = .ok (.bipush 6, 2) := by decide +kernel
theorem dX4_setRoot_3 : decode cX4_setRoot 3 = .ok (.invokestatic 54, 3) := by decide +kernel
theorem dX4_setRoot_6 : decode cX4_setRoot 6 = .ok (.ifCond .eq 14, 3) := by decide +kernel
theorem dX4_setRoot_9 : decode cX4_setRoot 9 = .ok (.aload_n 0, 1) := by decide +kernel
theorem dX4_setRoot_10 : decode cX4_setRoot 10 = .ok (.getfield 10, 3) := by decide +kernel
theorem dX4_setRoot_13 : decode cX4_setRoot 13 = .ok (.iload_n 2, 1) := by decide +kernel
theorem dX4_setRoot_14 : decode cX4_setRoot 14 = .ok (.invokevirtual 65, 3) := by decide +kernel
theorem dX4_setRoot_17 : decode cX4_setRoot 17 = .ok (.ifCond .ne 5, 3) := by decide +kernel
theorem dX4_setRoot_20 : decode cX4_setRoot 20 = .ok (.iconst (-1), 1) := by decide +kernel
theorem dX4_setRoot_21 : decode cX4_setRoot 21 = .ok (.ireturn, 1) := by decide +kernel
theorem dX4_setRoot_22 : decode cX4_setRoot 22 = .ok (.aload_n 0, 1) := by decide +kernel
theorem dX4_setRoot_23 : decode cX4_setRoot 23 = .ok (.getfield 10, 3) := by decide +kernel
theorem dX4_setRoot_26 : decode cX4_setRoot 26 = .ok (.getfield 71, 3) := by decide +kernel
theorem dX4_setRoot_29 : decode cX4_setRoot 29 = .ok (.iload_n 1, 1) := by decide +kernel
theorem dX4_setRoot_30 : decode cX4_setRoot 30 = .ok (.iaload, 1) := by decide +kernel
theorem dX4_setRoot_31 : decode cX4_setRoot 31 = .ok (.istore_n 3, 1) := by decide +kernel
theorem dX4_setRoot_32 : decode cX4_setRoot 32 = .ok (.iload_n 3, 1) := by decide +kernel
theorem dX4_setRoot_33 : decode cX4_setRoot 33 = .ok (.iload_n 2, 1) := by decide +kernel
theorem dX4_setRoot_34 : decode cX4_setRoot 34 = .ok (.if_icmp .ne 6, 3) := by decide +kernel
theorem dX4_setRoot_37 : decode cX4_setRoot 37 = .ok (.bipush (-2), 2) := by decide +kernel
theorem dX4_setRoot_39 : decode cX4_setRoot 39 = .ok (.ireturn, 1) := by decide +kernel
theorem dX4_setRoot_40 : decode cX4_setRoot 40 = .ok (.aload_n 0, 1) := by decide +kernel
theorem dX4_setRoot_41 : decode cX4_setRoot 41 = .ok (.getfield 19, 3) := by decide +kernel
theorem dX4_setRoot_44 : decode cX4_setRoot 44 = .ok (.aload_n 0, 1) := by decide +kernel
theorem dX4_setRoot_45 : decode cX4_setRoot 45 = .ok (.getfield 10, 3) := by decide +kernel
theorem dX4_setRoot_48 : decode cX4_setRoot 48 = .ok (.invokevirtual 46, 3) := by decide +kernel
theorem dX4_setRoot_51 : decode cX4_setRoot 51 = .ok (.aload_n 0, 1) := by decide +kernel
theorem dX4_setRoot_52 : decode cX4_setRoot 52 = .ok (.getfield 10, 3) := by decide +kernel
theorem dX4_setRoot_55 : decode cX4_setRoot 55 = .ok (.getfield 71, 3) := by decide +kernel
theorem dX4_setRoot_58 : decode cX4_setRoot 58 = .ok (.iload_n 1, 1) := by decide +kernel
theorem dX4_setRoot_59 : decode cX4_setRoot 59 = .ok (.iload_n 2, 1) := by decide +kernel
theorem dX4_setRoot_60 : decode cX4_setRoot 60 = .ok (.iastore, 1) := by decide +kernel
theorem dX4_setRoot_61 : decode cX4_setRoot 61 = .ok (.iload_n 3, 1) := by decide +kernel
theorem dX4_setRoot_62 : decode cX4_setRoot 62 = .ok (.ireturn, 1) := by decide +kernel
set_option maxRecDepth 20000 in
theorem ggX4_root_X4_within : GoodIn wsX4_root wsX4_within := goodIn_r _ [6] (by decide +kernel) (by decide +kernel)
set_option maxRecDepth 20000 in
theorem gX4_root_X4_within : GoodIn wsX4_root (va_wsS RX4 54 yX4_within wsX4_within) := goodIn_app (goodIn_of _ (by decide +kernel)) ggX4_root_X4_within
theorem dX4_root_0 : decode cX4_root 0 = .ok (.iload_n 1, 1) := by decide +kernel
theorem dX4_root_1 : decode cX4_root 1 = .ok (.bipush 6, 2) := by decide +kernel
theorem dX4_root_3 : decode cX4_root 3 = .ok (.invokestatic 54, 3) := by decide +kernel
theorem dX4_root_6 : decode cX4_root 6 = .ok (.ifCond .eq 15, 3) := by decide +kernel
theorem dX4_root_9 : decode cX4_root 9 = .ok (.aload_n 0, 1) := by decide +kernel
theorem dX4_root_10 : decode cX4_root 10 = .ok (.getfield 10, 3) := by decide +kernel
theorem dX4_root_13 : decode cX4_root 13 = .ok (.getfield 71, 3) := by decide +kernel
theorem dX4_root_16 : decode cX4_root 16 = .ok (.iload_n 1, 1) := by decide +kernel
theorem dX4_root_17 : decode cX4_root 17 = .ok (.iaload, 1) := by decide +kernel
theorem dX4_root_18 : decode cX4_root 18 = .ok (.goto 4, 3) := by decide +kernel
theorem dX4_root_21 : decode cX4_root 21 = .ok (.iconst (-1), 1) := by decide +kernel
theorem dX4_root_22 : decode cX4_root 22 = .ok (.ireturn, 1) := by decide +kernel
set_option maxRecDepth 20000 in
theorem ggX4_target_X3_hasKind : GoodIn wsX4_target wsX3_hasKind := goodIn_r _ [7, 8, 9, 10, 11, 16, 17, 18, 19, 20, 21, 22, 23, 24] (by decide +kernel) (by decide +kernel)
set_option maxRecDepth 20000 in
theorem gX4_target_X3_hasKind : GoodIn wsX4_target (wsV RX4 62 RX3 yX3_hasKind wsX3_hasKind) := goodIn_app (goodIn_of _ (by decide +kernel)) ggX4_target_X3_hasKind
theorem dX4_target_0 : decode cX4_target 0 = .ok (.aload_n 0, 1) := by decide +kernel
theorem dX4_target_1 : decode cX4_target 1 = .ok (.getfield 10, 3) := by decide +kernel
theorem dX4_target_4 : decode cX4_target 4 = .ok (.iload_n 1, 1) := by decide +kernel
theorem dX4_target_5 : decode cX4_target 5 = .ok (.iconst 2, 1) := by decide +kernel
theorem dX4_target_6 : decode cX4_target 6 = .ok (.invokevirtual 62, 3) := by decide +kernel
theorem dX4_target_9 : decode cX4_target 9 = .ok (.ifCond .eq 15, 3) := by decide +kernel
theorem dX4_target_12 : decode cX4_target 12 = .ok (.aload_n 0, 1) := by decide +kernel
theorem dX4_target_13 : decode cX4_target 13 = .ok (.getfield 10, 3) := by decide +kernel
theorem dX4_target_16 : decode cX4_target 16 = .ok (.getfield 74, 3) := by decide +kernel
theorem dX4_target_19 : decode cX4_target 19 = .ok (.iload_n 1, 1) := by decide +kernel
theorem dX4_target_20 : decode cX4_target 20 = .ok (.iaload, 1) := by decide +kernel
theorem dX4_target_21 : decode cX4_target 21 = .ok (.goto 4, 3) := by decide +kernel
theorem dX4_target_24 : decode cX4_target 24 = .ok (.iconst (-1), 1) := by decide +kernel
theorem dX4_target_25 : decode cX4_target 25 = .ok (.ireturn, 1) := by decide +kernel
set_option maxRecDepth 20000 in
theorem ggX4_setFinalizable_X3_isAllocated : GoodIn wsX4_setFinalizable wsX3_isAllocated := goodIn_r _ [8, 9, 10, 11, 12, 90, 91, 92, 93, 94, 95, 96, 97, 98] (by decide +kernel) (by decide +kernel)
set_option maxRecDepth 20000 in
theorem gX4_setFinalizable_X3_isAllocated : GoodIn wsX4_setFinalizable (wsV RX4 38 RX3 yX3_isAllocated wsX3_isAllocated) := goodIn_app (goodIn_of _ (by decide +kernel)) ggX4_setFinalizable_X3_isAllocated
set_option maxRecDepth 20000 in
theorem ggX4_setFinalizable_X4_contains : GoodIn wsX4_setFinalizable wsX4_contains := goodIn_r _ [15, 16, 17, 11, 18] (by decide +kernel) (by decide +kernel)
set_option maxRecDepth 20000 in
theorem gX4_setFinalizable_X4_contains : GoodIn wsX4_setFinalizable (va_wsS RX4 81 yX4_contains wsX4_contains) := goodIn_app (goodIn_of _ (by decide +kernel)) ggX4_setFinalizable_X4_contains
set_option maxRecDepth 20000 in
theorem ggX4_setFinalizable_X0_push : GoodIn wsX4_setFinalizable wsX0_push := goodIn_r _ [23, 24, 25, 26, 27, 7, 28, 29, 30, 31, 32, 33, 34, 35, 36, 37, 9, 38, 39, 40, 41, 42, 43, 44, 45, 46, 47, 11, 48, 49, 50, 51, 52, 53, 54, 55, 56, 57, 58, 59, 60, 61, 62, 63, 64, 65, 66, 67, 68, 69, 70, 71, 72, 73, 74, 75, 76, 77, 78, 99, 100, 101, 90, 91, 92, 93, 94, 95, 96, 97, 98, 102, 103] (by decide +kernel) (by decide +kernel)
set_option maxRecDepth 20000 in
theorem gX4_setFinalizable_X0_push : GoodIn wsX4_setFinalizable (wsV RX4 46 RX0 yX0_push wsX0_push) := goodIn_app (goodIn_of _ (by decide +kernel)) ggX4_setFinalizable_X0_push
set_option maxRecDepth 20000 in
theorem ggX4_setFinalizable_X4_setOf : GoodIn wsX4_setFinalizable wsX4_setOf := goodIn_r _ [18] (by decide +kernel) (by decide +kernel)
set_option maxRecDepth 20000 in
theorem gX4_setFinalizable_X4_setOf : GoodIn wsX4_setFinalizable (va_wsS RX4 84 yX4_setOf wsX4_setOf) := goodIn_app (goodIn_of _ (by decide +kernel)) ggX4_setFinalizable_X4_setOf
set_option maxRecDepth 20000 in
theorem ggX4_setFinalizable_J6_bitCount_0f7a4 : GoodIn wsX4_setFinalizable wsJ6_bitCount_0f7a4 := goodIn_r _ [82, 83, 84, 85] (by decide +kernel) (by decide +kernel)
set_option maxRecDepth 20000 in
theorem gX4_setFinalizable_J6_bitCount_0f7a4 : GoodIn wsX4_setFinalizable (va_wsS RX4 88 yJ6_bitCount_0f7a4 wsJ6_bitCount_0f7a4) := goodIn_app (goodIn_of _ (by decide +kernel)) ggX4_setFinalizable_J6_bitCount_0f7a4
theorem dX4_setFinalizable_0 : decode cX4_setFinalizable 0 = .ok (.aload_n 0, 1) := by decide +kernel
theorem dX4_setFinalizable_1 : decode cX4_setFinalizable 1 = .ok (.getfield 10, 3) := by decide +kernel
theorem dX4_setFinalizable_4 : decode cX4_setFinalizable 4 = .ok (.iload_n 1, 1) := by decide +kernel
theorem dX4_setFinalizable_5 : decode cX4_setFinalizable 5 = .ok (.invokevirtual 38, 3) := by decide +kernel
theorem dX4_setFinalizable_8 : decode cX4_setFinalizable 8 = .ok (.ifCond .eq 12, 3) := by decide +kernel
theorem dX4_setFinalizable_11 : decode cX4_setFinalizable 11 = .ok (.iload_n 2, 1) := by decide +kernel
theorem dX4_setFinalizable_12 : decode cX4_setFinalizable 12 = .ok (.ifCond .eq 10, 3) := by decide +kernel
theorem dX4_setFinalizable_15 : decode cX4_setFinalizable 15 = .ok (.iload_n 2, 1) := by decide +kernel
theorem dX4_setFinalizable_16 : decode cX4_setFinalizable 16 = .ok (.iconst 1, 1) := by decide +kernel
theorem dX4_setFinalizable_17 : decode cX4_setFinalizable 17 = .ok (.if_icmp .eq 5, 3) := by decide +kernel
theorem dX4_setFinalizable_20 : decode cX4_setFinalizable 20 = .ok (.iconst (-1), 1) := by decide +kernel
theorem dX4_setFinalizable_21 : decode cX4_setFinalizable 21 = .ok (.ireturn, 1) := by decide +kernel
theorem dX4_setFinalizable_22 : decode cX4_setFinalizable 22 = .ok (.aload_n 0, 1) := by decide +kernel
theorem dX4_setFinalizable_23 : decode cX4_setFinalizable 23 = .ok (.getfield 10, 3) := by decide +kernel
theorem dX4_setFinalizable_26 : decode cX4_setFinalizable 26 = .ok (.getfield 77, 3) := by decide +kernel
theorem dX4_setFinalizable_29 : decode cX4_setFinalizable 29 = .ok (.iload_n 1, 1) := by decide +kernel
theorem dX4_setFinalizable_30 : decode cX4_setFinalizable 30 = .ok (.invokestatic 81, 3) := by decide +kernel
theorem dX4_setFinalizable_33 : decode cX4_setFinalizable 33 = .ok (.iload_n 2, 1) := by decide +kernel
theorem dX4_setFinalizable_34 : decode cX4_setFinalizable 34 = .ok (.iconst 1, 1) := by decide +kernel
theorem dX4_setFinalizable_35 : decode cX4_setFinalizable 35 = .ok (.if_icmp .ne 7, 3) := by decide +kernel
theorem dX4_setFinalizable_38 : decode cX4_setFinalizable 38 = .ok (.iconst 1, 1) := by decide +kernel
theorem dX4_setFinalizable_39 : decode cX4_setFinalizable 39 = .ok (.goto 4, 3) := by decide +kernel
theorem dX4_setFinalizable_42 : decode cX4_setFinalizable 42 = .ok (.iconst 0, 1) := by decide +kernel
theorem dX4_setFinalizable_43 : decode cX4_setFinalizable 43 = .ok (.if_icmp .ne 6, 3) := by decide +kernel
theorem dX4_setFinalizable_46 : decode cX4_setFinalizable 46 = .ok (.bipush (-2), 2) := by decide +kernel
theorem dX4_setFinalizable_48 : decode cX4_setFinalizable 48 = .ok (.ireturn, 1) := by decide +kernel
theorem dX4_setFinalizable_49 : decode cX4_setFinalizable 49 = .ok (.aload_n 0, 1) := by decide +kernel
theorem dX4_setFinalizable_50 : decode cX4_setFinalizable 50 = .ok (.getfield 19, 3) := by decide +kernel
theorem dX4_setFinalizable_53 : decode cX4_setFinalizable 53 = .ok (.aload_n 0, 1) := by decide +kernel
theorem dX4_setFinalizable_54 : decode cX4_setFinalizable 54 = .ok (.getfield 10, 3) := by decide +kernel
theorem dX4_setFinalizable_57 : decode cX4_setFinalizable 57 = .ok (.invokevirtual 46, 3) := by decide +kernel
theorem dX4_setFinalizable_60 : decode cX4_setFinalizable 60 = .ok (.aload_n 0, 1) := by decide +kernel
theorem dX4_setFinalizable_61 : decode cX4_setFinalizable 61 = .ok (.getfield 10, 3) := by decide +kernel
theorem dX4_setFinalizable_64 : decode cX4_setFinalizable 64 = .ok (.dup, 1) := by decide +kernel
theorem dX4_setFinalizable_65 : decode cX4_setFinalizable 65 = .ok (.getfield 77, 3) := by decide +kernel
theorem dX4_setFinalizable_68 : decode cX4_setFinalizable 68 = .ok (.iload_n 1, 1) := by decide +kernel
theorem dX4_setFinalizable_69 : decode cX4_setFinalizable 69 = .ok (.invokestatic 84, 3) := by decide +kernel
theorem dX4_setFinalizable_72 : decode cX4_setFinalizable 72 = .ok (.ixor, 1) := by decide +kernel
theorem dX4_setFinalizable_73 : decode cX4_setFinalizable 73 = .ok (.putfield 77, 3) := by decide +kernel
theorem dX4_setFinalizable_76 : decode cX4_setFinalizable 76 = .ok (.aload_n 0, 1) := by decide +kernel
theorem dX4_setFinalizable_77 : decode cX4_setFinalizable 77 = .ok (.getfield 10, 3) := by decide +kernel
theorem dX4_setFinalizable_80 : decode cX4_setFinalizable 80 = .ok (.getfield 77, 3) := by decide +kernel
theorem dX4_setFinalizable_83 : decode cX4_setFinalizable 83 = .ok (.invokestatic 88, 3) := by decide +kernel
theorem dX4_setFinalizable_86 : decode cX4_setFinalizable 86 = .ok (.ireturn, 1) := by decide +kernel
set_option maxRecDepth 20000 in
theorem ggX4_put_X3_isTableAndKey : GoodIn wsX4_put wsX3_isTableAndKey := goodIn_r _ [9, 10, 11, 12, 8, 13, 14, 15, 16, 17, 18, 19, 20, 21, 91, 92, 93, 94, 95, 96, 97, 98, 99] (by decide +kernel) (by decide +kernel)
set_option maxRecDepth 20000 in
theorem gX4_put_X3_isTableAndKey : GoodIn wsX4_put (wsV RX4 93 RX3 yX3_isTableAndKey wsX3_isTableAndKey) := goodIn_app (goodIn_of _ (by decide +kernel)) ggX4_put_X3_isTableAndKey
set_option maxRecDepth 20000 in
theorem ggX4_put_X3_isAllocated : GoodIn wsX4_put wsX3_isAllocated := goodIn_r _ [21, 14, 15, 16, 17, 91, 92, 93, 94, 95, 96, 97, 98, 99] (by decide +kernel) (by decide +kernel)
set_option maxRecDepth 20000 in
theorem gX4_put_X3_isAllocated : GoodIn wsX4_put (wsV RX4 38 RX3 yX3_isAllocated wsX3_isAllocated) := goodIn_app (goodIn_of _ (by decide +kernel)) ggX4_put_X3_isAllocated
set_option maxRecDepth 20000 in
theorem ggX4_put_X3_placeOfKey : GoodIn wsX4_put wsX3_placeOfKey := goodIn_r _ [26, 27, 15, 16, 17, 91, 92, 93, 94, 95, 96, 97, 98, 99] (by decide +kernel) (by decide +kernel)
set_option maxRecDepth 20000 in
theorem gX4_put_X3_placeOfKey : GoodIn wsX4_put (wsV RX4 96 RX3 yX3_placeOfKey wsX3_placeOfKey) := goodIn_app (goodIn_of _ (by decide +kernel)) ggX4_put_X3_placeOfKey
set_option maxRecDepth 20000 in
theorem ggX4_put_X0_push : GoodIn wsX4_put wsX0_push := goodIn_r _ [32, 33, 34, 35, 36, 8, 37, 38, 39, 40, 41, 42, 43, 44, 45, 46, 14, 47, 27, 48, 49, 50, 51, 52, 53, 54, 55, 16, 56, 57, 58, 59, 60, 61, 62, 63, 64, 65, 66, 67, 68, 69, 70, 71, 72, 73, 74, 75, 76, 77, 78, 79, 80, 81, 82, 83, 84, 85, 86, 100, 101, 102, 91, 92, 93, 94, 95, 96, 97, 98, 99, 103, 104] (by decide +kernel) (by decide +kernel)
set_option maxRecDepth 20000 in
theorem gX4_put_X0_push : GoodIn wsX4_put (wsV RX4 46 RX0 yX0_push wsX0_push) := goodIn_app (goodIn_of _ (by decide +kernel)) ggX4_put_X0_push
theorem dX4_put_0 : decode cX4_put 0 = .ok (.aload_n 0, 1) := by decide +kernel
theorem dX4_put_1 : decode cX4_put 1 = .ok (.getfield 10, 3) := by decide +kernel
theorem dX4_put_4 : decode cX4_put 4 = .ok (.iload_n 1, 1) := by decide +kernel
theorem dX4_put_5 : decode cX4_put 5 = .ok (.iload_n 2, 1) := by decide +kernel
theorem dX4_put_6 : decode cX4_put 6 = .ok (.invokevirtual 93, 3) := by decide +kernel
theorem dX4_put_9 : decode cX4_put 9 = .ok (.ifCond .eq 14, 3) := by decide +kernel
theorem dX4_put_12 : decode cX4_put 12 = .ok (.aload_n 0, 1) := by decide +kernel
theorem dX4_put_13 : decode cX4_put 13 = .ok (.getfield 10, 3) := by decide +kernel
theorem dX4_put_16 : decode cX4_put 16 = .ok (.iload_n 3, 1) := by decide +kernel
theorem dX4_put_17 : decode cX4_put 17 = .ok (.invokevirtual 38, 3) := by decide +kernel
theorem dX4_put_20 : decode cX4_put 20 = .ok (.ifCond .ne 5, 3) := by decide +kernel
theorem dX4_put_23 : decode cX4_put 23 = .ok (.iconst (-1), 1) := by decide +kernel
theorem dX4_put_24 : decode cX4_put 24 = .ok (.ireturn, 1) := by decide +kernel
theorem dX4_put_25 : decode cX4_put 25 = .ok (.aload_n 0, 1) := by decide +kernel
theorem dX4_put_26 : decode cX4_put 26 = .ok (.getfield 10, 3) := by decide +kernel
theorem dX4_put_29 : decode cX4_put 29 = .ok (.iload_n 1, 1) := by decide +kernel
theorem dX4_put_30 : decode cX4_put 30 = .ok (.iload_n 2, 1) := by decide +kernel
theorem dX4_put_31 : decode cX4_put 31 = .ok (.invokevirtual 96, 3) := by decide +kernel
theorem dX4_put_34 : decode cX4_put 34 = .ok (.istore 4, 2) := by decide +kernel
theorem dX4_put_36 : decode cX4_put 36 = .ok (.iload 4, 2) := by decide +kernel
theorem dX4_put_38 : decode cX4_put 38 = .ok (.bipush (-9), 2) := by decide +kernel
theorem dX4_put_40 : decode cX4_put 40 = .ok (.if_icmp .ne 15, 3) := by decide +kernel
theorem dX4_put_43 : decode cX4_put 43 = .ok (.aload_n 0, 1) := by decide +kernel
theorem dX4_put_44 : decode cX4_put 44 = .ok (.getfield 10, 3) := by decide +kernel
theorem dX4_put_47 : decode cX4_put 47 = .ok (.iload_n 1, 1) := by decide +kernel
theorem dX4_put_48 : decode cX4_put 48 = .ok (.bipush (-9), 2) := by decide +kernel
theorem dX4_put_50 : decode cX4_put 50 = .ok (.invokevirtual 96, 3) := by decide +kernel
theorem dX4_put_53 : decode cX4_put 53 = .ok (.istore 4, 2) := by decide +kernel
theorem dX4_put_55 : decode cX4_put 55 = .ok (.iload 4, 2) := by decide +kernel
theorem dX4_put_57 : decode cX4_put 57 = .ok (.bipush (-9), 2) := by decide +kernel
theorem dX4_put_59 : decode cX4_put 59 = .ok (.if_icmp .ne 6, 3) := by decide +kernel
theorem dX4_put_62 : decode cX4_put 62 = .ok (.bipush (-3), 2) := by decide +kernel
theorem dX4_put_64 : decode cX4_put 64 = .ok (.ireturn, 1) := by decide +kernel
theorem dX4_put_65 : decode cX4_put 65 = .ok (.aload_n 0, 1) := by decide +kernel
theorem dX4_put_66 : decode cX4_put 66 = .ok (.getfield 19, 3) := by decide +kernel
theorem dX4_put_69 : decode cX4_put 69 = .ok (.aload_n 0, 1) := by decide +kernel
theorem dX4_put_70 : decode cX4_put 70 = .ok (.getfield 10, 3) := by decide +kernel
theorem dX4_put_73 : decode cX4_put 73 = .ok (.invokevirtual 46, 3) := by decide +kernel
theorem dX4_put_76 : decode cX4_put 76 = .ok (.aload_n 0, 1) := by decide +kernel
theorem dX4_put_77 : decode cX4_put 77 = .ok (.getfield 10, 3) := by decide +kernel
theorem dX4_put_80 : decode cX4_put 80 = .ok (.getfield 99, 3) := by decide +kernel
theorem dX4_put_83 : decode cX4_put 83 = .ok (.iload 4, 2) := by decide +kernel
theorem dX4_put_85 : decode cX4_put 85 = .ok (.iaload, 1) := by decide +kernel
theorem dX4_put_86 : decode cX4_put 86 = .ok (.istore 5, 2) := by decide +kernel
theorem dX4_put_88 : decode cX4_put 88 = .ok (.aload_n 0, 1) := by decide +kernel
theorem dX4_put_89 : decode cX4_put 89 = .ok (.getfield 10, 3) := by decide +kernel
theorem dX4_put_92 : decode cX4_put 92 = .ok (.getfield 102, 3) := by decide +kernel
theorem dX4_put_95 : decode cX4_put 95 = .ok (.iload 4, 2) := by decide +kernel
theorem dX4_put_97 : decode cX4_put 97 = .ok (.iload_n 2, 1) := by decide +kernel
theorem dX4_put_98 : decode cX4_put 98 = .ok (.iastore, 1) := by decide +kernel
theorem dX4_put_99 : decode cX4_put 99 = .ok (.aload_n 0, 1) := by decide +kernel
theorem dX4_put_100 : decode cX4_put 100 = .ok (.getfield 10, 3) := by decide +kernel
theorem dX4_put_103 : decode cX4_put 103 = .ok (.getfield 99, 3) := by decide +kernel
theorem dX4_put_106 : decode cX4_put 106 = .ok (.iload 4, 2) := by decide +kernel
theorem dX4_put_108 : decode cX4_put 108 = .ok (.iload_n 3, 1) := by decide +kernel
theorem dX4_put_109 : decode cX4_put 109 = .ok (.iastore, 1) := by decide +kernel
theorem dX4_put_110 : decode cX4_put 110 = .ok (.iload 5, 2) := by decide +kernel
theorem dX4_put_112 : decode cX4_put 112 = .ok (.ireturn, 1) := by decide +kernel
set_option maxRecDepth 20000 in
theorem ggX4_get_X3_isTableAndKey : GoodIn wsX4_get wsX3_isTableAndKey := goodIn_r _ [7, 8, 9, 10, 6, 11, 12, 13, 14, 15, 16, 17, 18, 19, 29, 30, 31, 32, 33, 34, 35, 36, 37] (by decide +kernel) (by decide +kernel)
set_option maxRecDepth 20000 in
theorem gX4_get_X3_isTableAndKey : GoodIn wsX4_get (wsV RX4 93 RX3 yX3_isTableAndKey wsX3_isTableAndKey) := goodIn_app (goodIn_of _ (by decide +kernel)) ggX4_get_X3_isTableAndKey
set_option maxRecDepth 20000 in
theorem ggX4_get_X3_placeOfKey : GoodIn wsX4_get wsX3_placeOfKey := goodIn_r _ [23, 24, 13, 14, 15, 29, 30, 31, 32, 33, 34, 35, 36, 37] (by decide +kernel) (by decide +kernel)
set_option maxRecDepth 20000 in
theorem gX4_get_X3_placeOfKey : GoodIn wsX4_get (wsV RX4 96 RX3 yX3_placeOfKey wsX3_placeOfKey) := goodIn_app (goodIn_of _ (by decide +kernel)) ggX4_get_X3_placeOfKey
theorem dX4_get_0 : decode cX4_get 0 = .ok (.aload_n 0, 1) := by decide +kernel
theorem dX4_get_1 : decode cX4_get 1 = .ok (.getfield 10, 3) := by decide +kernel
theorem dX4_get_4 : decode cX4_get 4 = .ok (.iload_n 1, 1) := by decide +kernel
theorem dX4_get_5 : decode cX4_get 5 = .ok (.iload_n 2, 1) := by decide +kernel
theorem dX4_get_6 : decode cX4_get 6 = .ok (.invokevirtual 93, 3) := by decide +kernel
theorem dX4_get_9 : decode cX4_get 9 = .ok (.ifCond .ne 5, 3) := by decide +kernel
theorem dX4_get_12 : decode cX4_get 12 = .ok (.iconst (-1), 1) := by decide +kernel
theorem dX4_get_13 : decode cX4_get 13 = .ok (.ireturn, 1) := by decide +kernel
theorem dX4_get_14 : decode cX4_get 14 = .ok (.aload_n 0, 1) := by decide +kernel
theorem dX4_get_15 : decode cX4_get 15 = .ok (.getfield 10, 3) := by decide +kernel
theorem dX4_get_18 : decode cX4_get 18 = .ok (.iload_n 1, 1) := by decide +kernel
theorem dX4_get_19 : decode cX4_get 19 = .ok (.iload_n 2, 1) := by decide +kernel
theorem dX4_get_20 : decode cX4_get 20 = .ok (.invokevirtual 96, 3) := by decide +kernel
theorem dX4_get_23 : decode cX4_get 23 = .ok (.istore_n 3, 1) := by decide +kernel
theorem dX4_get_24 : decode cX4_get 24 = .ok (.iload_n 3, 1) := by decide +kernel
theorem dX4_get_25 : decode cX4_get 25 = .ok (.bipush (-9), 2) := by decide +kernel
theorem dX4_get_27 : decode cX4_get 27 = .ok (.if_icmp .ne 8, 3) := by decide +kernel
theorem dX4_get_30 : decode cX4_get 30 = .ok (.bipush (-9), 2) := by decide +kernel
theorem dX4_get_32 : decode cX4_get 32 = .ok (.goto 12, 3) := by decide +kernel
theorem dX4_get_35 : decode cX4_get 35 = .ok (.aload_n 0, 1) := by decide +kernel
theorem dX4_get_36 : decode cX4_get 36 = .ok (.getfield 10, 3) := by decide +kernel
theorem dX4_get_39 : decode cX4_get 39 = .ok (.getfield 99, 3) := by decide +kernel
theorem dX4_get_42 : decode cX4_get 42 = .ok (.iload_n 3, 1) := by decide +kernel
theorem dX4_get_43 : decode cX4_get 43 = .ok (.iaload, 1) := by decide +kernel
theorem dX4_get_44 : decode cX4_get 44 = .ok (.ireturn, 1) := by decide +kernel
set_option maxRecDepth 20000 in
theorem ggX4_removeEntry_X3_isTableAndKey : GoodIn wsX4_removeEntry wsX3_isTableAndKey := goodIn_r _ [8, 9, 10, 11, 7, 12, 13, 14, 15, 16, 17, 18, 19, 20, 98, 99, 100, 101, 102, 103, 104, 105, 106] (by decide +kernel) (by decide +kernel)
set_option maxRecDepth 20000 in
theorem gX4_removeEntry_X3_isTableAndKey : GoodIn wsX4_removeEntry (wsV RX4 93 RX3 yX3_isTableAndKey wsX3_isTableAndKey) := goodIn_app (goodIn_of _ (by decide +kernel)) ggX4_removeEntry_X3_isTableAndKey
set_option maxRecDepth 20000 in
theorem ggX4_removeEntry_X3_placeOfKey : GoodIn wsX4_removeEntry wsX3_placeOfKey := goodIn_r _ [24, 25, 14, 15, 16, 98, 99, 100, 101, 102, 103, 104, 105, 106] (by decide +kernel) (by decide +kernel)
set_option maxRecDepth 20000 in
theorem gX4_removeEntry_X3_placeOfKey : GoodIn wsX4_removeEntry (wsV RX4 96 RX3 yX3_placeOfKey wsX3_placeOfKey) := goodIn_app (goodIn_of _ (by decide +kernel)) ggX4_removeEntry_X3_placeOfKey
set_option maxRecDepth 20000 in
theorem ggX4_removeEntry_X0_push : GoodIn wsX4_removeEntry wsX0_push := goodIn_r _ [30, 31, 32, 33, 34, 7, 35, 36, 37, 38, 39, 40, 41, 42, 43, 44, 13, 45, 25, 46, 47, 48, 49, 50, 51, 52, 53, 15, 54, 55, 56, 57, 58, 59, 60, 61, 62, 63, 64, 65, 66, 67, 68, 69, 70, 71, 72, 73, 74, 75, 76, 77, 78, 79, 80, 81, 82, 83, 84, 107, 108, 109, 98, 99, 100, 101, 102, 103, 104, 105, 106, 110, 111] (by decide +kernel) (by decide +kernel)
set_option maxRecDepth 20000 in
theorem gX4_removeEntry_X0_push : GoodIn wsX4_removeEntry (wsV RX4 46 RX0 yX0_push wsX0_push) := goodIn_app (goodIn_of _ (by decide +kernel)) ggX4_removeEntry_X0_push
set_option maxRecDepth 20000 in
theorem ggX4_removeEntry_X4_setOf : GoodIn wsX4_removeEntry wsX4_setOf := goodIn_r _ [87] (by decide +kernel) (by decide +kernel)
set_option maxRecDepth 20000 in
theorem gX4_removeEntry_X4_setOf : GoodIn wsX4_removeEntry (va_wsS RX4 84 yX4_setOf wsX4_setOf) := goodIn_app (goodIn_of _ (by decide +kernel)) ggX4_removeEntry_X4_setOf
set_option maxRecDepth 20000 in
theorem ggX4_removeEntry_X3_keepEntries : GoodIn wsX4_removeEntry wsX3_keepEntries := goodIn_r _ [91, 25, 46, 14, 15, 16, 92, 93, 85, 86, 87, 98, 99, 100, 101, 102, 103, 104, 105, 106] (by decide +kernel) (by decide +kernel)
set_option maxRecDepth 20000 in
theorem gX4_removeEntry_X3_keepEntries : GoodIn wsX4_removeEntry (wsV RX4 105 RX3 yX3_keepEntries wsX3_keepEntries) := goodIn_app (goodIn_of _ (by decide +kernel)) ggX4_removeEntry_X3_keepEntries
theorem dX4_removeEntry_0 : decode cX4_removeEntry 0 = .ok (.aload_n 0, 1) := by decide +kernel
theorem dX4_removeEntry_1 : decode cX4_removeEntry 1 = .ok (.getfield 10, 3) := by decide +kernel
theorem dX4_removeEntry_4 : decode cX4_removeEntry 4 = .ok (.iload_n 1, 1) := by decide +kernel
theorem dX4_removeEntry_5 : decode cX4_removeEntry 5 = .ok (.iload_n 2, 1) := by decide +kernel
theorem dX4_removeEntry_6 : decode cX4_removeEntry 6 = .ok (.invokevirtual 93, 3) := by decide +kernel
theorem dX4_removeEntry_9 : decode cX4_removeEntry 9 = .ok (.ifCond .ne 5, 3) := by decide +kernel
theorem dX4_removeEntry_12 : decode cX4_removeEntry 12 = .ok (.iconst (-1), 1) := by decide +kernel
theorem dX4_removeEntry_13 : decode cX4_removeEntry 13 = .ok (.ireturn, 1) := by decide +kernel
theorem dX4_removeEntry_14 : decode cX4_removeEntry 14 = .ok (.aload_n 0, 1) := by decide +kernel
theorem dX4_removeEntry_15 : decode cX4_removeEntry 15 = .ok (.getfield 10, 3) := by decide +kernel
theorem dX4_removeEntry_18 : decode cX4_removeEntry 18 = .ok (.iload_n 1, 1) := by decide +kernel
theorem dX4_removeEntry_19 : decode cX4_removeEntry 19 = .ok (.iload_n 2, 1) := by decide +kernel
theorem dX4_removeEntry_20 : decode cX4_removeEntry 20 = .ok (.invokevirtual 96, 3) := by decide +kernel
theorem dX4_removeEntry_23 : decode cX4_removeEntry 23 = .ok (.istore_n 3, 1) := by decide +kernel
theorem dX4_removeEntry_24 : decode cX4_removeEntry 24 = .ok (.iload_n 3, 1) := by decide +kernel
theorem dX4_removeEntry_25 : decode cX4_removeEntry 25 = .ok (.bipush (-9), 2) := by decide +kernel
theorem dX4_removeEntry_27 : decode cX4_removeEntry 27 = .ok (.if_icmp .ne 6, 3) := by decide +kernel
theorem dX4_removeEntry_30 : decode cX4_removeEntry 30 = .ok (.bipush (-2), 2) := by decide +kernel
theorem dX4_removeEntry_32 : decode cX4_removeEntry 32 = .ok (.ireturn, 1) := by decide +kernel
theorem dX4_removeEntry_33 : decode cX4_removeEntry 33 = .ok (.aload_n 0, 1) := by decide +kernel
theorem dX4_removeEntry_34 : decode cX4_removeEntry 34 = .ok (.getfield 19, 3) := by decide +kernel
theorem dX4_removeEntry_37 : decode cX4_removeEntry 37 = .ok (.aload_n 0, 1) := by decide +kernel
theorem dX4_removeEntry_38 : decode cX4_removeEntry 38 = .ok (.getfield 10, 3) := by decide +kernel
theorem dX4_removeEntry_41 : decode cX4_removeEntry 41 = .ok (.invokevirtual 46, 3) := by decide +kernel
theorem dX4_removeEntry_44 : decode cX4_removeEntry 44 = .ok (.aload_n 0, 1) := by decide +kernel
theorem dX4_removeEntry_45 : decode cX4_removeEntry 45 = .ok (.getfield 10, 3) := by decide +kernel
theorem dX4_removeEntry_48 : decode cX4_removeEntry 48 = .ok (.getfield 99, 3) := by decide +kernel
theorem dX4_removeEntry_51 : decode cX4_removeEntry 51 = .ok (.iload_n 3, 1) := by decide +kernel
theorem dX4_removeEntry_52 : decode cX4_removeEntry 52 = .ok (.iaload, 1) := by decide +kernel
theorem dX4_removeEntry_53 : decode cX4_removeEntry 53 = .ok (.istore 4, 2) := by decide +kernel
theorem dX4_removeEntry_55 : decode cX4_removeEntry 55 = .ok (.aload_n 0, 1) := by decide +kernel
theorem dX4_removeEntry_56 : decode cX4_removeEntry 56 = .ok (.getfield 10, 3) := by decide +kernel
theorem dX4_removeEntry_59 : decode cX4_removeEntry 59 = .ok (.iload_n 1, 1) := by decide +kernel
theorem dX4_removeEntry_60 : decode cX4_removeEntry 60 = .ok (.iload_n 2, 1) := by decide +kernel
theorem dX4_removeEntry_61 : decode cX4_removeEntry 61 = .ok (.invokestatic 84, 3) := by decide +kernel
theorem dX4_removeEntry_64 : decode cX4_removeEntry 64 = .ok (.iconst (-1), 1) := by decide +kernel
theorem dX4_removeEntry_65 : decode cX4_removeEntry 65 = .ok (.ixor, 1) := by decide +kernel
theorem dX4_removeEntry_66 : decode cX4_removeEntry 66 = .ok (.invokevirtual 105, 3) := by decide +kernel
theorem dX4_removeEntry_69 : decode cX4_removeEntry 69 = .ok (.iload 4, 2) := by decide +kernel
theorem dX4_removeEntry_71 : decode cX4_removeEntry 71 = .ok (.ireturn, 1) := by decide +kernel
set_option maxRecDepth 20000 in
theorem ggX4_entryCount_X3_hasKind : GoodIn wsX4_entryCount wsX3_hasKind := goodIn_r _ [6, 7, 8, 9, 10, 20, 21, 22, 23, 24, 25, 26, 27, 28] (by decide +kernel) (by decide +kernel)
set_option maxRecDepth 20000 in
theorem gX4_entryCount_X3_hasKind : GoodIn wsX4_entryCount (wsV RX4 62 RX3 yX3_hasKind wsX3_hasKind) := goodIn_app (goodIn_of _ (by decide +kernel)) ggX4_entryCount_X3_hasKind
set_option maxRecDepth 20000 in
theorem ggX4_entryCount_X3_placeOfKey : GoodIn wsX4_entryCount wsX3_placeOfKey := goodIn_r _ [14, 15, 8, 9, 10, 20, 21, 22, 23, 24, 25, 26, 27, 28] (by decide +kernel) (by decide +kernel)
set_option maxRecDepth 20000 in
theorem gX4_entryCount_X3_placeOfKey : GoodIn wsX4_entryCount (wsV RX4 96 RX3 yX3_placeOfKey wsX3_placeOfKey) := goodIn_app (goodIn_of _ (by decide +kernel)) ggX4_entryCount_X3_placeOfKey
theorem dX4_entryCount_0 : decode cX4_entryCount 0 = .ok (.aload_n 0, 1) := by decide +kernel
theorem dX4_entryCount_1 : decode cX4_entryCount 1 = .ok (.getfield 10, 3) := by decide +kernel
theorem dX4_entryCount_4 : decode cX4_entryCount 4 = .ok (.iload_n 1, 1) := by decide +kernel
theorem dX4_entryCount_5 : decode cX4_entryCount 5 = .ok (.iconst 1, 1) := by decide +kernel
theorem dX4_entryCount_6 : decode cX4_entryCount 6 = .ok (.invokevirtual 62, 3) := by decide +kernel
theorem dX4_entryCount_9 : decode cX4_entryCount 9 = .ok (.ifCond .ne 5, 3) := by decide +kernel
theorem dX4_entryCount_12 : decode cX4_entryCount 12 = .ok (.iconst (-1), 1) := by decide +kernel
theorem dX4_entryCount_13 : decode cX4_entryCount 13 = .ok (.ireturn, 1) := by decide +kernel
theorem dX4_entryCount_14 : decode cX4_entryCount 14 = .ok (.aload_n 0, 1) := by decide +kernel
theorem dX4_entryCount_15 : decode cX4_entryCount 15 = .ok (.getfield 10, 3) := by decide +kernel
theorem dX4_entryCount_18 : decode cX4_entryCount 18 = .ok (.iload_n 1, 1) := by decide +kernel
theorem dX4_entryCount_19 : decode cX4_entryCount 19 = .ok (.bipush (-9), 2) := by decide +kernel
theorem dX4_entryCount_21 : decode cX4_entryCount 21 = .ok (.invokevirtual 96, 3) := by decide +kernel
theorem dX4_entryCount_24 : decode cX4_entryCount 24 = .ok (.istore_n 2, 1) := by decide +kernel
theorem dX4_entryCount_25 : decode cX4_entryCount 25 = .ok (.iload_n 2, 1) := by decide +kernel
theorem dX4_entryCount_26 : decode cX4_entryCount 26 = .ok (.bipush (-9), 2) := by decide +kernel
theorem dX4_entryCount_28 : decode cX4_entryCount 28 = .ok (.if_icmp .ne 8, 3) := by decide +kernel
theorem dX4_entryCount_31 : decode cX4_entryCount 31 = .ok (.bipush 6, 2) := by decide +kernel
theorem dX4_entryCount_33 : decode cX4_entryCount 33 = .ok (.goto 9, 3) := by decide +kernel
theorem dX4_entryCount_36 : decode cX4_entryCount 36 = .ok (.iload_n 2, 1) := by decide +kernel
theorem dX4_entryCount_37 : decode cX4_entryCount 37 = .ok (.iload_n 1, 1) := by decide +kernel
theorem dX4_entryCount_38 : decode cX4_entryCount 38 = .ok (.bipush 6, 2) := by decide +kernel
theorem dX4_entryCount_40 : decode cX4_entryCount 40 = .ok (.imul, 1) := by decide +kernel
theorem dX4_entryCount_41 : decode cX4_entryCount 41 = .ok (.isub, 1) := by decide +kernel
theorem dX4_entryCount_42 : decode cX4_entryCount 42 = .ok (.ireturn, 1) := by decide +kernel
set_option maxRecDepth 20000 in
theorem ggX4_entryKey_X3_hasKind : GoodIn wsX4_entryKey wsX3_hasKind := goodIn_r _ [7, 8, 9, 10, 11, 16, 17, 18, 19, 20, 21, 22, 23, 24] (by decide +kernel) (by decide +kernel)
set_option maxRecDepth 20000 in
theorem gX4_entryKey_X3_hasKind : GoodIn wsX4_entryKey (wsV RX4 62 RX3 yX3_hasKind wsX3_hasKind) := goodIn_app (goodIn_of _ (by decide +kernel)) ggX4_entryKey_X3_hasKind
theorem dX4_entryKey_0 : decode cX4_entryKey 0 = .ok (.aload_n 0, 1) := by decide +kernel
theorem dX4_entryKey_1 : decode cX4_entryKey 1 = .ok (.getfield 10, 3) := by decide +kernel
theorem dX4_entryKey_4 : decode cX4_entryKey 4 = .ok (.iload_n 1, 1) := by decide +kernel
theorem dX4_entryKey_5 : decode cX4_entryKey 5 = .ok (.iconst 1, 1) := by decide +kernel
theorem dX4_entryKey_6 : decode cX4_entryKey 6 = .ok (.invokevirtual 62, 3) := by decide +kernel
theorem dX4_entryKey_9 : decode cX4_entryKey 9 = .ok (.ifCond .eq 7, 3) := by decide +kernel
theorem dX4_entryKey_12 : decode cX4_entryKey 12 = .ok (.iload_n 2, 1) := by decide +kernel
theorem dX4_entryKey_13 : decode cX4_entryKey 13 = .ok (.ifCond .ge 5, 3) := by decide +kernel
theorem dX4_entryKey_16 : decode cX4_entryKey 16 = .ok (.iconst (-1), 1) := by decide +kernel
theorem dX4_entryKey_17 : decode cX4_entryKey 17 = .ok (.ireturn, 1) := by decide +kernel
theorem dX4_entryKey_18 : decode cX4_entryKey 18 = .ok (.iload_n 2, 1) := by decide +kernel
theorem dX4_entryKey_19 : decode cX4_entryKey 19 = .ok (.bipush 6, 2) := by decide +kernel
theorem dX4_entryKey_21 : decode cX4_entryKey 21 = .ok (.if_icmp .ge 20, 3) := by decide +kernel
theorem dX4_entryKey_24 : decode cX4_entryKey 24 = .ok (.aload_n 0, 1) := by decide +kernel
theorem dX4_entryKey_25 : decode cX4_entryKey 25 = .ok (.getfield 10, 3) := by decide +kernel
theorem dX4_entryKey_28 : decode cX4_entryKey 28 = .ok (.getfield 102, 3) := by decide +kernel
theorem dX4_entryKey_31 : decode cX4_entryKey 31 = .ok (.iload_n 1, 1) := by decide +kernel
theorem dX4_entryKey_32 : decode cX4_entryKey 32 = .ok (.bipush 6, 2) := by decide +kernel
theorem dX4_entryKey_34 : decode cX4_entryKey 34 = .ok (.imul, 1) := by decide +kernel
theorem dX4_entryKey_35 : decode cX4_entryKey 35 = .ok (.iload_n 2, 1) := by decide +kernel
theorem dX4_entryKey_36 : decode cX4_entryKey 36 = .ok (.iadd, 1) := by decide +kernel
theorem dX4_entryKey_37 : decode cX4_entryKey 37 = .ok (.iaload, 1) := by decide +kernel
theorem dX4_entryKey_38 : decode cX4_entryKey 38 = .ok (.goto 5, 3) := by decide +kernel
theorem dX4_entryKey_41 : decode cX4_entryKey 41 = .ok (.bipush (-9), 2) := by decide +kernel
theorem dX4_entryKey_43 : decode cX4_entryKey 43 = .ok (.ireturn, 1) := by decide +kernel
set_option maxRecDepth 20000 in
theorem ggX4_collect_X0_push : GoodIn wsX4_collect wsX0_push := goodIn_r _ [12, 13, 14, 15, 16, 17, 18, 19, 20, 21, 22, 23, 24, 25, 26, 27, 28, 29, 30, 31, 32, 33, 34, 35, 36, 37, 38, 39, 40, 41, 42, 43, 44, 45, 46, 47, 48, 49, 50, 51, 52, 53, 54, 55, 56, 57, 58, 59, 60, 61, 62, 63, 64, 65, 66, 67, 68, 69, 70, 196, 197, 198, 187, 188, 189, 190, 191, 192, 193, 194, 195, 199, 200] (by decide +kernel) (by decide +kernel)
set_option maxRecDepth 20000 in
theorem gX4_collect_X0_push : GoodIn wsX4_collect (wsV RX4 46 RX0 yX0_push wsX0_push) := goodIn_app (goodIn_of _ (by decide +kernel)) ggX4_collect_X0_push
set_option maxRecDepth 20000 in
theorem ggX4_collect_X4_markFromRoots : GoodIn wsX4_collect wsX4_markFromRoots := goodIn_r _ [74, 3, 2, 75, 76, 77, 17, 78, 33, 79, 39, 80, 81, 82, 83, 84, 85, 86, 87, 88, 89, 90, 46, 47, 48, 91, 92, 93, 94, 95, 96, 97, 98, 99, 100, 101, 102, 103, 104, 105, 106, 107, 108, 109, 110, 111, 112, 113, 29, 114, 115, 116, 117, 118, 119, 120, 121, 30, 31, 179, 180, 181, 182, 187, 188, 189, 190, 191, 192, 193, 194, 195, 183, 184, 185, 186] (by decide +kernel) (by decide +kernel)
set_option maxRecDepth 20000 in
theorem gX4_collect_X4_markFromRoots : GoodIn wsX4_collect (wsV RX4 109 RX4 yX4_markFromRoots wsX4_markFromRoots) := goodIn_app (goodIn_of _ (by decide +kernel)) ggX4_collect_X4_markFromRoots
set_option maxRecDepth 20000 in
theorem ggX4_collect_X3_emptyWeakReferences : GoodIn wsX4_collect wsX3_emptyWeakReferences := goodIn_r _ [125, 32, 37, 103, 39, 104, 105, 79, 80, 126, 127, 128, 36, 129, 70, 52, 130, 131, 132, 133, 134, 63, 64, 65, 135, 42, 21, 43, 136, 137, 187, 188, 189, 190, 191, 192, 193, 194, 195, 199, 200] (by decide +kernel) (by decide +kernel)
set_option maxRecDepth 20000 in
theorem gX4_collect_X3_emptyWeakReferences : GoodIn wsX4_collect (wsV RX4 121 RX3 yX3_emptyWeakReferences wsX3_emptyWeakReferences) := goodIn_app (goodIn_of _ (by decide +kernel)) ggX4_collect_X3_emptyWeakReferences
set_option maxRecDepth 20000 in
theorem ggX4_collect_X3_finalizeObjects : GoodIn wsX4_collect wsX3_finalizeObjects := goodIn_r _ [141, 37, 57, 103, 39, 104, 105, 79, 80, 126, 127, 128, 36, 129, 70, 52, 130, 131, 132, 133, 134, 63, 64, 65, 135, 42, 21, 43, 136, 137, 187, 188, 189, 190, 191, 192, 193, 194, 195, 199, 200] (by decide +kernel) (by decide +kernel)
set_option maxRecDepth 20000 in
theorem gX4_collect_X3_finalizeObjects : GoodIn wsX4_collect (wsV RX4 125 RX3 yX3_finalizeObjects wsX3_finalizeObjects) := goodIn_app (goodIn_of _ (by decide +kernel)) ggX4_collect_X3_finalizeObjects
set_option maxRecDepth 20000 in
theorem ggX4_collect_X4_markFromRootsAnd : GoodIn wsX4_collect wsX4_markFromRootsAnd := goodIn_r _ [145, 3, 2, 75, 76, 77, 17, 78, 33, 79, 39, 80, 81, 82, 83, 84, 85, 86, 87, 88, 89, 90, 46, 47, 48, 91, 92, 93, 94, 95, 96, 97, 98, 99, 100, 101, 102, 103, 104, 105, 106, 107, 108, 109, 110, 111, 112, 113, 29, 114, 115, 116, 117, 118, 119, 120, 121, 30, 31, 179, 180, 181, 182, 187, 188, 189, 190, 191, 192, 193, 194, 195, 183, 184, 185, 186] (by decide +kernel) (by decide +kernel)
set_option maxRecDepth 20000 in
theorem gX4_collect_X4_markFromRootsAnd : GoodIn wsX4_collect (wsV RX4 129 RX4 yX4_markFromRootsAnd wsX4_markFromRootsAnd) := goodIn_app (goodIn_of _ (by decide +kernel)) ggX4_collect_X4_markFromRootsAnd
set_option maxRecDepth 20000 in
theorem ggX4_collect_X3_removeEntriesWithoutKey : GoodIn wsX4_collect wsX3_removeEntriesWithoutKey := goodIn_r _ [149, 103, 39, 104, 105, 79, 80, 150, 151, 152, 17, 153, 30, 37, 126, 127, 128, 36, 129, 70, 52, 130, 131, 132, 133, 134, 63, 64, 65, 135, 42, 21, 43, 136, 137, 154, 155, 156, 157, 31, 187, 188, 189, 190, 191, 192, 193, 194, 195, 199, 200] (by decide +kernel) (by decide +kernel)
set_option maxRecDepth 20000 in
theorem gX4_collect_X3_removeEntriesWithoutKey : GoodIn wsX4_collect (wsV RX4 132 RX3 yX3_removeEntriesWithoutKey wsX3_removeEntriesWithoutKey) := goodIn_app (goodIn_of _ (by decide +kernel)) ggX4_collect_X3_removeEntriesWithoutKey
set_option maxRecDepth 20000 in
theorem ggX4_collect_X3_allocated : GoodIn wsX4_collect wsX3_allocated := goodIn_r _ [161, 28, 79, 39, 80, 187, 188, 189, 190, 191, 192, 193, 194, 195] (by decide +kernel) (by decide +kernel)
set_option maxRecDepth 20000 in
theorem gX4_collect_X3_allocated : GoodIn wsX4_collect (wsV RX4 135 RX3 yX3_allocated wsX3_allocated) := goodIn_app (goodIn_of _ (by decide +kernel)) ggX4_collect_X3_allocated
set_option maxRecDepth 20000 in
theorem ggX4_collect_X3_free : GoodIn wsX4_collect wsX3_free := goodIn_r _ [165, 28, 32, 29, 57, 103, 39, 104, 105, 79, 80, 166, 167, 47, 168, 169, 170, 171, 154, 155, 156, 17, 157, 30, 31, 136, 137, 187, 188, 189, 190, 191, 192, 193, 194, 195] (by decide +kernel) (by decide +kernel)
set_option maxRecDepth 20000 in
theorem gX4_collect_X3_free : GoodIn wsX4_collect (wsV RX4 138 RX3 yX3_free wsX3_free) := goodIn_app (goodIn_of _ (by decide +kernel)) ggX4_collect_X3_free
set_option maxRecDepth 20000 in
theorem ggX4_collect_J6_bitCount_0f7a4 : GoodIn wsX4_collect wsJ6_bitCount_0f7a4 := goodIn_r _ [175, 176, 177, 178] (by decide +kernel) (by decide +kernel)
set_option maxRecDepth 20000 in
theorem gX4_collect_J6_bitCount_0f7a4 : GoodIn wsX4_collect (va_wsS RX4 88 yJ6_bitCount_0f7a4 wsJ6_bitCount_0f7a4) := goodIn_app (goodIn_of _ (by decide +kernel)) ggX4_collect_J6_bitCount_0f7a4
theorem dX4_collect_0 : decode cX4_collect 0 = .ok (.aload_n 0, 1) := by decide +kernel
theorem dX4_collect_1 : decode cX4_collect 1 = .ok (.getfield 19, 3) := by decide +kernel
theorem dX4_collect_4 : decode cX4_collect 4 = .ok (.aload_n 0, 1) := by decide +kernel
theorem dX4_collect_5 : decode cX4_collect 5 = .ok (.getfield 10, 3) := by decide +kernel
theorem dX4_collect_8 : decode cX4_collect 8 = .ok (.invokevirtual 46, 3) := by decide +kernel
theorem dX4_collect_11 : decode cX4_collect 11 = .ok (.aload_n 0, 1) := by decide +kernel
theorem dX4_collect_12 : decode cX4_collect 12 = .ok (.invokevirtual 109, 3) := by decide +kernel
theorem dX4_collect_15 : decode cX4_collect 15 = .ok (.aload_n 0, 1) := by decide +kernel
theorem dX4_collect_16 : decode cX4_collect 16 = .ok (.getfield 10, 3) := by decide +kernel
theorem dX4_collect_19 : decode cX4_collect 19 = .ok (.aload_n 0, 1) := by decide +kernel
theorem dX4_collect_20 : decode cX4_collect 20 = .ok (.getfield 30, 3) := by decide +kernel
theorem dX4_collect_23 : decode cX4_collect 23 = .ok (.getfield 112, 3) := by decide +kernel
theorem dX4_collect_26 : decode cX4_collect 26 = .ok (.putfield 115, 3) := by decide +kernel
theorem dX4_collect_29 : decode cX4_collect 29 = .ok (.aload_n 0, 1) := by decide +kernel
theorem dX4_collect_30 : decode cX4_collect 30 = .ok (.getfield 10, 3) := by decide +kernel
theorem dX4_collect_33 : decode cX4_collect 33 = .ok (.aload_n 0, 1) := by decide +kernel
theorem dX4_collect_34 : decode cX4_collect 34 = .ok (.getfield 30, 3) := by decide +kernel
theorem dX4_collect_37 : decode cX4_collect 37 = .ok (.getfield 118, 3) := by decide +kernel
theorem dX4_collect_40 : decode cX4_collect 40 = .ok (.iconst 1, 1) := by decide +kernel
theorem dX4_collect_41 : decode cX4_collect 41 = .ok (.invokevirtual 121, 3) := by decide +kernel
theorem dX4_collect_44 : decode cX4_collect 44 = .ok (.aload_n 0, 1) := by decide +kernel
theorem dX4_collect_45 : decode cX4_collect 45 = .ok (.getfield 10, 3) := by decide +kernel
theorem dX4_collect_48 : decode cX4_collect 48 = .ok (.getfield 77, 3) := by decide +kernel
theorem dX4_collect_51 : decode cX4_collect 51 = .ok (.aload_n 0, 1) := by decide +kernel
theorem dX4_collect_52 : decode cX4_collect 52 = .ok (.getfield 30, 3) := by decide +kernel
theorem dX4_collect_55 : decode cX4_collect 55 = .ok (.getfield 118, 3) := by decide +kernel
theorem dX4_collect_58 : decode cX4_collect 58 = .ok (.iconst (-1), 1) := by decide +kernel
theorem dX4_collect_59 : decode cX4_collect 59 = .ok (.ixor, 1) := by decide +kernel
theorem dX4_collect_60 : decode cX4_collect 60 = .ok (.iand, 1) := by decide +kernel
theorem dX4_collect_61 : decode cX4_collect 61 = .ok (.istore_n 1, 1) := by decide +kernel
theorem dX4_collect_62 : decode cX4_collect 62 = .ok (.aload_n 0, 1) := by decide +kernel
theorem dX4_collect_63 : decode cX4_collect 63 = .ok (.getfield 10, 3) := by decide +kernel
theorem dX4_collect_66 : decode cX4_collect 66 = .ok (.iload_n 1, 1) := by decide +kernel
theorem dX4_collect_67 : decode cX4_collect 67 = .ok (.invokevirtual 125, 3) := by decide +kernel
theorem dX4_collect_70 : decode cX4_collect 70 = .ok (.aload_n 0, 1) := by decide +kernel
theorem dX4_collect_71 : decode cX4_collect 71 = .ok (.iload_n 1, 1) := by decide +kernel
theorem dX4_collect_72 : decode cX4_collect 72 = .ok (.invokevirtual 129, 3) := by decide +kernel
theorem dX4_collect_75 : decode cX4_collect 75 = .ok (.aload_n 0, 1) := by decide +kernel
theorem dX4_collect_76 : decode cX4_collect 76 = .ok (.getfield 10, 3) := by decide +kernel
theorem dX4_collect_79 : decode cX4_collect 79 = .ok (.aload_n 0, 1) := by decide +kernel
theorem dX4_collect_80 : decode cX4_collect 80 = .ok (.getfield 30, 3) := by decide +kernel
theorem dX4_collect_83 : decode cX4_collect 83 = .ok (.getfield 118, 3) := by decide +kernel
theorem dX4_collect_86 : decode cX4_collect 86 = .ok (.invokevirtual 132, 3) := by decide +kernel
theorem dX4_collect_89 : decode cX4_collect 89 = .ok (.aload_n 0, 1) := by decide +kernel
theorem dX4_collect_90 : decode cX4_collect 90 = .ok (.getfield 10, 3) := by decide +kernel
theorem dX4_collect_93 : decode cX4_collect 93 = .ok (.aload_n 0, 1) := by decide +kernel
theorem dX4_collect_94 : decode cX4_collect 94 = .ok (.getfield 30, 3) := by decide +kernel
theorem dX4_collect_97 : decode cX4_collect 97 = .ok (.getfield 118, 3) := by decide +kernel
theorem dX4_collect_100 : decode cX4_collect 100 = .ok (.iconst 0, 1) := by decide +kernel
theorem dX4_collect_101 : decode cX4_collect 101 = .ok (.invokevirtual 121, 3) := by decide +kernel
theorem dX4_collect_104 : decode cX4_collect 104 = .ok (.aload_n 0, 1) := by decide +kernel
theorem dX4_collect_105 : decode cX4_collect 105 = .ok (.getfield 10, 3) := by decide +kernel
theorem dX4_collect_108 : decode cX4_collect 108 = .ok (.invokevirtual 135, 3) := by decide +kernel
theorem dX4_collect_111 : decode cX4_collect 111 = .ok (.aload_n 0, 1) := by decide +kernel
theorem dX4_collect_112 : decode cX4_collect 112 = .ok (.getfield 30, 3) := by decide +kernel
theorem dX4_collect_115 : decode cX4_collect 115 = .ok (.getfield 118, 3) := by decide +kernel
theorem dX4_collect_118 : decode cX4_collect 118 = .ok (.iconst (-1), 1) := by decide +kernel
theorem dX4_collect_119 : decode cX4_collect 119 = .ok (.ixor, 1) := by decide +kernel
theorem dX4_collect_120 : decode cX4_collect 120 = .ok (.iand, 1) := by decide +kernel
theorem dX4_collect_121 : decode cX4_collect 121 = .ok (.istore_n 2, 1) := by decide +kernel
theorem dX4_collect_122 : decode cX4_collect 122 = .ok (.aload_n 0, 1) := by decide +kernel
theorem dX4_collect_123 : decode cX4_collect 123 = .ok (.getfield 10, 3) := by decide +kernel
theorem dX4_collect_126 : decode cX4_collect 126 = .ok (.iload_n 2, 1) := by decide +kernel
theorem dX4_collect_127 : decode cX4_collect 127 = .ok (.invokevirtual 138, 3) := by decide +kernel
theorem dX4_collect_130 : decode cX4_collect 130 = .ok (.iload_n 2, 1) := by decide +kernel
theorem dX4_collect_131 : decode cX4_collect 131 = .ok (.invokestatic 88, 3) := by decide +kernel
theorem dX4_collect_134 : decode cX4_collect 134 = .ok (.ireturn, 1) := by decide +kernel
theorem dX4_lastRounds_0 : decode cX4_lastRounds 0 = .ok (.aload_n 0, 1) := by decide +kernel
theorem dX4_lastRounds_1 : decode cX4_lastRounds 1 = .ok (.getfield 10, 3) := by decide +kernel
theorem dX4_lastRounds_4 : decode cX4_lastRounds 4 = .ok (.getfield 115, 3) := by decide +kernel
theorem dX4_lastRounds_7 : decode cX4_lastRounds 7 = .ok (.ireturn, 1) := by decide +kernel
set_option maxRecDepth 20000 in
theorem ggX4_pollNotice_X0_push : GoodIn wsX4_pollNotice wsX0_push := goodIn_r _ [9, 10, 11, 12, 13, 14, 15, 16, 17, 18, 19, 20, 21, 22, 23, 24, 25, 26, 27, 28, 29, 30, 31, 32, 33, 34, 35, 36, 37, 38, 39, 40, 41, 42, 43, 44, 45, 46, 47, 48, 49, 50, 51, 52, 53, 54, 55, 56, 57, 58, 59, 60, 61, 62, 63, 64, 65, 66, 67, 89, 90, 91, 78, 79, 80, 81, 82, 83, 84, 85, 86, 87, 88] (by decide +kernel) (by decide +kernel)
set_option maxRecDepth 20000 in
theorem gX4_pollNotice_X0_push : GoodIn wsX4_pollNotice (wsV RX4 46 RX0 yX0_push wsX0_push) := goodIn_app (goodIn_of _ (by decide +kernel)) ggX4_pollNotice_X0_push
set_option maxRecDepth 20000 in
theorem ggX4_pollNotice_X2_removeOldest : GoodIn wsX4_pollNotice wsX2_removeOldest := goodIn_r _ [71, 49, 72, 60, 61, 62, 67, 73, 39, 18, 40, 87, 88] (by decide +kernel) (by decide +kernel)
set_option maxRecDepth 20000 in
theorem gX4_pollNotice_X2_removeOldest : GoodIn wsX4_pollNotice (wsV RX4 150 RX2 yX2_removeOldest wsX2_removeOldest) := goodIn_app (goodIn_of _ (by decide +kernel)) ggX4_pollNotice_X2_removeOldest
theorem dX4_pollNotice_0 : decode cX4_pollNotice 0 = .ok (.aload_n 0, 1) := by decide +kernel
theorem dX4_pollNotice_1 : decode cX4_pollNotice 1 = .ok (.getfield 10, 3) := by decide +kernel
theorem dX4_pollNotice_4 : decode cX4_pollNotice 4 = .ok (.getfield 141, 3) := by decide +kernel
theorem dX4_pollNotice_7 : decode cX4_pollNotice 7 = .ok (.getfield 145, 3) := by decide +kernel
theorem dX4_pollNotice_10 : decode cX4_pollNotice 10 = .ok (.ifCond .ne 6, 3) := by decide +kernel
theorem dX4_pollNotice_13 : decode cX4_pollNotice 13 = .ok (.bipush (-2), 2) := by decide +kernel
theorem dX4_pollNotice_15 : decode cX4_pollNotice 15 = .ok (.ireturn, 1) := by decide +kernel
theorem dX4_pollNotice_16 : decode cX4_pollNotice 16 = .ok (.aload_n 0, 1) := by decide +kernel
theorem dX4_pollNotice_17 : decode cX4_pollNotice 17 = .ok (.getfield 19, 3) := by decide +kernel
theorem dX4_pollNotice_20 : decode cX4_pollNotice 20 = .ok (.aload_n 0, 1) := by decide +kernel
theorem dX4_pollNotice_21 : decode cX4_pollNotice 21 = .ok (.getfield 10, 3) := by decide +kernel
theorem dX4_pollNotice_24 : decode cX4_pollNotice 24 = .ok (.invokevirtual 46, 3) := by decide +kernel
theorem dX4_pollNotice_27 : decode cX4_pollNotice 27 = .ok (.aload_n 0, 1) := by decide +kernel
theorem dX4_pollNotice_28 : decode cX4_pollNotice 28 = .ok (.getfield 10, 3) := by decide +kernel
theorem dX4_pollNotice_31 : decode cX4_pollNotice 31 = .ok (.getfield 141, 3) := by decide +kernel
theorem dX4_pollNotice_34 : decode cX4_pollNotice 34 = .ok (.invokevirtual 150, 3) := by decide +kernel
theorem dX4_pollNotice_37 : decode cX4_pollNotice 37 = .ok (.ireturn, 1) := by decide +kernel
theorem dX4_noticeCount_0 : decode cX4_noticeCount 0 = .ok (.aload_n 0, 1) := by decide +kernel
theorem dX4_noticeCount_1 : decode cX4_noticeCount 1 = .ok (.getfield 10, 3) := by decide +kernel
theorem dX4_noticeCount_4 : decode cX4_noticeCount 4 = .ok (.getfield 141, 3) := by decide +kernel
theorem dX4_noticeCount_7 : decode cX4_noticeCount 7 = .ok (.getfield 145, 3) := by decide +kernel
theorem dX4_noticeCount_10 : decode cX4_noticeCount 10 = .ok (.ireturn, 1) := by decide +kernel
set_option maxRecDepth 20000 in
theorem ggX4_objectCount_X3_allocated : GoodIn wsX4_objectCount wsX3_allocated := goodIn_r _ [6, 7, 8, 9, 10, 22, 23, 24, 25, 26, 27, 28, 29, 30] (by decide +kernel) (by decide +kernel)
set_option maxRecDepth 20000 in
theorem gX4_objectCount_X3_allocated : GoodIn wsX4_objectCount (wsV RX4 135 RX3 yX3_allocated wsX3_allocated) := goodIn_app (goodIn_of _ (by decide +kernel)) ggX4_objectCount_X3_allocated
set_option maxRecDepth 20000 in
theorem ggX4_objectCount_J6_bitCount_0f7a4 : GoodIn wsX4_objectCount wsJ6_bitCount_0f7a4 := goodIn_r _ [14, 15, 16, 17] (by decide +kernel) (by decide +kernel)
set_option maxRecDepth 20000 in
theorem gX4_objectCount_J6_bitCount_0f7a4 : GoodIn wsX4_objectCount (va_wsS RX4 88 yJ6_bitCount_0f7a4 wsJ6_bitCount_0f7a4) := goodIn_app (goodIn_of _ (by decide +kernel)) ggX4_objectCount_J6_bitCount_0f7a4
theorem dX4_objectCount_0 : decode cX4_objectCount 0 = .ok (.aload_n 0, 1) := by decide +kernel
theorem dX4_objectCount_1 : decode cX4_objectCount 1 = .ok (.getfield 10, 3) := by decide +kernel
theorem dX4_objectCount_4 : decode cX4_objectCount 4 = .ok (.invokevirtual 135, 3) := by decide +kernel
theorem dX4_objectCount_7 : decode cX4_objectCount 7 = .ok (.invokestatic 88, 3) := by decide +kernel
theorem dX4_objectCount_10 : decode cX4_objectCount 10 = .ok (.ireturn, 1) := by decide +kernel
set_option maxRecDepth 20000 in
theorem ggX4_reachableCount_X4_markFromRoots : GoodIn wsX4_reachableCount wsX4_markFromRoots := goodIn_r _ [7, 1, 8, 9, 10, 11, 12, 13, 14, 15, 6, 16, 17, 18, 19, 20, 21, 22, 23, 24, 25, 26, 27, 28, 29, 30, 31, 32, 33, 34, 35, 36, 37, 38, 39, 40, 41, 42, 43, 44, 45, 46, 47, 48, 49, 50, 51, 52, 53, 54, 55, 56, 57, 58, 59, 60, 61, 62, 63, 71, 72, 73, 74, 79, 80, 81, 82, 83, 84, 85, 86, 87, 75, 76, 77, 78] (by decide +kernel) (by decide +kernel)
set_option maxRecDepth 20000 in
theorem gX4_reachableCount_X4_markFromRoots : GoodIn wsX4_reachableCount (wsV RX4 109 RX4 yX4_markFromRoots wsX4_markFromRoots) := goodIn_app (goodIn_of _ (by decide +kernel)) ggX4_reachableCount_X4_markFromRoots
set_option maxRecDepth 20000 in
theorem ggX4_reachableCount_J6_bitCount_0f7a4 : GoodIn wsX4_reachableCount wsJ6_bitCount_0f7a4 := goodIn_r _ [67, 68, 69, 70] (by decide +kernel) (by decide +kernel)
set_option maxRecDepth 20000 in
theorem gX4_reachableCount_J6_bitCount_0f7a4 : GoodIn wsX4_reachableCount (va_wsS RX4 88 yJ6_bitCount_0f7a4 wsJ6_bitCount_0f7a4) := goodIn_app (goodIn_of _ (by decide +kernel)) ggX4_reachableCount_J6_bitCount_0f7a4
theorem dX4_reachableCount_0 : decode cX4_reachableCount 0 = .ok (.aload_n 0, 1) := by decide +kernel
theorem dX4_reachableCount_1 : decode cX4_reachableCount 1 = .ok (.invokevirtual 109, 3) := by decide +kernel
theorem dX4_reachableCount_4 : decode cX4_reachableCount 4 = .ok (.aload_n 0, 1) := by decide +kernel
theorem dX4_reachableCount_5 : decode cX4_reachableCount 5 = .ok (.getfield 30, 3) := by decide +kernel
theorem dX4_reachableCount_8 : decode cX4_reachableCount 8 = .ok (.getfield 118, 3) := by decide +kernel
theorem dX4_reachableCount_11 : decode cX4_reachableCount 11 = .ok (.invokestatic 88, 3) := by decide +kernel
theorem dX4_reachableCount_14 : decode cX4_reachableCount 14 = .ok (.ireturn, 1) := by decide +kernel
set_option maxRecDepth 20000 in
theorem ggX4_markRound_X3_isAllocated : GoodIn wsX4_markRound wsX3_isAllocated := goodIn_r _ [8, 9, 10, 11, 12, 79, 80, 81, 82, 83, 84, 85, 86, 87] (by decide +kernel) (by decide +kernel)
set_option maxRecDepth 20000 in
theorem gX4_markRound_X3_isAllocated : GoodIn wsX4_markRound (wsV RX4 38 RX3 yX3_isAllocated wsX3_isAllocated) := goodIn_app (goodIn_of _ (by decide +kernel)) ggX4_markRound_X3_isAllocated
set_option maxRecDepth 20000 in
theorem ggX4_markRound_X4_markFromRoots : GoodIn wsX4_markRound wsX4_markFromRoots := goodIn_r _ [16, 2, 1, 17, 18, 19, 7, 20, 21, 22, 11, 23, 24, 25, 26, 27, 28, 29, 30, 31, 32, 33, 34, 35, 36, 37, 38, 39, 40, 41, 42, 43, 44, 45, 46, 47, 48, 49, 50, 51, 52, 53, 54, 55, 56, 57, 58, 59, 60, 61, 62, 63, 64, 65, 66, 67, 68, 69, 70, 71, 72, 73, 74, 79, 80, 81, 82, 83, 84, 85, 86, 87, 75, 76, 77, 78] (by decide +kernel) (by decide +kernel)
set_option maxRecDepth 20000 in
theorem gX4_markRound_X4_markFromRoots : GoodIn wsX4_markRound (wsV RX4 109 RX4 yX4_markFromRoots wsX4_markFromRoots) := goodIn_app (goodIn_of _ (by decide +kernel)) ggX4_markRound_X4_markFromRoots
theorem dX4_markRound_0 : decode cX4_markRound 0 = .ok (.aload_n 0, 1) := by decide +kernel
theorem dX4_markRound_1 : decode cX4_markRound 1 = .ok (.getfield 10, 3) := by decide +kernel
theorem dX4_markRound_4 : decode cX4_markRound 4 = .ok (.iload_n 1, 1) := by decide +kernel
theorem dX4_markRound_5 : decode cX4_markRound 5 = .ok (.invokevirtual 38, 3) := by decide +kernel
theorem dX4_markRound_8 : decode cX4_markRound 8 = .ok (.ifCond .ne 5, 3) := by decide +kernel
theorem dX4_markRound_11 : decode cX4_markRound 11 = .ok (.iconst (-1), 1) := by decide +kernel
theorem dX4_markRound_12 : decode cX4_markRound 12 = .ok (.ireturn, 1) := by decide +kernel
theorem dX4_markRound_13 : decode cX4_markRound 13 = .ok (.aload_n 0, 1) := by decide +kernel
theorem dX4_markRound_14 : decode cX4_markRound 14 = .ok (.invokevirtual 109, 3) := by decide +kernel
theorem dX4_markRound_17 : decode cX4_markRound 17 = .ok (.aload_n 0, 1) := by decide +kernel
theorem dX4_markRound_18 : decode cX4_markRound 18 = .ok (.getfield 30, 3) := by decide +kernel
theorem dX4_markRound_21 : decode cX4_markRound 21 = .ok (.getfield 153, 3) := by decide +kernel
theorem dX4_markRound_24 : decode cX4_markRound 24 = .ok (.iload_n 1, 1) := by decide +kernel
theorem dX4_markRound_25 : decode cX4_markRound 25 = .ok (.iaload, 1) := by decide +kernel
theorem dX4_markRound_26 : decode cX4_markRound 26 = .ok (.ireturn, 1) := by decide +kernel
set_option maxRecDepth 20000 in
theorem ggX4_wouldFree_X4_markFromRootsAnd : GoodIn wsX4_wouldFree wsX4_markFromRootsAnd := goodIn_r _ [9, 3, 1, 10, 11, 12, 13, 14, 15, 16, 8, 17, 18, 19, 20, 21, 22, 23, 24, 25, 26, 27, 28, 29, 30, 31, 32, 33, 34, 35, 36, 37, 38, 39, 40, 41, 42, 43, 44, 45, 46, 47, 48, 49, 50, 51, 52, 53, 54, 55, 56, 57, 58, 59, 60, 61, 62, 63, 64, 77, 78, 79, 80, 81, 82, 83, 84, 85, 86, 87, 88, 89, 90, 91, 92, 93] (by decide +kernel) (by decide +kernel)
set_option maxRecDepth 20000 in
theorem gX4_wouldFree_X4_markFromRootsAnd : GoodIn wsX4_wouldFree (wsV RX4 129 RX4 yX4_markFromRootsAnd wsX4_markFromRootsAnd) := goodIn_app (goodIn_of _ (by decide +kernel)) ggX4_wouldFree_X4_markFromRootsAnd
set_option maxRecDepth 20000 in
theorem ggX4_wouldFree_X3_allocated : GoodIn wsX4_wouldFree wsX3_allocated := goodIn_r _ [68, 69, 16, 8, 17, 81, 82, 83, 84, 85, 86, 87, 88, 89] (by decide +kernel) (by decide +kernel)
set_option maxRecDepth 20000 in
theorem gX4_wouldFree_X3_allocated : GoodIn wsX4_wouldFree (wsV RX4 135 RX3 yX3_allocated wsX3_allocated) := goodIn_app (goodIn_of _ (by decide +kernel)) ggX4_wouldFree_X3_allocated
set_option maxRecDepth 20000 in
theorem ggX4_wouldFree_J6_bitCount_0f7a4 : GoodIn wsX4_wouldFree wsJ6_bitCount_0f7a4 := goodIn_r _ [73, 74, 75, 76] (by decide +kernel) (by decide +kernel)
set_option maxRecDepth 20000 in
theorem gX4_wouldFree_J6_bitCount_0f7a4 : GoodIn wsX4_wouldFree (va_wsS RX4 88 yJ6_bitCount_0f7a4 wsJ6_bitCount_0f7a4) := goodIn_app (goodIn_of _ (by decide +kernel)) ggX4_wouldFree_J6_bitCount_0f7a4
theorem dX4_wouldFree_0 : decode cX4_wouldFree 0 = .ok (.aload_n 0, 1) := by decide +kernel
theorem dX4_wouldFree_1 : decode cX4_wouldFree 1 = .ok (.aload_n 0, 1) := by decide +kernel
theorem dX4_wouldFree_2 : decode cX4_wouldFree 2 = .ok (.getfield 10, 3) := by decide +kernel
theorem dX4_wouldFree_5 : decode cX4_wouldFree 5 = .ok (.getfield 77, 3) := by decide +kernel
theorem dX4_wouldFree_8 : decode cX4_wouldFree 8 = .ok (.invokevirtual 129, 3) := by decide +kernel
theorem dX4_wouldFree_11 : decode cX4_wouldFree 11 = .ok (.aload_n 0, 1) := by decide +kernel
theorem dX4_wouldFree_12 : decode cX4_wouldFree 12 = .ok (.getfield 10, 3) := by decide +kernel
theorem dX4_wouldFree_15 : decode cX4_wouldFree 15 = .ok (.invokevirtual 135, 3) := by decide +kernel
theorem dX4_wouldFree_18 : decode cX4_wouldFree 18 = .ok (.aload_n 0, 1) := by decide +kernel
theorem dX4_wouldFree_19 : decode cX4_wouldFree 19 = .ok (.getfield 30, 3) := by decide +kernel
theorem dX4_wouldFree_22 : decode cX4_wouldFree 22 = .ok (.getfield 118, 3) := by decide +kernel
theorem dX4_wouldFree_25 : decode cX4_wouldFree 25 = .ok (.iconst (-1), 1) := by decide +kernel
theorem dX4_wouldFree_26 : decode cX4_wouldFree 26 = .ok (.ixor, 1) := by decide +kernel
theorem dX4_wouldFree_27 : decode cX4_wouldFree 27 = .ok (.iand, 1) := by decide +kernel
theorem dX4_wouldFree_28 : decode cX4_wouldFree 28 = .ok (.invokestatic 88, 3) := by decide +kernel
theorem dX4_wouldFree_31 : decode cX4_wouldFree 31 = .ok (.ireturn, 1) := by decide +kernel
set_option maxRecDepth 20000 in
theorem ggX4_retainedSize_X3_isAllocated : GoodIn wsX4_retainedSize wsX3_isAllocated := goodIn_r _ [8, 9, 10, 11, 12, 86, 87, 88, 89, 90, 91, 92, 93, 94] (by decide +kernel) (by decide +kernel)
set_option maxRecDepth 20000 in
theorem gX4_retainedSize_X3_isAllocated : GoodIn wsX4_retainedSize (wsV RX4 38 RX3 yX3_isAllocated wsX3_isAllocated) := goodIn_app (goodIn_of _ (by decide +kernel)) ggX4_retainedSize_X3_isAllocated
set_option maxRecDepth 20000 in
theorem ggX4_retainedSize_X4_markFromRoots : GoodIn wsX4_retainedSize wsX4_markFromRoots := goodIn_r _ [16, 2, 1, 17, 18, 19, 7, 20, 21, 22, 11, 23, 24, 25, 26, 27, 28, 29, 30, 31, 32, 33, 34, 35, 36, 37, 38, 39, 40, 41, 42, 43, 44, 45, 46, 47, 48, 49, 50, 51, 52, 53, 54, 55, 56, 57, 58, 59, 60, 61, 62, 63, 64, 65, 66, 67, 68, 69, 70, 78, 79, 80, 81, 86, 87, 88, 89, 90, 91, 92, 93, 94, 82, 83, 84, 85] (by decide +kernel) (by decide +kernel)
set_option maxRecDepth 20000 in
theorem gX4_retainedSize_X4_markFromRoots : GoodIn wsX4_retainedSize (wsV RX4 109 RX4 yX4_markFromRoots wsX4_markFromRoots) := goodIn_app (goodIn_of _ (by decide +kernel)) ggX4_retainedSize_X4_markFromRoots
set_option maxRecDepth 20000 in
theorem ggX4_retainedSize_X3_rootObjects : GoodIn wsX4_retainedSize wsX3_rootObjects := goodIn_r _ [20, 21, 22, 11, 23, 86, 87, 88, 89, 90, 91, 92, 93, 94] (by decide +kernel) (by decide +kernel)
set_option maxRecDepth 20000 in
theorem gX4_retainedSize_X3_rootObjects : GoodIn wsX4_retainedSize (wsV RX4 156 RX3 yX3_rootObjects wsX3_rootObjects) := goodIn_app (goodIn_of _ (by decide +kernel)) ggX4_retainedSize_X3_rootObjects
set_option maxRecDepth 20000 in
theorem ggX4_retainedSize_X4_setOf : GoodIn wsX4_retainedSize wsX4_setOf := goodIn_r _ [23] (by decide +kernel) (by decide +kernel)
set_option maxRecDepth 20000 in
theorem gX4_retainedSize_X4_setOf : GoodIn wsX4_retainedSize (va_wsS RX4 84 yX4_setOf wsX4_setOf) := goodIn_app (goodIn_of _ (by decide +kernel)) ggX4_retainedSize_X4_setOf
set_option maxRecDepth 20000 in
theorem ggX4_retainedSize_X1_run : GoodIn wsX4_retainedSize wsX1_run := goodIn_r _ [28, 29, 30, 31, 32, 33, 34, 35, 36, 37, 38, 39, 27, 40, 41, 42, 43, 44, 45, 46, 47, 48, 49, 11, 50, 51, 22, 23, 52, 53, 54, 7, 55, 56, 57, 58, 59, 60, 61, 62, 63, 64, 65, 66, 67, 68, 69, 70, 82, 83, 84, 85, 86, 87, 88, 89, 90, 91, 92, 93, 94] (by decide +kernel) (by decide +kernel)
set_option maxRecDepth 20000 in
theorem gX4_retainedSize_X1_run : GoodIn wsX4_retainedSize (wsV RX4 159 RX1 yX1_run wsX1_run) := goodIn_app (goodIn_of _ (by decide +kernel)) ggX4_retainedSize_X1_run
set_option maxRecDepth 20000 in
theorem ggX4_retainedSize_J6_bitCount_0f7a4 : GoodIn wsX4_retainedSize wsJ6_bitCount_0f7a4 := goodIn_r _ [74, 75, 76, 77] (by decide +kernel) (by decide +kernel)
set_option maxRecDepth 20000 in
theorem gX4_retainedSize_J6_bitCount_0f7a4 : GoodIn wsX4_retainedSize (va_wsS RX4 88 yJ6_bitCount_0f7a4 wsJ6_bitCount_0f7a4) := goodIn_app (goodIn_of _ (by decide +kernel)) ggX4_retainedSize_J6_bitCount_0f7a4
theorem dX4_retainedSize_0 : decode cX4_retainedSize 0 = .ok (.aload_n 0, 1) := by decide +kernel
theorem dX4_retainedSize_1 : decode cX4_retainedSize 1 = .ok (.getfield 10, 3) := by decide +kernel
theorem dX4_retainedSize_4 : decode cX4_retainedSize 4 = .ok (.iload_n 1, 1) := by decide +kernel
theorem dX4_retainedSize_5 : decode cX4_retainedSize 5 = .ok (.invokevirtual 38, 3) := by decide +kernel
theorem dX4_retainedSize_8 : decode cX4_retainedSize 8 = .ok (.ifCond .ne 5, 3) := by decide +kernel
theorem dX4_retainedSize_11 : decode cX4_retainedSize 11 = .ok (.iconst (-1), 1) := by decide +kernel
theorem dX4_retainedSize_12 : decode cX4_retainedSize 12 = .ok (.ireturn, 1) := by decide +kernel
theorem dX4_retainedSize_13 : decode cX4_retainedSize 13 = .ok (.aload_n 0, 1) := by decide +kernel
theorem dX4_retainedSize_14 : decode cX4_retainedSize 14 = .ok (.invokevirtual 109, 3) := by decide +kernel
theorem dX4_retainedSize_17 : decode cX4_retainedSize 17 = .ok (.aload_n 0, 1) := by decide +kernel
theorem dX4_retainedSize_18 : decode cX4_retainedSize 18 = .ok (.getfield 30, 3) := by decide +kernel
theorem dX4_retainedSize_21 : decode cX4_retainedSize 21 = .ok (.getfield 118, 3) := by decide +kernel
theorem dX4_retainedSize_24 : decode cX4_retainedSize 24 = .ok (.istore_n 2, 1) := by decide +kernel
theorem dX4_retainedSize_25 : decode cX4_retainedSize 25 = .ok (.aload_n 0, 1) := by decide +kernel
theorem dX4_retainedSize_26 : decode cX4_retainedSize 26 = .ok (.getfield 30, 3) := by decide +kernel
theorem dX4_retainedSize_29 : decode cX4_retainedSize 29 = .ok (.aload_n 0, 1) := by decide +kernel
theorem dX4_retainedSize_30 : decode cX4_retainedSize 30 = .ok (.getfield 10, 3) := by decide +kernel
theorem dX4_retainedSize_33 : decode cX4_retainedSize 33 = .ok (.aload_n 0, 1) := by decide +kernel
theorem dX4_retainedSize_34 : decode cX4_retainedSize 34 = .ok (.getfield 10, 3) := by decide +kernel
theorem dX4_retainedSize_37 : decode cX4_retainedSize 37 = .ok (.invokevirtual 156, 3) := by decide +kernel
theorem dX4_retainedSize_40 : decode cX4_retainedSize 40 = .ok (.iload_n 1, 1) := by decide +kernel
theorem dX4_retainedSize_41 : decode cX4_retainedSize 41 = .ok (.invokestatic 84, 3) := by decide +kernel
theorem dX4_retainedSize_44 : decode cX4_retainedSize 44 = .ok (.invokevirtual 159, 3) := by decide +kernel
theorem dX4_retainedSize_47 : decode cX4_retainedSize 47 = .ok (.iload_n 2, 1) := by decide +kernel
theorem dX4_retainedSize_48 : decode cX4_retainedSize 48 = .ok (.aload_n 0, 1) := by decide +kernel
theorem dX4_retainedSize_49 : decode cX4_retainedSize 49 = .ok (.getfield 30, 3) := by decide +kernel
theorem dX4_retainedSize_52 : decode cX4_retainedSize 52 = .ok (.getfield 118, 3) := by decide +kernel
theorem dX4_retainedSize_55 : decode cX4_retainedSize 55 = .ok (.iconst (-1), 1) := by decide +kernel
theorem dX4_retainedSize_56 : decode cX4_retainedSize 56 = .ok (.ixor, 1) := by decide +kernel
theorem dX4_retainedSize_57 : decode cX4_retainedSize 57 = .ok (.iand, 1) := by decide +kernel
theorem dX4_retainedSize_58 : decode cX4_retainedSize 58 = .ok (.invokestatic 88, 3) := by decide +kernel
theorem dX4_retainedSize_61 : decode cX4_retainedSize 61 = .ok (.ireturn, 1) := by decide +kernel
set_option maxRecDepth 20000 in
theorem ggX4_waitingEntries_X3_isAllocated : GoodIn wsX4_waitingEntries wsX3_isAllocated := goodIn_r _ [8, 9, 10, 11, 12, 88, 89, 90, 91, 92, 93, 94, 95, 96] (by decide +kernel) (by decide +kernel)
set_option maxRecDepth 20000 in
theorem gX4_waitingEntries_X3_isAllocated : GoodIn wsX4_waitingEntries (wsV RX4 38 RX3 yX3_isAllocated wsX3_isAllocated) := goodIn_app (goodIn_of _ (by decide +kernel)) ggX4_waitingEntries_X3_isAllocated
set_option maxRecDepth 20000 in
theorem ggX4_waitingEntries_X4_markFromRoots : GoodIn wsX4_waitingEntries wsX4_markFromRoots := goodIn_r _ [16, 2, 1, 17, 18, 19, 7, 20, 21, 22, 11, 23, 24, 25, 26, 27, 28, 29, 30, 31, 32, 33, 34, 35, 36, 37, 38, 39, 40, 41, 42, 43, 44, 45, 46, 47, 48, 49, 50, 51, 52, 53, 54, 55, 56, 57, 58, 59, 60, 61, 62, 63, 64, 65, 66, 67, 68, 69, 70, 80, 81, 82, 83, 88, 89, 90, 91, 92, 93, 94, 95, 96, 84, 85, 86, 87] (by decide +kernel) (by decide +kernel)
set_option maxRecDepth 20000 in
theorem gX4_waitingEntries_X4_markFromRoots : GoodIn wsX4_waitingEntries (wsV RX4 109 RX4 yX4_markFromRoots wsX4_markFromRoots) := goodIn_app (goodIn_of _ (by decide +kernel)) ggX4_waitingEntries_X4_markFromRoots
set_option maxRecDepth 20000 in
theorem ggX4_waitingEntries_X4_contains : GoodIn wsX4_waitingEntries wsX4_contains := goodIn_r _ [50, 51, 22, 11, 23] (by decide +kernel) (by decide +kernel)
set_option maxRecDepth 20000 in
theorem gX4_waitingEntries_X4_contains : GoodIn wsX4_waitingEntries (va_wsS RX4 81 yX4_contains wsX4_contains) := goodIn_app (goodIn_of _ (by decide +kernel)) ggX4_waitingEntries_X4_contains
set_option maxRecDepth 20000 in
theorem ggX4_waitingEntries_X3_tablesWithKey : GoodIn wsX4_waitingEntries wsX3_tablesWithKey := goodIn_r _ [75, 49, 11, 50, 51, 22, 23, 76, 77, 78, 7, 79, 69, 10, 12, 88, 89, 90, 91, 92, 93, 94, 95, 96] (by decide +kernel) (by decide +kernel)
set_option maxRecDepth 20000 in
theorem gX4_waitingEntries_X3_tablesWithKey : GoodIn wsX4_waitingEntries (wsV RX4 163 RX3 yX3_tablesWithKey wsX3_tablesWithKey) := goodIn_app (goodIn_of _ (by decide +kernel)) ggX4_waitingEntries_X3_tablesWithKey
theorem dX4_waitingEntries_0 : decode cX4_waitingEntries 0 = .ok (.aload_n 0, 1) := by decide +kernel
theorem dX4_waitingEntries_1 : decode cX4_waitingEntries 1 = .ok (.getfield 10, 3) := by decide +kernel
theorem dX4_waitingEntries_4 : decode cX4_waitingEntries 4 = .ok (.iload_n 1, 1) := by decide +kernel
theorem dX4_waitingEntries_5 : decode cX4_waitingEntries 5 = .ok (.invokevirtual 38, 3) := by decide +kernel
theorem dX4_waitingEntries_8 : decode cX4_waitingEntries 8 = .ok (.ifCond .ne 5, 3) := by decide +kernel
theorem dX4_waitingEntries_11 : decode cX4_waitingEntries 11 = .ok (.iconst (-1), 1) := by decide +kernel
theorem dX4_waitingEntries_12 : decode cX4_waitingEntries 12 = .ok (.ireturn, 1) := by decide +kernel
theorem dX4_waitingEntries_13 : decode cX4_waitingEntries 13 = .ok (.aload_n 0, 1) := by decide +kernel
theorem dX4_waitingEntries_14 : decode cX4_waitingEntries 14 = .ok (.invokevirtual 109, 3) := by decide +kernel
theorem dX4_waitingEntries_17 : decode cX4_waitingEntries 17 = .ok (.aload_n 0, 1) := by decide +kernel
theorem dX4_waitingEntries_18 : decode cX4_waitingEntries 18 = .ok (.getfield 30, 3) := by decide +kernel
theorem dX4_waitingEntries_21 : decode cX4_waitingEntries 21 = .ok (.getfield 118, 3) := by decide +kernel
theorem dX4_waitingEntries_24 : decode cX4_waitingEntries 24 = .ok (.iload_n 1, 1) := by decide +kernel
theorem dX4_waitingEntries_25 : decode cX4_waitingEntries 25 = .ok (.invokestatic 81, 3) := by decide +kernel
theorem dX4_waitingEntries_28 : decode cX4_waitingEntries 28 = .ok (.ifCond .eq 7, 3) := by decide +kernel
theorem dX4_waitingEntries_31 : decode cX4_waitingEntries 31 = .ok (.iconst 0, 1) := by decide +kernel
theorem dX4_waitingEntries_32 : decode cX4_waitingEntries 32 = .ok (.goto 18, 3) := by decide +kernel
theorem dX4_waitingEntries_35 : decode cX4_waitingEntries 35 = .ok (.aload_n 0, 1) := by decide +kernel
theorem dX4_waitingEntries_36 : decode cX4_waitingEntries 36 = .ok (.getfield 10, 3) := by decide +kernel
theorem dX4_waitingEntries_39 : decode cX4_waitingEntries 39 = .ok (.aload_n 0, 1) := by decide +kernel
theorem dX4_waitingEntries_40 : decode cX4_waitingEntries 40 = .ok (.getfield 30, 3) := by decide +kernel
theorem dX4_waitingEntries_43 : decode cX4_waitingEntries 43 = .ok (.getfield 118, 3) := by decide +kernel
theorem dX4_waitingEntries_46 : decode cX4_waitingEntries 46 = .ok (.iload_n 1, 1) := by decide +kernel
theorem dX4_waitingEntries_47 : decode cX4_waitingEntries 47 = .ok (.invokevirtual 163, 3) := by decide +kernel
theorem dX4_waitingEntries_50 : decode cX4_waitingEntries 50 = .ok (.ireturn, 1) := by decide +kernel
set_option maxRecDepth 20000 in
theorem ggX4_referenceCount_X3_isAllocated : GoodIn wsX4_referenceCount wsX3_isAllocated := goodIn_r _ [11, 12, 13, 14, 15, 23, 24, 25, 26, 27, 28, 29, 30, 31] (by decide +kernel) (by decide +kernel)
set_option maxRecDepth 20000 in
theorem gX4_referenceCount_X3_isAllocated : GoodIn wsX4_referenceCount (wsV RX4 38 RX3 yX3_isAllocated wsX3_isAllocated) := goodIn_app (goodIn_of _ (by decide +kernel)) ggX4_referenceCount_X3_isAllocated
set_option maxRecDepth 20000 in
theorem ggX4_referenceCount_X4_occurrences : GoodIn wsX4_referenceCount wsX4_occurrences := goodIn_r _ [18] (by decide +kernel) (by decide +kernel)
set_option maxRecDepth 20000 in
theorem gX4_referenceCount_X4_occurrences : GoodIn wsX4_referenceCount (va_wsS RX4 166 yX4_occurrences wsX4_occurrences) := goodIn_app (goodIn_of _ (by decide +kernel)) ggX4_referenceCount_X4_occurrences
theorem dX4_referenceCount_0 : decode cX4_referenceCount 0 = .ok (.aload_n 0, 1) := by decide +kernel
theorem dX4_referenceCount_1 : decode cX4_referenceCount 1 = .ok (.getfield 10, 3) := by decide +kernel
theorem dX4_referenceCount_4 : decode cX4_referenceCount 4 = .ok (.iload_n 1, 1) := by decide +kernel
theorem dX4_referenceCount_5 : decode cX4_referenceCount 5 = .ok (.invokevirtual 38, 3) := by decide +kernel
theorem dX4_referenceCount_8 : decode cX4_referenceCount 8 = .ok (.ifCond .ne 5, 3) := by decide +kernel
theorem dX4_referenceCount_11 : decode cX4_referenceCount 11 = .ok (.iconst (-1), 1) := by decide +kernel
theorem dX4_referenceCount_12 : decode cX4_referenceCount 12 = .ok (.ireturn, 1) := by decide +kernel
theorem dX4_referenceCount_13 : decode cX4_referenceCount 13 = .ok (.aload_n 0, 1) := by decide +kernel
theorem dX4_referenceCount_14 : decode cX4_referenceCount 14 = .ok (.getfield 10, 3) := by decide +kernel
theorem dX4_referenceCount_17 : decode cX4_referenceCount 17 = .ok (.getfield 71, 3) := by decide +kernel
theorem dX4_referenceCount_20 : decode cX4_referenceCount 20 = .ok (.iload_n 1, 1) := by decide +kernel
theorem dX4_referenceCount_21 : decode cX4_referenceCount 21 = .ok (.invokestatic 166, 3) := by decide +kernel
theorem dX4_referenceCount_24 : decode cX4_referenceCount 24 = .ok (.aload_n 0, 1) := by decide +kernel
theorem dX4_referenceCount_25 : decode cX4_referenceCount 25 = .ok (.getfield 10, 3) := by decide +kernel
theorem dX4_referenceCount_28 : decode cX4_referenceCount 28 = .ok (.getfield 68, 3) := by decide +kernel
theorem dX4_referenceCount_31 : decode cX4_referenceCount 31 = .ok (.iload_n 1, 1) := by decide +kernel
theorem dX4_referenceCount_32 : decode cX4_referenceCount 32 = .ok (.invokestatic 166, 3) := by decide +kernel
theorem dX4_referenceCount_35 : decode cX4_referenceCount 35 = .ok (.iadd, 1) := by decide +kernel
theorem dX4_referenceCount_36 : decode cX4_referenceCount 36 = .ok (.aload_n 0, 1) := by decide +kernel
theorem dX4_referenceCount_37 : decode cX4_referenceCount 37 = .ok (.getfield 10, 3) := by decide +kernel
theorem dX4_referenceCount_40 : decode cX4_referenceCount 40 = .ok (.getfield 102, 3) := by decide +kernel
theorem dX4_referenceCount_43 : decode cX4_referenceCount 43 = .ok (.iload_n 1, 1) := by decide +kernel
theorem dX4_referenceCount_44 : decode cX4_referenceCount 44 = .ok (.invokestatic 166, 3) := by decide +kernel
theorem dX4_referenceCount_47 : decode cX4_referenceCount 47 = .ok (.iadd, 1) := by decide +kernel
theorem dX4_referenceCount_48 : decode cX4_referenceCount 48 = .ok (.aload_n 0, 1) := by decide +kernel
theorem dX4_referenceCount_49 : decode cX4_referenceCount 49 = .ok (.getfield 10, 3) := by decide +kernel
theorem dX4_referenceCount_52 : decode cX4_referenceCount 52 = .ok (.getfield 99, 3) := by decide +kernel
theorem dX4_referenceCount_55 : decode cX4_referenceCount 55 = .ok (.iload_n 1, 1) := by decide +kernel
theorem dX4_referenceCount_56 : decode cX4_referenceCount 56 = .ok (.invokestatic 166, 3) := by decide +kernel
theorem dX4_referenceCount_59 : decode cX4_referenceCount 59 = .ok (.iadd, 1) := by decide +kernel
theorem dX4_referenceCount_60 : decode cX4_referenceCount 60 = .ok (.aload_n 0, 1) := by decide +kernel
theorem dX4_referenceCount_61 : decode cX4_referenceCount 61 = .ok (.getfield 10, 3) := by decide +kernel
theorem dX4_referenceCount_64 : decode cX4_referenceCount 64 = .ok (.getfield 74, 3) := by decide +kernel
theorem dX4_referenceCount_67 : decode cX4_referenceCount 67 = .ok (.iload_n 1, 1) := by decide +kernel
theorem dX4_referenceCount_68 : decode cX4_referenceCount 68 = .ok (.invokestatic 166, 3) := by decide +kernel
theorem dX4_referenceCount_71 : decode cX4_referenceCount 71 = .ok (.iadd, 1) := by decide +kernel
theorem dX4_referenceCount_72 : decode cX4_referenceCount 72 = .ok (.ireturn, 1) := by decide +kernel
set_option maxRecDepth 20000 in
theorem ggX4_markFromRoots_X3_rootObjects : GoodIn wsX4_markFromRoots wsX3_rootObjects := goodIn_r _ [7, 8, 9, 10, 11, 63, 64, 65, 66, 67, 68, 69, 70, 71] (by decide +kernel) (by decide +kernel)
set_option maxRecDepth 20000 in
theorem gX4_markFromRoots_X3_rootObjects : GoodIn wsX4_markFromRoots (wsV RX4 156 RX3 yX3_rootObjects wsX3_rootObjects) := goodIn_app (goodIn_of _ (by decide +kernel)) ggX4_markFromRoots_X3_rootObjects
set_option maxRecDepth 20000 in
theorem ggX4_markFromRoots_X1_run : GoodIn wsX4_markFromRoots wsX1_run := goodIn_r _ [16, 17, 18, 19, 20, 21, 22, 23, 24, 25, 26, 27, 15, 28, 29, 30, 31, 32, 33, 34, 35, 36, 37, 10, 38, 39, 9, 11, 40, 41, 42, 6, 43, 44, 45, 46, 47, 48, 49, 50, 51, 52, 53, 54, 55, 56, 57, 58, 72, 73, 74, 75, 63, 64, 65, 66, 67, 68, 69, 70, 71] (by decide +kernel) (by decide +kernel)
set_option maxRecDepth 20000 in
theorem gX4_markFromRoots_X1_run : GoodIn wsX4_markFromRoots (wsV RX4 159 RX1 yX1_run wsX1_run) := goodIn_app (goodIn_of _ (by decide +kernel)) ggX4_markFromRoots_X1_run
theorem dX4_markFromRoots_0 : decode cX4_markFromRoots 0 = .ok (.aload_n 0, 1) := by decide +kernel
theorem dX4_markFromRoots_1 : decode cX4_markFromRoots 1 = .ok (.getfield 30, 3) := by decide +kernel
theorem dX4_markFromRoots_4 : decode cX4_markFromRoots 4 = .ok (.aload_n 0, 1) := by decide +kernel
theorem dX4_markFromRoots_5 : decode cX4_markFromRoots 5 = .ok (.getfield 10, 3) := by decide +kernel
theorem dX4_markFromRoots_8 : decode cX4_markFromRoots 8 = .ok (.aload_n 0, 1) := by decide +kernel
theorem dX4_markFromRoots_9 : decode cX4_markFromRoots 9 = .ok (.getfield 10, 3) := by decide +kernel
theorem dX4_markFromRoots_12 : decode cX4_markFromRoots 12 = .ok (.invokevirtual 156, 3) := by decide +kernel
theorem dX4_markFromRoots_15 : decode cX4_markFromRoots 15 = .ok (.iconst 0, 1) := by decide +kernel
theorem dX4_markFromRoots_16 : decode cX4_markFromRoots 16 = .ok (.invokevirtual 159, 3) := by decide +kernel
theorem dX4_markFromRoots_19 : decode cX4_markFromRoots 19 = .ok (.return_, 1) := by decide +kernel
set_option maxRecDepth 20000 in
theorem ggX4_markFromRootsAnd_X3_rootObjects : GoodIn wsX4_markFromRootsAnd wsX3_rootObjects := goodIn_r _ [7, 8, 9, 10, 11, 63, 64, 65, 66, 67, 68, 69, 70, 71] (by decide +kernel) (by decide +kernel)
set_option maxRecDepth 20000 in
theorem gX4_markFromRootsAnd_X3_rootObjects : GoodIn wsX4_markFromRootsAnd (wsV RX4 156 RX3 yX3_rootObjects wsX3_rootObjects) := goodIn_app (goodIn_of _ (by decide +kernel)) ggX4_markFromRootsAnd_X3_rootObjects
set_option maxRecDepth 20000 in
theorem ggX4_markFromRootsAnd_X1_run : GoodIn wsX4_markFromRootsAnd wsX1_run := goodIn_r _ [16, 17, 18, 19, 20, 21, 22, 23, 24, 25, 26, 27, 15, 28, 29, 30, 31, 32, 33, 34, 35, 36, 37, 10, 38, 39, 9, 11, 40, 41, 42, 6, 43, 44, 45, 46, 47, 48, 49, 50, 51, 52, 53, 54, 55, 56, 57, 58, 72, 73, 74, 75, 63, 64, 65, 66, 67, 68, 69, 70, 71] (by decide +kernel) (by decide +kernel)
set_option maxRecDepth 20000 in
theorem gX4_markFromRootsAnd_X1_run : GoodIn wsX4_markFromRootsAnd (wsV RX4 159 RX1 yX1_run wsX1_run) := goodIn_app (goodIn_of _ (by decide +kernel)) ggX4_markFromRootsAnd_X1_run
theorem dX4_markFromRootsAnd_0 : decode cX4_markFromRootsAnd 0 = .ok (.aload_n 0, 1) := by decide +kernel
theorem dX4_markFromRootsAnd_1 : decode cX4_markFromRootsAnd 1 = .ok (.getfield 30, 3) := by decide +kernel
theorem dX4_markFromRootsAnd_4 : decode cX4_markFromRootsAnd 4 = .ok (.aload_n 0, 1) := by decide +kernel
theorem dX4_markFromRootsAnd_5 : decode cX4_markFromRootsAnd 5 = .ok (.getfield 10, 3) := by decide +kernel
theorem dX4_markFromRootsAnd_8 : decode cX4_markFromRootsAnd 8 = .ok (.aload_n 0, 1) := by decide +kernel
theorem dX4_markFromRootsAnd_9 : decode cX4_markFromRootsAnd 9 = .ok (.getfield 10, 3) := by decide +kernel
theorem dX4_markFromRootsAnd_12 : decode cX4_markFromRootsAnd 12 = .ok (.invokevirtual 156, 3) := by decide +kernel
theorem dX4_markFromRootsAnd_15 : decode cX4_markFromRootsAnd 15 = .ok (.iload_n 1, 1) := by decide +kernel
theorem dX4_markFromRootsAnd_16 : decode cX4_markFromRootsAnd 16 = .ok (.ior, 1) := by decide +kernel
theorem dX4_markFromRootsAnd_17 : decode cX4_markFromRootsAnd 17 = .ok (.iconst 0, 1) := by decide +kernel
theorem dX4_markFromRootsAnd_18 : decode cX4_markFromRootsAnd 18 = .ok (.invokevirtual 159, 3) := by decide +kernel
theorem dX4_markFromRootsAnd_21 : decode cX4_markFromRootsAnd 21 = .ok (.return_, 1) := by decide +kernel
set_option maxRecDepth 20000 in
theorem ggX4_undo_X0_popInto : GoodIn wsX4_undo wsX0_popInto := goodIn_r _ [8, 9, 10, 11, 12, 13, 14, 15, 16, 17, 18, 19, 20, 21, 22, 23, 24, 25, 26, 27, 28, 29, 30, 31, 32, 33, 34, 35, 36, 37, 38, 39, 40, 41, 42, 43, 48, 49, 50, 51, 52, 53, 54, 55, 56, 57, 58, 59, 60, 61] (by decide +kernel) (by decide +kernel)
set_option maxRecDepth 20000 in
theorem gX4_undo_X0_popInto : GoodIn wsX4_undo (wsV RX4 170 RX0 yX0_popInto wsX0_popInto) := goodIn_app (goodIn_of _ (by decide +kernel)) ggX4_undo_X0_popInto
theorem dX4_undo_0 : decode cX4_undo 0 = .ok (.aload_n 0, 1) := by decide +kernel
theorem dX4_undo_1 : decode cX4_undo 1 = .ok (.getfield 19, 3) := by decide +kernel
theorem dX4_undo_4 : decode cX4_undo 4 = .ok (.aload_n 0, 1) := by decide +kernel
theorem dX4_undo_5 : decode cX4_undo 5 = .ok (.getfield 10, 3) := by decide +kernel
theorem dX4_undo_8 : decode cX4_undo 8 = .ok (.invokevirtual 170, 3) := by decide +kernel
theorem dX4_undo_11 : decode cX4_undo 11 = .ok (.ifCond .ne 6, 3) := by decide +kernel
theorem dX4_undo_14 : decode cX4_undo 14 = .ok (.bipush (-2), 2) := by decide +kernel
theorem dX4_undo_16 : decode cX4_undo 16 = .ok (.ireturn, 1) := by decide +kernel
theorem dX4_undo_17 : decode cX4_undo 17 = .ok (.aload_n 0, 1) := by decide +kernel
theorem dX4_undo_18 : decode cX4_undo 18 = .ok (.getfield 19, 3) := by decide +kernel
theorem dX4_undo_21 : decode cX4_undo 21 = .ok (.getfield 174, 3) := by decide +kernel
theorem dX4_undo_24 : decode cX4_undo 24 = .ok (.ireturn, 1) := by decide +kernel
theorem dX4_undoDepth_0 : decode cX4_undoDepth 0 = .ok (.aload_n 0, 1) := by decide +kernel
theorem dX4_undoDepth_1 : decode cX4_undoDepth 1 = .ok (.getfield 19, 3) := by decide +kernel
theorem dX4_undoDepth_4 : decode cX4_undoDepth 4 = .ok (.getfield 174, 3) := by decide +kernel
theorem dX4_undoDepth_7 : decode cX4_undoDepth 7 = .ok (.ireturn, 1) := by decide +kernel
set_option maxRecDepth 20000 in
theorem ggX4_save_X4_within : GoodIn wsX4_save wsX4_within := goodIn_r _ [9] (by decide +kernel) (by decide +kernel)
set_option maxRecDepth 20000 in
theorem gX4_save_X4_within : GoodIn wsX4_save (va_wsS RX4 54 yX4_within wsX4_within) := goodIn_app (goodIn_of _ (by decide +kernel)) ggX4_save_X4_within
set_option maxRecDepth 20000 in
theorem ggX4_save_X3_init : GoodIn wsX4_save wsX3_init := goodIn_r _ [11, 12, 13, 14, 15, 16, 17, 18, 19, 20, 21, 22, 23, 24, 25, 8, 26, 27, 28, 29, 30, 31, 32, 33, 34, 35, 36, 37, 38, 39, 77, 78, 79, 80, 81, 82, 83, 84, 85, 86, 87] (by decide +kernel) (by decide +kernel)
set_option maxRecDepth 20000 in
theorem gX4_save_X3_init_n9 : GoodIn wsX4_save (wsX3_init) := ggX4_save_X3_init
set_option maxRecDepth 20000 in
theorem ggX4_save_X3_copyFrom : GoodIn wsX4_save wsX3_copyFrom := goodIn_r _ [43, 15, 16, 17, 18, 19, 20, 24, 44, 45, 46, 8, 47, 48, 49, 29, 50, 51, 52, 53, 54, 55, 56, 57, 23, 58, 39, 59, 77, 78, 79, 80, 81, 82, 83, 84, 85, 86, 87] (by decide +kernel) (by decide +kernel)
set_option maxRecDepth 20000 in
theorem gX4_save_X3_copyFrom : GoodIn wsX4_save (wsV RX4 177 RX3 yX3_copyFrom wsX3_copyFrom) := goodIn_app (goodIn_of _ (by decide +kernel)) ggX4_save_X3_copyFrom
set_option maxRecDepth 20000 in
theorem ggX4_save_X3_allocated : GoodIn wsX4_save wsX3_allocated := goodIn_r _ [63, 15, 64, 8, 65, 77, 78, 79, 80, 81, 82, 83, 84, 85] (by decide +kernel) (by decide +kernel)
set_option maxRecDepth 20000 in
theorem gX4_save_X3_allocated : GoodIn wsX4_save (wsV RX4 135 RX3 yX3_allocated wsX3_allocated) := goodIn_app (goodIn_of _ (by decide +kernel)) ggX4_save_X3_allocated
set_option maxRecDepth 20000 in
theorem ggX4_save_J6_bitCount_0f7a4 : GoodIn wsX4_save wsJ6_bitCount_0f7a4 := goodIn_r _ [69, 70, 71, 72] (by decide +kernel) (by decide +kernel)
set_option maxRecDepth 20000 in
theorem gX4_save_J6_bitCount_0f7a4 : GoodIn wsX4_save (va_wsS RX4 88 yJ6_bitCount_0f7a4 wsJ6_bitCount_0f7a4) := goodIn_app (goodIn_of _ (by decide +kernel)) ggX4_save_J6_bitCount_0f7a4
theorem dX4_save_0 : decode cX4_save 0 = .ok (.iload_n 1, 1) := by decide +kernel
theorem dX4_save_1 : decode cX4_save 1 = .ok (.iconst 2, 1) := by decide +kernel
theorem dX4_save_2 : decode cX4_save 2 = .ok (.invokestatic 54, 3) := by decide +kernel
theorem dX4_save_5 : decode cX4_save 5 = .ok (.ifCond .ne 5, 3) := by decide +kernel
theorem dX4_save_8 : decode cX4_save 8 = .ok (.iconst (-1), 1) := by decide +kernel
theorem dX4_save_9 : decode cX4_save 9 = .ok (.ireturn, 1) := by decide +kernel
theorem dX4_save_10 : decode cX4_save 10 = .ok (.aload_n 0, 1) := by decide +kernel
theorem dX4_save_11 : decode cX4_save 11 = .ok (.getfield 23, 3) := by decide +kernel
theorem dX4_save_14 : decode cX4_save 14 = .ok (.iload_n 1, 1) := by decide +kernel
theorem dX4_save_15 : decode cX4_save 15 = .ok (.aaload, 1) := by decide +kernel
theorem dX4_save_16 : decode cX4_save 16 = .ok (.ifnonnull 16, 3) := by decide +kernel
theorem dX4_save_19 : decode cX4_save 19 = .ok (.aload_n 0, 1) := by decide +kernel
theorem dX4_save_20 : decode cX4_save 20 = .ok (.getfield 23, 3) := by decide +kernel
theorem dX4_save_23 : decode cX4_save 23 = .ok (.iload_n 1, 1) := by decide +kernel
theorem dX4_save_24 : decode cX4_save 24 = .ok (.new 7, 3) := by decide +kernel
theorem dX4_save_27 : decode cX4_save 27 = .ok (.dup, 1) := by decide +kernel
theorem dX4_save_28 : decode cX4_save 28 = .ok (.invokespecial 9, 3) := by decide +kernel
theorem dX4_save_31 : decode cX4_save 31 = .ok (.aastore, 1) := by decide +kernel
theorem dX4_save_32 : decode cX4_save 32 = .ok (.aload_n 0, 1) := by decide +kernel
theorem dX4_save_33 : decode cX4_save 33 = .ok (.getfield 23, 3) := by decide +kernel
theorem dX4_save_36 : decode cX4_save 36 = .ok (.iload_n 1, 1) := by decide +kernel
theorem dX4_save_37 : decode cX4_save 37 = .ok (.aaload, 1) := by decide +kernel
theorem dX4_save_38 : decode cX4_save 38 = .ok (.aload_n 0, 1) := by decide +kernel
theorem dX4_save_39 : decode cX4_save 39 = .ok (.getfield 10, 3) := by decide +kernel
theorem dX4_save_42 : decode cX4_save 42 = .ok (.invokevirtual 177, 3) := by decide +kernel
theorem dX4_save_45 : decode cX4_save 45 = .ok (.aload_n 0, 1) := by decide +kernel
theorem dX4_save_46 : decode cX4_save 46 = .ok (.getfield 10, 3) := by decide +kernel
theorem dX4_save_49 : decode cX4_save 49 = .ok (.invokevirtual 135, 3) := by decide +kernel
theorem dX4_save_52 : decode cX4_save 52 = .ok (.invokestatic 88, 3) := by decide +kernel
theorem dX4_save_55 : decode cX4_save 55 = .ok (.ireturn, 1) := by decide +kernel
set_option maxRecDepth 20000 in
theorem ggX4_restore_X4_within : GoodIn wsX4_restore wsX4_within := goodIn_r _ [7] (by decide +kernel) (by decide +kernel)
set_option maxRecDepth 20000 in
theorem gX4_restore_X4_within : GoodIn wsX4_restore (va_wsS RX4 54 yX4_within wsX4_within) := goodIn_app (goodIn_of _ (by decide +kernel)) ggX4_restore_X4_within
set_option maxRecDepth 20000 in
theorem ggX4_restore_X3_copyFrom : GoodIn wsX4_restore wsX3_copyFrom := goodIn_r _ [12, 13, 14, 15, 16, 17, 18, 19, 20, 21, 22, 6, 23, 24, 25, 26, 27, 28, 29, 30, 31, 32, 33, 34, 35, 36, 37, 38, 62, 63, 64, 65, 66, 67, 68, 69, 70, 71, 72] (by decide +kernel) (by decide +kernel)
set_option maxRecDepth 20000 in
theorem gX4_restore_X3_copyFrom : GoodIn wsX4_restore (wsV RX4 177 RX3 yX3_copyFrom wsX3_copyFrom) := goodIn_app (goodIn_of _ (by decide +kernel)) ggX4_restore_X3_copyFrom
set_option maxRecDepth 20000 in
theorem ggX4_restore_X0_forget : GoodIn wsX4_restore wsX0_forget := goodIn_r _ [43, 44, 73, 74, 75] (by decide +kernel) (by decide +kernel)
set_option maxRecDepth 20000 in
theorem gX4_restore_X0_forget : GoodIn wsX4_restore (wsV RX4 180 RX0 yX0_forget wsX0_forget) := goodIn_app (goodIn_of _ (by decide +kernel)) ggX4_restore_X0_forget
set_option maxRecDepth 20000 in
theorem ggX4_restore_X3_allocated : GoodIn wsX4_restore wsX3_allocated := goodIn_r _ [48, 13, 49, 6, 50, 62, 63, 64, 65, 66, 67, 68, 69, 70] (by decide +kernel) (by decide +kernel)
set_option maxRecDepth 20000 in
theorem gX4_restore_X3_allocated : GoodIn wsX4_restore (wsV RX4 135 RX3 yX3_allocated wsX3_allocated) := goodIn_app (goodIn_of _ (by decide +kernel)) ggX4_restore_X3_allocated
set_option maxRecDepth 20000 in
theorem ggX4_restore_J6_bitCount_0f7a4 : GoodIn wsX4_restore wsJ6_bitCount_0f7a4 := goodIn_r _ [54, 55, 56, 57] (by decide +kernel) (by decide +kernel)
set_option maxRecDepth 20000 in
theorem gX4_restore_J6_bitCount_0f7a4 : GoodIn wsX4_restore (va_wsS RX4 88 yJ6_bitCount_0f7a4 wsJ6_bitCount_0f7a4) := goodIn_app (goodIn_of _ (by decide +kernel)) ggX4_restore_J6_bitCount_0f7a4
theorem dX4_restore_0 : decode cX4_restore 0 = .ok (.iload_n 1, 1) := by decide +kernel
theorem dX4_restore_1 : decode cX4_restore 1 = .ok (.iconst 2, 1) := by decide +kernel
theorem dX4_restore_2 : decode cX4_restore 2 = .ok (.invokestatic 54, 3) := by decide +kernel
theorem dX4_restore_5 : decode cX4_restore 5 = .ok (.ifCond .ne 5, 3) := by decide +kernel
theorem dX4_restore_8 : decode cX4_restore 8 = .ok (.iconst (-1), 1) := by decide +kernel
theorem dX4_restore_9 : decode cX4_restore 9 = .ok (.ireturn, 1) := by decide +kernel
theorem dX4_restore_10 : decode cX4_restore 10 = .ok (.aload_n 0, 1) := by decide +kernel
theorem dX4_restore_11 : decode cX4_restore 11 = .ok (.getfield 23, 3) := by decide +kernel
theorem dX4_restore_14 : decode cX4_restore 14 = .ok (.iload_n 1, 1) := by decide +kernel
theorem dX4_restore_15 : decode cX4_restore 15 = .ok (.aaload, 1) := by decide +kernel
theorem dX4_restore_16 : decode cX4_restore 16 = .ok (.ifnonnull 6, 3) := by decide +kernel
theorem dX4_restore_19 : decode cX4_restore 19 = .ok (.bipush (-2), 2) := by decide +kernel
theorem dX4_restore_21 : decode cX4_restore 21 = .ok (.ireturn, 1) := by decide +kernel
theorem dX4_restore_22 : decode cX4_restore 22 = .ok (.aload_n 0, 1) := by decide +kernel
theorem dX4_restore_23 : decode cX4_restore 23 = .ok (.getfield 10, 3) := by decide +kernel
theorem dX4_restore_26 : decode cX4_restore 26 = .ok (.aload_n 0, 1) := by decide +kernel
theorem dX4_restore_27 : decode cX4_restore 27 = .ok (.getfield 23, 3) := by decide +kernel
theorem dX4_restore_30 : decode cX4_restore 30 = .ok (.iload_n 1, 1) := by decide +kernel
theorem dX4_restore_31 : decode cX4_restore 31 = .ok (.aaload, 1) := by decide +kernel
theorem dX4_restore_32 : decode cX4_restore 32 = .ok (.invokevirtual 177, 3) := by decide +kernel
theorem dX4_restore_35 : decode cX4_restore 35 = .ok (.aload_n 0, 1) := by decide +kernel
theorem dX4_restore_36 : decode cX4_restore 36 = .ok (.getfield 19, 3) := by decide +kernel
theorem dX4_restore_39 : decode cX4_restore 39 = .ok (.invokevirtual 180, 3) := by decide +kernel
theorem dX4_restore_42 : decode cX4_restore 42 = .ok (.aload_n 0, 1) := by decide +kernel
theorem dX4_restore_43 : decode cX4_restore 43 = .ok (.getfield 10, 3) := by decide +kernel
theorem dX4_restore_46 : decode cX4_restore 46 = .ok (.invokevirtual 135, 3) := by decide +kernel
theorem dX4_restore_49 : decode cX4_restore 49 = .ok (.invokestatic 88, 3) := by decide +kernel
theorem dX4_restore_52 : decode cX4_restore 52 = .ok (.ireturn, 1) := by decide +kernel
theorem dX4_within_0 : decode cX4_within 0 = .ok (.iload_n 0, 1) := by decide +kernel
theorem dX4_within_1 : decode cX4_within 1 = .ok (.ifCond .lt 12, 3) := by decide +kernel
theorem dX4_within_4 : decode cX4_within 4 = .ok (.iload_n 0, 1) := by decide +kernel
theorem dX4_within_5 : decode cX4_within 5 = .ok (.iload_n 1, 1) := by decide +kernel
theorem dX4_within_6 : decode cX4_within 6 = .ok (.if_icmp .ge 7, 3) := by decide +kernel
theorem dX4_within_9 : decode cX4_within 9 = .ok (.iconst 1, 1) := by decide +kernel
theorem dX4_within_10 : decode cX4_within 10 = .ok (.goto 4, 3) := by decide +kernel
theorem dX4_within_13 : decode cX4_within 13 = .ok (.iconst 0, 1) := by decide +kernel
theorem dX4_within_14 : decode cX4_within 14 = .ok (.ireturn, 1) := by decide +kernel
theorem dX4_setOf_0 : decode cX4_setOf 0 = .ok (.iload_n 0, 1) := by decide +kernel
theorem dX4_setOf_1 : decode cX4_setOf 1 = .ok (.ifCond .lt 15, 3) := by decide +kernel
theorem dX4_setOf_4 : decode cX4_setOf 4 = .ok (.iload_n 0, 1) := by decide +kernel
theorem dX4_setOf_5 : decode cX4_setOf 5 = .ok (.bipush 24, 2) := by decide +kernel
theorem dX4_setOf_7 : decode cX4_setOf 7 = .ok (.if_icmp .ge 9, 3) := by decide +kernel
theorem dX4_setOf_10 : decode cX4_setOf 10 = .ok (.iconst 1, 1) := by decide +kernel
theorem dX4_setOf_11 : decode cX4_setOf 11 = .ok (.iload_n 0, 1) := by decide +kernel
theorem dX4_setOf_12 : decode cX4_setOf 12 = .ok (.ishl, 1) := by decide +kernel
theorem dX4_setOf_13 : decode cX4_setOf 13 = .ok (.goto 4, 3) := by decide +kernel
theorem dX4_setOf_16 : decode cX4_setOf 16 = .ok (.iconst 0, 1) := by decide +kernel
theorem dX4_setOf_17 : decode cX4_setOf 17 = .ok (.ireturn, 1) := by decide +kernel
set_option maxRecDepth 20000 in
theorem ggX4_contains_X4_setOf : GoodIn wsX4_contains wsX4_setOf := goodIn_r _ [4] (by decide +kernel) (by decide +kernel)
set_option maxRecDepth 20000 in
theorem gX4_contains_X4_setOf : GoodIn wsX4_contains (va_wsS RX4 84 yX4_setOf wsX4_setOf) := goodIn_app (goodIn_of _ (by decide +kernel)) ggX4_contains_X4_setOf
theorem dX4_contains_0 : decode cX4_contains 0 = .ok (.iload_n 0, 1) := by decide +kernel
theorem dX4_contains_1 : decode cX4_contains 1 = .ok (.iload_n 1, 1) := by decide +kernel
theorem dX4_contains_2 : decode cX4_contains 2 = .ok (.invokestatic 84, 3) := by decide +kernel
theorem dX4_contains_5 : decode cX4_contains 5 = .ok (.iand, 1) := by decide +kernel
theorem dX4_contains_6 : decode cX4_contains 6 = .ok (.ifCond .eq 7, 3) := by decide +kernel
theorem dX4_contains_9 : decode cX4_contains 9 = .ok (.iconst 1, 1) := by decide +kernel
theorem dX4_contains_10 : decode cX4_contains 10 = .ok (.goto 4, 3) := by decide +kernel
theorem dX4_contains_13 : decode cX4_contains 13 = .ok (.iconst 0, 1) := by decide +kernel
theorem dX4_contains_14 : decode cX4_contains 14 = .ok (.ireturn, 1) := by decide +kernel
set_option maxRecDepth 20000 in
theorem ggX4_emptyRow_J7_fill_53178 : GoodIn wsX4_emptyRow wsJ7_fill_53178 := goodIn_r _ [9] (by decide +kernel) (by decide +kernel)
set_option maxRecDepth 20000 in
theorem gX4_emptyRow_J7_fill_53178 : GoodIn wsX4_emptyRow (va_wsS RX4 188 yJ7_fill_53178 wsJ7_fill_53178) := goodIn_app (goodIn_of _ (by decide +kernel)) ggX4_emptyRow_J7_fill_53178
theorem dX4_emptyRow_0 : decode cX4_emptyRow 0 = .ok (.iload_n 0, 1) := by decide +kernel
theorem dX4_emptyRow_1 : decode cX4_emptyRow 1 = .ok (.iconst 0, 1) := by decide +kernel
theorem dX4_emptyRow_2 : decode cX4_emptyRow 2 = .ok (.invokestatic 183, 3) := by decide +kernel
theorem dX4_emptyRow_5 : decode cX4_emptyRow 5 = .ok (.newarray .int, 2) := by decide +kernel
theorem dX4_emptyRow_7 : decode cX4_emptyRow 7 = .ok (.astore_n 1, 1) := by decide +kernel
theorem dX4_emptyRow_8 : decode cX4_emptyRow 8 = .ok (.aload_n 1, 1) := by decide +kernel
theorem dX4_emptyRow_9 : decode cX4_emptyRow 9 = .ok (.bipush (-9), 2) := by decide +kernel
theorem dX4_emptyRow_11 : decode cX4_emptyRow 11 = .ok (.invokestatic 188, 3) := by decide +kernel
theorem dX4_emptyRow_14 : decode cX4_emptyRow 14 = .ok (.aload_n 1, 1) := by decide +kernel
theorem dX4_emptyRow_15 : decode cX4_emptyRow 15 = .ok (.areturn, 1) := by decide +kernel
theorem dX4_copyRow_0 : decode cX4_copyRow 0 = .ok (.aload_n 0, 1) := by decide +kernel
theorem dX4_copyRow_1 : decode cX4_copyRow 1 = .ok (.iconst 0, 1) := by decide +kernel
theorem dX4_copyRow_2 : decode cX4_copyRow 2 = .ok (.aload_n 1, 1) := by decide +kernel
theorem dX4_copyRow_3 : decode cX4_copyRow 3 = .ok (.iconst 0, 1) := by decide +kernel
theorem dX4_copyRow_4 : decode cX4_copyRow 4 = .ok (.aload_n 0, 1) := by decide +kernel
theorem dX4_copyRow_5 : decode cX4_copyRow 5 = .ok (.arraylength, 1) := by decide +kernel
theorem dX4_copyRow_6 : decode cX4_copyRow 6 = .ok (.aload_n 1, 1) := by decide +kernel
theorem dX4_copyRow_7 : decode cX4_copyRow 7 = .ok (.arraylength, 1) := by decide +kernel
theorem dX4_copyRow_8 : decode cX4_copyRow 8 = .ok (.invokestatic 194, 3) := by decide +kernel
theorem dX4_copyRow_11 : decode cX4_copyRow 11 = .ok (.invokestatic 197, 3) := by decide +kernel
theorem dX4_copyRow_14 : decode cX4_copyRow 14 = .ok (.return_, 1) := by decide +kernel
theorem dX4_occurrences_0 : decode cX4_occurrences 0 = .ok (.iconst 0, 1) := by decide +kernel
theorem dX4_occurrences_1 : decode cX4_occurrences 1 = .ok (.istore_n 2, 1) := by decide +kernel
theorem dX4_occurrences_2 : decode cX4_occurrences 2 = .ok (.iconst 0, 1) := by decide +kernel
theorem dX4_occurrences_3 : decode cX4_occurrences 3 = .ok (.istore_n 3, 1) := by decide +kernel
theorem dX4_occurrences_4 : decode cX4_occurrences 4 = .ok (.iload_n 3, 1) := by decide +kernel
theorem dX4_occurrences_5 : decode cX4_occurrences 5 = .ok (.aload_n 0, 1) := by decide +kernel
theorem dX4_occurrences_6 : decode cX4_occurrences 6 = .ok (.arraylength, 1) := by decide +kernel
theorem dX4_occurrences_7 : decode cX4_occurrences 7 = .ok (.if_icmp .ge 19, 3) := by decide +kernel
theorem dX4_occurrences_10 : decode cX4_occurrences 10 = .ok (.aload_n 0, 1) := by decide +kernel
theorem dX4_occurrences_11 : decode cX4_occurrences 11 = .ok (.iload_n 3, 1) := by decide +kernel
theorem dX4_occurrences_12 : decode cX4_occurrences 12 = .ok (.iaload, 1) := by decide +kernel
theorem dX4_occurrences_13 : decode cX4_occurrences 13 = .ok (.iload_n 1, 1) := by decide +kernel
theorem dX4_occurrences_14 : decode cX4_occurrences 14 = .ok (.if_icmp .ne 6, 3) := by decide +kernel
theorem dX4_occurrences_17 : decode cX4_occurrences 17 = .ok (.iinc 2 1, 3) := by decide +kernel
theorem dX4_occurrences_20 : decode cX4_occurrences 20 = .ok (.iinc 3 1, 3) := by decide +kernel
theorem dX4_occurrences_23 : decode cX4_occurrences 23 = .ok (.goto (-19), 3) := by decide +kernel
theorem dX4_occurrences_26 : decode cX4_occurrences 26 = .ok (.iload_n 2, 1) := by decide +kernel
theorem dX4_occurrences_27 : decode cX4_occurrences 27 = .ok (.ireturn, 1) := by decide +kernel
