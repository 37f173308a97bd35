theorem d_P_init_0 : decode cc_P_init 0 = .ok (.aload_n 0, 1) := by decide +kernel
theorem d_P_init_1 : decode cc_P_init 1 = .ok (.invokespecial 1, 3) := by decide +kernel
theorem d_P_init_4 : decode cc_P_init 4 = .ok (.aload_n 0, 1) := by decide +kernel
theorem d_P_init_5 : decode cc_P_init 5 = .ok (.sipush 240, 3) := by decide +kernel
theorem d_P_init_8 : decode cc_P_init 8 = .ok (.newarray .int, 2) := by decide +kernel
theorem d_P_init_10 : decode cc_P_init 10 = .ok (.putfield 9, 3) := by decide +kernel
theorem d_P_init_13 : decode cc_P_init 13 = .ok (.aload_n 0, 1) := by decide +kernel
theorem d_P_init_14 : decode cc_P_init 14 = .ok (.iconst 0, 1) := by decide +kernel
theorem d_P_init_15 : decode cc_P_init 15 = .ok (.putfield 13, 3) := by decide +kernel
theorem d_P_init_18 : decode cc_P_init 18 = .ok (.aload_n 0, 1) := by decide +kernel
theorem d_P_init_19 : decode cc_P_init 19 = .ok (.iconst 0, 1) := by decide +kernel
theorem d_P_init_20 : decode cc_P_init 20 = .ok (.putfield 17, 3) := by decide +kernel
theorem d_P_init_23 : decode cc_P_init 23 = .ok (.aload_n 0, 1) := by decide +kernel
theorem d_P_init_24 : decode cc_P_init 24 = .ok (.new 20, 3) := by decide +kernel
theorem d_P_init_27 : decode cc_P_init 27 = .ok (.dup, 1) := by decide +kernel
theorem d_P_init_28 : decode cc_P_init 28 = .ok (.invokespecial 22, 3) := by decide +kernel
theorem d_P_init_31 : decode cc_P_init 31 = .ok (.putfield 23, 3) := by decide +kernel
theorem d_P_init_34 : decode cc_P_init 34 = .ok (.aload_n 0, 1) := by decide +kernel
theorem d_P_init_35 : decode cc_P_init 35 = .ok (.new 27, 3) := by decide +kernel
theorem d_P_init_38 : decode cc_P_init 38 = .ok (.dup, 1) := by decide +kernel
theorem d_P_init_39 : decode cc_P_init 39 = .ok (.invokespecial 29, 3) := by decide +kernel
theorem d_P_init_42 : decode cc_P_init 42 = .ok (.putfield 30, 3) := by decide +kernel
theorem d_P_init_45 : decode cc_P_init 45 = .ok (.aload_n 0, 1) := by decide +kernel
theorem d_P_init_46 : decode cc_P_init 46 = .ok (.new 34, 3) := by decide +kernel
theorem d_P_init_49 : decode cc_P_init 49 = .ok (.dup, 1) := by decide +kernel
theorem d_P_init_50 : decode cc_P_init 50 = .ok (.invokespecial 36, 3) := by decide +kernel
theorem d_P_init_53 : decode cc_P_init 53 = .ok (.putfield 37, 3) := by decide +kernel
theorem d_P_init_56 : decode cc_P_init 56 = .ok (.return_, 1) := by decide +kernel
theorem d_P_event_0 : decode cc_P_event 0 = .ok (.iload_n 1, 1) := by decide +kernel
theorem d_P_event_1 : decode cc_P_event 1 = .ok (.iload_n 2, 1) := by decide +kernel
theorem d_P_event_2 : decode cc_P_event 2 = .ok (.iload_n 3, 1) := by decide +kernel
theorem d_P_event_3 : decode cc_P_event 3 = .ok (.iload 4, 2) := by decide +kernel
theorem d_P_event_5 : decode cc_P_event 5 = .ok (.invokestatic 41, 3) := by decide +kernel
theorem d_P_event_8 : decode cc_P_event 8 = .ok (.ifCond .ne 13, 3) := by decide +kernel
theorem d_P_event_11 : decode cc_P_event 11 = .ok (.new 45, 3) := by decide +kernel
theorem d_P_event_14 : decode cc_P_event 14 = .ok (.dup, 1) := by decide +kernel
theorem d_P_event_15 : decode cc_P_event 15 = .ok (.ldc 47, 2) := by decide +kernel
theorem d_P_event_17 : decode cc_P_event 17 = .ok (.invokespecial 49, 3) := by decide +kernel
theorem d_P_event_20 : decode cc_P_event 20 = .ok (.athrow, 1) := by decide +kernel
theorem d_P_event_21 : decode cc_P_event 21 = .ok (.aload_n 0, 1) := by decide +kernel
theorem d_P_event_22 : decode cc_P_event 22 = .ok (.getfield 13, 3) := by decide +kernel
theorem d_P_event_25 : decode cc_P_event 25 = .ok (.bipush 60, 2) := by decide +kernel
theorem d_P_event_27 : decode cc_P_event 27 = .ok (.if_icmp .lt 13, 3) := by decide +kernel
theorem d_P_event_30 : decode cc_P_event 30 = .ok (.new 52, 3) := by decide +kernel
theorem d_P_event_33 : decode cc_P_event 33 = .ok (.dup, 1) := by decide +kernel
theorem d_P_event_34 : decode cc_P_event 34 = .ok (.ldc 54, 2) := by decide +kernel
theorem d_P_event_36 : decode cc_P_event 36 = .ok (.invokespecial 56, 3) := by decide +kernel
theorem d_P_event_39 : decode cc_P_event 39 = .ok (.athrow, 1) := by decide +kernel
theorem d_P_event_40 : decode cc_P_event 40 = .ok (.aload_n 0, 1) := by decide +kernel
theorem d_P_event_41 : decode cc_P_event 41 = .ok (.aload_n 0, 1) := by decide +kernel
theorem d_P_event_42 : decode cc_P_event 42 = .ok (.getfield 13, 3) := by decide +kernel
theorem d_P_event_45 : decode cc_P_event 45 = .ok (.invokevirtual 57, 3) := by decide +kernel
theorem d_P_event_48 : decode cc_P_event 48 = .ok (.aload_n 0, 1) := by decide +kernel
theorem d_P_event_49 : decode cc_P_event 49 = .ok (.getfield 23, 3) := by decide +kernel
theorem d_P_event_52 : decode cc_P_event 52 = .ok (.iload_n 1, 1) := by decide +kernel
theorem d_P_event_53 : decode cc_P_event 53 = .ok (.iload_n 2, 1) := by decide +kernel
theorem d_P_event_54 : decode cc_P_event 54 = .ok (.iload_n 3, 1) := by decide +kernel
theorem d_P_event_55 : decode cc_P_event 55 = .ok (.iload 4, 2) := by decide +kernel
theorem d_P_event_57 : decode cc_P_event 57 = .ok (.invokevirtual 61, 3) := by decide +kernel
theorem d_P_event_60 : decode cc_P_event 60 = .ok (.ifCond .ne 15, 3) := by decide +kernel
theorem d_P_event_63 : decode cc_P_event 63 = .ok (.aload_n 0, 1) := by decide +kernel
theorem d_P_event_64 : decode cc_P_event 64 = .ok (.dup, 1) := by decide +kernel
theorem d_P_event_65 : decode cc_P_event 65 = .ok (.getfield 17, 3) := by decide +kernel
theorem d_P_event_68 : decode cc_P_event 68 = .ok (.iconst 1, 1) := by decide +kernel
theorem d_P_event_69 : decode cc_P_event 69 = .ok (.iadd, 1) := by decide +kernel
theorem d_P_event_70 : decode cc_P_event 70 = .ok (.putfield 17, 3) := by decide +kernel
theorem d_P_event_73 : decode cc_P_event 73 = .ok (.iconst 0, 1) := by decide +kernel
theorem d_P_event_74 : decode cc_P_event 74 = .ok (.ireturn, 1) := by decide +kernel
theorem d_P_event_75 : decode cc_P_event 75 = .ok (.aload_n 0, 1) := by decide +kernel
theorem d_P_event_76 : decode cc_P_event 76 = .ok (.iload_n 1, 1) := by decide +kernel
theorem d_P_event_77 : decode cc_P_event 77 = .ok (.iload_n 2, 1) := by decide +kernel
theorem d_P_event_78 : decode cc_P_event 78 = .ok (.iload_n 3, 1) := by decide +kernel
theorem d_P_event_79 : decode cc_P_event 79 = .ok (.iload 4, 2) := by decide +kernel
theorem d_P_event_81 : decode cc_P_event 81 = .ok (.invokevirtual 64, 3) := by decide +kernel
theorem d_P_event_84 : decode cc_P_event 84 = .ok (.iconst 1, 1) := by decide +kernel
theorem d_P_event_85 : decode cc_P_event 85 = .ok (.ireturn, 1) := by decide +kernel
theorem d_P_stock_0 : decode cc_P_stock 0 = .ok (.iload_n 1, 1) := by decide +kernel
theorem d_P_stock_1 : decode cc_P_stock 1 = .ok (.iconst (-1), 1) := by decide +kernel
theorem d_P_stock_2 : decode cc_P_stock 2 = .ok (.if_icmp .eq 20, 3) := by decide +kernel
theorem d_P_stock_5 : decode cc_P_stock 5 = .ok (.iload_n 1, 1) := by decide +kernel
theorem d_P_stock_6 : decode cc_P_stock 6 = .ok (.invokestatic 68, 3) := by decide +kernel
theorem d_P_stock_9 : decode cc_P_stock 9 = .ok (.ifCond .ne 13, 3) := by decide +kernel
theorem d_P_stock_12 : decode cc_P_stock 12 = .ok (.new 45, 3) := by decide +kernel
theorem d_P_stock_15 : decode cc_P_stock 15 = .ok (.dup, 1) := by decide +kernel
theorem d_P_stock_16 : decode cc_P_stock 16 = .ok (.ldc 72, 2) := by decide +kernel
theorem d_P_stock_18 : decode cc_P_stock 18 = .ok (.invokespecial 49, 3) := by decide +kernel
theorem d_P_stock_21 : decode cc_P_stock 21 = .ok (.athrow, 1) := by decide +kernel
theorem d_P_stock_22 : decode cc_P_stock 22 = .ok (.iload_n 2, 1) := by decide +kernel
theorem d_P_stock_23 : decode cc_P_stock 23 = .ok (.iconst (-1), 1) := by decide +kernel
theorem d_P_stock_24 : decode cc_P_stock 24 = .ok (.if_icmp .eq 20, 3) := by decide +kernel
theorem d_P_stock_27 : decode cc_P_stock 27 = .ok (.iload_n 2, 1) := by decide +kernel
theorem d_P_stock_28 : decode cc_P_stock 28 = .ok (.invokestatic 74, 3) := by decide +kernel
theorem d_P_stock_31 : decode cc_P_stock 31 = .ok (.ifCond .ne 13, 3) := by decide +kernel
theorem d_P_stock_34 : decode cc_P_stock 34 = .ok (.new 45, 3) := by decide +kernel
theorem d_P_stock_37 : decode cc_P_stock 37 = .ok (.dup, 1) := by decide +kernel
theorem d_P_stock_38 : decode cc_P_stock 38 = .ok (.ldc 77, 2) := by decide +kernel
theorem d_P_stock_40 : decode cc_P_stock 40 = .ok (.invokespecial 49, 3) := by decide +kernel
theorem d_P_stock_43 : decode cc_P_stock 43 = .ok (.athrow, 1) := by decide +kernel
theorem d_P_stock_44 : decode cc_P_stock 44 = .ok (.aload_n 0, 1) := by decide +kernel
theorem d_P_stock_45 : decode cc_P_stock 45 = .ok (.aload_n 0, 1) := by decide +kernel
theorem d_P_stock_46 : decode cc_P_stock 46 = .ok (.getfield 13, 3) := by decide +kernel
theorem d_P_stock_49 : decode cc_P_stock 49 = .ok (.invokevirtual 57, 3) := by decide +kernel
theorem d_P_stock_52 : decode cc_P_stock 52 = .ok (.aload_n 0, 1) := by decide +kernel
theorem d_P_stock_53 : decode cc_P_stock 53 = .ok (.getfield 23, 3) := by decide +kernel
theorem d_P_stock_56 : decode cc_P_stock 56 = .ok (.iload_n 1, 1) := by decide +kernel
theorem d_P_stock_57 : decode cc_P_stock 57 = .ok (.iload_n 2, 1) := by decide +kernel
theorem d_P_stock_58 : decode cc_P_stock 58 = .ok (.invokevirtual 79, 3) := by decide +kernel
theorem d_P_stock_61 : decode cc_P_stock 61 = .ok (.ireturn, 1) := by decide +kernel
theorem d_P_where_0 : decode cc_P_where 0 = .ok (.aload_n 0, 1) := by decide +kernel
theorem d_P_where_1 : decode cc_P_where 1 = .ok (.iload_n 2, 1) := by decide +kernel
theorem d_P_where_2 : decode cc_P_where 2 = .ok (.invokevirtual 83, 3) := by decide +kernel
theorem d_P_where_5 : decode cc_P_where 5 = .ok (.ifCond .ne 13, 3) := by decide +kernel
theorem d_P_where_8 : decode cc_P_where 8 = .ok (.new 86, 3) := by decide +kernel
theorem d_P_where_11 : decode cc_P_where 11 = .ok (.dup, 1) := by decide +kernel
theorem d_P_where_12 : decode cc_P_where 12 = .ok (.ldc 88, 2) := by decide +kernel
theorem d_P_where_14 : decode cc_P_where 14 = .ok (.invokespecial 90, 3) := by decide +kernel
theorem d_P_where_17 : decode cc_P_where 17 = .ok (.athrow, 1) := by decide +kernel
theorem d_P_where_18 : decode cc_P_where 18 = .ok (.iload_n 1, 1) := by decide +kernel
theorem d_P_where_19 : decode cc_P_where 19 = .ok (.invokestatic 91, 3) := by decide +kernel
theorem d_P_where_22 : decode cc_P_where 22 = .ok (.ifCond .ne 13, 3) := by decide +kernel
theorem d_P_where_25 : decode cc_P_where 25 = .ok (.new 45, 3) := by decide +kernel
theorem d_P_where_28 : decode cc_P_where 28 = .ok (.dup, 1) := by decide +kernel
theorem d_P_where_29 : decode cc_P_where 29 = .ok (.ldc 94, 2) := by decide +kernel
theorem d_P_where_31 : decode cc_P_where 31 = .ok (.invokespecial 49, 3) := by decide +kernel
theorem d_P_where_34 : decode cc_P_where 34 = .ok (.athrow, 1) := by decide +kernel
theorem d_P_where_35 : decode cc_P_where 35 = .ok (.aload_n 0, 1) := by decide +kernel
theorem d_P_where_36 : decode cc_P_where 36 = .ok (.iload_n 2, 1) := by decide +kernel
theorem d_P_where_37 : decode cc_P_where 37 = .ok (.invokevirtual 57, 3) := by decide +kernel
theorem d_P_where_40 : decode cc_P_where 40 = .ok (.aload_n 0, 1) := by decide +kernel
theorem d_P_where_41 : decode cc_P_where 41 = .ok (.getfield 23, 3) := by decide +kernel
theorem d_P_where_44 : decode cc_P_where 44 = .ok (.getfield 96, 3) := by decide +kernel
theorem d_P_where_47 : decode cc_P_where 47 = .ok (.iload_n 1, 1) := by decide +kernel
theorem d_P_where_48 : decode cc_P_where 48 = .ok (.iaload, 1) := by decide +kernel
theorem d_P_where_49 : decode cc_P_where 49 = .ok (.ireturn, 1) := by decide +kernel
theorem d_P_order_0 : decode cc_P_order 0 = .ok (.aload_n 0, 1) := by decide +kernel
theorem d_P_order_1 : decode cc_P_order 1 = .ok (.aload_n 0, 1) := by decide +kernel
theorem d_P_order_2 : decode cc_P_order 2 = .ok (.getfield 13, 3) := by decide +kernel
theorem d_P_order_5 : decode cc_P_order 5 = .ok (.invokevirtual 57, 3) := by decide +kernel
theorem d_P_order_8 : decode cc_P_order 8 = .ok (.aload_n 0, 1) := by decide +kernel
theorem d_P_order_9 : decode cc_P_order 9 = .ok (.getfield 23, 3) := by decide +kernel
theorem d_P_order_12 : decode cc_P_order 12 = .ok (.iload_n 1, 1) := by decide +kernel
theorem d_P_order_13 : decode cc_P_order 13 = .ok (.invokevirtual 99, 3) := by decide +kernel
theorem d_P_order_16 : decode cc_P_order 16 = .ok (.ifCond .ne 13, 3) := by decide +kernel
theorem d_P_order_19 : decode cc_P_order 19 = .ok (.new 86, 3) := by decide +kernel
theorem d_P_order_22 : decode cc_P_order 22 = .ok (.dup, 1) := by decide +kernel
theorem d_P_order_23 : decode cc_P_order 23 = .ok (.ldc 102, 2) := by decide +kernel
theorem d_P_order_25 : decode cc_P_order 25 = .ok (.invokespecial 90, 3) := by decide +kernel
theorem d_P_order_28 : decode cc_P_order 28 = .ok (.athrow, 1) := by decide +kernel
theorem d_P_order_29 : decode cc_P_order 29 = .ok (.iload_n 2, 1) := by decide +kernel
theorem d_P_order_30 : decode cc_P_order 30 = .ok (.tableswitch 84 0 3 #[30, 47, 57, 67], 30) := by decide +kernel
theorem d_P_order_60 : decode cc_P_order 60 = .ok (.aload_n 0, 1) := by decide +kernel
theorem d_P_order_61 : decode cc_P_order 61 = .ok (.getfield 23, 3) := by decide +kernel
theorem d_P_order_64 : decode cc_P_order 64 = .ok (.iload_n 1, 1) := by decide +kernel
theorem d_P_order_65 : decode cc_P_order 65 = .ok (.invokevirtual 104, 3) := by decide +kernel
theorem d_P_order_68 : decode cc_P_order 68 = .ok (.ifCond .eq 7, 3) := by decide +kernel
theorem d_P_order_71 : decode cc_P_order 71 = .ok (.iconst 1, 1) := by decide +kernel
theorem d_P_order_72 : decode cc_P_order 72 = .ok (.goto 4, 3) := by decide +kernel
theorem d_P_order_75 : decode cc_P_order 75 = .ok (.iconst 0, 1) := by decide +kernel
theorem d_P_order_76 : decode cc_P_order 76 = .ok (.ireturn, 1) := by decide +kernel
theorem d_P_order_77 : decode cc_P_order 77 = .ok (.aload_n 0, 1) := by decide +kernel
theorem d_P_order_78 : decode cc_P_order 78 = .ok (.getfield 23, 3) := by decide +kernel
theorem d_P_order_81 : decode cc_P_order 81 = .ok (.getfield 107, 3) := by decide +kernel
theorem d_P_order_84 : decode cc_P_order 84 = .ok (.iload_n 1, 1) := by decide +kernel
theorem d_P_order_85 : decode cc_P_order 85 = .ok (.iaload, 1) := by decide +kernel
theorem d_P_order_86 : decode cc_P_order 86 = .ok (.ireturn, 1) := by decide +kernel
theorem d_P_order_87 : decode cc_P_order 87 = .ok (.aload_n 0, 1) := by decide +kernel
theorem d_P_order_88 : decode cc_P_order 88 = .ok (.getfield 23, 3) := by decide +kernel
theorem d_P_order_91 : decode cc_P_order 91 = .ok (.getfield 110, 3) := by decide +kernel
theorem d_P_order_94 : decode cc_P_order 94 = .ok (.iload_n 1, 1) := by decide +kernel
theorem d_P_order_95 : decode cc_P_order 95 = .ok (.iaload, 1) := by decide +kernel
theorem d_P_order_96 : decode cc_P_order 96 = .ok (.ireturn, 1) := by decide +kernel
theorem d_P_order_97 : decode cc_P_order 97 = .ok (.aload_n 0, 1) := by decide +kernel
theorem d_P_order_98 : decode cc_P_order 98 = .ok (.getfield 23, 3) := by decide +kernel
theorem d_P_order_101 : decode cc_P_order 101 = .ok (.aload_n 0, 1) := by decide +kernel
theorem d_P_order_102 : decode cc_P_order 102 = .ok (.getfield 23, 3) := by decide +kernel
theorem d_P_order_105 : decode cc_P_order 105 = .ok (.getfield 110, 3) := by decide +kernel
theorem d_P_order_108 : decode cc_P_order 108 = .ok (.iload_n 1, 1) := by decide +kernel
theorem d_P_order_109 : decode cc_P_order 109 = .ok (.iaload, 1) := by decide +kernel
theorem d_P_order_110 : decode cc_P_order 110 = .ok (.invokevirtual 113, 3) := by decide +kernel
theorem d_P_order_113 : decode cc_P_order 113 = .ok (.ireturn, 1) := by decide +kernel
theorem d_P_order_114 : decode cc_P_order 114 = .ok (.new 45, 3) := by decide +kernel
theorem d_P_order_117 : decode cc_P_order 117 = .ok (.dup, 1) := by decide +kernel
theorem d_P_order_118 : decode cc_P_order 118 = .ok (.ldc 117, 2) := by decide +kernel
theorem d_P_order_120 : decode cc_P_order 120 = .ok (.invokespecial 49, 3) := by decide +kernel
theorem d_P_order_123 : decode cc_P_order 123 = .ok (.athrow, 1) := by decide +kernel
theorem d_P_promise_0 : decode cc_P_promise 0 = .ok (.aload_n 0, 1) := by decide +kernel
theorem d_P_promise_1 : decode cc_P_promise 1 = .ok (.aload_n 0, 1) := by decide +kernel
theorem d_P_promise_2 : decode cc_P_promise 2 = .ok (.getfield 13, 3) := by decide +kernel
theorem d_P_promise_5 : decode cc_P_promise 5 = .ok (.invokevirtual 57, 3) := by decide +kernel
theorem d_P_promise_8 : decode cc_P_promise 8 = .ok (.aload_n 0, 1) := by decide +kernel
theorem d_P_promise_9 : decode cc_P_promise 9 = .ok (.iload_n 1, 1) := by decide +kernel
theorem d_P_promise_10 : decode cc_P_promise 10 = .ok (.invokevirtual 119, 3) := by decide +kernel
theorem d_P_promise_13 : decode cc_P_promise 13 = .ok (.ifCond .ne 13, 3) := by decide +kernel
theorem d_P_promise_16 : decode cc_P_promise 16 = .ok (.new 86, 3) := by decide +kernel
theorem d_P_promise_19 : decode cc_P_promise 19 = .ok (.dup, 1) := by decide +kernel
theorem d_P_promise_20 : decode cc_P_promise 20 = .ok (.ldc 122, 2) := by decide +kernel
theorem d_P_promise_22 : decode cc_P_promise 22 = .ok (.invokespecial 90, 3) := by decide +kernel
theorem d_P_promise_25 : decode cc_P_promise 25 = .ok (.athrow, 1) := by decide +kernel
theorem d_P_promise_26 : decode cc_P_promise 26 = .ok (.iload_n 1, 1) := by decide +kernel
theorem d_P_promise_27 : decode cc_P_promise 27 = .ok (.invokestatic 124, 3) := by decide +kernel
theorem d_P_promise_30 : decode cc_P_promise 30 = .ok (.bipush 6, 2) := by decide +kernel
theorem d_P_promise_32 : decode cc_P_promise 32 = .ok (.if_icmp .le 5, 3) := by decide +kernel
theorem d_P_promise_35 : decode cc_P_promise 35 = .ok (.iconst (-1), 1) := by decide +kernel
theorem d_P_promise_36 : decode cc_P_promise 36 = .ok (.ireturn, 1) := by decide +kernel
theorem d_P_promise_37 : decode cc_P_promise 37 = .ok (.aload_n 0, 1) := by decide +kernel
theorem d_P_promise_38 : decode cc_P_promise 38 = .ok (.getfield 30, 3) := by decide +kernel
theorem d_P_promise_41 : decode cc_P_promise 41 = .ok (.aload_n 0, 1) := by decide +kernel
theorem d_P_promise_42 : decode cc_P_promise 42 = .ok (.getfield 23, 3) := by decide +kernel
theorem d_P_promise_45 : decode cc_P_promise 45 = .ok (.iload_n 1, 1) := by decide +kernel
theorem d_P_promise_46 : decode cc_P_promise 46 = .ok (.invokevirtual 129, 3) := by decide +kernel
theorem d_P_promise_49 : decode cc_P_promise 49 = .ok (.ireturn, 1) := by decide +kernel
theorem d_P_way_0 : decode cc_P_way 0 = .ok (.iload_n 1, 1) := by decide +kernel
theorem d_P_way_1 : decode cc_P_way 1 = .ok (.invokestatic 68, 3) := by decide +kernel
theorem d_P_way_4 : decode cc_P_way 4 = .ok (.ifCond .eq 10, 3) := by decide +kernel
theorem d_P_way_7 : decode cc_P_way 7 = .ok (.iload_n 2, 1) := by decide +kernel
theorem d_P_way_8 : decode cc_P_way 8 = .ok (.invokestatic 68, 3) := by decide +kernel
theorem d_P_way_11 : decode cc_P_way 11 = .ok (.ifCond .ne 13, 3) := by decide +kernel
theorem d_P_way_14 : decode cc_P_way 14 = .ok (.new 45, 3) := by decide +kernel
theorem d_P_way_17 : decode cc_P_way 17 = .ok (.dup, 1) := by decide +kernel
theorem d_P_way_18 : decode cc_P_way 18 = .ok (.ldc 72, 2) := by decide +kernel
theorem d_P_way_20 : decode cc_P_way 20 = .ok (.invokespecial 49, 3) := by decide +kernel
theorem d_P_way_23 : decode cc_P_way 23 = .ok (.athrow, 1) := by decide +kernel
theorem d_P_way_24 : decode cc_P_way 24 = .ok (.aload_n 0, 1) := by decide +kernel
theorem d_P_way_25 : decode cc_P_way 25 = .ok (.aload_n 0, 1) := by decide +kernel
theorem d_P_way_26 : decode cc_P_way 26 = .ok (.getfield 13, 3) := by decide +kernel
theorem d_P_way_29 : decode cc_P_way 29 = .ok (.invokevirtual 57, 3) := by decide +kernel
theorem d_P_way_32 : decode cc_P_way 32 = .ok (.aload_n 0, 1) := by decide +kernel
theorem d_P_way_33 : decode cc_P_way 33 = .ok (.getfield 37, 3) := by decide +kernel
theorem d_P_way_36 : decode cc_P_way 36 = .ok (.aload_n 0, 1) := by decide +kernel
theorem d_P_way_37 : decode cc_P_way 37 = .ok (.getfield 23, 3) := by decide +kernel
theorem d_P_way_40 : decode cc_P_way 40 = .ok (.invokevirtual 133, 3) := by decide +kernel
theorem d_P_way_43 : decode cc_P_way 43 = .ok (.aload_n 0, 1) := by decide +kernel
theorem d_P_way_44 : decode cc_P_way 44 = .ok (.getfield 37, 3) := by decide +kernel
theorem d_P_way_47 : decode cc_P_way 47 = .ok (.iload_n 1, 1) := by decide +kernel
theorem d_P_way_48 : decode cc_P_way 48 = .ok (.iload_n 2, 1) := by decide +kernel
theorem d_P_way_49 : decode cc_P_way 49 = .ok (.invokevirtual 137, 3) := by decide +kernel
theorem d_P_way_52 : decode cc_P_way 52 = .ok (.invokestatic 140, 3) := by decide +kernel
theorem d_P_way_55 : decode cc_P_way 55 = .ok (.ireturn, 1) := by decide +kernel
theorem d_P_walk_0 : decode cc_P_walk 0 = .ok (.aload_n 0, 1) := by decide +kernel
theorem d_P_walk_1 : decode cc_P_walk 1 = .ok (.aload_n 0, 1) := by decide +kernel
theorem d_P_walk_2 : decode cc_P_walk 2 = .ok (.getfield 13, 3) := by decide +kernel
theorem d_P_walk_5 : decode cc_P_walk 5 = .ok (.invokevirtual 57, 3) := by decide +kernel
theorem d_P_walk_8 : decode cc_P_walk 8 = .ok (.aload_n 0, 1) := by decide +kernel
theorem d_P_walk_9 : decode cc_P_walk 9 = .ok (.getfield 23, 3) := by decide +kernel
theorem d_P_walk_12 : decode cc_P_walk 12 = .ok (.iload_n 1, 1) := by decide +kernel
theorem d_P_walk_13 : decode cc_P_walk 13 = .ok (.invokevirtual 99, 3) := by decide +kernel
theorem d_P_walk_16 : decode cc_P_walk 16 = .ok (.ifCond .ne 13, 3) := by decide +kernel
theorem d_P_walk_19 : decode cc_P_walk 19 = .ok (.new 86, 3) := by decide +kernel
theorem d_P_walk_22 : decode cc_P_walk 22 = .ok (.dup, 1) := by decide +kernel
theorem d_P_walk_23 : decode cc_P_walk 23 = .ok (.ldc 102, 2) := by decide +kernel
theorem d_P_walk_25 : decode cc_P_walk 25 = .ok (.invokespecial 90, 3) := by decide +kernel
theorem d_P_walk_28 : decode cc_P_walk 28 = .ok (.athrow, 1) := by decide +kernel
theorem d_P_walk_29 : decode cc_P_walk 29 = .ok (.iload_n 2, 1) := by decide +kernel
theorem d_P_walk_30 : decode cc_P_walk 30 = .ok (.invokestatic 68, 3) := by decide +kernel
theorem d_P_walk_33 : decode cc_P_walk 33 = .ok (.ifCond .ne 13, 3) := by decide +kernel
theorem d_P_walk_36 : decode cc_P_walk 36 = .ok (.new 45, 3) := by decide +kernel
theorem d_P_walk_39 : decode cc_P_walk 39 = .ok (.dup, 1) := by decide +kernel
theorem d_P_walk_40 : decode cc_P_walk 40 = .ok (.ldc 72, 2) := by decide +kernel
theorem d_P_walk_42 : decode cc_P_walk 42 = .ok (.invokespecial 49, 3) := by decide +kernel
theorem d_P_walk_45 : decode cc_P_walk 45 = .ok (.athrow, 1) := by decide +kernel
theorem d_P_walk_46 : decode cc_P_walk 46 = .ok (.aload_n 0, 1) := by decide +kernel
theorem d_P_walk_47 : decode cc_P_walk 47 = .ok (.getfield 23, 3) := by decide +kernel
theorem d_P_walk_50 : decode cc_P_walk 50 = .ok (.iload_n 1, 1) := by decide +kernel
theorem d_P_walk_51 : decode cc_P_walk 51 = .ok (.invokevirtual 143, 3) := by decide +kernel
theorem d_P_walk_54 : decode cc_P_walk 54 = .ok (.istore_n 3, 1) := by decide +kernel
theorem d_P_walk_55 : decode cc_P_walk 55 = .ok (.iload_n 3, 1) := by decide +kernel
theorem d_P_walk_56 : decode cc_P_walk 56 = .ok (.invokestatic 124, 3) := by decide +kernel
theorem d_P_walk_59 : decode cc_P_walk 59 = .ok (.iconst 4, 1) := by decide +kernel
theorem d_P_walk_60 : decode cc_P_walk 60 = .ok (.if_icmp .le 6, 3) := by decide +kernel
theorem d_P_walk_63 : decode cc_P_walk 63 = .ok (.bipush (-2), 2) := by decide +kernel
theorem d_P_walk_65 : decode cc_P_walk 65 = .ok (.ireturn, 1) := by decide +kernel
theorem d_P_walk_66 : decode cc_P_walk 66 = .ok (.aload_n 0, 1) := by decide +kernel
theorem d_P_walk_67 : decode cc_P_walk 67 = .ok (.getfield 37, 3) := by decide +kernel
theorem d_P_walk_70 : decode cc_P_walk 70 = .ok (.aload_n 0, 1) := by decide +kernel
theorem d_P_walk_71 : decode cc_P_walk 71 = .ok (.getfield 23, 3) := by decide +kernel
theorem d_P_walk_74 : decode cc_P_walk 74 = .ok (.invokevirtual 133, 3) := by decide +kernel
theorem d_P_walk_77 : decode cc_P_walk 77 = .ok (.aload_n 0, 1) := by decide +kernel
theorem d_P_walk_78 : decode cc_P_walk 78 = .ok (.getfield 37, 3) := by decide +kernel
theorem d_P_walk_81 : decode cc_P_walk 81 = .ok (.iload_n 2, 1) := by decide +kernel
theorem d_P_walk_82 : decode cc_P_walk 82 = .ok (.iload_n 3, 1) := by decide +kernel
theorem d_P_walk_83 : decode cc_P_walk 83 = .ok (.invokevirtual 146, 3) := by decide +kernel
theorem d_P_walk_86 : decode cc_P_walk 86 = .ok (.invokestatic 140, 3) := by decide +kernel
theorem d_P_walk_89 : decode cc_P_walk 89 = .ok (.ireturn, 1) := by decide +kernel
theorem d_P_money_0 : decode cc_P_money 0 = .ok (.aload_n 0, 1) := by decide +kernel
theorem d_P_money_1 : decode cc_P_money 1 = .ok (.iload_n 2, 1) := by decide +kernel
theorem d_P_money_2 : decode cc_P_money 2 = .ok (.invokevirtual 83, 3) := by decide +kernel
theorem d_P_money_5 : decode cc_P_money 5 = .ok (.ifCond .ne 13, 3) := by decide +kernel
theorem d_P_money_8 : decode cc_P_money 8 = .ok (.new 86, 3) := by decide +kernel
theorem d_P_money_11 : decode cc_P_money 11 = .ok (.dup, 1) := by decide +kernel
theorem d_P_money_12 : decode cc_P_money 12 = .ok (.ldc 88, 2) := by decide +kernel
theorem d_P_money_14 : decode cc_P_money 14 = .ok (.invokespecial 90, 3) := by decide +kernel
theorem d_P_money_17 : decode cc_P_money 17 = .ok (.athrow, 1) := by decide +kernel
theorem d_P_money_18 : decode cc_P_money 18 = .ok (.iload_n 1, 1) := by decide +kernel
theorem d_P_money_19 : decode cc_P_money 19 = .ok (.invokestatic 149, 3) := by decide +kernel
theorem d_P_money_22 : decode cc_P_money 22 = .ok (.ifCond .ne 13, 3) := by decide +kernel
theorem d_P_money_25 : decode cc_P_money 25 = .ok (.new 45, 3) := by decide +kernel
theorem d_P_money_28 : decode cc_P_money 28 = .ok (.dup, 1) := by decide +kernel
theorem d_P_money_29 : decode cc_P_money 29 = .ok (.ldc 152, 2) := by decide +kernel
theorem d_P_money_31 : decode cc_P_money 31 = .ok (.invokespecial 49, 3) := by decide +kernel
theorem d_P_money_34 : decode cc_P_money 34 = .ok (.athrow, 1) := by decide +kernel
theorem d_P_money_35 : decode cc_P_money 35 = .ok (.aload_n 0, 1) := by decide +kernel
theorem d_P_money_36 : decode cc_P_money 36 = .ok (.iload_n 2, 1) := by decide +kernel
theorem d_P_money_37 : decode cc_P_money 37 = .ok (.invokevirtual 57, 3) := by decide +kernel
theorem d_P_money_40 : decode cc_P_money 40 = .ok (.aload_n 0, 1) := by decide +kernel
theorem d_P_money_41 : decode cc_P_money 41 = .ok (.getfield 23, 3) := by decide +kernel
theorem d_P_money_44 : decode cc_P_money 44 = .ok (.getfield 154, 3) := by decide +kernel
theorem d_P_money_47 : decode cc_P_money 47 = .ok (.iload_n 1, 1) := by decide +kernel
theorem d_P_money_48 : decode cc_P_money 48 = .ok (.iaload, 1) := by decide +kernel
theorem d_P_money_49 : decode cc_P_money 49 = .ok (.ireturn, 1) := by decide +kernel
theorem d_P_needs_0 : decode cc_P_needs 0 = .ok (.aload_n 0, 1) := by decide +kernel
theorem d_P_needs_1 : decode cc_P_needs 1 = .ok (.iload_n 1, 1) := by decide +kernel
theorem d_P_needs_2 : decode cc_P_needs 2 = .ok (.invokevirtual 157, 3) := by decide +kernel
theorem d_P_needs_5 : decode cc_P_needs 5 = .ok (.ifCond .ne 13, 3) := by decide +kernel
theorem d_P_needs_8 : decode cc_P_needs 8 = .ok (.new 86, 3) := by decide +kernel
theorem d_P_needs_11 : decode cc_P_needs 11 = .ok (.dup, 1) := by decide +kernel
theorem d_P_needs_12 : decode cc_P_needs 12 = .ok (.ldc 160, 2) := by decide +kernel
theorem d_P_needs_14 : decode cc_P_needs 14 = .ok (.invokespecial 90, 3) := by decide +kernel
theorem d_P_needs_17 : decode cc_P_needs 17 = .ok (.athrow, 1) := by decide +kernel
theorem d_P_needs_18 : decode cc_P_needs 18 = .ok (.aload_n 0, 1) := by decide +kernel
theorem d_P_needs_19 : decode cc_P_needs 19 = .ok (.iload_n 1, 1) := by decide +kernel
theorem d_P_needs_20 : decode cc_P_needs 20 = .ok (.invokevirtual 57, 3) := by decide +kernel
theorem d_P_needs_23 : decode cc_P_needs 23 = .ok (.iconst 0, 1) := by decide +kernel
theorem d_P_needs_24 : decode cc_P_needs 24 = .ok (.istore_n 2, 1) := by decide +kernel
theorem d_P_needs_25 : decode cc_P_needs 25 = .ok (.iload_n 1, 1) := by decide +kernel
theorem d_P_needs_26 : decode cc_P_needs 26 = .ok (.iconst 1, 1) := by decide +kernel
theorem d_P_needs_27 : decode cc_P_needs 27 = .ok (.iadd, 1) := by decide +kernel
theorem d_P_needs_28 : decode cc_P_needs 28 = .ok (.istore_n 3, 1) := by decide +kernel
theorem d_P_needs_29 : decode cc_P_needs 29 = .ok (.iload_n 3, 1) := by decide +kernel
theorem d_P_needs_30 : decode cc_P_needs 30 = .ok (.aload_n 0, 1) := by decide +kernel
theorem d_P_needs_31 : decode cc_P_needs 31 = .ok (.getfield 13, 3) := by decide +kernel
theorem d_P_needs_34 : decode cc_P_needs 34 = .ok (.if_icmp .ge 20, 3) := by decide +kernel
theorem d_P_needs_37 : decode cc_P_needs 37 = .ok (.aload_n 0, 1) := by decide +kernel
theorem d_P_needs_38 : decode cc_P_needs 38 = .ok (.iload_n 3, 1) := by decide +kernel
theorem d_P_needs_39 : decode cc_P_needs 39 = .ok (.invokevirtual 162, 3) := by decide +kernel
theorem d_P_needs_42 : decode cc_P_needs 42 = .ok (.ifCond .ne 6, 3) := by decide +kernel
theorem d_P_needs_45 : decode cc_P_needs 45 = .ok (.iinc 2 1, 3) := by decide +kernel
theorem d_P_needs_48 : decode cc_P_needs 48 = .ok (.iinc 3 1, 3) := by decide +kernel
theorem d_P_needs_51 : decode cc_P_needs 51 = .ok (.goto (-22), 3) := by decide +kernel
theorem d_P_needs_54 : decode cc_P_needs 54 = .ok (.iload_n 2, 1) := by decide +kernel
theorem d_P_needs_55 : decode cc_P_needs 55 = .ok (.ireturn, 1) := by decide +kernel
theorem d_P_explained_0 : decode cc_P_explained 0 = .ok (.aload_n 0, 1) := by decide +kernel
theorem d_P_explained_1 : decode cc_P_explained 1 = .ok (.iload_n 1, 1) := by decide +kernel
theorem d_P_explained_2 : decode cc_P_explained 2 = .ok (.invokevirtual 157, 3) := by decide +kernel
theorem d_P_explained_5 : decode cc_P_explained 5 = .ok (.ifCond .ne 13, 3) := by decide +kernel
theorem d_P_explained_8 : decode cc_P_explained 8 = .ok (.new 86, 3) := by decide +kernel
theorem d_P_explained_11 : decode cc_P_explained 11 = .ok (.dup, 1) := by decide +kernel
theorem d_P_explained_12 : decode cc_P_explained 12 = .ok (.ldc 160, 2) := by decide +kernel
theorem d_P_explained_14 : decode cc_P_explained 14 = .ok (.invokespecial 90, 3) := by decide +kernel
theorem d_P_explained_17 : decode cc_P_explained 17 = .ok (.athrow, 1) := by decide +kernel
theorem d_P_explained_18 : decode cc_P_explained 18 = .ok (.aload_n 0, 1) := by decide +kernel
theorem d_P_explained_19 : decode cc_P_explained 19 = .ok (.iload_n 1, 1) := by decide +kernel
theorem d_P_explained_20 : decode cc_P_explained 20 = .ok (.invokevirtual 57, 3) := by decide +kernel
theorem d_P_explained_23 : decode cc_P_explained 23 = .ok (.iload_n 1, 1) := by decide +kernel
theorem d_P_explained_24 : decode cc_P_explained 24 = .ok (.iconst 1, 1) := by decide +kernel
theorem d_P_explained_25 : decode cc_P_explained 25 = .ok (.iadd, 1) := by decide +kernel
theorem d_P_explained_26 : decode cc_P_explained 26 = .ok (.istore_n 2, 1) := by decide +kernel
theorem d_P_explained_27 : decode cc_P_explained 27 = .ok (.iload_n 2, 1) := by decide +kernel
theorem d_P_explained_28 : decode cc_P_explained 28 = .ok (.aload_n 0, 1) := by decide +kernel
theorem d_P_explained_29 : decode cc_P_explained 29 = .ok (.getfield 13, 3) := by decide +kernel
theorem d_P_explained_32 : decode cc_P_explained 32 = .ok (.if_icmp .ge 19, 3) := by decide +kernel
theorem d_P_explained_35 : decode cc_P_explained 35 = .ok (.aload_n 0, 1) := by decide +kernel
theorem d_P_explained_36 : decode cc_P_explained 36 = .ok (.iload_n 2, 1) := by decide +kernel
theorem d_P_explained_37 : decode cc_P_explained 37 = .ok (.invokevirtual 162, 3) := by decide +kernel
theorem d_P_explained_40 : decode cc_P_explained 40 = .ok (.ifCond .ne 5, 3) := by decide +kernel
theorem d_P_explained_43 : decode cc_P_explained 43 = .ok (.iload_n 2, 1) := by decide +kernel
theorem d_P_explained_44 : decode cc_P_explained 44 = .ok (.ireturn, 1) := by decide +kernel
theorem d_P_explained_45 : decode cc_P_explained 45 = .ok (.iinc 2 1, 3) := by decide +kernel
theorem d_P_explained_48 : decode cc_P_explained 48 = .ok (.goto (-21), 3) := by decide +kernel
theorem d_P_explained_51 : decode cc_P_explained 51 = .ok (.iconst (-1), 1) := by decide +kernel
theorem d_P_explained_52 : decode cc_P_explained 52 = .ok (.ireturn, 1) := by decide +kernel
theorem d_P_told_0 : decode cc_P_told 0 = .ok (.aload_n 0, 1) := by decide +kernel
theorem d_P_told_1 : decode cc_P_told 1 = .ok (.iload_n 1, 1) := by decide +kernel
theorem d_P_told_2 : decode cc_P_told 2 = .ok (.invokevirtual 157, 3) := by decide +kernel
theorem d_P_told_5 : decode cc_P_told 5 = .ok (.ifCond .ne 13, 3) := by decide +kernel
theorem d_P_told_8 : decode cc_P_told 8 = .ok (.new 86, 3) := by decide +kernel
theorem d_P_told_11 : decode cc_P_told 11 = .ok (.dup, 1) := by decide +kernel
theorem d_P_told_12 : decode cc_P_told 12 = .ok (.ldc 160, 2) := by decide +kernel
theorem d_P_told_14 : decode cc_P_told 14 = .ok (.invokespecial 90, 3) := by decide +kernel
theorem d_P_told_17 : decode cc_P_told 17 = .ok (.athrow, 1) := by decide +kernel
theorem d_P_told_18 : decode cc_P_told 18 = .ok (.iload_n 2, 1) := by decide +kernel
theorem d_P_told_19 : decode cc_P_told 19 = .ok (.iconst 0, 1) := by decide +kernel
theorem d_P_told_20 : decode cc_P_told 20 = .ok (.iconst 3, 1) := by decide +kernel
theorem d_P_told_21 : decode cc_P_told 21 = .ok (.invokestatic 165, 3) := by decide +kernel
theorem d_P_told_24 : decode cc_P_told 24 = .ok (.ifCond .ne 13, 3) := by decide +kernel
theorem d_P_told_27 : decode cc_P_told 27 = .ok (.new 45, 3) := by decide +kernel
theorem d_P_told_30 : decode cc_P_told 30 = .ok (.dup, 1) := by decide +kernel
theorem d_P_told_31 : decode cc_P_told 31 = .ok (.ldc 169, 2) := by decide +kernel
theorem d_P_told_33 : decode cc_P_told 33 = .ok (.invokespecial 49, 3) := by decide +kernel
theorem d_P_told_36 : decode cc_P_told 36 = .ok (.athrow, 1) := by decide +kernel
theorem d_P_told_37 : decode cc_P_told 37 = .ok (.aload_n 0, 1) := by decide +kernel
theorem d_P_told_38 : decode cc_P_told 38 = .ok (.getfield 9, 3) := by decide +kernel
theorem d_P_told_41 : decode cc_P_told 41 = .ok (.iload_n 1, 1) := by decide +kernel
theorem d_P_told_42 : decode cc_P_told 42 = .ok (.iconst 4, 1) := by decide +kernel
theorem d_P_told_43 : decode cc_P_told 43 = .ok (.imul, 1) := by decide +kernel
theorem d_P_told_44 : decode cc_P_told 44 = .ok (.iload_n 2, 1) := by decide +kernel
theorem d_P_told_45 : decode cc_P_told 45 = .ok (.iadd, 1) := by decide +kernel
theorem d_P_told_46 : decode cc_P_told 46 = .ok (.iaload, 1) := by decide +kernel
theorem d_P_told_47 : decode cc_P_told 47 = .ok (.ireturn, 1) := by decide +kernel
theorem d_P_back_0 : decode cc_P_back 0 = .ok (.aload_n 0, 1) := by decide +kernel
theorem d_P_back_1 : decode cc_P_back 1 = .ok (.getfield 13, 3) := by decide +kernel
theorem d_P_back_4 : decode cc_P_back 4 = .ok (.ifCond .ne 13, 3) := by decide +kernel
theorem d_P_back_7 : decode cc_P_back 7 = .ok (.new 171, 3) := by decide +kernel
theorem d_P_back_10 : decode cc_P_back 10 = .ok (.dup, 1) := by decide +kernel
theorem d_P_back_11 : decode cc_P_back 11 = .ok (.ldc 173, 2) := by decide +kernel
theorem d_P_back_13 : decode cc_P_back 13 = .ok (.invokespecial 175, 3) := by decide +kernel
theorem d_P_back_16 : decode cc_P_back 16 = .ok (.athrow, 1) := by decide +kernel
theorem d_P_back_17 : decode cc_P_back 17 = .ok (.aload_n 0, 1) := by decide +kernel
theorem d_P_back_18 : decode cc_P_back 18 = .ok (.dup, 1) := by decide +kernel
theorem d_P_back_19 : decode cc_P_back 19 = .ok (.getfield 13, 3) := by decide +kernel
theorem d_P_back_22 : decode cc_P_back 22 = .ok (.iconst 1, 1) := by decide +kernel
theorem d_P_back_23 : decode cc_P_back 23 = .ok (.isub, 1) := by decide +kernel
theorem d_P_back_24 : decode cc_P_back 24 = .ok (.putfield 13, 3) := by decide +kernel
theorem d_P_back_27 : decode cc_P_back 27 = .ok (.return_, 1) := by decide +kernel
theorem d_P_count_0 : decode cc_P_count 0 = .ok (.aload_n 0, 1) := by decide +kernel
theorem d_P_count_1 : decode cc_P_count 1 = .ok (.aload_n 0, 1) := by decide +kernel
theorem d_P_count_2 : decode cc_P_count 2 = .ok (.getfield 13, 3) := by decide +kernel
theorem d_P_count_5 : decode cc_P_count 5 = .ok (.invokevirtual 57, 3) := by decide +kernel
theorem d_P_count_8 : decode cc_P_count 8 = .ok (.iload_n 1, 1) := by decide +kernel
theorem d_P_count_9 : decode cc_P_count 9 = .ok (.tableswitch 83 0 5 #[39, 44, 49, 59, 67, 75], 39) := by decide +kernel
theorem d_P_count_48 : decode cc_P_count 48 = .ok (.aload_n 0, 1) := by decide +kernel
theorem d_P_count_49 : decode cc_P_count 49 = .ok (.getfield 13, 3) := by decide +kernel
theorem d_P_count_52 : decode cc_P_count 52 = .ok (.ireturn, 1) := by decide +kernel
theorem d_P_count_53 : decode cc_P_count 53 = .ok (.aload_n 0, 1) := by decide +kernel
theorem d_P_count_54 : decode cc_P_count 54 = .ok (.getfield 17, 3) := by decide +kernel
theorem d_P_count_57 : decode cc_P_count 57 = .ok (.ireturn, 1) := by decide +kernel
theorem d_P_count_58 : decode cc_P_count 58 = .ok (.aload_n 0, 1) := by decide +kernel
theorem d_P_count_59 : decode cc_P_count 59 = .ok (.getfield 23, 3) := by decide +kernel
theorem d_P_count_62 : decode cc_P_count 62 = .ok (.iconst (-1), 1) := by decide +kernel
theorem d_P_count_63 : decode cc_P_count 63 = .ok (.iconst (-1), 1) := by decide +kernel
theorem d_P_count_64 : decode cc_P_count 64 = .ok (.invokevirtual 79, 3) := by decide +kernel
theorem d_P_count_67 : decode cc_P_count 67 = .ok (.ireturn, 1) := by decide +kernel
theorem d_P_count_68 : decode cc_P_count 68 = .ok (.aload_n 0, 1) := by decide +kernel
theorem d_P_count_69 : decode cc_P_count 69 = .ok (.getfield 23, 3) := by decide +kernel
theorem d_P_count_72 : decode cc_P_count 72 = .ok (.invokevirtual 176, 3) := by decide +kernel
theorem d_P_count_75 : decode cc_P_count 75 = .ok (.ireturn, 1) := by decide +kernel
theorem d_P_count_76 : decode cc_P_count 76 = .ok (.aload_n 0, 1) := by decide +kernel
theorem d_P_count_77 : decode cc_P_count 77 = .ok (.getfield 23, 3) := by decide +kernel
theorem d_P_count_80 : decode cc_P_count 80 = .ok (.invokevirtual 180, 3) := by decide +kernel
theorem d_P_count_83 : decode cc_P_count 83 = .ok (.ireturn, 1) := by decide +kernel
theorem d_P_count_84 : decode cc_P_count 84 = .ok (.aload_n 0, 1) := by decide +kernel
theorem d_P_count_85 : decode cc_P_count 85 = .ok (.getfield 23, 3) := by decide +kernel
theorem d_P_count_88 : decode cc_P_count 88 = .ok (.invokevirtual 183, 3) := by decide +kernel
theorem d_P_count_91 : decode cc_P_count 91 = .ok (.ireturn, 1) := by decide +kernel
theorem d_P_count_92 : decode cc_P_count 92 = .ok (.iconst (-1), 1) := by decide +kernel
theorem d_P_count_93 : decode cc_P_count 93 = .ok (.ireturn, 1) := by decide +kernel
theorem d_P_keep_0 : decode cc_P_keep 0 = .ok (.aload_n 0, 1) := by decide +kernel
theorem d_P_keep_1 : decode cc_P_keep 1 = .ok (.getfield 13, 3) := by decide +kernel
theorem d_P_keep_4 : decode cc_P_keep 4 = .ok (.iconst 4, 1) := by decide +kernel
theorem d_P_keep_5 : decode cc_P_keep 5 = .ok (.imul, 1) := by decide +kernel
theorem d_P_keep_6 : decode cc_P_keep 6 = .ok (.istore 5, 2) := by decide +kernel
theorem d_P_keep_8 : decode cc_P_keep 8 = .ok (.aload_n 0, 1) := by decide +kernel
theorem d_P_keep_9 : decode cc_P_keep 9 = .ok (.getfield 9, 3) := by decide +kernel
theorem d_P_keep_12 : decode cc_P_keep 12 = .ok (.iload 5, 2) := by decide +kernel
theorem d_P_keep_14 : decode cc_P_keep 14 = .ok (.iload_n 1, 1) := by decide +kernel
theorem d_P_keep_15 : decode cc_P_keep 15 = .ok (.iastore, 1) := by decide +kernel
theorem d_P_keep_16 : decode cc_P_keep 16 = .ok (.aload_n 0, 1) := by decide +kernel
theorem d_P_keep_17 : decode cc_P_keep 17 = .ok (.getfield 9, 3) := by decide +kernel
theorem d_P_keep_20 : decode cc_P_keep 20 = .ok (.iload 5, 2) := by decide +kernel
theorem d_P_keep_22 : decode cc_P_keep 22 = .ok (.iconst 1, 1) := by decide +kernel
theorem d_P_keep_23 : decode cc_P_keep 23 = .ok (.iadd, 1) := by decide +kernel
theorem d_P_keep_24 : decode cc_P_keep 24 = .ok (.iload_n 2, 1) := by decide +kernel
theorem d_P_keep_25 : decode cc_P_keep 25 = .ok (.iastore, 1) := by decide +kernel
theorem d_P_keep_26 : decode cc_P_keep 26 = .ok (.aload_n 0, 1) := by decide +kernel
theorem d_P_keep_27 : decode cc_P_keep 27 = .ok (.getfield 9, 3) := by decide +kernel
theorem d_P_keep_30 : decode cc_P_keep 30 = .ok (.iload 5, 2) := by decide +kernel
theorem d_P_keep_32 : decode cc_P_keep 32 = .ok (.iconst 2, 1) := by decide +kernel
theorem d_P_keep_33 : decode cc_P_keep 33 = .ok (.iadd, 1) := by decide +kernel
theorem d_P_keep_34 : decode cc_P_keep 34 = .ok (.iload_n 3, 1) := by decide +kernel
theorem d_P_keep_35 : decode cc_P_keep 35 = .ok (.iastore, 1) := by decide +kernel
theorem d_P_keep_36 : decode cc_P_keep 36 = .ok (.aload_n 0, 1) := by decide +kernel
theorem d_P_keep_37 : decode cc_P_keep 37 = .ok (.getfield 9, 3) := by decide +kernel
theorem d_P_keep_40 : decode cc_P_keep 40 = .ok (.iload 5, 2) := by decide +kernel
theorem d_P_keep_42 : decode cc_P_keep 42 = .ok (.iconst 3, 1) := by decide +kernel
theorem d_P_keep_43 : decode cc_P_keep 43 = .ok (.iadd, 1) := by decide +kernel
theorem d_P_keep_44 : decode cc_P_keep 44 = .ok (.iload 4, 2) := by decide +kernel
theorem d_P_keep_46 : decode cc_P_keep 46 = .ok (.iastore, 1) := by decide +kernel
theorem d_P_keep_47 : decode cc_P_keep 47 = .ok (.aload_n 0, 1) := by decide +kernel
theorem d_P_keep_48 : decode cc_P_keep 48 = .ok (.dup, 1) := by decide +kernel
theorem d_P_keep_49 : decode cc_P_keep 49 = .ok (.getfield 13, 3) := by decide +kernel
theorem d_P_keep_52 : decode cc_P_keep 52 = .ok (.iconst 1, 1) := by decide +kernel
theorem d_P_keep_53 : decode cc_P_keep 53 = .ok (.iadd, 1) := by decide +kernel
theorem d_P_keep_54 : decode cc_P_keep 54 = .ok (.putfield 13, 3) := by decide +kernel
theorem d_P_keep_57 : decode cc_P_keep 57 = .ok (.return_, 1) := by decide +kernel
theorem d_P_replay_0 : decode cc_P_replay 0 = .ok (.aload_n 0, 1) := by decide +kernel
theorem d_P_replay_1 : decode cc_P_replay 1 = .ok (.getfield 23, 3) := by decide +kernel
theorem d_P_replay_4 : decode cc_P_replay 4 = .ok (.invokevirtual 186, 3) := by decide +kernel
theorem d_P_replay_7 : decode cc_P_replay 7 = .ok (.iconst 0, 1) := by decide +kernel
theorem d_P_replay_8 : decode cc_P_replay 8 = .ok (.istore_n 2, 1) := by decide +kernel
theorem d_P_replay_9 : decode cc_P_replay 9 = .ok (.iload_n 2, 1) := by decide +kernel
theorem d_P_replay_10 : decode cc_P_replay 10 = .ok (.iload_n 1, 1) := by decide +kernel
theorem d_P_replay_11 : decode cc_P_replay 11 = .ok (.if_icmp .ge 15, 3) := by decide +kernel
theorem d_P_replay_14 : decode cc_P_replay 14 = .ok (.aload_n 0, 1) := by decide +kernel
theorem d_P_replay_15 : decode cc_P_replay 15 = .ok (.iload_n 2, 1) := by decide +kernel
theorem d_P_replay_16 : decode cc_P_replay 16 = .ok (.invokevirtual 162, 3) := by decide +kernel
theorem d_P_replay_19 : decode cc_P_replay 19 = .ok (.pop, 1) := by decide +kernel
theorem d_P_replay_20 : decode cc_P_replay 20 = .ok (.iinc 2 1, 3) := by decide +kernel
theorem d_P_replay_23 : decode cc_P_replay 23 = .ok (.goto (-14), 3) := by decide +kernel
theorem d_P_replay_26 : decode cc_P_replay 26 = .ok (.return_, 1) := by decide +kernel
theorem d_P_takeKept_0 : decode cc_P_takeKept 0 = .ok (.iload_n 1, 1) := by decide +kernel
theorem d_P_takeKept_1 : decode cc_P_takeKept 1 = .ok (.iconst 4, 1) := by decide +kernel
theorem d_P_takeKept_2 : decode cc_P_takeKept 2 = .ok (.imul, 1) := by decide +kernel
theorem d_P_takeKept_3 : decode cc_P_takeKept 3 = .ok (.istore_n 2, 1) := by decide +kernel
theorem d_P_takeKept_4 : decode cc_P_takeKept 4 = .ok (.aload_n 0, 1) := by decide +kernel
theorem d_P_takeKept_5 : decode cc_P_takeKept 5 = .ok (.getfield 23, 3) := by decide +kernel
theorem d_P_takeKept_8 : decode cc_P_takeKept 8 = .ok (.aload_n 0, 1) := by decide +kernel
theorem d_P_takeKept_9 : decode cc_P_takeKept 9 = .ok (.getfield 9, 3) := by decide +kernel
theorem d_P_takeKept_12 : decode cc_P_takeKept 12 = .ok (.iload_n 2, 1) := by decide +kernel
theorem d_P_takeKept_13 : decode cc_P_takeKept 13 = .ok (.iaload, 1) := by decide +kernel
theorem d_P_takeKept_14 : decode cc_P_takeKept 14 = .ok (.aload_n 0, 1) := by decide +kernel
theorem d_P_takeKept_15 : decode cc_P_takeKept 15 = .ok (.getfield 9, 3) := by decide +kernel
theorem d_P_takeKept_18 : decode cc_P_takeKept 18 = .ok (.iload_n 2, 1) := by decide +kernel
theorem d_P_takeKept_19 : decode cc_P_takeKept 19 = .ok (.iconst 1, 1) := by decide +kernel
theorem d_P_takeKept_20 : decode cc_P_takeKept 20 = .ok (.iadd, 1) := by decide +kernel
theorem d_P_takeKept_21 : decode cc_P_takeKept 21 = .ok (.iaload, 1) := by decide +kernel
theorem d_P_takeKept_22 : decode cc_P_takeKept 22 = .ok (.aload_n 0, 1) := by decide +kernel
theorem d_P_takeKept_23 : decode cc_P_takeKept 23 = .ok (.getfield 9, 3) := by decide +kernel
theorem d_P_takeKept_26 : decode cc_P_takeKept 26 = .ok (.iload_n 2, 1) := by decide +kernel
theorem d_P_takeKept_27 : decode cc_P_takeKept 27 = .ok (.iconst 2, 1) := by decide +kernel
theorem d_P_takeKept_28 : decode cc_P_takeKept 28 = .ok (.iadd, 1) := by decide +kernel
theorem d_P_takeKept_29 : decode cc_P_takeKept 29 = .ok (.iaload, 1) := by decide +kernel
theorem d_P_takeKept_30 : decode cc_P_takeKept 30 = .ok (.aload_n 0, 1) := by decide +kernel
theorem d_P_takeKept_31 : decode cc_P_takeKept 31 = .ok (.getfield 9, 3) := by decide +kernel
theorem d_P_takeKept_34 : decode cc_P_takeKept 34 = .ok (.iload_n 2, 1) := by decide +kernel
theorem d_P_takeKept_35 : decode cc_P_takeKept 35 = .ok (.iconst 3, 1) := by decide +kernel
theorem d_P_takeKept_36 : decode cc_P_takeKept 36 = .ok (.iadd, 1) := by decide +kernel
theorem d_P_takeKept_37 : decode cc_P_takeKept 37 = .ok (.iaload, 1) := by decide +kernel
theorem d_P_takeKept_38 : decode cc_P_takeKept 38 = .ok (.invokevirtual 61, 3) := by decide +kernel
theorem d_P_takeKept_41 : decode cc_P_takeKept 41 = .ok (.ireturn, 1) := by decide +kernel
theorem d_P_areAllTold_0 : decode cc_P_areAllTold 0 = .ok (.iconst 0, 1) := by decide +kernel
theorem d_P_areAllTold_1 : decode cc_P_areAllTold 1 = .ok (.istore_n 2, 1) := by decide +kernel
theorem d_P_areAllTold_2 : decode cc_P_areAllTold 2 = .ok (.iload_n 2, 1) := by decide +kernel
theorem d_P_areAllTold_3 : decode cc_P_areAllTold 3 = .ok (.bipush 32, 2) := by decide +kernel
theorem d_P_areAllTold_5 : decode cc_P_areAllTold 5 = .ok (.if_icmp .ge 30, 3) := by decide +kernel
theorem d_P_areAllTold_8 : decode cc_P_areAllTold 8 = .ok (.iload_n 2, 1) := by decide +kernel
theorem d_P_areAllTold_9 : decode cc_P_areAllTold 9 = .ok (.iload_n 1, 1) := by decide +kernel
theorem d_P_areAllTold_10 : decode cc_P_areAllTold 10 = .ok (.invokestatic 189, 3) := by decide +kernel
theorem d_P_areAllTold_13 : decode cc_P_areAllTold 13 = .ok (.ifCond .eq 16, 3) := by decide +kernel
theorem d_P_areAllTold_16 : decode cc_P_areAllTold 16 = .ok (.aload_n 0, 1) := by decide +kernel
theorem d_P_areAllTold_17 : decode cc_P_areAllTold 17 = .ok (.getfield 23, 3) := by decide +kernel
theorem d_P_areAllTold_20 : decode cc_P_areAllTold 20 = .ok (.iload_n 2, 1) := by decide +kernel
theorem d_P_areAllTold_21 : decode cc_P_areAllTold 21 = .ok (.invokevirtual 99, 3) := by decide +kernel
theorem d_P_areAllTold_24 : decode cc_P_areAllTold 24 = .ok (.ifCond .ne 5, 3) := by decide +kernel
theorem d_P_areAllTold_27 : decode cc_P_areAllTold 27 = .ok (.iconst 0, 1) := by decide +kernel
theorem d_P_areAllTold_28 : decode cc_P_areAllTold 28 = .ok (.ireturn, 1) := by decide +kernel
theorem d_P_areAllTold_29 : decode cc_P_areAllTold 29 = .ok (.iinc 2 1, 3) := by decide +kernel
theorem d_P_areAllTold_32 : decode cc_P_areAllTold 32 = .ok (.goto (-30), 3) := by decide +kernel
theorem d_P_areAllTold_35 : decode cc_P_areAllTold 35 = .ok (.iconst 1, 1) := by decide +kernel
theorem d_P_areAllTold_36 : decode cc_P_areAllTold 36 = .ok (.ireturn, 1) := by decide +kernel
theorem d_P_isEvent_0 : decode cc_P_isEvent 0 = .ok (.iload_n 1, 1) := by decide +kernel
theorem d_P_isEvent_1 : decode cc_P_isEvent 1 = .ok (.iconst 0, 1) := by decide +kernel
theorem d_P_isEvent_2 : decode cc_P_isEvent 2 = .ok (.aload_n 0, 1) := by decide +kernel
theorem d_P_isEvent_3 : decode cc_P_isEvent 3 = .ok (.getfield 13, 3) := by decide +kernel
theorem d_P_isEvent_6 : decode cc_P_isEvent 6 = .ok (.iconst 1, 1) := by decide +kernel
theorem d_P_isEvent_7 : decode cc_P_isEvent 7 = .ok (.isub, 1) := by decide +kernel
theorem d_P_isEvent_8 : decode cc_P_isEvent 8 = .ok (.invokestatic 165, 3) := by decide +kernel
theorem d_P_isEvent_11 : decode cc_P_isEvent 11 = .ok (.ireturn, 1) := by decide +kernel
theorem d_P_hasSoMany_0 : decode cc_P_hasSoMany 0 = .ok (.iload_n 1, 1) := by decide +kernel
theorem d_P_hasSoMany_1 : decode cc_P_hasSoMany 1 = .ok (.iconst 0, 1) := by decide +kernel
theorem d_P_hasSoMany_2 : decode cc_P_hasSoMany 2 = .ok (.aload_n 0, 1) := by decide +kernel
theorem d_P_hasSoMany_3 : decode cc_P_hasSoMany 3 = .ok (.getfield 13, 3) := by decide +kernel
theorem d_P_hasSoMany_6 : decode cc_P_hasSoMany 6 = .ok (.invokestatic 165, 3) := by decide +kernel
theorem d_P_hasSoMany_9 : decode cc_P_hasSoMany 9 = .ok (.ireturn, 1) := by decide +kernel
theorem d_P_isInRange_0 : decode cc_P_isInRange 0 = .ok (.iload_n 0, 1) := by decide +kernel
theorem d_P_isInRange_1 : decode cc_P_isInRange 1 = .ok (.tableswitch 233 0 6 #[43, 70, 94, 115, 145, 169, 203], 43) := by decide +kernel
theorem d_P_isInRange_44 : decode cc_P_isInRange 44 = .ok (.iload_n 1, 1) := by decide +kernel
theorem d_P_isInRange_45 : decode cc_P_isInRange 45 = .ok (.invokestatic 91, 3) := by decide +kernel
theorem d_P_isInRange_48 : decode cc_P_isInRange 48 = .ok (.ifCond .eq 21, 3) := by decide +kernel
theorem d_P_isInRange_51 : decode cc_P_isInRange 51 = .ok (.iload_n 2, 1) := by decide +kernel
theorem d_P_isInRange_52 : decode cc_P_isInRange 52 = .ok (.invokestatic 74, 3) := by decide +kernel
theorem d_P_isInRange_55 : decode cc_P_isInRange 55 = .ok (.ifCond .eq 14, 3) := by decide +kernel
theorem d_P_isInRange_58 : decode cc_P_isInRange 58 = .ok (.iload_n 3, 1) := by decide +kernel
theorem d_P_isInRange_59 : decode cc_P_isInRange 59 = .ok (.invokestatic 68, 3) := by decide +kernel
theorem d_P_isInRange_62 : decode cc_P_isInRange 62 = .ok (.ifCond .eq 7, 3) := by decide +kernel
theorem d_P_isInRange_65 : decode cc_P_isInRange 65 = .ok (.iconst 1, 1) := by decide +kernel
theorem d_P_isInRange_66 : decode cc_P_isInRange 66 = .ok (.goto 4, 3) := by decide +kernel
theorem d_P_isInRange_69 : decode cc_P_isInRange 69 = .ok (.iconst 0, 1) := by decide +kernel
theorem d_P_isInRange_70 : decode cc_P_isInRange 70 = .ok (.ireturn, 1) := by decide +kernel
theorem d_P_isInRange_71 : decode cc_P_isInRange 71 = .ok (.iload_n 1, 1) := by decide +kernel
theorem d_P_isInRange_72 : decode cc_P_isInRange 72 = .ok (.invokestatic 91, 3) := by decide +kernel
theorem d_P_isInRange_75 : decode cc_P_isInRange 75 = .ok (.ifCond .eq 18, 3) := by decide +kernel
theorem d_P_isInRange_78 : decode cc_P_isInRange 78 = .ok (.iload_n 2, 1) := by decide +kernel
theorem d_P_isInRange_79 : decode cc_P_isInRange 79 = .ok (.invokestatic 68, 3) := by decide +kernel
theorem d_P_isInRange_82 : decode cc_P_isInRange 82 = .ok (.ifCond .eq 11, 3) := by decide +kernel
theorem d_P_isInRange_85 : decode cc_P_isInRange 85 = .ok (.iload_n 3, 1) := by decide +kernel
theorem d_P_isInRange_86 : decode cc_P_isInRange 86 = .ok (.ifCond .ne 7, 3) := by decide +kernel
theorem d_P_isInRange_89 : decode cc_P_isInRange 89 = .ok (.iconst 1, 1) := by decide +kernel
theorem d_P_isInRange_90 : decode cc_P_isInRange 90 = .ok (.goto 4, 3) := by decide +kernel
theorem d_P_isInRange_93 : decode cc_P_isInRange 93 = .ok (.iconst 0, 1) := by decide +kernel
theorem d_P_isInRange_94 : decode cc_P_isInRange 94 = .ok (.ireturn, 1) := by decide +kernel
theorem d_P_isInRange_95 : decode cc_P_isInRange 95 = .ok (.iload_n 1, 1) := by decide +kernel
theorem d_P_isInRange_96 : decode cc_P_isInRange 96 = .ok (.invokestatic 91, 3) := by decide +kernel
theorem d_P_isInRange_99 : decode cc_P_isInRange 99 = .ok (.ifCond .eq 15, 3) := by decide +kernel
theorem d_P_isInRange_102 : decode cc_P_isInRange 102 = .ok (.iload_n 2, 1) := by decide +kernel
theorem d_P_isInRange_103 : decode cc_P_isInRange 103 = .ok (.ifCond .ne 11, 3) := by decide +kernel
theorem d_P_isInRange_106 : decode cc_P_isInRange 106 = .ok (.iload_n 3, 1) := by decide +kernel
theorem d_P_isInRange_107 : decode cc_P_isInRange 107 = .ok (.ifCond .ne 7, 3) := by decide +kernel
theorem d_P_isInRange_110 : decode cc_P_isInRange 110 = .ok (.iconst 1, 1) := by decide +kernel
theorem d_P_isInRange_111 : decode cc_P_isInRange 111 = .ok (.goto 4, 3) := by decide +kernel
theorem d_P_isInRange_114 : decode cc_P_isInRange 114 = .ok (.iconst 0, 1) := by decide +kernel
theorem d_P_isInRange_115 : decode cc_P_isInRange 115 = .ok (.ireturn, 1) := by decide +kernel
theorem d_P_isInRange_116 : decode cc_P_isInRange 116 = .ok (.iload_n 1, 1) := by decide +kernel
theorem d_P_isInRange_117 : decode cc_P_isInRange 117 = .ok (.invokestatic 193, 3) := by decide +kernel
theorem d_P_isInRange_120 : decode cc_P_isInRange 120 = .ok (.ifCond .eq 24, 3) := by decide +kernel
theorem d_P_isInRange_123 : decode cc_P_isInRange 123 = .ok (.iload_n 2, 1) := by decide +kernel
theorem d_P_isInRange_124 : decode cc_P_isInRange 124 = .ok (.iconst 1, 1) := by decide +kernel
theorem d_P_isInRange_125 : decode cc_P_isInRange 125 = .ok (.bipush 9, 2) := by decide +kernel
theorem d_P_isInRange_127 : decode cc_P_isInRange 127 = .ok (.invokestatic 165, 3) := by decide +kernel
theorem d_P_isInRange_130 : decode cc_P_isInRange 130 = .ok (.ifCond .eq 14, 3) := by decide +kernel
theorem d_P_isInRange_133 : decode cc_P_isInRange 133 = .ok (.iload_n 3, 1) := by decide +kernel
theorem d_P_isInRange_134 : decode cc_P_isInRange 134 = .ok (.invokestatic 74, 3) := by decide +kernel
theorem d_P_isInRange_137 : decode cc_P_isInRange 137 = .ok (.ifCond .eq 7, 3) := by decide +kernel
theorem d_P_isInRange_140 : decode cc_P_isInRange 140 = .ok (.iconst 1, 1) := by decide +kernel
theorem d_P_isInRange_141 : decode cc_P_isInRange 141 = .ok (.goto 4, 3) := by decide +kernel
theorem d_P_isInRange_144 : decode cc_P_isInRange 144 = .ok (.iconst 0, 1) := by decide +kernel
theorem d_P_isInRange_145 : decode cc_P_isInRange 145 = .ok (.ireturn, 1) := by decide +kernel
theorem d_P_isInRange_146 : decode cc_P_isInRange 146 = .ok (.iload_n 1, 1) := by decide +kernel
theorem d_P_isInRange_147 : decode cc_P_isInRange 147 = .ok (.invokestatic 91, 3) := by decide +kernel
theorem d_P_isInRange_150 : decode cc_P_isInRange 150 = .ok (.ifCond .eq 18, 3) := by decide +kernel
theorem d_P_isInRange_153 : decode cc_P_isInRange 153 = .ok (.iload_n 2, 1) := by decide +kernel
theorem d_P_isInRange_154 : decode cc_P_isInRange 154 = .ok (.invokestatic 193, 3) := by decide +kernel
theorem d_P_isInRange_157 : decode cc_P_isInRange 157 = .ok (.ifCond .eq 11, 3) := by decide +kernel
theorem d_P_isInRange_160 : decode cc_P_isInRange 160 = .ok (.iload_n 3, 1) := by decide +kernel
theorem d_P_isInRange_161 : decode cc_P_isInRange 161 = .ok (.ifCond .ne 7, 3) := by decide +kernel
theorem d_P_isInRange_164 : decode cc_P_isInRange 164 = .ok (.iconst 1, 1) := by decide +kernel
theorem d_P_isInRange_165 : decode cc_P_isInRange 165 = .ok (.goto 4, 3) := by decide +kernel
theorem d_P_isInRange_168 : decode cc_P_isInRange 168 = .ok (.iconst 0, 1) := by decide +kernel
theorem d_P_isInRange_169 : decode cc_P_isInRange 169 = .ok (.ireturn, 1) := by decide +kernel
theorem d_P_isInRange_170 : decode cc_P_isInRange 170 = .ok (.iload_n 1, 1) := by decide +kernel
theorem d_P_isInRange_171 : decode cc_P_isInRange 171 = .ok (.invokestatic 149, 3) := by decide +kernel
theorem d_P_isInRange_174 : decode cc_P_isInRange 174 = .ok (.ifCond .eq 28, 3) := by decide +kernel
theorem d_P_isInRange_177 : decode cc_P_isInRange 177 = .ok (.iload_n 2, 1) := by decide +kernel
theorem d_P_isInRange_178 : decode cc_P_isInRange 178 = .ok (.ifCond .eq 24, 3) := by decide +kernel
theorem d_P_isInRange_181 : decode cc_P_isInRange 181 = .ok (.iload_n 2, 1) := by decide +kernel
theorem d_P_isInRange_182 : decode cc_P_isInRange 182 = .ok (.sipush (-10000), 3) := by decide +kernel
theorem d_P_isInRange_185 : decode cc_P_isInRange 185 = .ok (.sipush 10000, 3) := by decide +kernel
theorem d_P_isInRange_188 : decode cc_P_isInRange 188 = .ok (.invokestatic 165, 3) := by decide +kernel
theorem d_P_isInRange_191 : decode cc_P_isInRange 191 = .ok (.ifCond .eq 11, 3) := by decide +kernel
theorem d_P_isInRange_194 : decode cc_P_isInRange 194 = .ok (.iload_n 3, 1) := by decide +kernel
theorem d_P_isInRange_195 : decode cc_P_isInRange 195 = .ok (.ifCond .ne 7, 3) := by decide +kernel
theorem d_P_isInRange_198 : decode cc_P_isInRange 198 = .ok (.iconst 1, 1) := by decide +kernel
theorem d_P_isInRange_199 : decode cc_P_isInRange 199 = .ok (.goto 4, 3) := by decide +kernel
theorem d_P_isInRange_202 : decode cc_P_isInRange 202 = .ok (.iconst 0, 1) := by decide +kernel
theorem d_P_isInRange_203 : decode cc_P_isInRange 203 = .ok (.ireturn, 1) := by decide +kernel
theorem d_P_isInRange_204 : decode cc_P_isInRange 204 = .ok (.iload_n 1, 1) := by decide +kernel
theorem d_P_isInRange_205 : decode cc_P_isInRange 205 = .ok (.invokestatic 68, 3) := by decide +kernel
theorem d_P_isInRange_208 : decode cc_P_isInRange 208 = .ok (.ifCond .eq 24, 3) := by decide +kernel
theorem d_P_isInRange_211 : decode cc_P_isInRange 211 = .ok (.iload_n 2, 1) := by decide +kernel
theorem d_P_isInRange_212 : decode cc_P_isInRange 212 = .ok (.invokestatic 68, 3) := by decide +kernel
theorem d_P_isInRange_215 : decode cc_P_isInRange 215 = .ok (.ifCond .eq 17, 3) := by decide +kernel
theorem d_P_isInRange_218 : decode cc_P_isInRange 218 = .ok (.iload_n 3, 1) := by decide +kernel
theorem d_P_isInRange_219 : decode cc_P_isInRange 219 = .ok (.iconst 1, 1) := by decide +kernel
theorem d_P_isInRange_220 : decode cc_P_isInRange 220 = .ok (.bipush 99, 2) := by decide +kernel
theorem d_P_isInRange_222 : decode cc_P_isInRange 222 = .ok (.invokestatic 165, 3) := by decide +kernel
theorem d_P_isInRange_225 : decode cc_P_isInRange 225 = .ok (.ifCond .eq 7, 3) := by decide +kernel
theorem d_P_isInRange_228 : decode cc_P_isInRange 228 = .ok (.iconst 1, 1) := by decide +kernel
theorem d_P_isInRange_229 : decode cc_P_isInRange 229 = .ok (.goto 4, 3) := by decide +kernel
theorem d_P_isInRange_232 : decode cc_P_isInRange 232 = .ok (.iconst 0, 1) := by decide +kernel
theorem d_P_isInRange_233 : decode cc_P_isInRange 233 = .ok (.ireturn, 1) := by decide +kernel
theorem d_P_isInRange_234 : decode cc_P_isInRange 234 = .ok (.iconst 0, 1) := by decide +kernel
theorem d_P_isInRange_235 : decode cc_P_isInRange 235 = .ok (.ireturn, 1) := by decide +kernel
theorem d_P_isUnit_0 : decode cc_P_isUnit 0 = .ok (.iload_n 0, 1) := by decide +kernel
theorem d_P_isUnit_1 : decode cc_P_isUnit 1 = .ok (.iconst 0, 1) := by decide +kernel
theorem d_P_isUnit_2 : decode cc_P_isUnit 2 = .ok (.bipush 19, 2) := by decide +kernel
theorem d_P_isUnit_4 : decode cc_P_isUnit 4 = .ok (.invokestatic 165, 3) := by decide +kernel
theorem d_P_isUnit_7 : decode cc_P_isUnit 7 = .ok (.ireturn, 1) := by decide +kernel
theorem d_P_isGood_0 : decode cc_P_isGood 0 = .ok (.iload_n 0, 1) := by decide +kernel
theorem d_P_isGood_1 : decode cc_P_isGood 1 = .ok (.iconst 0, 1) := by decide +kernel
theorem d_P_isGood_2 : decode cc_P_isGood 2 = .ok (.iconst 5, 1) := by decide +kernel
theorem d_P_isGood_3 : decode cc_P_isGood 3 = .ok (.invokestatic 165, 3) := by decide +kernel
theorem d_P_isGood_6 : decode cc_P_isGood 6 = .ok (.ireturn, 1) := by decide +kernel
theorem d_P_isPlace_0 : decode cc_P_isPlace 0 = .ok (.iload_n 0, 1) := by decide +kernel
theorem d_P_isPlace_1 : decode cc_P_isPlace 1 = .ok (.iconst 0, 1) := by decide +kernel
theorem d_P_isPlace_2 : decode cc_P_isPlace 2 = .ok (.bipush 9, 2) := by decide +kernel
theorem d_P_isPlace_4 : decode cc_P_isPlace 4 = .ok (.invokestatic 165, 3) := by decide +kernel
theorem d_P_isPlace_7 : decode cc_P_isPlace 7 = .ok (.ireturn, 1) := by decide +kernel
theorem d_P_isOrder_0 : decode cc_P_isOrder 0 = .ok (.iload_n 0, 1) := by decide +kernel
theorem d_P_isOrder_1 : decode cc_P_isOrder 1 = .ok (.iconst 0, 1) := by decide +kernel
theorem d_P_isOrder_2 : decode cc_P_isOrder 2 = .ok (.bipush 9, 2) := by decide +kernel
theorem d_P_isOrder_4 : decode cc_P_isOrder 4 = .ok (.invokestatic 165, 3) := by decide +kernel
theorem d_P_isOrder_7 : decode cc_P_isOrder 7 = .ok (.ireturn, 1) := by decide +kernel
theorem d_P_isOwner_0 : decode cc_P_isOwner 0 = .ok (.iload_n 0, 1) := by decide +kernel
theorem d_P_isOwner_1 : decode cc_P_isOwner 1 = .ok (.iconst 0, 1) := by decide +kernel
theorem d_P_isOwner_2 : decode cc_P_isOwner 2 = .ok (.iconst 3, 1) := by decide +kernel
theorem d_P_isOwner_3 : decode cc_P_isOwner 3 = .ok (.invokestatic 165, 3) := by decide +kernel
theorem d_P_isOwner_6 : decode cc_P_isOwner 6 = .ok (.ireturn, 1) := by decide +kernel
theorem d_P_isWithin_0 : decode cc_P_isWithin 0 = .ok (.iload_n 0, 1) := by decide +kernel
theorem d_P_isWithin_1 : decode cc_P_isWithin 1 = .ok (.iload_n 1, 1) := by decide +kernel
theorem d_P_isWithin_2 : decode cc_P_isWithin 2 = .ok (.if_icmp .lt 12, 3) := by decide +kernel
theorem d_P_isWithin_5 : decode cc_P_isWithin 5 = .ok (.iload_n 0, 1) := by decide +kernel
theorem d_P_isWithin_6 : decode cc_P_isWithin 6 = .ok (.iload_n 2, 1) := by decide +kernel
theorem d_P_isWithin_7 : decode cc_P_isWithin 7 = .ok (.if_icmp .gt 7, 3) := by decide +kernel
theorem d_P_isWithin_10 : decode cc_P_isWithin 10 = .ok (.iconst 1, 1) := by decide +kernel
theorem d_P_isWithin_11 : decode cc_P_isWithin 11 = .ok (.goto 4, 3) := by decide +kernel
theorem d_P_isWithin_14 : decode cc_P_isWithin 14 = .ok (.iconst 0, 1) := by decide +kernel
theorem d_P_isWithin_15 : decode cc_P_isWithin 15 = .ok (.ireturn, 1) := by decide +kernel
theorem d_P_isInSet_0 : decode cc_P_isInSet 0 = .ok (.iload_n 1, 1) := by decide +kernel
theorem d_P_isInSet_1 : decode cc_P_isInSet 1 = .ok (.iload_n 0, 1) := by decide +kernel
theorem d_P_isInSet_2 : decode cc_P_isInSet 2 = .ok (.iushr, 1) := by decide +kernel
theorem d_P_isInSet_3 : decode cc_P_isInSet 3 = .ok (.iconst 1, 1) := by decide +kernel
theorem d_P_isInSet_4 : decode cc_P_isInSet 4 = .ok (.iand, 1) := by decide +kernel
theorem d_P_isInSet_5 : decode cc_P_isInSet 5 = .ok (.iconst 1, 1) := by decide +kernel
theorem d_P_isInSet_6 : decode cc_P_isInSet 6 = .ok (.if_icmp .ne 7, 3) := by decide +kernel
theorem d_P_isInSet_9 : decode cc_P_isInSet 9 = .ok (.iconst 1, 1) := by decide +kernel
theorem d_P_isInSet_10 : decode cc_P_isInSet 10 = .ok (.goto 4, 3) := by decide +kernel
theorem d_P_isInSet_13 : decode cc_P_isInSet 13 = .ok (.iconst 0, 1) := by decide +kernel
theorem d_P_isInSet_14 : decode cc_P_isInSet 14 = .ok (.ireturn, 1) := by decide +kernel
theorem d_P_pair_0 : decode cc_P_pair 0 = .ok (.iload_n 0, 1) := by decide +kernel
theorem d_P_pair_1 : decode cc_P_pair 1 = .ok (.bipush 10, 2) := by decide +kernel
theorem d_P_pair_3 : decode cc_P_pair 3 = .ok (.imul, 1) := by decide +kernel
theorem d_P_pair_4 : decode cc_P_pair 4 = .ok (.iload_n 1, 1) := by decide +kernel
theorem d_P_pair_5 : decode cc_P_pair 5 = .ok (.iadd, 1) := by decide +kernel
theorem d_P_pair_6 : decode cc_P_pair 6 = .ok (.ireturn, 1) := by decide +kernel
theorem d_P_orNone_0 : decode cc_P_orNone 0 = .ok (.iload_n 0, 1) := by decide +kernel
theorem d_P_orNone_1 : decode cc_P_orNone 1 = .ok (.ldc 196, 2) := by decide +kernel
theorem d_P_orNone_3 : decode cc_P_orNone 3 = .ok (.if_icmp .lt 7, 3) := by decide +kernel
theorem d_P_orNone_6 : decode cc_P_orNone 6 = .ok (.iconst (-1), 1) := by decide +kernel
theorem d_P_orNone_7 : decode cc_P_orNone 7 = .ok (.goto 4, 3) := by decide +kernel
theorem d_P_orNone_10 : decode cc_P_orNone 10 = .ok (.iload_n 0, 1) := by decide +kernel
theorem d_P_orNone_11 : decode cc_P_orNone 11 = .ok (.ireturn, 1) := by decide +kernel
theorem d_F_init_0 : decode cc_F_init 0 = .ok (.aload_n 0, 1) := by decide +kernel
theorem d_F_init_1 : decode cc_F_init 1 = .ok (.invokespecial 3, 3) := by decide +kernel
theorem d_F_init_4 : decode cc_F_init 4 = .ok (.aload_n 0, 1) := by decide +kernel
theorem d_F_init_5 : decode cc_F_init 5 = .ok (.bipush 6, 2) := by decide +kernel
theorem d_F_init_7 : decode cc_F_init 7 = .ok (.newarray .int, 2) := by decide +kernel
theorem d_F_init_9 : decode cc_F_init 9 = .ok (.putfield 9, 3) := by decide +kernel
theorem d_F_init_12 : decode cc_F_init 12 = .ok (.aload_n 0, 1) := by decide +kernel
theorem d_F_init_13 : decode cc_F_init 13 = .ok (.bipush 6, 2) := by decide +kernel
theorem d_F_init_15 : decode cc_F_init 15 = .ok (.newarray .int, 2) := by decide +kernel
theorem d_F_init_17 : decode cc_F_init 17 = .ok (.putfield 15, 3) := by decide +kernel
theorem d_F_init_20 : decode cc_F_init 20 = .ok (.aload_n 0, 1) := by decide +kernel
theorem d_F_init_21 : decode cc_F_init 21 = .ok (.bipush 6, 2) := by decide +kernel
theorem d_F_init_23 : decode cc_F_init 23 = .ok (.newarray .int, 2) := by decide +kernel
theorem d_F_init_25 : decode cc_F_init 25 = .ok (.putfield 18, 3) := by decide +kernel
theorem d_F_init_28 : decode cc_F_init 28 = .ok (.aload_n 0, 1) := by decide +kernel
theorem d_F_init_29 : decode cc_F_init 29 = .ok (.bipush 6, 2) := by decide +kernel
theorem d_F_init_31 : decode cc_F_init 31 = .ok (.newarray .int, 2) := by decide +kernel
theorem d_F_init_33 : decode cc_F_init 33 = .ok (.putfield 21, 3) := by decide +kernel
theorem d_F_init_36 : decode cc_F_init 36 = .ok (.aload_n 0, 1) := by decide +kernel
theorem d_F_init_37 : decode cc_F_init 37 = .ok (.iconst 0, 1) := by decide +kernel
theorem d_F_init_38 : decode cc_F_init 38 = .ok (.putfield 24, 3) := by decide +kernel
theorem d_F_init_41 : decode cc_F_init 41 = .ok (.return_, 1) := by decide +kernel
theorem d_F_most_0 : decode cc_F_most 0 = .ok (.aload_n 0, 1) := by decide +kernel
theorem d_F_most_1 : decode cc_F_most 1 = .ok (.aload_n 1, 1) := by decide +kernel
theorem d_F_most_2 : decode cc_F_most 2 = .ok (.invokevirtual 28, 3) := by decide +kernel
theorem d_F_most_5 : decode cc_F_most 5 = .ok (.aload_n 0, 1) := by decide +kernel
theorem d_F_most_6 : decode cc_F_most 6 = .ok (.aload_n 1, 1) := by decide +kernel
theorem d_F_most_7 : decode cc_F_most 7 = .ok (.iload_n 2, 1) := by decide +kernel
theorem d_F_most_8 : decode cc_F_most 8 = .ok (.invokevirtual 32, 3) := by decide +kernel
theorem d_F_most_11 : decode cc_F_most 11 = .ok (.iconst 0, 1) := by decide +kernel
theorem d_F_most_12 : decode cc_F_most 12 = .ok (.istore_n 3, 1) := by decide +kernel
theorem d_F_most_13 : decode cc_F_most 13 = .ok (.iconst 0, 1) := by decide +kernel
theorem d_F_most_14 : decode cc_F_most 14 = .ok (.istore 4, 2) := by decide +kernel
theorem d_F_most_16 : decode cc_F_most 16 = .ok (.iload 4, 2) := by decide +kernel
theorem d_F_most_18 : decode cc_F_most 18 = .ok (.iconst 1, 1) := by decide +kernel
theorem d_F_most_19 : decode cc_F_most 19 = .ok (.aload_n 0, 1) := by decide +kernel
theorem d_F_most_20 : decode cc_F_most 20 = .ok (.getfield 24, 3) := by decide +kernel
theorem d_F_most_23 : decode cc_F_most 23 = .ok (.ishl, 1) := by decide +kernel
theorem d_F_most_24 : decode cc_F_most 24 = .ok (.if_icmp .ge 33, 3) := by decide +kernel
theorem d_F_most_27 : decode cc_F_most 27 = .ok (.iload 4, 2) := by decide +kernel
theorem d_F_most_29 : decode cc_F_most 29 = .ok (.invokestatic 36, 3) := by decide +kernel
theorem d_F_most_32 : decode cc_F_most 32 = .ok (.iload_n 3, 1) := by decide +kernel
theorem d_F_most_33 : decode cc_F_most 33 = .ok (.if_icmp .le 18, 3) := by decide +kernel
theorem d_F_most_36 : decode cc_F_most 36 = .ok (.aload_n 0, 1) := by decide +kernel
theorem d_F_most_37 : decode cc_F_most 37 = .ok (.iload 4, 2) := by decide +kernel
theorem d_F_most_39 : decode cc_F_most 39 = .ok (.invokevirtual 42, 3) := by decide +kernel
theorem d_F_most_42 : decode cc_F_most 42 = .ok (.ifCond .eq 9, 3) := by decide +kernel
theorem d_F_most_45 : decode cc_F_most 45 = .ok (.iload 4, 2) := by decide +kernel
theorem d_F_most_47 : decode cc_F_most 47 = .ok (.invokestatic 36, 3) := by decide +kernel
theorem d_F_most_50 : decode cc_F_most 50 = .ok (.istore_n 3, 1) := by decide +kernel
theorem d_F_most_51 : decode cc_F_most 51 = .ok (.iinc 4 1, 3) := by decide +kernel
theorem d_F_most_54 : decode cc_F_most 54 = .ok (.goto (-38), 3) := by decide +kernel
theorem d_F_most_57 : decode cc_F_most 57 = .ok (.iload_n 3, 1) := by decide +kernel
theorem d_F_most_58 : decode cc_F_most 58 = .ok (.ireturn, 1) := by decide +kernel
theorem d_F_countFree_0 : decode cc_F_countFree 0 = .ok (.iconst 0, 1) := by decide +kernel
theorem d_F_countFree_1 : decode cc_F_countFree 1 = .ok (.istore_n 2, 1) := by decide +kernel
theorem d_F_countFree_2 : decode cc_F_countFree 2 = .ok (.iload_n 2, 1) := by decide +kernel
theorem d_F_countFree_3 : decode cc_F_countFree 3 = .ok (.bipush 6, 2) := by decide +kernel
theorem d_F_countFree_5 : decode cc_F_countFree 5 = .ok (.if_icmp .ge 20, 3) := by decide +kernel
theorem d_F_countFree_8 : decode cc_F_countFree 8 = .ok (.aload_n 0, 1) := by decide +kernel
theorem d_F_countFree_9 : decode cc_F_countFree 9 = .ok (.getfield 18, 3) := by decide +kernel
theorem d_F_countFree_12 : decode cc_F_countFree 12 = .ok (.iload_n 2, 1) := by decide +kernel
theorem d_F_countFree_13 : decode cc_F_countFree 13 = .ok (.aload_n 1, 1) := by decide +kernel
theorem d_F_countFree_14 : decode cc_F_countFree 14 = .ok (.iload_n 2, 1) := by decide +kernel
theorem d_F_countFree_15 : decode cc_F_countFree 15 = .ok (.invokevirtual 46, 3) := by decide +kernel
theorem d_F_countFree_18 : decode cc_F_countFree 18 = .ok (.iastore, 1) := by decide +kernel
theorem d_F_countFree_19 : decode cc_F_countFree 19 = .ok (.iinc 2 1, 3) := by decide +kernel
theorem d_F_countFree_22 : decode cc_F_countFree 22 = .ok (.goto (-20), 3) := by decide +kernel
theorem d_F_countFree_25 : decode cc_F_countFree 25 = .ok (.return_, 1) := by decide +kernel
theorem d_F_chooseOpen_0 : decode cc_F_chooseOpen 0 = .ok (.aload_n 0, 1) := by decide +kernel
theorem d_F_chooseOpen_1 : decode cc_F_chooseOpen 1 = .ok (.iconst 0, 1) := by decide +kernel
theorem d_F_chooseOpen_2 : decode cc_F_chooseOpen 2 = .ok (.putfield 24, 3) := by decide +kernel
theorem d_F_chooseOpen_5 : decode cc_F_chooseOpen 5 = .ok (.iconst 0, 1) := by decide +kernel
theorem d_F_chooseOpen_6 : decode cc_F_chooseOpen 6 = .ok (.istore_n 3, 1) := by decide +kernel
theorem d_F_chooseOpen_7 : decode cc_F_chooseOpen 7 = .ok (.iload_n 3, 1) := by decide +kernel
theorem d_F_chooseOpen_8 : decode cc_F_chooseOpen 8 = .ok (.bipush 10, 2) := by decide +kernel
theorem d_F_chooseOpen_10 : decode cc_F_chooseOpen 10 = .ok (.if_icmp .ge 81, 3) := by decide +kernel
theorem d_F_chooseOpen_13 : decode cc_F_chooseOpen 13 = .ok (.aload_n 0, 1) := by decide +kernel
theorem d_F_chooseOpen_14 : decode cc_F_chooseOpen 14 = .ok (.getfield 24, 3) := by decide +kernel
theorem d_F_chooseOpen_17 : decode cc_F_chooseOpen 17 = .ok (.bipush 6, 2) := by decide +kernel
theorem d_F_chooseOpen_19 : decode cc_F_chooseOpen 19 = .ok (.if_icmp .ge 72, 3) := by decide +kernel
theorem d_F_chooseOpen_22 : decode cc_F_chooseOpen 22 = .ok (.iload_n 3, 1) := by decide +kernel
theorem d_F_chooseOpen_23 : decode cc_F_chooseOpen 23 = .ok (.iload_n 2, 1) := by decide +kernel
theorem d_F_chooseOpen_24 : decode cc_F_chooseOpen 24 = .ok (.invokestatic 51, 3) := by decide +kernel
theorem d_F_chooseOpen_27 : decode cc_F_chooseOpen 27 = .ok (.ifCond .eq 58, 3) := by decide +kernel
theorem d_F_chooseOpen_30 : decode cc_F_chooseOpen 30 = .ok (.aload_n 1, 1) := by decide +kernel
theorem d_F_chooseOpen_31 : decode cc_F_chooseOpen 31 = .ok (.iload_n 3, 1) := by decide +kernel
theorem d_F_chooseOpen_32 : decode cc_F_chooseOpen 32 = .ok (.invokevirtual 55, 3) := by decide +kernel
theorem d_F_chooseOpen_35 : decode cc_F_chooseOpen 35 = .ok (.ifCond .eq 50, 3) := by decide +kernel
theorem d_F_chooseOpen_38 : decode cc_F_chooseOpen 38 = .ok (.aload_n 0, 1) := by decide +kernel
theorem d_F_chooseOpen_39 : decode cc_F_chooseOpen 39 = .ok (.getfield 9, 3) := by decide +kernel
theorem d_F_chooseOpen_42 : decode cc_F_chooseOpen 42 = .ok (.aload_n 0, 1) := by decide +kernel
theorem d_F_chooseOpen_43 : decode cc_F_chooseOpen 43 = .ok (.getfield 24, 3) := by decide +kernel
theorem d_F_chooseOpen_46 : decode cc_F_chooseOpen 46 = .ok (.aload_n 1, 1) := by decide +kernel
theorem d_F_chooseOpen_47 : decode cc_F_chooseOpen 47 = .ok (.getfield 58, 3) := by decide +kernel
theorem d_F_chooseOpen_50 : decode cc_F_chooseOpen 50 = .ok (.iload_n 3, 1) := by decide +kernel
theorem d_F_chooseOpen_51 : decode cc_F_chooseOpen 51 = .ok (.iaload, 1) := by decide +kernel
theorem d_F_chooseOpen_52 : decode cc_F_chooseOpen 52 = .ok (.aload_n 1, 1) := by decide +kernel
theorem d_F_chooseOpen_53 : decode cc_F_chooseOpen 53 = .ok (.getfield 61, 3) := by decide +kernel
theorem d_F_chooseOpen_56 : decode cc_F_chooseOpen 56 = .ok (.iload_n 3, 1) := by decide +kernel
theorem d_F_chooseOpen_57 : decode cc_F_chooseOpen 57 = .ok (.iaload, 1) := by decide +kernel
theorem d_F_chooseOpen_58 : decode cc_F_chooseOpen 58 = .ok (.isub, 1) := by decide +kernel
theorem d_F_chooseOpen_59 : decode cc_F_chooseOpen 59 = .ok (.iastore, 1) := by decide +kernel
theorem d_F_chooseOpen_60 : decode cc_F_chooseOpen 60 = .ok (.aload_n 0, 1) := by decide +kernel
theorem d_F_chooseOpen_61 : decode cc_F_chooseOpen 61 = .ok (.getfield 15, 3) := by decide +kernel
theorem d_F_chooseOpen_64 : decode cc_F_chooseOpen 64 = .ok (.aload_n 0, 1) := by decide +kernel
theorem d_F_chooseOpen_65 : decode cc_F_chooseOpen 65 = .ok (.getfield 24, 3) := by decide +kernel
theorem d_F_chooseOpen_68 : decode cc_F_chooseOpen 68 = .ok (.aload_n 1, 1) := by decide +kernel
theorem d_F_chooseOpen_69 : decode cc_F_chooseOpen 69 = .ok (.getfield 64, 3) := by decide +kernel
theorem d_F_chooseOpen_72 : decode cc_F_chooseOpen 72 = .ok (.iload_n 3, 1) := by decide +kernel
theorem d_F_chooseOpen_73 : decode cc_F_chooseOpen 73 = .ok (.iaload, 1) := by decide +kernel
theorem d_F_chooseOpen_74 : decode cc_F_chooseOpen 74 = .ok (.iastore, 1) := by decide +kernel
theorem d_F_chooseOpen_75 : decode cc_F_chooseOpen 75 = .ok (.aload_n 0, 1) := by decide +kernel
theorem d_F_chooseOpen_76 : decode cc_F_chooseOpen 76 = .ok (.dup, 1) := by decide +kernel
theorem d_F_chooseOpen_77 : decode cc_F_chooseOpen 77 = .ok (.getfield 24, 3) := by decide +kernel
theorem d_F_chooseOpen_80 : decode cc_F_chooseOpen 80 = .ok (.iconst 1, 1) := by decide +kernel
theorem d_F_chooseOpen_81 : decode cc_F_chooseOpen 81 = .ok (.iadd, 1) := by decide +kernel
theorem d_F_chooseOpen_82 : decode cc_F_chooseOpen 82 = .ok (.putfield 24, 3) := by decide +kernel
theorem d_F_chooseOpen_85 : decode cc_F_chooseOpen 85 = .ok (.iinc 3 1, 3) := by decide +kernel
theorem d_F_chooseOpen_88 : decode cc_F_chooseOpen 88 = .ok (.goto (-81), 3) := by decide +kernel
theorem d_F_chooseOpen_91 : decode cc_F_chooseOpen 91 = .ok (.return_, 1) := by decide +kernel
theorem d_F_isEnoughFor_0 : decode cc_F_isEnoughFor 0 = .ok (.aload_n 0, 1) := by decide +kernel
theorem d_F_isEnoughFor_1 : decode cc_F_isEnoughFor 1 = .ok (.getfield 18, 3) := by decide +kernel
theorem d_F_isEnoughFor_4 : decode cc_F_isEnoughFor 4 = .ok (.iconst 0, 1) := by decide +kernel
theorem d_F_isEnoughFor_5 : decode cc_F_isEnoughFor 5 = .ok (.aload_n 0, 1) := by decide +kernel
theorem d_F_isEnoughFor_6 : decode cc_F_isEnoughFor 6 = .ok (.getfield 21, 3) := by decide +kernel
theorem d_F_isEnoughFor_9 : decode cc_F_isEnoughFor 9 = .ok (.iconst 0, 1) := by decide +kernel
theorem d_F_isEnoughFor_10 : decode cc_F_isEnoughFor 10 = .ok (.bipush 6, 2) := by decide +kernel
theorem d_F_isEnoughFor_12 : decode cc_F_isEnoughFor 12 = .ok (.invokestatic 67, 3) := by decide +kernel
theorem d_F_isEnoughFor_15 : decode cc_F_isEnoughFor 15 = .ok (.iconst 0, 1) := by decide +kernel
theorem d_F_isEnoughFor_16 : decode cc_F_isEnoughFor 16 = .ok (.istore_n 2, 1) := by decide +kernel
theorem d_F_isEnoughFor_17 : decode cc_F_isEnoughFor 17 = .ok (.iload_n 2, 1) := by decide +kernel
theorem d_F_isEnoughFor_18 : decode cc_F_isEnoughFor 18 = .ok (.aload_n 0, 1) := by decide +kernel
theorem d_F_isEnoughFor_19 : decode cc_F_isEnoughFor 19 = .ok (.getfield 24, 3) := by decide +kernel
theorem d_F_isEnoughFor_22 : decode cc_F_isEnoughFor 22 = .ok (.if_icmp .ge 53, 3) := by decide +kernel
theorem d_F_isEnoughFor_25 : decode cc_F_isEnoughFor 25 = .ok (.iload_n 2, 1) := by decide +kernel
theorem d_F_isEnoughFor_26 : decode cc_F_isEnoughFor 26 = .ok (.iload_n 1, 1) := by decide +kernel
theorem d_F_isEnoughFor_27 : decode cc_F_isEnoughFor 27 = .ok (.invokestatic 51, 3) := by decide +kernel
theorem d_F_isEnoughFor_30 : decode cc_F_isEnoughFor 30 = .ok (.ifCond .eq 39, 3) := by decide +kernel
theorem d_F_isEnoughFor_33 : decode cc_F_isEnoughFor 33 = .ok (.aload_n 0, 1) := by decide +kernel
theorem d_F_isEnoughFor_34 : decode cc_F_isEnoughFor 34 = .ok (.getfield 21, 3) := by decide +kernel
theorem d_F_isEnoughFor_37 : decode cc_F_isEnoughFor 37 = .ok (.aload_n 0, 1) := by decide +kernel
theorem d_F_isEnoughFor_38 : decode cc_F_isEnoughFor 38 = .ok (.getfield 15, 3) := by decide +kernel
theorem d_F_isEnoughFor_41 : decode cc_F_isEnoughFor 41 = .ok (.iload_n 2, 1) := by decide +kernel
theorem d_F_isEnoughFor_42 : decode cc_F_isEnoughFor 42 = .ok (.iaload, 1) := by decide +kernel
theorem d_F_isEnoughFor_43 : decode cc_F_isEnoughFor 43 = .ok (.dup2, 1) := by decide +kernel
theorem d_F_isEnoughFor_44 : decode cc_F_isEnoughFor 44 = .ok (.iaload, 1) := by decide +kernel
theorem d_F_isEnoughFor_45 : decode cc_F_isEnoughFor 45 = .ok (.aload_n 0, 1) := by decide +kernel
theorem d_F_isEnoughFor_46 : decode cc_F_isEnoughFor 46 = .ok (.getfield 9, 3) := by decide +kernel
theorem d_F_isEnoughFor_49 : decode cc_F_isEnoughFor 49 = .ok (.iload_n 2, 1) := by decide +kernel
theorem d_F_isEnoughFor_50 : decode cc_F_isEnoughFor 50 = .ok (.iaload, 1) := by decide +kernel
theorem d_F_isEnoughFor_51 : decode cc_F_isEnoughFor 51 = .ok (.isub, 1) := by decide +kernel
theorem d_F_isEnoughFor_52 : decode cc_F_isEnoughFor 52 = .ok (.iastore, 1) := by decide +kernel
theorem d_F_isEnoughFor_53 : decode cc_F_isEnoughFor 53 = .ok (.aload_n 0, 1) := by decide +kernel
theorem d_F_isEnoughFor_54 : decode cc_F_isEnoughFor 54 = .ok (.getfield 21, 3) := by decide +kernel
theorem d_F_isEnoughFor_57 : decode cc_F_isEnoughFor 57 = .ok (.aload_n 0, 1) := by decide +kernel
theorem d_F_isEnoughFor_58 : decode cc_F_isEnoughFor 58 = .ok (.getfield 15, 3) := by decide +kernel
theorem d_F_isEnoughFor_61 : decode cc_F_isEnoughFor 61 = .ok (.iload_n 2, 1) := by decide +kernel
theorem d_F_isEnoughFor_62 : decode cc_F_isEnoughFor 62 = .ok (.iaload, 1) := by decide +kernel
theorem d_F_isEnoughFor_63 : decode cc_F_isEnoughFor 63 = .ok (.iaload, 1) := by decide +kernel
theorem d_F_isEnoughFor_64 : decode cc_F_isEnoughFor 64 = .ok (.ifCond .ge 5, 3) := by decide +kernel
theorem d_F_isEnoughFor_67 : decode cc_F_isEnoughFor 67 = .ok (.iconst 0, 1) := by decide +kernel
theorem d_F_isEnoughFor_68 : decode cc_F_isEnoughFor 68 = .ok (.ireturn, 1) := by decide +kernel
theorem d_F_isEnoughFor_69 : decode cc_F_isEnoughFor 69 = .ok (.iinc 2 1, 3) := by decide +kernel
theorem d_F_isEnoughFor_72 : decode cc_F_isEnoughFor 72 = .ok (.goto (-55), 3) := by decide +kernel
theorem d_F_isEnoughFor_75 : decode cc_F_isEnoughFor 75 = .ok (.iconst 1, 1) := by decide +kernel
theorem d_F_isEnoughFor_76 : decode cc_F_isEnoughFor 76 = .ok (.ireturn, 1) := by decide +kernel
theorem d_H_init_0 : decode cc_H_init 0 = .ok (.aload_n 0, 1) := by decide +kernel
theorem d_H_init_1 : decode cc_H_init 1 = .ok (.invokespecial 3, 3) := by decide +kernel
theorem d_H_init_4 : decode cc_H_init 4 = .ok (.aload_n 0, 1) := by decide +kernel
theorem d_H_init_5 : decode cc_H_init 5 = .ok (.bipush 20, 2) := by decide +kernel
theorem d_H_init_7 : decode cc_H_init 7 = .ok (.newarray .int, 2) := by decide +kernel
theorem d_H_init_9 : decode cc_H_init 9 = .ok (.putfield 9, 3) := by decide +kernel
theorem d_H_init_12 : decode cc_H_init 12 = .ok (.aload_n 0, 1) := by decide +kernel
theorem d_H_init_13 : decode cc_H_init 13 = .ok (.bipush 20, 2) := by decide +kernel
theorem d_H_init_15 : decode cc_H_init 15 = .ok (.newarray .int, 2) := by decide +kernel
theorem d_H_init_17 : decode cc_H_init 17 = .ok (.putfield 15, 3) := by decide +kernel
theorem d_H_init_20 : decode cc_H_init 20 = .ok (.aload_n 0, 1) := by decide +kernel
theorem d_H_init_21 : decode cc_H_init 21 = .ok (.bipush 20, 2) := by decide +kernel
theorem d_H_init_23 : decode cc_H_init 23 = .ok (.newarray .int, 2) := by decide +kernel
theorem d_H_init_25 : decode cc_H_init 25 = .ok (.putfield 18, 3) := by decide +kernel
theorem d_H_init_28 : decode cc_H_init 28 = .ok (.aload_n 0, 1) := by decide +kernel
theorem d_H_init_29 : decode cc_H_init 29 = .ok (.bipush 10, 2) := by decide +kernel
theorem d_H_init_31 : decode cc_H_init 31 = .ok (.newarray .int, 2) := by decide +kernel
theorem d_H_init_33 : decode cc_H_init 33 = .ok (.putfield 21, 3) := by decide +kernel
theorem d_H_init_36 : decode cc_H_init 36 = .ok (.aload_n 0, 1) := by decide +kernel
theorem d_H_init_37 : decode cc_H_init 37 = .ok (.bipush 10, 2) := by decide +kernel
theorem d_H_init_39 : decode cc_H_init 39 = .ok (.newarray .int, 2) := by decide +kernel
theorem d_H_init_41 : decode cc_H_init 41 = .ok (.putfield 24, 3) := by decide +kernel
theorem d_H_init_44 : decode cc_H_init 44 = .ok (.aload_n 0, 1) := by decide +kernel
theorem d_H_init_45 : decode cc_H_init 45 = .ok (.bipush 10, 2) := by decide +kernel
theorem d_H_init_47 : decode cc_H_init 47 = .ok (.newarray .int, 2) := by decide +kernel
theorem d_H_init_49 : decode cc_H_init 49 = .ok (.putfield 27, 3) := by decide +kernel
theorem d_H_init_52 : decode cc_H_init 52 = .ok (.aload_n 0, 1) := by decide +kernel
theorem d_H_init_53 : decode cc_H_init 53 = .ok (.iconst 4, 1) := by decide +kernel
theorem d_H_init_54 : decode cc_H_init 54 = .ok (.newarray .int, 2) := by decide +kernel
theorem d_H_init_56 : decode cc_H_init 56 = .ok (.putfield 30, 3) := by decide +kernel
theorem d_H_init_59 : decode cc_H_init 59 = .ok (.aload_n 0, 1) := by decide +kernel
theorem d_H_init_60 : decode cc_H_init 60 = .ok (.bipush 100, 2) := by decide +kernel
theorem d_H_init_62 : decode cc_H_init 62 = .ok (.newarray .int, 2) := by decide +kernel
theorem d_H_init_64 : decode cc_H_init 64 = .ok (.putfield 33, 3) := by decide +kernel
theorem d_H_init_67 : decode cc_H_init 67 = .ok (.return_, 1) := by decide +kernel
theorem d_H_empty_0 : decode cc_H_empty 0 = .ok (.aload_n 0, 1) := by decide +kernel
theorem d_H_empty_1 : decode cc_H_empty 1 = .ok (.getfield 9, 3) := by decide +kernel
theorem d_H_empty_4 : decode cc_H_empty 4 = .ok (.iconst (-1), 1) := by decide +kernel
theorem d_H_empty_5 : decode cc_H_empty 5 = .ok (.invokestatic 36, 3) := by decide +kernel
theorem d_H_empty_8 : decode cc_H_empty 8 = .ok (.aload_n 0, 1) := by decide +kernel
theorem d_H_empty_9 : decode cc_H_empty 9 = .ok (.getfield 18, 3) := by decide +kernel
theorem d_H_empty_12 : decode cc_H_empty 12 = .ok (.iconst (-1), 1) := by decide +kernel
theorem d_H_empty_13 : decode cc_H_empty 13 = .ok (.invokestatic 36, 3) := by decide +kernel
theorem d_H_empty_16 : decode cc_H_empty 16 = .ok (.aload_n 0, 1) := by decide +kernel
theorem d_H_empty_17 : decode cc_H_empty 17 = .ok (.getfield 21, 3) := by decide +kernel
theorem d_H_empty_20 : decode cc_H_empty 20 = .ok (.iconst 0, 1) := by decide +kernel
theorem d_H_empty_21 : decode cc_H_empty 21 = .ok (.invokestatic 36, 3) := by decide +kernel
theorem d_H_empty_24 : decode cc_H_empty 24 = .ok (.aload_n 0, 1) := by decide +kernel
theorem d_H_empty_25 : decode cc_H_empty 25 = .ok (.getfield 27, 3) := by decide +kernel
theorem d_H_empty_28 : decode cc_H_empty 28 = .ok (.iconst 0, 1) := by decide +kernel
theorem d_H_empty_29 : decode cc_H_empty 29 = .ok (.invokestatic 36, 3) := by decide +kernel
theorem d_H_empty_32 : decode cc_H_empty 32 = .ok (.aload_n 0, 1) := by decide +kernel
theorem d_H_empty_33 : decode cc_H_empty 33 = .ok (.getfield 30, 3) := by decide +kernel
theorem d_H_empty_36 : decode cc_H_empty 36 = .ok (.iconst 0, 1) := by decide +kernel
theorem d_H_empty_37 : decode cc_H_empty 37 = .ok (.invokestatic 36, 3) := by decide +kernel
theorem d_H_empty_40 : decode cc_H_empty 40 = .ok (.aload_n 0, 1) := by decide +kernel
theorem d_H_empty_41 : decode cc_H_empty 41 = .ok (.getfield 33, 3) := by decide +kernel
theorem d_H_empty_44 : decode cc_H_empty 44 = .ok (.iconst 0, 1) := by decide +kernel
theorem d_H_empty_45 : decode cc_H_empty 45 = .ok (.invokestatic 36, 3) := by decide +kernel
theorem d_H_empty_48 : decode cc_H_empty 48 = .ok (.return_, 1) := by decide +kernel
theorem d_H_take_0 : decode cc_H_take 0 = .ok (.aload_n 0, 1) := by decide +kernel
theorem d_H_take_1 : decode cc_H_take 1 = .ok (.iload_n 1, 1) := by decide +kernel
theorem d_H_take_2 : decode cc_H_take 2 = .ok (.iload_n 2, 1) := by decide +kernel
theorem d_H_take_3 : decode cc_H_take 3 = .ok (.iload_n 3, 1) := by decide +kernel
theorem d_H_take_4 : decode cc_H_take 4 = .ok (.invokevirtual 42, 3) := by decide +kernel
theorem d_H_take_7 : decode cc_H_take 7 = .ok (.ifCond .ne 5, 3) := by decide +kernel
theorem d_H_take_10 : decode cc_H_take 10 = .ok (.iconst 0, 1) := by decide +kernel
theorem d_H_take_11 : decode cc_H_take 11 = .ok (.ireturn, 1) := by decide +kernel
theorem d_H_take_12 : decode cc_H_take 12 = .ok (.aload_n 0, 1) := by decide +kernel
theorem d_H_take_13 : decode cc_H_take 13 = .ok (.iload_n 1, 1) := by decide +kernel
theorem d_H_take_14 : decode cc_H_take 14 = .ok (.iload_n 2, 1) := by decide +kernel
theorem d_H_take_15 : decode cc_H_take 15 = .ok (.iload_n 3, 1) := by decide +kernel
theorem d_H_take_16 : decode cc_H_take 16 = .ok (.iload 4, 2) := by decide +kernel
theorem d_H_take_18 : decode cc_H_take 18 = .ok (.invokevirtual 46, 3) := by decide +kernel
theorem d_H_take_21 : decode cc_H_take 21 = .ok (.iconst 1, 1) := by decide +kernel
theorem d_H_take_22 : decode cc_H_take 22 = .ok (.ireturn, 1) := by decide +kernel
theorem d_H_isPossible_0 : decode cc_H_isPossible 0 = .ok (.iload_n 1, 1) := by decide +kernel
theorem d_H_isPossible_1 : decode cc_H_isPossible 1 = .ok (.tableswitch 152 0 6 #[43, 57, 63, 90, 104, 152, 141], 43) := by decide +kernel
theorem d_H_isPossible_44 : decode cc_H_isPossible 44 = .ok (.aload_n 0, 1) := by decide +kernel
theorem d_H_isPossible_45 : decode cc_H_isPossible 45 = .ok (.iload_n 2, 1) := by decide +kernel
theorem d_H_isPossible_46 : decode cc_H_isPossible 46 = .ok (.invokevirtual 50, 3) := by decide +kernel
theorem d_H_isPossible_49 : decode cc_H_isPossible 49 = .ok (.ifCond .ne 7, 3) := by decide +kernel
theorem d_H_isPossible_52 : decode cc_H_isPossible 52 = .ok (.iconst 1, 1) := by decide +kernel
theorem d_H_isPossible_53 : decode cc_H_isPossible 53 = .ok (.goto 4, 3) := by decide +kernel
theorem d_H_isPossible_56 : decode cc_H_isPossible 56 = .ok (.iconst 0, 1) := by decide +kernel
theorem d_H_isPossible_57 : decode cc_H_isPossible 57 = .ok (.ireturn, 1) := by decide +kernel
theorem d_H_isPossible_58 : decode cc_H_isPossible 58 = .ok (.aload_n 0, 1) := by decide +kernel
theorem d_H_isPossible_59 : decode cc_H_isPossible 59 = .ok (.iload_n 2, 1) := by decide +kernel
theorem d_H_isPossible_60 : decode cc_H_isPossible 60 = .ok (.invokevirtual 50, 3) := by decide +kernel
theorem d_H_isPossible_63 : decode cc_H_isPossible 63 = .ok (.ireturn, 1) := by decide +kernel
theorem d_H_isPossible_64 : decode cc_H_isPossible 64 = .ok (.aload_n 0, 1) := by decide +kernel
theorem d_H_isPossible_65 : decode cc_H_isPossible 65 = .ok (.iload_n 2, 1) := by decide +kernel
theorem d_H_isPossible_66 : decode cc_H_isPossible 66 = .ok (.invokevirtual 50, 3) := by decide +kernel
theorem d_H_isPossible_69 : decode cc_H_isPossible 69 = .ok (.ifCond .eq 20, 3) := by decide +kernel
theorem d_H_isPossible_72 : decode cc_H_isPossible 72 = .ok (.aload_n 0, 1) := by decide +kernel
theorem d_H_isPossible_73 : decode cc_H_isPossible 73 = .ok (.aload_n 0, 1) := by decide +kernel
theorem d_H_isPossible_74 : decode cc_H_isPossible 74 = .ok (.getfield 18, 3) := by decide +kernel
theorem d_H_isPossible_77 : decode cc_H_isPossible 77 = .ok (.iload_n 2, 1) := by decide +kernel
theorem d_H_isPossible_78 : decode cc_H_isPossible 78 = .ok (.iaload, 1) := by decide +kernel
theorem d_H_isPossible_79 : decode cc_H_isPossible 79 = .ok (.invokevirtual 54, 3) := by decide +kernel
theorem d_H_isPossible_82 : decode cc_H_isPossible 82 = .ok (.ifCond .ne 7, 3) := by decide +kernel
theorem d_H_isPossible_85 : decode cc_H_isPossible 85 = .ok (.iconst 1, 1) := by decide +kernel
theorem d_H_isPossible_86 : decode cc_H_isPossible 86 = .ok (.goto 4, 3) := by decide +kernel
theorem d_H_isPossible_89 : decode cc_H_isPossible 89 = .ok (.iconst 0, 1) := by decide +kernel
theorem d_H_isPossible_90 : decode cc_H_isPossible 90 = .ok (.ireturn, 1) := by decide +kernel
theorem d_H_isPossible_91 : decode cc_H_isPossible 91 = .ok (.aload_n 0, 1) := by decide +kernel
theorem d_H_isPossible_92 : decode cc_H_isPossible 92 = .ok (.iload_n 2, 1) := by decide +kernel
theorem d_H_isPossible_93 : decode cc_H_isPossible 93 = .ok (.invokevirtual 57, 3) := by decide +kernel
theorem d_H_isPossible_96 : decode cc_H_isPossible 96 = .ok (.ifCond .ne 7, 3) := by decide +kernel
theorem d_H_isPossible_99 : decode cc_H_isPossible 99 = .ok (.iconst 1, 1) := by decide +kernel
theorem d_H_isPossible_100 : decode cc_H_isPossible 100 = .ok (.goto 4, 3) := by decide +kernel
theorem d_H_isPossible_103 : decode cc_H_isPossible 103 = .ok (.iconst 0, 1) := by decide +kernel
theorem d_H_isPossible_104 : decode cc_H_isPossible 104 = .ok (.ireturn, 1) := by decide +kernel
theorem d_H_isPossible_105 : decode cc_H_isPossible 105 = .ok (.aload_n 0, 1) := by decide +kernel
theorem d_H_isPossible_106 : decode cc_H_isPossible 106 = .ok (.iload_n 2, 1) := by decide +kernel
theorem d_H_isPossible_107 : decode cc_H_isPossible 107 = .ok (.invokevirtual 60, 3) := by decide +kernel
theorem d_H_isPossible_110 : decode cc_H_isPossible 110 = .ok (.ifCond .eq 30, 3) := by decide +kernel
theorem d_H_isPossible_113 : decode cc_H_isPossible 113 = .ok (.aload_n 0, 1) := by decide +kernel
theorem d_H_isPossible_114 : decode cc_H_isPossible 114 = .ok (.iload_n 3, 1) := by decide +kernel
theorem d_H_isPossible_115 : decode cc_H_isPossible 115 = .ok (.invokevirtual 54, 3) := by decide +kernel
theorem d_H_isPossible_118 : decode cc_H_isPossible 118 = .ok (.ifCond .eq 22, 3) := by decide +kernel
theorem d_H_isPossible_121 : decode cc_H_isPossible 121 = .ok (.aload_n 0, 1) := by decide +kernel
theorem d_H_isPossible_122 : decode cc_H_isPossible 122 = .ok (.getfield 15, 3) := by decide +kernel
theorem d_H_isPossible_125 : decode cc_H_isPossible 125 = .ok (.iload_n 2, 1) := by decide +kernel
theorem d_H_isPossible_126 : decode cc_H_isPossible 126 = .ok (.iaload, 1) := by decide +kernel
theorem d_H_isPossible_127 : decode cc_H_isPossible 127 = .ok (.aload_n 0, 1) := by decide +kernel
theorem d_H_isPossible_128 : decode cc_H_isPossible 128 = .ok (.getfield 24, 3) := by decide +kernel
theorem d_H_isPossible_131 : decode cc_H_isPossible 131 = .ok (.iload_n 3, 1) := by decide +kernel
theorem d_H_isPossible_132 : decode cc_H_isPossible 132 = .ok (.iaload, 1) := by decide +kernel
theorem d_H_isPossible_133 : decode cc_H_isPossible 133 = .ok (.if_icmp .ne 7, 3) := by decide +kernel
theorem d_H_isPossible_136 : decode cc_H_isPossible 136 = .ok (.iconst 1, 1) := by decide +kernel
theorem d_H_isPossible_137 : decode cc_H_isPossible 137 = .ok (.goto 4, 3) := by decide +kernel
theorem d_H_isPossible_140 : decode cc_H_isPossible 140 = .ok (.iconst 0, 1) := by decide +kernel
theorem d_H_isPossible_141 : decode cc_H_isPossible 141 = .ok (.ireturn, 1) := by decide +kernel
theorem d_H_isPossible_142 : decode cc_H_isPossible 142 = .ok (.iload_n 2, 1) := by decide +kernel
theorem d_H_isPossible_143 : decode cc_H_isPossible 143 = .ok (.iload_n 3, 1) := by decide +kernel
theorem d_H_isPossible_144 : decode cc_H_isPossible 144 = .ok (.if_icmp .eq 7, 3) := by decide +kernel
theorem d_H_isPossible_147 : decode cc_H_isPossible 147 = .ok (.iconst 1, 1) := by decide +kernel
theorem d_H_isPossible_148 : decode cc_H_isPossible 148 = .ok (.goto 4, 3) := by decide +kernel
theorem d_H_isPossible_151 : decode cc_H_isPossible 151 = .ok (.iconst 0, 1) := by decide +kernel
theorem d_H_isPossible_152 : decode cc_H_isPossible 152 = .ok (.ireturn, 1) := by decide +kernel
theorem d_H_isPossible_153 : decode cc_H_isPossible 153 = .ok (.iconst 1, 1) := by decide +kernel
theorem d_H_isPossible_154 : decode cc_H_isPossible 154 = .ok (.ireturn, 1) := by decide +kernel
theorem d_H_happen_0 : decode cc_H_happen 0 = .ok (.iload_n 1, 1) := by decide +kernel
theorem d_H_happen_1 : decode cc_H_happen 1 = .ok (.tableswitch 150 0 6 #[43, 54, 64, 72, 90, 110, 123], 43) := by decide +kernel
theorem d_H_happen_44 : decode cc_H_happen 44 = .ok (.aload_n 0, 1) := by decide +kernel
theorem d_H_happen_45 : decode cc_H_happen 45 = .ok (.iload_n 2, 1) := by decide +kernel
theorem d_H_happen_46 : decode cc_H_happen 46 = .ok (.iload_n 3, 1) := by decide +kernel
theorem d_H_happen_47 : decode cc_H_happen 47 = .ok (.iload 4, 2) := by decide +kernel
theorem d_H_happen_49 : decode cc_H_happen 49 = .ok (.invokevirtual 63, 3) := by decide +kernel
theorem d_H_happen_52 : decode cc_H_happen 52 = .ok (.goto 99, 3) := by decide +kernel
theorem d_H_happen_55 : decode cc_H_happen 55 = .ok (.aload_n 0, 1) := by decide +kernel
theorem d_H_happen_56 : decode cc_H_happen 56 = .ok (.getfield 9, 3) := by decide +kernel
theorem d_H_happen_59 : decode cc_H_happen 59 = .ok (.iload_n 2, 1) := by decide +kernel
theorem d_H_happen_60 : decode cc_H_happen 60 = .ok (.iload_n 3, 1) := by decide +kernel
theorem d_H_happen_61 : decode cc_H_happen 61 = .ok (.iastore, 1) := by decide +kernel
theorem d_H_happen_62 : decode cc_H_happen 62 = .ok (.goto 89, 3) := by decide +kernel
theorem d_H_happen_65 : decode cc_H_happen 65 = .ok (.aload_n 0, 1) := by decide +kernel
theorem d_H_happen_66 : decode cc_H_happen 66 = .ok (.iload_n 2, 1) := by decide +kernel
theorem d_H_happen_67 : decode cc_H_happen 67 = .ok (.invokevirtual 67, 3) := by decide +kernel
theorem d_H_happen_70 : decode cc_H_happen 70 = .ok (.goto 81, 3) := by decide +kernel
theorem d_H_happen_73 : decode cc_H_happen 73 = .ok (.aload_n 0, 1) := by decide +kernel
theorem d_H_happen_74 : decode cc_H_happen 74 = .ok (.getfield 21, 3) := by decide +kernel
theorem d_H_happen_77 : decode cc_H_happen 77 = .ok (.iload_n 2, 1) := by decide +kernel
theorem d_H_happen_78 : decode cc_H_happen 78 = .ok (.iload_n 3, 1) := by decide +kernel
theorem d_H_happen_79 : decode cc_H_happen 79 = .ok (.iastore, 1) := by decide +kernel
theorem d_H_happen_80 : decode cc_H_happen 80 = .ok (.aload_n 0, 1) := by decide +kernel
theorem d_H_happen_81 : decode cc_H_happen 81 = .ok (.getfield 24, 3) := by decide +kernel
theorem d_H_happen_84 : decode cc_H_happen 84 = .ok (.iload_n 2, 1) := by decide +kernel
theorem d_H_happen_85 : decode cc_H_happen 85 = .ok (.iload 4, 2) := by decide +kernel
theorem d_H_happen_87 : decode cc_H_happen 87 = .ok (.iastore, 1) := by decide +kernel
theorem d_H_happen_88 : decode cc_H_happen 88 = .ok (.goto 63, 3) := by decide +kernel
theorem d_H_happen_91 : decode cc_H_happen 91 = .ok (.aload_n 0, 1) := by decide +kernel
theorem d_H_happen_92 : decode cc_H_happen 92 = .ok (.getfield 18, 3) := by decide +kernel
theorem d_H_happen_95 : decode cc_H_happen 95 = .ok (.iload_n 2, 1) := by decide +kernel
theorem d_H_happen_96 : decode cc_H_happen 96 = .ok (.iload_n 3, 1) := by decide +kernel
theorem d_H_happen_97 : decode cc_H_happen 97 = .ok (.iastore, 1) := by decide +kernel
theorem d_H_happen_98 : decode cc_H_happen 98 = .ok (.aload_n 0, 1) := by decide +kernel
theorem d_H_happen_99 : decode cc_H_happen 99 = .ok (.getfield 27, 3) := by decide +kernel
theorem d_H_happen_102 : decode cc_H_happen 102 = .ok (.iload_n 3, 1) := by decide +kernel
theorem d_H_happen_103 : decode cc_H_happen 103 = .ok (.dup2, 1) := by decide +kernel
theorem d_H_happen_104 : decode cc_H_happen 104 = .ok (.iaload, 1) := by decide +kernel
theorem d_H_happen_105 : decode cc_H_happen 105 = .ok (.iconst 1, 1) := by decide +kernel
theorem d_H_happen_106 : decode cc_H_happen 106 = .ok (.iadd, 1) := by decide +kernel
theorem d_H_happen_107 : decode cc_H_happen 107 = .ok (.iastore, 1) := by decide +kernel
theorem d_H_happen_108 : decode cc_H_happen 108 = .ok (.goto 43, 3) := by decide +kernel
theorem d_H_happen_111 : decode cc_H_happen 111 = .ok (.aload_n 0, 1) := by decide +kernel
theorem d_H_happen_112 : decode cc_H_happen 112 = .ok (.getfield 30, 3) := by decide +kernel
theorem d_H_happen_115 : decode cc_H_happen 115 = .ok (.iload_n 2, 1) := by decide +kernel
theorem d_H_happen_116 : decode cc_H_happen 116 = .ok (.dup2, 1) := by decide +kernel
theorem d_H_happen_117 : decode cc_H_happen 117 = .ok (.iaload, 1) := by decide +kernel
theorem d_H_happen_118 : decode cc_H_happen 118 = .ok (.iload_n 3, 1) := by decide +kernel
theorem d_H_happen_119 : decode cc_H_happen 119 = .ok (.iadd, 1) := by decide +kernel
theorem d_H_happen_120 : decode cc_H_happen 120 = .ok (.iastore, 1) := by decide +kernel
theorem d_H_happen_121 : decode cc_H_happen 121 = .ok (.goto 30, 3) := by decide +kernel
theorem d_H_happen_124 : decode cc_H_happen 124 = .ok (.aload_n 0, 1) := by decide +kernel
theorem d_H_happen_125 : decode cc_H_happen 125 = .ok (.getfield 33, 3) := by decide +kernel
theorem d_H_happen_128 : decode cc_H_happen 128 = .ok (.iload_n 2, 1) := by decide +kernel
theorem d_H_happen_129 : decode cc_H_happen 129 = .ok (.iload_n 3, 1) := by decide +kernel
theorem d_H_happen_130 : decode cc_H_happen 130 = .ok (.invokestatic 71, 3) := by decide +kernel
theorem d_H_happen_133 : decode cc_H_happen 133 = .ok (.iload 4, 2) := by decide +kernel
theorem d_H_happen_135 : decode cc_H_happen 135 = .ok (.iastore, 1) := by decide +kernel
theorem d_H_happen_136 : decode cc_H_happen 136 = .ok (.aload_n 0, 1) := by decide +kernel
theorem d_H_happen_137 : decode cc_H_happen 137 = .ok (.getfield 33, 3) := by decide +kernel
theorem d_H_happen_140 : decode cc_H_happen 140 = .ok (.iload_n 3, 1) := by decide +kernel
theorem d_H_happen_141 : decode cc_H_happen 141 = .ok (.iload_n 2, 1) := by decide +kernel
theorem d_H_happen_142 : decode cc_H_happen 142 = .ok (.invokestatic 71, 3) := by decide +kernel
theorem d_H_happen_145 : decode cc_H_happen 145 = .ok (.iload 4, 2) := by decide +kernel
theorem d_H_happen_147 : decode cc_H_happen 147 = .ok (.iastore, 1) := by decide +kernel
theorem d_H_happen_148 : decode cc_H_happen 148 = .ok (.goto 3, 3) := by decide +kernel
theorem d_H_happen_151 : decode cc_H_happen 151 = .ok (.return_, 1) := by decide +kernel
theorem d_H_come_0 : decode cc_H_come 0 = .ok (.aload_n 0, 1) := by decide +kernel
theorem d_H_come_1 : decode cc_H_come 1 = .ok (.getfield 9, 3) := by decide +kernel
theorem d_H_come_4 : decode cc_H_come 4 = .ok (.iload_n 1, 1) := by decide +kernel
theorem d_H_come_5 : decode cc_H_come 5 = .ok (.iload_n 3, 1) := by decide +kernel
theorem d_H_come_6 : decode cc_H_come 6 = .ok (.iastore, 1) := by decide +kernel
theorem d_H_come_7 : decode cc_H_come 7 = .ok (.aload_n 0, 1) := by decide +kernel
theorem d_H_come_8 : decode cc_H_come 8 = .ok (.getfield 15, 3) := by decide +kernel
theorem d_H_come_11 : decode cc_H_come 11 = .ok (.iload_n 1, 1) := by decide +kernel
theorem d_H_come_12 : decode cc_H_come 12 = .ok (.iload_n 2, 1) := by decide +kernel
theorem d_H_come_13 : decode cc_H_come 13 = .ok (.iastore, 1) := by decide +kernel
theorem d_H_come_14 : decode cc_H_come 14 = .ok (.return_, 1) := by decide +kernel
theorem d_H_leave_0 : decode cc_H_leave 0 = .ok (.aload_n 0, 1) := by decide +kernel
theorem d_H_leave_1 : decode cc_H_leave 1 = .ok (.getfield 9, 3) := by decide +kernel
theorem d_H_leave_4 : decode cc_H_leave 4 = .ok (.iload_n 1, 1) := by decide +kernel
theorem d_H_leave_5 : decode cc_H_leave 5 = .ok (.iconst (-1), 1) := by decide +kernel
theorem d_H_leave_6 : decode cc_H_leave 6 = .ok (.iastore, 1) := by decide +kernel
theorem d_H_leave_7 : decode cc_H_leave 7 = .ok (.aload_n 0, 1) := by decide +kernel
theorem d_H_leave_8 : decode cc_H_leave 8 = .ok (.getfield 18, 3) := by decide +kernel
theorem d_H_leave_11 : decode cc_H_leave 11 = .ok (.iload_n 1, 1) := by decide +kernel
theorem d_H_leave_12 : decode cc_H_leave 12 = .ok (.iconst (-1), 1) := by decide +kernel
theorem d_H_leave_13 : decode cc_H_leave 13 = .ok (.iastore, 1) := by decide +kernel
theorem d_H_leave_14 : decode cc_H_leave 14 = .ok (.return_, 1) := by decide +kernel
theorem d_H_isInside_0 : decode cc_H_isInside 0 = .ok (.aload_n 0, 1) := by decide +kernel
theorem d_H_isInside_1 : decode cc_H_isInside 1 = .ok (.getfield 9, 3) := by decide +kernel
theorem d_H_isInside_4 : decode cc_H_isInside 4 = .ok (.iload_n 1, 1) := by decide +kernel
theorem d_H_isInside_5 : decode cc_H_isInside 5 = .ok (.iaload, 1) := by decide +kernel
theorem d_H_isInside_6 : decode cc_H_isInside 6 = .ok (.iconst (-1), 1) := by decide +kernel
theorem d_H_isInside_7 : decode cc_H_isInside 7 = .ok (.if_icmp .eq 7, 3) := by decide +kernel
theorem d_H_isInside_10 : decode cc_H_isInside 10 = .ok (.iconst 1, 1) := by decide +kernel
theorem d_H_isInside_11 : decode cc_H_isInside 11 = .ok (.goto 4, 3) := by decide +kernel
theorem d_H_isInside_14 : decode cc_H_isInside 14 = .ok (.iconst 0, 1) := by decide +kernel
theorem d_H_isInside_15 : decode cc_H_isInside 15 = .ok (.ireturn, 1) := by decide +kernel
theorem d_H_isFree_0 : decode cc_H_isFree 0 = .ok (.aload_n 0, 1) := by decide +kernel
theorem d_H_isFree_1 : decode cc_H_isFree 1 = .ok (.iload_n 1, 1) := by decide +kernel
theorem d_H_isFree_2 : decode cc_H_isFree 2 = .ok (.invokevirtual 50, 3) := by decide +kernel
theorem d_H_isFree_5 : decode cc_H_isFree 5 = .ok (.ifCond .eq 17, 3) := by decide +kernel
theorem d_H_isFree_8 : decode cc_H_isFree 8 = .ok (.aload_n 0, 1) := by decide +kernel
theorem d_H_isFree_9 : decode cc_H_isFree 9 = .ok (.getfield 18, 3) := by decide +kernel
theorem d_H_isFree_12 : decode cc_H_isFree 12 = .ok (.iload_n 1, 1) := by decide +kernel
theorem d_H_isFree_13 : decode cc_H_isFree 13 = .ok (.iaload, 1) := by decide +kernel
theorem d_H_isFree_14 : decode cc_H_isFree 14 = .ok (.iconst (-1), 1) := by decide +kernel
theorem d_H_isFree_15 : decode cc_H_isFree 15 = .ok (.if_icmp .ne 7, 3) := by decide +kernel
theorem d_H_isFree_18 : decode cc_H_isFree 18 = .ok (.iconst 1, 1) := by decide +kernel
theorem d_H_isFree_19 : decode cc_H_isFree 19 = .ok (.goto 4, 3) := by decide +kernel
theorem d_H_isFree_22 : decode cc_H_isFree 22 = .ok (.iconst 0, 1) := by decide +kernel
theorem d_H_isFree_23 : decode cc_H_isFree 23 = .ok (.ireturn, 1) := by decide +kernel
theorem d_H_isTold_0 : decode cc_H_isTold 0 = .ok (.iload_n 1, 1) := by decide +kernel
theorem d_H_isTold_1 : decode cc_H_isTold 1 = .ok (.ifCond .lt 22, 3) := by decide +kernel
theorem d_H_isTold_4 : decode cc_H_isTold 4 = .ok (.iload_n 1, 1) := by decide +kernel
theorem d_H_isTold_5 : decode cc_H_isTold 5 = .ok (.bipush 10, 2) := by decide +kernel
theorem d_H_isTold_7 : decode cc_H_isTold 7 = .ok (.if_icmp .ge 16, 3) := by decide +kernel
theorem d_H_isTold_10 : decode cc_H_isTold 10 = .ok (.aload_n 0, 1) := by decide +kernel
theorem d_H_isTold_11 : decode cc_H_isTold 11 = .ok (.getfield 21, 3) := by decide +kernel
theorem d_H_isTold_14 : decode cc_H_isTold 14 = .ok (.iload_n 1, 1) := by decide +kernel
theorem d_H_isTold_15 : decode cc_H_isTold 15 = .ok (.iaload, 1) := by decide +kernel
theorem d_H_isTold_16 : decode cc_H_isTold 16 = .ok (.ifCond .le 7, 3) := by decide +kernel
theorem d_H_isTold_19 : decode cc_H_isTold 19 = .ok (.iconst 1, 1) := by decide +kernel
theorem d_H_isTold_20 : decode cc_H_isTold 20 = .ok (.goto 4, 3) := by decide +kernel
theorem d_H_isTold_23 : decode cc_H_isTold 23 = .ok (.iconst 0, 1) := by decide +kernel
theorem d_H_isTold_24 : decode cc_H_isTold 24 = .ok (.ireturn, 1) := by decide +kernel
theorem d_H_isOpen_0 : decode cc_H_isOpen 0 = .ok (.aload_n 0, 1) := by decide +kernel
theorem d_H_isOpen_1 : decode cc_H_isOpen 1 = .ok (.iload_n 1, 1) := by decide +kernel
theorem d_H_isOpen_2 : decode cc_H_isOpen 2 = .ok (.invokevirtual 57, 3) := by decide +kernel
theorem d_H_isOpen_5 : decode cc_H_isOpen 5 = .ok (.ifCond .eq 22, 3) := by decide +kernel
theorem d_H_isOpen_8 : decode cc_H_isOpen 8 = .ok (.aload_n 0, 1) := by decide +kernel
theorem d_H_isOpen_9 : decode cc_H_isOpen 9 = .ok (.getfield 27, 3) := by decide +kernel
theorem d_H_isOpen_12 : decode cc_H_isOpen 12 = .ok (.iload_n 1, 1) := by decide +kernel
theorem d_H_isOpen_13 : decode cc_H_isOpen 13 = .ok (.iaload, 1) := by decide +kernel
theorem d_H_isOpen_14 : decode cc_H_isOpen 14 = .ok (.aload_n 0, 1) := by decide +kernel
theorem d_H_isOpen_15 : decode cc_H_isOpen 15 = .ok (.getfield 21, 3) := by decide +kernel
theorem d_H_isOpen_18 : decode cc_H_isOpen 18 = .ok (.iload_n 1, 1) := by decide +kernel
theorem d_H_isOpen_19 : decode cc_H_isOpen 19 = .ok (.iaload, 1) := by decide +kernel
theorem d_H_isOpen_20 : decode cc_H_isOpen 20 = .ok (.if_icmp .ge 7, 3) := by decide +kernel
theorem d_H_isOpen_23 : decode cc_H_isOpen 23 = .ok (.iconst 1, 1) := by decide +kernel
theorem d_H_isOpen_24 : decode cc_H_isOpen 24 = .ok (.goto 4, 3) := by decide +kernel
theorem d_H_isOpen_27 : decode cc_H_isOpen 27 = .ok (.iconst 0, 1) := by decide +kernel
theorem d_H_isOpen_28 : decode cc_H_isOpen 28 = .ok (.ireturn, 1) := by decide +kernel
theorem d_H_isFull_0 : decode cc_H_isFull 0 = .ok (.aload_n 0, 1) := by decide +kernel
theorem d_H_isFull_1 : decode cc_H_isFull 1 = .ok (.iload_n 1, 1) := by decide +kernel
theorem d_H_isFull_2 : decode cc_H_isFull 2 = .ok (.invokevirtual 57, 3) := by decide +kernel
theorem d_H_isFull_5 : decode cc_H_isFull 5 = .ok (.ifCond .eq 22, 3) := by decide +kernel
theorem d_H_isFull_8 : decode cc_H_isFull 8 = .ok (.aload_n 0, 1) := by decide +kernel
theorem d_H_isFull_9 : decode cc_H_isFull 9 = .ok (.getfield 27, 3) := by decide +kernel
theorem d_H_isFull_12 : decode cc_H_isFull 12 = .ok (.iload_n 1, 1) := by decide +kernel
theorem d_H_isFull_13 : decode cc_H_isFull 13 = .ok (.iaload, 1) := by decide +kernel
theorem d_H_isFull_14 : decode cc_H_isFull 14 = .ok (.aload_n 0, 1) := by decide +kernel
theorem d_H_isFull_15 : decode cc_H_isFull 15 = .ok (.getfield 21, 3) := by decide +kernel
theorem d_H_isFull_18 : decode cc_H_isFull 18 = .ok (.iload_n 1, 1) := by decide +kernel
theorem d_H_isFull_19 : decode cc_H_isFull 19 = .ok (.iaload, 1) := by decide +kernel
theorem d_H_isFull_20 : decode cc_H_isFull 20 = .ok (.if_icmp .lt 7, 3) := by decide +kernel
theorem d_H_isFull_23 : decode cc_H_isFull 23 = .ok (.iconst 1, 1) := by decide +kernel
theorem d_H_isFull_24 : decode cc_H_isFull 24 = .ok (.goto 4, 3) := by decide +kernel
theorem d_H_isFull_27 : decode cc_H_isFull 27 = .ok (.iconst 0, 1) := by decide +kernel
theorem d_H_isFull_28 : decode cc_H_isFull 28 = .ok (.ireturn, 1) := by decide +kernel
theorem d_H_unitsAt_0 : decode cc_H_unitsAt 0 = .ok (.iconst 0, 1) := by decide +kernel
theorem d_H_unitsAt_1 : decode cc_H_unitsAt 1 = .ok (.istore_n 3, 1) := by decide +kernel
theorem d_H_unitsAt_2 : decode cc_H_unitsAt 2 = .ok (.iconst 0, 1) := by decide +kernel
theorem d_H_unitsAt_3 : decode cc_H_unitsAt 3 = .ok (.istore 4, 2) := by decide +kernel
theorem d_H_unitsAt_5 : decode cc_H_unitsAt 5 = .ok (.iload 4, 2) := by decide +kernel
theorem d_H_unitsAt_7 : decode cc_H_unitsAt 7 = .ok (.bipush 20, 2) := by decide +kernel
theorem d_H_unitsAt_9 : decode cc_H_unitsAt 9 = .ok (.if_icmp .ge 49, 3) := by decide +kernel
theorem d_H_unitsAt_12 : decode cc_H_unitsAt 12 = .ok (.aload_n 0, 1) := by decide +kernel
theorem d_H_unitsAt_13 : decode cc_H_unitsAt 13 = .ok (.iload 4, 2) := by decide +kernel
theorem d_H_unitsAt_15 : decode cc_H_unitsAt 15 = .ok (.invokevirtual 50, 3) := by decide +kernel
theorem d_H_unitsAt_18 : decode cc_H_unitsAt 18 = .ok (.ifCond .eq 34, 3) := by decide +kernel
theorem d_H_unitsAt_21 : decode cc_H_unitsAt 21 = .ok (.aload_n 0, 1) := by decide +kernel
theorem d_H_unitsAt_22 : decode cc_H_unitsAt 22 = .ok (.getfield 9, 3) := by decide +kernel
theorem d_H_unitsAt_25 : decode cc_H_unitsAt 25 = .ok (.iload 4, 2) := by decide +kernel
theorem d_H_unitsAt_27 : decode cc_H_unitsAt 27 = .ok (.iaload, 1) := by decide +kernel
theorem d_H_unitsAt_28 : decode cc_H_unitsAt 28 = .ok (.iload_n 1, 1) := by decide +kernel
theorem d_H_unitsAt_29 : decode cc_H_unitsAt 29 = .ok (.invokestatic 75, 3) := by decide +kernel
theorem d_H_unitsAt_32 : decode cc_H_unitsAt 32 = .ok (.ifCond .eq 20, 3) := by decide +kernel
theorem d_H_unitsAt_35 : decode cc_H_unitsAt 35 = .ok (.aload_n 0, 1) := by decide +kernel
theorem d_H_unitsAt_36 : decode cc_H_unitsAt 36 = .ok (.getfield 15, 3) := by decide +kernel
theorem d_H_unitsAt_39 : decode cc_H_unitsAt 39 = .ok (.iload 4, 2) := by decide +kernel
theorem d_H_unitsAt_41 : decode cc_H_unitsAt 41 = .ok (.iaload, 1) := by decide +kernel
theorem d_H_unitsAt_42 : decode cc_H_unitsAt 42 = .ok (.iload_n 2, 1) := by decide +kernel
theorem d_H_unitsAt_43 : decode cc_H_unitsAt 43 = .ok (.invokestatic 75, 3) := by decide +kernel
theorem d_H_unitsAt_46 : decode cc_H_unitsAt 46 = .ok (.ifCond .eq 6, 3) := by decide +kernel
theorem d_H_unitsAt_49 : decode cc_H_unitsAt 49 = .ok (.iinc 3 1, 3) := by decide +kernel
theorem d_H_unitsAt_52 : decode cc_H_unitsAt 52 = .ok (.iinc 4 1, 3) := by decide +kernel
theorem d_H_unitsAt_55 : decode cc_H_unitsAt 55 = .ok (.goto (-50), 3) := by decide +kernel
theorem d_H_unitsAt_58 : decode cc_H_unitsAt 58 = .ok (.iload_n 3, 1) := by decide +kernel
theorem d_H_unitsAt_59 : decode cc_H_unitsAt 59 = .ok (.ireturn, 1) := by decide +kernel
theorem d_H_isAsked_0 : decode cc_H_isAsked 0 = .ok (.iload_n 1, 1) := by decide +kernel
theorem d_H_isAsked_1 : decode cc_H_isAsked 1 = .ok (.iconst (-1), 1) := by decide +kernel
theorem d_H_isAsked_2 : decode cc_H_isAsked 2 = .ok (.if_icmp .eq 8, 3) := by decide +kernel
theorem d_H_isAsked_5 : decode cc_H_isAsked 5 = .ok (.iload_n 1, 1) := by decide +kernel
theorem d_H_isAsked_6 : decode cc_H_isAsked 6 = .ok (.iload_n 0, 1) := by decide +kernel
theorem d_H_isAsked_7 : decode cc_H_isAsked 7 = .ok (.if_icmp .ne 7, 3) := by decide +kernel
theorem d_H_isAsked_10 : decode cc_H_isAsked 10 = .ok (.iconst 1, 1) := by decide +kernel
theorem d_H_isAsked_11 : decode cc_H_isAsked 11 = .ok (.goto 4, 3) := by decide +kernel
theorem d_H_isAsked_14 : decode cc_H_isAsked 14 = .ok (.iconst 0, 1) := by decide +kernel
theorem d_H_isAsked_15 : decode cc_H_isAsked 15 = .ok (.ireturn, 1) := by decide +kernel
theorem d_H_freeUnits_0 : decode cc_H_freeUnits 0 = .ok (.iconst 0, 1) := by decide +kernel
theorem d_H_freeUnits_1 : decode cc_H_freeUnits 1 = .ok (.istore_n 2, 1) := by decide +kernel
theorem d_H_freeUnits_2 : decode cc_H_freeUnits 2 = .ok (.iconst 0, 1) := by decide +kernel
theorem d_H_freeUnits_3 : decode cc_H_freeUnits 3 = .ok (.istore_n 3, 1) := by decide +kernel
theorem d_H_freeUnits_4 : decode cc_H_freeUnits 4 = .ok (.iload_n 3, 1) := by decide +kernel
theorem d_H_freeUnits_5 : decode cc_H_freeUnits 5 = .ok (.bipush 20, 2) := by decide +kernel
theorem d_H_freeUnits_7 : decode cc_H_freeUnits 7 = .ok (.if_icmp .ge 30, 3) := by decide +kernel
theorem d_H_freeUnits_10 : decode cc_H_freeUnits 10 = .ok (.aload_n 0, 1) := by decide +kernel
theorem d_H_freeUnits_11 : decode cc_H_freeUnits 11 = .ok (.iload_n 3, 1) := by decide +kernel
theorem d_H_freeUnits_12 : decode cc_H_freeUnits 12 = .ok (.invokevirtual 60, 3) := by decide +kernel
theorem d_H_freeUnits_15 : decode cc_H_freeUnits 15 = .ok (.ifCond .eq 16, 3) := by decide +kernel
theorem d_H_freeUnits_18 : decode cc_H_freeUnits 18 = .ok (.aload_n 0, 1) := by decide +kernel
theorem d_H_freeUnits_19 : decode cc_H_freeUnits 19 = .ok (.getfield 15, 3) := by decide +kernel
theorem d_H_freeUnits_22 : decode cc_H_freeUnits 22 = .ok (.iload_n 3, 1) := by decide +kernel
theorem d_H_freeUnits_23 : decode cc_H_freeUnits 23 = .ok (.iaload, 1) := by decide +kernel
theorem d_H_freeUnits_24 : decode cc_H_freeUnits 24 = .ok (.iload_n 1, 1) := by decide +kernel
theorem d_H_freeUnits_25 : decode cc_H_freeUnits 25 = .ok (.if_icmp .ne 6, 3) := by decide +kernel
theorem d_H_freeUnits_28 : decode cc_H_freeUnits 28 = .ok (.iinc 2 1, 3) := by decide +kernel
theorem d_H_freeUnits_31 : decode cc_H_freeUnits 31 = .ok (.iinc 3 1, 3) := by decide +kernel
theorem d_H_freeUnits_34 : decode cc_H_freeUnits 34 = .ok (.goto (-30), 3) := by decide +kernel
theorem d_H_freeUnits_37 : decode cc_H_freeUnits 37 = .ok (.iload_n 2, 1) := by decide +kernel
theorem d_H_freeUnits_38 : decode cc_H_freeUnits 38 = .ok (.ireturn, 1) := by decide +kernel
theorem d_H_placesOfUnitsGivenTo_0 : decode cc_H_placesOfUnitsGivenTo 0 = .ok (.iconst 0, 1) := by decide +kernel
theorem d_H_placesOfUnitsGivenTo_1 : decode cc_H_placesOfUnitsGivenTo 1 = .ok (.istore_n 2, 1) := by decide +kernel
theorem d_H_placesOfUnitsGivenTo_2 : decode cc_H_placesOfUnitsGivenTo 2 = .ok (.iconst 0, 1) := by decide +kernel
theorem d_H_placesOfUnitsGivenTo_3 : decode cc_H_placesOfUnitsGivenTo 3 = .ok (.istore_n 3, 1) := by decide +kernel
theorem d_H_placesOfUnitsGivenTo_4 : decode cc_H_placesOfUnitsGivenTo 4 = .ok (.iload_n 3, 1) := by decide +kernel
theorem d_H_placesOfUnitsGivenTo_5 : decode cc_H_placesOfUnitsGivenTo 5 = .ok (.bipush 20, 2) := by decide +kernel
theorem d_H_placesOfUnitsGivenTo_7 : decode cc_H_placesOfUnitsGivenTo 7 = .ok (.if_icmp .ge 38, 3) := by decide +kernel
theorem d_H_placesOfUnitsGivenTo_10 : decode cc_H_placesOfUnitsGivenTo 10 = .ok (.aload_n 0, 1) := by decide +kernel
theorem d_H_placesOfUnitsGivenTo_11 : decode cc_H_placesOfUnitsGivenTo 11 = .ok (.iload_n 3, 1) := by decide +kernel
theorem d_H_placesOfUnitsGivenTo_12 : decode cc_H_placesOfUnitsGivenTo 12 = .ok (.invokevirtual 50, 3) := by decide +kernel
theorem d_H_placesOfUnitsGivenTo_15 : decode cc_H_placesOfUnitsGivenTo 15 = .ok (.ifCond .eq 24, 3) := by decide +kernel
theorem d_H_placesOfUnitsGivenTo_18 : decode cc_H_placesOfUnitsGivenTo 18 = .ok (.aload_n 0, 1) := by decide +kernel
theorem d_H_placesOfUnitsGivenTo_19 : decode cc_H_placesOfUnitsGivenTo 19 = .ok (.getfield 18, 3) := by decide +kernel
theorem d_H_placesOfUnitsGivenTo_22 : decode cc_H_placesOfUnitsGivenTo 22 = .ok (.iload_n 3, 1) := by decide +kernel
theorem d_H_placesOfUnitsGivenTo_23 : decode cc_H_placesOfUnitsGivenTo 23 = .ok (.iaload, 1) := by decide +kernel
theorem d_H_placesOfUnitsGivenTo_24 : decode cc_H_placesOfUnitsGivenTo 24 = .ok (.iload_n 1, 1) := by decide +kernel
theorem d_H_placesOfUnitsGivenTo_25 : decode cc_H_placesOfUnitsGivenTo 25 = .ok (.if_icmp .ne 14, 3) := by decide +kernel
theorem d_H_placesOfUnitsGivenTo_28 : decode cc_H_placesOfUnitsGivenTo 28 = .ok (.iload_n 2, 1) := by decide +kernel
theorem d_H_placesOfUnitsGivenTo_29 : decode cc_H_placesOfUnitsGivenTo 29 = .ok (.iconst 1, 1) := by decide +kernel
theorem d_H_placesOfUnitsGivenTo_30 : decode cc_H_placesOfUnitsGivenTo 30 = .ok (.aload_n 0, 1) := by decide +kernel
theorem d_H_placesOfUnitsGivenTo_31 : decode cc_H_placesOfUnitsGivenTo 31 = .ok (.getfield 9, 3) := by decide +kernel
theorem d_H_placesOfUnitsGivenTo_34 : decode cc_H_placesOfUnitsGivenTo 34 = .ok (.iload_n 3, 1) := by decide +kernel
theorem d_H_placesOfUnitsGivenTo_35 : decode cc_H_placesOfUnitsGivenTo 35 = .ok (.iaload, 1) := by decide +kernel
theorem d_H_placesOfUnitsGivenTo_36 : decode cc_H_placesOfUnitsGivenTo 36 = .ok (.ishl, 1) := by decide +kernel
theorem d_H_placesOfUnitsGivenTo_37 : decode cc_H_placesOfUnitsGivenTo 37 = .ok (.ior, 1) := by decide +kernel
theorem d_H_placesOfUnitsGivenTo_38 : decode cc_H_placesOfUnitsGivenTo 38 = .ok (.istore_n 2, 1) := by decide +kernel
theorem d_H_placesOfUnitsGivenTo_39 : decode cc_H_placesOfUnitsGivenTo 39 = .ok (.iinc 3 1, 3) := by decide +kernel
theorem d_H_placesOfUnitsGivenTo_42 : decode cc_H_placesOfUnitsGivenTo 42 = .ok (.goto (-38), 3) := by decide +kernel
theorem d_H_placesOfUnitsGivenTo_45 : decode cc_H_placesOfUnitsGivenTo 45 = .ok (.iload_n 2, 1) := by decide +kernel
theorem d_H_placesOfUnitsGivenTo_46 : decode cc_H_placesOfUnitsGivenTo 46 = .ok (.ireturn, 1) := by decide +kernel
theorem d_H_toldOrders_0 : decode cc_H_toldOrders 0 = .ok (.iconst 0, 1) := by decide +kernel
theorem d_H_toldOrders_1 : decode cc_H_toldOrders 1 = .ok (.istore_n 1, 1) := by decide +kernel
theorem d_H_toldOrders_2 : decode cc_H_toldOrders 2 = .ok (.iconst 0, 1) := by decide +kernel
theorem d_H_toldOrders_3 : decode cc_H_toldOrders 3 = .ok (.istore_n 2, 1) := by decide +kernel
theorem d_H_toldOrders_4 : decode cc_H_toldOrders 4 = .ok (.iload_n 2, 1) := by decide +kernel
theorem d_H_toldOrders_5 : decode cc_H_toldOrders 5 = .ok (.bipush 10, 2) := by decide +kernel
theorem d_H_toldOrders_7 : decode cc_H_toldOrders 7 = .ok (.if_icmp .ge 20, 3) := by decide +kernel
theorem d_H_toldOrders_10 : decode cc_H_toldOrders 10 = .ok (.aload_n 0, 1) := by decide +kernel
theorem d_H_toldOrders_11 : decode cc_H_toldOrders 11 = .ok (.iload_n 2, 1) := by decide +kernel
theorem d_H_toldOrders_12 : decode cc_H_toldOrders 12 = .ok (.invokevirtual 57, 3) := by decide +kernel
theorem d_H_toldOrders_15 : decode cc_H_toldOrders 15 = .ok (.ifCond .eq 6, 3) := by decide +kernel
theorem d_H_toldOrders_18 : decode cc_H_toldOrders 18 = .ok (.iinc 1 1, 3) := by decide +kernel
theorem d_H_toldOrders_21 : decode cc_H_toldOrders 21 = .ok (.iinc 2 1, 3) := by decide +kernel
theorem d_H_toldOrders_24 : decode cc_H_toldOrders 24 = .ok (.goto (-20), 3) := by decide +kernel
theorem d_H_toldOrders_27 : decode cc_H_toldOrders 27 = .ok (.iload_n 1, 1) := by decide +kernel
theorem d_H_toldOrders_28 : decode cc_H_toldOrders 28 = .ok (.ireturn, 1) := by decide +kernel
theorem d_H_fullOrders_0 : decode cc_H_fullOrders 0 = .ok (.iconst 0, 1) := by decide +kernel
theorem d_H_fullOrders_1 : decode cc_H_fullOrders 1 = .ok (.istore_n 1, 1) := by decide +kernel
theorem d_H_fullOrders_2 : decode cc_H_fullOrders 2 = .ok (.iconst 0, 1) := by decide +kernel
theorem d_H_fullOrders_3 : decode cc_H_fullOrders 3 = .ok (.istore_n 2, 1) := by decide +kernel
theorem d_H_fullOrders_4 : decode cc_H_fullOrders 4 = .ok (.iload_n 2, 1) := by decide +kernel
theorem d_H_fullOrders_5 : decode cc_H_fullOrders 5 = .ok (.bipush 10, 2) := by decide +kernel
theorem d_H_fullOrders_7 : decode cc_H_fullOrders 7 = .ok (.if_icmp .ge 20, 3) := by decide +kernel
theorem d_H_fullOrders_10 : decode cc_H_fullOrders 10 = .ok (.aload_n 0, 1) := by decide +kernel
theorem d_H_fullOrders_11 : decode cc_H_fullOrders 11 = .ok (.iload_n 2, 1) := by decide +kernel
theorem d_H_fullOrders_12 : decode cc_H_fullOrders 12 = .ok (.invokevirtual 79, 3) := by decide +kernel
theorem d_H_fullOrders_15 : decode cc_H_fullOrders 15 = .ok (.ifCond .eq 6, 3) := by decide +kernel
theorem d_H_fullOrders_18 : decode cc_H_fullOrders 18 = .ok (.iinc 1 1, 3) := by decide +kernel
theorem d_H_fullOrders_21 : decode cc_H_fullOrders 21 = .ok (.iinc 2 1, 3) := by decide +kernel
theorem d_H_fullOrders_24 : decode cc_H_fullOrders 24 = .ok (.goto (-20), 3) := by decide +kernel
theorem d_H_fullOrders_27 : decode cc_H_fullOrders 27 = .ok (.iload_n 1, 1) := by decide +kernel
theorem d_H_fullOrders_28 : decode cc_H_fullOrders 28 = .ok (.ireturn, 1) := by decide +kernel
theorem d_H_linkedPairs_0 : decode cc_H_linkedPairs 0 = .ok (.iconst 0, 1) := by decide +kernel
theorem d_H_linkedPairs_1 : decode cc_H_linkedPairs 1 = .ok (.istore_n 1, 1) := by decide +kernel
theorem d_H_linkedPairs_2 : decode cc_H_linkedPairs 2 = .ok (.iconst 0, 1) := by decide +kernel
theorem d_H_linkedPairs_3 : decode cc_H_linkedPairs 3 = .ok (.istore_n 2, 1) := by decide +kernel
theorem d_H_linkedPairs_4 : decode cc_H_linkedPairs 4 = .ok (.iload_n 2, 1) := by decide +kernel
theorem d_H_linkedPairs_5 : decode cc_H_linkedPairs 5 = .ok (.bipush 10, 2) := by decide +kernel
theorem d_H_linkedPairs_7 : decode cc_H_linkedPairs 7 = .ok (.if_icmp .ge 41, 3) := by decide +kernel
theorem d_H_linkedPairs_10 : decode cc_H_linkedPairs 10 = .ok (.iload_n 2, 1) := by decide +kernel
theorem d_H_linkedPairs_11 : decode cc_H_linkedPairs 11 = .ok (.iconst 1, 1) := by decide +kernel
theorem d_H_linkedPairs_12 : decode cc_H_linkedPairs 12 = .ok (.iadd, 1) := by decide +kernel
theorem d_H_linkedPairs_13 : decode cc_H_linkedPairs 13 = .ok (.istore_n 3, 1) := by decide +kernel
theorem d_H_linkedPairs_14 : decode cc_H_linkedPairs 14 = .ok (.iload_n 3, 1) := by decide +kernel
theorem d_H_linkedPairs_15 : decode cc_H_linkedPairs 15 = .ok (.bipush 10, 2) := by decide +kernel
theorem d_H_linkedPairs_17 : decode cc_H_linkedPairs 17 = .ok (.if_icmp .ge 25, 3) := by decide +kernel
theorem d_H_linkedPairs_20 : decode cc_H_linkedPairs 20 = .ok (.aload_n 0, 1) := by decide +kernel
theorem d_H_linkedPairs_21 : decode cc_H_linkedPairs 21 = .ok (.getfield 33, 3) := by decide +kernel
theorem d_H_linkedPairs_24 : decode cc_H_linkedPairs 24 = .ok (.iload_n 2, 1) := by decide +kernel
theorem d_H_linkedPairs_25 : decode cc_H_linkedPairs 25 = .ok (.iload_n 3, 1) := by decide +kernel
theorem d_H_linkedPairs_26 : decode cc_H_linkedPairs 26 = .ok (.invokestatic 71, 3) := by decide +kernel
theorem d_H_linkedPairs_29 : decode cc_H_linkedPairs 29 = .ok (.iaload, 1) := by decide +kernel
theorem d_H_linkedPairs_30 : decode cc_H_linkedPairs 30 = .ok (.ifCond .le 6, 3) := by decide +kernel
theorem d_H_linkedPairs_33 : decode cc_H_linkedPairs 33 = .ok (.iinc 1 1, 3) := by decide +kernel
theorem d_H_linkedPairs_36 : decode cc_H_linkedPairs 36 = .ok (.iinc 3 1, 3) := by decide +kernel
theorem d_H_linkedPairs_39 : decode cc_H_linkedPairs 39 = .ok (.goto (-25), 3) := by decide +kernel
theorem d_H_linkedPairs_42 : decode cc_H_linkedPairs 42 = .ok (.iinc 2 1, 3) := by decide +kernel
theorem d_H_linkedPairs_45 : decode cc_H_linkedPairs 45 = .ok (.goto (-41), 3) := by decide +kernel
theorem d_H_linkedPairs_48 : decode cc_H_linkedPairs 48 = .ok (.iload_n 1, 1) := by decide +kernel
theorem d_H_linkedPairs_49 : decode cc_H_linkedPairs 49 = .ok (.ireturn, 1) := by decide +kernel
theorem d_Y_init_0 : decode cc_Y_init 0 = .ok (.aload_n 0, 1) := by decide +kernel
theorem d_Y_init_1 : decode cc_Y_init 1 = .ok (.invokespecial 3, 3) := by decide +kernel
theorem d_Y_init_4 : decode cc_Y_init 4 = .ok (.aload_n 0, 1) := by decide +kernel
theorem d_Y_init_5 : decode cc_Y_init 5 = .ok (.bipush 100, 2) := by decide +kernel
theorem d_Y_init_7 : decode cc_Y_init 7 = .ok (.newarray .int, 2) := by decide +kernel
theorem d_Y_init_9 : decode cc_Y_init 9 = .ok (.putfield 9, 3) := by decide +kernel
theorem d_Y_init_12 : decode cc_Y_init 12 = .ok (.return_, 1) := by decide +kernel
theorem d_Y_measure_0 : decode cc_Y_measure 0 = .ok (.aload_n 0, 1) := by decide +kernel
theorem d_Y_measure_1 : decode cc_Y_measure 1 = .ok (.aload_n 1, 1) := by decide +kernel
theorem d_Y_measure_2 : decode cc_Y_measure 2 = .ok (.invokevirtual 15, 3) := by decide +kernel
theorem d_Y_measure_5 : decode cc_Y_measure 5 = .ok (.iconst 0, 1) := by decide +kernel
theorem d_Y_measure_6 : decode cc_Y_measure 6 = .ok (.istore_n 2, 1) := by decide +kernel
theorem d_Y_measure_7 : decode cc_Y_measure 7 = .ok (.iload_n 2, 1) := by decide +kernel
theorem d_Y_measure_8 : decode cc_Y_measure 8 = .ok (.bipush 10, 2) := by decide +kernel
theorem d_Y_measure_10 : decode cc_Y_measure 10 = .ok (.if_icmp .ge 29, 3) := by decide +kernel
theorem d_Y_measure_13 : decode cc_Y_measure 13 = .ok (.iconst 0, 1) := by decide +kernel
theorem d_Y_measure_14 : decode cc_Y_measure 14 = .ok (.istore_n 3, 1) := by decide +kernel
theorem d_Y_measure_15 : decode cc_Y_measure 15 = .ok (.iload_n 3, 1) := by decide +kernel
theorem d_Y_measure_16 : decode cc_Y_measure 16 = .ok (.bipush 10, 2) := by decide +kernel
theorem d_Y_measure_18 : decode cc_Y_measure 18 = .ok (.if_icmp .ge 15, 3) := by decide +kernel
theorem d_Y_measure_21 : decode cc_Y_measure 21 = .ok (.aload_n 0, 1) := by decide +kernel
theorem d_Y_measure_22 : decode cc_Y_measure 22 = .ok (.iload_n 2, 1) := by decide +kernel
theorem d_Y_measure_23 : decode cc_Y_measure 23 = .ok (.iload_n 3, 1) := by decide +kernel
theorem d_Y_measure_24 : decode cc_Y_measure 24 = .ok (.invokevirtual 19, 3) := by decide +kernel
theorem d_Y_measure_27 : decode cc_Y_measure 27 = .ok (.iinc 3 1, 3) := by decide +kernel
theorem d_Y_measure_30 : decode cc_Y_measure 30 = .ok (.goto (-15), 3) := by decide +kernel
theorem d_Y_measure_33 : decode cc_Y_measure 33 = .ok (.iinc 2 1, 3) := by decide +kernel
theorem d_Y_measure_36 : decode cc_Y_measure 36 = .ok (.goto (-29), 3) := by decide +kernel
theorem d_Y_measure_39 : decode cc_Y_measure 39 = .ok (.return_, 1) := by decide +kernel
theorem d_Y_layLinks_0 : decode cc_Y_layLinks 0 = .ok (.iconst 0, 1) := by decide +kernel
theorem d_Y_layLinks_1 : decode cc_Y_layLinks 1 = .ok (.istore_n 2, 1) := by decide +kernel
theorem d_Y_layLinks_2 : decode cc_Y_layLinks 2 = .ok (.iload_n 2, 1) := by decide +kernel
theorem d_Y_layLinks_3 : decode cc_Y_layLinks 3 = .ok (.bipush 10, 2) := by decide +kernel
theorem d_Y_layLinks_5 : decode cc_Y_layLinks 5 = .ok (.if_icmp .ge 68, 3) := by decide +kernel
theorem d_Y_layLinks_8 : decode cc_Y_layLinks 8 = .ok (.iconst 0, 1) := by decide +kernel
theorem d_Y_layLinks_9 : decode cc_Y_layLinks 9 = .ok (.istore_n 3, 1) := by decide +kernel
theorem d_Y_layLinks_10 : decode cc_Y_layLinks 10 = .ok (.iload_n 3, 1) := by decide +kernel
theorem d_Y_layLinks_11 : decode cc_Y_layLinks 11 = .ok (.bipush 10, 2) := by decide +kernel
theorem d_Y_layLinks_13 : decode cc_Y_layLinks 13 = .ok (.if_icmp .ge 43, 3) := by decide +kernel
theorem d_Y_layLinks_16 : decode cc_Y_layLinks 16 = .ok (.aload_n 1, 1) := by decide +kernel
theorem d_Y_layLinks_17 : decode cc_Y_layLinks 17 = .ok (.getfield 23, 3) := by decide +kernel
theorem d_Y_layLinks_20 : decode cc_Y_layLinks 20 = .ok (.iload_n 2, 1) := by decide +kernel
theorem d_Y_layLinks_21 : decode cc_Y_layLinks 21 = .ok (.iload_n 3, 1) := by decide +kernel
theorem d_Y_layLinks_22 : decode cc_Y_layLinks 22 = .ok (.invokestatic 28, 3) := by decide +kernel
theorem d_Y_layLinks_25 : decode cc_Y_layLinks 25 = .ok (.iaload, 1) := by decide +kernel
theorem d_Y_layLinks_26 : decode cc_Y_layLinks 26 = .ok (.istore 4, 2) := by decide +kernel
theorem d_Y_layLinks_28 : decode cc_Y_layLinks 28 = .ok (.aload_n 0, 1) := by decide +kernel
theorem d_Y_layLinks_29 : decode cc_Y_layLinks 29 = .ok (.getfield 9, 3) := by decide +kernel
theorem d_Y_layLinks_32 : decode cc_Y_layLinks 32 = .ok (.iload_n 2, 1) := by decide +kernel
theorem d_Y_layLinks_33 : decode cc_Y_layLinks 33 = .ok (.iload_n 3, 1) := by decide +kernel
theorem d_Y_layLinks_34 : decode cc_Y_layLinks 34 = .ok (.invokestatic 28, 3) := by decide +kernel
theorem d_Y_layLinks_37 : decode cc_Y_layLinks 37 = .ok (.iload 4, 2) := by decide +kernel
theorem d_Y_layLinks_39 : decode cc_Y_layLinks 39 = .ok (.ifCond .le 8, 3) := by decide +kernel
theorem d_Y_layLinks_42 : decode cc_Y_layLinks 42 = .ok (.iload 4, 2) := by decide +kernel
theorem d_Y_layLinks_44 : decode cc_Y_layLinks 44 = .ok (.goto 5, 3) := by decide +kernel
theorem d_Y_layLinks_47 : decode cc_Y_layLinks 47 = .ok (.ldc 32, 2) := by decide +kernel
theorem d_Y_layLinks_49 : decode cc_Y_layLinks 49 = .ok (.iastore, 1) := by decide +kernel
theorem d_Y_layLinks_50 : decode cc_Y_layLinks 50 = .ok (.iinc 3 1, 3) := by decide +kernel
theorem d_Y_layLinks_53 : decode cc_Y_layLinks 53 = .ok (.goto (-43), 3) := by decide +kernel
theorem d_Y_layLinks_56 : decode cc_Y_layLinks 56 = .ok (.aload_n 0, 1) := by decide +kernel
theorem d_Y_layLinks_57 : decode cc_Y_layLinks 57 = .ok (.getfield 9, 3) := by decide +kernel
theorem d_Y_layLinks_60 : decode cc_Y_layLinks 60 = .ok (.iload_n 2, 1) := by decide +kernel
theorem d_Y_layLinks_61 : decode cc_Y_layLinks 61 = .ok (.iload_n 2, 1) := by decide +kernel
theorem d_Y_layLinks_62 : decode cc_Y_layLinks 62 = .ok (.invokestatic 28, 3) := by decide +kernel
theorem d_Y_layLinks_65 : decode cc_Y_layLinks 65 = .ok (.iconst 0, 1) := by decide +kernel
theorem d_Y_layLinks_66 : decode cc_Y_layLinks 66 = .ok (.iastore, 1) := by decide +kernel
theorem d_Y_layLinks_67 : decode cc_Y_layLinks 67 = .ok (.iinc 2 1, 3) := by decide +kernel
theorem d_Y_layLinks_70 : decode cc_Y_layLinks 70 = .ok (.goto (-68), 3) := by decide +kernel
theorem d_Y_layLinks_73 : decode cc_Y_layLinks 73 = .ok (.return_, 1) := by decide +kernel
theorem d_Y_shortenVia_0 : decode cc_Y_shortenVia 0 = .ok (.aload_n 0, 1) := by decide +kernel
theorem d_Y_shortenVia_1 : decode cc_Y_shortenVia 1 = .ok (.getfield 9, 3) := by decide +kernel
theorem d_Y_shortenVia_4 : decode cc_Y_shortenVia 4 = .ok (.iload_n 2, 1) := by decide +kernel
theorem d_Y_shortenVia_5 : decode cc_Y_shortenVia 5 = .ok (.iload_n 1, 1) := by decide +kernel
theorem d_Y_shortenVia_6 : decode cc_Y_shortenVia 6 = .ok (.invokestatic 28, 3) := by decide +kernel
theorem d_Y_shortenVia_9 : decode cc_Y_shortenVia 9 = .ok (.iaload, 1) := by decide +kernel
theorem d_Y_shortenVia_10 : decode cc_Y_shortenVia 10 = .ok (.istore_n 3, 1) := by decide +kernel
theorem d_Y_shortenVia_11 : decode cc_Y_shortenVia 11 = .ok (.iload_n 3, 1) := by decide +kernel
theorem d_Y_shortenVia_12 : decode cc_Y_shortenVia 12 = .ok (.ldc 32, 2) := by decide +kernel
theorem d_Y_shortenVia_14 : decode cc_Y_shortenVia 14 = .ok (.if_icmp .lt 4, 3) := by decide +kernel
theorem d_Y_shortenVia_17 : decode cc_Y_shortenVia 17 = .ok (.return_, 1) := by decide +kernel
theorem d_Y_shortenVia_18 : decode cc_Y_shortenVia 18 = .ok (.iconst 0, 1) := by decide +kernel
theorem d_Y_shortenVia_19 : decode cc_Y_shortenVia 19 = .ok (.istore 4, 2) := by decide +kernel
theorem d_Y_shortenVia_21 : decode cc_Y_shortenVia 21 = .ok (.iload 4, 2) := by decide +kernel
theorem d_Y_shortenVia_23 : decode cc_Y_shortenVia 23 = .ok (.bipush 10, 2) := by decide +kernel
theorem d_Y_shortenVia_25 : decode cc_Y_shortenVia 25 = .ok (.if_icmp .ge 51, 3) := by decide +kernel
theorem d_Y_shortenVia_28 : decode cc_Y_shortenVia 28 = .ok (.iload_n 3, 1) := by decide +kernel
theorem d_Y_shortenVia_29 : decode cc_Y_shortenVia 29 = .ok (.aload_n 0, 1) := by decide +kernel
theorem d_Y_shortenVia_30 : decode cc_Y_shortenVia 30 = .ok (.getfield 9, 3) := by decide +kernel
theorem d_Y_shortenVia_33 : decode cc_Y_shortenVia 33 = .ok (.iload_n 1, 1) := by decide +kernel
theorem d_Y_shortenVia_34 : decode cc_Y_shortenVia 34 = .ok (.iload 4, 2) := by decide +kernel
theorem d_Y_shortenVia_36 : decode cc_Y_shortenVia 36 = .ok (.invokestatic 28, 3) := by decide +kernel
theorem d_Y_shortenVia_39 : decode cc_Y_shortenVia 39 = .ok (.iaload, 1) := by decide +kernel
theorem d_Y_shortenVia_40 : decode cc_Y_shortenVia 40 = .ok (.iadd, 1) := by decide +kernel
theorem d_Y_shortenVia_41 : decode cc_Y_shortenVia 41 = .ok (.istore 5, 2) := by decide +kernel
theorem d_Y_shortenVia_43 : decode cc_Y_shortenVia 43 = .ok (.aload_n 0, 1) := by decide +kernel
theorem d_Y_shortenVia_44 : decode cc_Y_shortenVia 44 = .ok (.getfield 9, 3) := by decide +kernel
theorem d_Y_shortenVia_47 : decode cc_Y_shortenVia 47 = .ok (.iload_n 2, 1) := by decide +kernel
theorem d_Y_shortenVia_48 : decode cc_Y_shortenVia 48 = .ok (.iload 4, 2) := by decide +kernel
theorem d_Y_shortenVia_50 : decode cc_Y_shortenVia 50 = .ok (.invokestatic 28, 3) := by decide +kernel
theorem d_Y_shortenVia_53 : decode cc_Y_shortenVia 53 = .ok (.aload_n 0, 1) := by decide +kernel
theorem d_Y_shortenVia_54 : decode cc_Y_shortenVia 54 = .ok (.getfield 9, 3) := by decide +kernel
theorem d_Y_shortenVia_57 : decode cc_Y_shortenVia 57 = .ok (.iload_n 2, 1) := by decide +kernel
theorem d_Y_shortenVia_58 : decode cc_Y_shortenVia 58 = .ok (.iload 4, 2) := by decide +kernel
theorem d_Y_shortenVia_60 : decode cc_Y_shortenVia 60 = .ok (.invokestatic 28, 3) := by decide +kernel
theorem d_Y_shortenVia_63 : decode cc_Y_shortenVia 63 = .ok (.iaload, 1) := by decide +kernel
theorem d_Y_shortenVia_64 : decode cc_Y_shortenVia 64 = .ok (.iload 5, 2) := by decide +kernel
theorem d_Y_shortenVia_66 : decode cc_Y_shortenVia 66 = .ok (.invokestatic 33, 3) := by decide +kernel
theorem d_Y_shortenVia_69 : decode cc_Y_shortenVia 69 = .ok (.iastore, 1) := by decide +kernel
theorem d_Y_shortenVia_70 : decode cc_Y_shortenVia 70 = .ok (.iinc 4 1, 3) := by decide +kernel
theorem d_Y_shortenVia_73 : decode cc_Y_shortenVia 73 = .ok (.goto (-52), 3) := by decide +kernel
theorem d_Y_shortenVia_76 : decode cc_Y_shortenVia 76 = .ok (.return_, 1) := by decide +kernel
theorem d_Y_between_0 : decode cc_Y_between 0 = .ok (.aload_n 0, 1) := by decide +kernel
theorem d_Y_between_1 : decode cc_Y_between 1 = .ok (.getfield 9, 3) := by decide +kernel
theorem d_Y_between_4 : decode cc_Y_between 4 = .ok (.iload_n 1, 1) := by decide +kernel
theorem d_Y_between_5 : decode cc_Y_between 5 = .ok (.iload_n 2, 1) := by decide +kernel
theorem d_Y_between_6 : decode cc_Y_between 6 = .ok (.invokestatic 28, 3) := by decide +kernel
theorem d_Y_between_9 : decode cc_Y_between 9 = .ok (.iaload, 1) := by decide +kernel
theorem d_Y_between_10 : decode cc_Y_between 10 = .ok (.ireturn, 1) := by decide +kernel
theorem d_Y_fewestThrough_0 : decode cc_Y_fewestThrough 0 = .ok (.aload_n 0, 1) := by decide +kernel
theorem d_Y_fewestThrough_1 : decode cc_Y_fewestThrough 1 = .ok (.getfield 9, 3) := by decide +kernel
theorem d_Y_fewestThrough_4 : decode cc_Y_fewestThrough 4 = .ok (.iload_n 1, 1) := by decide +kernel
theorem d_Y_fewestThrough_5 : decode cc_Y_fewestThrough 5 = .ok (.iload_n 2, 1) := by decide +kernel
theorem d_Y_fewestThrough_6 : decode cc_Y_fewestThrough 6 = .ok (.iconst 4, 1) := by decide +kernel
theorem d_Y_fewestThrough_7 : decode cc_Y_fewestThrough 7 = .ok (.invokestatic 38, 3) := by decide +kernel
theorem d_Y_fewestThrough_10 : decode cc_Y_fewestThrough 10 = .ok (.ireturn, 1) := by decide +kernel
theorem d_Y_fewest_0 : decode cc_Y_fewest 0 = .ok (.iload_n 2, 1) := by decide +kernel
theorem d_Y_fewest_1 : decode cc_Y_fewest 1 = .ok (.ifCond .ne 5, 3) := by decide +kernel
theorem d_Y_fewest_4 : decode cc_Y_fewest 4 = .ok (.iconst 0, 1) := by decide +kernel
theorem d_Y_fewest_5 : decode cc_Y_fewest 5 = .ok (.ireturn, 1) := by decide +kernel
theorem d_Y_fewest_6 : decode cc_Y_fewest 6 = .ok (.iload_n 3, 1) := by decide +kernel
theorem d_Y_fewest_7 : decode cc_Y_fewest 7 = .ok (.ifCond .gt 6, 3) := by decide +kernel
theorem d_Y_fewest_10 : decode cc_Y_fewest 10 = .ok (.ldc 32, 2) := by decide +kernel
theorem d_Y_fewest_12 : decode cc_Y_fewest 12 = .ok (.ireturn, 1) := by decide +kernel
theorem d_Y_fewest_13 : decode cc_Y_fewest 13 = .ok (.ldc 32, 2) := by decide +kernel
theorem d_Y_fewest_15 : decode cc_Y_fewest 15 = .ok (.istore 4, 2) := by decide +kernel
theorem d_Y_fewest_17 : decode cc_Y_fewest 17 = .ok (.iconst 0, 1) := by decide +kernel
theorem d_Y_fewest_18 : decode cc_Y_fewest 18 = .ok (.istore 5, 2) := by decide +kernel
theorem d_Y_fewest_20 : decode cc_Y_fewest 20 = .ok (.iload 5, 2) := by decide +kernel
theorem d_Y_fewest_22 : decode cc_Y_fewest 22 = .ok (.bipush 10, 2) := by decide +kernel
theorem d_Y_fewest_24 : decode cc_Y_fewest 24 = .ok (.if_icmp .ge 55, 3) := by decide +kernel
theorem d_Y_fewest_27 : decode cc_Y_fewest 27 = .ok (.iload 5, 2) := by decide +kernel
theorem d_Y_fewest_29 : decode cc_Y_fewest 29 = .ok (.iload_n 2, 1) := by decide +kernel
theorem d_Y_fewest_30 : decode cc_Y_fewest 30 = .ok (.invokestatic 42, 3) := by decide +kernel
theorem d_Y_fewest_33 : decode cc_Y_fewest 33 = .ok (.ifCond .eq 40, 3) := by decide +kernel
theorem d_Y_fewest_36 : decode cc_Y_fewest 36 = .ok (.aload_n 0, 1) := by decide +kernel
theorem d_Y_fewest_37 : decode cc_Y_fewest 37 = .ok (.iload 5, 2) := by decide +kernel
theorem d_Y_fewest_39 : decode cc_Y_fewest 39 = .ok (.iload_n 2, 1) := by decide +kernel
theorem d_Y_fewest_40 : decode cc_Y_fewest 40 = .ok (.iconst 1, 1) := by decide +kernel
theorem d_Y_fewest_41 : decode cc_Y_fewest 41 = .ok (.iload 5, 2) := by decide +kernel
theorem d_Y_fewest_43 : decode cc_Y_fewest 43 = .ok (.ishl, 1) := by decide +kernel
theorem d_Y_fewest_44 : decode cc_Y_fewest 44 = .ok (.iconst (-1), 1) := by decide +kernel
theorem d_Y_fewest_45 : decode cc_Y_fewest 45 = .ok (.ixor, 1) := by decide +kernel
theorem d_Y_fewest_46 : decode cc_Y_fewest 46 = .ok (.iand, 1) := by decide +kernel
theorem d_Y_fewest_47 : decode cc_Y_fewest 47 = .ok (.iload_n 3, 1) := by decide +kernel
theorem d_Y_fewest_48 : decode cc_Y_fewest 48 = .ok (.iconst 1, 1) := by decide +kernel
theorem d_Y_fewest_49 : decode cc_Y_fewest 49 = .ok (.isub, 1) := by decide +kernel
theorem d_Y_fewest_50 : decode cc_Y_fewest 50 = .ok (.invokestatic 38, 3) := by decide +kernel
theorem d_Y_fewest_53 : decode cc_Y_fewest 53 = .ok (.istore 6, 2) := by decide +kernel
theorem d_Y_fewest_55 : decode cc_Y_fewest 55 = .ok (.iload 4, 2) := by decide +kernel
theorem d_Y_fewest_57 : decode cc_Y_fewest 57 = .ok (.aload_n 0, 1) := by decide +kernel
theorem d_Y_fewest_58 : decode cc_Y_fewest 58 = .ok (.iload_n 1, 1) := by decide +kernel
theorem d_Y_fewest_59 : decode cc_Y_fewest 59 = .ok (.iload 5, 2) := by decide +kernel
theorem d_Y_fewest_61 : decode cc_Y_fewest 61 = .ok (.invokestatic 28, 3) := by decide +kernel
theorem d_Y_fewest_64 : decode cc_Y_fewest 64 = .ok (.iaload, 1) := by decide +kernel
theorem d_Y_fewest_65 : decode cc_Y_fewest 65 = .ok (.iload 6, 2) := by decide +kernel
theorem d_Y_fewest_67 : decode cc_Y_fewest 67 = .ok (.iadd, 1) := by decide +kernel
theorem d_Y_fewest_68 : decode cc_Y_fewest 68 = .ok (.invokestatic 33, 3) := by decide +kernel
theorem d_Y_fewest_71 : decode cc_Y_fewest 71 = .ok (.istore 4, 2) := by decide +kernel
theorem d_Y_fewest_73 : decode cc_Y_fewest 73 = .ok (.iinc 5 1, 3) := by decide +kernel
theorem d_Y_fewest_76 : decode cc_Y_fewest 76 = .ok (.goto (-56), 3) := by decide +kernel
theorem d_Y_fewest_79 : decode cc_Y_fewest 79 = .ok (.iload 4, 2) := by decide +kernel
theorem d_Y_fewest_81 : decode cc_Y_fewest 81 = .ok (.ireturn, 1) := by decide +kernel
theorem d_JI_bitCount_0 : decode cc_JI_bitCount 0 = .ok (.iload_n 0, 1) := by decide +kernel
theorem d_JI_bitCount_1 : decode cc_JI_bitCount 1 = .ok (.iload_n 0, 1) := by decide +kernel
theorem d_JI_bitCount_2 : decode cc_JI_bitCount 2 = .ok (.iconst 1, 1) := by decide +kernel
theorem d_JI_bitCount_3 : decode cc_JI_bitCount 3 = .ok (.iushr, 1) := by decide +kernel
theorem d_JI_bitCount_4 : decode cc_JI_bitCount 4 = .ok (.ldc_w 265, 3) := by decide +kernel
theorem d_JI_bitCount_7 : decode cc_JI_bitCount 7 = .ok (.iand, 1) := by decide +kernel
theorem d_JI_bitCount_8 : decode cc_JI_bitCount 8 = .ok (.isub, 1) := by decide +kernel
theorem d_JI_bitCount_9 : decode cc_JI_bitCount 9 = .ok (.istore_n 0, 1) := by decide +kernel
theorem d_JI_bitCount_10 : decode cc_JI_bitCount 10 = .ok (.iload_n 0, 1) := by decide +kernel
theorem d_JI_bitCount_11 : decode cc_JI_bitCount 11 = .ok (.ldc_w 266, 3) := by decide +kernel
theorem d_JI_bitCount_14 : decode cc_JI_bitCount 14 = .ok (.iand, 1) := by decide +kernel
theorem d_JI_bitCount_15 : decode cc_JI_bitCount 15 = .ok (.iload_n 0, 1) := by decide +kernel
theorem d_JI_bitCount_16 : decode cc_JI_bitCount 16 = .ok (.iconst 2, 1) := by decide +kernel
theorem d_JI_bitCount_17 : decode cc_JI_bitCount 17 = .ok (.iushr, 1) := by decide +kernel
theorem d_JI_bitCount_18 : decode cc_JI_bitCount 18 = .ok (.ldc_w 266, 3) := by decide +kernel
theorem d_JI_bitCount_21 : decode cc_JI_bitCount 21 = .ok (.iand, 1) := by decide +kernel
theorem d_JI_bitCount_22 : decode cc_JI_bitCount 22 = .ok (.iadd, 1) := by decide +kernel
theorem d_JI_bitCount_23 : decode cc_JI_bitCount 23 = .ok (.istore_n 0, 1) := by decide +kernel
theorem d_JI_bitCount_24 : decode cc_JI_bitCount 24 = .ok (.iload_n 0, 1) := by decide +kernel
theorem d_JI_bitCount_25 : decode cc_JI_bitCount 25 = .ok (.iload_n 0, 1) := by decide +kernel
theorem d_JI_bitCount_26 : decode cc_JI_bitCount 26 = .ok (.iconst 4, 1) := by decide +kernel
theorem d_JI_bitCount_27 : decode cc_JI_bitCount 27 = .ok (.iushr, 1) := by decide +kernel
theorem d_JI_bitCount_28 : decode cc_JI_bitCount 28 = .ok (.iadd, 1) := by decide +kernel
theorem d_JI_bitCount_29 : decode cc_JI_bitCount 29 = .ok (.ldc_w 267, 3) := by decide +kernel
theorem d_JI_bitCount_32 : decode cc_JI_bitCount 32 = .ok (.iand, 1) := by decide +kernel
theorem d_JI_bitCount_33 : decode cc_JI_bitCount 33 = .ok (.istore_n 0, 1) := by decide +kernel
theorem d_JI_bitCount_34 : decode cc_JI_bitCount 34 = .ok (.iload_n 0, 1) := by decide +kernel
theorem d_JI_bitCount_35 : decode cc_JI_bitCount 35 = .ok (.iload_n 0, 1) := by decide +kernel
theorem d_JI_bitCount_36 : decode cc_JI_bitCount 36 = .ok (.bipush 8, 2) := by decide +kernel
theorem d_JI_bitCount_38 : decode cc_JI_bitCount 38 = .ok (.iushr, 1) := by decide +kernel
theorem d_JI_bitCount_39 : decode cc_JI_bitCount 39 = .ok (.iadd, 1) := by decide +kernel
theorem d_JI_bitCount_40 : decode cc_JI_bitCount 40 = .ok (.istore_n 0, 1) := by decide +kernel
theorem d_JI_bitCount_41 : decode cc_JI_bitCount 41 = .ok (.iload_n 0, 1) := by decide +kernel
theorem d_JI_bitCount_42 : decode cc_JI_bitCount 42 = .ok (.iload_n 0, 1) := by decide +kernel
theorem d_JI_bitCount_43 : decode cc_JI_bitCount 43 = .ok (.bipush 16, 2) := by decide +kernel
theorem d_JI_bitCount_45 : decode cc_JI_bitCount 45 = .ok (.iushr, 1) := by decide +kernel
theorem d_JI_bitCount_46 : decode cc_JI_bitCount 46 = .ok (.iadd, 1) := by decide +kernel
theorem d_JI_bitCount_47 : decode cc_JI_bitCount 47 = .ok (.istore_n 0, 1) := by decide +kernel
theorem d_JI_bitCount_48 : decode cc_JI_bitCount 48 = .ok (.iload_n 0, 1) := by decide +kernel
theorem d_JI_bitCount_49 : decode cc_JI_bitCount 49 = .ok (.bipush 63, 2) := by decide +kernel
theorem d_JI_bitCount_51 : decode cc_JI_bitCount 51 = .ok (.iand, 1) := by decide +kernel
theorem d_JI_bitCount_52 : decode cc_JI_bitCount 52 = .ok (.ireturn, 1) := by decide +kernel
theorem d_JA_fill_0 : decode cc_JA_fill 0 = .ok (.iconst 0, 1) := by decide +kernel
theorem d_JA_fill_1 : decode cc_JA_fill 1 = .ok (.istore_n 2, 1) := by decide +kernel
theorem d_JA_fill_2 : decode cc_JA_fill 2 = .ok (.aload_n 0, 1) := by decide +kernel
theorem d_JA_fill_3 : decode cc_JA_fill 3 = .ok (.arraylength, 1) := by decide +kernel
theorem d_JA_fill_4 : decode cc_JA_fill 4 = .ok (.istore_n 3, 1) := by decide +kernel
theorem d_JA_fill_5 : decode cc_JA_fill 5 = .ok (.iload_n 2, 1) := by decide +kernel
theorem d_JA_fill_6 : decode cc_JA_fill 6 = .ok (.iload_n 3, 1) := by decide +kernel
theorem d_JA_fill_7 : decode cc_JA_fill 7 = .ok (.if_icmp .ge 13, 3) := by decide +kernel
theorem d_JA_fill_10 : decode cc_JA_fill 10 = .ok (.aload_n 0, 1) := by decide +kernel
theorem d_JA_fill_11 : decode cc_JA_fill 11 = .ok (.iload_n 2, 1) := by decide +kernel
theorem d_JA_fill_12 : decode cc_JA_fill 12 = .ok (.iload_n 1, 1) := by decide +kernel
theorem d_JA_fill_13 : decode cc_JA_fill 13 = .ok (.iastore, 1) := by decide +kernel
theorem d_JA_fill_14 : decode cc_JA_fill 14 = .ok (.iinc 2 1, 3) := by decide +kernel
theorem d_JA_fill_17 : decode cc_JA_fill 17 = .ok (.goto (-12), 3) := by decide +kernel
theorem d_JA_fill_20 : decode cc_JA_fill 20 = .ok (.return_, 1) := by decide +kernel
