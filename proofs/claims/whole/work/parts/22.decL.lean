theorem d_L_event_0 : decode cc_L_event 0 = .ok (.aload 5, 2) := by decide +kernel
theorem d_L_event_2 : decode cc_L_event 2 = .ok (.iconst 0, 1) := by decide +kernel
theorem d_L_event_3 : decode cc_L_event 3 = .ok (.aload_n 0, 1) := by decide +kernel
theorem d_L_event_4 : decode cc_L_event 4 = .ok (.iload_n 1, 1) := by decide +kernel
theorem d_L_event_5 : decode cc_L_event 5 = .ok (.iload_n 2, 1) := by decide +kernel
theorem d_L_event_6 : decode cc_L_event 6 = .ok (.iload_n 3, 1) := by decide +kernel
theorem d_L_event_7 : decode cc_L_event 7 = .ok (.iload 4, 2) := by decide +kernel
theorem d_L_event_9 : decode cc_L_event 9 = .ok (.invokevirtual 7, 3) := by decide +kernel
theorem d_L_event_12 : decode cc_L_event 12 = .ok (.i2l, 1) := by decide +kernel
theorem d_L_event_13 : decode cc_L_event 13 = .ok (.lastore, 1) := by decide +kernel
theorem d_L_event_14 : decode cc_L_event 14 = .ok (.goto 11, 3) := by decide +kernel
theorem d_L_event_17 : decode cc_L_event 17 = .ok (.astore 6, 2) := by decide +kernel
theorem d_L_event_19 : decode cc_L_event 19 = .ok (.iconst 1, 1) := by decide +kernel
theorem d_L_event_20 : decode cc_L_event 20 = .ok (.ireturn, 1) := by decide +kernel
theorem d_L_event_21 : decode cc_L_event 21 = .ok (.astore 6, 2) := by decide +kernel
theorem d_L_event_23 : decode cc_L_event 23 = .ok (.iconst 2, 1) := by decide +kernel
theorem d_L_event_24 : decode cc_L_event 24 = .ok (.ireturn, 1) := by decide +kernel
theorem d_L_event_25 : decode cc_L_event 25 = .ok (.iconst 0, 1) := by decide +kernel
theorem d_L_event_26 : decode cc_L_event 26 = .ok (.ireturn, 1) := by decide +kernel
theorem d_L_stock_0 : decode cc_L_stock 0 = .ok (.aload_n 3, 1) := by decide +kernel
theorem d_L_stock_1 : decode cc_L_stock 1 = .ok (.iconst 0, 1) := by decide +kernel
theorem d_L_stock_2 : decode cc_L_stock 2 = .ok (.aload_n 0, 1) := by decide +kernel
theorem d_L_stock_3 : decode cc_L_stock 3 = .ok (.iload_n 1, 1) := by decide +kernel
theorem d_L_stock_4 : decode cc_L_stock 4 = .ok (.iload_n 2, 1) := by decide +kernel
theorem d_L_stock_5 : decode cc_L_stock 5 = .ok (.invokevirtual 17, 3) := by decide +kernel
theorem d_L_stock_8 : decode cc_L_stock 8 = .ok (.i2l, 1) := by decide +kernel
theorem d_L_stock_9 : decode cc_L_stock 9 = .ok (.lastore, 1) := by decide +kernel
theorem d_L_stock_10 : decode cc_L_stock 10 = .ok (.goto 7, 3) := by decide +kernel
theorem d_L_stock_13 : decode cc_L_stock 13 = .ok (.astore 4, 2) := by decide +kernel
theorem d_L_stock_15 : decode cc_L_stock 15 = .ok (.iconst 1, 1) := by decide +kernel
theorem d_L_stock_16 : decode cc_L_stock 16 = .ok (.ireturn, 1) := by decide +kernel
theorem d_L_stock_17 : decode cc_L_stock 17 = .ok (.iconst 0, 1) := by decide +kernel
theorem d_L_stock_18 : decode cc_L_stock 18 = .ok (.ireturn, 1) := by decide +kernel
theorem d_L_where_0 : decode cc_L_where 0 = .ok (.aload_n 3, 1) := by decide +kernel
theorem d_L_where_1 : decode cc_L_where 1 = .ok (.iconst 0, 1) := by decide +kernel
theorem d_L_where_2 : decode cc_L_where 2 = .ok (.aload_n 0, 1) := by decide +kernel
theorem d_L_where_3 : decode cc_L_where 3 = .ok (.iload_n 1, 1) := by decide +kernel
theorem d_L_where_4 : decode cc_L_where 4 = .ok (.iload_n 2, 1) := by decide +kernel
theorem d_L_where_5 : decode cc_L_where 5 = .ok (.invokevirtual 21, 3) := by decide +kernel
theorem d_L_where_8 : decode cc_L_where 8 = .ok (.i2l, 1) := by decide +kernel
theorem d_L_where_9 : decode cc_L_where 9 = .ok (.lastore, 1) := by decide +kernel
theorem d_L_where_10 : decode cc_L_where 10 = .ok (.goto 11, 3) := by decide +kernel
theorem d_L_where_13 : decode cc_L_where 13 = .ok (.astore 4, 2) := by decide +kernel
theorem d_L_where_15 : decode cc_L_where 15 = .ok (.iconst 1, 1) := by decide +kernel
theorem d_L_where_16 : decode cc_L_where 16 = .ok (.ireturn, 1) := by decide +kernel
theorem d_L_where_17 : decode cc_L_where 17 = .ok (.astore 4, 2) := by decide +kernel
theorem d_L_where_19 : decode cc_L_where 19 = .ok (.iconst 2, 1) := by decide +kernel
theorem d_L_where_20 : decode cc_L_where 20 = .ok (.ireturn, 1) := by decide +kernel
theorem d_L_where_21 : decode cc_L_where 21 = .ok (.iconst 0, 1) := by decide +kernel
theorem d_L_where_22 : decode cc_L_where 22 = .ok (.ireturn, 1) := by decide +kernel
theorem d_L_order_0 : decode cc_L_order 0 = .ok (.aload_n 3, 1) := by decide +kernel
theorem d_L_order_1 : decode cc_L_order 1 = .ok (.iconst 0, 1) := by decide +kernel
theorem d_L_order_2 : decode cc_L_order 2 = .ok (.aload_n 0, 1) := by decide +kernel
theorem d_L_order_3 : decode cc_L_order 3 = .ok (.iload_n 1, 1) := by decide +kernel
theorem d_L_order_4 : decode cc_L_order 4 = .ok (.iload_n 2, 1) := by decide +kernel
theorem d_L_order_5 : decode cc_L_order 5 = .ok (.invokevirtual 26, 3) := by decide +kernel
theorem d_L_order_8 : decode cc_L_order 8 = .ok (.i2l, 1) := by decide +kernel
theorem d_L_order_9 : decode cc_L_order 9 = .ok (.lastore, 1) := by decide +kernel
theorem d_L_order_10 : decode cc_L_order 10 = .ok (.goto 11, 3) := by decide +kernel
theorem d_L_order_13 : decode cc_L_order 13 = .ok (.astore 4, 2) := by decide +kernel
theorem d_L_order_15 : decode cc_L_order 15 = .ok (.iconst 1, 1) := by decide +kernel
theorem d_L_order_16 : decode cc_L_order 16 = .ok (.ireturn, 1) := by decide +kernel
theorem d_L_order_17 : decode cc_L_order 17 = .ok (.astore 4, 2) := by decide +kernel
theorem d_L_order_19 : decode cc_L_order 19 = .ok (.iconst 2, 1) := by decide +kernel
theorem d_L_order_20 : decode cc_L_order 20 = .ok (.ireturn, 1) := by decide +kernel
theorem d_L_order_21 : decode cc_L_order 21 = .ok (.iconst 0, 1) := by decide +kernel
theorem d_L_order_22 : decode cc_L_order 22 = .ok (.ireturn, 1) := by decide +kernel
theorem d_L_promise_0 : decode cc_L_promise 0 = .ok (.aload_n 2, 1) := by decide +kernel
theorem d_L_promise_1 : decode cc_L_promise 1 = .ok (.iconst 0, 1) := by decide +kernel
theorem d_L_promise_2 : decode cc_L_promise 2 = .ok (.aload_n 0, 1) := by decide +kernel
theorem d_L_promise_3 : decode cc_L_promise 3 = .ok (.iload_n 1, 1) := by decide +kernel
theorem d_L_promise_4 : decode cc_L_promise 4 = .ok (.invokevirtual 29, 3) := by decide +kernel
theorem d_L_promise_7 : decode cc_L_promise 7 = .ok (.i2l, 1) := by decide +kernel
theorem d_L_promise_8 : decode cc_L_promise 8 = .ok (.lastore, 1) := by decide +kernel
theorem d_L_promise_9 : decode cc_L_promise 9 = .ok (.goto 6, 3) := by decide +kernel
theorem d_L_promise_12 : decode cc_L_promise 12 = .ok (.astore_n 3, 1) := by decide +kernel
theorem d_L_promise_13 : decode cc_L_promise 13 = .ok (.iconst 1, 1) := by decide +kernel
theorem d_L_promise_14 : decode cc_L_promise 14 = .ok (.ireturn, 1) := by decide +kernel
theorem d_L_promise_15 : decode cc_L_promise 15 = .ok (.iconst 0, 1) := by decide +kernel
theorem d_L_promise_16 : decode cc_L_promise 16 = .ok (.ireturn, 1) := by decide +kernel
theorem d_L_way_0 : decode cc_L_way 0 = .ok (.aload_n 3, 1) := by decide +kernel
theorem d_L_way_1 : decode cc_L_way 1 = .ok (.iconst 0, 1) := by decide +kernel
theorem d_L_way_2 : decode cc_L_way 2 = .ok (.aload_n 0, 1) := by decide +kernel
theorem d_L_way_3 : decode cc_L_way 3 = .ok (.iload_n 1, 1) := by decide +kernel
theorem d_L_way_4 : decode cc_L_way 4 = .ok (.iload_n 2, 1) := by decide +kernel
theorem d_L_way_5 : decode cc_L_way 5 = .ok (.invokevirtual 33, 3) := by decide +kernel
theorem d_L_way_8 : decode cc_L_way 8 = .ok (.i2l, 1) := by decide +kernel
theorem d_L_way_9 : decode cc_L_way 9 = .ok (.lastore, 1) := by decide +kernel
theorem d_L_way_10 : decode cc_L_way 10 = .ok (.goto 7, 3) := by decide +kernel
theorem d_L_way_13 : decode cc_L_way 13 = .ok (.astore 4, 2) := by decide +kernel
theorem d_L_way_15 : decode cc_L_way 15 = .ok (.iconst 1, 1) := by decide +kernel
theorem d_L_way_16 : decode cc_L_way 16 = .ok (.ireturn, 1) := by decide +kernel
theorem d_L_way_17 : decode cc_L_way 17 = .ok (.iconst 0, 1) := by decide +kernel
theorem d_L_way_18 : decode cc_L_way 18 = .ok (.ireturn, 1) := by decide +kernel
theorem d_L_walk_0 : decode cc_L_walk 0 = .ok (.aload_n 3, 1) := by decide +kernel
theorem d_L_walk_1 : decode cc_L_walk 1 = .ok (.iconst 0, 1) := by decide +kernel
theorem d_L_walk_2 : decode cc_L_walk 2 = .ok (.aload_n 0, 1) := by decide +kernel
theorem d_L_walk_3 : decode cc_L_walk 3 = .ok (.iload_n 1, 1) := by decide +kernel
theorem d_L_walk_4 : decode cc_L_walk 4 = .ok (.iload_n 2, 1) := by decide +kernel
theorem d_L_walk_5 : decode cc_L_walk 5 = .ok (.invokevirtual 36, 3) := by decide +kernel
theorem d_L_walk_8 : decode cc_L_walk 8 = .ok (.i2l, 1) := by decide +kernel
theorem d_L_walk_9 : decode cc_L_walk 9 = .ok (.lastore, 1) := by decide +kernel
theorem d_L_walk_10 : decode cc_L_walk 10 = .ok (.goto 11, 3) := by decide +kernel
theorem d_L_walk_13 : decode cc_L_walk 13 = .ok (.astore 4, 2) := by decide +kernel
theorem d_L_walk_15 : decode cc_L_walk 15 = .ok (.iconst 1, 1) := by decide +kernel
theorem d_L_walk_16 : decode cc_L_walk 16 = .ok (.ireturn, 1) := by decide +kernel
theorem d_L_walk_17 : decode cc_L_walk 17 = .ok (.astore 4, 2) := by decide +kernel
theorem d_L_walk_19 : decode cc_L_walk 19 = .ok (.iconst 2, 1) := by decide +kernel
theorem d_L_walk_20 : decode cc_L_walk 20 = .ok (.ireturn, 1) := by decide +kernel
theorem d_L_walk_21 : decode cc_L_walk 21 = .ok (.iconst 0, 1) := by decide +kernel
theorem d_L_walk_22 : decode cc_L_walk 22 = .ok (.ireturn, 1) := by decide +kernel
theorem d_L_money_0 : decode cc_L_money 0 = .ok (.aload_n 3, 1) := by decide +kernel
theorem d_L_money_1 : decode cc_L_money 1 = .ok (.iconst 0, 1) := by decide +kernel
theorem d_L_money_2 : decode cc_L_money 2 = .ok (.aload_n 0, 1) := by decide +kernel
theorem d_L_money_3 : decode cc_L_money 3 = .ok (.iload_n 1, 1) := by decide +kernel
theorem d_L_money_4 : decode cc_L_money 4 = .ok (.iload_n 2, 1) := by decide +kernel
theorem d_L_money_5 : decode cc_L_money 5 = .ok (.invokevirtual 39, 3) := by decide +kernel
theorem d_L_money_8 : decode cc_L_money 8 = .ok (.i2l, 1) := by decide +kernel
theorem d_L_money_9 : decode cc_L_money 9 = .ok (.lastore, 1) := by decide +kernel
theorem d_L_money_10 : decode cc_L_money 10 = .ok (.goto 11, 3) := by decide +kernel
theorem d_L_money_13 : decode cc_L_money 13 = .ok (.astore 4, 2) := by decide +kernel
theorem d_L_money_15 : decode cc_L_money 15 = .ok (.iconst 1, 1) := by decide +kernel
theorem d_L_money_16 : decode cc_L_money 16 = .ok (.ireturn, 1) := by decide +kernel
theorem d_L_money_17 : decode cc_L_money 17 = .ok (.astore 4, 2) := by decide +kernel
theorem d_L_money_19 : decode cc_L_money 19 = .ok (.iconst 2, 1) := by decide +kernel
theorem d_L_money_20 : decode cc_L_money 20 = .ok (.ireturn, 1) := by decide +kernel
theorem d_L_money_21 : decode cc_L_money 21 = .ok (.iconst 0, 1) := by decide +kernel
theorem d_L_money_22 : decode cc_L_money 22 = .ok (.ireturn, 1) := by decide +kernel
theorem d_L_needs_0 : decode cc_L_needs 0 = .ok (.aload_n 2, 1) := by decide +kernel
theorem d_L_needs_1 : decode cc_L_needs 1 = .ok (.iconst 0, 1) := by decide +kernel
theorem d_L_needs_2 : decode cc_L_needs 2 = .ok (.aload_n 0, 1) := by decide +kernel
theorem d_L_needs_3 : decode cc_L_needs 3 = .ok (.iload_n 1, 1) := by decide +kernel
theorem d_L_needs_4 : decode cc_L_needs 4 = .ok (.invokevirtual 42, 3) := by decide +kernel
theorem d_L_needs_7 : decode cc_L_needs 7 = .ok (.i2l, 1) := by decide +kernel
theorem d_L_needs_8 : decode cc_L_needs 8 = .ok (.lastore, 1) := by decide +kernel
theorem d_L_needs_9 : decode cc_L_needs 9 = .ok (.goto 6, 3) := by decide +kernel
theorem d_L_needs_12 : decode cc_L_needs 12 = .ok (.astore_n 3, 1) := by decide +kernel
theorem d_L_needs_13 : decode cc_L_needs 13 = .ok (.iconst 1, 1) := by decide +kernel
theorem d_L_needs_14 : decode cc_L_needs 14 = .ok (.ireturn, 1) := by decide +kernel
theorem d_L_needs_15 : decode cc_L_needs 15 = .ok (.iconst 0, 1) := by decide +kernel
theorem d_L_needs_16 : decode cc_L_needs 16 = .ok (.ireturn, 1) := by decide +kernel
theorem d_L_explained_0 : decode cc_L_explained 0 = .ok (.aload_n 2, 1) := by decide +kernel
theorem d_L_explained_1 : decode cc_L_explained 1 = .ok (.iconst 0, 1) := by decide +kernel
theorem d_L_explained_2 : decode cc_L_explained 2 = .ok (.aload_n 0, 1) := by decide +kernel
theorem d_L_explained_3 : decode cc_L_explained 3 = .ok (.iload_n 1, 1) := by decide +kernel
theorem d_L_explained_4 : decode cc_L_explained 4 = .ok (.invokevirtual 45, 3) := by decide +kernel
theorem d_L_explained_7 : decode cc_L_explained 7 = .ok (.i2l, 1) := by decide +kernel
theorem d_L_explained_8 : decode cc_L_explained 8 = .ok (.lastore, 1) := by decide +kernel
theorem d_L_explained_9 : decode cc_L_explained 9 = .ok (.goto 6, 3) := by decide +kernel
theorem d_L_explained_12 : decode cc_L_explained 12 = .ok (.astore_n 3, 1) := by decide +kernel
theorem d_L_explained_13 : decode cc_L_explained 13 = .ok (.iconst 1, 1) := by decide +kernel
theorem d_L_explained_14 : decode cc_L_explained 14 = .ok (.ireturn, 1) := by decide +kernel
theorem d_L_explained_15 : decode cc_L_explained 15 = .ok (.iconst 0, 1) := by decide +kernel
theorem d_L_explained_16 : decode cc_L_explained 16 = .ok (.ireturn, 1) := by decide +kernel
theorem d_L_told_0 : decode cc_L_told 0 = .ok (.aload_n 3, 1) := by decide +kernel
theorem d_L_told_1 : decode cc_L_told 1 = .ok (.iconst 0, 1) := by decide +kernel
theorem d_L_told_2 : decode cc_L_told 2 = .ok (.aload_n 0, 1) := by decide +kernel
theorem d_L_told_3 : decode cc_L_told 3 = .ok (.iload_n 1, 1) := by decide +kernel
theorem d_L_told_4 : decode cc_L_told 4 = .ok (.iload_n 2, 1) := by decide +kernel
theorem d_L_told_5 : decode cc_L_told 5 = .ok (.invokevirtual 48, 3) := by decide +kernel
theorem d_L_told_8 : decode cc_L_told 8 = .ok (.i2l, 1) := by decide +kernel
theorem d_L_told_9 : decode cc_L_told 9 = .ok (.lastore, 1) := by decide +kernel
theorem d_L_told_10 : decode cc_L_told 10 = .ok (.goto 11, 3) := by decide +kernel
theorem d_L_told_13 : decode cc_L_told 13 = .ok (.astore 4, 2) := by decide +kernel
theorem d_L_told_15 : decode cc_L_told 15 = .ok (.iconst 1, 1) := by decide +kernel
theorem d_L_told_16 : decode cc_L_told 16 = .ok (.ireturn, 1) := by decide +kernel
theorem d_L_told_17 : decode cc_L_told 17 = .ok (.astore 4, 2) := by decide +kernel
theorem d_L_told_19 : decode cc_L_told 19 = .ok (.iconst 2, 1) := by decide +kernel
theorem d_L_told_20 : decode cc_L_told 20 = .ok (.ireturn, 1) := by decide +kernel
theorem d_L_told_21 : decode cc_L_told 21 = .ok (.iconst 0, 1) := by decide +kernel
theorem d_L_told_22 : decode cc_L_told 22 = .ok (.ireturn, 1) := by decide +kernel
theorem d_L_back_0 : decode cc_L_back 0 = .ok (.aload_n 0, 1) := by decide +kernel
theorem d_L_back_1 : decode cc_L_back 1 = .ok (.invokevirtual 51, 3) := by decide +kernel
theorem d_L_back_4 : decode cc_L_back 4 = .ok (.goto 6, 3) := by decide +kernel
theorem d_L_back_7 : decode cc_L_back 7 = .ok (.astore_n 1, 1) := by decide +kernel
theorem d_L_back_8 : decode cc_L_back 8 = .ok (.iconst 1, 1) := by decide +kernel
theorem d_L_back_9 : decode cc_L_back 9 = .ok (.ireturn, 1) := by decide +kernel
theorem d_L_back_10 : decode cc_L_back 10 = .ok (.iconst 0, 1) := by decide +kernel
theorem d_L_back_11 : decode cc_L_back 11 = .ok (.ireturn, 1) := by decide +kernel
theorem d_L_law_0 : decode code 0 = .ok (.new 8, 3) := by decide +kernel
theorem d_L_law_3 : decode code 3 = .ok (.dup, 1) := by decide +kernel
theorem d_L_law_4 : decode code 4 = .ok (.invokespecial 56, 3) := by decide +kernel
theorem d_L_law_7 : decode code 7 = .ok (.astore_n 1, 1) := by decide +kernel
theorem d_L_law_8 : decode code 8 = .ok (.new 57, 3) := by decide +kernel
theorem d_L_law_11 : decode code 11 = .ok (.dup, 1) := by decide +kernel
theorem d_L_law_12 : decode code 12 = .ok (.invokespecial 59, 3) := by decide +kernel
theorem d_L_law_15 : decode code 15 = .ok (.astore_n 2, 1) := by decide +kernel
theorem d_L_law_16 : decode code 16 = .ok (.iconst 1, 1) := by decide +kernel
theorem d_L_law_17 : decode code 17 = .ok (.newarray .long, 2) := by decide +kernel
theorem d_L_law_19 : decode code 19 = .ok (.astore_n 3, 1) := by decide +kernel
theorem d_L_law_20 : decode code 20 = .ok (.iconst 0, 1) := by decide +kernel
theorem d_L_law_21 : decode code 21 = .ok (.istore 4, 2) := by decide +kernel
theorem d_L_law_23 : decode code 23 = .ok (.iload 4, 2) := by decide +kernel
theorem d_L_law_25 : decode code 25 = .ok (.aload_n 0, 1) := by decide +kernel
theorem d_L_law_26 : decode code 26 = .ok (.arraylength, 1) := by decide +kernel
theorem d_L_law_27 : decode code 27 = .ok (.iconst 5, 1) := by decide +kernel
theorem d_L_law_28 : decode code 28 = .ok (.isub, 1) := by decide +kernel
theorem d_L_law_29 : decode code 29 = .ok (.if_icmp .gt 866, 3) := by decide +kernel
theorem d_L_law_32 : decode code 32 = .ok (.aload_n 0, 1) := by decide +kernel
theorem d_L_law_33 : decode code 33 = .ok (.iload 4, 2) := by decide +kernel
theorem d_L_law_35 : decode code 35 = .ok (.iaload, 1) := by decide +kernel
theorem d_L_law_36 : decode code 36 = .ok (.bipush 15, 2) := by decide +kernel
theorem d_L_law_38 : decode code 38 = .ok (.iand, 1) := by decide +kernel
theorem d_L_law_39 : decode code 39 = .ok (.tableswitch 850 0 12 #[65, 157, 225, 293, 361, 417, 485, 553, 621, 677, 733, 801, 825], 65) := by decide +kernel
theorem d_L_law_104 : decode code 104 = .ok (.aload_n 1, 1) := by decide +kernel
theorem d_L_law_105 : decode code 105 = .ok (.aload_n 0, 1) := by decide +kernel
theorem d_L_law_106 : decode code 106 = .ok (.iload 4, 2) := by decide +kernel
theorem d_L_law_108 : decode code 108 = .ok (.iconst 1, 1) := by decide +kernel
theorem d_L_law_109 : decode code 109 = .ok (.iadd, 1) := by decide +kernel
theorem d_L_law_110 : decode code 110 = .ok (.iaload, 1) := by decide +kernel
theorem d_L_law_111 : decode code 111 = .ok (.aload_n 0, 1) := by decide +kernel
theorem d_L_law_112 : decode code 112 = .ok (.iload 4, 2) := by decide +kernel
theorem d_L_law_114 : decode code 114 = .ok (.iconst 2, 1) := by decide +kernel
theorem d_L_law_115 : decode code 115 = .ok (.iadd, 1) := by decide +kernel
theorem d_L_law_116 : decode code 116 = .ok (.iaload, 1) := by decide +kernel
theorem d_L_law_117 : decode code 117 = .ok (.aload_n 0, 1) := by decide +kernel
theorem d_L_law_118 : decode code 118 = .ok (.iload 4, 2) := by decide +kernel
theorem d_L_law_120 : decode code 120 = .ok (.iconst 3, 1) := by decide +kernel
theorem d_L_law_121 : decode code 121 = .ok (.iadd, 1) := by decide +kernel
theorem d_L_law_122 : decode code 122 = .ok (.iaload, 1) := by decide +kernel
theorem d_L_law_123 : decode code 123 = .ok (.aload_n 0, 1) := by decide +kernel
theorem d_L_law_124 : decode code 124 = .ok (.iload 4, 2) := by decide +kernel
theorem d_L_law_126 : decode code 126 = .ok (.iconst 4, 1) := by decide +kernel
theorem d_L_law_127 : decode code 127 = .ok (.iadd, 1) := by decide +kernel
theorem d_L_law_128 : decode code 128 = .ok (.iaload, 1) := by decide +kernel
theorem d_L_law_129 : decode code 129 = .ok (.aload_n 3, 1) := by decide +kernel
theorem d_L_law_130 : decode code 130 = .ok (.invokestatic 60, 3) := by decide +kernel
theorem d_L_law_133 : decode code 133 = .ok (.istore 5, 2) := by decide +kernel
theorem d_L_law_135 : decode code 135 = .ok (.aload_n 2, 1) := by decide +kernel
theorem d_L_law_136 : decode code 136 = .ok (.aload_n 0, 1) := by decide +kernel
theorem d_L_law_137 : decode code 137 = .ok (.iload 4, 2) := by decide +kernel
theorem d_L_law_139 : decode code 139 = .ok (.iconst 1, 1) := by decide +kernel
theorem d_L_law_140 : decode code 140 = .ok (.iadd, 1) := by decide +kernel
theorem d_L_law_141 : decode code 141 = .ok (.iaload, 1) := by decide +kernel
theorem d_L_law_142 : decode code 142 = .ok (.aload_n 0, 1) := by decide +kernel
theorem d_L_law_143 : decode code 143 = .ok (.iload 4, 2) := by decide +kernel
theorem d_L_law_145 : decode code 145 = .ok (.iconst 2, 1) := by decide +kernel
theorem d_L_law_146 : decode code 146 = .ok (.iadd, 1) := by decide +kernel
theorem d_L_law_147 : decode code 147 = .ok (.iaload, 1) := by decide +kernel
theorem d_L_law_148 : decode code 148 = .ok (.aload_n 0, 1) := by decide +kernel
theorem d_L_law_149 : decode code 149 = .ok (.iload 4, 2) := by decide +kernel
theorem d_L_law_151 : decode code 151 = .ok (.iconst 3, 1) := by decide +kernel
theorem d_L_law_152 : decode code 152 = .ok (.iadd, 1) := by decide +kernel
theorem d_L_law_153 : decode code 153 = .ok (.iaload, 1) := by decide +kernel
theorem d_L_law_154 : decode code 154 = .ok (.aload_n 0, 1) := by decide +kernel
theorem d_L_law_155 : decode code 155 = .ok (.iload 4, 2) := by decide +kernel
theorem d_L_law_157 : decode code 157 = .ok (.iconst 4, 1) := by decide +kernel
theorem d_L_law_158 : decode code 158 = .ok (.iadd, 1) := by decide +kernel
theorem d_L_law_159 : decode code 159 = .ok (.iaload, 1) := by decide +kernel
theorem d_L_law_160 : decode code 160 = .ok (.invokevirtual 65, 3) := by decide +kernel
theorem d_L_law_163 : decode code 163 = .ok (.istore 6, 2) := by decide +kernel
theorem d_L_law_165 : decode code 165 = .ok (.aload_n 2, 1) := by decide +kernel
theorem d_L_law_166 : decode code 166 = .ok (.invokevirtual 66, 3) := by decide +kernel
theorem d_L_law_169 : decode code 169 = .ok (.iload 5, 2) := by decide +kernel
theorem d_L_law_171 : decode code 171 = .ok (.if_icmp .eq 5, 3) := by decide +kernel
theorem d_L_law_174 : decode code 174 = .ok (.iconst 0, 1) := by decide +kernel
theorem d_L_law_175 : decode code 175 = .ok (.ireturn, 1) := by decide +kernel
theorem d_L_law_176 : decode code 176 = .ok (.iload 5, 2) := by decide +kernel
theorem d_L_law_178 : decode code 178 = .ok (.ifCond .ne 15, 3) := by decide +kernel
theorem d_L_law_181 : decode code 181 = .ok (.aload_n 3, 1) := by decide +kernel
theorem d_L_law_182 : decode code 182 = .ok (.iconst 0, 1) := by decide +kernel
theorem d_L_law_183 : decode code 183 = .ok (.laload, 1) := by decide +kernel
theorem d_L_law_184 : decode code 184 = .ok (.iload 6, 2) := by decide +kernel
theorem d_L_law_186 : decode code 186 = .ok (.i2l, 1) := by decide +kernel
theorem d_L_law_187 : decode code 187 = .ok (.lcmp, 1) := by decide +kernel
theorem d_L_law_188 : decode code 188 = .ok (.ifCond .eq 5, 3) := by decide +kernel
theorem d_L_law_191 : decode code 191 = .ok (.iconst 0, 1) := by decide +kernel
theorem d_L_law_192 : decode code 192 = .ok (.ireturn, 1) := by decide +kernel
theorem d_L_law_193 : decode code 193 = .ok (.goto 696, 3) := by decide +kernel
theorem d_L_law_196 : decode code 196 = .ok (.aload_n 1, 1) := by decide +kernel
theorem d_L_law_197 : decode code 197 = .ok (.aload_n 0, 1) := by decide +kernel
theorem d_L_law_198 : decode code 198 = .ok (.iload 4, 2) := by decide +kernel
theorem d_L_law_200 : decode code 200 = .ok (.iconst 1, 1) := by decide +kernel
theorem d_L_law_201 : decode code 201 = .ok (.iadd, 1) := by decide +kernel
theorem d_L_law_202 : decode code 202 = .ok (.iaload, 1) := by decide +kernel
theorem d_L_law_203 : decode code 203 = .ok (.aload_n 0, 1) := by decide +kernel
theorem d_L_law_204 : decode code 204 = .ok (.iload 4, 2) := by decide +kernel
theorem d_L_law_206 : decode code 206 = .ok (.iconst 2, 1) := by decide +kernel
theorem d_L_law_207 : decode code 207 = .ok (.iadd, 1) := by decide +kernel
theorem d_L_law_208 : decode code 208 = .ok (.iaload, 1) := by decide +kernel
theorem d_L_law_209 : decode code 209 = .ok (.aload_n 3, 1) := by decide +kernel
theorem d_L_law_210 : decode code 210 = .ok (.invokestatic 70, 3) := by decide +kernel
theorem d_L_law_213 : decode code 213 = .ok (.istore 5, 2) := by decide +kernel
theorem d_L_law_215 : decode code 215 = .ok (.aload_n 2, 1) := by decide +kernel
theorem d_L_law_216 : decode code 216 = .ok (.aload_n 0, 1) := by decide +kernel
theorem d_L_law_217 : decode code 217 = .ok (.iload 4, 2) := by decide +kernel
theorem d_L_law_219 : decode code 219 = .ok (.iconst 1, 1) := by decide +kernel
theorem d_L_law_220 : decode code 220 = .ok (.iadd, 1) := by decide +kernel
theorem d_L_law_221 : decode code 221 = .ok (.iaload, 1) := by decide +kernel
theorem d_L_law_222 : decode code 222 = .ok (.aload_n 0, 1) := by decide +kernel
theorem d_L_law_223 : decode code 223 = .ok (.iload 4, 2) := by decide +kernel
theorem d_L_law_225 : decode code 225 = .ok (.iconst 2, 1) := by decide +kernel
theorem d_L_law_226 : decode code 226 = .ok (.iadd, 1) := by decide +kernel
theorem d_L_law_227 : decode code 227 = .ok (.iaload, 1) := by decide +kernel
theorem d_L_law_228 : decode code 228 = .ok (.invokevirtual 73, 3) := by decide +kernel
theorem d_L_law_231 : decode code 231 = .ok (.istore 6, 2) := by decide +kernel
theorem d_L_law_233 : decode code 233 = .ok (.aload_n 2, 1) := by decide +kernel
theorem d_L_law_234 : decode code 234 = .ok (.invokevirtual 66, 3) := by decide +kernel
theorem d_L_law_237 : decode code 237 = .ok (.iload 5, 2) := by decide +kernel
theorem d_L_law_239 : decode code 239 = .ok (.if_icmp .eq 5, 3) := by decide +kernel
theorem d_L_law_242 : decode code 242 = .ok (.iconst 0, 1) := by decide +kernel
theorem d_L_law_243 : decode code 243 = .ok (.ireturn, 1) := by decide +kernel
theorem d_L_law_244 : decode code 244 = .ok (.iload 5, 2) := by decide +kernel
theorem d_L_law_246 : decode code 246 = .ok (.ifCond .ne 15, 3) := by decide +kernel
theorem d_L_law_249 : decode code 249 = .ok (.aload_n 3, 1) := by decide +kernel
theorem d_L_law_250 : decode code 250 = .ok (.iconst 0, 1) := by decide +kernel
theorem d_L_law_251 : decode code 251 = .ok (.laload, 1) := by decide +kernel
theorem d_L_law_252 : decode code 252 = .ok (.iload 6, 2) := by decide +kernel
theorem d_L_law_254 : decode code 254 = .ok (.i2l, 1) := by decide +kernel
theorem d_L_law_255 : decode code 255 = .ok (.lcmp, 1) := by decide +kernel
theorem d_L_law_256 : decode code 256 = .ok (.ifCond .eq 5, 3) := by decide +kernel
theorem d_L_law_259 : decode code 259 = .ok (.iconst 0, 1) := by decide +kernel
theorem d_L_law_260 : decode code 260 = .ok (.ireturn, 1) := by decide +kernel
theorem d_L_law_261 : decode code 261 = .ok (.goto 628, 3) := by decide +kernel
theorem d_L_law_264 : decode code 264 = .ok (.aload_n 1, 1) := by decide +kernel
theorem d_L_law_265 : decode code 265 = .ok (.aload_n 0, 1) := by decide +kernel
theorem d_L_law_266 : decode code 266 = .ok (.iload 4, 2) := by decide +kernel
theorem d_L_law_268 : decode code 268 = .ok (.iconst 1, 1) := by decide +kernel
theorem d_L_law_269 : decode code 269 = .ok (.iadd, 1) := by decide +kernel
theorem d_L_law_270 : decode code 270 = .ok (.iaload, 1) := by decide +kernel
theorem d_L_law_271 : decode code 271 = .ok (.aload_n 0, 1) := by decide +kernel
theorem d_L_law_272 : decode code 272 = .ok (.iload 4, 2) := by decide +kernel
theorem d_L_law_274 : decode code 274 = .ok (.iconst 2, 1) := by decide +kernel
theorem d_L_law_275 : decode code 275 = .ok (.iadd, 1) := by decide +kernel
theorem d_L_law_276 : decode code 276 = .ok (.iaload, 1) := by decide +kernel
theorem d_L_law_277 : decode code 277 = .ok (.aload_n 3, 1) := by decide +kernel
theorem d_L_law_278 : decode code 278 = .ok (.invokestatic 74, 3) := by decide +kernel
theorem d_L_law_281 : decode code 281 = .ok (.istore 5, 2) := by decide +kernel
theorem d_L_law_283 : decode code 283 = .ok (.aload_n 2, 1) := by decide +kernel
theorem d_L_law_284 : decode code 284 = .ok (.aload_n 0, 1) := by decide +kernel
theorem d_L_law_285 : decode code 285 = .ok (.iload 4, 2) := by decide +kernel
theorem d_L_law_287 : decode code 287 = .ok (.iconst 1, 1) := by decide +kernel
theorem d_L_law_288 : decode code 288 = .ok (.iadd, 1) := by decide +kernel
theorem d_L_law_289 : decode code 289 = .ok (.iaload, 1) := by decide +kernel
theorem d_L_law_290 : decode code 290 = .ok (.aload_n 0, 1) := by decide +kernel
theorem d_L_law_291 : decode code 291 = .ok (.iload 4, 2) := by decide +kernel
theorem d_L_law_293 : decode code 293 = .ok (.iconst 2, 1) := by decide +kernel
theorem d_L_law_294 : decode code 294 = .ok (.iadd, 1) := by decide +kernel
theorem d_L_law_295 : decode code 295 = .ok (.iaload, 1) := by decide +kernel
theorem d_L_law_296 : decode code 296 = .ok (.invokevirtual 76, 3) := by decide +kernel
theorem d_L_law_299 : decode code 299 = .ok (.istore 6, 2) := by decide +kernel
theorem d_L_law_301 : decode code 301 = .ok (.aload_n 2, 1) := by decide +kernel
theorem d_L_law_302 : decode code 302 = .ok (.invokevirtual 66, 3) := by decide +kernel
theorem d_L_law_305 : decode code 305 = .ok (.iload 5, 2) := by decide +kernel
theorem d_L_law_307 : decode code 307 = .ok (.if_icmp .eq 5, 3) := by decide +kernel
theorem d_L_law_310 : decode code 310 = .ok (.iconst 0, 1) := by decide +kernel
theorem d_L_law_311 : decode code 311 = .ok (.ireturn, 1) := by decide +kernel
theorem d_L_law_312 : decode code 312 = .ok (.iload 5, 2) := by decide +kernel
theorem d_L_law_314 : decode code 314 = .ok (.ifCond .ne 15, 3) := by decide +kernel
theorem d_L_law_317 : decode code 317 = .ok (.aload_n 3, 1) := by decide +kernel
theorem d_L_law_318 : decode code 318 = .ok (.iconst 0, 1) := by decide +kernel
theorem d_L_law_319 : decode code 319 = .ok (.laload, 1) := by decide +kernel
theorem d_L_law_320 : decode code 320 = .ok (.iload 6, 2) := by decide +kernel
theorem d_L_law_322 : decode code 322 = .ok (.i2l, 1) := by decide +kernel
theorem d_L_law_323 : decode code 323 = .ok (.lcmp, 1) := by decide +kernel
theorem d_L_law_324 : decode code 324 = .ok (.ifCond .eq 5, 3) := by decide +kernel
theorem d_L_law_327 : decode code 327 = .ok (.iconst 0, 1) := by decide +kernel
theorem d_L_law_328 : decode code 328 = .ok (.ireturn, 1) := by decide +kernel
theorem d_L_law_329 : decode code 329 = .ok (.goto 560, 3) := by decide +kernel
theorem d_L_law_332 : decode code 332 = .ok (.aload_n 1, 1) := by decide +kernel
theorem d_L_law_333 : decode code 333 = .ok (.aload_n 0, 1) := by decide +kernel
theorem d_L_law_334 : decode code 334 = .ok (.iload 4, 2) := by decide +kernel
theorem d_L_law_336 : decode code 336 = .ok (.iconst 1, 1) := by decide +kernel
theorem d_L_law_337 : decode code 337 = .ok (.iadd, 1) := by decide +kernel
theorem d_L_law_338 : decode code 338 = .ok (.iaload, 1) := by decide +kernel
theorem d_L_law_339 : decode code 339 = .ok (.aload_n 0, 1) := by decide +kernel
theorem d_L_law_340 : decode code 340 = .ok (.iload 4, 2) := by decide +kernel
theorem d_L_law_342 : decode code 342 = .ok (.iconst 2, 1) := by decide +kernel
theorem d_L_law_343 : decode code 343 = .ok (.iadd, 1) := by decide +kernel
theorem d_L_law_344 : decode code 344 = .ok (.iaload, 1) := by decide +kernel
theorem d_L_law_345 : decode code 345 = .ok (.aload_n 3, 1) := by decide +kernel
theorem d_L_law_346 : decode code 346 = .ok (.invokestatic 77, 3) := by decide +kernel
theorem d_L_law_349 : decode code 349 = .ok (.istore 5, 2) := by decide +kernel
theorem d_L_law_351 : decode code 351 = .ok (.aload_n 2, 1) := by decide +kernel
theorem d_L_law_352 : decode code 352 = .ok (.aload_n 0, 1) := by decide +kernel
theorem d_L_law_353 : decode code 353 = .ok (.iload 4, 2) := by decide +kernel
theorem d_L_law_355 : decode code 355 = .ok (.iconst 1, 1) := by decide +kernel
theorem d_L_law_356 : decode code 356 = .ok (.iadd, 1) := by decide +kernel
theorem d_L_law_357 : decode code 357 = .ok (.iaload, 1) := by decide +kernel
theorem d_L_law_358 : decode code 358 = .ok (.aload_n 0, 1) := by decide +kernel
theorem d_L_law_359 : decode code 359 = .ok (.iload 4, 2) := by decide +kernel
theorem d_L_law_361 : decode code 361 = .ok (.iconst 2, 1) := by decide +kernel
theorem d_L_law_362 : decode code 362 = .ok (.iadd, 1) := by decide +kernel
theorem d_L_law_363 : decode code 363 = .ok (.iaload, 1) := by decide +kernel
theorem d_L_law_364 : decode code 364 = .ok (.invokevirtual 79, 3) := by decide +kernel
theorem d_L_law_367 : decode code 367 = .ok (.istore 6, 2) := by decide +kernel
theorem d_L_law_369 : decode code 369 = .ok (.aload_n 2, 1) := by decide +kernel
theorem d_L_law_370 : decode code 370 = .ok (.invokevirtual 66, 3) := by decide +kernel
theorem d_L_law_373 : decode code 373 = .ok (.iload 5, 2) := by decide +kernel
theorem d_L_law_375 : decode code 375 = .ok (.if_icmp .eq 5, 3) := by decide +kernel
theorem d_L_law_378 : decode code 378 = .ok (.iconst 0, 1) := by decide +kernel
theorem d_L_law_379 : decode code 379 = .ok (.ireturn, 1) := by decide +kernel
theorem d_L_law_380 : decode code 380 = .ok (.iload 5, 2) := by decide +kernel
theorem d_L_law_382 : decode code 382 = .ok (.ifCond .ne 15, 3) := by decide +kernel
theorem d_L_law_385 : decode code 385 = .ok (.aload_n 3, 1) := by decide +kernel
theorem d_L_law_386 : decode code 386 = .ok (.iconst 0, 1) := by decide +kernel
theorem d_L_law_387 : decode code 387 = .ok (.laload, 1) := by decide +kernel
theorem d_L_law_388 : decode code 388 = .ok (.iload 6, 2) := by decide +kernel
theorem d_L_law_390 : decode code 390 = .ok (.i2l, 1) := by decide +kernel
theorem d_L_law_391 : decode code 391 = .ok (.lcmp, 1) := by decide +kernel
theorem d_L_law_392 : decode code 392 = .ok (.ifCond .eq 5, 3) := by decide +kernel
theorem d_L_law_395 : decode code 395 = .ok (.iconst 0, 1) := by decide +kernel
theorem d_L_law_396 : decode code 396 = .ok (.ireturn, 1) := by decide +kernel
theorem d_L_law_397 : decode code 397 = .ok (.goto 492, 3) := by decide +kernel
theorem d_L_law_400 : decode code 400 = .ok (.aload_n 1, 1) := by decide +kernel
theorem d_L_law_401 : decode code 401 = .ok (.aload_n 0, 1) := by decide +kernel
theorem d_L_law_402 : decode code 402 = .ok (.iload 4, 2) := by decide +kernel
theorem d_L_law_404 : decode code 404 = .ok (.iconst 1, 1) := by decide +kernel
theorem d_L_law_405 : decode code 405 = .ok (.iadd, 1) := by decide +kernel
theorem d_L_law_406 : decode code 406 = .ok (.iaload, 1) := by decide +kernel
theorem d_L_law_407 : decode code 407 = .ok (.aload_n 3, 1) := by decide +kernel
theorem d_L_law_408 : decode code 408 = .ok (.invokestatic 80, 3) := by decide +kernel
theorem d_L_law_411 : decode code 411 = .ok (.istore 5, 2) := by decide +kernel
theorem d_L_law_413 : decode code 413 = .ok (.aload_n 2, 1) := by decide +kernel
theorem d_L_law_414 : decode code 414 = .ok (.aload_n 0, 1) := by decide +kernel
theorem d_L_law_415 : decode code 415 = .ok (.iload 4, 2) := by decide +kernel
theorem d_L_law_417 : decode code 417 = .ok (.iconst 1, 1) := by decide +kernel
theorem d_L_law_418 : decode code 418 = .ok (.iadd, 1) := by decide +kernel
theorem d_L_law_419 : decode code 419 = .ok (.iaload, 1) := by decide +kernel
theorem d_L_law_420 : decode code 420 = .ok (.invokevirtual 83, 3) := by decide +kernel
theorem d_L_law_423 : decode code 423 = .ok (.istore 6, 2) := by decide +kernel
theorem d_L_law_425 : decode code 425 = .ok (.aload_n 2, 1) := by decide +kernel
theorem d_L_law_426 : decode code 426 = .ok (.invokevirtual 66, 3) := by decide +kernel
theorem d_L_law_429 : decode code 429 = .ok (.iload 5, 2) := by decide +kernel
theorem d_L_law_431 : decode code 431 = .ok (.if_icmp .eq 5, 3) := by decide +kernel
theorem d_L_law_434 : decode code 434 = .ok (.iconst 0, 1) := by decide +kernel
theorem d_L_law_435 : decode code 435 = .ok (.ireturn, 1) := by decide +kernel
theorem d_L_law_436 : decode code 436 = .ok (.iload 5, 2) := by decide +kernel
theorem d_L_law_438 : decode code 438 = .ok (.ifCond .ne 15, 3) := by decide +kernel
theorem d_L_law_441 : decode code 441 = .ok (.aload_n 3, 1) := by decide +kernel
theorem d_L_law_442 : decode code 442 = .ok (.iconst 0, 1) := by decide +kernel
theorem d_L_law_443 : decode code 443 = .ok (.laload, 1) := by decide +kernel
theorem d_L_law_444 : decode code 444 = .ok (.iload 6, 2) := by decide +kernel
theorem d_L_law_446 : decode code 446 = .ok (.i2l, 1) := by decide +kernel
theorem d_L_law_447 : decode code 447 = .ok (.lcmp, 1) := by decide +kernel
theorem d_L_law_448 : decode code 448 = .ok (.ifCond .eq 5, 3) := by decide +kernel
theorem d_L_law_451 : decode code 451 = .ok (.iconst 0, 1) := by decide +kernel
theorem d_L_law_452 : decode code 452 = .ok (.ireturn, 1) := by decide +kernel
theorem d_L_law_453 : decode code 453 = .ok (.goto 436, 3) := by decide +kernel
theorem d_L_law_456 : decode code 456 = .ok (.aload_n 1, 1) := by decide +kernel
theorem d_L_law_457 : decode code 457 = .ok (.aload_n 0, 1) := by decide +kernel
theorem d_L_law_458 : decode code 458 = .ok (.iload 4, 2) := by decide +kernel
theorem d_L_law_460 : decode code 460 = .ok (.iconst 1, 1) := by decide +kernel
theorem d_L_law_461 : decode code 461 = .ok (.iadd, 1) := by decide +kernel
theorem d_L_law_462 : decode code 462 = .ok (.iaload, 1) := by decide +kernel
theorem d_L_law_463 : decode code 463 = .ok (.aload_n 0, 1) := by decide +kernel
theorem d_L_law_464 : decode code 464 = .ok (.iload 4, 2) := by decide +kernel
theorem d_L_law_466 : decode code 466 = .ok (.iconst 2, 1) := by decide +kernel
theorem d_L_law_467 : decode code 467 = .ok (.iadd, 1) := by decide +kernel
theorem d_L_law_468 : decode code 468 = .ok (.iaload, 1) := by decide +kernel
theorem d_L_law_469 : decode code 469 = .ok (.aload_n 3, 1) := by decide +kernel
theorem d_L_law_470 : decode code 470 = .ok (.invokestatic 84, 3) := by decide +kernel
theorem d_L_law_473 : decode code 473 = .ok (.istore 5, 2) := by decide +kernel
theorem d_L_law_475 : decode code 475 = .ok (.aload_n 2, 1) := by decide +kernel
theorem d_L_law_476 : decode code 476 = .ok (.aload_n 0, 1) := by decide +kernel
theorem d_L_law_477 : decode code 477 = .ok (.iload 4, 2) := by decide +kernel
theorem d_L_law_479 : decode code 479 = .ok (.iconst 1, 1) := by decide +kernel
theorem d_L_law_480 : decode code 480 = .ok (.iadd, 1) := by decide +kernel
theorem d_L_law_481 : decode code 481 = .ok (.iaload, 1) := by decide +kernel
theorem d_L_law_482 : decode code 482 = .ok (.aload_n 0, 1) := by decide +kernel
theorem d_L_law_483 : decode code 483 = .ok (.iload 4, 2) := by decide +kernel
theorem d_L_law_485 : decode code 485 = .ok (.iconst 2, 1) := by decide +kernel
theorem d_L_law_486 : decode code 486 = .ok (.iadd, 1) := by decide +kernel
theorem d_L_law_487 : decode code 487 = .ok (.iaload, 1) := by decide +kernel
theorem d_L_law_488 : decode code 488 = .ok (.invokevirtual 86, 3) := by decide +kernel
theorem d_L_law_491 : decode code 491 = .ok (.istore 6, 2) := by decide +kernel
theorem d_L_law_493 : decode code 493 = .ok (.aload_n 2, 1) := by decide +kernel
theorem d_L_law_494 : decode code 494 = .ok (.invokevirtual 66, 3) := by decide +kernel
theorem d_L_law_497 : decode code 497 = .ok (.iload 5, 2) := by decide +kernel
theorem d_L_law_499 : decode code 499 = .ok (.if_icmp .eq 5, 3) := by decide +kernel
theorem d_L_law_502 : decode code 502 = .ok (.iconst 0, 1) := by decide +kernel
theorem d_L_law_503 : decode code 503 = .ok (.ireturn, 1) := by decide +kernel
theorem d_L_law_504 : decode code 504 = .ok (.iload 5, 2) := by decide +kernel
theorem d_L_law_506 : decode code 506 = .ok (.ifCond .ne 15, 3) := by decide +kernel
theorem d_L_law_509 : decode code 509 = .ok (.aload_n 3, 1) := by decide +kernel
theorem d_L_law_510 : decode code 510 = .ok (.iconst 0, 1) := by decide +kernel
theorem d_L_law_511 : decode code 511 = .ok (.laload, 1) := by decide +kernel
theorem d_L_law_512 : decode code 512 = .ok (.iload 6, 2) := by decide +kernel
theorem d_L_law_514 : decode code 514 = .ok (.i2l, 1) := by decide +kernel
theorem d_L_law_515 : decode code 515 = .ok (.lcmp, 1) := by decide +kernel
theorem d_L_law_516 : decode code 516 = .ok (.ifCond .eq 5, 3) := by decide +kernel
theorem d_L_law_519 : decode code 519 = .ok (.iconst 0, 1) := by decide +kernel
theorem d_L_law_520 : decode code 520 = .ok (.ireturn, 1) := by decide +kernel
theorem d_L_law_521 : decode code 521 = .ok (.goto 368, 3) := by decide +kernel
theorem d_L_law_524 : decode code 524 = .ok (.aload_n 1, 1) := by decide +kernel
theorem d_L_law_525 : decode code 525 = .ok (.aload_n 0, 1) := by decide +kernel
theorem d_L_law_526 : decode code 526 = .ok (.iload 4, 2) := by decide +kernel
theorem d_L_law_528 : decode code 528 = .ok (.iconst 1, 1) := by decide +kernel
theorem d_L_law_529 : decode code 529 = .ok (.iadd, 1) := by decide +kernel
theorem d_L_law_530 : decode code 530 = .ok (.iaload, 1) := by decide +kernel
theorem d_L_law_531 : decode code 531 = .ok (.aload_n 0, 1) := by decide +kernel
theorem d_L_law_532 : decode code 532 = .ok (.iload 4, 2) := by decide +kernel
theorem d_L_law_534 : decode code 534 = .ok (.iconst 2, 1) := by decide +kernel
theorem d_L_law_535 : decode code 535 = .ok (.iadd, 1) := by decide +kernel
theorem d_L_law_536 : decode code 536 = .ok (.iaload, 1) := by decide +kernel
theorem d_L_law_537 : decode code 537 = .ok (.aload_n 3, 1) := by decide +kernel
theorem d_L_law_538 : decode code 538 = .ok (.invokestatic 87, 3) := by decide +kernel
theorem d_L_law_541 : decode code 541 = .ok (.istore 5, 2) := by decide +kernel
theorem d_L_law_543 : decode code 543 = .ok (.aload_n 2, 1) := by decide +kernel
theorem d_L_law_544 : decode code 544 = .ok (.aload_n 0, 1) := by decide +kernel
theorem d_L_law_545 : decode code 545 = .ok (.iload 4, 2) := by decide +kernel
theorem d_L_law_547 : decode code 547 = .ok (.iconst 1, 1) := by decide +kernel
theorem d_L_law_548 : decode code 548 = .ok (.iadd, 1) := by decide +kernel
theorem d_L_law_549 : decode code 549 = .ok (.iaload, 1) := by decide +kernel
theorem d_L_law_550 : decode code 550 = .ok (.aload_n 0, 1) := by decide +kernel
theorem d_L_law_551 : decode code 551 = .ok (.iload 4, 2) := by decide +kernel
theorem d_L_law_553 : decode code 553 = .ok (.iconst 2, 1) := by decide +kernel
theorem d_L_law_554 : decode code 554 = .ok (.iadd, 1) := by decide +kernel
theorem d_L_law_555 : decode code 555 = .ok (.iaload, 1) := by decide +kernel
theorem d_L_law_556 : decode code 556 = .ok (.invokevirtual 89, 3) := by decide +kernel
theorem d_L_law_559 : decode code 559 = .ok (.istore 6, 2) := by decide +kernel
theorem d_L_law_561 : decode code 561 = .ok (.aload_n 2, 1) := by decide +kernel
theorem d_L_law_562 : decode code 562 = .ok (.invokevirtual 66, 3) := by decide +kernel
theorem d_L_law_565 : decode code 565 = .ok (.iload 5, 2) := by decide +kernel
theorem d_L_law_567 : decode code 567 = .ok (.if_icmp .eq 5, 3) := by decide +kernel
theorem d_L_law_570 : decode code 570 = .ok (.iconst 0, 1) := by decide +kernel
theorem d_L_law_571 : decode code 571 = .ok (.ireturn, 1) := by decide +kernel
theorem d_L_law_572 : decode code 572 = .ok (.iload 5, 2) := by decide +kernel
theorem d_L_law_574 : decode code 574 = .ok (.ifCond .ne 15, 3) := by decide +kernel
theorem d_L_law_577 : decode code 577 = .ok (.aload_n 3, 1) := by decide +kernel
theorem d_L_law_578 : decode code 578 = .ok (.iconst 0, 1) := by decide +kernel
theorem d_L_law_579 : decode code 579 = .ok (.laload, 1) := by decide +kernel
theorem d_L_law_580 : decode code 580 = .ok (.iload 6, 2) := by decide +kernel
theorem d_L_law_582 : decode code 582 = .ok (.i2l, 1) := by decide +kernel
theorem d_L_law_583 : decode code 583 = .ok (.lcmp, 1) := by decide +kernel
theorem d_L_law_584 : decode code 584 = .ok (.ifCond .eq 5, 3) := by decide +kernel
theorem d_L_law_587 : decode code 587 = .ok (.iconst 0, 1) := by decide +kernel
theorem d_L_law_588 : decode code 588 = .ok (.ireturn, 1) := by decide +kernel
theorem d_L_law_589 : decode code 589 = .ok (.goto 300, 3) := by decide +kernel
theorem d_L_law_592 : decode code 592 = .ok (.aload_n 1, 1) := by decide +kernel
theorem d_L_law_593 : decode code 593 = .ok (.aload_n 0, 1) := by decide +kernel
theorem d_L_law_594 : decode code 594 = .ok (.iload 4, 2) := by decide +kernel
theorem d_L_law_596 : decode code 596 = .ok (.iconst 1, 1) := by decide +kernel
theorem d_L_law_597 : decode code 597 = .ok (.iadd, 1) := by decide +kernel
theorem d_L_law_598 : decode code 598 = .ok (.iaload, 1) := by decide +kernel
theorem d_L_law_599 : decode code 599 = .ok (.aload_n 0, 1) := by decide +kernel
theorem d_L_law_600 : decode code 600 = .ok (.iload 4, 2) := by decide +kernel
theorem d_L_law_602 : decode code 602 = .ok (.iconst 2, 1) := by decide +kernel
theorem d_L_law_603 : decode code 603 = .ok (.iadd, 1) := by decide +kernel
theorem d_L_law_604 : decode code 604 = .ok (.iaload, 1) := by decide +kernel
theorem d_L_law_605 : decode code 605 = .ok (.aload_n 3, 1) := by decide +kernel
theorem d_L_law_606 : decode code 606 = .ok (.invokestatic 90, 3) := by decide +kernel
theorem d_L_law_609 : decode code 609 = .ok (.istore 5, 2) := by decide +kernel
theorem d_L_law_611 : decode code 611 = .ok (.aload_n 2, 1) := by decide +kernel
theorem d_L_law_612 : decode code 612 = .ok (.aload_n 0, 1) := by decide +kernel
theorem d_L_law_613 : decode code 613 = .ok (.iload 4, 2) := by decide +kernel
theorem d_L_law_615 : decode code 615 = .ok (.iconst 1, 1) := by decide +kernel
theorem d_L_law_616 : decode code 616 = .ok (.iadd, 1) := by decide +kernel
theorem d_L_law_617 : decode code 617 = .ok (.iaload, 1) := by decide +kernel
theorem d_L_law_618 : decode code 618 = .ok (.aload_n 0, 1) := by decide +kernel
theorem d_L_law_619 : decode code 619 = .ok (.iload 4, 2) := by decide +kernel
theorem d_L_law_621 : decode code 621 = .ok (.iconst 2, 1) := by decide +kernel
theorem d_L_law_622 : decode code 622 = .ok (.iadd, 1) := by decide +kernel
theorem d_L_law_623 : decode code 623 = .ok (.iaload, 1) := by decide +kernel
theorem d_L_law_624 : decode code 624 = .ok (.invokevirtual 92, 3) := by decide +kernel
theorem d_L_law_627 : decode code 627 = .ok (.istore 6, 2) := by decide +kernel
theorem d_L_law_629 : decode code 629 = .ok (.aload_n 2, 1) := by decide +kernel
theorem d_L_law_630 : decode code 630 = .ok (.invokevirtual 66, 3) := by decide +kernel
theorem d_L_law_633 : decode code 633 = .ok (.iload 5, 2) := by decide +kernel
theorem d_L_law_635 : decode code 635 = .ok (.if_icmp .eq 5, 3) := by decide +kernel
theorem d_L_law_638 : decode code 638 = .ok (.iconst 0, 1) := by decide +kernel
theorem d_L_law_639 : decode code 639 = .ok (.ireturn, 1) := by decide +kernel
theorem d_L_law_640 : decode code 640 = .ok (.iload 5, 2) := by decide +kernel
theorem d_L_law_642 : decode code 642 = .ok (.ifCond .ne 15, 3) := by decide +kernel
theorem d_L_law_645 : decode code 645 = .ok (.aload_n 3, 1) := by decide +kernel
theorem d_L_law_646 : decode code 646 = .ok (.iconst 0, 1) := by decide +kernel
theorem d_L_law_647 : decode code 647 = .ok (.laload, 1) := by decide +kernel
theorem d_L_law_648 : decode code 648 = .ok (.iload 6, 2) := by decide +kernel
theorem d_L_law_650 : decode code 650 = .ok (.i2l, 1) := by decide +kernel
theorem d_L_law_651 : decode code 651 = .ok (.lcmp, 1) := by decide +kernel
theorem d_L_law_652 : decode code 652 = .ok (.ifCond .eq 5, 3) := by decide +kernel
theorem d_L_law_655 : decode code 655 = .ok (.iconst 0, 1) := by decide +kernel
theorem d_L_law_656 : decode code 656 = .ok (.ireturn, 1) := by decide +kernel
theorem d_L_law_657 : decode code 657 = .ok (.goto 232, 3) := by decide +kernel
theorem d_L_law_660 : decode code 660 = .ok (.aload_n 1, 1) := by decide +kernel
theorem d_L_law_661 : decode code 661 = .ok (.aload_n 0, 1) := by decide +kernel
theorem d_L_law_662 : decode code 662 = .ok (.iload 4, 2) := by decide +kernel
theorem d_L_law_664 : decode code 664 = .ok (.iconst 1, 1) := by decide +kernel
theorem d_L_law_665 : decode code 665 = .ok (.iadd, 1) := by decide +kernel
theorem d_L_law_666 : decode code 666 = .ok (.iaload, 1) := by decide +kernel
theorem d_L_law_667 : decode code 667 = .ok (.aload_n 3, 1) := by decide +kernel
theorem d_L_law_668 : decode code 668 = .ok (.invokestatic 93, 3) := by decide +kernel
theorem d_L_law_671 : decode code 671 = .ok (.istore 5, 2) := by decide +kernel
theorem d_L_law_673 : decode code 673 = .ok (.aload_n 2, 1) := by decide +kernel
theorem d_L_law_674 : decode code 674 = .ok (.aload_n 0, 1) := by decide +kernel
theorem d_L_law_675 : decode code 675 = .ok (.iload 4, 2) := by decide +kernel
theorem d_L_law_677 : decode code 677 = .ok (.iconst 1, 1) := by decide +kernel
theorem d_L_law_678 : decode code 678 = .ok (.iadd, 1) := by decide +kernel
theorem d_L_law_679 : decode code 679 = .ok (.iaload, 1) := by decide +kernel
theorem d_L_law_680 : decode code 680 = .ok (.invokevirtual 95, 3) := by decide +kernel
theorem d_L_law_683 : decode code 683 = .ok (.istore 6, 2) := by decide +kernel
theorem d_L_law_685 : decode code 685 = .ok (.aload_n 2, 1) := by decide +kernel
theorem d_L_law_686 : decode code 686 = .ok (.invokevirtual 66, 3) := by decide +kernel
theorem d_L_law_689 : decode code 689 = .ok (.iload 5, 2) := by decide +kernel
theorem d_L_law_691 : decode code 691 = .ok (.if_icmp .eq 5, 3) := by decide +kernel
theorem d_L_law_694 : decode code 694 = .ok (.iconst 0, 1) := by decide +kernel
theorem d_L_law_695 : decode code 695 = .ok (.ireturn, 1) := by decide +kernel
theorem d_L_law_696 : decode code 696 = .ok (.iload 5, 2) := by decide +kernel
theorem d_L_law_698 : decode code 698 = .ok (.ifCond .ne 15, 3) := by decide +kernel
theorem d_L_law_701 : decode code 701 = .ok (.aload_n 3, 1) := by decide +kernel
theorem d_L_law_702 : decode code 702 = .ok (.iconst 0, 1) := by decide +kernel
theorem d_L_law_703 : decode code 703 = .ok (.laload, 1) := by decide +kernel
theorem d_L_law_704 : decode code 704 = .ok (.iload 6, 2) := by decide +kernel
theorem d_L_law_706 : decode code 706 = .ok (.i2l, 1) := by decide +kernel
theorem d_L_law_707 : decode code 707 = .ok (.lcmp, 1) := by decide +kernel
theorem d_L_law_708 : decode code 708 = .ok (.ifCond .eq 5, 3) := by decide +kernel
theorem d_L_law_711 : decode code 711 = .ok (.iconst 0, 1) := by decide +kernel
theorem d_L_law_712 : decode code 712 = .ok (.ireturn, 1) := by decide +kernel
theorem d_L_law_713 : decode code 713 = .ok (.goto 176, 3) := by decide +kernel
theorem d_L_law_716 : decode code 716 = .ok (.aload_n 1, 1) := by decide +kernel
theorem d_L_law_717 : decode code 717 = .ok (.aload_n 0, 1) := by decide +kernel
theorem d_L_law_718 : decode code 718 = .ok (.iload 4, 2) := by decide +kernel
theorem d_L_law_720 : decode code 720 = .ok (.iconst 1, 1) := by decide +kernel
theorem d_L_law_721 : decode code 721 = .ok (.iadd, 1) := by decide +kernel
theorem d_L_law_722 : decode code 722 = .ok (.iaload, 1) := by decide +kernel
theorem d_L_law_723 : decode code 723 = .ok (.aload_n 3, 1) := by decide +kernel
theorem d_L_law_724 : decode code 724 = .ok (.invokestatic 96, 3) := by decide +kernel
theorem d_L_law_727 : decode code 727 = .ok (.istore 5, 2) := by decide +kernel
theorem d_L_law_729 : decode code 729 = .ok (.aload_n 2, 1) := by decide +kernel
theorem d_L_law_730 : decode code 730 = .ok (.aload_n 0, 1) := by decide +kernel
theorem d_L_law_731 : decode code 731 = .ok (.iload 4, 2) := by decide +kernel
theorem d_L_law_733 : decode code 733 = .ok (.iconst 1, 1) := by decide +kernel
theorem d_L_law_734 : decode code 734 = .ok (.iadd, 1) := by decide +kernel
theorem d_L_law_735 : decode code 735 = .ok (.iaload, 1) := by decide +kernel
theorem d_L_law_736 : decode code 736 = .ok (.invokevirtual 98, 3) := by decide +kernel
theorem d_L_law_739 : decode code 739 = .ok (.istore 6, 2) := by decide +kernel
theorem d_L_law_741 : decode code 741 = .ok (.aload_n 2, 1) := by decide +kernel
theorem d_L_law_742 : decode code 742 = .ok (.invokevirtual 66, 3) := by decide +kernel
theorem d_L_law_745 : decode code 745 = .ok (.iload 5, 2) := by decide +kernel
theorem d_L_law_747 : decode code 747 = .ok (.if_icmp .eq 5, 3) := by decide +kernel
theorem d_L_law_750 : decode code 750 = .ok (.iconst 0, 1) := by decide +kernel
theorem d_L_law_751 : decode code 751 = .ok (.ireturn, 1) := by decide +kernel
theorem d_L_law_752 : decode code 752 = .ok (.iload 5, 2) := by decide +kernel
theorem d_L_law_754 : decode code 754 = .ok (.ifCond .ne 15, 3) := by decide +kernel
theorem d_L_law_757 : decode code 757 = .ok (.aload_n 3, 1) := by decide +kernel
theorem d_L_law_758 : decode code 758 = .ok (.iconst 0, 1) := by decide +kernel
theorem d_L_law_759 : decode code 759 = .ok (.laload, 1) := by decide +kernel
theorem d_L_law_760 : decode code 760 = .ok (.iload 6, 2) := by decide +kernel
theorem d_L_law_762 : decode code 762 = .ok (.i2l, 1) := by decide +kernel
theorem d_L_law_763 : decode code 763 = .ok (.lcmp, 1) := by decide +kernel
theorem d_L_law_764 : decode code 764 = .ok (.ifCond .eq 5, 3) := by decide +kernel
theorem d_L_law_767 : decode code 767 = .ok (.iconst 0, 1) := by decide +kernel
theorem d_L_law_768 : decode code 768 = .ok (.ireturn, 1) := by decide +kernel
theorem d_L_law_769 : decode code 769 = .ok (.goto 120, 3) := by decide +kernel
theorem d_L_law_772 : decode code 772 = .ok (.aload_n 1, 1) := by decide +kernel
theorem d_L_law_773 : decode code 773 = .ok (.aload_n 0, 1) := by decide +kernel
theorem d_L_law_774 : decode code 774 = .ok (.iload 4, 2) := by decide +kernel
theorem d_L_law_776 : decode code 776 = .ok (.iconst 1, 1) := by decide +kernel
theorem d_L_law_777 : decode code 777 = .ok (.iadd, 1) := by decide +kernel
theorem d_L_law_778 : decode code 778 = .ok (.iaload, 1) := by decide +kernel
theorem d_L_law_779 : decode code 779 = .ok (.aload_n 0, 1) := by decide +kernel
theorem d_L_law_780 : decode code 780 = .ok (.iload 4, 2) := by decide +kernel
theorem d_L_law_782 : decode code 782 = .ok (.iconst 2, 1) := by decide +kernel
theorem d_L_law_783 : decode code 783 = .ok (.iadd, 1) := by decide +kernel
theorem d_L_law_784 : decode code 784 = .ok (.iaload, 1) := by decide +kernel
theorem d_L_law_785 : decode code 785 = .ok (.aload_n 3, 1) := by decide +kernel
theorem d_L_law_786 : decode code 786 = .ok (.invokestatic 99, 3) := by decide +kernel
theorem d_L_law_789 : decode code 789 = .ok (.istore 5, 2) := by decide +kernel
theorem d_L_law_791 : decode code 791 = .ok (.aload_n 2, 1) := by decide +kernel
theorem d_L_law_792 : decode code 792 = .ok (.aload_n 0, 1) := by decide +kernel
theorem d_L_law_793 : decode code 793 = .ok (.iload 4, 2) := by decide +kernel
theorem d_L_law_795 : decode code 795 = .ok (.iconst 1, 1) := by decide +kernel
theorem d_L_law_796 : decode code 796 = .ok (.iadd, 1) := by decide +kernel
theorem d_L_law_797 : decode code 797 = .ok (.iaload, 1) := by decide +kernel
theorem d_L_law_798 : decode code 798 = .ok (.aload_n 0, 1) := by decide +kernel
theorem d_L_law_799 : decode code 799 = .ok (.iload 4, 2) := by decide +kernel
theorem d_L_law_801 : decode code 801 = .ok (.iconst 2, 1) := by decide +kernel
theorem d_L_law_802 : decode code 802 = .ok (.iadd, 1) := by decide +kernel
theorem d_L_law_803 : decode code 803 = .ok (.iaload, 1) := by decide +kernel
theorem d_L_law_804 : decode code 804 = .ok (.invokevirtual 101, 3) := by decide +kernel
theorem d_L_law_807 : decode code 807 = .ok (.istore 6, 2) := by decide +kernel
theorem d_L_law_809 : decode code 809 = .ok (.aload_n 2, 1) := by decide +kernel
theorem d_L_law_810 : decode code 810 = .ok (.invokevirtual 66, 3) := by decide +kernel
theorem d_L_law_813 : decode code 813 = .ok (.iload 5, 2) := by decide +kernel
theorem d_L_law_815 : decode code 815 = .ok (.if_icmp .eq 5, 3) := by decide +kernel
theorem d_L_law_818 : decode code 818 = .ok (.iconst 0, 1) := by decide +kernel
theorem d_L_law_819 : decode code 819 = .ok (.ireturn, 1) := by decide +kernel
theorem d_L_law_820 : decode code 820 = .ok (.iload 5, 2) := by decide +kernel
theorem d_L_law_822 : decode code 822 = .ok (.ifCond .ne 15, 3) := by decide +kernel
theorem d_L_law_825 : decode code 825 = .ok (.aload_n 3, 1) := by decide +kernel
theorem d_L_law_826 : decode code 826 = .ok (.iconst 0, 1) := by decide +kernel
theorem d_L_law_827 : decode code 827 = .ok (.laload, 1) := by decide +kernel
theorem d_L_law_828 : decode code 828 = .ok (.iload 6, 2) := by decide +kernel
theorem d_L_law_830 : decode code 830 = .ok (.i2l, 1) := by decide +kernel
theorem d_L_law_831 : decode code 831 = .ok (.lcmp, 1) := by decide +kernel
theorem d_L_law_832 : decode code 832 = .ok (.ifCond .eq 5, 3) := by decide +kernel
theorem d_L_law_835 : decode code 835 = .ok (.iconst 0, 1) := by decide +kernel
theorem d_L_law_836 : decode code 836 = .ok (.ireturn, 1) := by decide +kernel
theorem d_L_law_837 : decode code 837 = .ok (.goto 52, 3) := by decide +kernel
theorem d_L_law_840 : decode code 840 = .ok (.aload_n 1, 1) := by decide +kernel
theorem d_L_law_841 : decode code 841 = .ok (.invokestatic 102, 3) := by decide +kernel
theorem d_L_law_844 : decode code 844 = .ok (.istore 5, 2) := by decide +kernel
theorem d_L_law_846 : decode code 846 = .ok (.aload_n 2, 1) := by decide +kernel
theorem d_L_law_847 : decode code 847 = .ok (.invokevirtual 105, 3) := by decide +kernel
theorem d_L_law_850 : decode code 850 = .ok (.aload_n 2, 1) := by decide +kernel
theorem d_L_law_851 : decode code 851 = .ok (.invokevirtual 66, 3) := by decide +kernel
theorem d_L_law_854 : decode code 854 = .ok (.iload 5, 2) := by decide +kernel
theorem d_L_law_856 : decode code 856 = .ok (.if_icmp .eq 5, 3) := by decide +kernel
theorem d_L_law_859 : decode code 859 = .ok (.iconst 0, 1) := by decide +kernel
theorem d_L_law_860 : decode code 860 = .ok (.ireturn, 1) := by decide +kernel
theorem d_L_law_861 : decode code 861 = .ok (.goto 28, 3) := by decide +kernel
theorem d_L_law_864 : decode code 864 = .ok (.aload_n 1, 1) := by decide +kernel
theorem d_L_law_865 : decode code 865 = .ok (.aload_n 0, 1) := by decide +kernel
theorem d_L_law_866 : decode code 866 = .ok (.iload 4, 2) := by decide +kernel
theorem d_L_law_868 : decode code 868 = .ok (.iconst 1, 1) := by decide +kernel
theorem d_L_law_869 : decode code 869 = .ok (.iadd, 1) := by decide +kernel
theorem d_L_law_870 : decode code 870 = .ok (.iaload, 1) := by decide +kernel
theorem d_L_law_871 : decode code 871 = .ok (.invokevirtual 106, 3) := by decide +kernel
theorem d_L_law_874 : decode code 874 = .ok (.aload_n 2, 1) := by decide +kernel
theorem d_L_law_875 : decode code 875 = .ok (.aload_n 0, 1) := by decide +kernel
theorem d_L_law_876 : decode code 876 = .ok (.iload 4, 2) := by decide +kernel
theorem d_L_law_878 : decode code 878 = .ok (.iconst 1, 1) := by decide +kernel
theorem d_L_law_879 : decode code 879 = .ok (.iadd, 1) := by decide +kernel
theorem d_L_law_880 : decode code 880 = .ok (.iaload, 1) := by decide +kernel
theorem d_L_law_881 : decode code 881 = .ok (.invokevirtual 109, 3) := by decide +kernel
theorem d_L_law_884 : decode code 884 = .ok (.if_icmp .eq 5, 3) := by decide +kernel
theorem d_L_law_887 : decode code 887 = .ok (.iconst 0, 1) := by decide +kernel
theorem d_L_law_888 : decode code 888 = .ok (.ireturn, 1) := by decide +kernel
theorem d_L_law_889 : decode code 889 = .ok (.iinc 4 5, 3) := by decide +kernel
theorem d_L_law_892 : decode code 892 = .ok (.goto (-869), 3) := by decide +kernel
theorem d_L_law_895 : decode code 895 = .ok (.iconst 1, 1) := by decide +kernel
theorem d_L_law_896 : decode code 896 = .ok (.ireturn, 1) := by decide +kernel
