theorem d_C_init_0 : decode b_C_init 0 = .ok (.aload_n 0, 1) := by decide +kernel
theorem d_C_init_1 : decode b_C_init 1 = .ok (.invokespecial 1, 3) := by decide +kernel
theorem d_C_init_4 : decode b_C_init 4 = .ok (.aload_n 0, 1) := by decide +kernel
theorem d_C_init_5 : decode b_C_init 5 = .ok (.new 7, 3) := by decide +kernel
theorem d_C_init_8 : decode b_C_init 8 = .ok (.dup, 1) := by decide +kernel
theorem d_C_init_9 : decode b_C_init 9 = .ok (.invokespecial 9, 3) := by decide +kernel
theorem d_C_init_12 : decode b_C_init 12 = .ok (.putfield 10, 3) := by decide +kernel
theorem d_C_init_15 : decode b_C_init 15 = .ok (.aload_n 0, 1) := by decide +kernel
theorem d_C_init_16 : decode b_C_init 16 = .ok (.new 16, 3) := by decide +kernel
theorem d_C_init_19 : decode b_C_init 19 = .ok (.dup, 1) := by decide +kernel
theorem d_C_init_20 : decode b_C_init 20 = .ok (.invokespecial 18, 3) := by decide +kernel
theorem d_C_init_23 : decode b_C_init 23 = .ok (.putfield 19, 3) := by decide +kernel
theorem d_C_init_26 : decode b_C_init 26 = .ok (.aload_n 0, 1) := by decide +kernel
theorem d_C_init_27 : decode b_C_init 27 = .ok (.new 23, 3) := by decide +kernel
theorem d_C_init_30 : decode b_C_init 30 = .ok (.dup, 1) := by decide +kernel
theorem d_C_init_31 : decode b_C_init 31 = .ok (.invokespecial 25, 3) := by decide +kernel
theorem d_C_init_34 : decode b_C_init 34 = .ok (.putfield 26, 3) := by decide +kernel
theorem d_C_init_37 : decode b_C_init 37 = .ok (.aload_n 0, 1) := by decide +kernel
theorem d_C_init_38 : decode b_C_init 38 = .ok (.new 30, 3) := by decide +kernel
theorem d_C_init_41 : decode b_C_init 41 = .ok (.dup, 1) := by decide +kernel
theorem d_C_init_42 : decode b_C_init 42 = .ok (.invokespecial 32, 3) := by decide +kernel
theorem d_C_init_45 : decode b_C_init 45 = .ok (.putfield 33, 3) := by decide +kernel
theorem d_C_init_48 : decode b_C_init 48 = .ok (.aload_n 0, 1) := by decide +kernel
theorem d_C_init_49 : decode b_C_init 49 = .ok (.new 37, 3) := by decide +kernel
theorem d_C_init_52 : decode b_C_init 52 = .ok (.dup, 1) := by decide +kernel
theorem d_C_init_53 : decode b_C_init 53 = .ok (.invokespecial 39, 3) := by decide +kernel
theorem d_C_init_56 : decode b_C_init 56 = .ok (.putfield 40, 3) := by decide +kernel
theorem d_C_init_59 : decode b_C_init 59 = .ok (.return_, 1) := by decide +kernel
theorem d_C_key_0 : decode b_C_key 0 = .ok (.aload_n 0, 1) := by decide +kernel
theorem d_C_key_1 : decode b_C_key 1 = .ok (.getfield 10, 3) := by decide +kernel
theorem d_C_key_4 : decode b_C_key 4 = .ok (.iload_n 1, 1) := by decide +kernel
theorem d_C_key_5 : decode b_C_key 5 = .ok (.invokevirtual 44, 3) := by decide +kernel
theorem d_C_key_8 : decode b_C_key 8 = .ok (.ireturn, 1) := by decide +kernel
theorem d_C_edge_0 : decode b_C_edge 0 = .ok (.aload_n 0, 1) := by decide +kernel
theorem d_C_edge_1 : decode b_C_edge 1 = .ok (.getfield 10, 3) := by decide +kernel
theorem d_C_edge_4 : decode b_C_edge 4 = .ok (.iload_n 1, 1) := by decide +kernel
theorem d_C_edge_5 : decode b_C_edge 5 = .ok (.invokevirtual 48, 3) := by decide +kernel
theorem d_C_edge_8 : decode b_C_edge 8 = .ok (.ifCond .eq 14, 3) := by decide +kernel
theorem d_C_edge_11 : decode b_C_edge 11 = .ok (.aload_n 0, 1) := by decide +kernel
theorem d_C_edge_12 : decode b_C_edge 12 = .ok (.getfield 10, 3) := by decide +kernel
theorem d_C_edge_15 : decode b_C_edge 15 = .ok (.iload_n 2, 1) := by decide +kernel
theorem d_C_edge_16 : decode b_C_edge 16 = .ok (.invokevirtual 48, 3) := by decide +kernel
theorem d_C_edge_19 : decode b_C_edge 19 = .ok (.ifCond .ne 5, 3) := by decide +kernel
theorem d_C_edge_22 : decode b_C_edge 22 = .ok (.iconst (-1), 1) := by decide +kernel
theorem d_C_edge_23 : decode b_C_edge 23 = .ok (.ireturn, 1) := by decide +kernel
theorem d_C_edge_24 : decode b_C_edge 24 = .ok (.aload_n 0, 1) := by decide +kernel
theorem d_C_edge_25 : decode b_C_edge 25 = .ok (.getfield 19, 3) := by decide +kernel
theorem d_C_edge_28 : decode b_C_edge 28 = .ok (.iload_n 1, 1) := by decide +kernel
theorem d_C_edge_29 : decode b_C_edge 29 = .ok (.iload_n 2, 1) := by decide +kernel
theorem d_C_edge_30 : decode b_C_edge 30 = .ok (.iload_n 3, 1) := by decide +kernel
theorem d_C_edge_31 : decode b_C_edge 31 = .ok (.iload 4, 2) := by decide +kernel
theorem d_C_edge_33 : decode b_C_edge 33 = .ok (.invokevirtual 52, 3) := by decide +kernel
theorem d_C_edge_36 : decode b_C_edge 36 = .ok (.ireturn, 1) := by decide +kernel
theorem d_C_remove_0 : decode b_C_remove 0 = .ok (.aload_n 0, 1) := by decide +kernel
theorem d_C_remove_1 : decode b_C_remove 1 = .ok (.getfield 19, 3) := by decide +kernel
theorem d_C_remove_4 : decode b_C_remove 4 = .ok (.iload_n 1, 1) := by decide +kernel
theorem d_C_remove_5 : decode b_C_remove 5 = .ok (.iload_n 2, 1) := by decide +kernel
theorem d_C_remove_6 : decode b_C_remove 6 = .ok (.invokevirtual 55, 3) := by decide +kernel
theorem d_C_remove_9 : decode b_C_remove 9 = .ok (.ireturn, 1) := by decide +kernel
theorem d_C_cut_0 : decode b_C_cut 0 = .ok (.aload_n 0, 1) := by decide +kernel
theorem d_C_cut_1 : decode b_C_cut 1 = .ok (.getfield 19, 3) := by decide +kernel
theorem d_C_cut_4 : decode b_C_cut 4 = .ok (.iload_n 1, 1) := by decide +kernel
theorem d_C_cut_5 : decode b_C_cut 5 = .ok (.invokevirtual 59, 3) := by decide +kernel
theorem d_C_cut_8 : decode b_C_cut 8 = .ok (.ireturn, 1) := by decide +kernel
theorem d_C_run_0 : decode b_C_run 0 = .ok (.iload_n 1, 1) := by decide +kernel
theorem d_C_run_1 : decode b_C_run 1 = .ok (.ifCond .lt 9, 3) := by decide +kernel
theorem d_C_run_4 : decode b_C_run 4 = .ok (.iload_n 1, 1) := by decide +kernel
theorem d_C_run_5 : decode b_C_run 5 = .ok (.bipush 8, 2) := by decide +kernel
theorem d_C_run_7 : decode b_C_run 7 = .ok (.if_icmp .lt 5, 3) := by decide +kernel
theorem d_C_run_10 : decode b_C_run 10 = .ok (.iconst (-1), 1) := by decide +kernel
theorem d_C_run_11 : decode b_C_run 11 = .ok (.ireturn, 1) := by decide +kernel
theorem d_C_run_12 : decode b_C_run 12 = .ok (.aload_n 0, 1) := by decide +kernel
theorem d_C_run_13 : decode b_C_run 13 = .ok (.getfield 26, 3) := by decide +kernel
theorem d_C_run_16 : decode b_C_run 16 = .ok (.aload_n 0, 1) := by decide +kernel
theorem d_C_run_17 : decode b_C_run 17 = .ok (.getfield 10, 3) := by decide +kernel
theorem d_C_run_20 : decode b_C_run 20 = .ok (.aload_n 0, 1) := by decide +kernel
theorem d_C_run_21 : decode b_C_run 21 = .ok (.getfield 19, 3) := by decide +kernel
theorem d_C_run_24 : decode b_C_run 24 = .ok (.iload_n 1, 1) := by decide +kernel
theorem d_C_run_25 : decode b_C_run 25 = .ok (.invokevirtual 62, 3) := by decide +kernel
theorem d_C_run_28 : decode b_C_run 28 = .ok (.aload_n 0, 1) := by decide +kernel
theorem d_C_run_29 : decode b_C_run 29 = .ok (.getfield 33, 3) := by decide +kernel
theorem d_C_run_32 : decode b_C_run 32 = .ok (.aload_n 0, 1) := by decide +kernel
theorem d_C_run_33 : decode b_C_run 33 = .ok (.getfield 10, 3) := by decide +kernel
theorem d_C_run_36 : decode b_C_run 36 = .ok (.aload_n 0, 1) := by decide +kernel
theorem d_C_run_37 : decode b_C_run 37 = .ok (.getfield 19, 3) := by decide +kernel
theorem d_C_run_40 : decode b_C_run 40 = .ok (.aload_n 0, 1) := by decide +kernel
theorem d_C_run_41 : decode b_C_run 41 = .ok (.getfield 26, 3) := by decide +kernel
theorem d_C_run_44 : decode b_C_run 44 = .ok (.iload_n 1, 1) := by decide +kernel
theorem d_C_run_45 : decode b_C_run 45 = .ok (.invokevirtual 66, 3) := by decide +kernel
theorem d_C_run_48 : decode b_C_run 48 = .ok (.aload_n 0, 1) := by decide +kernel
theorem d_C_run_49 : decode b_C_run 49 = .ok (.getfield 33, 3) := by decide +kernel
theorem d_C_run_52 : decode b_C_run 52 = .ok (.getfield 70, 3) := by decide +kernel
theorem d_C_run_55 : decode b_C_run 55 = .ok (.ireturn, 1) := by decide +kernel
theorem d_C_size_0 : decode b_C_size 0 = .ok (.aload_n 0, 1) := by decide +kernel
theorem d_C_size_1 : decode b_C_size 1 = .ok (.getfield 33, 3) := by decide +kernel
theorem d_C_size_4 : decode b_C_size 4 = .ok (.iload_n 1, 1) := by decide +kernel
theorem d_C_size_5 : decode b_C_size 5 = .ok (.invokevirtual 74, 3) := by decide +kernel
theorem d_C_size_8 : decode b_C_size 8 = .ok (.ifCond .eq 14, 3) := by decide +kernel
theorem d_C_size_11 : decode b_C_size 11 = .ok (.aload_n 0, 1) := by decide +kernel
theorem d_C_size_12 : decode b_C_size 12 = .ok (.getfield 33, 3) := by decide +kernel
theorem d_C_size_15 : decode b_C_size 15 = .ok (.iload_n 1, 1) := by decide +kernel
theorem d_C_size_16 : decode b_C_size 16 = .ok (.invokevirtual 77, 3) := by decide +kernel
theorem d_C_size_19 : decode b_C_size 19 = .ok (.goto 4, 3) := by decide +kernel
theorem d_C_size_22 : decode b_C_size 22 = .ok (.iconst 0, 1) := by decide +kernel
theorem d_C_size_23 : decode b_C_size 23 = .ok (.ireturn, 1) := by decide +kernel
theorem d_C_ring_0 : decode b_C_ring 0 = .ok (.aload_n 0, 1) := by decide +kernel
theorem d_C_ring_1 : decode b_C_ring 1 = .ok (.getfield 33, 3) := by decide +kernel
theorem d_C_ring_4 : decode b_C_ring 4 = .ok (.iload_n 1, 1) := by decide +kernel
theorem d_C_ring_5 : decode b_C_ring 5 = .ok (.invokevirtual 74, 3) := by decide +kernel
theorem d_C_ring_8 : decode b_C_ring 8 = .ok (.ifCond .eq 19, 3) := by decide +kernel
theorem d_C_ring_11 : decode b_C_ring 11 = .ok (.iload_n 2, 1) := by decide +kernel
theorem d_C_ring_12 : decode b_C_ring 12 = .ok (.ifCond .lt 15, 3) := by decide +kernel
theorem d_C_ring_15 : decode b_C_ring 15 = .ok (.iload_n 2, 1) := by decide +kernel
theorem d_C_ring_16 : decode b_C_ring 16 = .ok (.aload_n 0, 1) := by decide +kernel
theorem d_C_ring_17 : decode b_C_ring 17 = .ok (.getfield 33, 3) := by decide +kernel
theorem d_C_ring_20 : decode b_C_ring 20 = .ok (.iload_n 1, 1) := by decide +kernel
theorem d_C_ring_21 : decode b_C_ring 21 = .ok (.invokevirtual 77, 3) := by decide +kernel
theorem d_C_ring_24 : decode b_C_ring 24 = .ok (.if_icmp .lt 5, 3) := by decide +kernel
theorem d_C_ring_27 : decode b_C_ring 27 = .ok (.iconst (-1), 1) := by decide +kernel
theorem d_C_ring_28 : decode b_C_ring 28 = .ok (.ireturn, 1) := by decide +kernel
theorem d_C_ring_29 : decode b_C_ring 29 = .ok (.iload_n 3, 1) := by decide +kernel
theorem d_C_ring_30 : decode b_C_ring 30 = .ok (.tableswitch 63 0 2 #[26, 36, 53], 26) := by decide +kernel
theorem d_C_ring_56 : decode b_C_ring 56 = .ok (.aload_n 0, 1) := by decide +kernel
theorem d_C_ring_57 : decode b_C_ring 57 = .ok (.getfield 33, 3) := by decide +kernel
theorem d_C_ring_60 : decode b_C_ring 60 = .ok (.iload_n 1, 1) := by decide +kernel
theorem d_C_ring_61 : decode b_C_ring 61 = .ok (.iload_n 2, 1) := by decide +kernel
theorem d_C_ring_62 : decode b_C_ring 62 = .ok (.invokevirtual 80, 3) := by decide +kernel
theorem d_C_ring_65 : decode b_C_ring 65 = .ok (.ireturn, 1) := by decide +kernel
theorem d_C_ring_66 : decode b_C_ring 66 = .ok (.aload_n 0, 1) := by decide +kernel
theorem d_C_ring_67 : decode b_C_ring 67 = .ok (.getfield 19, 3) := by decide +kernel
theorem d_C_ring_70 : decode b_C_ring 70 = .ok (.aload_n 0, 1) := by decide +kernel
theorem d_C_ring_71 : decode b_C_ring 71 = .ok (.getfield 33, 3) := by decide +kernel
theorem d_C_ring_74 : decode b_C_ring 74 = .ok (.iload_n 1, 1) := by decide +kernel
theorem d_C_ring_75 : decode b_C_ring 75 = .ok (.iload_n 2, 1) := by decide +kernel
theorem d_C_ring_76 : decode b_C_ring 76 = .ok (.invokevirtual 83, 3) := by decide +kernel
theorem d_C_ring_79 : decode b_C_ring 79 = .ok (.invokevirtual 86, 3) := by decide +kernel
theorem d_C_ring_82 : decode b_C_ring 82 = .ok (.ireturn, 1) := by decide +kernel
theorem d_C_ring_83 : decode b_C_ring 83 = .ok (.aload_n 0, 1) := by decide +kernel
theorem d_C_ring_84 : decode b_C_ring 84 = .ok (.getfield 33, 3) := by decide +kernel
theorem d_C_ring_87 : decode b_C_ring 87 = .ok (.iload_n 1, 1) := by decide +kernel
theorem d_C_ring_88 : decode b_C_ring 88 = .ok (.iload_n 2, 1) := by decide +kernel
theorem d_C_ring_89 : decode b_C_ring 89 = .ok (.invokevirtual 83, 3) := by decide +kernel
theorem d_C_ring_92 : decode b_C_ring 92 = .ok (.ireturn, 1) := by decide +kernel
theorem d_C_ring_93 : decode b_C_ring 93 = .ok (.iconst (-1), 1) := by decide +kernel
theorem d_C_ring_94 : decode b_C_ring 94 = .ok (.ireturn, 1) := by decide +kernel
theorem d_C_only_0 : decode b_C_only 0 = .ok (.aload_n 0, 1) := by decide +kernel
theorem d_C_only_1 : decode b_C_only 1 = .ok (.getfield 33, 3) := by decide +kernel
theorem d_C_only_4 : decode b_C_only 4 = .ok (.iload_n 1, 1) := by decide +kernel
theorem d_C_only_5 : decode b_C_only 5 = .ok (.invokevirtual 74, 3) := by decide +kernel
theorem d_C_only_8 : decode b_C_only 8 = .ok (.ifCond .eq 15, 3) := by decide +kernel
theorem d_C_only_11 : decode b_C_only 11 = .ok (.aload_n 0, 1) := by decide +kernel
theorem d_C_only_12 : decode b_C_only 12 = .ok (.getfield 33, 3) := by decide +kernel
theorem d_C_only_15 : decode b_C_only 15 = .ok (.getfield 89, 3) := by decide +kernel
theorem d_C_only_18 : decode b_C_only 18 = .ok (.iload_n 1, 1) := by decide +kernel
theorem d_C_only_19 : decode b_C_only 19 = .ok (.iaload, 1) := by decide +kernel
theorem d_C_only_20 : decode b_C_only 20 = .ok (.goto 4, 3) := by decide +kernel
theorem d_C_only_23 : decode b_C_only 23 = .ok (.iconst (-1), 1) := by decide +kernel
theorem d_C_only_24 : decode b_C_only 24 = .ok (.ireturn, 1) := by decide +kernel
theorem d_C_newest_0 : decode b_C_newest 0 = .ok (.aload_n 0, 1) := by decide +kernel
theorem d_C_newest_1 : decode b_C_newest 1 = .ok (.getfield 33, 3) := by decide +kernel
theorem d_C_newest_4 : decode b_C_newest 4 = .ok (.iload_n 1, 1) := by decide +kernel
theorem d_C_newest_5 : decode b_C_newest 5 = .ok (.invokevirtual 74, 3) := by decide +kernel
theorem d_C_newest_8 : decode b_C_newest 8 = .ok (.ifCond .eq 14, 3) := by decide +kernel
theorem d_C_newest_11 : decode b_C_newest 11 = .ok (.aload_n 0, 1) := by decide +kernel
theorem d_C_newest_12 : decode b_C_newest 12 = .ok (.getfield 33, 3) := by decide +kernel
theorem d_C_newest_15 : decode b_C_newest 15 = .ok (.iload_n 1, 1) := by decide +kernel
theorem d_C_newest_16 : decode b_C_newest 16 = .ok (.invokevirtual 93, 3) := by decide +kernel
theorem d_C_newest_19 : decode b_C_newest 19 = .ok (.goto 4, 3) := by decide +kernel
theorem d_C_newest_22 : decode b_C_newest 22 = .ok (.iconst (-1), 1) := by decide +kernel
theorem d_C_newest_23 : decode b_C_newest 23 = .ok (.ireturn, 1) := by decide +kernel
theorem d_C_strong_0 : decode b_C_strong 0 = .ok (.aload_n 0, 1) := by decide +kernel
theorem d_C_strong_1 : decode b_C_strong 1 = .ok (.getfield 33, 3) := by decide +kernel
theorem d_C_strong_4 : decode b_C_strong 4 = .ok (.iload_n 1, 1) := by decide +kernel
theorem d_C_strong_5 : decode b_C_strong 5 = .ok (.invokevirtual 96, 3) := by decide +kernel
theorem d_C_strong_8 : decode b_C_strong 8 = .ok (.ifCond .eq 15, 3) := by decide +kernel
theorem d_C_strong_11 : decode b_C_strong 11 = .ok (.aload_n 0, 1) := by decide +kernel
theorem d_C_strong_12 : decode b_C_strong 12 = .ok (.getfield 33, 3) := by decide +kernel
theorem d_C_strong_15 : decode b_C_strong 15 = .ok (.getfield 99, 3) := by decide +kernel
theorem d_C_strong_18 : decode b_C_strong 18 = .ok (.iload_n 1, 1) := by decide +kernel
theorem d_C_strong_19 : decode b_C_strong 19 = .ok (.iaload, 1) := by decide +kernel
theorem d_C_strong_20 : decode b_C_strong 20 = .ok (.goto 4, 3) := by decide +kernel
theorem d_C_strong_23 : decode b_C_strong 23 = .ok (.iconst (-1), 1) := by decide +kernel
theorem d_C_strong_24 : decode b_C_strong 24 = .ok (.ireturn, 1) := by decide +kernel
theorem d_C_state_0 : decode b_C_state 0 = .ok (.aload_n 0, 1) := by decide +kernel
theorem d_C_state_1 : decode b_C_state 1 = .ok (.getfield 33, 3) := by decide +kernel
theorem d_C_state_4 : decode b_C_state 4 = .ok (.iload_n 1, 1) := by decide +kernel
theorem d_C_state_5 : decode b_C_state 5 = .ok (.invokevirtual 96, 3) := by decide +kernel
theorem d_C_state_8 : decode b_C_state 8 = .ok (.ifCond .eq 15, 3) := by decide +kernel
theorem d_C_state_11 : decode b_C_state 11 = .ok (.aload_n 0, 1) := by decide +kernel
theorem d_C_state_12 : decode b_C_state 12 = .ok (.getfield 33, 3) := by decide +kernel
theorem d_C_state_15 : decode b_C_state 15 = .ok (.getfield 102, 3) := by decide +kernel
theorem d_C_state_18 : decode b_C_state 18 = .ok (.iload_n 1, 1) := by decide +kernel
theorem d_C_state_19 : decode b_C_state 19 = .ok (.iaload, 1) := by decide +kernel
theorem d_C_state_20 : decode b_C_state 20 = .ok (.goto 4, 3) := by decide +kernel
theorem d_C_state_23 : decode b_C_state 23 = .ok (.iconst (-1), 1) := by decide +kernel
theorem d_C_state_24 : decode b_C_state 24 = .ok (.ireturn, 1) := by decide +kernel
theorem d_C_least_0 : decode b_C_least 0 = .ok (.aload_n 0, 1) := by decide +kernel
theorem d_C_least_1 : decode b_C_least 1 = .ok (.getfield 33, 3) := by decide +kernel
theorem d_C_least_4 : decode b_C_least 4 = .ok (.iload_n 1, 1) := by decide +kernel
theorem d_C_least_5 : decode b_C_least 5 = .ok (.invokevirtual 96, 3) := by decide +kernel
theorem d_C_least_8 : decode b_C_least 8 = .ok (.ifCond .eq 15, 3) := by decide +kernel
theorem d_C_least_11 : decode b_C_least 11 = .ok (.aload_n 0, 1) := by decide +kernel
theorem d_C_least_12 : decode b_C_least 12 = .ok (.getfield 33, 3) := by decide +kernel
theorem d_C_least_15 : decode b_C_least 15 = .ok (.getfield 105, 3) := by decide +kernel
theorem d_C_least_18 : decode b_C_least 18 = .ok (.iload_n 1, 1) := by decide +kernel
theorem d_C_least_19 : decode b_C_least 19 = .ok (.iaload, 1) := by decide +kernel
theorem d_C_least_20 : decode b_C_least 20 = .ok (.goto 4, 3) := by decide +kernel
theorem d_C_least_23 : decode b_C_least 23 = .ok (.iconst (-1), 1) := by decide +kernel
theorem d_C_least_24 : decode b_C_least 24 = .ok (.ireturn, 1) := by decide +kernel
theorem d_C_ask_0 : decode b_C_ask 0 = .ok (.aload_n 0, 1) := by decide +kernel
theorem d_C_ask_1 : decode b_C_ask 1 = .ok (.getfield 10, 3) := by decide +kernel
theorem d_C_ask_4 : decode b_C_ask 4 = .ok (.iload_n 1, 1) := by decide +kernel
theorem d_C_ask_5 : decode b_C_ask 5 = .ok (.invokevirtual 48, 3) := by decide +kernel
theorem d_C_ask_8 : decode b_C_ask 8 = .ok (.ifCond .eq 14, 3) := by decide +kernel
theorem d_C_ask_11 : decode b_C_ask 11 = .ok (.aload_n 0, 1) := by decide +kernel
theorem d_C_ask_12 : decode b_C_ask 12 = .ok (.getfield 33, 3) := by decide +kernel
theorem d_C_ask_15 : decode b_C_ask 15 = .ok (.getfield 108, 3) := by decide +kernel
theorem d_C_ask_18 : decode b_C_ask 18 = .ok (.iconst (-1), 1) := by decide +kernel
theorem d_C_ask_19 : decode b_C_ask 19 = .ok (.if_icmp .ne 5, 3) := by decide +kernel
theorem d_C_ask_22 : decode b_C_ask 22 = .ok (.iconst (-1), 1) := by decide +kernel
theorem d_C_ask_23 : decode b_C_ask 23 = .ok (.ireturn, 1) := by decide +kernel
theorem d_C_ask_24 : decode b_C_ask 24 = .ok (.aload_n 0, 1) := by decide +kernel
theorem d_C_ask_25 : decode b_C_ask 25 = .ok (.getfield 40, 3) := by decide +kernel
theorem d_C_ask_28 : decode b_C_ask 28 = .ok (.iload_n 1, 1) := by decide +kernel
theorem d_C_ask_29 : decode b_C_ask 29 = .ok (.aload_n 0, 1) := by decide +kernel
theorem d_C_ask_30 : decode b_C_ask 30 = .ok (.getfield 10, 3) := by decide +kernel
theorem d_C_ask_33 : decode b_C_ask 33 = .ok (.getfield 111, 3) := by decide +kernel
theorem d_C_ask_36 : decode b_C_ask 36 = .ok (.invokevirtual 114, 3) := by decide +kernel
theorem d_C_ask_39 : decode b_C_ask 39 = .ok (.aload_n 0, 1) := by decide +kernel
theorem d_C_ask_40 : decode b_C_ask 40 = .ok (.getfield 40, 3) := by decide +kernel
theorem d_C_ask_43 : decode b_C_ask 43 = .ok (.aload_n 0, 1) := by decide +kernel
theorem d_C_ask_44 : decode b_C_ask 44 = .ok (.getfield 19, 3) := by decide +kernel
theorem d_C_ask_47 : decode b_C_ask 47 = .ok (.aload_n 0, 1) := by decide +kernel
theorem d_C_ask_48 : decode b_C_ask 48 = .ok (.getfield 33, 3) := by decide +kernel
theorem d_C_ask_51 : decode b_C_ask 51 = .ok (.getfield 108, 3) := by decide +kernel
theorem d_C_ask_54 : decode b_C_ask 54 = .ok (.invokevirtual 118, 3) := by decide +kernel
theorem d_C_ask_57 : decode b_C_ask 57 = .ok (.aload_n 0, 1) := by decide +kernel
theorem d_C_ask_58 : decode b_C_ask 58 = .ok (.getfield 40, 3) := by decide +kernel
theorem d_C_ask_61 : decode b_C_ask 61 = .ok (.getfield 122, 3) := by decide +kernel
theorem d_C_ask_64 : decode b_C_ask 64 = .ok (.ireturn, 1) := by decide +kernel
theorem d_C_met_0 : decode b_C_met 0 = .ok (.iload_n 1, 1) := by decide +kernel
theorem d_C_met_1 : decode b_C_met 1 = .ok (.ifCond .lt 26, 3) := by decide +kernel
theorem d_C_met_4 : decode b_C_met 4 = .ok (.iload_n 1, 1) := by decide +kernel
theorem d_C_met_5 : decode b_C_met 5 = .ok (.aload_n 0, 1) := by decide +kernel
theorem d_C_met_6 : decode b_C_met 6 = .ok (.getfield 40, 3) := by decide +kernel
theorem d_C_met_9 : decode b_C_met 9 = .ok (.getfield 122, 3) := by decide +kernel
theorem d_C_met_12 : decode b_C_met 12 = .ok (.if_icmp .ge 15, 3) := by decide +kernel
theorem d_C_met_15 : decode b_C_met 15 = .ok (.aload_n 0, 1) := by decide +kernel
theorem d_C_met_16 : decode b_C_met 16 = .ok (.getfield 40, 3) := by decide +kernel
theorem d_C_met_19 : decode b_C_met 19 = .ok (.getfield 125, 3) := by decide +kernel
theorem d_C_met_22 : decode b_C_met 22 = .ok (.iload_n 1, 1) := by decide +kernel
theorem d_C_met_23 : decode b_C_met 23 = .ok (.iaload, 1) := by decide +kernel
theorem d_C_met_24 : decode b_C_met 24 = .ok (.goto 4, 3) := by decide +kernel
theorem d_C_met_27 : decode b_C_met 27 = .ok (.iconst (-1), 1) := by decide +kernel
theorem d_C_met_28 : decode b_C_met 28 = .ok (.ireturn, 1) := by decide +kernel
theorem d_A_init_0 : decode b_A_init 0 = .ok (.aload_n 0, 1) := by decide +kernel
theorem d_A_init_1 : decode b_A_init 1 = .ok (.invokespecial 3, 3) := by decide +kernel
theorem d_A_init_4 : decode b_A_init 4 = .ok (.aload_n 0, 1) := by decide +kernel
theorem d_A_init_5 : decode b_A_init 5 = .ok (.iconst 0, 1) := by decide +kernel
theorem d_A_init_6 : decode b_A_init 6 = .ok (.putfield 9, 3) := by decide +kernel
theorem d_A_init_9 : decode b_A_init 9 = .ok (.aload_n 0, 1) := by decide +kernel
theorem d_A_init_10 : decode b_A_init 10 = .ok (.bipush 40, 2) := by decide +kernel
theorem d_A_init_12 : decode b_A_init 12 = .ok (.newarray .int, 2) := by decide +kernel
theorem d_A_init_14 : decode b_A_init 14 = .ok (.putfield 15, 3) := by decide +kernel
theorem d_A_init_17 : decode b_A_init 17 = .ok (.aload_n 0, 1) := by decide +kernel
theorem d_A_init_18 : decode b_A_init 18 = .ok (.iconst 0, 1) := by decide +kernel
theorem d_A_init_19 : decode b_A_init 19 = .ok (.putfield 19, 3) := by decide +kernel
theorem d_A_init_22 : decode b_A_init 22 = .ok (.aload_n 0, 1) := by decide +kernel
theorem d_A_init_23 : decode b_A_init 23 = .ok (.bipush 40, 2) := by decide +kernel
theorem d_A_init_25 : decode b_A_init 25 = .ok (.newarray .int, 2) := by decide +kernel
theorem d_A_init_27 : decode b_A_init 27 = .ok (.putfield 22, 3) := by decide +kernel
theorem d_A_init_30 : decode b_A_init 30 = .ok (.aload_n 0, 1) := by decide +kernel
theorem d_A_init_31 : decode b_A_init 31 = .ok (.bipush 40, 2) := by decide +kernel
theorem d_A_init_33 : decode b_A_init 33 = .ok (.newarray .int, 2) := by decide +kernel
theorem d_A_init_35 : decode b_A_init 35 = .ok (.putfield 25, 3) := by decide +kernel
theorem d_A_init_38 : decode b_A_init 38 = .ok (.aload_n 0, 1) := by decide +kernel
theorem d_A_init_39 : decode b_A_init 39 = .ok (.bipush 40, 2) := by decide +kernel
theorem d_A_init_41 : decode b_A_init 41 = .ok (.newarray .boolean, 2) := by decide +kernel
theorem d_A_init_43 : decode b_A_init 43 = .ok (.putfield 28, 3) := by decide +kernel
theorem d_A_init_46 : decode b_A_init 46 = .ok (.return_, 1) := by decide +kernel
theorem d_A_begin_0 : decode b_A_begin 0 = .ok (.iconst 0, 1) := by decide +kernel
theorem d_A_begin_1 : decode b_A_begin 1 = .ok (.istore_n 3, 1) := by decide +kernel
theorem d_A_begin_2 : decode b_A_begin 2 = .ok (.iload_n 3, 1) := by decide +kernel
theorem d_A_begin_3 : decode b_A_begin 3 = .ok (.iload_n 2, 1) := by decide +kernel
theorem d_A_begin_4 : decode b_A_begin 4 = .ok (.if_icmp .ge 16, 3) := by decide +kernel
theorem d_A_begin_7 : decode b_A_begin 7 = .ok (.aload_n 0, 1) := by decide +kernel
theorem d_A_begin_8 : decode b_A_begin 8 = .ok (.getfield 28, 3) := by decide +kernel
theorem d_A_begin_11 : decode b_A_begin 11 = .ok (.iload_n 3, 1) := by decide +kernel
theorem d_A_begin_12 : decode b_A_begin 12 = .ok (.iconst 0, 1) := by decide +kernel
theorem d_A_begin_13 : decode b_A_begin 13 = .ok (.bastore, 1) := by decide +kernel
theorem d_A_begin_14 : decode b_A_begin 14 = .ok (.iinc 3 1, 3) := by decide +kernel
theorem d_A_begin_17 : decode b_A_begin 17 = .ok (.goto (-15), 3) := by decide +kernel
theorem d_A_begin_20 : decode b_A_begin 20 = .ok (.aload_n 0, 1) := by decide +kernel
theorem d_A_begin_21 : decode b_A_begin 21 = .ok (.iconst 0, 1) := by decide +kernel
theorem d_A_begin_22 : decode b_A_begin 22 = .ok (.putfield 9, 3) := by decide +kernel
theorem d_A_begin_25 : decode b_A_begin 25 = .ok (.aload_n 0, 1) := by decide +kernel
theorem d_A_begin_26 : decode b_A_begin 26 = .ok (.iconst 0, 1) := by decide +kernel
theorem d_A_begin_27 : decode b_A_begin 27 = .ok (.putfield 19, 3) := by decide +kernel
theorem d_A_begin_30 : decode b_A_begin 30 = .ok (.aload_n 0, 1) := by decide +kernel
theorem d_A_begin_31 : decode b_A_begin 31 = .ok (.iload_n 1, 1) := by decide +kernel
theorem d_A_begin_32 : decode b_A_begin 32 = .ok (.invokevirtual 32, 3) := by decide +kernel
theorem d_A_begin_35 : decode b_A_begin 35 = .ok (.return_, 1) := by decide +kernel
theorem d_A_goOn_0 : decode b_A_goOn 0 = .ok (.iconst 0, 1) := by decide +kernel
theorem d_A_goOn_1 : decode b_A_goOn 1 = .ok (.istore_n 3, 1) := by decide +kernel
theorem d_A_goOn_2 : decode b_A_goOn 2 = .ok (.iload_n 3, 1) := by decide +kernel
theorem d_A_goOn_3 : decode b_A_goOn 3 = .ok (.bipush 80, 2) := by decide +kernel
theorem d_A_goOn_5 : decode b_A_goOn 5 = .ok (.if_icmp .ge 77, 3) := by decide +kernel
theorem d_A_goOn_8 : decode b_A_goOn 8 = .ok (.aload_n 0, 1) := by decide +kernel
theorem d_A_goOn_9 : decode b_A_goOn 9 = .ok (.getfield 19, 3) := by decide +kernel
theorem d_A_goOn_12 : decode b_A_goOn 12 = .ok (.ifCond .le 70, 3) := by decide +kernel
theorem d_A_goOn_15 : decode b_A_goOn 15 = .ok (.aload_n 0, 1) := by decide +kernel
theorem d_A_goOn_16 : decode b_A_goOn 16 = .ok (.aload_n 0, 1) := by decide +kernel
theorem d_A_goOn_17 : decode b_A_goOn 17 = .ok (.getfield 22, 3) := by decide +kernel
theorem d_A_goOn_20 : decode b_A_goOn 20 = .ok (.aload_n 0, 1) := by decide +kernel
theorem d_A_goOn_21 : decode b_A_goOn 21 = .ok (.getfield 19, 3) := by decide +kernel
theorem d_A_goOn_24 : decode b_A_goOn 24 = .ok (.iconst 1, 1) := by decide +kernel
theorem d_A_goOn_25 : decode b_A_goOn 25 = .ok (.isub, 1) := by decide +kernel
theorem d_A_goOn_26 : decode b_A_goOn 26 = .ok (.iaload, 1) := by decide +kernel
theorem d_A_goOn_27 : decode b_A_goOn 27 = .ok (.aload_n 1, 1) := by decide +kernel
theorem d_A_goOn_28 : decode b_A_goOn 28 = .ok (.iload_n 2, 1) := by decide +kernel
theorem d_A_goOn_29 : decode b_A_goOn 29 = .ok (.invokevirtual 36, 3) := by decide +kernel
theorem d_A_goOn_32 : decode b_A_goOn 32 = .ok (.istore 4, 2) := by decide +kernel
theorem d_A_goOn_34 : decode b_A_goOn 34 = .ok (.iload 4, 2) := by decide +kernel
theorem d_A_goOn_36 : decode b_A_goOn 36 = .ok (.iconst (-1), 1) := by decide +kernel
theorem d_A_goOn_37 : decode b_A_goOn 37 = .ok (.if_icmp .ne 16, 3) := by decide +kernel
theorem d_A_goOn_40 : decode b_A_goOn 40 = .ok (.aload_n 0, 1) := by decide +kernel
theorem d_A_goOn_41 : decode b_A_goOn 41 = .ok (.dup, 1) := by decide +kernel
theorem d_A_goOn_42 : decode b_A_goOn 42 = .ok (.getfield 19, 3) := by decide +kernel
theorem d_A_goOn_45 : decode b_A_goOn 45 = .ok (.iconst 1, 1) := by decide +kernel
theorem d_A_goOn_46 : decode b_A_goOn 46 = .ok (.isub, 1) := by decide +kernel
theorem d_A_goOn_47 : decode b_A_goOn 47 = .ok (.putfield 19, 3) := by decide +kernel
theorem d_A_goOn_50 : decode b_A_goOn 50 = .ok (.goto 26, 3) := by decide +kernel
theorem d_A_goOn_53 : decode b_A_goOn 53 = .ok (.aload_n 0, 1) := by decide +kernel
theorem d_A_goOn_54 : decode b_A_goOn 54 = .ok (.getfield 28, 3) := by decide +kernel
theorem d_A_goOn_57 : decode b_A_goOn 57 = .ok (.iload 4, 2) := by decide +kernel
theorem d_A_goOn_59 : decode b_A_goOn 59 = .ok (.baload, 1) := by decide +kernel
theorem d_A_goOn_60 : decode b_A_goOn 60 = .ok (.ifCond .eq 10, 3) := by decide +kernel
theorem d_A_goOn_63 : decode b_A_goOn 63 = .ok (.aload_n 0, 1) := by decide +kernel
theorem d_A_goOn_64 : decode b_A_goOn 64 = .ok (.iload 4, 2) := by decide +kernel
theorem d_A_goOn_66 : decode b_A_goOn 66 = .ok (.invokevirtual 40, 3) := by decide +kernel
theorem d_A_goOn_69 : decode b_A_goOn 69 = .ok (.return_, 1) := by decide +kernel
theorem d_A_goOn_70 : decode b_A_goOn 70 = .ok (.aload_n 0, 1) := by decide +kernel
theorem d_A_goOn_71 : decode b_A_goOn 71 = .ok (.iload 4, 2) := by decide +kernel
theorem d_A_goOn_73 : decode b_A_goOn 73 = .ok (.invokevirtual 32, 3) := by decide +kernel
theorem d_A_goOn_76 : decode b_A_goOn 76 = .ok (.iinc 3 1, 3) := by decide +kernel
theorem d_A_goOn_79 : decode b_A_goOn 79 = .ok (.goto (-77), 3) := by decide +kernel
theorem d_A_goOn_82 : decode b_A_goOn 82 = .ok (.return_, 1) := by decide +kernel
theorem d_A_push_0 : decode b_A_push 0 = .ok (.aload_n 0, 1) := by decide +kernel
theorem d_A_push_1 : decode b_A_push 1 = .ok (.getfield 19, 3) := by decide +kernel
theorem d_A_push_4 : decode b_A_push 4 = .ok (.bipush 40, 2) := by decide +kernel
theorem d_A_push_6 : decode b_A_push 6 = .ok (.if_icmp .ge 37, 3) := by decide +kernel
theorem d_A_push_9 : decode b_A_push 9 = .ok (.aload_n 0, 1) := by decide +kernel
theorem d_A_push_10 : decode b_A_push 10 = .ok (.getfield 22, 3) := by decide +kernel
theorem d_A_push_13 : decode b_A_push 13 = .ok (.aload_n 0, 1) := by decide +kernel
theorem d_A_push_14 : decode b_A_push 14 = .ok (.getfield 19, 3) := by decide +kernel
theorem d_A_push_17 : decode b_A_push 17 = .ok (.iload_n 1, 1) := by decide +kernel
theorem d_A_push_18 : decode b_A_push 18 = .ok (.iastore, 1) := by decide +kernel
theorem d_A_push_19 : decode b_A_push 19 = .ok (.aload_n 0, 1) := by decide +kernel
theorem d_A_push_20 : decode b_A_push 20 = .ok (.dup, 1) := by decide +kernel
theorem d_A_push_21 : decode b_A_push 21 = .ok (.getfield 19, 3) := by decide +kernel
theorem d_A_push_24 : decode b_A_push 24 = .ok (.iconst 1, 1) := by decide +kernel
theorem d_A_push_25 : decode b_A_push 25 = .ok (.iadd, 1) := by decide +kernel
theorem d_A_push_26 : decode b_A_push 26 = .ok (.putfield 19, 3) := by decide +kernel
theorem d_A_push_29 : decode b_A_push 29 = .ok (.aload_n 0, 1) := by decide +kernel
theorem d_A_push_30 : decode b_A_push 30 = .ok (.getfield 28, 3) := by decide +kernel
theorem d_A_push_33 : decode b_A_push 33 = .ok (.iload_n 1, 1) := by decide +kernel
theorem d_A_push_34 : decode b_A_push 34 = .ok (.iconst 1, 1) := by decide +kernel
theorem d_A_push_35 : decode b_A_push 35 = .ok (.bastore, 1) := by decide +kernel
theorem d_A_push_36 : decode b_A_push 36 = .ok (.aload_n 0, 1) := by decide +kernel
theorem d_A_push_37 : decode b_A_push 37 = .ok (.getfield 25, 3) := by decide +kernel
theorem d_A_push_40 : decode b_A_push 40 = .ok (.iload_n 1, 1) := by decide +kernel
theorem d_A_push_41 : decode b_A_push 41 = .ok (.iconst 0, 1) := by decide +kernel
theorem d_A_push_42 : decode b_A_push 42 = .ok (.iastore, 1) := by decide +kernel
theorem d_A_push_43 : decode b_A_push 43 = .ok (.return_, 1) := by decide +kernel
theorem d_A_nextTarget_0 : decode b_A_nextTarget 0 = .ok (.aload_n 0, 1) := by decide +kernel
theorem d_A_nextTarget_1 : decode b_A_nextTarget 1 = .ok (.getfield 25, 3) := by decide +kernel
theorem d_A_nextTarget_4 : decode b_A_nextTarget 4 = .ok (.iload_n 1, 1) := by decide +kernel
theorem d_A_nextTarget_5 : decode b_A_nextTarget 5 = .ok (.iaload, 1) := by decide +kernel
theorem d_A_nextTarget_6 : decode b_A_nextTarget 6 = .ok (.istore 4, 2) := by decide +kernel
theorem d_A_nextTarget_8 : decode b_A_nextTarget 8 = .ok (.iload 4, 2) := by decide +kernel
theorem d_A_nextTarget_10 : decode b_A_nextTarget 10 = .ok (.aload_n 2, 1) := by decide +kernel
theorem d_A_nextTarget_11 : decode b_A_nextTarget 11 = .ok (.getfield 43, 3) := by decide +kernel
theorem d_A_nextTarget_14 : decode b_A_nextTarget 14 = .ok (.if_icmp .ge 72, 3) := by decide +kernel
theorem d_A_nextTarget_17 : decode b_A_nextTarget 17 = .ok (.aload_n 2, 1) := by decide +kernel
theorem d_A_nextTarget_18 : decode b_A_nextTarget 18 = .ok (.getfield 48, 3) := by decide +kernel
theorem d_A_nextTarget_21 : decode b_A_nextTarget 21 = .ok (.iload 4, 2) := by decide +kernel
theorem d_A_nextTarget_23 : decode b_A_nextTarget 23 = .ok (.iaload, 1) := by decide +kernel
theorem d_A_nextTarget_24 : decode b_A_nextTarget 24 = .ok (.iload_n 1, 1) := by decide +kernel
theorem d_A_nextTarget_25 : decode b_A_nextTarget 25 = .ok (.if_icmp .ne 55, 3) := by decide +kernel
theorem d_A_nextTarget_28 : decode b_A_nextTarget 28 = .ok (.aload_n 2, 1) := by decide +kernel
theorem d_A_nextTarget_29 : decode b_A_nextTarget 29 = .ok (.iload 4, 2) := by decide +kernel
theorem d_A_nextTarget_31 : decode b_A_nextTarget 31 = .ok (.iload_n 3, 1) := by decide +kernel
theorem d_A_nextTarget_32 : decode b_A_nextTarget 32 = .ok (.invokevirtual 51, 3) := by decide +kernel
theorem d_A_nextTarget_35 : decode b_A_nextTarget 35 = .ok (.ifCond .eq 45, 3) := by decide +kernel
theorem d_A_nextTarget_38 : decode b_A_nextTarget 38 = .ok (.aload_n 2, 1) := by decide +kernel
theorem d_A_nextTarget_39 : decode b_A_nextTarget 39 = .ok (.getfield 55, 3) := by decide +kernel
theorem d_A_nextTarget_42 : decode b_A_nextTarget 42 = .ok (.iload 4, 2) := by decide +kernel
theorem d_A_nextTarget_44 : decode b_A_nextTarget 44 = .ok (.iaload, 1) := by decide +kernel
theorem d_A_nextTarget_45 : decode b_A_nextTarget 45 = .ok (.istore 5, 2) := by decide +kernel
theorem d_A_nextTarget_47 : decode b_A_nextTarget 47 = .ok (.aload_n 0, 1) := by decide +kernel
theorem d_A_nextTarget_48 : decode b_A_nextTarget 48 = .ok (.getfield 28, 3) := by decide +kernel
theorem d_A_nextTarget_51 : decode b_A_nextTarget 51 = .ok (.iload 5, 2) := by decide +kernel
theorem d_A_nextTarget_53 : decode b_A_nextTarget 53 = .ok (.baload, 1) := by decide +kernel
theorem d_A_nextTarget_54 : decode b_A_nextTarget 54 = .ok (.ifCond .eq 13, 3) := by decide +kernel
theorem d_A_nextTarget_57 : decode b_A_nextTarget 57 = .ok (.aload_n 0, 1) := by decide +kernel
theorem d_A_nextTarget_58 : decode b_A_nextTarget 58 = .ok (.iload 5, 2) := by decide +kernel
theorem d_A_nextTarget_60 : decode b_A_nextTarget 60 = .ok (.invokevirtual 58, 3) := by decide +kernel
theorem d_A_nextTarget_63 : decode b_A_nextTarget 63 = .ok (.iconst (-1), 1) := by decide +kernel
theorem d_A_nextTarget_64 : decode b_A_nextTarget 64 = .ok (.if_icmp .eq 16, 3) := by decide +kernel
theorem d_A_nextTarget_67 : decode b_A_nextTarget 67 = .ok (.aload_n 0, 1) := by decide +kernel
theorem d_A_nextTarget_68 : decode b_A_nextTarget 68 = .ok (.getfield 25, 3) := by decide +kernel
theorem d_A_nextTarget_71 : decode b_A_nextTarget 71 = .ok (.iload_n 1, 1) := by decide +kernel
theorem d_A_nextTarget_72 : decode b_A_nextTarget 72 = .ok (.iload 4, 2) := by decide +kernel
theorem d_A_nextTarget_74 : decode b_A_nextTarget 74 = .ok (.iconst 1, 1) := by decide +kernel
theorem d_A_nextTarget_75 : decode b_A_nextTarget 75 = .ok (.iadd, 1) := by decide +kernel
theorem d_A_nextTarget_76 : decode b_A_nextTarget 76 = .ok (.iastore, 1) := by decide +kernel
theorem d_A_nextTarget_77 : decode b_A_nextTarget 77 = .ok (.iload 5, 2) := by decide +kernel
theorem d_A_nextTarget_79 : decode b_A_nextTarget 79 = .ok (.ireturn, 1) := by decide +kernel
theorem d_A_nextTarget_80 : decode b_A_nextTarget 80 = .ok (.iinc 4 1, 3) := by decide +kernel
theorem d_A_nextTarget_83 : decode b_A_nextTarget 83 = .ok (.goto (-75), 3) := by decide +kernel
theorem d_A_nextTarget_86 : decode b_A_nextTarget 86 = .ok (.iconst (-1), 1) := by decide +kernel
theorem d_A_nextTarget_87 : decode b_A_nextTarget 87 = .ok (.ireturn, 1) := by decide +kernel
theorem d_A_openAt_0 : decode b_A_openAt 0 = .ok (.iconst 0, 1) := by decide +kernel
theorem d_A_openAt_1 : decode b_A_openAt 1 = .ok (.istore_n 2, 1) := by decide +kernel
theorem d_A_openAt_2 : decode b_A_openAt 2 = .ok (.iload_n 2, 1) := by decide +kernel
theorem d_A_openAt_3 : decode b_A_openAt 3 = .ok (.aload_n 0, 1) := by decide +kernel
theorem d_A_openAt_4 : decode b_A_openAt 4 = .ok (.getfield 19, 3) := by decide +kernel
theorem d_A_openAt_7 : decode b_A_openAt 7 = .ok (.if_icmp .ge 21, 3) := by decide +kernel
theorem d_A_openAt_10 : decode b_A_openAt 10 = .ok (.aload_n 0, 1) := by decide +kernel
theorem d_A_openAt_11 : decode b_A_openAt 11 = .ok (.getfield 22, 3) := by decide +kernel
theorem d_A_openAt_14 : decode b_A_openAt 14 = .ok (.iload_n 2, 1) := by decide +kernel
theorem d_A_openAt_15 : decode b_A_openAt 15 = .ok (.iaload, 1) := by decide +kernel
theorem d_A_openAt_16 : decode b_A_openAt 16 = .ok (.iload_n 1, 1) := by decide +kernel
theorem d_A_openAt_17 : decode b_A_openAt 17 = .ok (.if_icmp .ne 5, 3) := by decide +kernel
theorem d_A_openAt_20 : decode b_A_openAt 20 = .ok (.iload_n 2, 1) := by decide +kernel
theorem d_A_openAt_21 : decode b_A_openAt 21 = .ok (.ireturn, 1) := by decide +kernel
theorem d_A_openAt_22 : decode b_A_openAt 22 = .ok (.iinc 2 1, 3) := by decide +kernel
theorem d_A_openAt_25 : decode b_A_openAt 25 = .ok (.goto (-23), 3) := by decide +kernel
theorem d_A_openAt_28 : decode b_A_openAt 28 = .ok (.iconst (-1), 1) := by decide +kernel
theorem d_A_openAt_29 : decode b_A_openAt 29 = .ok (.ireturn, 1) := by decide +kernel
theorem d_A_meet_0 : decode b_A_meet 0 = .ok (.aload_n 0, 1) := by decide +kernel
theorem d_A_meet_1 : decode b_A_meet 1 = .ok (.iload_n 1, 1) := by decide +kernel
theorem d_A_meet_2 : decode b_A_meet 2 = .ok (.invokevirtual 58, 3) := by decide +kernel
theorem d_A_meet_5 : decode b_A_meet 5 = .ok (.istore_n 2, 1) := by decide +kernel
theorem d_A_meet_6 : decode b_A_meet 6 = .ok (.iload_n 2, 1) := by decide +kernel
theorem d_A_meet_7 : decode b_A_meet 7 = .ok (.iconst (-1), 1) := by decide +kernel
theorem d_A_meet_8 : decode b_A_meet 8 = .ok (.if_icmp .ne 4, 3) := by decide +kernel
theorem d_A_meet_11 : decode b_A_meet 11 = .ok (.return_, 1) := by decide +kernel
theorem d_A_meet_12 : decode b_A_meet 12 = .ok (.aload_n 0, 1) := by decide +kernel
theorem d_A_meet_13 : decode b_A_meet 13 = .ok (.aload_n 0, 1) := by decide +kernel
theorem d_A_meet_14 : decode b_A_meet 14 = .ok (.getfield 19, 3) := by decide +kernel
theorem d_A_meet_17 : decode b_A_meet 17 = .ok (.iload_n 2, 1) := by decide +kernel
theorem d_A_meet_18 : decode b_A_meet 18 = .ok (.isub, 1) := by decide +kernel
theorem d_A_meet_19 : decode b_A_meet 19 = .ok (.putfield 9, 3) := by decide +kernel
theorem d_A_meet_22 : decode b_A_meet 22 = .ok (.aload_n 0, 1) := by decide +kernel
theorem d_A_meet_23 : decode b_A_meet 23 = .ok (.getfield 22, 3) := by decide +kernel
theorem d_A_meet_26 : decode b_A_meet 26 = .ok (.iload_n 2, 1) := by decide +kernel
theorem d_A_meet_27 : decode b_A_meet 27 = .ok (.aload_n 0, 1) := by decide +kernel
theorem d_A_meet_28 : decode b_A_meet 28 = .ok (.getfield 15, 3) := by decide +kernel
theorem d_A_meet_31 : decode b_A_meet 31 = .ok (.iconst 0, 1) := by decide +kernel
theorem d_A_meet_32 : decode b_A_meet 32 = .ok (.aload_n 0, 1) := by decide +kernel
theorem d_A_meet_33 : decode b_A_meet 33 = .ok (.getfield 9, 3) := by decide +kernel
theorem d_A_meet_36 : decode b_A_meet 36 = .ok (.invokestatic 62, 3) := by decide +kernel
theorem d_A_meet_39 : decode b_A_meet 39 = .ok (.return_, 1) := by decide +kernel
theorem d_E_init_0 : decode b_E_init 0 = .ok (.aload_n 0, 1) := by decide +kernel
theorem d_E_init_1 : decode b_E_init 1 = .ok (.invokespecial 3, 3) := by decide +kernel
theorem d_E_init_4 : decode b_E_init 4 = .ok (.aload_n 0, 1) := by decide +kernel
theorem d_E_init_5 : decode b_E_init 5 = .ok (.iconst 0, 1) := by decide +kernel
theorem d_E_init_6 : decode b_E_init 6 = .ok (.putfield 9, 3) := by decide +kernel
theorem d_E_init_9 : decode b_E_init 9 = .ok (.aload_n 0, 1) := by decide +kernel
theorem d_E_init_10 : decode b_E_init 10 = .ok (.sipush 160, 3) := by decide +kernel
theorem d_E_init_13 : decode b_E_init 13 = .ok (.newarray .int, 2) := by decide +kernel
theorem d_E_init_15 : decode b_E_init 15 = .ok (.putfield 15, 3) := by decide +kernel
theorem d_E_init_18 : decode b_E_init 18 = .ok (.aload_n 0, 1) := by decide +kernel
theorem d_E_init_19 : decode b_E_init 19 = .ok (.sipush 160, 3) := by decide +kernel
theorem d_E_init_22 : decode b_E_init 22 = .ok (.newarray .int, 2) := by decide +kernel
theorem d_E_init_24 : decode b_E_init 24 = .ok (.putfield 19, 3) := by decide +kernel
theorem d_E_init_27 : decode b_E_init 27 = .ok (.aload_n 0, 1) := by decide +kernel
theorem d_E_init_28 : decode b_E_init 28 = .ok (.sipush 160, 3) := by decide +kernel
theorem d_E_init_31 : decode b_E_init 31 = .ok (.newarray .int, 2) := by decide +kernel
theorem d_E_init_33 : decode b_E_init 33 = .ok (.putfield 22, 3) := by decide +kernel
theorem d_E_init_36 : decode b_E_init 36 = .ok (.aload_n 0, 1) := by decide +kernel
theorem d_E_init_37 : decode b_E_init 37 = .ok (.sipush 160, 3) := by decide +kernel
theorem d_E_init_40 : decode b_E_init 40 = .ok (.newarray .int, 2) := by decide +kernel
theorem d_E_init_42 : decode b_E_init 42 = .ok (.putfield 25, 3) := by decide +kernel
theorem d_E_init_45 : decode b_E_init 45 = .ok (.aload_n 0, 1) := by decide +kernel
theorem d_E_init_46 : decode b_E_init 46 = .ok (.sipush 160, 3) := by decide +kernel
theorem d_E_init_49 : decode b_E_init 49 = .ok (.newarray .boolean, 2) := by decide +kernel
theorem d_E_init_51 : decode b_E_init 51 = .ok (.putfield 28, 3) := by decide +kernel
theorem d_E_init_54 : decode b_E_init 54 = .ok (.return_, 1) := by decide +kernel
theorem d_E_add_0 : decode b_E_add 0 = .ok (.aload_n 0, 1) := by decide +kernel
theorem d_E_add_1 : decode b_E_add 1 = .ok (.getfield 9, 3) := by decide +kernel
theorem d_E_add_4 : decode b_E_add 4 = .ok (.sipush 160, 3) := by decide +kernel
theorem d_E_add_7 : decode b_E_add 7 = .ok (.if_icmp .lt 5, 3) := by decide +kernel
theorem d_E_add_10 : decode b_E_add 10 = .ok (.iconst (-1), 1) := by decide +kernel
theorem d_E_add_11 : decode b_E_add 11 = .ok (.ireturn, 1) := by decide +kernel
theorem d_E_add_12 : decode b_E_add 12 = .ok (.aload_n 0, 1) := by decide +kernel
theorem d_E_add_13 : decode b_E_add 13 = .ok (.getfield 9, 3) := by decide +kernel
theorem d_E_add_16 : decode b_E_add 16 = .ok (.istore 5, 2) := by decide +kernel
theorem d_E_add_18 : decode b_E_add 18 = .ok (.aload_n 0, 1) := by decide +kernel
theorem d_E_add_19 : decode b_E_add 19 = .ok (.getfield 15, 3) := by decide +kernel
theorem d_E_add_22 : decode b_E_add 22 = .ok (.iload 5, 2) := by decide +kernel
theorem d_E_add_24 : decode b_E_add 24 = .ok (.iload_n 1, 1) := by decide +kernel
theorem d_E_add_25 : decode b_E_add 25 = .ok (.iastore, 1) := by decide +kernel
theorem d_E_add_26 : decode b_E_add 26 = .ok (.aload_n 0, 1) := by decide +kernel
theorem d_E_add_27 : decode b_E_add 27 = .ok (.getfield 19, 3) := by decide +kernel
theorem d_E_add_30 : decode b_E_add 30 = .ok (.iload 5, 2) := by decide +kernel
theorem d_E_add_32 : decode b_E_add 32 = .ok (.iload_n 2, 1) := by decide +kernel
theorem d_E_add_33 : decode b_E_add 33 = .ok (.iastore, 1) := by decide +kernel
theorem d_E_add_34 : decode b_E_add 34 = .ok (.aload_n 0, 1) := by decide +kernel
theorem d_E_add_35 : decode b_E_add 35 = .ok (.getfield 22, 3) := by decide +kernel
theorem d_E_add_38 : decode b_E_add 38 = .ok (.iload 5, 2) := by decide +kernel
theorem d_E_add_40 : decode b_E_add 40 = .ok (.iload_n 3, 1) := by decide +kernel
theorem d_E_add_41 : decode b_E_add 41 = .ok (.iastore, 1) := by decide +kernel
theorem d_E_add_42 : decode b_E_add 42 = .ok (.aload_n 0, 1) := by decide +kernel
theorem d_E_add_43 : decode b_E_add 43 = .ok (.getfield 25, 3) := by decide +kernel
theorem d_E_add_46 : decode b_E_add 46 = .ok (.iload 5, 2) := by decide +kernel
theorem d_E_add_48 : decode b_E_add 48 = .ok (.iload 4, 2) := by decide +kernel
theorem d_E_add_50 : decode b_E_add 50 = .ok (.sipush 255, 3) := by decide +kernel
theorem d_E_add_53 : decode b_E_add 53 = .ok (.iand, 1) := by decide +kernel
theorem d_E_add_54 : decode b_E_add 54 = .ok (.iastore, 1) := by decide +kernel
theorem d_E_add_55 : decode b_E_add 55 = .ok (.aload_n 0, 1) := by decide +kernel
theorem d_E_add_56 : decode b_E_add 56 = .ok (.dup, 1) := by decide +kernel
theorem d_E_add_57 : decode b_E_add 57 = .ok (.getfield 9, 3) := by decide +kernel
theorem d_E_add_60 : decode b_E_add 60 = .ok (.iconst 1, 1) := by decide +kernel
theorem d_E_add_61 : decode b_E_add 61 = .ok (.iadd, 1) := by decide +kernel
theorem d_E_add_62 : decode b_E_add 62 = .ok (.putfield 9, 3) := by decide +kernel
theorem d_E_add_65 : decode b_E_add 65 = .ok (.iload 5, 2) := by decide +kernel
theorem d_E_add_67 : decode b_E_add 67 = .ok (.ireturn, 1) := by decide +kernel
theorem d_E_drop_0 : decode b_E_drop 0 = .ok (.aload_n 0, 1) := by decide +kernel
theorem d_E_drop_1 : decode b_E_drop 1 = .ok (.iload_n 1, 1) := by decide +kernel
theorem d_E_drop_2 : decode b_E_drop 2 = .ok (.invokevirtual 32, 3) := by decide +kernel
theorem d_E_drop_5 : decode b_E_drop 5 = .ok (.ifCond .eq 12, 3) := by decide +kernel
theorem d_E_drop_8 : decode b_E_drop 8 = .ok (.aload_n 0, 1) := by decide +kernel
theorem d_E_drop_9 : decode b_E_drop 9 = .ok (.getfield 28, 3) := by decide +kernel
theorem d_E_drop_12 : decode b_E_drop 12 = .ok (.iload_n 1, 1) := by decide +kernel
theorem d_E_drop_13 : decode b_E_drop 13 = .ok (.baload, 1) := by decide +kernel
theorem d_E_drop_14 : decode b_E_drop 14 = .ok (.ifCond .eq 5, 3) := by decide +kernel
theorem d_E_drop_17 : decode b_E_drop 17 = .ok (.iconst 0, 1) := by decide +kernel
theorem d_E_drop_18 : decode b_E_drop 18 = .ok (.ireturn, 1) := by decide +kernel
theorem d_E_drop_19 : decode b_E_drop 19 = .ok (.aload_n 0, 1) := by decide +kernel
theorem d_E_drop_20 : decode b_E_drop 20 = .ok (.getfield 28, 3) := by decide +kernel
theorem d_E_drop_23 : decode b_E_drop 23 = .ok (.iload_n 1, 1) := by decide +kernel
theorem d_E_drop_24 : decode b_E_drop 24 = .ok (.iconst 1, 1) := by decide +kernel
theorem d_E_drop_25 : decode b_E_drop 25 = .ok (.bastore, 1) := by decide +kernel
theorem d_E_drop_26 : decode b_E_drop 26 = .ok (.iconst 1, 1) := by decide +kernel
theorem d_E_drop_27 : decode b_E_drop 27 = .ok (.ireturn, 1) := by decide +kernel
theorem d_E_dropBetween_0 : decode b_E_dropBetween 0 = .ok (.iconst 0, 1) := by decide +kernel
theorem d_E_dropBetween_1 : decode b_E_dropBetween 1 = .ok (.istore_n 3, 1) := by decide +kernel
theorem d_E_dropBetween_2 : decode b_E_dropBetween 2 = .ok (.iconst 0, 1) := by decide +kernel
theorem d_E_dropBetween_3 : decode b_E_dropBetween 3 = .ok (.istore 4, 2) := by decide +kernel
theorem d_E_dropBetween_5 : decode b_E_dropBetween 5 = .ok (.iload 4, 2) := by decide +kernel
theorem d_E_dropBetween_7 : decode b_E_dropBetween 7 = .ok (.aload_n 0, 1) := by decide +kernel
theorem d_E_dropBetween_8 : decode b_E_dropBetween 8 = .ok (.getfield 9, 3) := by decide +kernel
theorem d_E_dropBetween_11 : decode b_E_dropBetween 11 = .ok (.if_icmp .ge 32, 3) := by decide +kernel
theorem d_E_dropBetween_14 : decode b_E_dropBetween 14 = .ok (.aload_n 0, 1) := by decide +kernel
theorem d_E_dropBetween_15 : decode b_E_dropBetween 15 = .ok (.iload 4, 2) := by decide +kernel
theorem d_E_dropBetween_17 : decode b_E_dropBetween 17 = .ok (.iload_n 1, 1) := by decide +kernel
theorem d_E_dropBetween_18 : decode b_E_dropBetween 18 = .ok (.iload_n 2, 1) := by decide +kernel
theorem d_E_dropBetween_19 : decode b_E_dropBetween 19 = .ok (.invokevirtual 36, 3) := by decide +kernel
theorem d_E_dropBetween_22 : decode b_E_dropBetween 22 = .ok (.ifCond .eq 15, 3) := by decide +kernel
theorem d_E_dropBetween_25 : decode b_E_dropBetween 25 = .ok (.aload_n 0, 1) := by decide +kernel
theorem d_E_dropBetween_26 : decode b_E_dropBetween 26 = .ok (.iload 4, 2) := by decide +kernel
theorem d_E_dropBetween_28 : decode b_E_dropBetween 28 = .ok (.invokevirtual 40, 3) := by decide +kernel
theorem d_E_dropBetween_31 : decode b_E_dropBetween 31 = .ok (.ifCond .eq 6, 3) := by decide +kernel
theorem d_E_dropBetween_34 : decode b_E_dropBetween 34 = .ok (.iinc 3 1, 3) := by decide +kernel
theorem d_E_dropBetween_37 : decode b_E_dropBetween 37 = .ok (.iinc 4 1, 3) := by decide +kernel
theorem d_E_dropBetween_40 : decode b_E_dropBetween 40 = .ok (.goto (-35), 3) := by decide +kernel
theorem d_E_dropBetween_43 : decode b_E_dropBetween 43 = .ok (.iload_n 3, 1) := by decide +kernel
theorem d_E_dropBetween_44 : decode b_E_dropBetween 44 = .ok (.ireturn, 1) := by decide +kernel
theorem d_E_placeOf_0 : decode b_E_placeOf 0 = .ok (.aload_n 0, 1) := by decide +kernel
theorem d_E_placeOf_1 : decode b_E_placeOf 1 = .ok (.iload_n 1, 1) := by decide +kernel
theorem d_E_placeOf_2 : decode b_E_placeOf 2 = .ok (.invokevirtual 32, 3) := by decide +kernel
theorem d_E_placeOf_5 : decode b_E_placeOf 5 = .ok (.ifCond .eq 12, 3) := by decide +kernel
theorem d_E_placeOf_8 : decode b_E_placeOf 8 = .ok (.aload_n 0, 1) := by decide +kernel
theorem d_E_placeOf_9 : decode b_E_placeOf 9 = .ok (.getfield 22, 3) := by decide +kernel
theorem d_E_placeOf_12 : decode b_E_placeOf 12 = .ok (.iload_n 1, 1) := by decide +kernel
theorem d_E_placeOf_13 : decode b_E_placeOf 13 = .ok (.iaload, 1) := by decide +kernel
theorem d_E_placeOf_14 : decode b_E_placeOf 14 = .ok (.goto 4, 3) := by decide +kernel
theorem d_E_placeOf_17 : decode b_E_placeOf 17 = .ok (.iconst (-1), 1) := by decide +kernel
theorem d_E_placeOf_18 : decode b_E_placeOf 18 = .ok (.ireturn, 1) := by decide +kernel
theorem d_E_isIn_0 : decode b_E_isIn 0 = .ok (.aload_n 0, 1) := by decide +kernel
theorem d_E_isIn_1 : decode b_E_isIn 1 = .ok (.iload_n 1, 1) := by decide +kernel
theorem d_E_isIn_2 : decode b_E_isIn 2 = .ok (.invokevirtual 32, 3) := by decide +kernel
theorem d_E_isIn_5 : decode b_E_isIn 5 = .ok (.ifCond .eq 29, 3) := by decide +kernel
theorem d_E_isIn_8 : decode b_E_isIn 8 = .ok (.aload_n 0, 1) := by decide +kernel
theorem d_E_isIn_9 : decode b_E_isIn 9 = .ok (.getfield 28, 3) := by decide +kernel
theorem d_E_isIn_12 : decode b_E_isIn 12 = .ok (.iload_n 1, 1) := by decide +kernel
theorem d_E_isIn_13 : decode b_E_isIn 13 = .ok (.baload, 1) := by decide +kernel
theorem d_E_isIn_14 : decode b_E_isIn 14 = .ok (.ifCond .ne 20, 3) := by decide +kernel
theorem d_E_isIn_17 : decode b_E_isIn 17 = .ok (.aload_n 0, 1) := by decide +kernel
theorem d_E_isIn_18 : decode b_E_isIn 18 = .ok (.getfield 25, 3) := by decide +kernel
theorem d_E_isIn_21 : decode b_E_isIn 21 = .ok (.iload_n 1, 1) := by decide +kernel
theorem d_E_isIn_22 : decode b_E_isIn 22 = .ok (.iaload, 1) := by decide +kernel
theorem d_E_isIn_23 : decode b_E_isIn 23 = .ok (.iload_n 2, 1) := by decide +kernel
theorem d_E_isIn_24 : decode b_E_isIn 24 = .ok (.ishr, 1) := by decide +kernel
theorem d_E_isIn_25 : decode b_E_isIn 25 = .ok (.iconst 1, 1) := by decide +kernel
theorem d_E_isIn_26 : decode b_E_isIn 26 = .ok (.iand, 1) := by decide +kernel
theorem d_E_isIn_27 : decode b_E_isIn 27 = .ok (.ifCond .eq 7, 3) := by decide +kernel
theorem d_E_isIn_30 : decode b_E_isIn 30 = .ok (.iconst 1, 1) := by decide +kernel
theorem d_E_isIn_31 : decode b_E_isIn 31 = .ok (.goto 4, 3) := by decide +kernel
theorem d_E_isIn_34 : decode b_E_isIn 34 = .ok (.iconst 0, 1) := by decide +kernel
theorem d_E_isIn_35 : decode b_E_isIn 35 = .ok (.ireturn, 1) := by decide +kernel
theorem d_E_leastPlaced_0 : decode b_E_leastPlaced 0 = .ok (.iconst (-1), 1) := by decide +kernel
theorem d_E_leastPlaced_1 : decode b_E_leastPlaced 1 = .ok (.istore 4, 2) := by decide +kernel
theorem d_E_leastPlaced_3 : decode b_E_leastPlaced 3 = .ok (.iconst 0, 1) := by decide +kernel
theorem d_E_leastPlaced_4 : decode b_E_leastPlaced 4 = .ok (.istore 5, 2) := by decide +kernel
theorem d_E_leastPlaced_6 : decode b_E_leastPlaced 6 = .ok (.iload 5, 2) := by decide +kernel
theorem d_E_leastPlaced_8 : decode b_E_leastPlaced 8 = .ok (.aload_n 0, 1) := by decide +kernel
theorem d_E_leastPlaced_9 : decode b_E_leastPlaced 9 = .ok (.getfield 9, 3) := by decide +kernel
theorem d_E_leastPlaced_12 : decode b_E_leastPlaced 12 = .ok (.if_icmp .ge 57, 3) := by decide +kernel
theorem d_E_leastPlaced_15 : decode b_E_leastPlaced 15 = .ok (.aload_n 0, 1) := by decide +kernel
theorem d_E_leastPlaced_16 : decode b_E_leastPlaced 16 = .ok (.iload 5, 2) := by decide +kernel
theorem d_E_leastPlaced_18 : decode b_E_leastPlaced 18 = .ok (.iload_n 1, 1) := by decide +kernel
theorem d_E_leastPlaced_19 : decode b_E_leastPlaced 19 = .ok (.iload_n 2, 1) := by decide +kernel
theorem d_E_leastPlaced_20 : decode b_E_leastPlaced 20 = .ok (.invokevirtual 36, 3) := by decide +kernel
theorem d_E_leastPlaced_23 : decode b_E_leastPlaced 23 = .ok (.ifCond .eq 40, 3) := by decide +kernel
theorem d_E_leastPlaced_26 : decode b_E_leastPlaced 26 = .ok (.aload_n 0, 1) := by decide +kernel
theorem d_E_leastPlaced_27 : decode b_E_leastPlaced 27 = .ok (.iload 5, 2) := by decide +kernel
theorem d_E_leastPlaced_29 : decode b_E_leastPlaced 29 = .ok (.iload_n 3, 1) := by decide +kernel
theorem d_E_leastPlaced_30 : decode b_E_leastPlaced 30 = .ok (.invokevirtual 43, 3) := by decide +kernel
theorem d_E_leastPlaced_33 : decode b_E_leastPlaced 33 = .ok (.ifCond .eq 30, 3) := by decide +kernel
theorem d_E_leastPlaced_36 : decode b_E_leastPlaced 36 = .ok (.iload 4, 2) := by decide +kernel
theorem d_E_leastPlaced_38 : decode b_E_leastPlaced 38 = .ok (.iconst (-1), 1) := by decide +kernel
theorem d_E_leastPlaced_39 : decode b_E_leastPlaced 39 = .ok (.if_icmp .eq 20, 3) := by decide +kernel
theorem d_E_leastPlaced_42 : decode b_E_leastPlaced 42 = .ok (.aload_n 0, 1) := by decide +kernel
theorem d_E_leastPlaced_43 : decode b_E_leastPlaced 43 = .ok (.getfield 22, 3) := by decide +kernel
theorem d_E_leastPlaced_46 : decode b_E_leastPlaced 46 = .ok (.iload 5, 2) := by decide +kernel
theorem d_E_leastPlaced_48 : decode b_E_leastPlaced 48 = .ok (.iaload, 1) := by decide +kernel
theorem d_E_leastPlaced_49 : decode b_E_leastPlaced 49 = .ok (.aload_n 0, 1) := by decide +kernel
theorem d_E_leastPlaced_50 : decode b_E_leastPlaced 50 = .ok (.getfield 22, 3) := by decide +kernel
theorem d_E_leastPlaced_53 : decode b_E_leastPlaced 53 = .ok (.iload 4, 2) := by decide +kernel
theorem d_E_leastPlaced_55 : decode b_E_leastPlaced 55 = .ok (.iaload, 1) := by decide +kernel
theorem d_E_leastPlaced_56 : decode b_E_leastPlaced 56 = .ok (.if_icmp .ge 7, 3) := by decide +kernel
theorem d_E_leastPlaced_59 : decode b_E_leastPlaced 59 = .ok (.iload 5, 2) := by decide +kernel
theorem d_E_leastPlaced_61 : decode b_E_leastPlaced 61 = .ok (.istore 4, 2) := by decide +kernel
theorem d_E_leastPlaced_63 : decode b_E_leastPlaced 63 = .ok (.iinc 5 1, 3) := by decide +kernel
theorem d_E_leastPlaced_66 : decode b_E_leastPlaced 66 = .ok (.goto (-60), 3) := by decide +kernel
theorem d_E_leastPlaced_69 : decode b_E_leastPlaced 69 = .ok (.iload 4, 2) := by decide +kernel
theorem d_E_leastPlaced_71 : decode b_E_leastPlaced 71 = .ok (.ireturn, 1) := by decide +kernel
theorem d_E_configurationsBetween_0 : decode b_E_configurationsBetween 0 = .ok (.iconst 0, 1) := by decide +kernel
theorem d_E_configurationsBetween_1 : decode b_E_configurationsBetween 1 = .ok (.istore_n 3, 1) := by decide +kernel
theorem d_E_configurationsBetween_2 : decode b_E_configurationsBetween 2 = .ok (.iconst 0, 1) := by decide +kernel
theorem d_E_configurationsBetween_3 : decode b_E_configurationsBetween 3 = .ok (.istore 4, 2) := by decide +kernel
theorem d_E_configurationsBetween_5 : decode b_E_configurationsBetween 5 = .ok (.iload 4, 2) := by decide +kernel
theorem d_E_configurationsBetween_7 : decode b_E_configurationsBetween 7 = .ok (.aload_n 0, 1) := by decide +kernel
theorem d_E_configurationsBetween_8 : decode b_E_configurationsBetween 8 = .ok (.getfield 9, 3) := by decide +kernel
theorem d_E_configurationsBetween_11 : decode b_E_configurationsBetween 11 = .ok (.if_icmp .ge 40, 3) := by decide +kernel
theorem d_E_configurationsBetween_14 : decode b_E_configurationsBetween 14 = .ok (.aload_n 0, 1) := by decide +kernel
theorem d_E_configurationsBetween_15 : decode b_E_configurationsBetween 15 = .ok (.iload 4, 2) := by decide +kernel
theorem d_E_configurationsBetween_17 : decode b_E_configurationsBetween 17 = .ok (.iload_n 1, 1) := by decide +kernel
theorem d_E_configurationsBetween_18 : decode b_E_configurationsBetween 18 = .ok (.iload_n 2, 1) := by decide +kernel
theorem d_E_configurationsBetween_19 : decode b_E_configurationsBetween 19 = .ok (.invokevirtual 36, 3) := by decide +kernel
theorem d_E_configurationsBetween_22 : decode b_E_configurationsBetween 22 = .ok (.ifCond .eq 23, 3) := by decide +kernel
theorem d_E_configurationsBetween_25 : decode b_E_configurationsBetween 25 = .ok (.aload_n 0, 1) := by decide +kernel
theorem d_E_configurationsBetween_26 : decode b_E_configurationsBetween 26 = .ok (.getfield 28, 3) := by decide +kernel
theorem d_E_configurationsBetween_29 : decode b_E_configurationsBetween 29 = .ok (.iload 4, 2) := by decide +kernel
theorem d_E_configurationsBetween_31 : decode b_E_configurationsBetween 31 = .ok (.baload, 1) := by decide +kernel
theorem d_E_configurationsBetween_32 : decode b_E_configurationsBetween 32 = .ok (.ifCond .ne 13, 3) := by decide +kernel
theorem d_E_configurationsBetween_35 : decode b_E_configurationsBetween 35 = .ok (.iload_n 3, 1) := by decide +kernel
theorem d_E_configurationsBetween_36 : decode b_E_configurationsBetween 36 = .ok (.aload_n 0, 1) := by decide +kernel
theorem d_E_configurationsBetween_37 : decode b_E_configurationsBetween 37 = .ok (.getfield 25, 3) := by decide +kernel
theorem d_E_configurationsBetween_40 : decode b_E_configurationsBetween 40 = .ok (.iload 4, 2) := by decide +kernel
theorem d_E_configurationsBetween_42 : decode b_E_configurationsBetween 42 = .ok (.iaload, 1) := by decide +kernel
theorem d_E_configurationsBetween_43 : decode b_E_configurationsBetween 43 = .ok (.ior, 1) := by decide +kernel
theorem d_E_configurationsBetween_44 : decode b_E_configurationsBetween 44 = .ok (.istore_n 3, 1) := by decide +kernel
theorem d_E_configurationsBetween_45 : decode b_E_configurationsBetween 45 = .ok (.iinc 4 1, 3) := by decide +kernel
theorem d_E_configurationsBetween_48 : decode b_E_configurationsBetween 48 = .ok (.goto (-43), 3) := by decide +kernel
theorem d_E_configurationsBetween_51 : decode b_E_configurationsBetween 51 = .ok (.iload_n 3, 1) := by decide +kernel
theorem d_E_configurationsBetween_52 : decode b_E_configurationsBetween 52 = .ok (.ireturn, 1) := by decide +kernel
theorem d_E_has_0 : decode b_E_has 0 = .ok (.iload_n 1, 1) := by decide +kernel
theorem d_E_has_1 : decode b_E_has 1 = .ok (.ifCond .lt 15, 3) := by decide +kernel
theorem d_E_has_4 : decode b_E_has 4 = .ok (.iload_n 1, 1) := by decide +kernel
theorem d_E_has_5 : decode b_E_has 5 = .ok (.aload_n 0, 1) := by decide +kernel
theorem d_E_has_6 : decode b_E_has 6 = .ok (.getfield 9, 3) := by decide +kernel
theorem d_E_has_9 : decode b_E_has 9 = .ok (.if_icmp .ge 7, 3) := by decide +kernel
theorem d_E_has_12 : decode b_E_has 12 = .ok (.iconst 1, 1) := by decide +kernel
theorem d_E_has_13 : decode b_E_has 13 = .ok (.goto 4, 3) := by decide +kernel
theorem d_E_has_16 : decode b_E_has 16 = .ok (.iconst 0, 1) := by decide +kernel
theorem d_E_has_17 : decode b_E_has 17 = .ok (.ireturn, 1) := by decide +kernel
theorem d_E_joins_0 : decode b_E_joins 0 = .ok (.aload_n 0, 1) := by decide +kernel
theorem d_E_joins_1 : decode b_E_joins 1 = .ok (.getfield 15, 3) := by decide +kernel
theorem d_E_joins_4 : decode b_E_joins 4 = .ok (.iload_n 1, 1) := by decide +kernel
theorem d_E_joins_5 : decode b_E_joins 5 = .ok (.iaload, 1) := by decide +kernel
theorem d_E_joins_6 : decode b_E_joins 6 = .ok (.iload_n 2, 1) := by decide +kernel
theorem d_E_joins_7 : decode b_E_joins 7 = .ok (.if_icmp .ne 17, 3) := by decide +kernel
theorem d_E_joins_10 : decode b_E_joins 10 = .ok (.aload_n 0, 1) := by decide +kernel
theorem d_E_joins_11 : decode b_E_joins 11 = .ok (.getfield 19, 3) := by decide +kernel
theorem d_E_joins_14 : decode b_E_joins 14 = .ok (.iload_n 1, 1) := by decide +kernel
theorem d_E_joins_15 : decode b_E_joins 15 = .ok (.iaload, 1) := by decide +kernel
theorem d_E_joins_16 : decode b_E_joins 16 = .ok (.iload_n 3, 1) := by decide +kernel
theorem d_E_joins_17 : decode b_E_joins 17 = .ok (.if_icmp .ne 7, 3) := by decide +kernel
theorem d_E_joins_20 : decode b_E_joins 20 = .ok (.iconst 1, 1) := by decide +kernel
theorem d_E_joins_21 : decode b_E_joins 21 = .ok (.goto 4, 3) := by decide +kernel
theorem d_E_joins_24 : decode b_E_joins 24 = .ok (.iconst 0, 1) := by decide +kernel
theorem d_E_joins_25 : decode b_E_joins 25 = .ok (.ireturn, 1) := by decide +kernel
theorem d_K_init_0 : decode b_K_init 0 = .ok (.aload_n 0, 1) := by decide +kernel
theorem d_K_init_1 : decode b_K_init 1 = .ok (.invokespecial 3, 3) := by decide +kernel
theorem d_K_init_4 : decode b_K_init 4 = .ok (.aload_n 0, 1) := by decide +kernel
theorem d_K_init_5 : decode b_K_init 5 = .ok (.iconst 0, 1) := by decide +kernel
theorem d_K_init_6 : decode b_K_init 6 = .ok (.putfield 9, 3) := by decide +kernel
theorem d_K_init_9 : decode b_K_init 9 = .ok (.aload_n 0, 1) := by decide +kernel
theorem d_K_init_10 : decode b_K_init 10 = .ok (.bipush 40, 2) := by decide +kernel
theorem d_K_init_12 : decode b_K_init 12 = .ok (.newarray .int, 2) := by decide +kernel
theorem d_K_init_14 : decode b_K_init 14 = .ok (.putfield 15, 3) := by decide +kernel
theorem d_K_init_17 : decode b_K_init 17 = .ok (.aload_n 0, 1) := by decide +kernel
theorem d_K_init_18 : decode b_K_init 18 = .ok (.bipush 40, 2) := by decide +kernel
theorem d_K_init_20 : decode b_K_init 20 = .ok (.newarray .int, 2) := by decide +kernel
theorem d_K_init_22 : decode b_K_init 22 = .ok (.putfield 19, 3) := by decide +kernel
theorem d_K_init_25 : decode b_K_init 25 = .ok (.aload_n 0, 1) := by decide +kernel
theorem d_K_init_26 : decode b_K_init 26 = .ok (.bipush 40, 2) := by decide +kernel
theorem d_K_init_28 : decode b_K_init 28 = .ok (.newarray .int, 2) := by decide +kernel
theorem d_K_init_30 : decode b_K_init 30 = .ok (.putfield 22, 3) := by decide +kernel
theorem d_K_init_33 : decode b_K_init 33 = .ok (.return_, 1) := by decide +kernel
theorem d_K_has_0 : decode b_K_has 0 = .ok (.iload_n 1, 1) := by decide +kernel
theorem d_K_has_1 : decode b_K_has 1 = .ok (.ifCond .lt 15, 3) := by decide +kernel
theorem d_K_has_4 : decode b_K_has 4 = .ok (.iload_n 1, 1) := by decide +kernel
theorem d_K_has_5 : decode b_K_has 5 = .ok (.aload_n 0, 1) := by decide +kernel
theorem d_K_has_6 : decode b_K_has 6 = .ok (.getfield 9, 3) := by decide +kernel
theorem d_K_has_9 : decode b_K_has 9 = .ok (.if_icmp .ge 7, 3) := by decide +kernel
theorem d_K_has_12 : decode b_K_has 12 = .ok (.iconst 1, 1) := by decide +kernel
theorem d_K_has_13 : decode b_K_has 13 = .ok (.goto 4, 3) := by decide +kernel
theorem d_K_has_16 : decode b_K_has 16 = .ok (.iconst 0, 1) := by decide +kernel
theorem d_K_has_17 : decode b_K_has 17 = .ok (.ireturn, 1) := by decide +kernel
theorem d_K_add_0 : decode b_K_add 0 = .ok (.aload_n 0, 1) := by decide +kernel
theorem d_K_add_1 : decode b_K_add 1 = .ok (.getfield 9, 3) := by decide +kernel
theorem d_K_add_4 : decode b_K_add 4 = .ok (.bipush 40, 2) := by decide +kernel
theorem d_K_add_6 : decode b_K_add 6 = .ok (.if_icmp .ge 11, 3) := by decide +kernel
theorem d_K_add_9 : decode b_K_add 9 = .ok (.aload_n 0, 1) := by decide +kernel
theorem d_K_add_10 : decode b_K_add 10 = .ok (.iload_n 1, 1) := by decide +kernel
theorem d_K_add_11 : decode b_K_add 11 = .ok (.invokevirtual 25, 3) := by decide +kernel
theorem d_K_add_14 : decode b_K_add 14 = .ok (.ifCond .eq 5, 3) := by decide +kernel
theorem d_K_add_17 : decode b_K_add 17 = .ok (.iconst (-1), 1) := by decide +kernel
theorem d_K_add_18 : decode b_K_add 18 = .ok (.ireturn, 1) := by decide +kernel
theorem d_K_add_19 : decode b_K_add 19 = .ok (.aload_n 0, 1) := by decide +kernel
theorem d_K_add_20 : decode b_K_add 20 = .ok (.getfield 9, 3) := by decide +kernel
theorem d_K_add_23 : decode b_K_add 23 = .ok (.istore_n 2, 1) := by decide +kernel
theorem d_K_add_24 : decode b_K_add 24 = .ok (.aload_n 0, 1) := by decide +kernel
theorem d_K_add_25 : decode b_K_add 25 = .ok (.getfield 15, 3) := by decide +kernel
theorem d_K_add_28 : decode b_K_add 28 = .ok (.iload_n 2, 1) := by decide +kernel
theorem d_K_add_29 : decode b_K_add 29 = .ok (.iload_n 1, 1) := by decide +kernel
theorem d_K_add_30 : decode b_K_add 30 = .ok (.iastore, 1) := by decide +kernel
theorem d_K_add_31 : decode b_K_add 31 = .ok (.aload_n 0, 1) := by decide +kernel
theorem d_K_add_32 : decode b_K_add 32 = .ok (.iload_n 2, 1) := by decide +kernel
theorem d_K_add_33 : decode b_K_add 33 = .ok (.invokevirtual 29, 3) := by decide +kernel
theorem d_K_add_36 : decode b_K_add 36 = .ok (.aload_n 0, 1) := by decide +kernel
theorem d_K_add_37 : decode b_K_add 37 = .ok (.dup, 1) := by decide +kernel
theorem d_K_add_38 : decode b_K_add 38 = .ok (.getfield 9, 3) := by decide +kernel
theorem d_K_add_41 : decode b_K_add 41 = .ok (.iconst 1, 1) := by decide +kernel
theorem d_K_add_42 : decode b_K_add 42 = .ok (.iadd, 1) := by decide +kernel
theorem d_K_add_43 : decode b_K_add 43 = .ok (.putfield 9, 3) := by decide +kernel
theorem d_K_add_46 : decode b_K_add 46 = .ok (.iload_n 2, 1) := by decide +kernel
theorem d_K_add_47 : decode b_K_add 47 = .ok (.ireturn, 1) := by decide +kernel
theorem d_K_isNamed_0 : decode b_K_isNamed 0 = .ok (.iconst 0, 1) := by decide +kernel
theorem d_K_isNamed_1 : decode b_K_isNamed 1 = .ok (.istore_n 2, 1) := by decide +kernel
theorem d_K_isNamed_2 : decode b_K_isNamed 2 = .ok (.iload_n 2, 1) := by decide +kernel
theorem d_K_isNamed_3 : decode b_K_isNamed 3 = .ok (.aload_n 0, 1) := by decide +kernel
theorem d_K_isNamed_4 : decode b_K_isNamed 4 = .ok (.getfield 9, 3) := by decide +kernel
theorem d_K_isNamed_7 : decode b_K_isNamed 7 = .ok (.if_icmp .ge 21, 3) := by decide +kernel
theorem d_K_isNamed_10 : decode b_K_isNamed 10 = .ok (.aload_n 0, 1) := by decide +kernel
theorem d_K_isNamed_11 : decode b_K_isNamed 11 = .ok (.getfield 15, 3) := by decide +kernel
theorem d_K_isNamed_14 : decode b_K_isNamed 14 = .ok (.iload_n 2, 1) := by decide +kernel
theorem d_K_isNamed_15 : decode b_K_isNamed 15 = .ok (.iaload, 1) := by decide +kernel
theorem d_K_isNamed_16 : decode b_K_isNamed 16 = .ok (.iload_n 1, 1) := by decide +kernel
theorem d_K_isNamed_17 : decode b_K_isNamed 17 = .ok (.if_icmp .ne 5, 3) := by decide +kernel
theorem d_K_isNamed_20 : decode b_K_isNamed 20 = .ok (.iconst 1, 1) := by decide +kernel
theorem d_K_isNamed_21 : decode b_K_isNamed 21 = .ok (.ireturn, 1) := by decide +kernel
theorem d_K_isNamed_22 : decode b_K_isNamed 22 = .ok (.iinc 2 1, 3) := by decide +kernel
theorem d_K_isNamed_25 : decode b_K_isNamed 25 = .ok (.goto (-23), 3) := by decide +kernel
theorem d_K_isNamed_28 : decode b_K_isNamed 28 = .ok (.iconst 0, 1) := by decide +kernel
theorem d_K_isNamed_29 : decode b_K_isNamed 29 = .ok (.ireturn, 1) := by decide +kernel
theorem d_K_insert_0 : decode b_K_insert 0 = .ok (.iconst 0, 1) := by decide +kernel
theorem d_K_insert_1 : decode b_K_insert 1 = .ok (.istore_n 2, 1) := by decide +kernel
theorem d_K_insert_2 : decode b_K_insert 2 = .ok (.iconst 0, 1) := by decide +kernel
theorem d_K_insert_3 : decode b_K_insert 3 = .ok (.istore_n 3, 1) := by decide +kernel
theorem d_K_insert_4 : decode b_K_insert 4 = .ok (.iload_n 3, 1) := by decide +kernel
theorem d_K_insert_5 : decode b_K_insert 5 = .ok (.iload_n 1, 1) := by decide +kernel
theorem d_K_insert_6 : decode b_K_insert 6 = .ok (.if_icmp .ge 40, 3) := by decide +kernel
theorem d_K_insert_9 : decode b_K_insert 9 = .ok (.aload_n 0, 1) := by decide +kernel
theorem d_K_insert_10 : decode b_K_insert 10 = .ok (.getfield 15, 3) := by decide +kernel
theorem d_K_insert_13 : decode b_K_insert 13 = .ok (.iload_n 3, 1) := by decide +kernel
theorem d_K_insert_14 : decode b_K_insert 14 = .ok (.iaload, 1) := by decide +kernel
theorem d_K_insert_15 : decode b_K_insert 15 = .ok (.aload_n 0, 1) := by decide +kernel
theorem d_K_insert_16 : decode b_K_insert 16 = .ok (.getfield 15, 3) := by decide +kernel
theorem d_K_insert_19 : decode b_K_insert 19 = .ok (.iload_n 1, 1) := by decide +kernel
theorem d_K_insert_20 : decode b_K_insert 20 = .ok (.iaload, 1) := by decide +kernel
theorem d_K_insert_21 : decode b_K_insert 21 = .ok (.if_icmp .ge 9, 3) := by decide +kernel
theorem d_K_insert_24 : decode b_K_insert 24 = .ok (.iinc 2 1, 3) := by decide +kernel
theorem d_K_insert_27 : decode b_K_insert 27 = .ok (.goto 13, 3) := by decide +kernel
theorem d_K_insert_30 : decode b_K_insert 30 = .ok (.aload_n 0, 1) := by decide +kernel
theorem d_K_insert_31 : decode b_K_insert 31 = .ok (.getfield 22, 3) := by decide +kernel
theorem d_K_insert_34 : decode b_K_insert 34 = .ok (.iload_n 3, 1) := by decide +kernel
theorem d_K_insert_35 : decode b_K_insert 35 = .ok (.dup2, 1) := by decide +kernel
theorem d_K_insert_36 : decode b_K_insert 36 = .ok (.iaload, 1) := by decide +kernel
theorem d_K_insert_37 : decode b_K_insert 37 = .ok (.iconst 1, 1) := by decide +kernel
theorem d_K_insert_38 : decode b_K_insert 38 = .ok (.iadd, 1) := by decide +kernel
theorem d_K_insert_39 : decode b_K_insert 39 = .ok (.iastore, 1) := by decide +kernel
theorem d_K_insert_40 : decode b_K_insert 40 = .ok (.iinc 3 1, 3) := by decide +kernel
theorem d_K_insert_43 : decode b_K_insert 43 = .ok (.goto (-39), 3) := by decide +kernel
theorem d_K_insert_46 : decode b_K_insert 46 = .ok (.aload_n 0, 1) := by decide +kernel
theorem d_K_insert_47 : decode b_K_insert 47 = .ok (.getfield 22, 3) := by decide +kernel
theorem d_K_insert_50 : decode b_K_insert 50 = .ok (.iload_n 1, 1) := by decide +kernel
theorem d_K_insert_51 : decode b_K_insert 51 = .ok (.iload_n 2, 1) := by decide +kernel
theorem d_K_insert_52 : decode b_K_insert 52 = .ok (.iastore, 1) := by decide +kernel
theorem d_K_insert_53 : decode b_K_insert 53 = .ok (.iconst 0, 1) := by decide +kernel
theorem d_K_insert_54 : decode b_K_insert 54 = .ok (.istore_n 3, 1) := by decide +kernel
theorem d_K_insert_55 : decode b_K_insert 55 = .ok (.iload_n 3, 1) := by decide +kernel
theorem d_K_insert_56 : decode b_K_insert 56 = .ok (.iload_n 1, 1) := by decide +kernel
theorem d_K_insert_57 : decode b_K_insert 57 = .ok (.if_icmp .gt 21, 3) := by decide +kernel
theorem d_K_insert_60 : decode b_K_insert 60 = .ok (.aload_n 0, 1) := by decide +kernel
theorem d_K_insert_61 : decode b_K_insert 61 = .ok (.getfield 19, 3) := by decide +kernel
theorem d_K_insert_64 : decode b_K_insert 64 = .ok (.aload_n 0, 1) := by decide +kernel
theorem d_K_insert_65 : decode b_K_insert 65 = .ok (.getfield 22, 3) := by decide +kernel
theorem d_K_insert_68 : decode b_K_insert 68 = .ok (.iload_n 3, 1) := by decide +kernel
theorem d_K_insert_69 : decode b_K_insert 69 = .ok (.iaload, 1) := by decide +kernel
theorem d_K_insert_70 : decode b_K_insert 70 = .ok (.iload_n 3, 1) := by decide +kernel
theorem d_K_insert_71 : decode b_K_insert 71 = .ok (.iastore, 1) := by decide +kernel
theorem d_K_insert_72 : decode b_K_insert 72 = .ok (.iinc 3 1, 3) := by decide +kernel
theorem d_K_insert_75 : decode b_K_insert 75 = .ok (.goto (-20), 3) := by decide +kernel
theorem d_K_insert_78 : decode b_K_insert 78 = .ok (.return_, 1) := by decide +kernel
theorem d_R_init_0 : decode b_R_init 0 = .ok (.aload_n 0, 1) := by decide +kernel
theorem d_R_init_1 : decode b_R_init 1 = .ok (.invokespecial 3, 3) := by decide +kernel
theorem d_R_init_4 : decode b_R_init 4 = .ok (.aload_n 0, 1) := by decide +kernel
theorem d_R_init_5 : decode b_R_init 5 = .ok (.iconst 0, 1) := by decide +kernel
theorem d_R_init_6 : decode b_R_init 6 = .ok (.putfield 9, 3) := by decide +kernel
theorem d_R_init_9 : decode b_R_init 9 = .ok (.aload_n 0, 1) := by decide +kernel
theorem d_R_init_10 : decode b_R_init 10 = .ok (.bipush 40, 2) := by decide +kernel
theorem d_R_init_12 : decode b_R_init 12 = .ok (.newarray .long, 2) := by decide +kernel
theorem d_R_init_14 : decode b_R_init 14 = .ok (.putfield 15, 3) := by decide +kernel
theorem d_R_init_17 : decode b_R_init 17 = .ok (.aload_n 0, 1) := by decide +kernel
theorem d_R_init_18 : decode b_R_init 18 = .ok (.bipush 40, 2) := by decide +kernel
theorem d_R_init_20 : decode b_R_init 20 = .ok (.newarray .long, 2) := by decide +kernel
theorem d_R_init_22 : decode b_R_init 22 = .ok (.putfield 19, 3) := by decide +kernel
theorem d_R_init_25 : decode b_R_init 25 = .ok (.aload_n 0, 1) := by decide +kernel
theorem d_R_init_26 : decode b_R_init 26 = .ok (.bipush 40, 2) := by decide +kernel
theorem d_R_init_28 : decode b_R_init 28 = .ok (.newarray .int, 2) := by decide +kernel
theorem d_R_init_30 : decode b_R_init 30 = .ok (.putfield 22, 3) := by decide +kernel
theorem d_R_init_33 : decode b_R_init 33 = .ok (.aload_n 0, 1) := by decide +kernel
theorem d_R_init_34 : decode b_R_init 34 = .ok (.bipush 40, 2) := by decide +kernel
theorem d_R_init_36 : decode b_R_init 36 = .ok (.newarray .long, 2) := by decide +kernel
theorem d_R_init_38 : decode b_R_init 38 = .ok (.putfield 26, 3) := by decide +kernel
theorem d_R_init_41 : decode b_R_init 41 = .ok (.return_, 1) := by decide +kernel
theorem d_R_draw_0 : decode b_R_draw 0 = .ok (.aload_n 0, 1) := by decide +kernel
theorem d_R_draw_1 : decode b_R_draw 1 = .ok (.aload_n 1, 1) := by decide +kernel
theorem d_R_draw_2 : decode b_R_draw 2 = .ok (.getfield 29, 3) := by decide +kernel
theorem d_R_draw_5 : decode b_R_draw 5 = .ok (.putfield 9, 3) := by decide +kernel
theorem d_R_draw_8 : decode b_R_draw 8 = .ok (.iconst 0, 1) := by decide +kernel
theorem d_R_draw_9 : decode b_R_draw 9 = .ok (.istore 4, 2) := by decide +kernel
theorem d_R_draw_11 : decode b_R_draw 11 = .ok (.iload 4, 2) := by decide +kernel
theorem d_R_draw_13 : decode b_R_draw 13 = .ok (.aload_n 0, 1) := by decide +kernel
theorem d_R_draw_14 : decode b_R_draw 14 = .ok (.getfield 9, 3) := by decide +kernel
theorem d_R_draw_17 : decode b_R_draw 17 = .ok (.if_icmp .ge 17, 3) := by decide +kernel
theorem d_R_draw_20 : decode b_R_draw 20 = .ok (.aload_n 0, 1) := by decide +kernel
theorem d_R_draw_21 : decode b_R_draw 21 = .ok (.getfield 15, 3) := by decide +kernel
theorem d_R_draw_24 : decode b_R_draw 24 = .ok (.iload 4, 2) := by decide +kernel
theorem d_R_draw_26 : decode b_R_draw 26 = .ok (.lconst 0, 1) := by decide +kernel
theorem d_R_draw_27 : decode b_R_draw 27 = .ok (.lastore, 1) := by decide +kernel
theorem d_R_draw_28 : decode b_R_draw 28 = .ok (.iinc 4 1, 3) := by decide +kernel
theorem d_R_draw_31 : decode b_R_draw 31 = .ok (.goto (-20), 3) := by decide +kernel
theorem d_R_draw_34 : decode b_R_draw 34 = .ok (.iconst 0, 1) := by decide +kernel
theorem d_R_draw_35 : decode b_R_draw 35 = .ok (.istore 4, 2) := by decide +kernel
theorem d_R_draw_37 : decode b_R_draw 37 = .ok (.iload 4, 2) := by decide +kernel
theorem d_R_draw_39 : decode b_R_draw 39 = .ok (.aload_n 2, 1) := by decide +kernel
theorem d_R_draw_40 : decode b_R_draw 40 = .ok (.getfield 32, 3) := by decide +kernel
theorem d_R_draw_43 : decode b_R_draw 43 = .ok (.if_icmp .ge 53, 3) := by decide +kernel
theorem d_R_draw_46 : decode b_R_draw 46 = .ok (.aload_n 2, 1) := by decide +kernel
theorem d_R_draw_47 : decode b_R_draw 47 = .ok (.iload 4, 2) := by decide +kernel
theorem d_R_draw_49 : decode b_R_draw 49 = .ok (.iload_n 3, 1) := by decide +kernel
theorem d_R_draw_50 : decode b_R_draw 50 = .ok (.invokevirtual 35, 3) := by decide +kernel
theorem d_R_draw_53 : decode b_R_draw 53 = .ok (.ifCond .eq 37, 3) := by decide +kernel
theorem d_R_draw_56 : decode b_R_draw 56 = .ok (.aload_n 0, 1) := by decide +kernel
theorem d_R_draw_57 : decode b_R_draw 57 = .ok (.getfield 15, 3) := by decide +kernel
theorem d_R_draw_60 : decode b_R_draw 60 = .ok (.aload_n 1, 1) := by decide +kernel
theorem d_R_draw_61 : decode b_R_draw 61 = .ok (.getfield 39, 3) := by decide +kernel
theorem d_R_draw_64 : decode b_R_draw 64 = .ok (.aload_n 2, 1) := by decide +kernel
theorem d_R_draw_65 : decode b_R_draw 65 = .ok (.getfield 42, 3) := by decide +kernel
theorem d_R_draw_68 : decode b_R_draw 68 = .ok (.iload 4, 2) := by decide +kernel
theorem d_R_draw_70 : decode b_R_draw 70 = .ok (.iaload, 1) := by decide +kernel
theorem d_R_draw_71 : decode b_R_draw 71 = .ok (.iaload, 1) := by decide +kernel
theorem d_R_draw_72 : decode b_R_draw 72 = .ok (.dup2, 1) := by decide +kernel
theorem d_R_draw_73 : decode b_R_draw 73 = .ok (.laload, 1) := by decide +kernel
theorem d_R_draw_74 : decode b_R_draw 74 = .ok (.lconst 1, 1) := by decide +kernel
theorem d_R_draw_75 : decode b_R_draw 75 = .ok (.aload_n 1, 1) := by decide +kernel
theorem d_R_draw_76 : decode b_R_draw 76 = .ok (.getfield 39, 3) := by decide +kernel
theorem d_R_draw_79 : decode b_R_draw 79 = .ok (.aload_n 2, 1) := by decide +kernel
theorem d_R_draw_80 : decode b_R_draw 80 = .ok (.getfield 45, 3) := by decide +kernel
theorem d_R_draw_83 : decode b_R_draw 83 = .ok (.iload 4, 2) := by decide +kernel
theorem d_R_draw_85 : decode b_R_draw 85 = .ok (.iaload, 1) := by decide +kernel
theorem d_R_draw_86 : decode b_R_draw 86 = .ok (.iaload, 1) := by decide +kernel
theorem d_R_draw_87 : decode b_R_draw 87 = .ok (.lshl, 1) := by decide +kernel
theorem d_R_draw_88 : decode b_R_draw 88 = .ok (.lor, 1) := by decide +kernel
theorem d_R_draw_89 : decode b_R_draw 89 = .ok (.lastore, 1) := by decide +kernel
theorem d_R_draw_90 : decode b_R_draw 90 = .ok (.iinc 4 1, 3) := by decide +kernel
theorem d_R_draw_93 : decode b_R_draw 93 = .ok (.goto (-56), 3) := by decide +kernel
theorem d_R_draw_96 : decode b_R_draw 96 = .ok (.iconst 0, 1) := by decide +kernel
theorem d_R_draw_97 : decode b_R_draw 97 = .ok (.istore 4, 2) := by decide +kernel
theorem d_R_draw_99 : decode b_R_draw 99 = .ok (.iload 4, 2) := by decide +kernel
theorem d_R_draw_101 : decode b_R_draw 101 = .ok (.aload_n 0, 1) := by decide +kernel
theorem d_R_draw_102 : decode b_R_draw 102 = .ok (.getfield 9, 3) := by decide +kernel
theorem d_R_draw_105 : decode b_R_draw 105 = .ok (.if_icmp .ge 15, 3) := by decide +kernel
theorem d_R_draw_108 : decode b_R_draw 108 = .ok (.aload_n 0, 1) := by decide +kernel
theorem d_R_draw_109 : decode b_R_draw 109 = .ok (.iload 4, 2) := by decide +kernel
theorem d_R_draw_111 : decode b_R_draw 111 = .ok (.invokevirtual 48, 3) := by decide +kernel
theorem d_R_draw_114 : decode b_R_draw 114 = .ok (.iinc 4 1, 3) := by decide +kernel
theorem d_R_draw_117 : decode b_R_draw 117 = .ok (.goto (-18), 3) := by decide +kernel
theorem d_R_draw_120 : decode b_R_draw 120 = .ok (.return_, 1) := by decide +kernel
theorem d_R_shortestRing_0 : decode b_R_shortestRing 0 = .ok (.aload_n 0, 1) := by decide +kernel
theorem d_R_shortestRing_1 : decode b_R_shortestRing 1 = .ok (.getfield 22, 3) := by decide +kernel
theorem d_R_shortestRing_4 : decode b_R_shortestRing 4 = .ok (.iload_n 1, 1) := by decide +kernel
theorem d_R_shortestRing_5 : decode b_R_shortestRing 5 = .ok (.iaload, 1) := by decide +kernel
theorem d_R_shortestRing_6 : decode b_R_shortestRing 6 = .ok (.ireturn, 1) := by decide +kernel
theorem d_R_reachesRinged_0 : decode b_R_reachesRinged 0 = .ok (.iconst 0, 1) := by decide +kernel
theorem d_R_reachesRinged_1 : decode b_R_reachesRinged 1 = .ok (.istore_n 2, 1) := by decide +kernel
theorem d_R_reachesRinged_2 : decode b_R_reachesRinged 2 = .ok (.iload_n 2, 1) := by decide +kernel
theorem d_R_reachesRinged_3 : decode b_R_reachesRinged 3 = .ok (.aload_n 0, 1) := by decide +kernel
theorem d_R_reachesRinged_4 : decode b_R_reachesRinged 4 = .ok (.getfield 9, 3) := by decide +kernel
theorem d_R_reachesRinged_7 : decode b_R_reachesRinged 7 = .ok (.if_icmp .ge 33, 3) := by decide +kernel
theorem d_R_reachesRinged_10 : decode b_R_reachesRinged 10 = .ok (.aload_n 0, 1) := by decide +kernel
theorem d_R_reachesRinged_11 : decode b_R_reachesRinged 11 = .ok (.getfield 22, 3) := by decide +kernel
theorem d_R_reachesRinged_14 : decode b_R_reachesRinged 14 = .ok (.iload_n 2, 1) := by decide +kernel
theorem d_R_reachesRinged_15 : decode b_R_reachesRinged 15 = .ok (.iaload, 1) := by decide +kernel
theorem d_R_reachesRinged_16 : decode b_R_reachesRinged 16 = .ok (.ifCond .le 18, 3) := by decide +kernel
theorem d_R_reachesRinged_19 : decode b_R_reachesRinged 19 = .ok (.aload_n 0, 1) := by decide +kernel
theorem d_R_reachesRinged_20 : decode b_R_reachesRinged 20 = .ok (.getfield 19, 3) := by decide +kernel
theorem d_R_reachesRinged_23 : decode b_R_reachesRinged 23 = .ok (.iload_n 1, 1) := by decide +kernel
theorem d_R_reachesRinged_24 : decode b_R_reachesRinged 24 = .ok (.laload, 1) := by decide +kernel
theorem d_R_reachesRinged_25 : decode b_R_reachesRinged 25 = .ok (.iload_n 2, 1) := by decide +kernel
theorem d_R_reachesRinged_26 : decode b_R_reachesRinged 26 = .ok (.invokestatic 52, 3) := by decide +kernel
theorem d_R_reachesRinged_29 : decode b_R_reachesRinged 29 = .ok (.ifCond .eq 5, 3) := by decide +kernel
theorem d_R_reachesRinged_32 : decode b_R_reachesRinged 32 = .ok (.iconst 1, 1) := by decide +kernel
theorem d_R_reachesRinged_33 : decode b_R_reachesRinged 33 = .ok (.ireturn, 1) := by decide +kernel
theorem d_R_reachesRinged_34 : decode b_R_reachesRinged 34 = .ok (.iinc 2 1, 3) := by decide +kernel
theorem d_R_reachesRinged_37 : decode b_R_reachesRinged 37 = .ok (.goto (-35), 3) := by decide +kernel
theorem d_R_reachesRinged_40 : decode b_R_reachesRinged 40 = .ok (.iconst 0, 1) := by decide +kernel
theorem d_R_reachesRinged_41 : decode b_R_reachesRinged 41 = .ok (.ireturn, 1) := by decide +kernel
theorem d_R_reachEachOther_0 : decode b_R_reachEachOther 0 = .ok (.aload_n 0, 1) := by decide +kernel
theorem d_R_reachEachOther_1 : decode b_R_reachEachOther 1 = .ok (.getfield 19, 3) := by decide +kernel
theorem d_R_reachEachOther_4 : decode b_R_reachEachOther 4 = .ok (.iload_n 1, 1) := by decide +kernel
theorem d_R_reachEachOther_5 : decode b_R_reachEachOther 5 = .ok (.laload, 1) := by decide +kernel
theorem d_R_reachEachOther_6 : decode b_R_reachEachOther 6 = .ok (.iload_n 2, 1) := by decide +kernel
theorem d_R_reachEachOther_7 : decode b_R_reachEachOther 7 = .ok (.invokestatic 52, 3) := by decide +kernel
theorem d_R_reachEachOther_10 : decode b_R_reachEachOther 10 = .ok (.ifCond .eq 20, 3) := by decide +kernel
theorem d_R_reachEachOther_13 : decode b_R_reachEachOther 13 = .ok (.aload_n 0, 1) := by decide +kernel
theorem d_R_reachEachOther_14 : decode b_R_reachEachOther 14 = .ok (.getfield 19, 3) := by decide +kernel
theorem d_R_reachEachOther_17 : decode b_R_reachEachOther 17 = .ok (.iload_n 2, 1) := by decide +kernel
theorem d_R_reachEachOther_18 : decode b_R_reachEachOther 18 = .ok (.laload, 1) := by decide +kernel
theorem d_R_reachEachOther_19 : decode b_R_reachEachOther 19 = .ok (.iload_n 1, 1) := by decide +kernel
theorem d_R_reachEachOther_20 : decode b_R_reachEachOther 20 = .ok (.invokestatic 52, 3) := by decide +kernel
theorem d_R_reachEachOther_23 : decode b_R_reachEachOther 23 = .ok (.ifCond .eq 7, 3) := by decide +kernel
theorem d_R_reachEachOther_26 : decode b_R_reachEachOther 26 = .ok (.iconst 1, 1) := by decide +kernel
theorem d_R_reachEachOther_27 : decode b_R_reachEachOther 27 = .ok (.goto 4, 3) := by decide +kernel
theorem d_R_reachEachOther_30 : decode b_R_reachEachOther 30 = .ok (.iconst 0, 1) := by decide +kernel
theorem d_R_reachEachOther_31 : decode b_R_reachEachOther 31 = .ok (.ireturn, 1) := by decide +kernel
theorem d_R_layTowards_0 : decode b_R_layTowards 0 = .ok (.aload_n 0, 1) := by decide +kernel
theorem d_R_layTowards_1 : decode b_R_layTowards 1 = .ok (.getfield 26, 3) := by decide +kernel
theorem d_R_layTowards_4 : decode b_R_layTowards 4 = .ok (.iconst 0, 1) := by decide +kernel
theorem d_R_layTowards_5 : decode b_R_layTowards 5 = .ok (.lconst 1, 1) := by decide +kernel
theorem d_R_layTowards_6 : decode b_R_layTowards 6 = .ok (.iload_n 1, 1) := by decide +kernel
theorem d_R_layTowards_7 : decode b_R_layTowards 7 = .ok (.lshl, 1) := by decide +kernel
theorem d_R_layTowards_8 : decode b_R_layTowards 8 = .ok (.lastore, 1) := by decide +kernel
theorem d_R_layTowards_9 : decode b_R_layTowards 9 = .ok (.iconst 1, 1) := by decide +kernel
theorem d_R_layTowards_10 : decode b_R_layTowards 10 = .ok (.istore_n 3, 1) := by decide +kernel
theorem d_R_layTowards_11 : decode b_R_layTowards 11 = .ok (.iload_n 3, 1) := by decide +kernel
theorem d_R_layTowards_12 : decode b_R_layTowards 12 = .ok (.iload_n 2, 1) := by decide +kernel
theorem d_R_layTowards_13 : decode b_R_layTowards 13 = .ok (.if_icmp .ge 33, 3) := by decide +kernel
theorem d_R_layTowards_16 : decode b_R_layTowards 16 = .ok (.iload_n 3, 1) := by decide +kernel
theorem d_R_layTowards_17 : decode b_R_layTowards 17 = .ok (.bipush 40, 2) := by decide +kernel
theorem d_R_layTowards_19 : decode b_R_layTowards 19 = .ok (.if_icmp .ge 27, 3) := by decide +kernel
theorem d_R_layTowards_22 : decode b_R_layTowards 22 = .ok (.aload_n 0, 1) := by decide +kernel
theorem d_R_layTowards_23 : decode b_R_layTowards 23 = .ok (.getfield 26, 3) := by decide +kernel
theorem d_R_layTowards_26 : decode b_R_layTowards 26 = .ok (.iload_n 3, 1) := by decide +kernel
theorem d_R_layTowards_27 : decode b_R_layTowards 27 = .ok (.aload_n 0, 1) := by decide +kernel
theorem d_R_layTowards_28 : decode b_R_layTowards 28 = .ok (.aload_n 0, 1) := by decide +kernel
theorem d_R_layTowards_29 : decode b_R_layTowards 29 = .ok (.getfield 26, 3) := by decide +kernel
theorem d_R_layTowards_32 : decode b_R_layTowards 32 = .ok (.iload_n 3, 1) := by decide +kernel
theorem d_R_layTowards_33 : decode b_R_layTowards 33 = .ok (.iconst 1, 1) := by decide +kernel
theorem d_R_layTowards_34 : decode b_R_layTowards 34 = .ok (.isub, 1) := by decide +kernel
theorem d_R_layTowards_35 : decode b_R_layTowards 35 = .ok (.laload, 1) := by decide +kernel
theorem d_R_layTowards_36 : decode b_R_layTowards 36 = .ok (.invokevirtual 56, 3) := by decide +kernel
theorem d_R_layTowards_39 : decode b_R_layTowards 39 = .ok (.lastore, 1) := by decide +kernel
theorem d_R_layTowards_40 : decode b_R_layTowards 40 = .ok (.iinc 3 1, 3) := by decide +kernel
theorem d_R_layTowards_43 : decode b_R_layTowards 43 = .ok (.goto (-32), 3) := by decide +kernel
theorem d_R_layTowards_46 : decode b_R_layTowards 46 = .ok (.return_, 1) := by decide +kernel
theorem d_R_firstAsked_0 : decode b_R_firstAsked 0 = .ok (.aload_n 0, 1) := by decide +kernel
theorem d_R_firstAsked_1 : decode b_R_firstAsked 1 = .ok (.getfield 15, 3) := by decide +kernel
theorem d_R_firstAsked_4 : decode b_R_firstAsked 4 = .ok (.iload_n 1, 1) := by decide +kernel
theorem d_R_firstAsked_5 : decode b_R_firstAsked 5 = .ok (.laload, 1) := by decide +kernel
theorem d_R_firstAsked_6 : decode b_R_firstAsked 6 = .ok (.aload_n 0, 1) := by decide +kernel
theorem d_R_firstAsked_7 : decode b_R_firstAsked 7 = .ok (.getfield 26, 3) := by decide +kernel
theorem d_R_firstAsked_10 : decode b_R_firstAsked 10 = .ok (.iload_n 2, 1) := by decide +kernel
theorem d_R_firstAsked_11 : decode b_R_firstAsked 11 = .ok (.laload, 1) := by decide +kernel
theorem d_R_firstAsked_12 : decode b_R_firstAsked 12 = .ok (.land, 1) := by decide +kernel
theorem d_R_firstAsked_13 : decode b_R_firstAsked 13 = .ok (.lstore_n 3, 1) := by decide +kernel
theorem d_R_firstAsked_14 : decode b_R_firstAsked 14 = .ok (.lload_n 3, 1) := by decide +kernel
theorem d_R_firstAsked_15 : decode b_R_firstAsked 15 = .ok (.lconst 0, 1) := by decide +kernel
theorem d_R_firstAsked_16 : decode b_R_firstAsked 16 = .ok (.lcmp, 1) := by decide +kernel
theorem d_R_firstAsked_17 : decode b_R_firstAsked 17 = .ok (.ifCond .ne 7, 3) := by decide +kernel
theorem d_R_firstAsked_20 : decode b_R_firstAsked 20 = .ok (.iconst (-1), 1) := by decide +kernel
theorem d_R_firstAsked_21 : decode b_R_firstAsked 21 = .ok (.goto 7, 3) := by decide +kernel
theorem d_R_firstAsked_24 : decode b_R_firstAsked 24 = .ok (.lload_n 3, 1) := by decide +kernel
theorem d_R_firstAsked_25 : decode b_R_firstAsked 25 = .ok (.invokestatic 60, 3) := by decide +kernel
theorem d_R_firstAsked_28 : decode b_R_firstAsked 28 = .ok (.ireturn, 1) := by decide +kernel
theorem d_R_follow_0 : decode b_R_follow 0 = .ok (.lconst 0, 1) := by decide +kernel
theorem d_R_follow_1 : decode b_R_follow 1 = .ok (.lstore_n 2, 1) := by decide +kernel
theorem d_R_follow_2 : decode b_R_follow 2 = .ok (.aload_n 0, 1) := by decide +kernel
theorem d_R_follow_3 : decode b_R_follow 3 = .ok (.getfield 15, 3) := by decide +kernel
theorem d_R_follow_6 : decode b_R_follow 6 = .ok (.iload_n 1, 1) := by decide +kernel
theorem d_R_follow_7 : decode b_R_follow 7 = .ok (.laload, 1) := by decide +kernel
theorem d_R_follow_8 : decode b_R_follow 8 = .ok (.lstore 4, 2) := by decide +kernel
theorem d_R_follow_10 : decode b_R_follow 10 = .ok (.aload_n 0, 1) := by decide +kernel
theorem d_R_follow_11 : decode b_R_follow 11 = .ok (.getfield 22, 3) := by decide +kernel
theorem d_R_follow_14 : decode b_R_follow 14 = .ok (.iload_n 1, 1) := by decide +kernel
theorem d_R_follow_15 : decode b_R_follow 15 = .ok (.iconst 0, 1) := by decide +kernel
theorem d_R_follow_16 : decode b_R_follow 16 = .ok (.iastore, 1) := by decide +kernel
theorem d_R_follow_17 : decode b_R_follow 17 = .ok (.iconst 1, 1) := by decide +kernel
theorem d_R_follow_18 : decode b_R_follow 18 = .ok (.istore 6, 2) := by decide +kernel
theorem d_R_follow_20 : decode b_R_follow 20 = .ok (.iload 6, 2) := by decide +kernel
theorem d_R_follow_22 : decode b_R_follow 22 = .ok (.aload_n 0, 1) := by decide +kernel
theorem d_R_follow_23 : decode b_R_follow 23 = .ok (.getfield 9, 3) := by decide +kernel
theorem d_R_follow_26 : decode b_R_follow 26 = .ok (.if_icmp .gt 52, 3) := by decide +kernel
theorem d_R_follow_29 : decode b_R_follow 29 = .ok (.lload 4, 2) := by decide +kernel
theorem d_R_follow_31 : decode b_R_follow 31 = .ok (.lconst 0, 1) := by decide +kernel
theorem d_R_follow_32 : decode b_R_follow 32 = .ok (.lcmp, 1) := by decide +kernel
theorem d_R_follow_33 : decode b_R_follow 33 = .ok (.ifCond .eq 45, 3) := by decide +kernel
theorem d_R_follow_36 : decode b_R_follow 36 = .ok (.lload 4, 2) := by decide +kernel
theorem d_R_follow_38 : decode b_R_follow 38 = .ok (.iload_n 1, 1) := by decide +kernel
theorem d_R_follow_39 : decode b_R_follow 39 = .ok (.invokestatic 52, 3) := by decide +kernel
theorem d_R_follow_42 : decode b_R_follow 42 = .ok (.ifCond .eq 11, 3) := by decide +kernel
theorem d_R_follow_45 : decode b_R_follow 45 = .ok (.aload_n 0, 1) := by decide +kernel
theorem d_R_follow_46 : decode b_R_follow 46 = .ok (.getfield 22, 3) := by decide +kernel
theorem d_R_follow_49 : decode b_R_follow 49 = .ok (.iload_n 1, 1) := by decide +kernel
theorem d_R_follow_50 : decode b_R_follow 50 = .ok (.iload 6, 2) := by decide +kernel
theorem d_R_follow_52 : decode b_R_follow 52 = .ok (.iastore, 1) := by decide +kernel
theorem d_R_follow_53 : decode b_R_follow 53 = .ok (.lload_n 2, 1) := by decide +kernel
theorem d_R_follow_54 : decode b_R_follow 54 = .ok (.lload 4, 2) := by decide +kernel
theorem d_R_follow_56 : decode b_R_follow 56 = .ok (.lor, 1) := by decide +kernel
theorem d_R_follow_57 : decode b_R_follow 57 = .ok (.lstore_n 2, 1) := by decide +kernel
theorem d_R_follow_58 : decode b_R_follow 58 = .ok (.aload_n 0, 1) := by decide +kernel
theorem d_R_follow_59 : decode b_R_follow 59 = .ok (.lload 4, 2) := by decide +kernel
theorem d_R_follow_61 : decode b_R_follow 61 = .ok (.invokevirtual 64, 3) := by decide +kernel
theorem d_R_follow_64 : decode b_R_follow 64 = .ok (.lload_n 2, 1) := by decide +kernel
theorem d_R_follow_65 : decode b_R_follow 65 = .ok (.ldc2_w 67, 3) := by decide +kernel
theorem d_R_follow_68 : decode b_R_follow 68 = .ok (.lxor, 1) := by decide +kernel
theorem d_R_follow_69 : decode b_R_follow 69 = .ok (.land, 1) := by decide +kernel
theorem d_R_follow_70 : decode b_R_follow 70 = .ok (.lstore 4, 2) := by decide +kernel
theorem d_R_follow_72 : decode b_R_follow 72 = .ok (.iinc 6 1, 3) := by decide +kernel
theorem d_R_follow_75 : decode b_R_follow 75 = .ok (.goto (-55), 3) := by decide +kernel
theorem d_R_follow_78 : decode b_R_follow 78 = .ok (.aload_n 0, 1) := by decide +kernel
theorem d_R_follow_79 : decode b_R_follow 79 = .ok (.getfield 19, 3) := by decide +kernel
theorem d_R_follow_82 : decode b_R_follow 82 = .ok (.iload_n 1, 1) := by decide +kernel
theorem d_R_follow_83 : decode b_R_follow 83 = .ok (.lload_n 2, 1) := by decide +kernel
theorem d_R_follow_84 : decode b_R_follow 84 = .ok (.lastore, 1) := by decide +kernel
theorem d_R_follow_85 : decode b_R_follow 85 = .ok (.return_, 1) := by decide +kernel
theorem d_R_askedBy_0 : decode b_R_askedBy 0 = .ok (.lconst 0, 1) := by decide +kernel
theorem d_R_askedBy_1 : decode b_R_askedBy 1 = .ok (.lstore_n 3, 1) := by decide +kernel
theorem d_R_askedBy_2 : decode b_R_askedBy 2 = .ok (.lload_n 1, 1) := by decide +kernel
theorem d_R_askedBy_3 : decode b_R_askedBy 3 = .ok (.lstore 5, 2) := by decide +kernel
theorem d_R_askedBy_5 : decode b_R_askedBy 5 = .ok (.lload_n 1, 1) := by decide +kernel
theorem d_R_askedBy_6 : decode b_R_askedBy 6 = .ok (.invokestatic 69, 3) := by decide +kernel
theorem d_R_askedBy_9 : decode b_R_askedBy 9 = .ok (.istore 7, 2) := by decide +kernel
theorem d_R_askedBy_11 : decode b_R_askedBy 11 = .ok (.iload 7, 2) := by decide +kernel
theorem d_R_askedBy_13 : decode b_R_askedBy 13 = .ok (.ifCond .le 31, 3) := by decide +kernel
theorem d_R_askedBy_16 : decode b_R_askedBy 16 = .ok (.lload_n 3, 1) := by decide +kernel
theorem d_R_askedBy_17 : decode b_R_askedBy 17 = .ok (.aload_n 0, 1) := by decide +kernel
theorem d_R_askedBy_18 : decode b_R_askedBy 18 = .ok (.getfield 15, 3) := by decide +kernel
theorem d_R_askedBy_21 : decode b_R_askedBy 21 = .ok (.lload 5, 2) := by decide +kernel
theorem d_R_askedBy_23 : decode b_R_askedBy 23 = .ok (.invokestatic 60, 3) := by decide +kernel
theorem d_R_askedBy_26 : decode b_R_askedBy 26 = .ok (.laload, 1) := by decide +kernel
theorem d_R_askedBy_27 : decode b_R_askedBy 27 = .ok (.lor, 1) := by decide +kernel
theorem d_R_askedBy_28 : decode b_R_askedBy 28 = .ok (.lstore_n 3, 1) := by decide +kernel
theorem d_R_askedBy_29 : decode b_R_askedBy 29 = .ok (.lload 5, 2) := by decide +kernel
theorem d_R_askedBy_31 : decode b_R_askedBy 31 = .ok (.lload 5, 2) := by decide +kernel
theorem d_R_askedBy_33 : decode b_R_askedBy 33 = .ok (.lconst 1, 1) := by decide +kernel
theorem d_R_askedBy_34 : decode b_R_askedBy 34 = .ok (.lsub, 1) := by decide +kernel
theorem d_R_askedBy_35 : decode b_R_askedBy 35 = .ok (.land, 1) := by decide +kernel
theorem d_R_askedBy_36 : decode b_R_askedBy 36 = .ok (.lstore 5, 2) := by decide +kernel
theorem d_R_askedBy_38 : decode b_R_askedBy 38 = .ok (.iinc 7 (-1), 3) := by decide +kernel
theorem d_R_askedBy_41 : decode b_R_askedBy 41 = .ok (.goto (-30), 3) := by decide +kernel
theorem d_R_askedBy_44 : decode b_R_askedBy 44 = .ok (.lload_n 3, 1) := by decide +kernel
theorem d_R_askedBy_45 : decode b_R_askedBy 45 = .ok (.lreturn, 1) := by decide +kernel
theorem d_R_askersOf_0 : decode b_R_askersOf 0 = .ok (.lconst 0, 1) := by decide +kernel
theorem d_R_askersOf_1 : decode b_R_askersOf 1 = .ok (.lstore_n 3, 1) := by decide +kernel
theorem d_R_askersOf_2 : decode b_R_askersOf 2 = .ok (.iconst 0, 1) := by decide +kernel
theorem d_R_askersOf_3 : decode b_R_askersOf 3 = .ok (.istore 5, 2) := by decide +kernel
theorem d_R_askersOf_5 : decode b_R_askersOf 5 = .ok (.iload 5, 2) := by decide +kernel
theorem d_R_askersOf_7 : decode b_R_askersOf 7 = .ok (.aload_n 0, 1) := by decide +kernel
theorem d_R_askersOf_8 : decode b_R_askersOf 8 = .ok (.getfield 9, 3) := by decide +kernel
theorem d_R_askersOf_11 : decode b_R_askersOf 11 = .ok (.if_icmp .ge 30, 3) := by decide +kernel
theorem d_R_askersOf_14 : decode b_R_askersOf 14 = .ok (.aload_n 0, 1) := by decide +kernel
theorem d_R_askersOf_15 : decode b_R_askersOf 15 = .ok (.getfield 15, 3) := by decide +kernel
theorem d_R_askersOf_18 : decode b_R_askersOf 18 = .ok (.iload 5, 2) := by decide +kernel
theorem d_R_askersOf_20 : decode b_R_askersOf 20 = .ok (.laload, 1) := by decide +kernel
theorem d_R_askersOf_21 : decode b_R_askersOf 21 = .ok (.lload_n 1, 1) := by decide +kernel
theorem d_R_askersOf_22 : decode b_R_askersOf 22 = .ok (.land, 1) := by decide +kernel
theorem d_R_askersOf_23 : decode b_R_askersOf 23 = .ok (.lconst 0, 1) := by decide +kernel
theorem d_R_askersOf_24 : decode b_R_askersOf 24 = .ok (.lcmp, 1) := by decide +kernel
theorem d_R_askersOf_25 : decode b_R_askersOf 25 = .ok (.ifCond .eq 10, 3) := by decide +kernel
theorem d_R_askersOf_28 : decode b_R_askersOf 28 = .ok (.lload_n 3, 1) := by decide +kernel
theorem d_R_askersOf_29 : decode b_R_askersOf 29 = .ok (.lconst 1, 1) := by decide +kernel
theorem d_R_askersOf_30 : decode b_R_askersOf 30 = .ok (.iload 5, 2) := by decide +kernel
theorem d_R_askersOf_32 : decode b_R_askersOf 32 = .ok (.lshl, 1) := by decide +kernel
theorem d_R_askersOf_33 : decode b_R_askersOf 33 = .ok (.lor, 1) := by decide +kernel
theorem d_R_askersOf_34 : decode b_R_askersOf 34 = .ok (.lstore_n 3, 1) := by decide +kernel
theorem d_R_askersOf_35 : decode b_R_askersOf 35 = .ok (.iinc 5 1, 3) := by decide +kernel
theorem d_R_askersOf_38 : decode b_R_askersOf 38 = .ok (.goto (-33), 3) := by decide +kernel
theorem d_R_askersOf_41 : decode b_R_askersOf 41 = .ok (.lload_n 3, 1) := by decide +kernel
theorem d_R_askersOf_42 : decode b_R_askersOf 42 = .ok (.lreturn, 1) := by decide +kernel
theorem d_R_contains_0 : decode b_R_contains 0 = .ok (.lload_n 0, 1) := by decide +kernel
theorem d_R_contains_1 : decode b_R_contains 1 = .ok (.iload_n 2, 1) := by decide +kernel
theorem d_R_contains_2 : decode b_R_contains 2 = .ok (.lushr, 1) := by decide +kernel
theorem d_R_contains_3 : decode b_R_contains 3 = .ok (.lconst 1, 1) := by decide +kernel
theorem d_R_contains_4 : decode b_R_contains 4 = .ok (.land, 1) := by decide +kernel
theorem d_R_contains_5 : decode b_R_contains 5 = .ok (.lconst 0, 1) := by decide +kernel
theorem d_R_contains_6 : decode b_R_contains 6 = .ok (.lcmp, 1) := by decide +kernel
theorem d_R_contains_7 : decode b_R_contains 7 = .ok (.ifCond .eq 7, 3) := by decide +kernel
theorem d_R_contains_10 : decode b_R_contains 10 = .ok (.iconst 1, 1) := by decide +kernel
theorem d_R_contains_11 : decode b_R_contains 11 = .ok (.goto 4, 3) := by decide +kernel
theorem d_R_contains_14 : decode b_R_contains 14 = .ok (.iconst 0, 1) := by decide +kernel
theorem d_R_contains_15 : decode b_R_contains 15 = .ok (.ireturn, 1) := by decide +kernel
theorem d_R_lowest_0 : decode b_R_lowest 0 = .ok (.lload_n 0, 1) := by decide +kernel
theorem d_R_lowest_1 : decode b_R_lowest 1 = .ok (.lload_n 0, 1) := by decide +kernel
theorem d_R_lowest_2 : decode b_R_lowest 2 = .ok (.lneg, 1) := by decide +kernel
theorem d_R_lowest_3 : decode b_R_lowest 3 = .ok (.land, 1) := by decide +kernel
theorem d_R_lowest_4 : decode b_R_lowest 4 = .ok (.lconst 1, 1) := by decide +kernel
theorem d_R_lowest_5 : decode b_R_lowest 5 = .ok (.lsub, 1) := by decide +kernel
theorem d_R_lowest_6 : decode b_R_lowest 6 = .ok (.invokestatic 69, 3) := by decide +kernel
theorem d_R_lowest_9 : decode b_R_lowest 9 = .ok (.ireturn, 1) := by decide +kernel
theorem d_T_init_0 : decode b_T_init 0 = .ok (.aload_n 0, 1) := by decide +kernel
theorem d_T_init_1 : decode b_T_init 1 = .ok (.invokespecial 3, 3) := by decide +kernel
theorem d_T_init_4 : decode b_T_init 4 = .ok (.aload_n 0, 1) := by decide +kernel
theorem d_T_init_5 : decode b_T_init 5 = .ok (.iconst (-1), 1) := by decide +kernel
theorem d_T_init_6 : decode b_T_init 6 = .ok (.putfield 9, 3) := by decide +kernel
theorem d_T_init_9 : decode b_T_init 9 = .ok (.aload_n 0, 1) := by decide +kernel
theorem d_T_init_10 : decode b_T_init 10 = .ok (.iconst 0, 1) := by decide +kernel
theorem d_T_init_11 : decode b_T_init 11 = .ok (.putfield 15, 3) := by decide +kernel
theorem d_T_init_14 : decode b_T_init 14 = .ok (.aload_n 0, 1) := by decide +kernel
theorem d_T_init_15 : decode b_T_init 15 = .ok (.bipush 40, 2) := by decide +kernel
theorem d_T_init_17 : decode b_T_init 17 = .ok (.newarray .int, 2) := by decide +kernel
theorem d_T_init_19 : decode b_T_init 19 = .ok (.putfield 18, 3) := by decide +kernel
theorem d_T_init_22 : decode b_T_init 22 = .ok (.aload_n 0, 1) := by decide +kernel
theorem d_T_init_23 : decode b_T_init 23 = .ok (.bipush 40, 2) := by decide +kernel
theorem d_T_init_25 : decode b_T_init 25 = .ok (.newarray .int, 2) := by decide +kernel
theorem d_T_init_27 : decode b_T_init 27 = .ok (.putfield 22, 3) := by decide +kernel
theorem d_T_init_30 : decode b_T_init 30 = .ok (.aload_n 0, 1) := by decide +kernel
theorem d_T_init_31 : decode b_T_init 31 = .ok (.bipush 40, 2) := by decide +kernel
theorem d_T_init_33 : decode b_T_init 33 = .ok (.newarray .int, 2) := by decide +kernel
theorem d_T_init_35 : decode b_T_init 35 = .ok (.putfield 25, 3) := by decide +kernel
theorem d_T_init_38 : decode b_T_init 38 = .ok (.aload_n 0, 1) := by decide +kernel
theorem d_T_init_39 : decode b_T_init 39 = .ok (.bipush 40, 2) := by decide +kernel
theorem d_T_init_41 : decode b_T_init 41 = .ok (.newarray .int, 2) := by decide +kernel
theorem d_T_init_43 : decode b_T_init 43 = .ok (.putfield 28, 3) := by decide +kernel
theorem d_T_init_46 : decode b_T_init 46 = .ok (.aload_n 0, 1) := by decide +kernel
theorem d_T_init_47 : decode b_T_init 47 = .ok (.iconst 0, 1) := by decide +kernel
theorem d_T_init_48 : decode b_T_init 48 = .ok (.putfield 31, 3) := by decide +kernel
theorem d_T_init_51 : decode b_T_init 51 = .ok (.aload_n 0, 1) := by decide +kernel
theorem d_T_init_52 : decode b_T_init 52 = .ok (.bipush 41, 2) := by decide +kernel
theorem d_T_init_54 : decode b_T_init 54 = .ok (.newarray .int, 2) := by decide +kernel
theorem d_T_init_56 : decode b_T_init 56 = .ok (.putfield 34, 3) := by decide +kernel
theorem d_T_init_59 : decode b_T_init 59 = .ok (.aload_n 0, 1) := by decide +kernel
theorem d_T_init_60 : decode b_T_init 60 = .ok (.bipush 40, 2) := by decide +kernel
theorem d_T_init_62 : decode b_T_init 62 = .ok (.newarray .int, 2) := by decide +kernel
theorem d_T_init_64 : decode b_T_init 64 = .ok (.putfield 37, 3) := by decide +kernel
theorem d_T_init_67 : decode b_T_init 67 = .ok (.aload_n 0, 1) := by decide +kernel
theorem d_T_init_68 : decode b_T_init 68 = .ok (.bipush 40, 2) := by decide +kernel
theorem d_T_init_70 : decode b_T_init 70 = .ok (.newarray .int, 2) := by decide +kernel
theorem d_T_init_72 : decode b_T_init 72 = .ok (.putfield 40, 3) := by decide +kernel
theorem d_T_init_75 : decode b_T_init 75 = .ok (.return_, 1) := by decide +kernel
theorem d_T_hasKey_0 : decode b_T_hasKey 0 = .ok (.iload_n 1, 1) := by decide +kernel
theorem d_T_hasKey_1 : decode b_T_hasKey 1 = .ok (.ifCond .lt 15, 3) := by decide +kernel
theorem d_T_hasKey_4 : decode b_T_hasKey 4 = .ok (.iload_n 1, 1) := by decide +kernel
theorem d_T_hasKey_5 : decode b_T_hasKey 5 = .ok (.aload_n 0, 1) := by decide +kernel
theorem d_T_hasKey_6 : decode b_T_hasKey 6 = .ok (.getfield 31, 3) := by decide +kernel
theorem d_T_hasKey_9 : decode b_T_hasKey 9 = .ok (.if_icmp .ge 7, 3) := by decide +kernel
theorem d_T_hasKey_12 : decode b_T_hasKey 12 = .ok (.iconst 1, 1) := by decide +kernel
theorem d_T_hasKey_13 : decode b_T_hasKey 13 = .ok (.goto 4, 3) := by decide +kernel
theorem d_T_hasKey_16 : decode b_T_hasKey 16 = .ok (.iconst 0, 1) := by decide +kernel
theorem d_T_hasKey_17 : decode b_T_hasKey 17 = .ok (.ireturn, 1) := by decide +kernel
theorem d_T_hasRing_0 : decode b_T_hasRing 0 = .ok (.iload_n 1, 1) := by decide +kernel
theorem d_T_hasRing_1 : decode b_T_hasRing 1 = .ok (.ifCond .lt 15, 3) := by decide +kernel
theorem d_T_hasRing_4 : decode b_T_hasRing 4 = .ok (.iload_n 1, 1) := by decide +kernel
theorem d_T_hasRing_5 : decode b_T_hasRing 5 = .ok (.aload_n 0, 1) := by decide +kernel
theorem d_T_hasRing_6 : decode b_T_hasRing 6 = .ok (.getfield 15, 3) := by decide +kernel
theorem d_T_hasRing_9 : decode b_T_hasRing 9 = .ok (.if_icmp .ge 7, 3) := by decide +kernel
theorem d_T_hasRing_12 : decode b_T_hasRing 12 = .ok (.iconst 1, 1) := by decide +kernel
theorem d_T_hasRing_13 : decode b_T_hasRing 13 = .ok (.goto 4, 3) := by decide +kernel
theorem d_T_hasRing_16 : decode b_T_hasRing 16 = .ok (.iconst 0, 1) := by decide +kernel
theorem d_T_hasRing_17 : decode b_T_hasRing 17 = .ok (.ireturn, 1) := by decide +kernel
theorem d_T_length_0 : decode b_T_length 0 = .ok (.aload_n 0, 1) := by decide +kernel
theorem d_T_length_1 : decode b_T_length 1 = .ok (.getfield 34, 3) := by decide +kernel
theorem d_T_length_4 : decode b_T_length 4 = .ok (.iload_n 1, 1) := by decide +kernel
theorem d_T_length_5 : decode b_T_length 5 = .ok (.iconst 1, 1) := by decide +kernel
theorem d_T_length_6 : decode b_T_length 6 = .ok (.iadd, 1) := by decide +kernel
theorem d_T_length_7 : decode b_T_length 7 = .ok (.iaload, 1) := by decide +kernel
theorem d_T_length_8 : decode b_T_length 8 = .ok (.aload_n 0, 1) := by decide +kernel
theorem d_T_length_9 : decode b_T_length 9 = .ok (.getfield 34, 3) := by decide +kernel
theorem d_T_length_12 : decode b_T_length 12 = .ok (.iload_n 1, 1) := by decide +kernel
theorem d_T_length_13 : decode b_T_length 13 = .ok (.iaload, 1) := by decide +kernel
theorem d_T_length_14 : decode b_T_length 14 = .ok (.isub, 1) := by decide +kernel
theorem d_T_length_15 : decode b_T_length 15 = .ok (.ireturn, 1) := by decide +kernel
theorem d_T_keyAt_0 : decode b_T_keyAt 0 = .ok (.aload_n 0, 1) := by decide +kernel
theorem d_T_keyAt_1 : decode b_T_keyAt 1 = .ok (.getfield 37, 3) := by decide +kernel
theorem d_T_keyAt_4 : decode b_T_keyAt 4 = .ok (.aload_n 0, 1) := by decide +kernel
theorem d_T_keyAt_5 : decode b_T_keyAt 5 = .ok (.getfield 34, 3) := by decide +kernel
theorem d_T_keyAt_8 : decode b_T_keyAt 8 = .ok (.iload_n 1, 1) := by decide +kernel
theorem d_T_keyAt_9 : decode b_T_keyAt 9 = .ok (.iaload, 1) := by decide +kernel
theorem d_T_keyAt_10 : decode b_T_keyAt 10 = .ok (.iload_n 2, 1) := by decide +kernel
theorem d_T_keyAt_11 : decode b_T_keyAt 11 = .ok (.iadd, 1) := by decide +kernel
theorem d_T_keyAt_12 : decode b_T_keyAt 12 = .ok (.iaload, 1) := by decide +kernel
theorem d_T_keyAt_13 : decode b_T_keyAt 13 = .ok (.ireturn, 1) := by decide +kernel
theorem d_T_edgeAt_0 : decode b_T_edgeAt 0 = .ok (.aload_n 0, 1) := by decide +kernel
theorem d_T_edgeAt_1 : decode b_T_edgeAt 1 = .ok (.getfield 40, 3) := by decide +kernel
theorem d_T_edgeAt_4 : decode b_T_edgeAt 4 = .ok (.aload_n 0, 1) := by decide +kernel
theorem d_T_edgeAt_5 : decode b_T_edgeAt 5 = .ok (.getfield 34, 3) := by decide +kernel
theorem d_T_edgeAt_8 : decode b_T_edgeAt 8 = .ok (.iload_n 1, 1) := by decide +kernel
theorem d_T_edgeAt_9 : decode b_T_edgeAt 9 = .ok (.iaload, 1) := by decide +kernel
theorem d_T_edgeAt_10 : decode b_T_edgeAt 10 = .ok (.iload_n 2, 1) := by decide +kernel
theorem d_T_edgeAt_11 : decode b_T_edgeAt 11 = .ok (.iadd, 1) := by decide +kernel
theorem d_T_edgeAt_12 : decode b_T_edgeAt 12 = .ok (.iaload, 1) := by decide +kernel
theorem d_T_edgeAt_13 : decode b_T_edgeAt 13 = .ok (.ireturn, 1) := by decide +kernel
theorem d_T_lastEdge_0 : decode b_T_lastEdge 0 = .ok (.iconst (-1), 1) := by decide +kernel
theorem d_T_lastEdge_1 : decode b_T_lastEdge 1 = .ok (.istore_n 2, 1) := by decide +kernel
theorem d_T_lastEdge_2 : decode b_T_lastEdge 2 = .ok (.aload_n 0, 1) := by decide +kernel
theorem d_T_lastEdge_3 : decode b_T_lastEdge 3 = .ok (.getfield 34, 3) := by decide +kernel
theorem d_T_lastEdge_6 : decode b_T_lastEdge 6 = .ok (.iload_n 1, 1) := by decide +kernel
theorem d_T_lastEdge_7 : decode b_T_lastEdge 7 = .ok (.iaload, 1) := by decide +kernel
theorem d_T_lastEdge_8 : decode b_T_lastEdge 8 = .ok (.istore_n 3, 1) := by decide +kernel
theorem d_T_lastEdge_9 : decode b_T_lastEdge 9 = .ok (.iload_n 3, 1) := by decide +kernel
theorem d_T_lastEdge_10 : decode b_T_lastEdge 10 = .ok (.aload_n 0, 1) := by decide +kernel
theorem d_T_lastEdge_11 : decode b_T_lastEdge 11 = .ok (.getfield 34, 3) := by decide +kernel
theorem d_T_lastEdge_14 : decode b_T_lastEdge 14 = .ok (.iload_n 1, 1) := by decide +kernel
theorem d_T_lastEdge_15 : decode b_T_lastEdge 15 = .ok (.iconst 1, 1) := by decide +kernel
theorem d_T_lastEdge_16 : decode b_T_lastEdge 16 = .ok (.iadd, 1) := by decide +kernel
theorem d_T_lastEdge_17 : decode b_T_lastEdge 17 = .ok (.iaload, 1) := by decide +kernel
theorem d_T_lastEdge_18 : decode b_T_lastEdge 18 = .ok (.if_icmp .ge 20, 3) := by decide +kernel
theorem d_T_lastEdge_21 : decode b_T_lastEdge 21 = .ok (.iload_n 2, 1) := by decide +kernel
theorem d_T_lastEdge_22 : decode b_T_lastEdge 22 = .ok (.aload_n 0, 1) := by decide +kernel
theorem d_T_lastEdge_23 : decode b_T_lastEdge 23 = .ok (.getfield 40, 3) := by decide +kernel
theorem d_T_lastEdge_26 : decode b_T_lastEdge 26 = .ok (.iload_n 3, 1) := by decide +kernel
theorem d_T_lastEdge_27 : decode b_T_lastEdge 27 = .ok (.iaload, 1) := by decide +kernel
theorem d_T_lastEdge_28 : decode b_T_lastEdge 28 = .ok (.invokestatic 43, 3) := by decide +kernel
theorem d_T_lastEdge_31 : decode b_T_lastEdge 31 = .ok (.istore_n 2, 1) := by decide +kernel
theorem d_T_lastEdge_32 : decode b_T_lastEdge 32 = .ok (.iinc 3 1, 3) := by decide +kernel
theorem d_T_lastEdge_35 : decode b_T_lastEdge 35 = .ok (.goto (-26), 3) := by decide +kernel
theorem d_T_lastEdge_38 : decode b_T_lastEdge 38 = .ok (.iload_n 2, 1) := by decide +kernel
theorem d_T_lastEdge_39 : decode b_T_lastEdge 39 = .ok (.ireturn, 1) := by decide +kernel
theorem d_T_tell_0 : decode b_T_tell 0 = .ok (.aload_n 0, 1) := by decide +kernel
theorem d_T_tell_1 : decode b_T_tell 1 = .ok (.iload 4, 2) := by decide +kernel
theorem d_T_tell_3 : decode b_T_tell 3 = .ok (.putfield 9, 3) := by decide +kernel
theorem d_T_tell_6 : decode b_T_tell 6 = .ok (.aload_n 0, 1) := by decide +kernel
theorem d_T_tell_7 : decode b_T_tell 7 = .ok (.aload_n 1, 1) := by decide +kernel
theorem d_T_tell_8 : decode b_T_tell 8 = .ok (.getfield 49, 3) := by decide +kernel
theorem d_T_tell_11 : decode b_T_tell 11 = .ok (.putfield 31, 3) := by decide +kernel
theorem d_T_tell_14 : decode b_T_tell 14 = .ok (.aload_n 0, 1) := by decide +kernel
theorem d_T_tell_15 : decode b_T_tell 15 = .ok (.aload_n 1, 1) := by decide +kernel
theorem d_T_tell_16 : decode b_T_tell 16 = .ok (.aload_n 3, 1) := by decide +kernel
theorem d_T_tell_17 : decode b_T_tell 17 = .ok (.invokevirtual 54, 3) := by decide +kernel
theorem d_T_tell_20 : decode b_T_tell 20 = .ok (.aload_n 0, 1) := by decide +kernel
theorem d_T_tell_21 : decode b_T_tell 21 = .ok (.aload_n 1, 1) := by decide +kernel
theorem d_T_tell_22 : decode b_T_tell 22 = .ok (.aload_n 3, 1) := by decide +kernel
theorem d_T_tell_23 : decode b_T_tell 23 = .ok (.invokevirtual 58, 3) := by decide +kernel
theorem d_T_tell_26 : decode b_T_tell 26 = .ok (.aload_n 0, 1) := by decide +kernel
theorem d_T_tell_27 : decode b_T_tell 27 = .ok (.aload_n 1, 1) := by decide +kernel
theorem d_T_tell_28 : decode b_T_tell 28 = .ok (.aload_n 3, 1) := by decide +kernel
theorem d_T_tell_29 : decode b_T_tell 29 = .ok (.invokevirtual 61, 3) := by decide +kernel
theorem d_T_tell_32 : decode b_T_tell 32 = .ok (.iconst 0, 1) := by decide +kernel
theorem d_T_tell_33 : decode b_T_tell 33 = .ok (.istore 5, 2) := by decide +kernel
theorem d_T_tell_35 : decode b_T_tell 35 = .ok (.iload 5, 2) := by decide +kernel
theorem d_T_tell_37 : decode b_T_tell 37 = .ok (.aload_n 0, 1) := by decide +kernel
theorem d_T_tell_38 : decode b_T_tell 38 = .ok (.getfield 15, 3) := by decide +kernel
theorem d_T_tell_41 : decode b_T_tell 41 = .ok (.if_icmp .ge 16, 3) := by decide +kernel
theorem d_T_tell_44 : decode b_T_tell 44 = .ok (.aload_n 0, 1) := by decide +kernel
theorem d_T_tell_45 : decode b_T_tell 45 = .ok (.iload 5, 2) := by decide +kernel
theorem d_T_tell_47 : decode b_T_tell 47 = .ok (.aload_n 2, 1) := by decide +kernel
theorem d_T_tell_48 : decode b_T_tell 48 = .ok (.invokevirtual 64, 3) := by decide +kernel
theorem d_T_tell_51 : decode b_T_tell 51 = .ok (.iinc 5 1, 3) := by decide +kernel
theorem d_T_tell_54 : decode b_T_tell 54 = .ok (.goto (-19), 3) := by decide +kernel
theorem d_T_tell_57 : decode b_T_tell 57 = .ok (.return_, 1) := by decide +kernel
theorem d_T_tellKeys_0 : decode b_T_tellKeys 0 = .ok (.iconst 0, 1) := by decide +kernel
theorem d_T_tellKeys_1 : decode b_T_tellKeys 1 = .ok (.istore_n 3, 1) := by decide +kernel
theorem d_T_tellKeys_2 : decode b_T_tellKeys 2 = .ok (.iload_n 3, 1) := by decide +kernel
theorem d_T_tellKeys_3 : decode b_T_tellKeys 3 = .ok (.aload_n 0, 1) := by decide +kernel
theorem d_T_tellKeys_4 : decode b_T_tellKeys 4 = .ok (.getfield 31, 3) := by decide +kernel
theorem d_T_tellKeys_7 : decode b_T_tellKeys 7 = .ok (.if_icmp .ge 70, 3) := by decide +kernel
theorem d_T_tellKeys_10 : decode b_T_tellKeys 10 = .ok (.aload_n 1, 1) := by decide +kernel
theorem d_T_tellKeys_11 : decode b_T_tellKeys 11 = .ok (.getfield 68, 3) := by decide +kernel
theorem d_T_tellKeys_14 : decode b_T_tellKeys 14 = .ok (.iload_n 3, 1) := by decide +kernel
theorem d_T_tellKeys_15 : decode b_T_tellKeys 15 = .ok (.iaload, 1) := by decide +kernel
theorem d_T_tellKeys_16 : decode b_T_tellKeys 16 = .ok (.istore 4, 2) := by decide +kernel
theorem d_T_tellKeys_18 : decode b_T_tellKeys 18 = .ok (.aload_n 0, 1) := by decide +kernel
theorem d_T_tellKeys_19 : decode b_T_tellKeys 19 = .ok (.getfield 25, 3) := by decide +kernel
theorem d_T_tellKeys_22 : decode b_T_tellKeys 22 = .ok (.iload 4, 2) := by decide +kernel
theorem d_T_tellKeys_24 : decode b_T_tellKeys 24 = .ok (.aload_n 2, 1) := by decide +kernel
theorem d_T_tellKeys_25 : decode b_T_tellKeys 25 = .ok (.iload_n 3, 1) := by decide +kernel
theorem d_T_tellKeys_26 : decode b_T_tellKeys 26 = .ok (.invokevirtual 71, 3) := by decide +kernel
theorem d_T_tellKeys_29 : decode b_T_tellKeys 29 = .ok (.iastore, 1) := by decide +kernel
theorem d_T_tellKeys_30 : decode b_T_tellKeys 30 = .ok (.aload_n 0, 1) := by decide +kernel
theorem d_T_tellKeys_31 : decode b_T_tellKeys 31 = .ok (.getfield 25, 3) := by decide +kernel
theorem d_T_tellKeys_34 : decode b_T_tellKeys 34 = .ok (.iload 4, 2) := by decide +kernel
theorem d_T_tellKeys_36 : decode b_T_tellKeys 36 = .ok (.iaload, 1) := by decide +kernel
theorem d_T_tellKeys_37 : decode b_T_tellKeys 37 = .ok (.ifCond .le 14, 3) := by decide +kernel
theorem d_T_tellKeys_40 : decode b_T_tellKeys 40 = .ok (.aload_n 0, 1) := by decide +kernel
theorem d_T_tellKeys_41 : decode b_T_tellKeys 41 = .ok (.getfield 22, 3) := by decide +kernel
theorem d_T_tellKeys_44 : decode b_T_tellKeys 44 = .ok (.iload 4, 2) := by decide +kernel
theorem d_T_tellKeys_46 : decode b_T_tellKeys 46 = .ok (.iconst 2, 1) := by decide +kernel
theorem d_T_tellKeys_47 : decode b_T_tellKeys 47 = .ok (.iastore, 1) := by decide +kernel
theorem d_T_tellKeys_48 : decode b_T_tellKeys 48 = .ok (.goto 23, 3) := by decide +kernel
theorem d_T_tellKeys_51 : decode b_T_tellKeys 51 = .ok (.aload_n 0, 1) := by decide +kernel
theorem d_T_tellKeys_52 : decode b_T_tellKeys 52 = .ok (.getfield 22, 3) := by decide +kernel
theorem d_T_tellKeys_55 : decode b_T_tellKeys 55 = .ok (.iload 4, 2) := by decide +kernel
theorem d_T_tellKeys_57 : decode b_T_tellKeys 57 = .ok (.aload_n 2, 1) := by decide +kernel
theorem d_T_tellKeys_58 : decode b_T_tellKeys 58 = .ok (.iload_n 3, 1) := by decide +kernel
theorem d_T_tellKeys_59 : decode b_T_tellKeys 59 = .ok (.invokevirtual 77, 3) := by decide +kernel
theorem d_T_tellKeys_62 : decode b_T_tellKeys 62 = .ok (.ifCond .eq 7, 3) := by decide +kernel
theorem d_T_tellKeys_65 : decode b_T_tellKeys 65 = .ok (.iconst 1, 1) := by decide +kernel
theorem d_T_tellKeys_66 : decode b_T_tellKeys 66 = .ok (.goto 4, 3) := by decide +kernel
theorem d_T_tellKeys_69 : decode b_T_tellKeys 69 = .ok (.iconst 0, 1) := by decide +kernel
theorem d_T_tellKeys_70 : decode b_T_tellKeys 70 = .ok (.iastore, 1) := by decide +kernel
theorem d_T_tellKeys_71 : decode b_T_tellKeys 71 = .ok (.iinc 3 1, 3) := by decide +kernel
theorem d_T_tellKeys_74 : decode b_T_tellKeys 74 = .ok (.goto (-72), 3) := by decide +kernel
theorem d_T_tellKeys_77 : decode b_T_tellKeys 77 = .ok (.return_, 1) := by decide +kernel
theorem d_T_numberParts_0 : decode b_T_numberParts 0 = .ok (.iconst 0, 1) := by decide +kernel
theorem d_T_numberParts_1 : decode b_T_numberParts 1 = .ok (.istore_n 3, 1) := by decide +kernel
theorem d_T_numberParts_2 : decode b_T_numberParts 2 = .ok (.iconst 0, 1) := by decide +kernel
theorem d_T_numberParts_3 : decode b_T_numberParts 3 = .ok (.istore 4, 2) := by decide +kernel
theorem d_T_numberParts_5 : decode b_T_numberParts 5 = .ok (.iload 4, 2) := by decide +kernel
theorem d_T_numberParts_7 : decode b_T_numberParts 7 = .ok (.aload_n 0, 1) := by decide +kernel
theorem d_T_numberParts_8 : decode b_T_numberParts 8 = .ok (.getfield 31, 3) := by decide +kernel
theorem d_T_numberParts_11 : decode b_T_numberParts 11 = .ok (.if_icmp .ge 68, 3) := by decide +kernel
theorem d_T_numberParts_14 : decode b_T_numberParts 14 = .ok (.aload_n 0, 1) := by decide +kernel
theorem d_T_numberParts_15 : decode b_T_numberParts 15 = .ok (.iload 4, 2) := by decide +kernel
theorem d_T_numberParts_17 : decode b_T_numberParts 17 = .ok (.aload_n 2, 1) := by decide +kernel
theorem d_T_numberParts_18 : decode b_T_numberParts 18 = .ok (.invokevirtual 81, 3) := by decide +kernel
theorem d_T_numberParts_21 : decode b_T_numberParts 21 = .ok (.istore 5, 2) := by decide +kernel
theorem d_T_numberParts_23 : decode b_T_numberParts 23 = .ok (.iload 5, 2) := by decide +kernel
theorem d_T_numberParts_25 : decode b_T_numberParts 25 = .ok (.iload 4, 2) := by decide +kernel
theorem d_T_numberParts_27 : decode b_T_numberParts 27 = .ok (.if_icmp .ne 22, 3) := by decide +kernel
theorem d_T_numberParts_30 : decode b_T_numberParts 30 = .ok (.aload_n 0, 1) := by decide +kernel
theorem d_T_numberParts_31 : decode b_T_numberParts 31 = .ok (.getfield 18, 3) := by decide +kernel
theorem d_T_numberParts_34 : decode b_T_numberParts 34 = .ok (.aload_n 1, 1) := by decide +kernel
theorem d_T_numberParts_35 : decode b_T_numberParts 35 = .ok (.getfield 68, 3) := by decide +kernel
theorem d_T_numberParts_38 : decode b_T_numberParts 38 = .ok (.iload 4, 2) := by decide +kernel
theorem d_T_numberParts_40 : decode b_T_numberParts 40 = .ok (.iaload, 1) := by decide +kernel
theorem d_T_numberParts_41 : decode b_T_numberParts 41 = .ok (.iload_n 3, 1) := by decide +kernel
theorem d_T_numberParts_42 : decode b_T_numberParts 42 = .ok (.iastore, 1) := by decide +kernel
theorem d_T_numberParts_43 : decode b_T_numberParts 43 = .ok (.iinc 3 1, 3) := by decide +kernel
theorem d_T_numberParts_46 : decode b_T_numberParts 46 = .ok (.goto 27, 3) := by decide +kernel
theorem d_T_numberParts_49 : decode b_T_numberParts 49 = .ok (.aload_n 0, 1) := by decide +kernel
theorem d_T_numberParts_50 : decode b_T_numberParts 50 = .ok (.getfield 18, 3) := by decide +kernel
theorem d_T_numberParts_53 : decode b_T_numberParts 53 = .ok (.aload_n 1, 1) := by decide +kernel
theorem d_T_numberParts_54 : decode b_T_numberParts 54 = .ok (.getfield 68, 3) := by decide +kernel
theorem d_T_numberParts_57 : decode b_T_numberParts 57 = .ok (.iload 4, 2) := by decide +kernel
theorem d_T_numberParts_59 : decode b_T_numberParts 59 = .ok (.iaload, 1) := by decide +kernel
theorem d_T_numberParts_60 : decode b_T_numberParts 60 = .ok (.aload_n 0, 1) := by decide +kernel
theorem d_T_numberParts_61 : decode b_T_numberParts 61 = .ok (.getfield 18, 3) := by decide +kernel
theorem d_T_numberParts_64 : decode b_T_numberParts 64 = .ok (.aload_n 1, 1) := by decide +kernel
theorem d_T_numberParts_65 : decode b_T_numberParts 65 = .ok (.getfield 68, 3) := by decide +kernel
theorem d_T_numberParts_68 : decode b_T_numberParts 68 = .ok (.iload 5, 2) := by decide +kernel
theorem d_T_numberParts_70 : decode b_T_numberParts 70 = .ok (.iaload, 1) := by decide +kernel
theorem d_T_numberParts_71 : decode b_T_numberParts 71 = .ok (.iaload, 1) := by decide +kernel
theorem d_T_numberParts_72 : decode b_T_numberParts 72 = .ok (.iastore, 1) := by decide +kernel
theorem d_T_numberParts_73 : decode b_T_numberParts 73 = .ok (.iinc 4 1, 3) := by decide +kernel
theorem d_T_numberParts_76 : decode b_T_numberParts 76 = .ok (.goto (-71), 3) := by decide +kernel
theorem d_T_numberParts_79 : decode b_T_numberParts 79 = .ok (.return_, 1) := by decide +kernel
theorem d_T_tellRings_0 : decode b_T_tellRings 0 = .ok (.aload_n 0, 1) := by decide +kernel
theorem d_T_tellRings_1 : decode b_T_tellRings 1 = .ok (.iconst 0, 1) := by decide +kernel
theorem d_T_tellRings_2 : decode b_T_tellRings 2 = .ok (.putfield 15, 3) := by decide +kernel
theorem d_T_tellRings_5 : decode b_T_tellRings 5 = .ok (.iconst 0, 1) := by decide +kernel
theorem d_T_tellRings_6 : decode b_T_tellRings 6 = .ok (.istore_n 3, 1) := by decide +kernel
theorem d_T_tellRings_7 : decode b_T_tellRings 7 = .ok (.iload_n 3, 1) := by decide +kernel
theorem d_T_tellRings_8 : decode b_T_tellRings 8 = .ok (.aload_n 0, 1) := by decide +kernel
theorem d_T_tellRings_9 : decode b_T_tellRings 9 = .ok (.getfield 31, 3) := by decide +kernel
theorem d_T_tellRings_12 : decode b_T_tellRings 12 = .ok (.if_icmp .ge 39, 3) := by decide +kernel
theorem d_T_tellRings_15 : decode b_T_tellRings 15 = .ok (.aload_n 2, 1) := by decide +kernel
theorem d_T_tellRings_16 : decode b_T_tellRings 16 = .ok (.iload_n 3, 1) := by decide +kernel
theorem d_T_tellRings_17 : decode b_T_tellRings 17 = .ok (.invokevirtual 71, 3) := by decide +kernel
theorem d_T_tellRings_20 : decode b_T_tellRings 20 = .ok (.ifCond .le 25, 3) := by decide +kernel
theorem d_T_tellRings_23 : decode b_T_tellRings 23 = .ok (.aload_n 0, 1) := by decide +kernel
theorem d_T_tellRings_24 : decode b_T_tellRings 24 = .ok (.iload_n 3, 1) := by decide +kernel
theorem d_T_tellRings_25 : decode b_T_tellRings 25 = .ok (.aload_n 2, 1) := by decide +kernel
theorem d_T_tellRings_26 : decode b_T_tellRings 26 = .ok (.invokevirtual 81, 3) := by decide +kernel
theorem d_T_tellRings_29 : decode b_T_tellRings 29 = .ok (.iload_n 3, 1) := by decide +kernel
theorem d_T_tellRings_30 : decode b_T_tellRings 30 = .ok (.if_icmp .ne 15, 3) := by decide +kernel
theorem d_T_tellRings_33 : decode b_T_tellRings 33 = .ok (.aload_n 0, 1) := by decide +kernel
theorem d_T_tellRings_34 : decode b_T_tellRings 34 = .ok (.aload_n 0, 1) := by decide +kernel
theorem d_T_tellRings_35 : decode b_T_tellRings 35 = .ok (.iload_n 3, 1) := by decide +kernel
theorem d_T_tellRings_36 : decode b_T_tellRings 36 = .ok (.aload_n 2, 1) := by decide +kernel
theorem d_T_tellRings_37 : decode b_T_tellRings 37 = .ok (.invokevirtual 85, 3) := by decide +kernel
theorem d_T_tellRings_40 : decode b_T_tellRings 40 = .ok (.aload_n 1, 1) := by decide +kernel
theorem d_T_tellRings_41 : decode b_T_tellRings 41 = .ok (.aload_n 2, 1) := by decide +kernel
theorem d_T_tellRings_42 : decode b_T_tellRings 42 = .ok (.invokevirtual 88, 3) := by decide +kernel
theorem d_T_tellRings_45 : decode b_T_tellRings 45 = .ok (.iinc 3 1, 3) := by decide +kernel
theorem d_T_tellRings_48 : decode b_T_tellRings 48 = .ok (.goto (-41), 3) := by decide +kernel
theorem d_T_tellRings_51 : decode b_T_tellRings 51 = .ok (.return_, 1) := by decide +kernel
theorem d_T_firstOfPart_0 : decode b_T_firstOfPart 0 = .ok (.iconst 0, 1) := by decide +kernel
theorem d_T_firstOfPart_1 : decode b_T_firstOfPart 1 = .ok (.istore_n 3, 1) := by decide +kernel
theorem d_T_firstOfPart_2 : decode b_T_firstOfPart 2 = .ok (.iload_n 3, 1) := by decide +kernel
theorem d_T_firstOfPart_3 : decode b_T_firstOfPart 3 = .ok (.iload_n 1, 1) := by decide +kernel
theorem d_T_firstOfPart_4 : decode b_T_firstOfPart 4 = .ok (.if_icmp .ge 20, 3) := by decide +kernel
theorem d_T_firstOfPart_7 : decode b_T_firstOfPart 7 = .ok (.aload_n 2, 1) := by decide +kernel
theorem d_T_firstOfPart_8 : decode b_T_firstOfPart 8 = .ok (.iload_n 3, 1) := by decide +kernel
theorem d_T_firstOfPart_9 : decode b_T_firstOfPart 9 = .ok (.iload_n 1, 1) := by decide +kernel
theorem d_T_firstOfPart_10 : decode b_T_firstOfPart 10 = .ok (.invokevirtual 92, 3) := by decide +kernel
theorem d_T_firstOfPart_13 : decode b_T_firstOfPart 13 = .ok (.ifCond .eq 5, 3) := by decide +kernel
theorem d_T_firstOfPart_16 : decode b_T_firstOfPart 16 = .ok (.iload_n 3, 1) := by decide +kernel
theorem d_T_firstOfPart_17 : decode b_T_firstOfPart 17 = .ok (.ireturn, 1) := by decide +kernel
theorem d_T_firstOfPart_18 : decode b_T_firstOfPart 18 = .ok (.iinc 3 1, 3) := by decide +kernel
theorem d_T_firstOfPart_21 : decode b_T_firstOfPart 21 = .ok (.goto (-19), 3) := by decide +kernel
theorem d_T_firstOfPart_24 : decode b_T_firstOfPart 24 = .ok (.iload_n 1, 1) := by decide +kernel
theorem d_T_firstOfPart_25 : decode b_T_firstOfPart 25 = .ok (.ireturn, 1) := by decide +kernel
theorem d_T_leastRinged_0 : decode b_T_leastRinged 0 = .ok (.iload_n 1, 1) := by decide +kernel
theorem d_T_leastRinged_1 : decode b_T_leastRinged 1 = .ok (.istore_n 3, 1) := by decide +kernel
theorem d_T_leastRinged_2 : decode b_T_leastRinged 2 = .ok (.iload_n 1, 1) := by decide +kernel
theorem d_T_leastRinged_3 : decode b_T_leastRinged 3 = .ok (.iconst 1, 1) := by decide +kernel
theorem d_T_leastRinged_4 : decode b_T_leastRinged 4 = .ok (.iadd, 1) := by decide +kernel
theorem d_T_leastRinged_5 : decode b_T_leastRinged 5 = .ok (.istore 4, 2) := by decide +kernel
theorem d_T_leastRinged_7 : decode b_T_leastRinged 7 = .ok (.iload 4, 2) := by decide +kernel
theorem d_T_leastRinged_9 : decode b_T_leastRinged 9 = .ok (.aload_n 0, 1) := by decide +kernel
theorem d_T_leastRinged_10 : decode b_T_leastRinged 10 = .ok (.getfield 31, 3) := by decide +kernel
theorem d_T_leastRinged_13 : decode b_T_leastRinged 13 = .ok (.if_icmp .ge 36, 3) := by decide +kernel
theorem d_T_leastRinged_16 : decode b_T_leastRinged 16 = .ok (.aload_n 2, 1) := by decide +kernel
theorem d_T_leastRinged_17 : decode b_T_leastRinged 17 = .ok (.iload_n 1, 1) := by decide +kernel
theorem d_T_leastRinged_18 : decode b_T_leastRinged 18 = .ok (.iload 4, 2) := by decide +kernel
theorem d_T_leastRinged_20 : decode b_T_leastRinged 20 = .ok (.invokevirtual 92, 3) := by decide +kernel
theorem d_T_leastRinged_23 : decode b_T_leastRinged 23 = .ok (.ifCond .eq 20, 3) := by decide +kernel
theorem d_T_leastRinged_26 : decode b_T_leastRinged 26 = .ok (.aload_n 2, 1) := by decide +kernel
theorem d_T_leastRinged_27 : decode b_T_leastRinged 27 = .ok (.iload 4, 2) := by decide +kernel
theorem d_T_leastRinged_29 : decode b_T_leastRinged 29 = .ok (.invokevirtual 71, 3) := by decide +kernel
theorem d_T_leastRinged_32 : decode b_T_leastRinged 32 = .ok (.aload_n 2, 1) := by decide +kernel
theorem d_T_leastRinged_33 : decode b_T_leastRinged 33 = .ok (.iload_n 3, 1) := by decide +kernel
theorem d_T_leastRinged_34 : decode b_T_leastRinged 34 = .ok (.invokevirtual 71, 3) := by decide +kernel
theorem d_T_leastRinged_37 : decode b_T_leastRinged 37 = .ok (.if_icmp .ge 6, 3) := by decide +kernel
theorem d_T_leastRinged_40 : decode b_T_leastRinged 40 = .ok (.iload 4, 2) := by decide +kernel
theorem d_T_leastRinged_42 : decode b_T_leastRinged 42 = .ok (.istore_n 3, 1) := by decide +kernel
theorem d_T_leastRinged_43 : decode b_T_leastRinged 43 = .ok (.iinc 4 1, 3) := by decide +kernel
theorem d_T_leastRinged_46 : decode b_T_leastRinged 46 = .ok (.goto (-39), 3) := by decide +kernel
theorem d_T_leastRinged_49 : decode b_T_leastRinged 49 = .ok (.iload_n 3, 1) := by decide +kernel
theorem d_T_leastRinged_50 : decode b_T_leastRinged 50 = .ok (.ireturn, 1) := by decide +kernel
theorem d_T_tellRing_0 : decode b_T_tellRing 0 = .ok (.aload_n 3, 1) := by decide +kernel
theorem d_T_tellRing_1 : decode b_T_tellRing 1 = .ok (.iload_n 1, 1) := by decide +kernel
theorem d_T_tellRing_2 : decode b_T_tellRing 2 = .ok (.invokevirtual 71, 3) := by decide +kernel
theorem d_T_tellRing_5 : decode b_T_tellRing 5 = .ok (.istore 4, 2) := by decide +kernel
theorem d_T_tellRing_7 : decode b_T_tellRing 7 = .ok (.aload_n 0, 1) := by decide +kernel
theorem d_T_tellRing_8 : decode b_T_tellRing 8 = .ok (.getfield 34, 3) := by decide +kernel
theorem d_T_tellRing_11 : decode b_T_tellRing 11 = .ok (.aload_n 0, 1) := by decide +kernel
theorem d_T_tellRing_12 : decode b_T_tellRing 12 = .ok (.getfield 15, 3) := by decide +kernel
theorem d_T_tellRing_15 : decode b_T_tellRing 15 = .ok (.iaload, 1) := by decide +kernel
theorem d_T_tellRing_16 : decode b_T_tellRing 16 = .ok (.istore 5, 2) := by decide +kernel
theorem d_T_tellRing_18 : decode b_T_tellRing 18 = .ok (.aload_n 3, 1) := by decide +kernel
theorem d_T_tellRing_19 : decode b_T_tellRing 19 = .ok (.iload_n 1, 1) := by decide +kernel
theorem d_T_tellRing_20 : decode b_T_tellRing 20 = .ok (.iload 4, 2) := by decide +kernel
theorem d_T_tellRing_22 : decode b_T_tellRing 22 = .ok (.invokevirtual 96, 3) := by decide +kernel
theorem d_T_tellRing_25 : decode b_T_tellRing 25 = .ok (.iload_n 1, 1) := by decide +kernel
theorem d_T_tellRing_26 : decode b_T_tellRing 26 = .ok (.istore 6, 2) := by decide +kernel
theorem d_T_tellRing_28 : decode b_T_tellRing 28 = .ok (.iload 4, 2) := by decide +kernel
theorem d_T_tellRing_30 : decode b_T_tellRing 30 = .ok (.iconst 1, 1) := by decide +kernel
theorem d_T_tellRing_31 : decode b_T_tellRing 31 = .ok (.isub, 1) := by decide +kernel
theorem d_T_tellRing_32 : decode b_T_tellRing 32 = .ok (.istore 7, 2) := by decide +kernel
theorem d_T_tellRing_34 : decode b_T_tellRing 34 = .ok (.iload 7, 2) := by decide +kernel
theorem d_T_tellRing_36 : decode b_T_tellRing 36 = .ok (.ifCond .lt 49, 3) := by decide +kernel
theorem d_T_tellRing_39 : decode b_T_tellRing 39 = .ok (.iload 6, 2) := by decide +kernel
theorem d_T_tellRing_41 : decode b_T_tellRing 41 = .ok (.iconst (-1), 1) := by decide +kernel
theorem d_T_tellRing_42 : decode b_T_tellRing 42 = .ok (.if_icmp .eq 43, 3) := by decide +kernel
theorem d_T_tellRing_45 : decode b_T_tellRing 45 = .ok (.iload 5, 2) := by decide +kernel
theorem d_T_tellRing_47 : decode b_T_tellRing 47 = .ok (.bipush 40, 2) := by decide +kernel
theorem d_T_tellRing_49 : decode b_T_tellRing 49 = .ok (.if_icmp .ge 36, 3) := by decide +kernel
theorem d_T_tellRing_52 : decode b_T_tellRing 52 = .ok (.aload_n 0, 1) := by decide +kernel
theorem d_T_tellRing_53 : decode b_T_tellRing 53 = .ok (.getfield 37, 3) := by decide +kernel
theorem d_T_tellRing_56 : decode b_T_tellRing 56 = .ok (.iload 5, 2) := by decide +kernel
theorem d_T_tellRing_58 : decode b_T_tellRing 58 = .ok (.aload_n 2, 1) := by decide +kernel
theorem d_T_tellRing_59 : decode b_T_tellRing 59 = .ok (.getfield 68, 3) := by decide +kernel
theorem d_T_tellRing_62 : decode b_T_tellRing 62 = .ok (.iload 6, 2) := by decide +kernel
theorem d_T_tellRing_64 : decode b_T_tellRing 64 = .ok (.iaload, 1) := by decide +kernel
theorem d_T_tellRing_65 : decode b_T_tellRing 65 = .ok (.iastore, 1) := by decide +kernel
theorem d_T_tellRing_66 : decode b_T_tellRing 66 = .ok (.iinc 5 1, 3) := by decide +kernel
theorem d_T_tellRing_69 : decode b_T_tellRing 69 = .ok (.aload_n 3, 1) := by decide +kernel
theorem d_T_tellRing_70 : decode b_T_tellRing 70 = .ok (.iload 6, 2) := by decide +kernel
theorem d_T_tellRing_72 : decode b_T_tellRing 72 = .ok (.iload 7, 2) := by decide +kernel
theorem d_T_tellRing_74 : decode b_T_tellRing 74 = .ok (.invokevirtual 100, 3) := by decide +kernel
theorem d_T_tellRing_77 : decode b_T_tellRing 77 = .ok (.istore 6, 2) := by decide +kernel
theorem d_T_tellRing_79 : decode b_T_tellRing 79 = .ok (.iinc 7 (-1), 3) := by decide +kernel
theorem d_T_tellRing_82 : decode b_T_tellRing 82 = .ok (.goto (-48), 3) := by decide +kernel
theorem d_T_tellRing_85 : decode b_T_tellRing 85 = .ok (.aload_n 0, 1) := by decide +kernel
theorem d_T_tellRing_86 : decode b_T_tellRing 86 = .ok (.dup, 1) := by decide +kernel
theorem d_T_tellRing_87 : decode b_T_tellRing 87 = .ok (.getfield 15, 3) := by decide +kernel
theorem d_T_tellRing_90 : decode b_T_tellRing 90 = .ok (.iconst 1, 1) := by decide +kernel
theorem d_T_tellRing_91 : decode b_T_tellRing 91 = .ok (.iadd, 1) := by decide +kernel
theorem d_T_tellRing_92 : decode b_T_tellRing 92 = .ok (.putfield 15, 3) := by decide +kernel
theorem d_T_tellRing_95 : decode b_T_tellRing 95 = .ok (.aload_n 0, 1) := by decide +kernel
theorem d_T_tellRing_96 : decode b_T_tellRing 96 = .ok (.getfield 34, 3) := by decide +kernel
theorem d_T_tellRing_99 : decode b_T_tellRing 99 = .ok (.aload_n 0, 1) := by decide +kernel
theorem d_T_tellRing_100 : decode b_T_tellRing 100 = .ok (.getfield 15, 3) := by decide +kernel
theorem d_T_tellRing_103 : decode b_T_tellRing 103 = .ok (.iload 5, 2) := by decide +kernel
theorem d_T_tellRing_105 : decode b_T_tellRing 105 = .ok (.iastore, 1) := by decide +kernel
theorem d_T_tellRing_106 : decode b_T_tellRing 106 = .ok (.return_, 1) := by decide +kernel
theorem d_T_tellEdges_0 : decode b_T_tellEdges 0 = .ok (.sipush 255, 3) := by decide +kernel
theorem d_T_tellEdges_3 : decode b_T_tellEdges 3 = .ok (.istore_n 3, 1) := by decide +kernel
theorem d_T_tellEdges_4 : decode b_T_tellEdges 4 = .ok (.aload_n 0, 1) := by decide +kernel
theorem d_T_tellEdges_5 : decode b_T_tellEdges 5 = .ok (.getfield 34, 3) := by decide +kernel
theorem d_T_tellEdges_8 : decode b_T_tellEdges 8 = .ok (.iload_n 1, 1) := by decide +kernel
theorem d_T_tellEdges_9 : decode b_T_tellEdges 9 = .ok (.iaload, 1) := by decide +kernel
theorem d_T_tellEdges_10 : decode b_T_tellEdges 10 = .ok (.istore 4, 2) := by decide +kernel
theorem d_T_tellEdges_12 : decode b_T_tellEdges 12 = .ok (.iload 4, 2) := by decide +kernel
theorem d_T_tellEdges_14 : decode b_T_tellEdges 14 = .ok (.aload_n 0, 1) := by decide +kernel
theorem d_T_tellEdges_15 : decode b_T_tellEdges 15 = .ok (.getfield 34, 3) := by decide +kernel
theorem d_T_tellEdges_18 : decode b_T_tellEdges 18 = .ok (.iload_n 1, 1) := by decide +kernel
theorem d_T_tellEdges_19 : decode b_T_tellEdges 19 = .ok (.iconst 1, 1) := by decide +kernel
theorem d_T_tellEdges_20 : decode b_T_tellEdges 20 = .ok (.iadd, 1) := by decide +kernel
theorem d_T_tellEdges_21 : decode b_T_tellEdges 21 = .ok (.iaload, 1) := by decide +kernel
theorem d_T_tellEdges_22 : decode b_T_tellEdges 22 = .ok (.if_icmp .ge 83, 3) := by decide +kernel
theorem d_T_tellEdges_25 : decode b_T_tellEdges 25 = .ok (.aload_n 0, 1) := by decide +kernel
theorem d_T_tellEdges_26 : decode b_T_tellEdges 26 = .ok (.getfield 37, 3) := by decide +kernel
theorem d_T_tellEdges_29 : decode b_T_tellEdges 29 = .ok (.iload 4, 2) := by decide +kernel
theorem d_T_tellEdges_31 : decode b_T_tellEdges 31 = .ok (.iaload, 1) := by decide +kernel
theorem d_T_tellEdges_32 : decode b_T_tellEdges 32 = .ok (.istore 5, 2) := by decide +kernel
theorem d_T_tellEdges_34 : decode b_T_tellEdges 34 = .ok (.aload_n 0, 1) := by decide +kernel
theorem d_T_tellEdges_35 : decode b_T_tellEdges 35 = .ok (.getfield 37, 3) := by decide +kernel
theorem d_T_tellEdges_38 : decode b_T_tellEdges 38 = .ok (.iload 4, 2) := by decide +kernel
theorem d_T_tellEdges_40 : decode b_T_tellEdges 40 = .ok (.iconst 1, 1) := by decide +kernel
theorem d_T_tellEdges_41 : decode b_T_tellEdges 41 = .ok (.iadd, 1) := by decide +kernel
theorem d_T_tellEdges_42 : decode b_T_tellEdges 42 = .ok (.aload_n 0, 1) := by decide +kernel
theorem d_T_tellEdges_43 : decode b_T_tellEdges 43 = .ok (.getfield 34, 3) := by decide +kernel
theorem d_T_tellEdges_46 : decode b_T_tellEdges 46 = .ok (.iload_n 1, 1) := by decide +kernel
theorem d_T_tellEdges_47 : decode b_T_tellEdges 47 = .ok (.iconst 1, 1) := by decide +kernel
theorem d_T_tellEdges_48 : decode b_T_tellEdges 48 = .ok (.iadd, 1) := by decide +kernel
theorem d_T_tellEdges_49 : decode b_T_tellEdges 49 = .ok (.iaload, 1) := by decide +kernel
theorem d_T_tellEdges_50 : decode b_T_tellEdges 50 = .ok (.if_icmp .ge 10, 3) := by decide +kernel
theorem d_T_tellEdges_53 : decode b_T_tellEdges 53 = .ok (.iload 4, 2) := by decide +kernel
theorem d_T_tellEdges_55 : decode b_T_tellEdges 55 = .ok (.iconst 1, 1) := by decide +kernel
theorem d_T_tellEdges_56 : decode b_T_tellEdges 56 = .ok (.iadd, 1) := by decide +kernel
theorem d_T_tellEdges_57 : decode b_T_tellEdges 57 = .ok (.goto 9, 3) := by decide +kernel
theorem d_T_tellEdges_60 : decode b_T_tellEdges 60 = .ok (.aload_n 0, 1) := by decide +kernel
theorem d_T_tellEdges_61 : decode b_T_tellEdges 61 = .ok (.getfield 34, 3) := by decide +kernel
theorem d_T_tellEdges_64 : decode b_T_tellEdges 64 = .ok (.iload_n 1, 1) := by decide +kernel
theorem d_T_tellEdges_65 : decode b_T_tellEdges 65 = .ok (.iaload, 1) := by decide +kernel
theorem d_T_tellEdges_66 : decode b_T_tellEdges 66 = .ok (.iaload, 1) := by decide +kernel
theorem d_T_tellEdges_67 : decode b_T_tellEdges 67 = .ok (.istore 6, 2) := by decide +kernel
theorem d_T_tellEdges_69 : decode b_T_tellEdges 69 = .ok (.aload_n 0, 1) := by decide +kernel
theorem d_T_tellEdges_70 : decode b_T_tellEdges 70 = .ok (.getfield 40, 3) := by decide +kernel
theorem d_T_tellEdges_73 : decode b_T_tellEdges 73 = .ok (.iload 4, 2) := by decide +kernel
theorem d_T_tellEdges_75 : decode b_T_tellEdges 75 = .ok (.aload_n 2, 1) := by decide +kernel
theorem d_T_tellEdges_76 : decode b_T_tellEdges 76 = .ok (.iload 5, 2) := by decide +kernel
theorem d_T_tellEdges_78 : decode b_T_tellEdges 78 = .ok (.iload 6, 2) := by decide +kernel
theorem d_T_tellEdges_80 : decode b_T_tellEdges 80 = .ok (.aload_n 0, 1) := by decide +kernel
theorem d_T_tellEdges_81 : decode b_T_tellEdges 81 = .ok (.getfield 9, 3) := by decide +kernel
theorem d_T_tellEdges_84 : decode b_T_tellEdges 84 = .ok (.invokevirtual 103, 3) := by decide +kernel
theorem d_T_tellEdges_87 : decode b_T_tellEdges 87 = .ok (.iastore, 1) := by decide +kernel
theorem d_T_tellEdges_88 : decode b_T_tellEdges 88 = .ok (.iload_n 3, 1) := by decide +kernel
theorem d_T_tellEdges_89 : decode b_T_tellEdges 89 = .ok (.aload_n 2, 1) := by decide +kernel
theorem d_T_tellEdges_90 : decode b_T_tellEdges 90 = .ok (.iload 5, 2) := by decide +kernel
theorem d_T_tellEdges_92 : decode b_T_tellEdges 92 = .ok (.iload 6, 2) := by decide +kernel
theorem d_T_tellEdges_94 : decode b_T_tellEdges 94 = .ok (.invokevirtual 109, 3) := by decide +kernel
theorem d_T_tellEdges_97 : decode b_T_tellEdges 97 = .ok (.iand, 1) := by decide +kernel
theorem d_T_tellEdges_98 : decode b_T_tellEdges 98 = .ok (.istore_n 3, 1) := by decide +kernel
theorem d_T_tellEdges_99 : decode b_T_tellEdges 99 = .ok (.iinc 4 1, 3) := by decide +kernel
theorem d_T_tellEdges_102 : decode b_T_tellEdges 102 = .ok (.goto (-90), 3) := by decide +kernel
theorem d_T_tellEdges_105 : decode b_T_tellEdges 105 = .ok (.aload_n 0, 1) := by decide +kernel
theorem d_T_tellEdges_106 : decode b_T_tellEdges 106 = .ok (.getfield 28, 3) := by decide +kernel
theorem d_T_tellEdges_109 : decode b_T_tellEdges 109 = .ok (.iload_n 1, 1) := by decide +kernel
theorem d_T_tellEdges_110 : decode b_T_tellEdges 110 = .ok (.iload_n 3, 1) := by decide +kernel
theorem d_T_tellEdges_111 : decode b_T_tellEdges 111 = .ok (.iconst 1, 1) := by decide +kernel
theorem d_T_tellEdges_112 : decode b_T_tellEdges 112 = .ok (.aload_n 0, 1) := by decide +kernel
theorem d_T_tellEdges_113 : decode b_T_tellEdges 113 = .ok (.getfield 9, 3) := by decide +kernel
theorem d_T_tellEdges_116 : decode b_T_tellEdges 116 = .ok (.ishl, 1) := by decide +kernel
theorem d_T_tellEdges_117 : decode b_T_tellEdges 117 = .ok (.if_icmp .ne 10, 3) := by decide +kernel
theorem d_T_tellEdges_120 : decode b_T_tellEdges 120 = .ok (.aload_n 0, 1) := by decide +kernel
theorem d_T_tellEdges_121 : decode b_T_tellEdges 121 = .ok (.getfield 9, 3) := by decide +kernel
theorem d_T_tellEdges_124 : decode b_T_tellEdges 124 = .ok (.goto 4, 3) := by decide +kernel
theorem d_T_tellEdges_127 : decode b_T_tellEdges 127 = .ok (.iconst (-1), 1) := by decide +kernel
theorem d_T_tellEdges_128 : decode b_T_tellEdges 128 = .ok (.iastore, 1) := by decide +kernel
theorem d_T_tellEdges_129 : decode b_T_tellEdges 129 = .ok (.return_, 1) := by decide +kernel
theorem d_X_bitCount_0 : decode b_X_bitCount 0 = .ok (.lload_n 0, 1) := by decide +kernel
theorem d_X_bitCount_1 : decode b_X_bitCount 1 = .ok (.lload_n 0, 1) := by decide +kernel
theorem d_X_bitCount_2 : decode b_X_bitCount 2 = .ok (.iconst 1, 1) := by decide +kernel
theorem d_X_bitCount_3 : decode b_X_bitCount 3 = .ok (.lushr, 1) := by decide +kernel
theorem d_X_bitCount_4 : decode b_X_bitCount 4 = .ok (.ldc2_w 314, 3) := by decide +kernel
theorem d_X_bitCount_7 : decode b_X_bitCount 7 = .ok (.land, 1) := by decide +kernel
theorem d_X_bitCount_8 : decode b_X_bitCount 8 = .ok (.lsub, 1) := by decide +kernel
theorem d_X_bitCount_9 : decode b_X_bitCount 9 = .ok (.lstore_n 0, 1) := by decide +kernel
theorem d_X_bitCount_10 : decode b_X_bitCount 10 = .ok (.lload_n 0, 1) := by decide +kernel
theorem d_X_bitCount_11 : decode b_X_bitCount 11 = .ok (.ldc2_w 316, 3) := by decide +kernel
theorem d_X_bitCount_14 : decode b_X_bitCount 14 = .ok (.land, 1) := by decide +kernel
theorem d_X_bitCount_15 : decode b_X_bitCount 15 = .ok (.lload_n 0, 1) := by decide +kernel
theorem d_X_bitCount_16 : decode b_X_bitCount 16 = .ok (.iconst 2, 1) := by decide +kernel
theorem d_X_bitCount_17 : decode b_X_bitCount 17 = .ok (.lushr, 1) := by decide +kernel
theorem d_X_bitCount_18 : decode b_X_bitCount 18 = .ok (.ldc2_w 316, 3) := by decide +kernel
theorem d_X_bitCount_21 : decode b_X_bitCount 21 = .ok (.land, 1) := by decide +kernel
theorem d_X_bitCount_22 : decode b_X_bitCount 22 = .ok (.ladd, 1) := by decide +kernel
theorem d_X_bitCount_23 : decode b_X_bitCount 23 = .ok (.lstore_n 0, 1) := by decide +kernel
theorem d_X_bitCount_24 : decode b_X_bitCount 24 = .ok (.lload_n 0, 1) := by decide +kernel
theorem d_X_bitCount_25 : decode b_X_bitCount 25 = .ok (.lload_n 0, 1) := by decide +kernel
theorem d_X_bitCount_26 : decode b_X_bitCount 26 = .ok (.iconst 4, 1) := by decide +kernel
theorem d_X_bitCount_27 : decode b_X_bitCount 27 = .ok (.lushr, 1) := by decide +kernel
theorem d_X_bitCount_28 : decode b_X_bitCount 28 = .ok (.ladd, 1) := by decide +kernel
theorem d_X_bitCount_29 : decode b_X_bitCount 29 = .ok (.ldc2_w 318, 3) := by decide +kernel
theorem d_X_bitCount_32 : decode b_X_bitCount 32 = .ok (.land, 1) := by decide +kernel
theorem d_X_bitCount_33 : decode b_X_bitCount 33 = .ok (.lstore_n 0, 1) := by decide +kernel
theorem d_X_bitCount_34 : decode b_X_bitCount 34 = .ok (.lload_n 0, 1) := by decide +kernel
theorem d_X_bitCount_35 : decode b_X_bitCount 35 = .ok (.lload_n 0, 1) := by decide +kernel
theorem d_X_bitCount_36 : decode b_X_bitCount 36 = .ok (.bipush 8, 2) := by decide +kernel
theorem d_X_bitCount_38 : decode b_X_bitCount 38 = .ok (.lushr, 1) := by decide +kernel
theorem d_X_bitCount_39 : decode b_X_bitCount 39 = .ok (.ladd, 1) := by decide +kernel
theorem d_X_bitCount_40 : decode b_X_bitCount 40 = .ok (.lstore_n 0, 1) := by decide +kernel
theorem d_X_bitCount_41 : decode b_X_bitCount 41 = .ok (.lload_n 0, 1) := by decide +kernel
theorem d_X_bitCount_42 : decode b_X_bitCount 42 = .ok (.lload_n 0, 1) := by decide +kernel
theorem d_X_bitCount_43 : decode b_X_bitCount 43 = .ok (.bipush 16, 2) := by decide +kernel
theorem d_X_bitCount_45 : decode b_X_bitCount 45 = .ok (.lushr, 1) := by decide +kernel
theorem d_X_bitCount_46 : decode b_X_bitCount 46 = .ok (.ladd, 1) := by decide +kernel
theorem d_X_bitCount_47 : decode b_X_bitCount 47 = .ok (.lstore_n 0, 1) := by decide +kernel
theorem d_X_bitCount_48 : decode b_X_bitCount 48 = .ok (.lload_n 0, 1) := by decide +kernel
theorem d_X_bitCount_49 : decode b_X_bitCount 49 = .ok (.lload_n 0, 1) := by decide +kernel
theorem d_X_bitCount_50 : decode b_X_bitCount 50 = .ok (.bipush 32, 2) := by decide +kernel
theorem d_X_bitCount_52 : decode b_X_bitCount 52 = .ok (.lushr, 1) := by decide +kernel
theorem d_X_bitCount_53 : decode b_X_bitCount 53 = .ok (.ladd, 1) := by decide +kernel
theorem d_X_bitCount_54 : decode b_X_bitCount 54 = .ok (.lstore_n 0, 1) := by decide +kernel
theorem d_X_bitCount_55 : decode b_X_bitCount 55 = .ok (.lload_n 0, 1) := by decide +kernel
theorem d_X_bitCount_56 : decode b_X_bitCount 56 = .ok (.l2i, 1) := by decide +kernel
theorem d_X_bitCount_57 : decode b_X_bitCount 57 = .ok (.bipush 127, 2) := by decide +kernel
theorem d_X_bitCount_59 : decode b_X_bitCount 59 = .ok (.iand, 1) := by decide +kernel
theorem d_X_bitCount_60 : decode b_X_bitCount 60 = .ok (.ireturn, 1) := by decide +kernel
