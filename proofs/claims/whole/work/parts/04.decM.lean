theorem d_M_init_0 : decode b_M_init 0 = .ok (.aload_n 0, 1) := by decide +kernel
theorem d_M_init_1 : decode b_M_init 1 = .ok (.invokespecial 1, 3) := by decide +kernel
theorem d_M_init_4 : decode b_M_init 4 = .ok (.aload_n 0, 1) := by decide +kernel
theorem d_M_init_5 : decode b_M_init 5 = .ok (.bipush 40, 2) := by decide +kernel
theorem d_M_init_7 : decode b_M_init 7 = .ok (.newarray .int, 2) := by decide +kernel
theorem d_M_init_9 : decode b_M_init 9 = .ok (.putfield 7, 3) := by decide +kernel
theorem d_M_init_12 : decode b_M_init 12 = .ok (.aload_n 0, 1) := by decide +kernel
theorem d_M_init_13 : decode b_M_init 13 = .ok (.sipush 160, 3) := by decide +kernel
theorem d_M_init_16 : decode b_M_init 16 = .ok (.newarray .int, 2) := by decide +kernel
theorem d_M_init_18 : decode b_M_init 18 = .ok (.putfield 13, 3) := by decide +kernel
theorem d_M_init_21 : decode b_M_init 21 = .ok (.aload_n 0, 1) := by decide +kernel
theorem d_M_init_22 : decode b_M_init 22 = .ok (.sipush 160, 3) := by decide +kernel
theorem d_M_init_25 : decode b_M_init 25 = .ok (.newarray .int, 2) := by decide +kernel
theorem d_M_init_27 : decode b_M_init 27 = .ok (.putfield 16, 3) := by decide +kernel
theorem d_M_init_30 : decode b_M_init 30 = .ok (.aload_n 0, 1) := by decide +kernel
theorem d_M_init_31 : decode b_M_init 31 = .ok (.sipush 160, 3) := by decide +kernel
theorem d_M_init_34 : decode b_M_init 34 = .ok (.newarray .int, 2) := by decide +kernel
theorem d_M_init_36 : decode b_M_init 36 = .ok (.putfield 19, 3) := by decide +kernel
theorem d_M_init_39 : decode b_M_init 39 = .ok (.aload_n 0, 1) := by decide +kernel
theorem d_M_init_40 : decode b_M_init 40 = .ok (.sipush 160, 3) := by decide +kernel
theorem d_M_init_43 : decode b_M_init 43 = .ok (.newarray .int, 2) := by decide +kernel
theorem d_M_init_45 : decode b_M_init 45 = .ok (.putfield 22, 3) := by decide +kernel
theorem d_M_init_48 : decode b_M_init 48 = .ok (.aload_n 0, 1) := by decide +kernel
theorem d_M_init_49 : decode b_M_init 49 = .ok (.sipush 160, 3) := by decide +kernel
theorem d_M_init_52 : decode b_M_init 52 = .ok (.newarray .boolean, 2) := by decide +kernel
theorem d_M_init_54 : decode b_M_init 54 = .ok (.putfield 25, 3) := by decide +kernel
theorem d_M_init_57 : decode b_M_init 57 = .ok (.aload_n 0, 1) := by decide +kernel
theorem d_M_init_58 : decode b_M_init 58 = .ok (.iconst (-1), 1) := by decide +kernel
theorem d_M_init_59 : decode b_M_init 59 = .ok (.putfield 29, 3) := by decide +kernel
theorem d_M_init_62 : decode b_M_init 62 = .ok (.aload_n 0, 1) := by decide +kernel
theorem d_M_init_63 : decode b_M_init 63 = .ok (.sipush 160, 3) := by decide +kernel
theorem d_M_init_66 : decode b_M_init 66 = .ok (.newarray .boolean, 2) := by decide +kernel
theorem d_M_init_68 : decode b_M_init 68 = .ok (.putfield 33, 3) := by decide +kernel
theorem d_M_init_71 : decode b_M_init 71 = .ok (.aload_n 0, 1) := by decide +kernel
theorem d_M_init_72 : decode b_M_init 72 = .ok (.bipush 40, 2) := by decide +kernel
theorem d_M_init_74 : decode b_M_init 74 = .ok (.newarray .int, 2) := by decide +kernel
theorem d_M_init_76 : decode b_M_init 76 = .ok (.putfield 36, 3) := by decide +kernel
theorem d_M_init_79 : decode b_M_init 79 = .ok (.aload_n 0, 1) := by decide +kernel
theorem d_M_init_80 : decode b_M_init 80 = .ok (.bipush 40, 2) := by decide +kernel
theorem d_M_init_82 : decode b_M_init 82 = .ok (.newarray .int, 2) := by decide +kernel
theorem d_M_init_84 : decode b_M_init 84 = .ok (.putfield 39, 3) := by decide +kernel
theorem d_M_init_87 : decode b_M_init 87 = .ok (.aload_n 0, 1) := by decide +kernel
theorem d_M_init_88 : decode b_M_init 88 = .ok (.bipush 40, 2) := by decide +kernel
theorem d_M_init_90 : decode b_M_init 90 = .ok (.newarray .int, 2) := by decide +kernel
theorem d_M_init_92 : decode b_M_init 92 = .ok (.putfield 42, 3) := by decide +kernel
theorem d_M_init_95 : decode b_M_init 95 = .ok (.aload_n 0, 1) := by decide +kernel
theorem d_M_init_96 : decode b_M_init 96 = .ok (.bipush 40, 2) := by decide +kernel
theorem d_M_init_98 : decode b_M_init 98 = .ok (.newarray .int, 2) := by decide +kernel
theorem d_M_init_100 : decode b_M_init 100 = .ok (.putfield 45, 3) := by decide +kernel
theorem d_M_init_103 : decode b_M_init 103 = .ok (.aload_n 0, 1) := by decide +kernel
theorem d_M_init_104 : decode b_M_init 104 = .ok (.sipush 1600, 3) := by decide +kernel
theorem d_M_init_107 : decode b_M_init 107 = .ok (.newarray .boolean, 2) := by decide +kernel
theorem d_M_init_109 : decode b_M_init 109 = .ok (.putfield 48, 3) := by decide +kernel
theorem d_M_init_112 : decode b_M_init 112 = .ok (.aload_n 0, 1) := by decide +kernel
theorem d_M_init_113 : decode b_M_init 113 = .ok (.sipush 1600, 3) := by decide +kernel
theorem d_M_init_116 : decode b_M_init 116 = .ok (.newarray .boolean, 2) := by decide +kernel
theorem d_M_init_118 : decode b_M_init 118 = .ok (.putfield 51, 3) := by decide +kernel
theorem d_M_init_121 : decode b_M_init 121 = .ok (.aload_n 0, 1) := by decide +kernel
theorem d_M_init_122 : decode b_M_init 122 = .ok (.sipush 1600, 3) := by decide +kernel
theorem d_M_init_125 : decode b_M_init 125 = .ok (.newarray .int, 2) := by decide +kernel
theorem d_M_init_127 : decode b_M_init 127 = .ok (.putfield 54, 3) := by decide +kernel
theorem d_M_init_130 : decode b_M_init 130 = .ok (.aload_n 0, 1) := by decide +kernel
theorem d_M_init_131 : decode b_M_init 131 = .ok (.bipush 40, 2) := by decide +kernel
theorem d_M_init_133 : decode b_M_init 133 = .ok (.newarray .int, 2) := by decide +kernel
theorem d_M_init_135 : decode b_M_init 135 = .ok (.putfield 57, 3) := by decide +kernel
theorem d_M_init_138 : decode b_M_init 138 = .ok (.aload_n 0, 1) := by decide +kernel
theorem d_M_init_139 : decode b_M_init 139 = .ok (.sipush 1600, 3) := by decide +kernel
theorem d_M_init_142 : decode b_M_init 142 = .ok (.newarray .int, 2) := by decide +kernel
theorem d_M_init_144 : decode b_M_init 144 = .ok (.putfield 60, 3) := by decide +kernel
theorem d_M_init_147 : decode b_M_init 147 = .ok (.aload_n 0, 1) := by decide +kernel
theorem d_M_init_148 : decode b_M_init 148 = .ok (.sipush 1640, 3) := by decide +kernel
theorem d_M_init_151 : decode b_M_init 151 = .ok (.newarray .boolean, 2) := by decide +kernel
theorem d_M_init_153 : decode b_M_init 153 = .ok (.putfield 63, 3) := by decide +kernel
theorem d_M_init_156 : decode b_M_init 156 = .ok (.aload_n 0, 1) := by decide +kernel
theorem d_M_init_157 : decode b_M_init 157 = .ok (.bipush 40, 2) := by decide +kernel
theorem d_M_init_159 : decode b_M_init 159 = .ok (.newarray .int, 2) := by decide +kernel
theorem d_M_init_161 : decode b_M_init 161 = .ok (.putfield 66, 3) := by decide +kernel
theorem d_M_init_164 : decode b_M_init 164 = .ok (.aload_n 0, 1) := by decide +kernel
theorem d_M_init_165 : decode b_M_init 165 = .ok (.bipush 40, 2) := by decide +kernel
theorem d_M_init_167 : decode b_M_init 167 = .ok (.newarray .int, 2) := by decide +kernel
theorem d_M_init_169 : decode b_M_init 169 = .ok (.putfield 69, 3) := by decide +kernel
theorem d_M_init_172 : decode b_M_init 172 = .ok (.aload_n 0, 1) := by decide +kernel
theorem d_M_init_173 : decode b_M_init 173 = .ok (.bipush 40, 2) := by decide +kernel
theorem d_M_init_175 : decode b_M_init 175 = .ok (.newarray .int, 2) := by decide +kernel
theorem d_M_init_177 : decode b_M_init 177 = .ok (.putfield 72, 3) := by decide +kernel
theorem d_M_init_180 : decode b_M_init 180 = .ok (.return_, 1) := by decide +kernel
theorem d_M_isKey_0 : decode b_M_isKey 0 = .ok (.iload_n 1, 1) := by decide +kernel
theorem d_M_isKey_1 : decode b_M_isKey 1 = .ok (.ifCond .lt 15, 3) := by decide +kernel
theorem d_M_isKey_4 : decode b_M_isKey 4 = .ok (.iload_n 1, 1) := by decide +kernel
theorem d_M_isKey_5 : decode b_M_isKey 5 = .ok (.aload_n 0, 1) := by decide +kernel
theorem d_M_isKey_6 : decode b_M_isKey 6 = .ok (.getfield 78, 3) := by decide +kernel
theorem d_M_isKey_9 : decode b_M_isKey 9 = .ok (.if_icmp .ge 7, 3) := by decide +kernel
theorem d_M_isKey_12 : decode b_M_isKey 12 = .ok (.iconst 1, 1) := by decide +kernel
theorem d_M_isKey_13 : decode b_M_isKey 13 = .ok (.goto 4, 3) := by decide +kernel
theorem d_M_isKey_16 : decode b_M_isKey 16 = .ok (.iconst 0, 1) := by decide +kernel
theorem d_M_isKey_17 : decode b_M_isKey 17 = .ok (.ireturn, 1) := by decide +kernel
theorem d_M_key_0 : decode b_M_key 0 = .ok (.aload_n 0, 1) := by decide +kernel
theorem d_M_key_1 : decode b_M_key 1 = .ok (.iconst 0, 1) := by decide +kernel
theorem d_M_key_2 : decode b_M_key 2 = .ok (.putfield 75, 3) := by decide +kernel
theorem d_M_key_5 : decode b_M_key 5 = .ok (.aload_n 0, 1) := by decide +kernel
theorem d_M_key_6 : decode b_M_key 6 = .ok (.getfield 78, 3) := by decide +kernel
theorem d_M_key_9 : decode b_M_key 9 = .ok (.bipush 40, 2) := by decide +kernel
theorem d_M_key_11 : decode b_M_key 11 = .ok (.if_icmp .ne 7, 3) := by decide +kernel
theorem d_M_key_14 : decode b_M_key 14 = .ok (.iconst 1, 1) := by decide +kernel
theorem d_M_key_15 : decode b_M_key 15 = .ok (.goto 4, 3) := by decide +kernel
theorem d_M_key_18 : decode b_M_key 18 = .ok (.iconst 0, 1) := by decide +kernel
theorem d_M_key_19 : decode b_M_key 19 = .ok (.istore_n 2, 1) := by decide +kernel
theorem d_M_key_20 : decode b_M_key 20 = .ok (.iconst 0, 1) := by decide +kernel
theorem d_M_key_21 : decode b_M_key 21 = .ok (.istore_n 3, 1) := by decide +kernel
theorem d_M_key_22 : decode b_M_key 22 = .ok (.iload_n 3, 1) := by decide +kernel
theorem d_M_key_23 : decode b_M_key 23 = .ok (.aload_n 0, 1) := by decide +kernel
theorem d_M_key_24 : decode b_M_key 24 = .ok (.getfield 78, 3) := by decide +kernel
theorem d_M_key_27 : decode b_M_key 27 = .ok (.if_icmp .ge 29, 3) := by decide +kernel
theorem d_M_key_30 : decode b_M_key 30 = .ok (.iload_n 2, 1) := by decide +kernel
theorem d_M_key_31 : decode b_M_key 31 = .ok (.ifCond .ne 13, 3) := by decide +kernel
theorem d_M_key_34 : decode b_M_key 34 = .ok (.aload_n 0, 1) := by decide +kernel
theorem d_M_key_35 : decode b_M_key 35 = .ok (.getfield 7, 3) := by decide +kernel
theorem d_M_key_38 : decode b_M_key 38 = .ok (.iload_n 3, 1) := by decide +kernel
theorem d_M_key_39 : decode b_M_key 39 = .ok (.iaload, 1) := by decide +kernel
theorem d_M_key_40 : decode b_M_key 40 = .ok (.iload_n 1, 1) := by decide +kernel
theorem d_M_key_41 : decode b_M_key 41 = .ok (.if_icmp .ne 7, 3) := by decide +kernel
theorem d_M_key_44 : decode b_M_key 44 = .ok (.iconst 1, 1) := by decide +kernel
theorem d_M_key_45 : decode b_M_key 45 = .ok (.goto 4, 3) := by decide +kernel
theorem d_M_key_48 : decode b_M_key 48 = .ok (.iconst 0, 1) := by decide +kernel
theorem d_M_key_49 : decode b_M_key 49 = .ok (.istore_n 2, 1) := by decide +kernel
theorem d_M_key_50 : decode b_M_key 50 = .ok (.iinc 3 1, 3) := by decide +kernel
theorem d_M_key_53 : decode b_M_key 53 = .ok (.goto (-31), 3) := by decide +kernel
theorem d_M_key_56 : decode b_M_key 56 = .ok (.iload_n 2, 1) := by decide +kernel
theorem d_M_key_57 : decode b_M_key 57 = .ok (.ifCond .eq 5, 3) := by decide +kernel
theorem d_M_key_60 : decode b_M_key 60 = .ok (.iconst (-1), 1) := by decide +kernel
theorem d_M_key_61 : decode b_M_key 61 = .ok (.ireturn, 1) := by decide +kernel
theorem d_M_key_62 : decode b_M_key 62 = .ok (.aload_n 0, 1) := by decide +kernel
theorem d_M_key_63 : decode b_M_key 63 = .ok (.getfield 7, 3) := by decide +kernel
theorem d_M_key_66 : decode b_M_key 66 = .ok (.aload_n 0, 1) := by decide +kernel
theorem d_M_key_67 : decode b_M_key 67 = .ok (.getfield 78, 3) := by decide +kernel
theorem d_M_key_70 : decode b_M_key 70 = .ok (.iload_n 1, 1) := by decide +kernel
theorem d_M_key_71 : decode b_M_key 71 = .ok (.iastore, 1) := by decide +kernel
theorem d_M_key_72 : decode b_M_key 72 = .ok (.aload_n 0, 1) := by decide +kernel
theorem d_M_key_73 : decode b_M_key 73 = .ok (.dup, 1) := by decide +kernel
theorem d_M_key_74 : decode b_M_key 74 = .ok (.getfield 78, 3) := by decide +kernel
theorem d_M_key_77 : decode b_M_key 77 = .ok (.iconst 1, 1) := by decide +kernel
theorem d_M_key_78 : decode b_M_key 78 = .ok (.iadd, 1) := by decide +kernel
theorem d_M_key_79 : decode b_M_key 79 = .ok (.putfield 78, 3) := by decide +kernel
theorem d_M_key_82 : decode b_M_key 82 = .ok (.aload_n 0, 1) := by decide +kernel
theorem d_M_key_83 : decode b_M_key 83 = .ok (.getfield 78, 3) := by decide +kernel
theorem d_M_key_86 : decode b_M_key 86 = .ok (.iconst 1, 1) := by decide +kernel
theorem d_M_key_87 : decode b_M_key 87 = .ok (.isub, 1) := by decide +kernel
theorem d_M_key_88 : decode b_M_key 88 = .ok (.ireturn, 1) := by decide +kernel
theorem d_M_edge_0 : decode b_M_edge 0 = .ok (.aload_n 0, 1) := by decide +kernel
theorem d_M_edge_1 : decode b_M_edge 1 = .ok (.iconst 0, 1) := by decide +kernel
theorem d_M_edge_2 : decode b_M_edge 2 = .ok (.putfield 75, 3) := by decide +kernel
theorem d_M_edge_5 : decode b_M_edge 5 = .ok (.aload_n 0, 1) := by decide +kernel
theorem d_M_edge_6 : decode b_M_edge 6 = .ok (.iload_n 1, 1) := by decide +kernel
theorem d_M_edge_7 : decode b_M_edge 7 = .ok (.invokevirtual 81, 3) := by decide +kernel
theorem d_M_edge_10 : decode b_M_edge 10 = .ok (.ifCond .eq 21, 3) := by decide +kernel
theorem d_M_edge_13 : decode b_M_edge 13 = .ok (.aload_n 0, 1) := by decide +kernel
theorem d_M_edge_14 : decode b_M_edge 14 = .ok (.iload_n 2, 1) := by decide +kernel
theorem d_M_edge_15 : decode b_M_edge 15 = .ok (.invokevirtual 81, 3) := by decide +kernel
theorem d_M_edge_18 : decode b_M_edge 18 = .ok (.ifCond .eq 13, 3) := by decide +kernel
theorem d_M_edge_21 : decode b_M_edge 21 = .ok (.aload_n 0, 1) := by decide +kernel
theorem d_M_edge_22 : decode b_M_edge 22 = .ok (.getfield 85, 3) := by decide +kernel
theorem d_M_edge_25 : decode b_M_edge 25 = .ok (.sipush 160, 3) := by decide +kernel
theorem d_M_edge_28 : decode b_M_edge 28 = .ok (.if_icmp .ne 5, 3) := by decide +kernel
theorem d_M_edge_31 : decode b_M_edge 31 = .ok (.iconst (-1), 1) := by decide +kernel
theorem d_M_edge_32 : decode b_M_edge 32 = .ok (.ireturn, 1) := by decide +kernel
theorem d_M_edge_33 : decode b_M_edge 33 = .ok (.aload_n 0, 1) := by decide +kernel
theorem d_M_edge_34 : decode b_M_edge 34 = .ok (.getfield 13, 3) := by decide +kernel
theorem d_M_edge_37 : decode b_M_edge 37 = .ok (.aload_n 0, 1) := by decide +kernel
theorem d_M_edge_38 : decode b_M_edge 38 = .ok (.getfield 85, 3) := by decide +kernel
theorem d_M_edge_41 : decode b_M_edge 41 = .ok (.iload_n 1, 1) := by decide +kernel
theorem d_M_edge_42 : decode b_M_edge 42 = .ok (.iastore, 1) := by decide +kernel
theorem d_M_edge_43 : decode b_M_edge 43 = .ok (.aload_n 0, 1) := by decide +kernel
theorem d_M_edge_44 : decode b_M_edge 44 = .ok (.getfield 16, 3) := by decide +kernel
theorem d_M_edge_47 : decode b_M_edge 47 = .ok (.aload_n 0, 1) := by decide +kernel
theorem d_M_edge_48 : decode b_M_edge 48 = .ok (.getfield 85, 3) := by decide +kernel
theorem d_M_edge_51 : decode b_M_edge 51 = .ok (.iload_n 2, 1) := by decide +kernel
theorem d_M_edge_52 : decode b_M_edge 52 = .ok (.iastore, 1) := by decide +kernel
theorem d_M_edge_53 : decode b_M_edge 53 = .ok (.aload_n 0, 1) := by decide +kernel
theorem d_M_edge_54 : decode b_M_edge 54 = .ok (.getfield 19, 3) := by decide +kernel
theorem d_M_edge_57 : decode b_M_edge 57 = .ok (.aload_n 0, 1) := by decide +kernel
theorem d_M_edge_58 : decode b_M_edge 58 = .ok (.getfield 85, 3) := by decide +kernel
theorem d_M_edge_61 : decode b_M_edge 61 = .ok (.iload_n 3, 1) := by decide +kernel
theorem d_M_edge_62 : decode b_M_edge 62 = .ok (.iastore, 1) := by decide +kernel
theorem d_M_edge_63 : decode b_M_edge 63 = .ok (.aload_n 0, 1) := by decide +kernel
theorem d_M_edge_64 : decode b_M_edge 64 = .ok (.getfield 22, 3) := by decide +kernel
theorem d_M_edge_67 : decode b_M_edge 67 = .ok (.aload_n 0, 1) := by decide +kernel
theorem d_M_edge_68 : decode b_M_edge 68 = .ok (.getfield 85, 3) := by decide +kernel
theorem d_M_edge_71 : decode b_M_edge 71 = .ok (.iload 4, 2) := by decide +kernel
theorem d_M_edge_73 : decode b_M_edge 73 = .ok (.iastore, 1) := by decide +kernel
theorem d_M_edge_74 : decode b_M_edge 74 = .ok (.aload_n 0, 1) := by decide +kernel
theorem d_M_edge_75 : decode b_M_edge 75 = .ok (.dup, 1) := by decide +kernel
theorem d_M_edge_76 : decode b_M_edge 76 = .ok (.getfield 85, 3) := by decide +kernel
theorem d_M_edge_79 : decode b_M_edge 79 = .ok (.iconst 1, 1) := by decide +kernel
theorem d_M_edge_80 : decode b_M_edge 80 = .ok (.iadd, 1) := by decide +kernel
theorem d_M_edge_81 : decode b_M_edge 81 = .ok (.putfield 85, 3) := by decide +kernel
theorem d_M_edge_84 : decode b_M_edge 84 = .ok (.aload_n 0, 1) := by decide +kernel
theorem d_M_edge_85 : decode b_M_edge 85 = .ok (.getfield 85, 3) := by decide +kernel
theorem d_M_edge_88 : decode b_M_edge 88 = .ok (.iconst 1, 1) := by decide +kernel
theorem d_M_edge_89 : decode b_M_edge 89 = .ok (.isub, 1) := by decide +kernel
theorem d_M_edge_90 : decode b_M_edge 90 = .ok (.ireturn, 1) := by decide +kernel
theorem d_M_remove_0 : decode b_M_remove 0 = .ok (.aload_n 0, 1) := by decide +kernel
theorem d_M_remove_1 : decode b_M_remove 1 = .ok (.iconst 0, 1) := by decide +kernel
theorem d_M_remove_2 : decode b_M_remove 2 = .ok (.putfield 75, 3) := by decide +kernel
theorem d_M_remove_5 : decode b_M_remove 5 = .ok (.iconst 0, 1) := by decide +kernel
theorem d_M_remove_6 : decode b_M_remove 6 = .ok (.istore_n 3, 1) := by decide +kernel
theorem d_M_remove_7 : decode b_M_remove 7 = .ok (.iconst 0, 1) := by decide +kernel
theorem d_M_remove_8 : decode b_M_remove 8 = .ok (.istore 4, 2) := by decide +kernel
theorem d_M_remove_10 : decode b_M_remove 10 = .ok (.iload 4, 2) := by decide +kernel
theorem d_M_remove_12 : decode b_M_remove 12 = .ok (.aload_n 0, 1) := by decide +kernel
theorem d_M_remove_13 : decode b_M_remove 13 = .ok (.getfield 85, 3) := by decide +kernel
theorem d_M_remove_16 : decode b_M_remove 16 = .ok (.if_icmp .ge 55, 3) := by decide +kernel
theorem d_M_remove_19 : decode b_M_remove 19 = .ok (.aload_n 0, 1) := by decide +kernel
theorem d_M_remove_20 : decode b_M_remove 20 = .ok (.getfield 25, 3) := by decide +kernel
theorem d_M_remove_23 : decode b_M_remove 23 = .ok (.iload 4, 2) := by decide +kernel
theorem d_M_remove_25 : decode b_M_remove 25 = .ok (.baload, 1) := by decide +kernel
theorem d_M_remove_26 : decode b_M_remove 26 = .ok (.ifCond .ne 39, 3) := by decide +kernel
theorem d_M_remove_29 : decode b_M_remove 29 = .ok (.aload_n 0, 1) := by decide +kernel
theorem d_M_remove_30 : decode b_M_remove 30 = .ok (.getfield 13, 3) := by decide +kernel
theorem d_M_remove_33 : decode b_M_remove 33 = .ok (.iload 4, 2) := by decide +kernel
theorem d_M_remove_35 : decode b_M_remove 35 = .ok (.iaload, 1) := by decide +kernel
theorem d_M_remove_36 : decode b_M_remove 36 = .ok (.iload_n 1, 1) := by decide +kernel
theorem d_M_remove_37 : decode b_M_remove 37 = .ok (.if_icmp .ne 28, 3) := by decide +kernel
theorem d_M_remove_40 : decode b_M_remove 40 = .ok (.aload_n 0, 1) := by decide +kernel
theorem d_M_remove_41 : decode b_M_remove 41 = .ok (.getfield 16, 3) := by decide +kernel
theorem d_M_remove_44 : decode b_M_remove 44 = .ok (.iload 4, 2) := by decide +kernel
theorem d_M_remove_46 : decode b_M_remove 46 = .ok (.iaload, 1) := by decide +kernel
theorem d_M_remove_47 : decode b_M_remove 47 = .ok (.iload_n 2, 1) := by decide +kernel
theorem d_M_remove_48 : decode b_M_remove 48 = .ok (.if_icmp .eq 6, 3) := by decide +kernel
theorem d_M_remove_51 : decode b_M_remove 51 = .ok (.goto 14, 3) := by decide +kernel
theorem d_M_remove_54 : decode b_M_remove 54 = .ok (.aload_n 0, 1) := by decide +kernel
theorem d_M_remove_55 : decode b_M_remove 55 = .ok (.getfield 25, 3) := by decide +kernel
theorem d_M_remove_58 : decode b_M_remove 58 = .ok (.iload 4, 2) := by decide +kernel
theorem d_M_remove_60 : decode b_M_remove 60 = .ok (.iconst 1, 1) := by decide +kernel
theorem d_M_remove_61 : decode b_M_remove 61 = .ok (.bastore, 1) := by decide +kernel
theorem d_M_remove_62 : decode b_M_remove 62 = .ok (.iinc 3 1, 3) := by decide +kernel
theorem d_M_remove_65 : decode b_M_remove 65 = .ok (.iinc 4 1, 3) := by decide +kernel
theorem d_M_remove_68 : decode b_M_remove 68 = .ok (.goto (-58), 3) := by decide +kernel
theorem d_M_remove_71 : decode b_M_remove 71 = .ok (.iload_n 3, 1) := by decide +kernel
theorem d_M_remove_72 : decode b_M_remove 72 = .ok (.ireturn, 1) := by decide +kernel
theorem d_M_cut_0 : decode b_M_cut 0 = .ok (.aload_n 0, 1) := by decide +kernel
theorem d_M_cut_1 : decode b_M_cut 1 = .ok (.iconst 0, 1) := by decide +kernel
theorem d_M_cut_2 : decode b_M_cut 2 = .ok (.putfield 75, 3) := by decide +kernel
theorem d_M_cut_5 : decode b_M_cut 5 = .ok (.iload_n 1, 1) := by decide +kernel
theorem d_M_cut_6 : decode b_M_cut 6 = .ok (.ifCond .lt 20, 3) := by decide +kernel
theorem d_M_cut_9 : decode b_M_cut 9 = .ok (.iload_n 1, 1) := by decide +kernel
theorem d_M_cut_10 : decode b_M_cut 10 = .ok (.aload_n 0, 1) := by decide +kernel
theorem d_M_cut_11 : decode b_M_cut 11 = .ok (.getfield 85, 3) := by decide +kernel
theorem d_M_cut_14 : decode b_M_cut 14 = .ok (.if_icmp .ge 12, 3) := by decide +kernel
theorem d_M_cut_17 : decode b_M_cut 17 = .ok (.aload_n 0, 1) := by decide +kernel
theorem d_M_cut_18 : decode b_M_cut 18 = .ok (.getfield 25, 3) := by decide +kernel
theorem d_M_cut_21 : decode b_M_cut 21 = .ok (.iload_n 1, 1) := by decide +kernel
theorem d_M_cut_22 : decode b_M_cut 22 = .ok (.baload, 1) := by decide +kernel
theorem d_M_cut_23 : decode b_M_cut 23 = .ok (.ifCond .eq 5, 3) := by decide +kernel
theorem d_M_cut_26 : decode b_M_cut 26 = .ok (.iconst 0, 1) := by decide +kernel
theorem d_M_cut_27 : decode b_M_cut 27 = .ok (.ireturn, 1) := by decide +kernel
theorem d_M_cut_28 : decode b_M_cut 28 = .ok (.aload_n 0, 1) := by decide +kernel
theorem d_M_cut_29 : decode b_M_cut 29 = .ok (.getfield 25, 3) := by decide +kernel
theorem d_M_cut_32 : decode b_M_cut 32 = .ok (.iload_n 1, 1) := by decide +kernel
theorem d_M_cut_33 : decode b_M_cut 33 = .ok (.iconst 1, 1) := by decide +kernel
theorem d_M_cut_34 : decode b_M_cut 34 = .ok (.bastore, 1) := by decide +kernel
theorem d_M_cut_35 : decode b_M_cut 35 = .ok (.iconst 1, 1) := by decide +kernel
theorem d_M_cut_36 : decode b_M_cut 36 = .ok (.ireturn, 1) := by decide +kernel
theorem d_M_isThen_0 : decode b_M_isThen 0 = .ok (.aload_n 0, 1) := by decide +kernel
theorem d_M_isThen_1 : decode b_M_isThen 1 = .ok (.getfield 33, 3) := by decide +kernel
theorem d_M_isThen_4 : decode b_M_isThen 4 = .ok (.iload_n 1, 1) := by decide +kernel
theorem d_M_isThen_5 : decode b_M_isThen 5 = .ok (.baload, 1) := by decide +kernel
theorem d_M_isThen_6 : decode b_M_isThen 6 = .ok (.ifCond .ne 21, 3) := by decide +kernel
theorem d_M_isThen_9 : decode b_M_isThen 9 = .ok (.aload_n 0, 1) := by decide +kernel
theorem d_M_isThen_10 : decode b_M_isThen 10 = .ok (.getfield 22, 3) := by decide +kernel
theorem d_M_isThen_13 : decode b_M_isThen 13 = .ok (.iload_n 1, 1) := by decide +kernel
theorem d_M_isThen_14 : decode b_M_isThen 14 = .ok (.iaload, 1) := by decide +kernel
theorem d_M_isThen_15 : decode b_M_isThen 15 = .ok (.iload_n 2, 1) := by decide +kernel
theorem d_M_isThen_16 : decode b_M_isThen 16 = .ok (.ishr, 1) := by decide +kernel
theorem d_M_isThen_17 : decode b_M_isThen 17 = .ok (.iconst 1, 1) := by decide +kernel
theorem d_M_isThen_18 : decode b_M_isThen 18 = .ok (.iand, 1) := by decide +kernel
theorem d_M_isThen_19 : decode b_M_isThen 19 = .ok (.iconst 1, 1) := by decide +kernel
theorem d_M_isThen_20 : decode b_M_isThen 20 = .ok (.if_icmp .ne 7, 3) := by decide +kernel
theorem d_M_isThen_23 : decode b_M_isThen 23 = .ok (.iconst 1, 1) := by decide +kernel
theorem d_M_isThen_24 : decode b_M_isThen 24 = .ok (.goto 4, 3) := by decide +kernel
theorem d_M_isThen_27 : decode b_M_isThen 27 = .ok (.iconst 0, 1) := by decide +kernel
theorem d_M_isThen_28 : decode b_M_isThen 28 = .ok (.ireturn, 1) := by decide +kernel
theorem d_M_sort_0 : decode b_M_sort 0 = .ok (.iconst 0, 1) := by decide +kernel
theorem d_M_sort_1 : decode b_M_sort 1 = .ok (.istore_n 1, 1) := by decide +kernel
theorem d_M_sort_2 : decode b_M_sort 2 = .ok (.iload_n 1, 1) := by decide +kernel
theorem d_M_sort_3 : decode b_M_sort 3 = .ok (.aload_n 0, 1) := by decide +kernel
theorem d_M_sort_4 : decode b_M_sort 4 = .ok (.getfield 78, 3) := by decide +kernel
theorem d_M_sort_7 : decode b_M_sort 7 = .ok (.if_icmp .ge 64, 3) := by decide +kernel
theorem d_M_sort_10 : decode b_M_sort 10 = .ok (.iconst 0, 1) := by decide +kernel
theorem d_M_sort_11 : decode b_M_sort 11 = .ok (.istore_n 2, 1) := by decide +kernel
theorem d_M_sort_12 : decode b_M_sort 12 = .ok (.iconst 0, 1) := by decide +kernel
theorem d_M_sort_13 : decode b_M_sort 13 = .ok (.istore_n 3, 1) := by decide +kernel
theorem d_M_sort_14 : decode b_M_sort 14 = .ok (.iload_n 3, 1) := by decide +kernel
theorem d_M_sort_15 : decode b_M_sort 15 = .ok (.aload_n 0, 1) := by decide +kernel
theorem d_M_sort_16 : decode b_M_sort 16 = .ok (.getfield 78, 3) := by decide +kernel
theorem d_M_sort_19 : decode b_M_sort 19 = .ok (.if_icmp .ge 32, 3) := by decide +kernel
theorem d_M_sort_22 : decode b_M_sort 22 = .ok (.iload_n 2, 1) := by decide +kernel
theorem d_M_sort_23 : decode b_M_sort 23 = .ok (.aload_n 0, 1) := by decide +kernel
theorem d_M_sort_24 : decode b_M_sort 24 = .ok (.getfield 7, 3) := by decide +kernel
theorem d_M_sort_27 : decode b_M_sort 27 = .ok (.iload_n 3, 1) := by decide +kernel
theorem d_M_sort_28 : decode b_M_sort 28 = .ok (.iaload, 1) := by decide +kernel
theorem d_M_sort_29 : decode b_M_sort 29 = .ok (.aload_n 0, 1) := by decide +kernel
theorem d_M_sort_30 : decode b_M_sort 30 = .ok (.getfield 7, 3) := by decide +kernel
theorem d_M_sort_33 : decode b_M_sort 33 = .ok (.iload_n 1, 1) := by decide +kernel
theorem d_M_sort_34 : decode b_M_sort 34 = .ok (.iaload, 1) := by decide +kernel
theorem d_M_sort_35 : decode b_M_sort 35 = .ok (.if_icmp .ge 7, 3) := by decide +kernel
theorem d_M_sort_38 : decode b_M_sort 38 = .ok (.iconst 1, 1) := by decide +kernel
theorem d_M_sort_39 : decode b_M_sort 39 = .ok (.goto 4, 3) := by decide +kernel
theorem d_M_sort_42 : decode b_M_sort 42 = .ok (.iconst 0, 1) := by decide +kernel
theorem d_M_sort_43 : decode b_M_sort 43 = .ok (.iadd, 1) := by decide +kernel
theorem d_M_sort_44 : decode b_M_sort 44 = .ok (.istore_n 2, 1) := by decide +kernel
theorem d_M_sort_45 : decode b_M_sort 45 = .ok (.iinc 3 1, 3) := by decide +kernel
theorem d_M_sort_48 : decode b_M_sort 48 = .ok (.goto (-34), 3) := by decide +kernel
theorem d_M_sort_51 : decode b_M_sort 51 = .ok (.aload_n 0, 1) := by decide +kernel
theorem d_M_sort_52 : decode b_M_sort 52 = .ok (.getfield 36, 3) := by decide +kernel
theorem d_M_sort_55 : decode b_M_sort 55 = .ok (.iload_n 2, 1) := by decide +kernel
theorem d_M_sort_56 : decode b_M_sort 56 = .ok (.iload_n 1, 1) := by decide +kernel
theorem d_M_sort_57 : decode b_M_sort 57 = .ok (.iastore, 1) := by decide +kernel
theorem d_M_sort_58 : decode b_M_sort 58 = .ok (.aload_n 0, 1) := by decide +kernel
theorem d_M_sort_59 : decode b_M_sort 59 = .ok (.getfield 39, 3) := by decide +kernel
theorem d_M_sort_62 : decode b_M_sort 62 = .ok (.iload_n 1, 1) := by decide +kernel
theorem d_M_sort_63 : decode b_M_sort 63 = .ok (.iload_n 2, 1) := by decide +kernel
theorem d_M_sort_64 : decode b_M_sort 64 = .ok (.iastore, 1) := by decide +kernel
theorem d_M_sort_65 : decode b_M_sort 65 = .ok (.iinc 1 1, 3) := by decide +kernel
theorem d_M_sort_68 : decode b_M_sort 68 = .ok (.goto (-66), 3) := by decide +kernel
theorem d_M_sort_71 : decode b_M_sort 71 = .ok (.return_, 1) := by decide +kernel
theorem d_M_cell_0 : decode b_M_cell 0 = .ok (.bipush 40, 2) := by decide +kernel
theorem d_M_cell_2 : decode b_M_cell 2 = .ok (.iload_n 0, 1) := by decide +kernel
theorem d_M_cell_3 : decode b_M_cell 3 = .ok (.imul, 1) := by decide +kernel
theorem d_M_cell_4 : decode b_M_cell 4 = .ok (.iload_n 1, 1) := by decide +kernel
theorem d_M_cell_5 : decode b_M_cell 5 = .ok (.iadd, 1) := by decide +kernel
theorem d_M_cell_6 : decode b_M_cell 6 = .ok (.ireturn, 1) := by decide +kernel
theorem d_M_close_0 : decode b_M_close 0 = .ok (.iconst 0, 1) := by decide +kernel
theorem d_M_close_1 : decode b_M_close 1 = .ok (.istore_n 1, 1) := by decide +kernel
theorem d_M_close_2 : decode b_M_close 2 = .ok (.iload_n 1, 1) := by decide +kernel
theorem d_M_close_3 : decode b_M_close 3 = .ok (.sipush 1600, 3) := by decide +kernel
theorem d_M_close_6 : decode b_M_close 6 = .ok (.if_icmp .ge 25, 3) := by decide +kernel
theorem d_M_close_9 : decode b_M_close 9 = .ok (.aload_n 0, 1) := by decide +kernel
theorem d_M_close_10 : decode b_M_close 10 = .ok (.getfield 48, 3) := by decide +kernel
theorem d_M_close_13 : decode b_M_close 13 = .ok (.iload_n 1, 1) := by decide +kernel
theorem d_M_close_14 : decode b_M_close 14 = .ok (.iconst 0, 1) := by decide +kernel
theorem d_M_close_15 : decode b_M_close 15 = .ok (.bastore, 1) := by decide +kernel
theorem d_M_close_16 : decode b_M_close 16 = .ok (.aload_n 0, 1) := by decide +kernel
theorem d_M_close_17 : decode b_M_close 17 = .ok (.getfield 54, 3) := by decide +kernel
theorem d_M_close_20 : decode b_M_close 20 = .ok (.iload_n 1, 1) := by decide +kernel
theorem d_M_close_21 : decode b_M_close 21 = .ok (.sipush 1000, 3) := by decide +kernel
theorem d_M_close_24 : decode b_M_close 24 = .ok (.iastore, 1) := by decide +kernel
theorem d_M_close_25 : decode b_M_close 25 = .ok (.iinc 1 1, 3) := by decide +kernel
theorem d_M_close_28 : decode b_M_close 28 = .ok (.goto (-26), 3) := by decide +kernel
theorem d_M_close_31 : decode b_M_close 31 = .ok (.iconst 0, 1) := by decide +kernel
theorem d_M_close_32 : decode b_M_close 32 = .ok (.istore_n 1, 1) := by decide +kernel
theorem d_M_close_33 : decode b_M_close 33 = .ok (.iload_n 1, 1) := by decide +kernel
theorem d_M_close_34 : decode b_M_close 34 = .ok (.aload_n 0, 1) := by decide +kernel
theorem d_M_close_35 : decode b_M_close 35 = .ok (.getfield 88, 3) := by decide +kernel
theorem d_M_close_38 : decode b_M_close 38 = .ok (.if_icmp .ge 86, 3) := by decide +kernel
theorem d_M_close_41 : decode b_M_close 41 = .ok (.aload_n 0, 1) := by decide +kernel
theorem d_M_close_42 : decode b_M_close 42 = .ok (.iload_n 1, 1) := by decide +kernel
theorem d_M_close_43 : decode b_M_close 43 = .ok (.aload_n 0, 1) := by decide +kernel
theorem d_M_close_44 : decode b_M_close 44 = .ok (.getfield 29, 3) := by decide +kernel
theorem d_M_close_47 : decode b_M_close 47 = .ok (.invokevirtual 91, 3) := by decide +kernel
theorem d_M_close_50 : decode b_M_close 50 = .ok (.ifCond .ne 6, 3) := by decide +kernel
theorem d_M_close_53 : decode b_M_close 53 = .ok (.goto 65, 3) := by decide +kernel
theorem d_M_close_56 : decode b_M_close 56 = .ok (.aload_n 0, 1) := by decide +kernel
theorem d_M_close_57 : decode b_M_close 57 = .ok (.getfield 48, 3) := by decide +kernel
theorem d_M_close_60 : decode b_M_close 60 = .ok (.aload_n 0, 1) := by decide +kernel
theorem d_M_close_61 : decode b_M_close 61 = .ok (.getfield 39, 3) := by decide +kernel
theorem d_M_close_64 : decode b_M_close 64 = .ok (.aload_n 0, 1) := by decide +kernel
theorem d_M_close_65 : decode b_M_close 65 = .ok (.getfield 13, 3) := by decide +kernel
theorem d_M_close_68 : decode b_M_close 68 = .ok (.iload_n 1, 1) := by decide +kernel
theorem d_M_close_69 : decode b_M_close 69 = .ok (.iaload, 1) := by decide +kernel
theorem d_M_close_70 : decode b_M_close 70 = .ok (.iaload, 1) := by decide +kernel
theorem d_M_close_71 : decode b_M_close 71 = .ok (.aload_n 0, 1) := by decide +kernel
theorem d_M_close_72 : decode b_M_close 72 = .ok (.getfield 39, 3) := by decide +kernel
theorem d_M_close_75 : decode b_M_close 75 = .ok (.aload_n 0, 1) := by decide +kernel
theorem d_M_close_76 : decode b_M_close 76 = .ok (.getfield 16, 3) := by decide +kernel
theorem d_M_close_79 : decode b_M_close 79 = .ok (.iload_n 1, 1) := by decide +kernel
theorem d_M_close_80 : decode b_M_close 80 = .ok (.iaload, 1) := by decide +kernel
theorem d_M_close_81 : decode b_M_close 81 = .ok (.iaload, 1) := by decide +kernel
theorem d_M_close_82 : decode b_M_close 82 = .ok (.invokestatic 95, 3) := by decide +kernel
theorem d_M_close_85 : decode b_M_close 85 = .ok (.iconst 1, 1) := by decide +kernel
theorem d_M_close_86 : decode b_M_close 86 = .ok (.bastore, 1) := by decide +kernel
theorem d_M_close_87 : decode b_M_close 87 = .ok (.aload_n 0, 1) := by decide +kernel
theorem d_M_close_88 : decode b_M_close 88 = .ok (.getfield 54, 3) := by decide +kernel
theorem d_M_close_91 : decode b_M_close 91 = .ok (.aload_n 0, 1) := by decide +kernel
theorem d_M_close_92 : decode b_M_close 92 = .ok (.getfield 39, 3) := by decide +kernel
theorem d_M_close_95 : decode b_M_close 95 = .ok (.aload_n 0, 1) := by decide +kernel
theorem d_M_close_96 : decode b_M_close 96 = .ok (.getfield 13, 3) := by decide +kernel
theorem d_M_close_99 : decode b_M_close 99 = .ok (.iload_n 1, 1) := by decide +kernel
theorem d_M_close_100 : decode b_M_close 100 = .ok (.iaload, 1) := by decide +kernel
theorem d_M_close_101 : decode b_M_close 101 = .ok (.iaload, 1) := by decide +kernel
theorem d_M_close_102 : decode b_M_close 102 = .ok (.aload_n 0, 1) := by decide +kernel
theorem d_M_close_103 : decode b_M_close 103 = .ok (.getfield 39, 3) := by decide +kernel
theorem d_M_close_106 : decode b_M_close 106 = .ok (.aload_n 0, 1) := by decide +kernel
theorem d_M_close_107 : decode b_M_close 107 = .ok (.getfield 16, 3) := by decide +kernel
theorem d_M_close_110 : decode b_M_close 110 = .ok (.iload_n 1, 1) := by decide +kernel
theorem d_M_close_111 : decode b_M_close 111 = .ok (.iaload, 1) := by decide +kernel
theorem d_M_close_112 : decode b_M_close 112 = .ok (.iaload, 1) := by decide +kernel
theorem d_M_close_113 : decode b_M_close 113 = .ok (.invokestatic 95, 3) := by decide +kernel
theorem d_M_close_116 : decode b_M_close 116 = .ok (.iconst 1, 1) := by decide +kernel
theorem d_M_close_117 : decode b_M_close 117 = .ok (.iastore, 1) := by decide +kernel
theorem d_M_close_118 : decode b_M_close 118 = .ok (.iinc 1 1, 3) := by decide +kernel
theorem d_M_close_121 : decode b_M_close 121 = .ok (.goto (-88), 3) := by decide +kernel
theorem d_M_close_124 : decode b_M_close 124 = .ok (.iconst 0, 1) := by decide +kernel
theorem d_M_close_125 : decode b_M_close 125 = .ok (.istore_n 1, 1) := by decide +kernel
theorem d_M_close_126 : decode b_M_close 126 = .ok (.iload_n 1, 1) := by decide +kernel
theorem d_M_close_127 : decode b_M_close 127 = .ok (.aload_n 0, 1) := by decide +kernel
theorem d_M_close_128 : decode b_M_close 128 = .ok (.getfield 99, 3) := by decide +kernel
theorem d_M_close_131 : decode b_M_close 131 = .ok (.if_icmp .ge 91, 3) := by decide +kernel
theorem d_M_close_134 : decode b_M_close 134 = .ok (.iconst 0, 1) := by decide +kernel
theorem d_M_close_135 : decode b_M_close 135 = .ok (.istore_n 2, 1) := by decide +kernel
theorem d_M_close_136 : decode b_M_close 136 = .ok (.iload_n 2, 1) := by decide +kernel
theorem d_M_close_137 : decode b_M_close 137 = .ok (.aload_n 0, 1) := by decide +kernel
theorem d_M_close_138 : decode b_M_close 138 = .ok (.getfield 99, 3) := by decide +kernel
theorem d_M_close_141 : decode b_M_close 141 = .ok (.if_icmp .ge 75, 3) := by decide +kernel
theorem d_M_close_144 : decode b_M_close 144 = .ok (.iconst 0, 1) := by decide +kernel
theorem d_M_close_145 : decode b_M_close 145 = .ok (.istore_n 3, 1) := by decide +kernel
theorem d_M_close_146 : decode b_M_close 146 = .ok (.iload_n 3, 1) := by decide +kernel
theorem d_M_close_147 : decode b_M_close 147 = .ok (.aload_n 0, 1) := by decide +kernel
theorem d_M_close_148 : decode b_M_close 148 = .ok (.getfield 99, 3) := by decide +kernel
theorem d_M_close_151 : decode b_M_close 151 = .ok (.if_icmp .ge 59, 3) := by decide +kernel
theorem d_M_close_154 : decode b_M_close 154 = .ok (.aload_n 0, 1) := by decide +kernel
theorem d_M_close_155 : decode b_M_close 155 = .ok (.getfield 54, 3) := by decide +kernel
theorem d_M_close_158 : decode b_M_close 158 = .ok (.iload_n 2, 1) := by decide +kernel
theorem d_M_close_159 : decode b_M_close 159 = .ok (.iload_n 1, 1) := by decide +kernel
theorem d_M_close_160 : decode b_M_close 160 = .ok (.invokestatic 95, 3) := by decide +kernel
theorem d_M_close_163 : decode b_M_close 163 = .ok (.iaload, 1) := by decide +kernel
theorem d_M_close_164 : decode b_M_close 164 = .ok (.aload_n 0, 1) := by decide +kernel
theorem d_M_close_165 : decode b_M_close 165 = .ok (.getfield 54, 3) := by decide +kernel
theorem d_M_close_168 : decode b_M_close 168 = .ok (.iload_n 1, 1) := by decide +kernel
theorem d_M_close_169 : decode b_M_close 169 = .ok (.iload_n 3, 1) := by decide +kernel
theorem d_M_close_170 : decode b_M_close 170 = .ok (.invokestatic 95, 3) := by decide +kernel
theorem d_M_close_173 : decode b_M_close 173 = .ok (.iaload, 1) := by decide +kernel
theorem d_M_close_174 : decode b_M_close 174 = .ok (.iadd, 1) := by decide +kernel
theorem d_M_close_175 : decode b_M_close 175 = .ok (.istore 4, 2) := by decide +kernel
theorem d_M_close_177 : decode b_M_close 177 = .ok (.iload 4, 2) := by decide +kernel
theorem d_M_close_179 : decode b_M_close 179 = .ok (.aload_n 0, 1) := by decide +kernel
theorem d_M_close_180 : decode b_M_close 180 = .ok (.getfield 54, 3) := by decide +kernel
theorem d_M_close_183 : decode b_M_close 183 = .ok (.iload_n 2, 1) := by decide +kernel
theorem d_M_close_184 : decode b_M_close 184 = .ok (.iload_n 3, 1) := by decide +kernel
theorem d_M_close_185 : decode b_M_close 185 = .ok (.invokestatic 95, 3) := by decide +kernel
theorem d_M_close_188 : decode b_M_close 188 = .ok (.iaload, 1) := by decide +kernel
theorem d_M_close_189 : decode b_M_close 189 = .ok (.if_icmp .ge 15, 3) := by decide +kernel
theorem d_M_close_192 : decode b_M_close 192 = .ok (.aload_n 0, 1) := by decide +kernel
theorem d_M_close_193 : decode b_M_close 193 = .ok (.getfield 54, 3) := by decide +kernel
theorem d_M_close_196 : decode b_M_close 196 = .ok (.iload_n 2, 1) := by decide +kernel
theorem d_M_close_197 : decode b_M_close 197 = .ok (.iload_n 3, 1) := by decide +kernel
theorem d_M_close_198 : decode b_M_close 198 = .ok (.invokestatic 95, 3) := by decide +kernel
theorem d_M_close_201 : decode b_M_close 201 = .ok (.iload 4, 2) := by decide +kernel
theorem d_M_close_203 : decode b_M_close 203 = .ok (.iastore, 1) := by decide +kernel
theorem d_M_close_204 : decode b_M_close 204 = .ok (.iinc 3 1, 3) := by decide +kernel
theorem d_M_close_207 : decode b_M_close 207 = .ok (.goto (-61), 3) := by decide +kernel
theorem d_M_close_210 : decode b_M_close 210 = .ok (.iinc 2 1, 3) := by decide +kernel
theorem d_M_close_213 : decode b_M_close 213 = .ok (.goto (-77), 3) := by decide +kernel
theorem d_M_close_216 : decode b_M_close 216 = .ok (.iinc 1 1, 3) := by decide +kernel
theorem d_M_close_219 : decode b_M_close 219 = .ok (.goto (-93), 3) := by decide +kernel
theorem d_M_close_222 : decode b_M_close 222 = .ok (.iconst 0, 1) := by decide +kernel
theorem d_M_close_223 : decode b_M_close 223 = .ok (.istore_n 1, 1) := by decide +kernel
theorem d_M_close_224 : decode b_M_close 224 = .ok (.iload_n 1, 1) := by decide +kernel
theorem d_M_close_225 : decode b_M_close 225 = .ok (.sipush 1600, 3) := by decide +kernel
theorem d_M_close_228 : decode b_M_close 228 = .ok (.if_icmp .ge 32, 3) := by decide +kernel
theorem d_M_close_231 : decode b_M_close 231 = .ok (.aload_n 0, 1) := by decide +kernel
theorem d_M_close_232 : decode b_M_close 232 = .ok (.getfield 51, 3) := by decide +kernel
theorem d_M_close_235 : decode b_M_close 235 = .ok (.iload_n 1, 1) := by decide +kernel
theorem d_M_close_236 : decode b_M_close 236 = .ok (.aload_n 0, 1) := by decide +kernel
theorem d_M_close_237 : decode b_M_close 237 = .ok (.getfield 54, 3) := by decide +kernel
theorem d_M_close_240 : decode b_M_close 240 = .ok (.iload_n 1, 1) := by decide +kernel
theorem d_M_close_241 : decode b_M_close 241 = .ok (.iaload, 1) := by decide +kernel
theorem d_M_close_242 : decode b_M_close 242 = .ok (.sipush 1000, 3) := by decide +kernel
theorem d_M_close_245 : decode b_M_close 245 = .ok (.if_icmp .ge 7, 3) := by decide +kernel
theorem d_M_close_248 : decode b_M_close 248 = .ok (.iconst 1, 1) := by decide +kernel
theorem d_M_close_249 : decode b_M_close 249 = .ok (.goto 4, 3) := by decide +kernel
theorem d_M_close_252 : decode b_M_close 252 = .ok (.iconst 0, 1) := by decide +kernel
theorem d_M_close_253 : decode b_M_close 253 = .ok (.bastore, 1) := by decide +kernel
theorem d_M_close_254 : decode b_M_close 254 = .ok (.iinc 1 1, 3) := by decide +kernel
theorem d_M_close_257 : decode b_M_close 257 = .ok (.goto (-33), 3) := by decide +kernel
theorem d_M_close_260 : decode b_M_close 260 = .ok (.return_, 1) := by decide +kernel
theorem d_M_isTogether_0 : decode b_M_isTogether 0 = .ok (.iload_n 1, 1) := by decide +kernel
theorem d_M_isTogether_1 : decode b_M_isTogether 1 = .ok (.iload_n 2, 1) := by decide +kernel
theorem d_M_isTogether_2 : decode b_M_isTogether 2 = .ok (.if_icmp .eq 29, 3) := by decide +kernel
theorem d_M_isTogether_5 : decode b_M_isTogether 5 = .ok (.aload_n 0, 1) := by decide +kernel
theorem d_M_isTogether_6 : decode b_M_isTogether 6 = .ok (.getfield 51, 3) := by decide +kernel
theorem d_M_isTogether_9 : decode b_M_isTogether 9 = .ok (.iload_n 1, 1) := by decide +kernel
theorem d_M_isTogether_10 : decode b_M_isTogether 10 = .ok (.iload_n 2, 1) := by decide +kernel
theorem d_M_isTogether_11 : decode b_M_isTogether 11 = .ok (.invokestatic 95, 3) := by decide +kernel
theorem d_M_isTogether_14 : decode b_M_isTogether 14 = .ok (.baload, 1) := by decide +kernel
theorem d_M_isTogether_15 : decode b_M_isTogether 15 = .ok (.ifCond .eq 20, 3) := by decide +kernel
theorem d_M_isTogether_18 : decode b_M_isTogether 18 = .ok (.aload_n 0, 1) := by decide +kernel
theorem d_M_isTogether_19 : decode b_M_isTogether 19 = .ok (.getfield 51, 3) := by decide +kernel
theorem d_M_isTogether_22 : decode b_M_isTogether 22 = .ok (.iload_n 2, 1) := by decide +kernel
theorem d_M_isTogether_23 : decode b_M_isTogether 23 = .ok (.iload_n 1, 1) := by decide +kernel
theorem d_M_isTogether_24 : decode b_M_isTogether 24 = .ok (.invokestatic 95, 3) := by decide +kernel
theorem d_M_isTogether_27 : decode b_M_isTogether 27 = .ok (.baload, 1) := by decide +kernel
theorem d_M_isTogether_28 : decode b_M_isTogether 28 = .ok (.ifCond .eq 7, 3) := by decide +kernel
theorem d_M_isTogether_31 : decode b_M_isTogether 31 = .ok (.iconst 1, 1) := by decide +kernel
theorem d_M_isTogether_32 : decode b_M_isTogether 32 = .ok (.goto 4, 3) := by decide +kernel
theorem d_M_isTogether_35 : decode b_M_isTogether 35 = .ok (.iconst 0, 1) := by decide +kernel
theorem d_M_isTogether_36 : decode b_M_isTogether 36 = .ok (.ireturn, 1) := by decide +kernel
theorem d_M_cutIntoParts_0 : decode b_M_cutIntoParts 0 = .ok (.aload_n 0, 1) := by decide +kernel
theorem d_M_cutIntoParts_1 : decode b_M_cutIntoParts 1 = .ok (.iconst 0, 1) := by decide +kernel
theorem d_M_cutIntoParts_2 : decode b_M_cutIntoParts 2 = .ok (.putfield 102, 3) := by decide +kernel
theorem d_M_cutIntoParts_5 : decode b_M_cutIntoParts 5 = .ok (.iconst 0, 1) := by decide +kernel
theorem d_M_cutIntoParts_6 : decode b_M_cutIntoParts 6 = .ok (.istore_n 1, 1) := by decide +kernel
theorem d_M_cutIntoParts_7 : decode b_M_cutIntoParts 7 = .ok (.iload_n 1, 1) := by decide +kernel
theorem d_M_cutIntoParts_8 : decode b_M_cutIntoParts 8 = .ok (.aload_n 0, 1) := by decide +kernel
theorem d_M_cutIntoParts_9 : decode b_M_cutIntoParts 9 = .ok (.getfield 99, 3) := by decide +kernel
theorem d_M_cutIntoParts_12 : decode b_M_cutIntoParts 12 = .ok (.if_icmp .ge 120, 3) := by decide +kernel
theorem d_M_cutIntoParts_15 : decode b_M_cutIntoParts 15 = .ok (.iconst (-1), 1) := by decide +kernel
theorem d_M_cutIntoParts_16 : decode b_M_cutIntoParts 16 = .ok (.istore_n 2, 1) := by decide +kernel
theorem d_M_cutIntoParts_17 : decode b_M_cutIntoParts 17 = .ok (.iconst 0, 1) := by decide +kernel
theorem d_M_cutIntoParts_18 : decode b_M_cutIntoParts 18 = .ok (.istore_n 3, 1) := by decide +kernel
theorem d_M_cutIntoParts_19 : decode b_M_cutIntoParts 19 = .ok (.iload_n 3, 1) := by decide +kernel
theorem d_M_cutIntoParts_20 : decode b_M_cutIntoParts 20 = .ok (.iload_n 1, 1) := by decide +kernel
theorem d_M_cutIntoParts_21 : decode b_M_cutIntoParts 21 = .ok (.if_icmp .ge 34, 3) := by decide +kernel
theorem d_M_cutIntoParts_24 : decode b_M_cutIntoParts 24 = .ok (.iload_n 2, 1) := by decide +kernel
theorem d_M_cutIntoParts_25 : decode b_M_cutIntoParts 25 = .ok (.iconst (-1), 1) := by decide +kernel
theorem d_M_cutIntoParts_26 : decode b_M_cutIntoParts 26 = .ok (.if_icmp .ne 29, 3) := by decide +kernel
theorem d_M_cutIntoParts_29 : decode b_M_cutIntoParts 29 = .ok (.aload_n 0, 1) := by decide +kernel
theorem d_M_cutIntoParts_30 : decode b_M_cutIntoParts 30 = .ok (.iload_n 1, 1) := by decide +kernel
theorem d_M_cutIntoParts_31 : decode b_M_cutIntoParts 31 = .ok (.iload_n 3, 1) := by decide +kernel
theorem d_M_cutIntoParts_32 : decode b_M_cutIntoParts 32 = .ok (.invokevirtual 105, 3) := by decide +kernel
theorem d_M_cutIntoParts_35 : decode b_M_cutIntoParts 35 = .ok (.ifCond .eq 12, 3) := by decide +kernel
theorem d_M_cutIntoParts_38 : decode b_M_cutIntoParts 38 = .ok (.aload_n 0, 1) := by decide +kernel
theorem d_M_cutIntoParts_39 : decode b_M_cutIntoParts 39 = .ok (.getfield 42, 3) := by decide +kernel
theorem d_M_cutIntoParts_42 : decode b_M_cutIntoParts 42 = .ok (.iload_n 3, 1) := by decide +kernel
theorem d_M_cutIntoParts_43 : decode b_M_cutIntoParts 43 = .ok (.iaload, 1) := by decide +kernel
theorem d_M_cutIntoParts_44 : decode b_M_cutIntoParts 44 = .ok (.goto 4, 3) := by decide +kernel
theorem d_M_cutIntoParts_47 : decode b_M_cutIntoParts 47 = .ok (.iconst (-1), 1) := by decide +kernel
theorem d_M_cutIntoParts_48 : decode b_M_cutIntoParts 48 = .ok (.istore_n 2, 1) := by decide +kernel
theorem d_M_cutIntoParts_49 : decode b_M_cutIntoParts 49 = .ok (.iinc 3 1, 3) := by decide +kernel
theorem d_M_cutIntoParts_52 : decode b_M_cutIntoParts 52 = .ok (.goto (-33), 3) := by decide +kernel
theorem d_M_cutIntoParts_55 : decode b_M_cutIntoParts 55 = .ok (.aload_n 0, 1) := by decide +kernel
theorem d_M_cutIntoParts_56 : decode b_M_cutIntoParts 56 = .ok (.getfield 42, 3) := by decide +kernel
theorem d_M_cutIntoParts_59 : decode b_M_cutIntoParts 59 = .ok (.iload_n 1, 1) := by decide +kernel
theorem d_M_cutIntoParts_60 : decode b_M_cutIntoParts 60 = .ok (.iload_n 2, 1) := by decide +kernel
theorem d_M_cutIntoParts_61 : decode b_M_cutIntoParts 61 = .ok (.iconst (-1), 1) := by decide +kernel
theorem d_M_cutIntoParts_62 : decode b_M_cutIntoParts 62 = .ok (.if_icmp .ne 10, 3) := by decide +kernel
theorem d_M_cutIntoParts_65 : decode b_M_cutIntoParts 65 = .ok (.aload_n 0, 1) := by decide +kernel
theorem d_M_cutIntoParts_66 : decode b_M_cutIntoParts 66 = .ok (.getfield 102, 3) := by decide +kernel
theorem d_M_cutIntoParts_69 : decode b_M_cutIntoParts 69 = .ok (.goto 4, 3) := by decide +kernel
theorem d_M_cutIntoParts_72 : decode b_M_cutIntoParts 72 = .ok (.iload_n 2, 1) := by decide +kernel
theorem d_M_cutIntoParts_73 : decode b_M_cutIntoParts 73 = .ok (.iastore, 1) := by decide +kernel
theorem d_M_cutIntoParts_74 : decode b_M_cutIntoParts 74 = .ok (.aload_n 0, 1) := by decide +kernel
theorem d_M_cutIntoParts_75 : decode b_M_cutIntoParts 75 = .ok (.dup, 1) := by decide +kernel
theorem d_M_cutIntoParts_76 : decode b_M_cutIntoParts 76 = .ok (.getfield 102, 3) := by decide +kernel
theorem d_M_cutIntoParts_79 : decode b_M_cutIntoParts 79 = .ok (.iload_n 2, 1) := by decide +kernel
theorem d_M_cutIntoParts_80 : decode b_M_cutIntoParts 80 = .ok (.iconst (-1), 1) := by decide +kernel
theorem d_M_cutIntoParts_81 : decode b_M_cutIntoParts 81 = .ok (.if_icmp .ne 7, 3) := by decide +kernel
theorem d_M_cutIntoParts_84 : decode b_M_cutIntoParts 84 = .ok (.iconst 1, 1) := by decide +kernel
theorem d_M_cutIntoParts_85 : decode b_M_cutIntoParts 85 = .ok (.goto 4, 3) := by decide +kernel
theorem d_M_cutIntoParts_88 : decode b_M_cutIntoParts 88 = .ok (.iconst 0, 1) := by decide +kernel
theorem d_M_cutIntoParts_89 : decode b_M_cutIntoParts 89 = .ok (.iadd, 1) := by decide +kernel
theorem d_M_cutIntoParts_90 : decode b_M_cutIntoParts 90 = .ok (.putfield 102, 3) := by decide +kernel
theorem d_M_cutIntoParts_93 : decode b_M_cutIntoParts 93 = .ok (.aload_n 0, 1) := by decide +kernel
theorem d_M_cutIntoParts_94 : decode b_M_cutIntoParts 94 = .ok (.getfield 45, 3) := by decide +kernel
theorem d_M_cutIntoParts_97 : decode b_M_cutIntoParts 97 = .ok (.iload_n 1, 1) := by decide +kernel
theorem d_M_cutIntoParts_98 : decode b_M_cutIntoParts 98 = .ok (.aload_n 0, 1) := by decide +kernel
theorem d_M_cutIntoParts_99 : decode b_M_cutIntoParts 99 = .ok (.getfield 51, 3) := by decide +kernel
theorem d_M_cutIntoParts_102 : decode b_M_cutIntoParts 102 = .ok (.iload_n 1, 1) := by decide +kernel
theorem d_M_cutIntoParts_103 : decode b_M_cutIntoParts 103 = .ok (.iload_n 1, 1) := by decide +kernel
theorem d_M_cutIntoParts_104 : decode b_M_cutIntoParts 104 = .ok (.invokestatic 95, 3) := by decide +kernel
theorem d_M_cutIntoParts_107 : decode b_M_cutIntoParts 107 = .ok (.baload, 1) := by decide +kernel
theorem d_M_cutIntoParts_108 : decode b_M_cutIntoParts 108 = .ok (.ifCond .eq 16, 3) := by decide +kernel
theorem d_M_cutIntoParts_111 : decode b_M_cutIntoParts 111 = .ok (.aload_n 0, 1) := by decide +kernel
theorem d_M_cutIntoParts_112 : decode b_M_cutIntoParts 112 = .ok (.getfield 54, 3) := by decide +kernel
theorem d_M_cutIntoParts_115 : decode b_M_cutIntoParts 115 = .ok (.iload_n 1, 1) := by decide +kernel
theorem d_M_cutIntoParts_116 : decode b_M_cutIntoParts 116 = .ok (.iload_n 1, 1) := by decide +kernel
theorem d_M_cutIntoParts_117 : decode b_M_cutIntoParts 117 = .ok (.invokestatic 95, 3) := by decide +kernel
theorem d_M_cutIntoParts_120 : decode b_M_cutIntoParts 120 = .ok (.iaload, 1) := by decide +kernel
theorem d_M_cutIntoParts_121 : decode b_M_cutIntoParts 121 = .ok (.goto 4, 3) := by decide +kernel
theorem d_M_cutIntoParts_124 : decode b_M_cutIntoParts 124 = .ok (.iconst 0, 1) := by decide +kernel
theorem d_M_cutIntoParts_125 : decode b_M_cutIntoParts 125 = .ok (.iastore, 1) := by decide +kernel
theorem d_M_cutIntoParts_126 : decode b_M_cutIntoParts 126 = .ok (.iinc 1 1, 3) := by decide +kernel
theorem d_M_cutIntoParts_129 : decode b_M_cutIntoParts 129 = .ok (.goto (-122), 3) := by decide +kernel
theorem d_M_cutIntoParts_132 : decode b_M_cutIntoParts 132 = .ok (.return_, 1) := by decide +kernel
theorem d_M_lead_0 : decode b_M_lead 0 = .ok (.iconst 0, 1) := by decide +kernel
theorem d_M_lead_1 : decode b_M_lead 1 = .ok (.istore_n 3, 1) := by decide +kernel
theorem d_M_lead_2 : decode b_M_lead 2 = .ok (.iload_n 3, 1) := by decide +kernel
theorem d_M_lead_3 : decode b_M_lead 3 = .ok (.bipush 40, 2) := by decide +kernel
theorem d_M_lead_5 : decode b_M_lead 5 = .ok (.if_icmp .ge 25, 3) := by decide +kernel
theorem d_M_lead_8 : decode b_M_lead 8 = .ok (.aload_n 0, 1) := by decide +kernel
theorem d_M_lead_9 : decode b_M_lead 9 = .ok (.getfield 63, 3) := by decide +kernel
theorem d_M_lead_12 : decode b_M_lead 12 = .ok (.iload_n 3, 1) := by decide +kernel
theorem d_M_lead_13 : decode b_M_lead 13 = .ok (.iload_n 3, 1) := by decide +kernel
theorem d_M_lead_14 : decode b_M_lead 14 = .ok (.iload_n 1, 1) := by decide +kernel
theorem d_M_lead_15 : decode b_M_lead 15 = .ok (.if_icmp .ne 7, 3) := by decide +kernel
theorem d_M_lead_18 : decode b_M_lead 18 = .ok (.iconst 1, 1) := by decide +kernel
theorem d_M_lead_19 : decode b_M_lead 19 = .ok (.goto 4, 3) := by decide +kernel
theorem d_M_lead_22 : decode b_M_lead 22 = .ok (.iconst 0, 1) := by decide +kernel
theorem d_M_lead_23 : decode b_M_lead 23 = .ok (.bastore, 1) := by decide +kernel
theorem d_M_lead_24 : decode b_M_lead 24 = .ok (.iinc 3 1, 3) := by decide +kernel
theorem d_M_lead_27 : decode b_M_lead 27 = .ok (.goto (-25), 3) := by decide +kernel
theorem d_M_lead_30 : decode b_M_lead 30 = .ok (.iconst 1, 1) := by decide +kernel
theorem d_M_lead_31 : decode b_M_lead 31 = .ok (.istore_n 3, 1) := by decide +kernel
theorem d_M_lead_32 : decode b_M_lead 32 = .ok (.iload_n 3, 1) := by decide +kernel
theorem d_M_lead_33 : decode b_M_lead 33 = .ok (.iload_n 2, 1) := by decide +kernel
theorem d_M_lead_34 : decode b_M_lead 34 = .ok (.if_icmp .gt 117, 3) := by decide +kernel
theorem d_M_lead_37 : decode b_M_lead 37 = .ok (.iload_n 1, 1) := by decide +kernel
theorem d_M_lead_38 : decode b_M_lead 38 = .ok (.istore 4, 2) := by decide +kernel
theorem d_M_lead_40 : decode b_M_lead 40 = .ok (.iload 4, 2) := by decide +kernel
theorem d_M_lead_42 : decode b_M_lead 42 = .ok (.aload_n 0, 1) := by decide +kernel
theorem d_M_lead_43 : decode b_M_lead 43 = .ok (.getfield 99, 3) := by decide +kernel
theorem d_M_lead_46 : decode b_M_lead 46 = .ok (.if_icmp .ge 99, 3) := by decide +kernel
theorem d_M_lead_49 : decode b_M_lead 49 = .ok (.iconst 0, 1) := by decide +kernel
theorem d_M_lead_50 : decode b_M_lead 50 = .ok (.istore 5, 2) := by decide +kernel
theorem d_M_lead_52 : decode b_M_lead 52 = .ok (.iload_n 1, 1) := by decide +kernel
theorem d_M_lead_53 : decode b_M_lead 53 = .ok (.istore 6, 2) := by decide +kernel
theorem d_M_lead_55 : decode b_M_lead 55 = .ok (.iload 6, 2) := by decide +kernel
theorem d_M_lead_57 : decode b_M_lead 57 = .ok (.aload_n 0, 1) := by decide +kernel
theorem d_M_lead_58 : decode b_M_lead 58 = .ok (.getfield 99, 3) := by decide +kernel
theorem d_M_lead_61 : decode b_M_lead 61 = .ok (.if_icmp .ge 64, 3) := by decide +kernel
theorem d_M_lead_64 : decode b_M_lead 64 = .ok (.iload 5, 2) := by decide +kernel
theorem d_M_lead_66 : decode b_M_lead 66 = .ok (.ifCond .ne 46, 3) := by decide +kernel
theorem d_M_lead_69 : decode b_M_lead 69 = .ok (.aload_n 0, 1) := by decide +kernel
theorem d_M_lead_70 : decode b_M_lead 70 = .ok (.getfield 48, 3) := by decide +kernel
theorem d_M_lead_73 : decode b_M_lead 73 = .ok (.iload 4, 2) := by decide +kernel
theorem d_M_lead_75 : decode b_M_lead 75 = .ok (.iload 6, 2) := by decide +kernel
theorem d_M_lead_77 : decode b_M_lead 77 = .ok (.invokestatic 95, 3) := by decide +kernel
theorem d_M_lead_80 : decode b_M_lead 80 = .ok (.baload, 1) := by decide +kernel
theorem d_M_lead_81 : decode b_M_lead 81 = .ok (.ifCond .eq 35, 3) := by decide +kernel
theorem d_M_lead_84 : decode b_M_lead 84 = .ok (.aload_n 0, 1) := by decide +kernel
theorem d_M_lead_85 : decode b_M_lead 85 = .ok (.getfield 63, 3) := by decide +kernel
theorem d_M_lead_88 : decode b_M_lead 88 = .ok (.bipush 40, 2) := by decide +kernel
theorem d_M_lead_90 : decode b_M_lead 90 = .ok (.iload_n 3, 1) := by decide +kernel
theorem d_M_lead_91 : decode b_M_lead 91 = .ok (.iconst 1, 1) := by decide +kernel
theorem d_M_lead_92 : decode b_M_lead 92 = .ok (.isub, 1) := by decide +kernel
theorem d_M_lead_93 : decode b_M_lead 93 = .ok (.imul, 1) := by decide +kernel
theorem d_M_lead_94 : decode b_M_lead 94 = .ok (.iload 6, 2) := by decide +kernel
theorem d_M_lead_96 : decode b_M_lead 96 = .ok (.iadd, 1) := by decide +kernel
theorem d_M_lead_97 : decode b_M_lead 97 = .ok (.baload, 1) := by decide +kernel
theorem d_M_lead_98 : decode b_M_lead 98 = .ok (.ifCond .eq 18, 3) := by decide +kernel
theorem d_M_lead_101 : decode b_M_lead 101 = .ok (.iload 6, 2) := by decide +kernel
theorem d_M_lead_103 : decode b_M_lead 103 = .ok (.iload_n 1, 1) := by decide +kernel
theorem d_M_lead_104 : decode b_M_lead 104 = .ok (.if_icmp .gt 8, 3) := by decide +kernel
theorem d_M_lead_107 : decode b_M_lead 107 = .ok (.iload_n 3, 1) := by decide +kernel
theorem d_M_lead_108 : decode b_M_lead 108 = .ok (.iconst 1, 1) := by decide +kernel
theorem d_M_lead_109 : decode b_M_lead 109 = .ok (.if_icmp .ne 7, 3) := by decide +kernel
theorem d_M_lead_112 : decode b_M_lead 112 = .ok (.iconst 1, 1) := by decide +kernel
theorem d_M_lead_113 : decode b_M_lead 113 = .ok (.goto 4, 3) := by decide +kernel
theorem d_M_lead_116 : decode b_M_lead 116 = .ok (.iconst 0, 1) := by decide +kernel
theorem d_M_lead_117 : decode b_M_lead 117 = .ok (.istore 5, 2) := by decide +kernel
theorem d_M_lead_119 : decode b_M_lead 119 = .ok (.iinc 6 1, 3) := by decide +kernel
theorem d_M_lead_122 : decode b_M_lead 122 = .ok (.goto (-67), 3) := by decide +kernel
theorem d_M_lead_125 : decode b_M_lead 125 = .ok (.aload_n 0, 1) := by decide +kernel
theorem d_M_lead_126 : decode b_M_lead 126 = .ok (.getfield 63, 3) := by decide +kernel
theorem d_M_lead_129 : decode b_M_lead 129 = .ok (.bipush 40, 2) := by decide +kernel
theorem d_M_lead_131 : decode b_M_lead 131 = .ok (.iload_n 3, 1) := by decide +kernel
theorem d_M_lead_132 : decode b_M_lead 132 = .ok (.imul, 1) := by decide +kernel
theorem d_M_lead_133 : decode b_M_lead 133 = .ok (.iload 4, 2) := by decide +kernel
theorem d_M_lead_135 : decode b_M_lead 135 = .ok (.iadd, 1) := by decide +kernel
theorem d_M_lead_136 : decode b_M_lead 136 = .ok (.iload 5, 2) := by decide +kernel
theorem d_M_lead_138 : decode b_M_lead 138 = .ok (.bastore, 1) := by decide +kernel
theorem d_M_lead_139 : decode b_M_lead 139 = .ok (.iinc 4 1, 3) := by decide +kernel
theorem d_M_lead_142 : decode b_M_lead 142 = .ok (.goto (-102), 3) := by decide +kernel
theorem d_M_lead_145 : decode b_M_lead 145 = .ok (.iinc 3 1, 3) := by decide +kernel
theorem d_M_lead_148 : decode b_M_lead 148 = .ok (.goto (-116), 3) := by decide +kernel
theorem d_M_lead_151 : decode b_M_lead 151 = .ok (.return_, 1) := by decide +kernel
theorem d_M_tellRing_0 : decode b_M_tellRing 0 = .ok (.sipush 1000, 3) := by decide +kernel
theorem d_M_tellRing_3 : decode b_M_tellRing 3 = .ok (.istore_n 2, 1) := by decide +kernel
theorem d_M_tellRing_4 : decode b_M_tellRing 4 = .ok (.iconst 0, 1) := by decide +kernel
theorem d_M_tellRing_5 : decode b_M_tellRing 5 = .ok (.istore_n 3, 1) := by decide +kernel
theorem d_M_tellRing_6 : decode b_M_tellRing 6 = .ok (.iload_n 3, 1) := by decide +kernel
theorem d_M_tellRing_7 : decode b_M_tellRing 7 = .ok (.aload_n 0, 1) := by decide +kernel
theorem d_M_tellRing_8 : decode b_M_tellRing 8 = .ok (.getfield 99, 3) := by decide +kernel
theorem d_M_tellRing_11 : decode b_M_tellRing 11 = .ok (.if_icmp .ge 45, 3) := by decide +kernel
theorem d_M_tellRing_14 : decode b_M_tellRing 14 = .ok (.aload_n 0, 1) := by decide +kernel
theorem d_M_tellRing_15 : decode b_M_tellRing 15 = .ok (.getfield 42, 3) := by decide +kernel
theorem d_M_tellRing_18 : decode b_M_tellRing 18 = .ok (.iload_n 3, 1) := by decide +kernel
theorem d_M_tellRing_19 : decode b_M_tellRing 19 = .ok (.iaload, 1) := by decide +kernel
theorem d_M_tellRing_20 : decode b_M_tellRing 20 = .ok (.iload_n 1, 1) := by decide +kernel
theorem d_M_tellRing_21 : decode b_M_tellRing 21 = .ok (.if_icmp .ne 29, 3) := by decide +kernel
theorem d_M_tellRing_24 : decode b_M_tellRing 24 = .ok (.aload_n 0, 1) := by decide +kernel
theorem d_M_tellRing_25 : decode b_M_tellRing 25 = .ok (.getfield 45, 3) := by decide +kernel
theorem d_M_tellRing_28 : decode b_M_tellRing 28 = .ok (.iload_n 3, 1) := by decide +kernel
theorem d_M_tellRing_29 : decode b_M_tellRing 29 = .ok (.iaload, 1) := by decide +kernel
theorem d_M_tellRing_30 : decode b_M_tellRing 30 = .ok (.ifCond .le 20, 3) := by decide +kernel
theorem d_M_tellRing_33 : decode b_M_tellRing 33 = .ok (.aload_n 0, 1) := by decide +kernel
theorem d_M_tellRing_34 : decode b_M_tellRing 34 = .ok (.getfield 45, 3) := by decide +kernel
theorem d_M_tellRing_37 : decode b_M_tellRing 37 = .ok (.iload_n 3, 1) := by decide +kernel
theorem d_M_tellRing_38 : decode b_M_tellRing 38 = .ok (.iaload, 1) := by decide +kernel
theorem d_M_tellRing_39 : decode b_M_tellRing 39 = .ok (.iload_n 2, 1) := by decide +kernel
theorem d_M_tellRing_40 : decode b_M_tellRing 40 = .ok (.if_icmp .ge 10, 3) := by decide +kernel
theorem d_M_tellRing_43 : decode b_M_tellRing 43 = .ok (.aload_n 0, 1) := by decide +kernel
theorem d_M_tellRing_44 : decode b_M_tellRing 44 = .ok (.getfield 45, 3) := by decide +kernel
theorem d_M_tellRing_47 : decode b_M_tellRing 47 = .ok (.iload_n 3, 1) := by decide +kernel
theorem d_M_tellRing_48 : decode b_M_tellRing 48 = .ok (.iaload, 1) := by decide +kernel
theorem d_M_tellRing_49 : decode b_M_tellRing 49 = .ok (.istore_n 2, 1) := by decide +kernel
theorem d_M_tellRing_50 : decode b_M_tellRing 50 = .ok (.iinc 3 1, 3) := by decide +kernel
theorem d_M_tellRing_53 : decode b_M_tellRing 53 = .ok (.goto (-47), 3) := by decide +kernel
theorem d_M_tellRing_56 : decode b_M_tellRing 56 = .ok (.iload_n 2, 1) := by decide +kernel
theorem d_M_tellRing_57 : decode b_M_tellRing 57 = .ok (.sipush 1000, 3) := by decide +kernel
theorem d_M_tellRing_60 : decode b_M_tellRing 60 = .ok (.if_icmp .ne 4, 3) := by decide +kernel
theorem d_M_tellRing_63 : decode b_M_tellRing 63 = .ok (.return_, 1) := by decide +kernel
theorem d_M_tellRing_64 : decode b_M_tellRing 64 = .ok (.iconst 0, 1) := by decide +kernel
theorem d_M_tellRing_65 : decode b_M_tellRing 65 = .ok (.istore_n 3, 1) := by decide +kernel
theorem d_M_tellRing_66 : decode b_M_tellRing 66 = .ok (.aload_n 0, 1) := by decide +kernel
theorem d_M_tellRing_67 : decode b_M_tellRing 67 = .ok (.iload_n 3, 1) := by decide +kernel
theorem d_M_tellRing_68 : decode b_M_tellRing 68 = .ok (.iload_n 2, 1) := by decide +kernel
theorem d_M_tellRing_69 : decode b_M_tellRing 69 = .ok (.invokevirtual 108, 3) := by decide +kernel
theorem d_M_tellRing_72 : decode b_M_tellRing 72 = .ok (.aload_n 0, 1) := by decide +kernel
theorem d_M_tellRing_73 : decode b_M_tellRing 73 = .ok (.getfield 42, 3) := by decide +kernel
theorem d_M_tellRing_76 : decode b_M_tellRing 76 = .ok (.iload_n 3, 1) := by decide +kernel
theorem d_M_tellRing_77 : decode b_M_tellRing 77 = .ok (.iaload, 1) := by decide +kernel
theorem d_M_tellRing_78 : decode b_M_tellRing 78 = .ok (.iload_n 1, 1) := by decide +kernel
theorem d_M_tellRing_79 : decode b_M_tellRing 79 = .ok (.if_icmp .ne 17, 3) := by decide +kernel
theorem d_M_tellRing_82 : decode b_M_tellRing 82 = .ok (.aload_n 0, 1) := by decide +kernel
theorem d_M_tellRing_83 : decode b_M_tellRing 83 = .ok (.getfield 63, 3) := by decide +kernel
theorem d_M_tellRing_86 : decode b_M_tellRing 86 = .ok (.bipush 40, 2) := by decide +kernel
theorem d_M_tellRing_88 : decode b_M_tellRing 88 = .ok (.iload_n 2, 1) := by decide +kernel
theorem d_M_tellRing_89 : decode b_M_tellRing 89 = .ok (.imul, 1) := by decide +kernel
theorem d_M_tellRing_90 : decode b_M_tellRing 90 = .ok (.iload_n 3, 1) := by decide +kernel
theorem d_M_tellRing_91 : decode b_M_tellRing 91 = .ok (.iadd, 1) := by decide +kernel
theorem d_M_tellRing_92 : decode b_M_tellRing 92 = .ok (.baload, 1) := by decide +kernel
theorem d_M_tellRing_93 : decode b_M_tellRing 93 = .ok (.ifCond .ne 15, 3) := by decide +kernel
theorem d_M_tellRing_96 : decode b_M_tellRing 96 = .ok (.iinc 3 1, 3) := by decide +kernel
theorem d_M_tellRing_99 : decode b_M_tellRing 99 = .ok (.aload_n 0, 1) := by decide +kernel
theorem d_M_tellRing_100 : decode b_M_tellRing 100 = .ok (.iload_n 3, 1) := by decide +kernel
theorem d_M_tellRing_101 : decode b_M_tellRing 101 = .ok (.iload_n 2, 1) := by decide +kernel
theorem d_M_tellRing_102 : decode b_M_tellRing 102 = .ok (.invokevirtual 108, 3) := by decide +kernel
theorem d_M_tellRing_105 : decode b_M_tellRing 105 = .ok (.goto (-33), 3) := by decide +kernel
theorem d_M_tellRing_108 : decode b_M_tellRing 108 = .ok (.iload_n 3, 1) := by decide +kernel
theorem d_M_tellRing_109 : decode b_M_tellRing 109 = .ok (.istore 4, 2) := by decide +kernel
theorem d_M_tellRing_111 : decode b_M_tellRing 111 = .ok (.iload_n 2, 1) := by decide +kernel
theorem d_M_tellRing_112 : decode b_M_tellRing 112 = .ok (.istore 5, 2) := by decide +kernel
theorem d_M_tellRing_114 : decode b_M_tellRing 114 = .ok (.iload 5, 2) := by decide +kernel
theorem d_M_tellRing_116 : decode b_M_tellRing 116 = .ok (.ifCond .le 85, 3) := by decide +kernel
theorem d_M_tellRing_119 : decode b_M_tellRing 119 = .ok (.aload_n 0, 1) := by decide +kernel
theorem d_M_tellRing_120 : decode b_M_tellRing 120 = .ok (.getfield 60, 3) := by decide +kernel
theorem d_M_tellRing_123 : decode b_M_tellRing 123 = .ok (.aload_n 0, 1) := by decide +kernel
theorem d_M_tellRing_124 : decode b_M_tellRing 124 = .ok (.getfield 112, 3) := by decide +kernel
theorem d_M_tellRing_127 : decode b_M_tellRing 127 = .ok (.iload_n 2, 1) := by decide +kernel
theorem d_M_tellRing_128 : decode b_M_tellRing 128 = .ok (.iload 5, 2) := by decide +kernel
theorem d_M_tellRing_130 : decode b_M_tellRing 130 = .ok (.isub, 1) := by decide +kernel
theorem d_M_tellRing_131 : decode b_M_tellRing 131 = .ok (.invokestatic 95, 3) := by decide +kernel
theorem d_M_tellRing_134 : decode b_M_tellRing 134 = .ok (.iload 4, 2) := by decide +kernel
theorem d_M_tellRing_136 : decode b_M_tellRing 136 = .ok (.iastore, 1) := by decide +kernel
theorem d_M_tellRing_137 : decode b_M_tellRing 137 = .ok (.iload_n 3, 1) := by decide +kernel
theorem d_M_tellRing_138 : decode b_M_tellRing 138 = .ok (.istore 6, 2) := by decide +kernel
theorem d_M_tellRing_140 : decode b_M_tellRing 140 = .ok (.aload_n 0, 1) := by decide +kernel
theorem d_M_tellRing_141 : decode b_M_tellRing 141 = .ok (.getfield 48, 3) := by decide +kernel
theorem d_M_tellRing_144 : decode b_M_tellRing 144 = .ok (.iload 4, 2) := by decide +kernel
theorem d_M_tellRing_146 : decode b_M_tellRing 146 = .ok (.iload 6, 2) := by decide +kernel
theorem d_M_tellRing_148 : decode b_M_tellRing 148 = .ok (.invokestatic 95, 3) := by decide +kernel
theorem d_M_tellRing_151 : decode b_M_tellRing 151 = .ok (.baload, 1) := by decide +kernel
theorem d_M_tellRing_152 : decode b_M_tellRing 152 = .ok (.ifCond .eq 33, 3) := by decide +kernel
theorem d_M_tellRing_155 : decode b_M_tellRing 155 = .ok (.aload_n 0, 1) := by decide +kernel
theorem d_M_tellRing_156 : decode b_M_tellRing 156 = .ok (.getfield 63, 3) := by decide +kernel
theorem d_M_tellRing_159 : decode b_M_tellRing 159 = .ok (.bipush 40, 2) := by decide +kernel
theorem d_M_tellRing_161 : decode b_M_tellRing 161 = .ok (.iload 5, 2) := by decide +kernel
theorem d_M_tellRing_163 : decode b_M_tellRing 163 = .ok (.iconst 1, 1) := by decide +kernel
theorem d_M_tellRing_164 : decode b_M_tellRing 164 = .ok (.isub, 1) := by decide +kernel
theorem d_M_tellRing_165 : decode b_M_tellRing 165 = .ok (.imul, 1) := by decide +kernel
theorem d_M_tellRing_166 : decode b_M_tellRing 166 = .ok (.iload 6, 2) := by decide +kernel
theorem d_M_tellRing_168 : decode b_M_tellRing 168 = .ok (.iadd, 1) := by decide +kernel
theorem d_M_tellRing_169 : decode b_M_tellRing 169 = .ok (.baload, 1) := by decide +kernel
theorem d_M_tellRing_170 : decode b_M_tellRing 170 = .ok (.ifCond .eq 15, 3) := by decide +kernel
theorem d_M_tellRing_173 : decode b_M_tellRing 173 = .ok (.iload 6, 2) := by decide +kernel
theorem d_M_tellRing_175 : decode b_M_tellRing 175 = .ok (.iload_n 3, 1) := by decide +kernel
theorem d_M_tellRing_176 : decode b_M_tellRing 176 = .ok (.if_icmp .ne 15, 3) := by decide +kernel
theorem d_M_tellRing_179 : decode b_M_tellRing 179 = .ok (.iload 5, 2) := by decide +kernel
theorem d_M_tellRing_181 : decode b_M_tellRing 181 = .ok (.iconst 1, 1) := by decide +kernel
theorem d_M_tellRing_182 : decode b_M_tellRing 182 = .ok (.if_icmp .le 9, 3) := by decide +kernel
theorem d_M_tellRing_185 : decode b_M_tellRing 185 = .ok (.iinc 6 1, 3) := by decide +kernel
theorem d_M_tellRing_188 : decode b_M_tellRing 188 = .ok (.goto (-48), 3) := by decide +kernel
theorem d_M_tellRing_191 : decode b_M_tellRing 191 = .ok (.iload 6, 2) := by decide +kernel
theorem d_M_tellRing_193 : decode b_M_tellRing 193 = .ok (.istore 4, 2) := by decide +kernel
theorem d_M_tellRing_195 : decode b_M_tellRing 195 = .ok (.iinc 5 (-1), 3) := by decide +kernel
theorem d_M_tellRing_198 : decode b_M_tellRing 198 = .ok (.goto (-84), 3) := by decide +kernel
theorem d_M_tellRing_201 : decode b_M_tellRing 201 = .ok (.aload_n 0, 1) := by decide +kernel
theorem d_M_tellRing_202 : decode b_M_tellRing 202 = .ok (.getfield 57, 3) := by decide +kernel
theorem d_M_tellRing_205 : decode b_M_tellRing 205 = .ok (.aload_n 0, 1) := by decide +kernel
theorem d_M_tellRing_206 : decode b_M_tellRing 206 = .ok (.getfield 112, 3) := by decide +kernel
theorem d_M_tellRing_209 : decode b_M_tellRing 209 = .ok (.iload_n 2, 1) := by decide +kernel
theorem d_M_tellRing_210 : decode b_M_tellRing 210 = .ok (.iastore, 1) := by decide +kernel
theorem d_M_tellRing_211 : decode b_M_tellRing 211 = .ok (.aload_n 0, 1) := by decide +kernel
theorem d_M_tellRing_212 : decode b_M_tellRing 212 = .ok (.dup, 1) := by decide +kernel
theorem d_M_tellRing_213 : decode b_M_tellRing 213 = .ok (.getfield 112, 3) := by decide +kernel
theorem d_M_tellRing_216 : decode b_M_tellRing 216 = .ok (.iconst 1, 1) := by decide +kernel
theorem d_M_tellRing_217 : decode b_M_tellRing 217 = .ok (.iadd, 1) := by decide +kernel
theorem d_M_tellRing_218 : decode b_M_tellRing 218 = .ok (.putfield 112, 3) := by decide +kernel
theorem d_M_tellRing_221 : decode b_M_tellRing 221 = .ok (.return_, 1) := by decide +kernel
theorem d_M_run_0 : decode b_M_run 0 = .ok (.aload_n 0, 1) := by decide +kernel
theorem d_M_run_1 : decode b_M_run 1 = .ok (.iconst 0, 1) := by decide +kernel
theorem d_M_run_2 : decode b_M_run 2 = .ok (.putfield 75, 3) := by decide +kernel
theorem d_M_run_5 : decode b_M_run 5 = .ok (.iload_n 1, 1) := by decide +kernel
theorem d_M_run_6 : decode b_M_run 6 = .ok (.ifCond .lt 9, 3) := by decide +kernel
theorem d_M_run_9 : decode b_M_run 9 = .ok (.iload_n 1, 1) := by decide +kernel
theorem d_M_run_10 : decode b_M_run 10 = .ok (.bipush 8, 2) := by decide +kernel
theorem d_M_run_12 : decode b_M_run 12 = .ok (.if_icmp .lt 5, 3) := by decide +kernel
theorem d_M_run_15 : decode b_M_run 15 = .ok (.iconst (-1), 1) := by decide +kernel
theorem d_M_run_16 : decode b_M_run 16 = .ok (.ireturn, 1) := by decide +kernel
theorem d_M_run_17 : decode b_M_run 17 = .ok (.aload_n 0, 1) := by decide +kernel
theorem d_M_run_18 : decode b_M_run 18 = .ok (.iload_n 1, 1) := by decide +kernel
theorem d_M_run_19 : decode b_M_run 19 = .ok (.putfield 29, 3) := by decide +kernel
theorem d_M_run_22 : decode b_M_run 22 = .ok (.aload_n 0, 1) := by decide +kernel
theorem d_M_run_23 : decode b_M_run 23 = .ok (.aload_n 0, 1) := by decide +kernel
theorem d_M_run_24 : decode b_M_run 24 = .ok (.getfield 78, 3) := by decide +kernel
theorem d_M_run_27 : decode b_M_run 27 = .ok (.putfield 99, 3) := by decide +kernel
theorem d_M_run_30 : decode b_M_run 30 = .ok (.aload_n 0, 1) := by decide +kernel
theorem d_M_run_31 : decode b_M_run 31 = .ok (.aload_n 0, 1) := by decide +kernel
theorem d_M_run_32 : decode b_M_run 32 = .ok (.getfield 85, 3) := by decide +kernel
theorem d_M_run_35 : decode b_M_run 35 = .ok (.putfield 88, 3) := by decide +kernel
theorem d_M_run_38 : decode b_M_run 38 = .ok (.iconst 0, 1) := by decide +kernel
theorem d_M_run_39 : decode b_M_run 39 = .ok (.istore_n 2, 1) := by decide +kernel
theorem d_M_run_40 : decode b_M_run 40 = .ok (.iload_n 2, 1) := by decide +kernel
theorem d_M_run_41 : decode b_M_run 41 = .ok (.sipush 160, 3) := by decide +kernel
theorem d_M_run_44 : decode b_M_run 44 = .ok (.if_icmp .ge 21, 3) := by decide +kernel
theorem d_M_run_47 : decode b_M_run 47 = .ok (.aload_n 0, 1) := by decide +kernel
theorem d_M_run_48 : decode b_M_run 48 = .ok (.getfield 33, 3) := by decide +kernel
theorem d_M_run_51 : decode b_M_run 51 = .ok (.iload_n 2, 1) := by decide +kernel
theorem d_M_run_52 : decode b_M_run 52 = .ok (.aload_n 0, 1) := by decide +kernel
theorem d_M_run_53 : decode b_M_run 53 = .ok (.getfield 25, 3) := by decide +kernel
theorem d_M_run_56 : decode b_M_run 56 = .ok (.iload_n 2, 1) := by decide +kernel
theorem d_M_run_57 : decode b_M_run 57 = .ok (.baload, 1) := by decide +kernel
theorem d_M_run_58 : decode b_M_run 58 = .ok (.bastore, 1) := by decide +kernel
theorem d_M_run_59 : decode b_M_run 59 = .ok (.iinc 2 1, 3) := by decide +kernel
theorem d_M_run_62 : decode b_M_run 62 = .ok (.goto (-22), 3) := by decide +kernel
theorem d_M_run_65 : decode b_M_run 65 = .ok (.aload_n 0, 1) := by decide +kernel
theorem d_M_run_66 : decode b_M_run 66 = .ok (.invokevirtual 115, 3) := by decide +kernel
theorem d_M_run_69 : decode b_M_run 69 = .ok (.aload_n 0, 1) := by decide +kernel
theorem d_M_run_70 : decode b_M_run 70 = .ok (.invokevirtual 118, 3) := by decide +kernel
theorem d_M_run_73 : decode b_M_run 73 = .ok (.aload_n 0, 1) := by decide +kernel
theorem d_M_run_74 : decode b_M_run 74 = .ok (.invokevirtual 121, 3) := by decide +kernel
theorem d_M_run_77 : decode b_M_run 77 = .ok (.aload_n 0, 1) := by decide +kernel
theorem d_M_run_78 : decode b_M_run 78 = .ok (.iconst 0, 1) := by decide +kernel
theorem d_M_run_79 : decode b_M_run 79 = .ok (.putfield 112, 3) := by decide +kernel
theorem d_M_run_82 : decode b_M_run 82 = .ok (.iconst 0, 1) := by decide +kernel
theorem d_M_run_83 : decode b_M_run 83 = .ok (.istore_n 2, 1) := by decide +kernel
theorem d_M_run_84 : decode b_M_run 84 = .ok (.iload_n 2, 1) := by decide +kernel
theorem d_M_run_85 : decode b_M_run 85 = .ok (.aload_n 0, 1) := by decide +kernel
theorem d_M_run_86 : decode b_M_run 86 = .ok (.getfield 102, 3) := by decide +kernel
theorem d_M_run_89 : decode b_M_run 89 = .ok (.if_icmp .ge 14, 3) := by decide +kernel
theorem d_M_run_92 : decode b_M_run 92 = .ok (.aload_n 0, 1) := by decide +kernel
theorem d_M_run_93 : decode b_M_run 93 = .ok (.iload_n 2, 1) := by decide +kernel
theorem d_M_run_94 : decode b_M_run 94 = .ok (.invokevirtual 124, 3) := by decide +kernel
theorem d_M_run_97 : decode b_M_run 97 = .ok (.iinc 2 1, 3) := by decide +kernel
theorem d_M_run_100 : decode b_M_run 100 = .ok (.goto (-16), 3) := by decide +kernel
theorem d_M_run_103 : decode b_M_run 103 = .ok (.aload_n 0, 1) := by decide +kernel
theorem d_M_run_104 : decode b_M_run 104 = .ok (.getfield 112, 3) := by decide +kernel
theorem d_M_run_107 : decode b_M_run 107 = .ok (.ireturn, 1) := by decide +kernel
theorem d_M_size_0 : decode b_M_size 0 = .ok (.aload_n 0, 1) := by decide +kernel
theorem d_M_size_1 : decode b_M_size 1 = .ok (.iconst 0, 1) := by decide +kernel
theorem d_M_size_2 : decode b_M_size 2 = .ok (.putfield 75, 3) := by decide +kernel
theorem d_M_size_5 : decode b_M_size 5 = .ok (.iload_n 1, 1) := by decide +kernel
theorem d_M_size_6 : decode b_M_size 6 = .ok (.ifCond .lt 11, 3) := by decide +kernel
theorem d_M_size_9 : decode b_M_size 9 = .ok (.iload_n 1, 1) := by decide +kernel
theorem d_M_size_10 : decode b_M_size 10 = .ok (.aload_n 0, 1) := by decide +kernel
theorem d_M_size_11 : decode b_M_size 11 = .ok (.getfield 112, 3) := by decide +kernel
theorem d_M_size_14 : decode b_M_size 14 = .ok (.if_icmp .lt 7, 3) := by decide +kernel
theorem d_M_size_17 : decode b_M_size 17 = .ok (.iconst 0, 1) := by decide +kernel
theorem d_M_size_18 : decode b_M_size 18 = .ok (.goto 9, 3) := by decide +kernel
theorem d_M_size_21 : decode b_M_size 21 = .ok (.aload_n 0, 1) := by decide +kernel
theorem d_M_size_22 : decode b_M_size 22 = .ok (.getfield 57, 3) := by decide +kernel
theorem d_M_size_25 : decode b_M_size 25 = .ok (.iload_n 1, 1) := by decide +kernel
theorem d_M_size_26 : decode b_M_size 26 = .ok (.iaload, 1) := by decide +kernel
theorem d_M_size_27 : decode b_M_size 27 = .ok (.ireturn, 1) := by decide +kernel
theorem d_M_keyOf_0 : decode b_M_keyOf 0 = .ok (.aload_n 0, 1) := by decide +kernel
theorem d_M_keyOf_1 : decode b_M_keyOf 1 = .ok (.getfield 36, 3) := by decide +kernel
theorem d_M_keyOf_4 : decode b_M_keyOf 4 = .ok (.aload_n 0, 1) := by decide +kernel
theorem d_M_keyOf_5 : decode b_M_keyOf 5 = .ok (.getfield 60, 3) := by decide +kernel
theorem d_M_keyOf_8 : decode b_M_keyOf 8 = .ok (.iload_n 1, 1) := by decide +kernel
theorem d_M_keyOf_9 : decode b_M_keyOf 9 = .ok (.iload_n 2, 1) := by decide +kernel
theorem d_M_keyOf_10 : decode b_M_keyOf 10 = .ok (.aload_n 0, 1) := by decide +kernel
theorem d_M_keyOf_11 : decode b_M_keyOf 11 = .ok (.getfield 57, 3) := by decide +kernel
theorem d_M_keyOf_14 : decode b_M_keyOf 14 = .ok (.iload_n 1, 1) := by decide +kernel
theorem d_M_keyOf_15 : decode b_M_keyOf 15 = .ok (.iaload, 1) := by decide +kernel
theorem d_M_keyOf_16 : decode b_M_keyOf 16 = .ok (.irem, 1) := by decide +kernel
theorem d_M_keyOf_17 : decode b_M_keyOf 17 = .ok (.invokestatic 95, 3) := by decide +kernel
theorem d_M_keyOf_20 : decode b_M_keyOf 20 = .ok (.iaload, 1) := by decide +kernel
theorem d_M_keyOf_21 : decode b_M_keyOf 21 = .ok (.iaload, 1) := by decide +kernel
theorem d_M_keyOf_22 : decode b_M_keyOf 22 = .ok (.ireturn, 1) := by decide +kernel
theorem d_M_edgeOf_0 : decode b_M_edgeOf 0 = .ok (.iconst (-1), 1) := by decide +kernel
theorem d_M_edgeOf_1 : decode b_M_edgeOf 1 = .ok (.istore_n 3, 1) := by decide +kernel
theorem d_M_edgeOf_2 : decode b_M_edgeOf 2 = .ok (.iconst 0, 1) := by decide +kernel
theorem d_M_edgeOf_3 : decode b_M_edgeOf 3 = .ok (.istore 4, 2) := by decide +kernel
theorem d_M_edgeOf_5 : decode b_M_edgeOf 5 = .ok (.iload 4, 2) := by decide +kernel
theorem d_M_edgeOf_7 : decode b_M_edgeOf 7 = .ok (.aload_n 0, 1) := by decide +kernel
theorem d_M_edgeOf_8 : decode b_M_edgeOf 8 = .ok (.getfield 88, 3) := by decide +kernel
theorem d_M_edgeOf_11 : decode b_M_edgeOf 11 = .ok (.if_icmp .ge 87, 3) := by decide +kernel
theorem d_M_edgeOf_14 : decode b_M_edgeOf 14 = .ok (.aload_n 0, 1) := by decide +kernel
theorem d_M_edgeOf_15 : decode b_M_edgeOf 15 = .ok (.iload 4, 2) := by decide +kernel
theorem d_M_edgeOf_17 : decode b_M_edgeOf 17 = .ok (.aload_n 0, 1) := by decide +kernel
theorem d_M_edgeOf_18 : decode b_M_edgeOf 18 = .ok (.getfield 29, 3) := by decide +kernel
theorem d_M_edgeOf_21 : decode b_M_edgeOf 21 = .ok (.invokevirtual 91, 3) := by decide +kernel
theorem d_M_edgeOf_24 : decode b_M_edgeOf 24 = .ok (.ifCond .eq 68, 3) := by decide +kernel
theorem d_M_edgeOf_27 : decode b_M_edgeOf 27 = .ok (.aload_n 0, 1) := by decide +kernel
theorem d_M_edgeOf_28 : decode b_M_edgeOf 28 = .ok (.getfield 13, 3) := by decide +kernel
theorem d_M_edgeOf_31 : decode b_M_edgeOf 31 = .ok (.iload 4, 2) := by decide +kernel
theorem d_M_edgeOf_33 : decode b_M_edgeOf 33 = .ok (.iaload, 1) := by decide +kernel
theorem d_M_edgeOf_34 : decode b_M_edgeOf 34 = .ok (.aload_n 0, 1) := by decide +kernel
theorem d_M_edgeOf_35 : decode b_M_edgeOf 35 = .ok (.iload_n 1, 1) := by decide +kernel
theorem d_M_edgeOf_36 : decode b_M_edgeOf 36 = .ok (.iload_n 2, 1) := by decide +kernel
theorem d_M_edgeOf_37 : decode b_M_edgeOf 37 = .ok (.invokevirtual 128, 3) := by decide +kernel
theorem d_M_edgeOf_40 : decode b_M_edgeOf 40 = .ok (.if_icmp .ne 52, 3) := by decide +kernel
theorem d_M_edgeOf_43 : decode b_M_edgeOf 43 = .ok (.aload_n 0, 1) := by decide +kernel
theorem d_M_edgeOf_44 : decode b_M_edgeOf 44 = .ok (.getfield 16, 3) := by decide +kernel
theorem d_M_edgeOf_47 : decode b_M_edgeOf 47 = .ok (.iload 4, 2) := by decide +kernel
theorem d_M_edgeOf_49 : decode b_M_edgeOf 49 = .ok (.iaload, 1) := by decide +kernel
theorem d_M_edgeOf_50 : decode b_M_edgeOf 50 = .ok (.aload_n 0, 1) := by decide +kernel
theorem d_M_edgeOf_51 : decode b_M_edgeOf 51 = .ok (.iload_n 1, 1) := by decide +kernel
theorem d_M_edgeOf_52 : decode b_M_edgeOf 52 = .ok (.iload_n 2, 1) := by decide +kernel
theorem d_M_edgeOf_53 : decode b_M_edgeOf 53 = .ok (.iconst 1, 1) := by decide +kernel
theorem d_M_edgeOf_54 : decode b_M_edgeOf 54 = .ok (.iadd, 1) := by decide +kernel
theorem d_M_edgeOf_55 : decode b_M_edgeOf 55 = .ok (.invokevirtual 128, 3) := by decide +kernel
theorem d_M_edgeOf_58 : decode b_M_edgeOf 58 = .ok (.if_icmp .eq 6, 3) := by decide +kernel
theorem d_M_edgeOf_61 : decode b_M_edgeOf 61 = .ok (.goto 31, 3) := by decide +kernel
theorem d_M_edgeOf_64 : decode b_M_edgeOf 64 = .ok (.iload_n 3, 1) := by decide +kernel
theorem d_M_edgeOf_65 : decode b_M_edgeOf 65 = .ok (.iconst (-1), 1) := by decide +kernel
theorem d_M_edgeOf_66 : decode b_M_edgeOf 66 = .ok (.if_icmp .eq 19, 3) := by decide +kernel
theorem d_M_edgeOf_69 : decode b_M_edgeOf 69 = .ok (.aload_n 0, 1) := by decide +kernel
theorem d_M_edgeOf_70 : decode b_M_edgeOf 70 = .ok (.getfield 19, 3) := by decide +kernel
theorem d_M_edgeOf_73 : decode b_M_edgeOf 73 = .ok (.iload 4, 2) := by decide +kernel
theorem d_M_edgeOf_75 : decode b_M_edgeOf 75 = .ok (.iaload, 1) := by decide +kernel
theorem d_M_edgeOf_76 : decode b_M_edgeOf 76 = .ok (.aload_n 0, 1) := by decide +kernel
theorem d_M_edgeOf_77 : decode b_M_edgeOf 77 = .ok (.getfield 19, 3) := by decide +kernel
theorem d_M_edgeOf_80 : decode b_M_edgeOf 80 = .ok (.iload_n 3, 1) := by decide +kernel
theorem d_M_edgeOf_81 : decode b_M_edgeOf 81 = .ok (.iaload, 1) := by decide +kernel
theorem d_M_edgeOf_82 : decode b_M_edgeOf 82 = .ok (.if_icmp .ge 8, 3) := by decide +kernel
theorem d_M_edgeOf_85 : decode b_M_edgeOf 85 = .ok (.iload 4, 2) := by decide +kernel
theorem d_M_edgeOf_87 : decode b_M_edgeOf 87 = .ok (.goto 4, 3) := by decide +kernel
theorem d_M_edgeOf_90 : decode b_M_edgeOf 90 = .ok (.iload_n 3, 1) := by decide +kernel
theorem d_M_edgeOf_91 : decode b_M_edgeOf 91 = .ok (.istore_n 3, 1) := by decide +kernel
theorem d_M_edgeOf_92 : decode b_M_edgeOf 92 = .ok (.iinc 4 1, 3) := by decide +kernel
theorem d_M_edgeOf_95 : decode b_M_edgeOf 95 = .ok (.goto (-90), 3) := by decide +kernel
theorem d_M_edgeOf_98 : decode b_M_edgeOf 98 = .ok (.iload_n 3, 1) := by decide +kernel
theorem d_M_edgeOf_99 : decode b_M_edgeOf 99 = .ok (.ireturn, 1) := by decide +kernel
theorem d_M_ring_0 : decode b_M_ring 0 = .ok (.aload_n 0, 1) := by decide +kernel
theorem d_M_ring_1 : decode b_M_ring 1 = .ok (.iconst 0, 1) := by decide +kernel
theorem d_M_ring_2 : decode b_M_ring 2 = .ok (.putfield 75, 3) := by decide +kernel
theorem d_M_ring_5 : decode b_M_ring 5 = .ok (.iload_n 1, 1) := by decide +kernel
theorem d_M_ring_6 : decode b_M_ring 6 = .ok (.ifCond .lt 25, 3) := by decide +kernel
theorem d_M_ring_9 : decode b_M_ring 9 = .ok (.iload_n 1, 1) := by decide +kernel
theorem d_M_ring_10 : decode b_M_ring 10 = .ok (.aload_n 0, 1) := by decide +kernel
theorem d_M_ring_11 : decode b_M_ring 11 = .ok (.getfield 112, 3) := by decide +kernel
theorem d_M_ring_14 : decode b_M_ring 14 = .ok (.if_icmp .ge 17, 3) := by decide +kernel
theorem d_M_ring_17 : decode b_M_ring 17 = .ok (.iload_n 2, 1) := by decide +kernel
theorem d_M_ring_18 : decode b_M_ring 18 = .ok (.ifCond .lt 13, 3) := by decide +kernel
theorem d_M_ring_21 : decode b_M_ring 21 = .ok (.iload_n 2, 1) := by decide +kernel
theorem d_M_ring_22 : decode b_M_ring 22 = .ok (.aload_n 0, 1) := by decide +kernel
theorem d_M_ring_23 : decode b_M_ring 23 = .ok (.getfield 57, 3) := by decide +kernel
theorem d_M_ring_26 : decode b_M_ring 26 = .ok (.iload_n 1, 1) := by decide +kernel
theorem d_M_ring_27 : decode b_M_ring 27 = .ok (.iaload, 1) := by decide +kernel
theorem d_M_ring_28 : decode b_M_ring 28 = .ok (.if_icmp .lt 5, 3) := by decide +kernel
theorem d_M_ring_31 : decode b_M_ring 31 = .ok (.iconst (-1), 1) := by decide +kernel
theorem d_M_ring_32 : decode b_M_ring 32 = .ok (.ireturn, 1) := by decide +kernel
theorem d_M_ring_33 : decode b_M_ring 33 = .ok (.iload_n 3, 1) := by decide +kernel
theorem d_M_ring_34 : decode b_M_ring 34 = .ok (.ifCond .ne 10, 3) := by decide +kernel
theorem d_M_ring_37 : decode b_M_ring 37 = .ok (.aload_n 0, 1) := by decide +kernel
theorem d_M_ring_38 : decode b_M_ring 38 = .ok (.iload_n 1, 1) := by decide +kernel
theorem d_M_ring_39 : decode b_M_ring 39 = .ok (.iload_n 2, 1) := by decide +kernel
theorem d_M_ring_40 : decode b_M_ring 40 = .ok (.invokevirtual 128, 3) := by decide +kernel
theorem d_M_ring_43 : decode b_M_ring 43 = .ok (.ireturn, 1) := by decide +kernel
theorem d_M_ring_44 : decode b_M_ring 44 = .ok (.aload_n 0, 1) := by decide +kernel
theorem d_M_ring_45 : decode b_M_ring 45 = .ok (.iload_n 1, 1) := by decide +kernel
theorem d_M_ring_46 : decode b_M_ring 46 = .ok (.iload_n 2, 1) := by decide +kernel
theorem d_M_ring_47 : decode b_M_ring 47 = .ok (.invokevirtual 131, 3) := by decide +kernel
theorem d_M_ring_50 : decode b_M_ring 50 = .ok (.istore 4, 2) := by decide +kernel
theorem d_M_ring_52 : decode b_M_ring 52 = .ok (.iload_n 3, 1) := by decide +kernel
theorem d_M_ring_53 : decode b_M_ring 53 = .ok (.iconst 1, 1) := by decide +kernel
theorem d_M_ring_54 : decode b_M_ring 54 = .ok (.if_icmp .ne 13, 3) := by decide +kernel
theorem d_M_ring_57 : decode b_M_ring 57 = .ok (.aload_n 0, 1) := by decide +kernel
theorem d_M_ring_58 : decode b_M_ring 58 = .ok (.getfield 19, 3) := by decide +kernel
theorem d_M_ring_61 : decode b_M_ring 61 = .ok (.iload 4, 2) := by decide +kernel
theorem d_M_ring_63 : decode b_M_ring 63 = .ok (.iaload, 1) := by decide +kernel
theorem d_M_ring_64 : decode b_M_ring 64 = .ok (.goto 14, 3) := by decide +kernel
theorem d_M_ring_67 : decode b_M_ring 67 = .ok (.iload_n 3, 1) := by decide +kernel
theorem d_M_ring_68 : decode b_M_ring 68 = .ok (.iconst 2, 1) := by decide +kernel
theorem d_M_ring_69 : decode b_M_ring 69 = .ok (.if_icmp .ne 8, 3) := by decide +kernel
theorem d_M_ring_72 : decode b_M_ring 72 = .ok (.iload 4, 2) := by decide +kernel
theorem d_M_ring_74 : decode b_M_ring 74 = .ok (.goto 4, 3) := by decide +kernel
theorem d_M_ring_77 : decode b_M_ring 77 = .ok (.iconst (-1), 1) := by decide +kernel
theorem d_M_ring_78 : decode b_M_ring 78 = .ok (.ireturn, 1) := by decide +kernel
theorem d_M_isRing_0 : decode b_M_isRing 0 = .ok (.iconst 1, 1) := by decide +kernel
theorem d_M_isRing_1 : decode b_M_isRing 1 = .ok (.istore_n 3, 1) := by decide +kernel
theorem d_M_isRing_2 : decode b_M_isRing 2 = .ok (.iconst 0, 1) := by decide +kernel
theorem d_M_isRing_3 : decode b_M_isRing 3 = .ok (.istore 4, 2) := by decide +kernel
theorem d_M_isRing_5 : decode b_M_isRing 5 = .ok (.iload 4, 2) := by decide +kernel
theorem d_M_isRing_7 : decode b_M_isRing 7 = .ok (.aload_n 0, 1) := by decide +kernel
theorem d_M_isRing_8 : decode b_M_isRing 8 = .ok (.getfield 57, 3) := by decide +kernel
theorem d_M_isRing_11 : decode b_M_isRing 11 = .ok (.iload_n 1, 1) := by decide +kernel
theorem d_M_isRing_12 : decode b_M_isRing 12 = .ok (.iaload, 1) := by decide +kernel
theorem d_M_isRing_13 : decode b_M_isRing 13 = .ok (.if_icmp .ge 103, 3) := by decide +kernel
theorem d_M_isRing_16 : decode b_M_isRing 16 = .ok (.iconst 0, 1) := by decide +kernel
theorem d_M_isRing_17 : decode b_M_isRing 17 = .ok (.istore 5, 2) := by decide +kernel
theorem d_M_isRing_19 : decode b_M_isRing 19 = .ok (.iconst 0, 1) := by decide +kernel
theorem d_M_isRing_20 : decode b_M_isRing 20 = .ok (.istore 6, 2) := by decide +kernel
theorem d_M_isRing_22 : decode b_M_isRing 22 = .ok (.iload 6, 2) := by decide +kernel
theorem d_M_isRing_24 : decode b_M_isRing 24 = .ok (.aload_n 0, 1) := by decide +kernel
theorem d_M_isRing_25 : decode b_M_isRing 25 = .ok (.getfield 88, 3) := by decide +kernel
theorem d_M_isRing_28 : decode b_M_isRing 28 = .ok (.if_icmp .ge 67, 3) := by decide +kernel
theorem d_M_isRing_31 : decode b_M_isRing 31 = .ok (.iload 5, 2) := by decide +kernel
theorem d_M_isRing_33 : decode b_M_isRing 33 = .ok (.ifCond .ne 49, 3) := by decide +kernel
theorem d_M_isRing_36 : decode b_M_isRing 36 = .ok (.aload_n 0, 1) := by decide +kernel
theorem d_M_isRing_37 : decode b_M_isRing 37 = .ok (.iload 6, 2) := by decide +kernel
theorem d_M_isRing_39 : decode b_M_isRing 39 = .ok (.iload_n 2, 1) := by decide +kernel
theorem d_M_isRing_40 : decode b_M_isRing 40 = .ok (.invokevirtual 91, 3) := by decide +kernel
theorem d_M_isRing_43 : decode b_M_isRing 43 = .ok (.ifCond .eq 43, 3) := by decide +kernel
theorem d_M_isRing_46 : decode b_M_isRing 46 = .ok (.aload_n 0, 1) := by decide +kernel
theorem d_M_isRing_47 : decode b_M_isRing 47 = .ok (.getfield 13, 3) := by decide +kernel
theorem d_M_isRing_50 : decode b_M_isRing 50 = .ok (.iload 6, 2) := by decide +kernel
theorem d_M_isRing_52 : decode b_M_isRing 52 = .ok (.iaload, 1) := by decide +kernel
theorem d_M_isRing_53 : decode b_M_isRing 53 = .ok (.aload_n 0, 1) := by decide +kernel
theorem d_M_isRing_54 : decode b_M_isRing 54 = .ok (.iload_n 1, 1) := by decide +kernel
theorem d_M_isRing_55 : decode b_M_isRing 55 = .ok (.iload 4, 2) := by decide +kernel
theorem d_M_isRing_57 : decode b_M_isRing 57 = .ok (.invokevirtual 128, 3) := by decide +kernel
theorem d_M_isRing_60 : decode b_M_isRing 60 = .ok (.if_icmp .ne 26, 3) := by decide +kernel
theorem d_M_isRing_63 : decode b_M_isRing 63 = .ok (.aload_n 0, 1) := by decide +kernel
theorem d_M_isRing_64 : decode b_M_isRing 64 = .ok (.getfield 16, 3) := by decide +kernel
theorem d_M_isRing_67 : decode b_M_isRing 67 = .ok (.iload 6, 2) := by decide +kernel
theorem d_M_isRing_69 : decode b_M_isRing 69 = .ok (.iaload, 1) := by decide +kernel
theorem d_M_isRing_70 : decode b_M_isRing 70 = .ok (.aload_n 0, 1) := by decide +kernel
theorem d_M_isRing_71 : decode b_M_isRing 71 = .ok (.iload_n 1, 1) := by decide +kernel
theorem d_M_isRing_72 : decode b_M_isRing 72 = .ok (.iload 4, 2) := by decide +kernel
theorem d_M_isRing_74 : decode b_M_isRing 74 = .ok (.iconst 1, 1) := by decide +kernel
theorem d_M_isRing_75 : decode b_M_isRing 75 = .ok (.iadd, 1) := by decide +kernel
theorem d_M_isRing_76 : decode b_M_isRing 76 = .ok (.invokevirtual 128, 3) := by decide +kernel
theorem d_M_isRing_79 : decode b_M_isRing 79 = .ok (.if_icmp .ne 7, 3) := by decide +kernel
theorem d_M_isRing_82 : decode b_M_isRing 82 = .ok (.iconst 1, 1) := by decide +kernel
theorem d_M_isRing_83 : decode b_M_isRing 83 = .ok (.goto 4, 3) := by decide +kernel
theorem d_M_isRing_86 : decode b_M_isRing 86 = .ok (.iconst 0, 1) := by decide +kernel
theorem d_M_isRing_87 : decode b_M_isRing 87 = .ok (.istore 5, 2) := by decide +kernel
theorem d_M_isRing_89 : decode b_M_isRing 89 = .ok (.iinc 6 1, 3) := by decide +kernel
theorem d_M_isRing_92 : decode b_M_isRing 92 = .ok (.goto (-70), 3) := by decide +kernel
theorem d_M_isRing_95 : decode b_M_isRing 95 = .ok (.iload_n 3, 1) := by decide +kernel
theorem d_M_isRing_96 : decode b_M_isRing 96 = .ok (.ifCond .eq 12, 3) := by decide +kernel
theorem d_M_isRing_99 : decode b_M_isRing 99 = .ok (.iload 5, 2) := by decide +kernel
theorem d_M_isRing_101 : decode b_M_isRing 101 = .ok (.ifCond .eq 7, 3) := by decide +kernel
theorem d_M_isRing_104 : decode b_M_isRing 104 = .ok (.iconst 1, 1) := by decide +kernel
theorem d_M_isRing_105 : decode b_M_isRing 105 = .ok (.goto 4, 3) := by decide +kernel
theorem d_M_isRing_108 : decode b_M_isRing 108 = .ok (.iconst 0, 1) := by decide +kernel
theorem d_M_isRing_109 : decode b_M_isRing 109 = .ok (.istore_n 3, 1) := by decide +kernel
theorem d_M_isRing_110 : decode b_M_isRing 110 = .ok (.iinc 4 1, 3) := by decide +kernel
theorem d_M_isRing_113 : decode b_M_isRing 113 = .ok (.goto (-108), 3) := by decide +kernel
theorem d_M_isRing_116 : decode b_M_isRing 116 = .ok (.iload_n 3, 1) := by decide +kernel
theorem d_M_isRing_117 : decode b_M_isRing 117 = .ok (.ireturn, 1) := by decide +kernel
theorem d_M_only_0 : decode b_M_only 0 = .ok (.aload_n 0, 1) := by decide +kernel
theorem d_M_only_1 : decode b_M_only 1 = .ok (.iconst 0, 1) := by decide +kernel
theorem d_M_only_2 : decode b_M_only 2 = .ok (.putfield 75, 3) := by decide +kernel
theorem d_M_only_5 : decode b_M_only 5 = .ok (.iload_n 1, 1) := by decide +kernel
theorem d_M_only_6 : decode b_M_only 6 = .ok (.ifCond .lt 11, 3) := by decide +kernel
theorem d_M_only_9 : decode b_M_only 9 = .ok (.iload_n 1, 1) := by decide +kernel
theorem d_M_only_10 : decode b_M_only 10 = .ok (.aload_n 0, 1) := by decide +kernel
theorem d_M_only_11 : decode b_M_only 11 = .ok (.getfield 112, 3) := by decide +kernel
theorem d_M_only_14 : decode b_M_only 14 = .ok (.if_icmp .lt 5, 3) := by decide +kernel
theorem d_M_only_17 : decode b_M_only 17 = .ok (.iconst (-1), 1) := by decide +kernel
theorem d_M_only_18 : decode b_M_only 18 = .ok (.ireturn, 1) := by decide +kernel
theorem d_M_only_19 : decode b_M_only 19 = .ok (.iconst 0, 1) := by decide +kernel
theorem d_M_only_20 : decode b_M_only 20 = .ok (.istore_n 2, 1) := by decide +kernel
theorem d_M_only_21 : decode b_M_only 21 = .ok (.iload_n 2, 1) := by decide +kernel
theorem d_M_only_22 : decode b_M_only 22 = .ok (.bipush 8, 2) := by decide +kernel
theorem d_M_only_24 : decode b_M_only 24 = .ok (.if_icmp .ge 28, 3) := by decide +kernel
theorem d_M_only_27 : decode b_M_only 27 = .ok (.iload_n 2, 1) := by decide +kernel
theorem d_M_only_28 : decode b_M_only 28 = .ok (.aload_n 0, 1) := by decide +kernel
theorem d_M_only_29 : decode b_M_only 29 = .ok (.getfield 29, 3) := by decide +kernel
theorem d_M_only_32 : decode b_M_only 32 = .ok (.if_icmp .eq 14, 3) := by decide +kernel
theorem d_M_only_35 : decode b_M_only 35 = .ok (.aload_n 0, 1) := by decide +kernel
theorem d_M_only_36 : decode b_M_only 36 = .ok (.iload_n 1, 1) := by decide +kernel
theorem d_M_only_37 : decode b_M_only 37 = .ok (.iload_n 2, 1) := by decide +kernel
theorem d_M_only_38 : decode b_M_only 38 = .ok (.invokevirtual 134, 3) := by decide +kernel
theorem d_M_only_41 : decode b_M_only 41 = .ok (.ifCond .eq 5, 3) := by decide +kernel
theorem d_M_only_44 : decode b_M_only 44 = .ok (.iconst (-1), 1) := by decide +kernel
theorem d_M_only_45 : decode b_M_only 45 = .ok (.ireturn, 1) := by decide +kernel
theorem d_M_only_46 : decode b_M_only 46 = .ok (.iinc 2 1, 3) := by decide +kernel
theorem d_M_only_49 : decode b_M_only 49 = .ok (.goto (-28), 3) := by decide +kernel
theorem d_M_only_52 : decode b_M_only 52 = .ok (.aload_n 0, 1) := by decide +kernel
theorem d_M_only_53 : decode b_M_only 53 = .ok (.getfield 29, 3) := by decide +kernel
theorem d_M_only_56 : decode b_M_only 56 = .ok (.ireturn, 1) := by decide +kernel
theorem d_M_newest_0 : decode b_M_newest 0 = .ok (.aload_n 0, 1) := by decide +kernel
theorem d_M_newest_1 : decode b_M_newest 1 = .ok (.iconst 0, 1) := by decide +kernel
theorem d_M_newest_2 : decode b_M_newest 2 = .ok (.putfield 75, 3) := by decide +kernel
theorem d_M_newest_5 : decode b_M_newest 5 = .ok (.iload_n 1, 1) := by decide +kernel
theorem d_M_newest_6 : decode b_M_newest 6 = .ok (.ifCond .lt 11, 3) := by decide +kernel
theorem d_M_newest_9 : decode b_M_newest 9 = .ok (.iload_n 1, 1) := by decide +kernel
theorem d_M_newest_10 : decode b_M_newest 10 = .ok (.aload_n 0, 1) := by decide +kernel
theorem d_M_newest_11 : decode b_M_newest 11 = .ok (.getfield 112, 3) := by decide +kernel
theorem d_M_newest_14 : decode b_M_newest 14 = .ok (.if_icmp .lt 5, 3) := by decide +kernel
theorem d_M_newest_17 : decode b_M_newest 17 = .ok (.iconst (-1), 1) := by decide +kernel
theorem d_M_newest_18 : decode b_M_newest 18 = .ok (.ireturn, 1) := by decide +kernel
theorem d_M_newest_19 : decode b_M_newest 19 = .ok (.iconst (-1), 1) := by decide +kernel
theorem d_M_newest_20 : decode b_M_newest 20 = .ok (.istore_n 2, 1) := by decide +kernel
theorem d_M_newest_21 : decode b_M_newest 21 = .ok (.iconst 0, 1) := by decide +kernel
theorem d_M_newest_22 : decode b_M_newest 22 = .ok (.istore_n 3, 1) := by decide +kernel
theorem d_M_newest_23 : decode b_M_newest 23 = .ok (.iload_n 3, 1) := by decide +kernel
theorem d_M_newest_24 : decode b_M_newest 24 = .ok (.aload_n 0, 1) := by decide +kernel
theorem d_M_newest_25 : decode b_M_newest 25 = .ok (.getfield 57, 3) := by decide +kernel
theorem d_M_newest_28 : decode b_M_newest 28 = .ok (.iload_n 1, 1) := by decide +kernel
theorem d_M_newest_29 : decode b_M_newest 29 = .ok (.iaload, 1) := by decide +kernel
theorem d_M_newest_30 : decode b_M_newest 30 = .ok (.if_icmp .ge 30, 3) := by decide +kernel
theorem d_M_newest_33 : decode b_M_newest 33 = .ok (.aload_n 0, 1) := by decide +kernel
theorem d_M_newest_34 : decode b_M_newest 34 = .ok (.iload_n 1, 1) := by decide +kernel
theorem d_M_newest_35 : decode b_M_newest 35 = .ok (.iload_n 3, 1) := by decide +kernel
theorem d_M_newest_36 : decode b_M_newest 36 = .ok (.invokevirtual 131, 3) := by decide +kernel
theorem d_M_newest_39 : decode b_M_newest 39 = .ok (.iload_n 2, 1) := by decide +kernel
theorem d_M_newest_40 : decode b_M_newest 40 = .ok (.if_icmp .le 12, 3) := by decide +kernel
theorem d_M_newest_43 : decode b_M_newest 43 = .ok (.aload_n 0, 1) := by decide +kernel
theorem d_M_newest_44 : decode b_M_newest 44 = .ok (.iload_n 1, 1) := by decide +kernel
theorem d_M_newest_45 : decode b_M_newest 45 = .ok (.iload_n 3, 1) := by decide +kernel
theorem d_M_newest_46 : decode b_M_newest 46 = .ok (.invokevirtual 131, 3) := by decide +kernel
theorem d_M_newest_49 : decode b_M_newest 49 = .ok (.goto 4, 3) := by decide +kernel
theorem d_M_newest_52 : decode b_M_newest 52 = .ok (.iload_n 2, 1) := by decide +kernel
theorem d_M_newest_53 : decode b_M_newest 53 = .ok (.istore_n 2, 1) := by decide +kernel
theorem d_M_newest_54 : decode b_M_newest 54 = .ok (.iinc 3 1, 3) := by decide +kernel
theorem d_M_newest_57 : decode b_M_newest 57 = .ok (.goto (-34), 3) := by decide +kernel
theorem d_M_newest_60 : decode b_M_newest 60 = .ok (.iload_n 2, 1) := by decide +kernel
theorem d_M_newest_61 : decode b_M_newest 61 = .ok (.ireturn, 1) := by decide +kernel
theorem d_M_isThere_0 : decode b_M_isThere 0 = .ok (.aload_n 0, 1) := by decide +kernel
theorem d_M_isThere_1 : decode b_M_isThere 1 = .ok (.getfield 29, 3) := by decide +kernel
theorem d_M_isThere_4 : decode b_M_isThere 4 = .ok (.iconst (-1), 1) := by decide +kernel
theorem d_M_isThere_5 : decode b_M_isThere 5 = .ok (.if_icmp .eq 19, 3) := by decide +kernel
theorem d_M_isThere_8 : decode b_M_isThere 8 = .ok (.iload_n 1, 1) := by decide +kernel
theorem d_M_isThere_9 : decode b_M_isThere 9 = .ok (.ifCond .lt 15, 3) := by decide +kernel
theorem d_M_isThere_12 : decode b_M_isThere 12 = .ok (.iload_n 1, 1) := by decide +kernel
theorem d_M_isThere_13 : decode b_M_isThere 13 = .ok (.aload_n 0, 1) := by decide +kernel
theorem d_M_isThere_14 : decode b_M_isThere 14 = .ok (.getfield 99, 3) := by decide +kernel
theorem d_M_isThere_17 : decode b_M_isThere 17 = .ok (.if_icmp .ge 7, 3) := by decide +kernel
theorem d_M_isThere_20 : decode b_M_isThere 20 = .ok (.iconst 1, 1) := by decide +kernel
theorem d_M_isThere_21 : decode b_M_isThere 21 = .ok (.goto 4, 3) := by decide +kernel
theorem d_M_isThere_24 : decode b_M_isThere 24 = .ok (.iconst 0, 1) := by decide +kernel
theorem d_M_isThere_25 : decode b_M_isThere 25 = .ok (.ireturn, 1) := by decide +kernel
theorem d_M_strong_0 : decode b_M_strong 0 = .ok (.aload_n 0, 1) := by decide +kernel
theorem d_M_strong_1 : decode b_M_strong 1 = .ok (.iconst 0, 1) := by decide +kernel
theorem d_M_strong_2 : decode b_M_strong 2 = .ok (.putfield 75, 3) := by decide +kernel
theorem d_M_strong_5 : decode b_M_strong 5 = .ok (.aload_n 0, 1) := by decide +kernel
theorem d_M_strong_6 : decode b_M_strong 6 = .ok (.iload_n 1, 1) := by decide +kernel
theorem d_M_strong_7 : decode b_M_strong 7 = .ok (.invokevirtual 137, 3) := by decide +kernel
theorem d_M_strong_10 : decode b_M_strong 10 = .ok (.ifCond .eq 17, 3) := by decide +kernel
theorem d_M_strong_13 : decode b_M_strong 13 = .ok (.aload_n 0, 1) := by decide +kernel
theorem d_M_strong_14 : decode b_M_strong 14 = .ok (.getfield 42, 3) := by decide +kernel
theorem d_M_strong_17 : decode b_M_strong 17 = .ok (.aload_n 0, 1) := by decide +kernel
theorem d_M_strong_18 : decode b_M_strong 18 = .ok (.getfield 39, 3) := by decide +kernel
theorem d_M_strong_21 : decode b_M_strong 21 = .ok (.iload_n 1, 1) := by decide +kernel
theorem d_M_strong_22 : decode b_M_strong 22 = .ok (.iaload, 1) := by decide +kernel
theorem d_M_strong_23 : decode b_M_strong 23 = .ok (.iaload, 1) := by decide +kernel
theorem d_M_strong_24 : decode b_M_strong 24 = .ok (.goto 4, 3) := by decide +kernel
theorem d_M_strong_27 : decode b_M_strong 27 = .ok (.iconst (-1), 1) := by decide +kernel
theorem d_M_strong_28 : decode b_M_strong 28 = .ok (.ireturn, 1) := by decide +kernel
theorem d_M_isRinged_0 : decode b_M_isRinged 0 = .ok (.aload_n 0, 1) := by decide +kernel
theorem d_M_isRinged_1 : decode b_M_isRinged 1 = .ok (.getfield 51, 3) := by decide +kernel
theorem d_M_isRinged_4 : decode b_M_isRinged 4 = .ok (.iload_n 1, 1) := by decide +kernel
theorem d_M_isRinged_5 : decode b_M_isRinged 5 = .ok (.iload_n 1, 1) := by decide +kernel
theorem d_M_isRinged_6 : decode b_M_isRinged 6 = .ok (.invokestatic 95, 3) := by decide +kernel
theorem d_M_isRinged_9 : decode b_M_isRinged 9 = .ok (.baload, 1) := by decide +kernel
theorem d_M_isRinged_10 : decode b_M_isRinged 10 = .ok (.ireturn, 1) := by decide +kernel
theorem d_M_state_0 : decode b_M_state 0 = .ok (.aload_n 0, 1) := by decide +kernel
theorem d_M_state_1 : decode b_M_state 1 = .ok (.iconst 0, 1) := by decide +kernel
theorem d_M_state_2 : decode b_M_state 2 = .ok (.putfield 75, 3) := by decide +kernel
theorem d_M_state_5 : decode b_M_state 5 = .ok (.aload_n 0, 1) := by decide +kernel
theorem d_M_state_6 : decode b_M_state 6 = .ok (.iload_n 1, 1) := by decide +kernel
theorem d_M_state_7 : decode b_M_state 7 = .ok (.invokevirtual 137, 3) := by decide +kernel
theorem d_M_state_10 : decode b_M_state 10 = .ok (.ifCond .ne 5, 3) := by decide +kernel
theorem d_M_state_13 : decode b_M_state 13 = .ok (.iconst (-1), 1) := by decide +kernel
theorem d_M_state_14 : decode b_M_state 14 = .ok (.ireturn, 1) := by decide +kernel
theorem d_M_state_15 : decode b_M_state 15 = .ok (.aload_n 0, 1) := by decide +kernel
theorem d_M_state_16 : decode b_M_state 16 = .ok (.aload_n 0, 1) := by decide +kernel
theorem d_M_state_17 : decode b_M_state 17 = .ok (.getfield 39, 3) := by decide +kernel
theorem d_M_state_20 : decode b_M_state 20 = .ok (.iload_n 1, 1) := by decide +kernel
theorem d_M_state_21 : decode b_M_state 21 = .ok (.iaload, 1) := by decide +kernel
theorem d_M_state_22 : decode b_M_state 22 = .ok (.invokevirtual 140, 3) := by decide +kernel
theorem d_M_state_25 : decode b_M_state 25 = .ok (.ifCond .eq 5, 3) := by decide +kernel
theorem d_M_state_28 : decode b_M_state 28 = .ok (.iconst 2, 1) := by decide +kernel
theorem d_M_state_29 : decode b_M_state 29 = .ok (.ireturn, 1) := by decide +kernel
theorem d_M_state_30 : decode b_M_state 30 = .ok (.iconst 0, 1) := by decide +kernel
theorem d_M_state_31 : decode b_M_state 31 = .ok (.istore_n 2, 1) := by decide +kernel
theorem d_M_state_32 : decode b_M_state 32 = .ok (.iconst 0, 1) := by decide +kernel
theorem d_M_state_33 : decode b_M_state 33 = .ok (.istore_n 3, 1) := by decide +kernel
theorem d_M_state_34 : decode b_M_state 34 = .ok (.iload_n 3, 1) := by decide +kernel
theorem d_M_state_35 : decode b_M_state 35 = .ok (.aload_n 0, 1) := by decide +kernel
theorem d_M_state_36 : decode b_M_state 36 = .ok (.getfield 99, 3) := by decide +kernel
theorem d_M_state_39 : decode b_M_state 39 = .ok (.if_icmp .ge 45, 3) := by decide +kernel
theorem d_M_state_42 : decode b_M_state 42 = .ok (.iload_n 2, 1) := by decide +kernel
theorem d_M_state_43 : decode b_M_state 43 = .ok (.ifCond .ne 29, 3) := by decide +kernel
theorem d_M_state_46 : decode b_M_state 46 = .ok (.aload_n 0, 1) := by decide +kernel
theorem d_M_state_47 : decode b_M_state 47 = .ok (.getfield 51, 3) := by decide +kernel
theorem d_M_state_50 : decode b_M_state 50 = .ok (.aload_n 0, 1) := by decide +kernel
theorem d_M_state_51 : decode b_M_state 51 = .ok (.getfield 39, 3) := by decide +kernel
theorem d_M_state_54 : decode b_M_state 54 = .ok (.iload_n 1, 1) := by decide +kernel
theorem d_M_state_55 : decode b_M_state 55 = .ok (.iaload, 1) := by decide +kernel
theorem d_M_state_56 : decode b_M_state 56 = .ok (.iload_n 3, 1) := by decide +kernel
theorem d_M_state_57 : decode b_M_state 57 = .ok (.invokestatic 95, 3) := by decide +kernel
theorem d_M_state_60 : decode b_M_state 60 = .ok (.baload, 1) := by decide +kernel
theorem d_M_state_61 : decode b_M_state 61 = .ok (.ifCond .eq 15, 3) := by decide +kernel
theorem d_M_state_64 : decode b_M_state 64 = .ok (.aload_n 0, 1) := by decide +kernel
theorem d_M_state_65 : decode b_M_state 65 = .ok (.iload_n 3, 1) := by decide +kernel
theorem d_M_state_66 : decode b_M_state 66 = .ok (.invokevirtual 140, 3) := by decide +kernel
theorem d_M_state_69 : decode b_M_state 69 = .ok (.ifCond .eq 7, 3) := by decide +kernel
theorem d_M_state_72 : decode b_M_state 72 = .ok (.iconst 1, 1) := by decide +kernel
theorem d_M_state_73 : decode b_M_state 73 = .ok (.goto 4, 3) := by decide +kernel
theorem d_M_state_76 : decode b_M_state 76 = .ok (.iconst 0, 1) := by decide +kernel
theorem d_M_state_77 : decode b_M_state 77 = .ok (.istore_n 2, 1) := by decide +kernel
theorem d_M_state_78 : decode b_M_state 78 = .ok (.iinc 3 1, 3) := by decide +kernel
theorem d_M_state_81 : decode b_M_state 81 = .ok (.goto (-47), 3) := by decide +kernel
theorem d_M_state_84 : decode b_M_state 84 = .ok (.iload_n 2, 1) := by decide +kernel
theorem d_M_state_85 : decode b_M_state 85 = .ok (.ifCond .eq 7, 3) := by decide +kernel
theorem d_M_state_88 : decode b_M_state 88 = .ok (.iconst 1, 1) := by decide +kernel
theorem d_M_state_89 : decode b_M_state 89 = .ok (.goto 4, 3) := by decide +kernel
theorem d_M_state_92 : decode b_M_state 92 = .ok (.iconst 0, 1) := by decide +kernel
theorem d_M_state_93 : decode b_M_state 93 = .ok (.ireturn, 1) := by decide +kernel
theorem d_M_least_0 : decode b_M_least 0 = .ok (.aload_n 0, 1) := by decide +kernel
theorem d_M_least_1 : decode b_M_least 1 = .ok (.iconst 0, 1) := by decide +kernel
theorem d_M_least_2 : decode b_M_least 2 = .ok (.putfield 75, 3) := by decide +kernel
theorem d_M_least_5 : decode b_M_least 5 = .ok (.aload_n 0, 1) := by decide +kernel
theorem d_M_least_6 : decode b_M_least 6 = .ok (.iload_n 1, 1) := by decide +kernel
theorem d_M_least_7 : decode b_M_least 7 = .ok (.invokevirtual 137, 3) := by decide +kernel
theorem d_M_least_10 : decode b_M_least 10 = .ok (.ifCond .eq 17, 3) := by decide +kernel
theorem d_M_least_13 : decode b_M_least 13 = .ok (.aload_n 0, 1) := by decide +kernel
theorem d_M_least_14 : decode b_M_least 14 = .ok (.getfield 45, 3) := by decide +kernel
theorem d_M_least_17 : decode b_M_least 17 = .ok (.aload_n 0, 1) := by decide +kernel
theorem d_M_least_18 : decode b_M_least 18 = .ok (.getfield 39, 3) := by decide +kernel
theorem d_M_least_21 : decode b_M_least 21 = .ok (.iload_n 1, 1) := by decide +kernel
theorem d_M_least_22 : decode b_M_least 22 = .ok (.iaload, 1) := by decide +kernel
theorem d_M_least_23 : decode b_M_least 23 = .ok (.iaload, 1) := by decide +kernel
theorem d_M_least_24 : decode b_M_least 24 = .ok (.goto 4, 3) := by decide +kernel
theorem d_M_least_27 : decode b_M_least 27 = .ok (.iconst (-1), 1) := by decide +kernel
theorem d_M_least_28 : decode b_M_least 28 = .ok (.ireturn, 1) := by decide +kernel
theorem d_M_ask_0 : decode b_M_ask 0 = .ok (.aload_n 0, 1) := by decide +kernel
theorem d_M_ask_1 : decode b_M_ask 1 = .ok (.iconst 0, 1) := by decide +kernel
theorem d_M_ask_2 : decode b_M_ask 2 = .ok (.putfield 75, 3) := by decide +kernel
theorem d_M_ask_5 : decode b_M_ask 5 = .ok (.aload_n 0, 1) := by decide +kernel
theorem d_M_ask_6 : decode b_M_ask 6 = .ok (.getfield 29, 3) := by decide +kernel
theorem d_M_ask_9 : decode b_M_ask 9 = .ok (.iconst (-1), 1) := by decide +kernel
theorem d_M_ask_10 : decode b_M_ask 10 = .ok (.if_icmp .eq 11, 3) := by decide +kernel
theorem d_M_ask_13 : decode b_M_ask 13 = .ok (.aload_n 0, 1) := by decide +kernel
theorem d_M_ask_14 : decode b_M_ask 14 = .ok (.iload_n 1, 1) := by decide +kernel
theorem d_M_ask_15 : decode b_M_ask 15 = .ok (.invokevirtual 81, 3) := by decide +kernel
theorem d_M_ask_18 : decode b_M_ask 18 = .ok (.ifCond .ne 5, 3) := by decide +kernel
theorem d_M_ask_21 : decode b_M_ask 21 = .ok (.iconst (-1), 1) := by decide +kernel
theorem d_M_ask_22 : decode b_M_ask 22 = .ok (.ireturn, 1) := by decide +kernel
theorem d_M_ask_23 : decode b_M_ask 23 = .ok (.iconst 0, 1) := by decide +kernel
theorem d_M_ask_24 : decode b_M_ask 24 = .ok (.istore_n 2, 1) := by decide +kernel
theorem d_M_ask_25 : decode b_M_ask 25 = .ok (.iload_n 2, 1) := by decide +kernel
theorem d_M_ask_26 : decode b_M_ask 26 = .ok (.aload_n 0, 1) := by decide +kernel
theorem d_M_ask_27 : decode b_M_ask 27 = .ok (.getfield 78, 3) := by decide +kernel
theorem d_M_ask_30 : decode b_M_ask 30 = .ok (.if_icmp .ge 23, 3) := by decide +kernel
theorem d_M_ask_33 : decode b_M_ask 33 = .ok (.aload_n 0, 1) := by decide +kernel
theorem d_M_ask_34 : decode b_M_ask 34 = .ok (.getfield 69, 3) := by decide +kernel
theorem d_M_ask_37 : decode b_M_ask 37 = .ok (.iload_n 2, 1) := by decide +kernel
theorem d_M_ask_38 : decode b_M_ask 38 = .ok (.iconst 0, 1) := by decide +kernel
theorem d_M_ask_39 : decode b_M_ask 39 = .ok (.iastore, 1) := by decide +kernel
theorem d_M_ask_40 : decode b_M_ask 40 = .ok (.aload_n 0, 1) := by decide +kernel
theorem d_M_ask_41 : decode b_M_ask 41 = .ok (.getfield 72, 3) := by decide +kernel
theorem d_M_ask_44 : decode b_M_ask 44 = .ok (.iload_n 2, 1) := by decide +kernel
theorem d_M_ask_45 : decode b_M_ask 45 = .ok (.iconst 0, 1) := by decide +kernel
theorem d_M_ask_46 : decode b_M_ask 46 = .ok (.iastore, 1) := by decide +kernel
theorem d_M_ask_47 : decode b_M_ask 47 = .ok (.iinc 2 1, 3) := by decide +kernel
theorem d_M_ask_50 : decode b_M_ask 50 = .ok (.goto (-25), 3) := by decide +kernel
theorem d_M_ask_53 : decode b_M_ask 53 = .ok (.aload_n 0, 1) := by decide +kernel
theorem d_M_ask_54 : decode b_M_ask 54 = .ok (.iconst 0, 1) := by decide +kernel
theorem d_M_ask_55 : decode b_M_ask 55 = .ok (.putfield 143, 3) := by decide +kernel
theorem d_M_ask_58 : decode b_M_ask 58 = .ok (.aload_n 0, 1) := by decide +kernel
theorem d_M_ask_59 : decode b_M_ask 59 = .ok (.getfield 69, 3) := by decide +kernel
theorem d_M_ask_62 : decode b_M_ask 62 = .ok (.iload_n 1, 1) := by decide +kernel
theorem d_M_ask_63 : decode b_M_ask 63 = .ok (.iconst 1, 1) := by decide +kernel
theorem d_M_ask_64 : decode b_M_ask 64 = .ok (.iastore, 1) := by decide +kernel
theorem d_M_ask_65 : decode b_M_ask 65 = .ok (.aload_n 0, 1) := by decide +kernel
theorem d_M_ask_66 : decode b_M_ask 66 = .ok (.getfield 66, 3) := by decide +kernel
theorem d_M_ask_69 : decode b_M_ask 69 = .ok (.iconst 0, 1) := by decide +kernel
theorem d_M_ask_70 : decode b_M_ask 70 = .ok (.iload_n 1, 1) := by decide +kernel
theorem d_M_ask_71 : decode b_M_ask 71 = .ok (.iastore, 1) := by decide +kernel
theorem d_M_ask_72 : decode b_M_ask 72 = .ok (.iconst 1, 1) := by decide +kernel
theorem d_M_ask_73 : decode b_M_ask 73 = .ok (.istore_n 2, 1) := by decide +kernel
theorem d_M_ask_74 : decode b_M_ask 74 = .ok (.iload_n 2, 1) := by decide +kernel
theorem d_M_ask_75 : decode b_M_ask 75 = .ok (.ifCond .le 170, 3) := by decide +kernel
theorem d_M_ask_78 : decode b_M_ask 78 = .ok (.aload_n 0, 1) := by decide +kernel
theorem d_M_ask_79 : decode b_M_ask 79 = .ok (.getfield 66, 3) := by decide +kernel
theorem d_M_ask_82 : decode b_M_ask 82 = .ok (.iload_n 2, 1) := by decide +kernel
theorem d_M_ask_83 : decode b_M_ask 83 = .ok (.iconst 1, 1) := by decide +kernel
theorem d_M_ask_84 : decode b_M_ask 84 = .ok (.isub, 1) := by decide +kernel
theorem d_M_ask_85 : decode b_M_ask 85 = .ok (.iaload, 1) := by decide +kernel
theorem d_M_ask_86 : decode b_M_ask 86 = .ok (.istore_n 3, 1) := by decide +kernel
theorem d_M_ask_87 : decode b_M_ask 87 = .ok (.aload_n 0, 1) := by decide +kernel
theorem d_M_ask_88 : decode b_M_ask 88 = .ok (.getfield 72, 3) := by decide +kernel
theorem d_M_ask_91 : decode b_M_ask 91 = .ok (.iload_n 3, 1) := by decide +kernel
theorem d_M_ask_92 : decode b_M_ask 92 = .ok (.iaload, 1) := by decide +kernel
theorem d_M_ask_93 : decode b_M_ask 93 = .ok (.istore 4, 2) := by decide +kernel
theorem d_M_ask_95 : decode b_M_ask 95 = .ok (.aload_n 0, 1) := by decide +kernel
theorem d_M_ask_96 : decode b_M_ask 96 = .ok (.getfield 72, 3) := by decide +kernel
theorem d_M_ask_99 : decode b_M_ask 99 = .ok (.iload_n 3, 1) := by decide +kernel
theorem d_M_ask_100 : decode b_M_ask 100 = .ok (.dup2, 1) := by decide +kernel
theorem d_M_ask_101 : decode b_M_ask 101 = .ok (.iaload, 1) := by decide +kernel
theorem d_M_ask_102 : decode b_M_ask 102 = .ok (.iconst 1, 1) := by decide +kernel
theorem d_M_ask_103 : decode b_M_ask 103 = .ok (.iadd, 1) := by decide +kernel
theorem d_M_ask_104 : decode b_M_ask 104 = .ok (.iastore, 1) := by decide +kernel
theorem d_M_ask_105 : decode b_M_ask 105 = .ok (.iload 4, 2) := by decide +kernel
theorem d_M_ask_107 : decode b_M_ask 107 = .ok (.aload_n 0, 1) := by decide +kernel
theorem d_M_ask_108 : decode b_M_ask 108 = .ok (.getfield 85, 3) := by decide +kernel
theorem d_M_ask_111 : decode b_M_ask 111 = .ok (.if_icmp .ne 16, 3) := by decide +kernel
theorem d_M_ask_114 : decode b_M_ask 114 = .ok (.aload_n 0, 1) := by decide +kernel
theorem d_M_ask_115 : decode b_M_ask 115 = .ok (.getfield 69, 3) := by decide +kernel
theorem d_M_ask_118 : decode b_M_ask 118 = .ok (.iload_n 3, 1) := by decide +kernel
theorem d_M_ask_119 : decode b_M_ask 119 = .ok (.iconst 2, 1) := by decide +kernel
theorem d_M_ask_120 : decode b_M_ask 120 = .ok (.iastore, 1) := by decide +kernel
theorem d_M_ask_121 : decode b_M_ask 121 = .ok (.iinc 2 (-1), 3) := by decide +kernel
theorem d_M_ask_124 : decode b_M_ask 124 = .ok (.goto (-50), 3) := by decide +kernel
theorem d_M_ask_127 : decode b_M_ask 127 = .ok (.aload_n 0, 1) := by decide +kernel
theorem d_M_ask_128 : decode b_M_ask 128 = .ok (.getfield 25, 3) := by decide +kernel
theorem d_M_ask_131 : decode b_M_ask 131 = .ok (.iload 4, 2) := by decide +kernel
theorem d_M_ask_133 : decode b_M_ask 133 = .ok (.baload, 1) := by decide +kernel
theorem d_M_ask_134 : decode b_M_ask 134 = .ok (.ifCond .ne (-60), 3) := by decide +kernel
theorem d_M_ask_137 : decode b_M_ask 137 = .ok (.aload_n 0, 1) := by decide +kernel
theorem d_M_ask_138 : decode b_M_ask 138 = .ok (.getfield 22, 3) := by decide +kernel
theorem d_M_ask_141 : decode b_M_ask 141 = .ok (.iload 4, 2) := by decide +kernel
theorem d_M_ask_143 : decode b_M_ask 143 = .ok (.iaload, 1) := by decide +kernel
theorem d_M_ask_144 : decode b_M_ask 144 = .ok (.aload_n 0, 1) := by decide +kernel
theorem d_M_ask_145 : decode b_M_ask 145 = .ok (.getfield 29, 3) := by decide +kernel
theorem d_M_ask_148 : decode b_M_ask 148 = .ok (.ishr, 1) := by decide +kernel
theorem d_M_ask_149 : decode b_M_ask 149 = .ok (.iconst 1, 1) := by decide +kernel
theorem d_M_ask_150 : decode b_M_ask 150 = .ok (.iand, 1) := by decide +kernel
theorem d_M_ask_151 : decode b_M_ask 151 = .ok (.ifCond .eq (-77), 3) := by decide +kernel
theorem d_M_ask_154 : decode b_M_ask 154 = .ok (.aload_n 0, 1) := by decide +kernel
theorem d_M_ask_155 : decode b_M_ask 155 = .ok (.getfield 13, 3) := by decide +kernel
theorem d_M_ask_158 : decode b_M_ask 158 = .ok (.iload 4, 2) := by decide +kernel
theorem d_M_ask_160 : decode b_M_ask 160 = .ok (.iaload, 1) := by decide +kernel
theorem d_M_ask_161 : decode b_M_ask 161 = .ok (.iload_n 3, 1) := by decide +kernel
theorem d_M_ask_162 : decode b_M_ask 162 = .ok (.if_icmp .ne (-88), 3) := by decide +kernel
theorem d_M_ask_165 : decode b_M_ask 165 = .ok (.aload_n 0, 1) := by decide +kernel
theorem d_M_ask_166 : decode b_M_ask 166 = .ok (.getfield 69, 3) := by decide +kernel
theorem d_M_ask_169 : decode b_M_ask 169 = .ok (.aload_n 0, 1) := by decide +kernel
theorem d_M_ask_170 : decode b_M_ask 170 = .ok (.getfield 16, 3) := by decide +kernel
theorem d_M_ask_173 : decode b_M_ask 173 = .ok (.iload 4, 2) := by decide +kernel
theorem d_M_ask_175 : decode b_M_ask 175 = .ok (.iaload, 1) := by decide +kernel
theorem d_M_ask_176 : decode b_M_ask 176 = .ok (.iaload, 1) := by decide +kernel
theorem d_M_ask_177 : decode b_M_ask 177 = .ok (.iconst 2, 1) := by decide +kernel
theorem d_M_ask_178 : decode b_M_ask 178 = .ok (.if_icmp .ne 6, 3) := by decide +kernel
theorem d_M_ask_181 : decode b_M_ask 181 = .ok (.goto (-107), 3) := by decide +kernel
theorem d_M_ask_184 : decode b_M_ask 184 = .ok (.aload_n 0, 1) := by decide +kernel
theorem d_M_ask_185 : decode b_M_ask 185 = .ok (.getfield 69, 3) := by decide +kernel
theorem d_M_ask_188 : decode b_M_ask 188 = .ok (.aload_n 0, 1) := by decide +kernel
theorem d_M_ask_189 : decode b_M_ask 189 = .ok (.getfield 16, 3) := by decide +kernel
theorem d_M_ask_192 : decode b_M_ask 192 = .ok (.iload 4, 2) := by decide +kernel
theorem d_M_ask_194 : decode b_M_ask 194 = .ok (.iaload, 1) := by decide +kernel
theorem d_M_ask_195 : decode b_M_ask 195 = .ok (.iaload, 1) := by decide +kernel
theorem d_M_ask_196 : decode b_M_ask 196 = .ok (.iconst 1, 1) := by decide +kernel
theorem d_M_ask_197 : decode b_M_ask 197 = .ok (.if_icmp .ne 16, 3) := by decide +kernel
theorem d_M_ask_200 : decode b_M_ask 200 = .ok (.aload_n 0, 1) := by decide +kernel
theorem d_M_ask_201 : decode b_M_ask 201 = .ok (.iload_n 2, 1) := by decide +kernel
theorem d_M_ask_202 : decode b_M_ask 202 = .ok (.aload_n 0, 1) := by decide +kernel
theorem d_M_ask_203 : decode b_M_ask 203 = .ok (.getfield 16, 3) := by decide +kernel
theorem d_M_ask_206 : decode b_M_ask 206 = .ok (.iload 4, 2) := by decide +kernel
theorem d_M_ask_208 : decode b_M_ask 208 = .ok (.iaload, 1) := by decide +kernel
theorem d_M_ask_209 : decode b_M_ask 209 = .ok (.invokevirtual 146, 3) := by decide +kernel
theorem d_M_ask_212 : decode b_M_ask 212 = .ok (.ireturn, 1) := by decide +kernel
theorem d_M_ask_213 : decode b_M_ask 213 = .ok (.aload_n 0, 1) := by decide +kernel
theorem d_M_ask_214 : decode b_M_ask 214 = .ok (.getfield 69, 3) := by decide +kernel
theorem d_M_ask_217 : decode b_M_ask 217 = .ok (.aload_n 0, 1) := by decide +kernel
theorem d_M_ask_218 : decode b_M_ask 218 = .ok (.getfield 16, 3) := by decide +kernel
theorem d_M_ask_221 : decode b_M_ask 221 = .ok (.iload 4, 2) := by decide +kernel
theorem d_M_ask_223 : decode b_M_ask 223 = .ok (.iaload, 1) := by decide +kernel
theorem d_M_ask_224 : decode b_M_ask 224 = .ok (.iconst 1, 1) := by decide +kernel
theorem d_M_ask_225 : decode b_M_ask 225 = .ok (.iastore, 1) := by decide +kernel
theorem d_M_ask_226 : decode b_M_ask 226 = .ok (.aload_n 0, 1) := by decide +kernel
theorem d_M_ask_227 : decode b_M_ask 227 = .ok (.getfield 66, 3) := by decide +kernel
theorem d_M_ask_230 : decode b_M_ask 230 = .ok (.iload_n 2, 1) := by decide +kernel
theorem d_M_ask_231 : decode b_M_ask 231 = .ok (.aload_n 0, 1) := by decide +kernel
theorem d_M_ask_232 : decode b_M_ask 232 = .ok (.getfield 16, 3) := by decide +kernel
theorem d_M_ask_235 : decode b_M_ask 235 = .ok (.iload 4, 2) := by decide +kernel
theorem d_M_ask_237 : decode b_M_ask 237 = .ok (.iaload, 1) := by decide +kernel
theorem d_M_ask_238 : decode b_M_ask 238 = .ok (.iastore, 1) := by decide +kernel
theorem d_M_ask_239 : decode b_M_ask 239 = .ok (.iinc 2 1, 3) := by decide +kernel
theorem d_M_ask_242 : decode b_M_ask 242 = .ok (.goto (-168), 3) := by decide +kernel
theorem d_M_ask_245 : decode b_M_ask 245 = .ok (.iconst 0, 1) := by decide +kernel
theorem d_M_ask_246 : decode b_M_ask 246 = .ok (.ireturn, 1) := by decide +kernel
theorem d_M_ringOf_0 : decode b_M_ringOf 0 = .ok (.iconst 0, 1) := by decide +kernel
theorem d_M_ringOf_1 : decode b_M_ringOf 1 = .ok (.istore_n 3, 1) := by decide +kernel
theorem d_M_ringOf_2 : decode b_M_ringOf 2 = .ok (.aload_n 0, 1) := by decide +kernel
theorem d_M_ringOf_3 : decode b_M_ringOf 3 = .ok (.getfield 66, 3) := by decide +kernel
theorem d_M_ringOf_6 : decode b_M_ringOf 6 = .ok (.iload_n 3, 1) := by decide +kernel
theorem d_M_ringOf_7 : decode b_M_ringOf 7 = .ok (.iaload, 1) := by decide +kernel
theorem d_M_ringOf_8 : decode b_M_ringOf 8 = .ok (.iload_n 2, 1) := by decide +kernel
theorem d_M_ringOf_9 : decode b_M_ringOf 9 = .ok (.if_icmp .eq 9, 3) := by decide +kernel
theorem d_M_ringOf_12 : decode b_M_ringOf 12 = .ok (.iinc 3 1, 3) := by decide +kernel
theorem d_M_ringOf_15 : decode b_M_ringOf 15 = .ok (.goto (-13), 3) := by decide +kernel
theorem d_M_ringOf_18 : decode b_M_ringOf 18 = .ok (.aload_n 0, 1) := by decide +kernel
theorem d_M_ringOf_19 : decode b_M_ringOf 19 = .ok (.iload_n 1, 1) := by decide +kernel
theorem d_M_ringOf_20 : decode b_M_ringOf 20 = .ok (.iload_n 3, 1) := by decide +kernel
theorem d_M_ringOf_21 : decode b_M_ringOf 21 = .ok (.isub, 1) := by decide +kernel
theorem d_M_ringOf_22 : decode b_M_ringOf 22 = .ok (.putfield 143, 3) := by decide +kernel
theorem d_M_ringOf_25 : decode b_M_ringOf 25 = .ok (.iconst 0, 1) := by decide +kernel
theorem d_M_ringOf_26 : decode b_M_ringOf 26 = .ok (.istore 4, 2) := by decide +kernel
theorem d_M_ringOf_28 : decode b_M_ringOf 28 = .ok (.iload 4, 2) := by decide +kernel
theorem d_M_ringOf_30 : decode b_M_ringOf 30 = .ok (.aload_n 0, 1) := by decide +kernel
theorem d_M_ringOf_31 : decode b_M_ringOf 31 = .ok (.getfield 143, 3) := by decide +kernel
theorem d_M_ringOf_34 : decode b_M_ringOf 34 = .ok (.if_icmp .ge 25, 3) := by decide +kernel
theorem d_M_ringOf_37 : decode b_M_ringOf 37 = .ok (.aload_n 0, 1) := by decide +kernel
theorem d_M_ringOf_38 : decode b_M_ringOf 38 = .ok (.getfield 66, 3) := by decide +kernel
theorem d_M_ringOf_41 : decode b_M_ringOf 41 = .ok (.iload 4, 2) := by decide +kernel
theorem d_M_ringOf_43 : decode b_M_ringOf 43 = .ok (.aload_n 0, 1) := by decide +kernel
theorem d_M_ringOf_44 : decode b_M_ringOf 44 = .ok (.getfield 66, 3) := by decide +kernel
theorem d_M_ringOf_47 : decode b_M_ringOf 47 = .ok (.iload_n 3, 1) := by decide +kernel
theorem d_M_ringOf_48 : decode b_M_ringOf 48 = .ok (.iload 4, 2) := by decide +kernel
theorem d_M_ringOf_50 : decode b_M_ringOf 50 = .ok (.iadd, 1) := by decide +kernel
theorem d_M_ringOf_51 : decode b_M_ringOf 51 = .ok (.iaload, 1) := by decide +kernel
theorem d_M_ringOf_52 : decode b_M_ringOf 52 = .ok (.iastore, 1) := by decide +kernel
theorem d_M_ringOf_53 : decode b_M_ringOf 53 = .ok (.iinc 4 1, 3) := by decide +kernel
theorem d_M_ringOf_56 : decode b_M_ringOf 56 = .ok (.goto (-28), 3) := by decide +kernel
theorem d_M_ringOf_59 : decode b_M_ringOf 59 = .ok (.aload_n 0, 1) := by decide +kernel
theorem d_M_ringOf_60 : decode b_M_ringOf 60 = .ok (.getfield 143, 3) := by decide +kernel
theorem d_M_ringOf_63 : decode b_M_ringOf 63 = .ok (.ireturn, 1) := by decide +kernel
theorem d_M_met_0 : decode b_M_met 0 = .ok (.aload_n 0, 1) := by decide +kernel
theorem d_M_met_1 : decode b_M_met 1 = .ok (.iconst 0, 1) := by decide +kernel
theorem d_M_met_2 : decode b_M_met 2 = .ok (.putfield 75, 3) := by decide +kernel
theorem d_M_met_5 : decode b_M_met 5 = .ok (.iload_n 1, 1) := by decide +kernel
theorem d_M_met_6 : decode b_M_met 6 = .ok (.ifCond .lt 11, 3) := by decide +kernel
theorem d_M_met_9 : decode b_M_met 9 = .ok (.iload_n 1, 1) := by decide +kernel
theorem d_M_met_10 : decode b_M_met 10 = .ok (.aload_n 0, 1) := by decide +kernel
theorem d_M_met_11 : decode b_M_met 11 = .ok (.getfield 143, 3) := by decide +kernel
theorem d_M_met_14 : decode b_M_met 14 = .ok (.if_icmp .lt 7, 3) := by decide +kernel
theorem d_M_met_17 : decode b_M_met 17 = .ok (.iconst (-1), 1) := by decide +kernel
theorem d_M_met_18 : decode b_M_met 18 = .ok (.goto 9, 3) := by decide +kernel
theorem d_M_met_21 : decode b_M_met 21 = .ok (.aload_n 0, 1) := by decide +kernel
theorem d_M_met_22 : decode b_M_met 22 = .ok (.getfield 66, 3) := by decide +kernel
theorem d_M_met_25 : decode b_M_met 25 = .ok (.iload_n 1, 1) := by decide +kernel
theorem d_M_met_26 : decode b_M_met 26 = .ok (.iaload, 1) := by decide +kernel
theorem d_M_met_27 : decode b_M_met 27 = .ok (.ireturn, 1) := by decide +kernel
