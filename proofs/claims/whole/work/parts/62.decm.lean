theorem d_MO_init_0 : decode c_MO_init 0 = .ok (.aload_n 0, 1) := by decide +kernel
theorem d_MO_init_1 : decode c_MO_init 1 = .ok (.invokespecial 1, 3) := by decide +kernel
theorem d_MO_init_4 : decode c_MO_init 4 = .ok (.aload_n 0, 1) := by decide +kernel
theorem d_MO_init_5 : decode c_MO_init 5 = .ok (.sipush 1385, 3) := by decide +kernel
theorem d_MO_init_8 : decode c_MO_init 8 = .ok (.newarray .int, 2) := by decide +kernel
theorem d_MO_init_10 : decode c_MO_init 10 = .ok (.putfield 7, 3) := by decide +kernel
theorem d_MO_init_13 : decode c_MO_init 13 = .ok (.aload_n 0, 1) := by decide +kernel
theorem d_MO_init_14 : decode c_MO_init 14 = .ok (.sipush 1385, 3) := by decide +kernel
theorem d_MO_init_17 : decode c_MO_init 17 = .ok (.newarray .int, 2) := by decide +kernel
theorem d_MO_init_19 : decode c_MO_init 19 = .ok (.putfield 13, 3) := by decide +kernel
theorem d_MO_init_22 : decode c_MO_init 22 = .ok (.aload_n 0, 1) := by decide +kernel
theorem d_MO_init_23 : decode c_MO_init 23 = .ok (.sipush 5540, 3) := by decide +kernel
theorem d_MO_init_26 : decode c_MO_init 26 = .ok (.newarray .int, 2) := by decide +kernel
theorem d_MO_init_28 : decode c_MO_init 28 = .ok (.putfield 16, 3) := by decide +kernel
theorem d_MO_init_31 : decode c_MO_init 31 = .ok (.aload_n 0, 1) := by decide +kernel
theorem d_MO_init_32 : decode c_MO_init 32 = .ok (.bipush 60, 2) := by decide +kernel
theorem d_MO_init_34 : decode c_MO_init 34 = .ok (.newarray .int, 2) := by decide +kernel
theorem d_MO_init_36 : decode c_MO_init 36 = .ok (.putfield 19, 3) := by decide +kernel
theorem d_MO_init_39 : decode c_MO_init 39 = .ok (.aload_n 0, 1) := by decide +kernel
theorem d_MO_init_40 : decode c_MO_init 40 = .ok (.bipush 20, 2) := by decide +kernel
theorem d_MO_init_42 : decode c_MO_init 42 = .ok (.newarray .int, 2) := by decide +kernel
theorem d_MO_init_44 : decode c_MO_init 44 = .ok (.putfield 22, 3) := by decide +kernel
theorem d_MO_init_47 : decode c_MO_init 47 = .ok (.aload_n 0, 1) := by decide +kernel
theorem d_MO_init_48 : decode c_MO_init 48 = .ok (.bipush 20, 2) := by decide +kernel
theorem d_MO_init_50 : decode c_MO_init 50 = .ok (.newarray .int, 2) := by decide +kernel
theorem d_MO_init_52 : decode c_MO_init 52 = .ok (.putfield 25, 3) := by decide +kernel
theorem d_MO_init_55 : decode c_MO_init 55 = .ok (.aload_n 0, 1) := by decide +kernel
theorem d_MO_init_56 : decode c_MO_init 56 = .ok (.bipush 20, 2) := by decide +kernel
theorem d_MO_init_58 : decode c_MO_init 58 = .ok (.newarray .int, 2) := by decide +kernel
theorem d_MO_init_60 : decode c_MO_init 60 = .ok (.putfield 28, 3) := by decide +kernel
theorem d_MO_init_63 : decode c_MO_init 63 = .ok (.aload_n 0, 1) := by decide +kernel
theorem d_MO_init_64 : decode c_MO_init 64 = .ok (.bipush 20, 2) := by decide +kernel
theorem d_MO_init_66 : decode c_MO_init 66 = .ok (.newarray .int, 2) := by decide +kernel
theorem d_MO_init_68 : decode c_MO_init 68 = .ok (.putfield 31, 3) := by decide +kernel
theorem d_MO_init_71 : decode c_MO_init 71 = .ok (.aload_n 0, 1) := by decide +kernel
theorem d_MO_init_72 : decode c_MO_init 72 = .ok (.bipush 20, 2) := by decide +kernel
theorem d_MO_init_74 : decode c_MO_init 74 = .ok (.newarray .int, 2) := by decide +kernel
theorem d_MO_init_76 : decode c_MO_init 76 = .ok (.putfield 34, 3) := by decide +kernel
theorem d_MO_init_79 : decode c_MO_init 79 = .ok (.aload_n 0, 1) := by decide +kernel
theorem d_MO_init_80 : decode c_MO_init 80 = .ok (.bipush 20, 2) := by decide +kernel
theorem d_MO_init_82 : decode c_MO_init 82 = .ok (.newarray .int, 2) := by decide +kernel
theorem d_MO_init_84 : decode c_MO_init 84 = .ok (.putfield 37, 3) := by decide +kernel
theorem d_MO_init_87 : decode c_MO_init 87 = .ok (.aload_n 0, 1) := by decide +kernel
theorem d_MO_init_88 : decode c_MO_init 88 = .ok (.bipush 20, 2) := by decide +kernel
theorem d_MO_init_90 : decode c_MO_init 90 = .ok (.newarray .int, 2) := by decide +kernel
theorem d_MO_init_92 : decode c_MO_init 92 = .ok (.putfield 40, 3) := by decide +kernel
theorem d_MO_init_95 : decode c_MO_init 95 = .ok (.aload_n 0, 1) := by decide +kernel
theorem d_MO_init_96 : decode c_MO_init 96 = .ok (.bipush 20, 2) := by decide +kernel
theorem d_MO_init_98 : decode c_MO_init 98 = .ok (.newarray .int, 2) := by decide +kernel
theorem d_MO_init_100 : decode c_MO_init 100 = .ok (.putfield 43, 3) := by decide +kernel
theorem d_MO_init_103 : decode c_MO_init 103 = .ok (.aload_n 0, 1) := by decide +kernel
theorem d_MO_init_104 : decode c_MO_init 104 = .ok (.bipush 20, 2) := by decide +kernel
theorem d_MO_init_106 : decode c_MO_init 106 = .ok (.newarray .int, 2) := by decide +kernel
theorem d_MO_init_108 : decode c_MO_init 108 = .ok (.putfield 46, 3) := by decide +kernel
theorem d_MO_init_111 : decode c_MO_init 111 = .ok (.aload_n 0, 1) := by decide +kernel
theorem d_MO_init_112 : decode c_MO_init 112 = .ok (.bipush 20, 2) := by decide +kernel
theorem d_MO_init_114 : decode c_MO_init 114 = .ok (.newarray .int, 2) := by decide +kernel
theorem d_MO_init_116 : decode c_MO_init 116 = .ok (.putfield 49, 3) := by decide +kernel
theorem d_MO_init_119 : decode c_MO_init 119 = .ok (.aload_n 0, 1) := by decide +kernel
theorem d_MO_init_120 : decode c_MO_init 120 = .ok (.bipush 20, 2) := by decide +kernel
theorem d_MO_init_122 : decode c_MO_init 122 = .ok (.newarray .int, 2) := by decide +kernel
theorem d_MO_init_124 : decode c_MO_init 124 = .ok (.putfield 52, 3) := by decide +kernel
theorem d_MO_init_127 : decode c_MO_init 127 = .ok (.aload_n 0, 1) := by decide +kernel
theorem d_MO_init_128 : decode c_MO_init 128 = .ok (.bipush 36, 2) := by decide +kernel
theorem d_MO_init_130 : decode c_MO_init 130 = .ok (.newarray .int, 2) := by decide +kernel
theorem d_MO_init_132 : decode c_MO_init 132 = .ok (.putfield 55, 3) := by decide +kernel
theorem d_MO_init_135 : decode c_MO_init 135 = .ok (.aload_n 0, 1) := by decide +kernel
theorem d_MO_init_136 : decode c_MO_init 136 = .ok (.sipush 1200, 3) := by decide +kernel
theorem d_MO_init_139 : decode c_MO_init 139 = .ok (.newarray .int, 2) := by decide +kernel
theorem d_MO_init_141 : decode c_MO_init 141 = .ok (.putfield 58, 3) := by decide +kernel
theorem d_MO_init_144 : decode c_MO_init 144 = .ok (.aload_n 0, 1) := by decide +kernel
theorem d_MO_init_145 : decode c_MO_init 145 = .ok (.bipush 20, 2) := by decide +kernel
theorem d_MO_init_147 : decode c_MO_init 147 = .ok (.newarray .int, 2) := by decide +kernel
theorem d_MO_init_149 : decode c_MO_init 149 = .ok (.putfield 61, 3) := by decide +kernel
theorem d_MO_init_152 : decode c_MO_init 152 = .ok (.aload_n 0, 1) := by decide +kernel
theorem d_MO_init_153 : decode c_MO_init 153 = .ok (.bipush 61, 2) := by decide +kernel
theorem d_MO_init_155 : decode c_MO_init 155 = .ok (.newarray .int, 2) := by decide +kernel
theorem d_MO_init_157 : decode c_MO_init 157 = .ok (.putfield 64, 3) := by decide +kernel
theorem d_MO_init_160 : decode c_MO_init 160 = .ok (.aload_n 0, 1) := by decide +kernel
theorem d_MO_init_161 : decode c_MO_init 161 = .ok (.bipush 61, 2) := by decide +kernel
theorem d_MO_init_163 : decode c_MO_init 163 = .ok (.newarray .int, 2) := by decide +kernel
theorem d_MO_init_165 : decode c_MO_init 165 = .ok (.putfield 67, 3) := by decide +kernel
theorem d_MO_init_168 : decode c_MO_init 168 = .ok (.aload_n 0, 1) := by decide +kernel
theorem d_MO_init_169 : decode c_MO_init 169 = .ok (.getfield 7, 3) := by decide +kernel
theorem d_MO_init_172 : decode c_MO_init 172 = .ok (.iconst 2, 1) := by decide +kernel
theorem d_MO_init_173 : decode c_MO_init 173 = .ok (.iconst 3, 1) := by decide +kernel
theorem d_MO_init_174 : decode c_MO_init 174 = .ok (.iastore, 1) := by decide +kernel
theorem d_MO_init_175 : decode c_MO_init 175 = .ok (.aload_n 0, 1) := by decide +kernel
theorem d_MO_init_176 : decode c_MO_init 176 = .ok (.getfield 7, 3) := by decide +kernel
theorem d_MO_init_179 : decode c_MO_init 179 = .ok (.iconst 4, 1) := by decide +kernel
theorem d_MO_init_180 : decode c_MO_init 180 = .ok (.bipush 100, 2) := by decide +kernel
theorem d_MO_init_182 : decode c_MO_init 182 = .ok (.iastore, 1) := by decide +kernel
theorem d_MO_init_183 : decode c_MO_init 183 = .ok (.aload_n 0, 1) := by decide +kernel
theorem d_MO_init_184 : decode c_MO_init 184 = .ok (.getfield 7, 3) := by decide +kernel
theorem d_MO_init_187 : decode c_MO_init 187 = .ok (.iconst 5, 1) := by decide +kernel
theorem d_MO_init_188 : decode c_MO_init 188 = .ok (.bipush 50, 2) := by decide +kernel
theorem d_MO_init_190 : decode c_MO_init 190 = .ok (.iastore, 1) := by decide +kernel
theorem d_MO_init_191 : decode c_MO_init 191 = .ok (.aload_n 0, 1) := by decide +kernel
theorem d_MO_init_192 : decode c_MO_init 192 = .ok (.getfield 7, 3) := by decide +kernel
theorem d_MO_init_195 : decode c_MO_init 195 = .ok (.bipush 6, 2) := by decide +kernel
theorem d_MO_init_197 : decode c_MO_init 197 = .ok (.bipush 20, 2) := by decide +kernel
theorem d_MO_init_199 : decode c_MO_init 199 = .ok (.iastore, 1) := by decide +kernel
theorem d_MO_init_200 : decode c_MO_init 200 = .ok (.aload_n 0, 1) := by decide +kernel
theorem d_MO_init_201 : decode c_MO_init 201 = .ok (.getfield 7, 3) := by decide +kernel
theorem d_MO_init_204 : decode c_MO_init 204 = .ok (.bipush 7, 2) := by decide +kernel
theorem d_MO_init_206 : decode c_MO_init 206 = .ok (.bipush 10, 2) := by decide +kernel
theorem d_MO_init_208 : decode c_MO_init 208 = .ok (.iastore, 1) := by decide +kernel
theorem d_MO_init_209 : decode c_MO_init 209 = .ok (.aload_n 0, 1) := by decide +kernel
theorem d_MO_init_210 : decode c_MO_init 210 = .ok (.getfield 7, 3) := by decide +kernel
theorem d_MO_init_213 : decode c_MO_init 213 = .ok (.bipush 8, 2) := by decide +kernel
theorem d_MO_init_215 : decode c_MO_init 215 = .ok (.iconst 5, 1) := by decide +kernel
theorem d_MO_init_216 : decode c_MO_init 216 = .ok (.iastore, 1) := by decide +kernel
theorem d_MO_init_217 : decode c_MO_init 217 = .ok (.return_, 1) := by decide +kernel
theorem d_MO_in_0 : decode c_MO_in 0 = .ok (.iload_n 0, 1) := by decide +kernel
theorem d_MO_in_1 : decode c_MO_in 1 = .ok (.iload_n 1, 1) := by decide +kernel
theorem d_MO_in_2 : decode c_MO_in 2 = .ok (.if_icmp .lt 12, 3) := by decide +kernel
theorem d_MO_in_5 : decode c_MO_in 5 = .ok (.iload_n 0, 1) := by decide +kernel
theorem d_MO_in_6 : decode c_MO_in 6 = .ok (.iload_n 2, 1) := by decide +kernel
theorem d_MO_in_7 : decode c_MO_in 7 = .ok (.if_icmp .gt 7, 3) := by decide +kernel
theorem d_MO_in_10 : decode c_MO_in 10 = .ok (.iconst 1, 1) := by decide +kernel
theorem d_MO_in_11 : decode c_MO_in 11 = .ok (.goto 4, 3) := by decide +kernel
theorem d_MO_in_14 : decode c_MO_in 14 = .ok (.iconst 0, 1) := by decide +kernel
theorem d_MO_in_15 : decode c_MO_in 15 = .ok (.ireturn, 1) := by decide +kernel
theorem d_MO_record_0 : decode c_MO_record 0 = .ok (.aload_n 0, 1) := by decide +kernel
theorem d_MO_record_1 : decode c_MO_record 1 = .ok (.getfield 70, 3) := by decide +kernel
theorem d_MO_record_4 : decode c_MO_record 4 = .ok (.iconst 4, 1) := by decide +kernel
theorem d_MO_record_5 : decode c_MO_record 5 = .ok (.if_icmp .ne 44, 3) := by decide +kernel
theorem d_MO_record_8 : decode c_MO_record 8 = .ok (.iconst 0, 1) := by decide +kernel
theorem d_MO_record_9 : decode c_MO_record 9 = .ok (.istore_n 1, 1) := by decide +kernel
theorem d_MO_record_10 : decode c_MO_record 10 = .ok (.iload_n 1, 1) := by decide +kernel
theorem d_MO_record_11 : decode c_MO_record 11 = .ok (.sipush 4155, 3) := by decide +kernel
theorem d_MO_record_14 : decode c_MO_record 14 = .ok (.if_icmp .ge 25, 3) := by decide +kernel
theorem d_MO_record_17 : decode c_MO_record 17 = .ok (.aload_n 0, 1) := by decide +kernel
theorem d_MO_record_18 : decode c_MO_record 18 = .ok (.getfield 16, 3) := by decide +kernel
theorem d_MO_record_21 : decode c_MO_record 21 = .ok (.iload_n 1, 1) := by decide +kernel
theorem d_MO_record_22 : decode c_MO_record 22 = .ok (.aload_n 0, 1) := by decide +kernel
theorem d_MO_record_23 : decode c_MO_record 23 = .ok (.getfield 16, 3) := by decide +kernel
theorem d_MO_record_26 : decode c_MO_record 26 = .ok (.iload_n 1, 1) := by decide +kernel
theorem d_MO_record_27 : decode c_MO_record 27 = .ok (.sipush 1385, 3) := by decide +kernel
theorem d_MO_record_30 : decode c_MO_record 30 = .ok (.iadd, 1) := by decide +kernel
theorem d_MO_record_31 : decode c_MO_record 31 = .ok (.iaload, 1) := by decide +kernel
theorem d_MO_record_32 : decode c_MO_record 32 = .ok (.iastore, 1) := by decide +kernel
theorem d_MO_record_33 : decode c_MO_record 33 = .ok (.iinc 1 1, 3) := by decide +kernel
theorem d_MO_record_36 : decode c_MO_record 36 = .ok (.goto (-26), 3) := by decide +kernel
theorem d_MO_record_39 : decode c_MO_record 39 = .ok (.aload_n 0, 1) := by decide +kernel
theorem d_MO_record_40 : decode c_MO_record 40 = .ok (.dup, 1) := by decide +kernel
theorem d_MO_record_41 : decode c_MO_record 41 = .ok (.getfield 70, 3) := by decide +kernel
theorem d_MO_record_44 : decode c_MO_record 44 = .ok (.iconst 1, 1) := by decide +kernel
theorem d_MO_record_45 : decode c_MO_record 45 = .ok (.isub, 1) := by decide +kernel
theorem d_MO_record_46 : decode c_MO_record 46 = .ok (.putfield 70, 3) := by decide +kernel
theorem d_MO_record_49 : decode c_MO_record 49 = .ok (.iconst 0, 1) := by decide +kernel
theorem d_MO_record_50 : decode c_MO_record 50 = .ok (.istore_n 1, 1) := by decide +kernel
theorem d_MO_record_51 : decode c_MO_record 51 = .ok (.iload_n 1, 1) := by decide +kernel
theorem d_MO_record_52 : decode c_MO_record 52 = .ok (.sipush 1385, 3) := by decide +kernel
theorem d_MO_record_55 : decode c_MO_record 55 = .ok (.if_icmp .ge 30, 3) := by decide +kernel
theorem d_MO_record_58 : decode c_MO_record 58 = .ok (.aload_n 0, 1) := by decide +kernel
theorem d_MO_record_59 : decode c_MO_record 59 = .ok (.getfield 16, 3) := by decide +kernel
theorem d_MO_record_62 : decode c_MO_record 62 = .ok (.sipush 1385, 3) := by decide +kernel
theorem d_MO_record_65 : decode c_MO_record 65 = .ok (.aload_n 0, 1) := by decide +kernel
theorem d_MO_record_66 : decode c_MO_record 66 = .ok (.getfield 70, 3) := by decide +kernel
theorem d_MO_record_69 : decode c_MO_record 69 = .ok (.imul, 1) := by decide +kernel
theorem d_MO_record_70 : decode c_MO_record 70 = .ok (.iload_n 1, 1) := by decide +kernel
theorem d_MO_record_71 : decode c_MO_record 71 = .ok (.iadd, 1) := by decide +kernel
theorem d_MO_record_72 : decode c_MO_record 72 = .ok (.aload_n 0, 1) := by decide +kernel
theorem d_MO_record_73 : decode c_MO_record 73 = .ok (.getfield 7, 3) := by decide +kernel
theorem d_MO_record_76 : decode c_MO_record 76 = .ok (.iload_n 1, 1) := by decide +kernel
theorem d_MO_record_77 : decode c_MO_record 77 = .ok (.iaload, 1) := by decide +kernel
theorem d_MO_record_78 : decode c_MO_record 78 = .ok (.iastore, 1) := by decide +kernel
theorem d_MO_record_79 : decode c_MO_record 79 = .ok (.iinc 1 1, 3) := by decide +kernel
theorem d_MO_record_82 : decode c_MO_record 82 = .ok (.goto (-31), 3) := by decide +kernel
theorem d_MO_record_85 : decode c_MO_record 85 = .ok (.aload_n 0, 1) := by decide +kernel
theorem d_MO_record_86 : decode c_MO_record 86 = .ok (.dup, 1) := by decide +kernel
theorem d_MO_record_87 : decode c_MO_record 87 = .ok (.getfield 70, 3) := by decide +kernel
theorem d_MO_record_90 : decode c_MO_record 90 = .ok (.iconst 1, 1) := by decide +kernel
theorem d_MO_record_91 : decode c_MO_record 91 = .ok (.iadd, 1) := by decide +kernel
theorem d_MO_record_92 : decode c_MO_record 92 = .ok (.putfield 70, 3) := by decide +kernel
theorem d_MO_record_95 : decode c_MO_record 95 = .ok (.return_, 1) := by decide +kernel
theorem d_MO_is_0 : decode c_MO_is 0 = .ok (.iload_n 1, 1) := by decide +kernel
theorem d_MO_is_1 : decode c_MO_is 1 = .ok (.iconst 0, 1) := by decide +kernel
theorem d_MO_is_2 : decode c_MO_is 2 = .ok (.aload_n 0, 1) := by decide +kernel
theorem d_MO_is_3 : decode c_MO_is 3 = .ok (.getfield 7, 3) := by decide +kernel
theorem d_MO_is_6 : decode c_MO_is 6 = .ok (.iconst 0, 1) := by decide +kernel
theorem d_MO_is_7 : decode c_MO_is 7 = .ok (.iaload, 1) := by decide +kernel
theorem d_MO_is_8 : decode c_MO_is 8 = .ok (.iconst 1, 1) := by decide +kernel
theorem d_MO_is_9 : decode c_MO_is 9 = .ok (.isub, 1) := by decide +kernel
theorem d_MO_is_10 : decode c_MO_is 10 = .ok (.invokestatic 74, 3) := by decide +kernel
theorem d_MO_is_13 : decode c_MO_is 13 = .ok (.ifCond .eq 20, 3) := by decide +kernel
theorem d_MO_is_16 : decode c_MO_is 16 = .ok (.aload_n 0, 1) := by decide +kernel
theorem d_MO_is_17 : decode c_MO_is 17 = .ok (.getfield 7, 3) := by decide +kernel
theorem d_MO_is_20 : decode c_MO_is 20 = .ok (.bipush 29, 2) := by decide +kernel
theorem d_MO_is_22 : decode c_MO_is 22 = .ok (.iload_n 1, 1) := by decide +kernel
theorem d_MO_is_23 : decode c_MO_is 23 = .ok (.iadd, 1) := by decide +kernel
theorem d_MO_is_24 : decode c_MO_is 24 = .ok (.iaload, 1) := by decide +kernel
theorem d_MO_is_25 : decode c_MO_is 25 = .ok (.iconst 1, 1) := by decide +kernel
theorem d_MO_is_26 : decode c_MO_is 26 = .ok (.if_icmp .ne 7, 3) := by decide +kernel
theorem d_MO_is_29 : decode c_MO_is 29 = .ok (.iconst 1, 1) := by decide +kernel
theorem d_MO_is_30 : decode c_MO_is 30 = .ok (.goto 4, 3) := by decide +kernel
theorem d_MO_is_33 : decode c_MO_is 33 = .ok (.iconst 0, 1) := by decide +kernel
theorem d_MO_is_34 : decode c_MO_is 34 = .ok (.ireturn, 1) := by decide +kernel
theorem d_MO_there_0 : decode c_MO_there 0 = .ok (.iconst 0, 1) := by decide +kernel
theorem d_MO_there_1 : decode c_MO_there 1 = .ok (.istore_n 1, 1) := by decide +kernel
theorem d_MO_there_2 : decode c_MO_there 2 = .ok (.iconst 0, 1) := by decide +kernel
theorem d_MO_there_3 : decode c_MO_there 3 = .ok (.istore_n 2, 1) := by decide +kernel
theorem d_MO_there_4 : decode c_MO_there 4 = .ok (.iload_n 2, 1) := by decide +kernel
theorem d_MO_there_5 : decode c_MO_there 5 = .ok (.aload_n 0, 1) := by decide +kernel
theorem d_MO_there_6 : decode c_MO_there 6 = .ok (.getfield 7, 3) := by decide +kernel
theorem d_MO_there_9 : decode c_MO_there 9 = .ok (.iconst 0, 1) := by decide +kernel
theorem d_MO_there_10 : decode c_MO_there 10 = .ok (.iaload, 1) := by decide +kernel
theorem d_MO_there_11 : decode c_MO_there 11 = .ok (.if_icmp .ge 21, 3) := by decide +kernel
theorem d_MO_there_14 : decode c_MO_there 14 = .ok (.iload_n 1, 1) := by decide +kernel
theorem d_MO_there_15 : decode c_MO_there 15 = .ok (.aload_n 0, 1) := by decide +kernel
theorem d_MO_there_16 : decode c_MO_there 16 = .ok (.getfield 7, 3) := by decide +kernel
theorem d_MO_there_19 : decode c_MO_there 19 = .ok (.bipush 29, 2) := by decide +kernel
theorem d_MO_there_21 : decode c_MO_there 21 = .ok (.iload_n 2, 1) := by decide +kernel
theorem d_MO_there_22 : decode c_MO_there 22 = .ok (.iadd, 1) := by decide +kernel
theorem d_MO_there_23 : decode c_MO_there 23 = .ok (.iaload, 1) := by decide +kernel
theorem d_MO_there_24 : decode c_MO_there 24 = .ok (.iadd, 1) := by decide +kernel
theorem d_MO_there_25 : decode c_MO_there 25 = .ok (.istore_n 1, 1) := by decide +kernel
theorem d_MO_there_26 : decode c_MO_there 26 = .ok (.iinc 2 1, 3) := by decide +kernel
theorem d_MO_there_29 : decode c_MO_there 29 = .ok (.goto (-25), 3) := by decide +kernel
theorem d_MO_there_32 : decode c_MO_there 32 = .ok (.iload_n 1, 1) := by decide +kernel
theorem d_MO_there_33 : decode c_MO_there 33 = .ok (.ireturn, 1) := by decide +kernel
theorem d_MO_isLetter_0 : decode c_MO_isLetter 0 = .ok (.iload_n 0, 1) := by decide +kernel
theorem d_MO_isLetter_1 : decode c_MO_isLetter 1 = .ok (.bipush 97, 2) := by decide +kernel
theorem d_MO_isLetter_3 : decode c_MO_isLetter 3 = .ok (.bipush 122, 2) := by decide +kernel
theorem d_MO_isLetter_5 : decode c_MO_isLetter 5 = .ok (.invokestatic 74, 3) := by decide +kernel
theorem d_MO_isLetter_8 : decode c_MO_isLetter 8 = .ok (.ifCond .ne 14, 3) := by decide +kernel
theorem d_MO_isLetter_11 : decode c_MO_isLetter 11 = .ok (.iload_n 0, 1) := by decide +kernel
theorem d_MO_isLetter_12 : decode c_MO_isLetter 12 = .ok (.bipush 65, 2) := by decide +kernel
theorem d_MO_isLetter_14 : decode c_MO_isLetter 14 = .ok (.bipush 90, 2) := by decide +kernel
theorem d_MO_isLetter_16 : decode c_MO_isLetter 16 = .ok (.invokestatic 74, 3) := by decide +kernel
theorem d_MO_isLetter_19 : decode c_MO_isLetter 19 = .ok (.ifCond .eq 7, 3) := by decide +kernel
theorem d_MO_isLetter_22 : decode c_MO_isLetter 22 = .ok (.iconst 1, 1) := by decide +kernel
theorem d_MO_isLetter_23 : decode c_MO_isLetter 23 = .ok (.goto 4, 3) := by decide +kernel
theorem d_MO_isLetter_26 : decode c_MO_isLetter 26 = .ok (.iconst 0, 1) := by decide +kernel
theorem d_MO_isLetter_27 : decode c_MO_isLetter 27 = .ok (.ireturn, 1) := by decide +kernel
theorem d_MO_small_0 : decode c_MO_small 0 = .ok (.iload_n 0, 1) := by decide +kernel
theorem d_MO_small_1 : decode c_MO_small 1 = .ok (.bipush 65, 2) := by decide +kernel
theorem d_MO_small_3 : decode c_MO_small 3 = .ok (.bipush 90, 2) := by decide +kernel
theorem d_MO_small_5 : decode c_MO_small 5 = .ok (.invokestatic 74, 3) := by decide +kernel
theorem d_MO_small_8 : decode c_MO_small 8 = .ok (.ifCond .eq 13, 3) := by decide +kernel
theorem d_MO_small_11 : decode c_MO_small 11 = .ok (.iload_n 0, 1) := by decide +kernel
theorem d_MO_small_12 : decode c_MO_small 12 = .ok (.bipush 65, 2) := by decide +kernel
theorem d_MO_small_14 : decode c_MO_small 14 = .ok (.isub, 1) := by decide +kernel
theorem d_MO_small_15 : decode c_MO_small 15 = .ok (.bipush 97, 2) := by decide +kernel
theorem d_MO_small_17 : decode c_MO_small 17 = .ok (.iadd, 1) := by decide +kernel
theorem d_MO_small_18 : decode c_MO_small 18 = .ok (.goto 4, 3) := by decide +kernel
theorem d_MO_small_21 : decode c_MO_small 21 = .ok (.iload_n 0, 1) := by decide +kernel
theorem d_MO_small_22 : decode c_MO_small 22 = .ok (.ireturn, 1) := by decide +kernel
theorem d_MO_isSign_0 : decode c_MO_isSign 0 = .ok (.iload_n 0, 1) := by decide +kernel
theorem d_MO_isSign_1 : decode c_MO_isSign 1 = .ok (.invokestatic 78, 3) := by decide +kernel
theorem d_MO_isSign_4 : decode c_MO_isSign 4 = .ok (.ifCond .ne 45, 3) := by decide +kernel
theorem d_MO_isSign_7 : decode c_MO_isSign 7 = .ok (.iload_n 0, 1) := by decide +kernel
theorem d_MO_isSign_8 : decode c_MO_isSign 8 = .ok (.bipush 32, 2) := by decide +kernel
theorem d_MO_isSign_10 : decode c_MO_isSign 10 = .ok (.if_icmp .eq 39, 3) := by decide +kernel
theorem d_MO_isSign_13 : decode c_MO_isSign 13 = .ok (.iload_n 0, 1) := by decide +kernel
theorem d_MO_isSign_14 : decode c_MO_isSign 14 = .ok (.bipush 46, 2) := by decide +kernel
theorem d_MO_isSign_16 : decode c_MO_isSign 16 = .ok (.if_icmp .eq 33, 3) := by decide +kernel
theorem d_MO_isSign_19 : decode c_MO_isSign 19 = .ok (.iload_n 0, 1) := by decide +kernel
theorem d_MO_isSign_20 : decode c_MO_isSign 20 = .ok (.bipush 44, 2) := by decide +kernel
theorem d_MO_isSign_22 : decode c_MO_isSign 22 = .ok (.if_icmp .eq 27, 3) := by decide +kernel
theorem d_MO_isSign_25 : decode c_MO_isSign 25 = .ok (.iload_n 0, 1) := by decide +kernel
theorem d_MO_isSign_26 : decode c_MO_isSign 26 = .ok (.bipush 33, 2) := by decide +kernel
theorem d_MO_isSign_28 : decode c_MO_isSign 28 = .ok (.if_icmp .eq 21, 3) := by decide +kernel
theorem d_MO_isSign_31 : decode c_MO_isSign 31 = .ok (.iload_n 0, 1) := by decide +kernel
theorem d_MO_isSign_32 : decode c_MO_isSign 32 = .ok (.bipush 63, 2) := by decide +kernel
theorem d_MO_isSign_34 : decode c_MO_isSign 34 = .ok (.if_icmp .eq 15, 3) := by decide +kernel
theorem d_MO_isSign_37 : decode c_MO_isSign 37 = .ok (.iload_n 0, 1) := by decide +kernel
theorem d_MO_isSign_38 : decode c_MO_isSign 38 = .ok (.bipush 39, 2) := by decide +kernel
theorem d_MO_isSign_40 : decode c_MO_isSign 40 = .ok (.if_icmp .eq 9, 3) := by decide +kernel
theorem d_MO_isSign_43 : decode c_MO_isSign 43 = .ok (.iload_n 0, 1) := by decide +kernel
theorem d_MO_isSign_44 : decode c_MO_isSign 44 = .ok (.bipush 45, 2) := by decide +kernel
theorem d_MO_isSign_46 : decode c_MO_isSign 46 = .ok (.if_icmp .ne 7, 3) := by decide +kernel
theorem d_MO_isSign_49 : decode c_MO_isSign 49 = .ok (.iconst 1, 1) := by decide +kernel
theorem d_MO_isSign_50 : decode c_MO_isSign 50 = .ok (.goto 4, 3) := by decide +kernel
theorem d_MO_isSign_53 : decode c_MO_isSign 53 = .ok (.iconst 0, 1) := by decide +kernel
theorem d_MO_isSign_54 : decode c_MO_isSign 54 = .ok (.ireturn, 1) := by decide +kernel
theorem d_MO_sign_0 : decode c_MO_sign 0 = .ok (.aload_n 0, 1) := by decide +kernel
theorem d_MO_sign_1 : decode c_MO_sign 1 = .ok (.getfield 7, 3) := by decide +kernel
theorem d_MO_sign_4 : decode c_MO_sign 4 = .ok (.bipush 89, 2) := by decide +kernel
theorem d_MO_sign_6 : decode c_MO_sign 6 = .ok (.bipush 60, 2) := by decide +kernel
theorem d_MO_sign_8 : decode c_MO_sign 8 = .ok (.iload_n 1, 1) := by decide +kernel
theorem d_MO_sign_9 : decode c_MO_sign 9 = .ok (.imul, 1) := by decide +kernel
theorem d_MO_sign_10 : decode c_MO_sign 10 = .ok (.iadd, 1) := by decide +kernel
theorem d_MO_sign_11 : decode c_MO_sign 11 = .ok (.iload_n 2, 1) := by decide +kernel
theorem d_MO_sign_12 : decode c_MO_sign 12 = .ok (.iadd, 1) := by decide +kernel
theorem d_MO_sign_13 : decode c_MO_sign 13 = .ok (.iaload, 1) := by decide +kernel
theorem d_MO_sign_14 : decode c_MO_sign 14 = .ok (.ireturn, 1) := by decide +kernel
theorem d_MO_takesCores_0 : decode c_MO_takesCores 0 = .ok (.iconst 0, 1) := by decide +kernel
theorem d_MO_takesCores_1 : decode c_MO_takesCores 1 = .ok (.istore_n 1, 1) := by decide +kernel
theorem d_MO_takesCores_2 : decode c_MO_takesCores 2 = .ok (.iload_n 1, 1) := by decide +kernel
theorem d_MO_takesCores_3 : decode c_MO_takesCores 3 = .ok (.aload_n 0, 1) := by decide +kernel
theorem d_MO_takesCores_4 : decode c_MO_takesCores 4 = .ok (.getfield 7, 3) := by decide +kernel
theorem d_MO_takesCores_7 : decode c_MO_takesCores 7 = .ok (.iconst 0, 1) := by decide +kernel
theorem d_MO_takesCores_8 : decode c_MO_takesCores 8 = .ok (.iaload, 1) := by decide +kernel
theorem d_MO_takesCores_9 : decode c_MO_takesCores 9 = .ok (.if_icmp .ge 74, 3) := by decide +kernel
theorem d_MO_takesCores_12 : decode c_MO_takesCores 12 = .ok (.iconst 0, 1) := by decide +kernel
theorem d_MO_takesCores_13 : decode c_MO_takesCores 13 = .ok (.istore_n 2, 1) := by decide +kernel
theorem d_MO_takesCores_14 : decode c_MO_takesCores 14 = .ok (.iconst 0, 1) := by decide +kernel
theorem d_MO_takesCores_15 : decode c_MO_takesCores 15 = .ok (.istore_n 3, 1) := by decide +kernel
theorem d_MO_takesCores_16 : decode c_MO_takesCores 16 = .ok (.iload_n 3, 1) := by decide +kernel
theorem d_MO_takesCores_17 : decode c_MO_takesCores 17 = .ok (.aload_n 0, 1) := by decide +kernel
theorem d_MO_takesCores_18 : decode c_MO_takesCores 18 = .ok (.getfield 7, 3) := by decide +kernel
theorem d_MO_takesCores_21 : decode c_MO_takesCores 21 = .ok (.bipush 69, 2) := by decide +kernel
theorem d_MO_takesCores_23 : decode c_MO_takesCores 23 = .ok (.iload_n 1, 1) := by decide +kernel
theorem d_MO_takesCores_24 : decode c_MO_takesCores 24 = .ok (.iadd, 1) := by decide +kernel
theorem d_MO_takesCores_25 : decode c_MO_takesCores 25 = .ok (.iaload, 1) := by decide +kernel
theorem d_MO_takesCores_26 : decode c_MO_takesCores 26 = .ok (.if_icmp .ge 44, 3) := by decide +kernel
theorem d_MO_takesCores_29 : decode c_MO_takesCores 29 = .ok (.aload_n 0, 1) := by decide +kernel
theorem d_MO_takesCores_30 : decode c_MO_takesCores 30 = .ok (.iload_n 1, 1) := by decide +kernel
theorem d_MO_takesCores_31 : decode c_MO_takesCores 31 = .ok (.iload_n 3, 1) := by decide +kernel
theorem d_MO_takesCores_32 : decode c_MO_takesCores 32 = .ok (.invokevirtual 82, 3) := by decide +kernel
theorem d_MO_takesCores_35 : decode c_MO_takesCores 35 = .ok (.invokestatic 78, 3) := by decide +kernel
theorem d_MO_takesCores_38 : decode c_MO_takesCores 38 = .ok (.ifCond .eq 26, 3) := by decide +kernel
theorem d_MO_takesCores_41 : decode c_MO_takesCores 41 = .ok (.aload_n 0, 1) := by decide +kernel
theorem d_MO_takesCores_42 : decode c_MO_takesCores 42 = .ok (.getfield 58, 3) := by decide +kernel
theorem d_MO_takesCores_45 : decode c_MO_takesCores 45 = .ok (.bipush 60, 2) := by decide +kernel
theorem d_MO_takesCores_47 : decode c_MO_takesCores 47 = .ok (.iload_n 1, 1) := by decide +kernel
theorem d_MO_takesCores_48 : decode c_MO_takesCores 48 = .ok (.imul, 1) := by decide +kernel
theorem d_MO_takesCores_49 : decode c_MO_takesCores 49 = .ok (.iload_n 2, 1) := by decide +kernel
theorem d_MO_takesCores_50 : decode c_MO_takesCores 50 = .ok (.iadd, 1) := by decide +kernel
theorem d_MO_takesCores_51 : decode c_MO_takesCores 51 = .ok (.aload_n 0, 1) := by decide +kernel
theorem d_MO_takesCores_52 : decode c_MO_takesCores 52 = .ok (.iload_n 1, 1) := by decide +kernel
theorem d_MO_takesCores_53 : decode c_MO_takesCores 53 = .ok (.iload_n 3, 1) := by decide +kernel
theorem d_MO_takesCores_54 : decode c_MO_takesCores 54 = .ok (.invokevirtual 82, 3) := by decide +kernel
theorem d_MO_takesCores_57 : decode c_MO_takesCores 57 = .ok (.invokestatic 86, 3) := by decide +kernel
theorem d_MO_takesCores_60 : decode c_MO_takesCores 60 = .ok (.iastore, 1) := by decide +kernel
theorem d_MO_takesCores_61 : decode c_MO_takesCores 61 = .ok (.iinc 2 1, 3) := by decide +kernel
theorem d_MO_takesCores_64 : decode c_MO_takesCores 64 = .ok (.iinc 3 1, 3) := by decide +kernel
theorem d_MO_takesCores_67 : decode c_MO_takesCores 67 = .ok (.goto (-51), 3) := by decide +kernel
theorem d_MO_takesCores_70 : decode c_MO_takesCores 70 = .ok (.aload_n 0, 1) := by decide +kernel
theorem d_MO_takesCores_71 : decode c_MO_takesCores 71 = .ok (.getfield 61, 3) := by decide +kernel
theorem d_MO_takesCores_74 : decode c_MO_takesCores 74 = .ok (.iload_n 1, 1) := by decide +kernel
theorem d_MO_takesCores_75 : decode c_MO_takesCores 75 = .ok (.iload_n 2, 1) := by decide +kernel
theorem d_MO_takesCores_76 : decode c_MO_takesCores 76 = .ok (.iastore, 1) := by decide +kernel
theorem d_MO_takesCores_77 : decode c_MO_takesCores 77 = .ok (.iinc 1 1, 3) := by decide +kernel
theorem d_MO_takesCores_80 : decode c_MO_takesCores 80 = .ok (.goto (-78), 3) := by decide +kernel
theorem d_MO_takesCores_83 : decode c_MO_takesCores 83 = .ok (.return_, 1) := by decide +kernel
theorem d_MO_isAlike_0 : decode c_MO_isAlike 0 = .ok (.aload_n 0, 1) := by decide +kernel
theorem d_MO_isAlike_1 : decode c_MO_isAlike 1 = .ok (.getfield 61, 3) := by decide +kernel
theorem d_MO_isAlike_4 : decode c_MO_isAlike 4 = .ok (.iload_n 1, 1) := by decide +kernel
theorem d_MO_isAlike_5 : decode c_MO_isAlike 5 = .ok (.iaload, 1) := by decide +kernel
theorem d_MO_isAlike_6 : decode c_MO_isAlike 6 = .ok (.istore_n 3, 1) := by decide +kernel
theorem d_MO_isAlike_7 : decode c_MO_isAlike 7 = .ok (.iload_n 3, 1) := by decide +kernel
theorem d_MO_isAlike_8 : decode c_MO_isAlike 8 = .ok (.aload_n 0, 1) := by decide +kernel
theorem d_MO_isAlike_9 : decode c_MO_isAlike 9 = .ok (.getfield 61, 3) := by decide +kernel
theorem d_MO_isAlike_12 : decode c_MO_isAlike 12 = .ok (.iload_n 2, 1) := by decide +kernel
theorem d_MO_isAlike_13 : decode c_MO_isAlike 13 = .ok (.iaload, 1) := by decide +kernel
theorem d_MO_isAlike_14 : decode c_MO_isAlike 14 = .ok (.if_icmp .ne 7, 3) := by decide +kernel
theorem d_MO_isAlike_17 : decode c_MO_isAlike 17 = .ok (.iconst 1, 1) := by decide +kernel
theorem d_MO_isAlike_18 : decode c_MO_isAlike 18 = .ok (.goto 4, 3) := by decide +kernel
theorem d_MO_isAlike_21 : decode c_MO_isAlike 21 = .ok (.iconst 0, 1) := by decide +kernel
theorem d_MO_isAlike_22 : decode c_MO_isAlike 22 = .ok (.istore 4, 2) := by decide +kernel
theorem d_MO_isAlike_24 : decode c_MO_isAlike 24 = .ok (.iconst 0, 1) := by decide +kernel
theorem d_MO_isAlike_25 : decode c_MO_isAlike 25 = .ok (.istore 5, 2) := by decide +kernel
theorem d_MO_isAlike_27 : decode c_MO_isAlike 27 = .ok (.iload 5, 2) := by decide +kernel
theorem d_MO_isAlike_29 : decode c_MO_isAlike 29 = .ok (.iload_n 3, 1) := by decide +kernel
theorem d_MO_isAlike_30 : decode c_MO_isAlike 30 = .ok (.if_icmp .ge 48, 3) := by decide +kernel
theorem d_MO_isAlike_33 : decode c_MO_isAlike 33 = .ok (.iload 4, 2) := by decide +kernel
theorem d_MO_isAlike_35 : decode c_MO_isAlike 35 = .ok (.ifCond .eq 43, 3) := by decide +kernel
theorem d_MO_isAlike_38 : decode c_MO_isAlike 38 = .ok (.aload_n 0, 1) := by decide +kernel
theorem d_MO_isAlike_39 : decode c_MO_isAlike 39 = .ok (.getfield 58, 3) := by decide +kernel
theorem d_MO_isAlike_42 : decode c_MO_isAlike 42 = .ok (.bipush 60, 2) := by decide +kernel
theorem d_MO_isAlike_44 : decode c_MO_isAlike 44 = .ok (.iload_n 1, 1) := by decide +kernel
theorem d_MO_isAlike_45 : decode c_MO_isAlike 45 = .ok (.imul, 1) := by decide +kernel
theorem d_MO_isAlike_46 : decode c_MO_isAlike 46 = .ok (.iload 5, 2) := by decide +kernel
theorem d_MO_isAlike_48 : decode c_MO_isAlike 48 = .ok (.iadd, 1) := by decide +kernel
theorem d_MO_isAlike_49 : decode c_MO_isAlike 49 = .ok (.iaload, 1) := by decide +kernel
theorem d_MO_isAlike_50 : decode c_MO_isAlike 50 = .ok (.aload_n 0, 1) := by decide +kernel
theorem d_MO_isAlike_51 : decode c_MO_isAlike 51 = .ok (.getfield 58, 3) := by decide +kernel
theorem d_MO_isAlike_54 : decode c_MO_isAlike 54 = .ok (.bipush 60, 2) := by decide +kernel
theorem d_MO_isAlike_56 : decode c_MO_isAlike 56 = .ok (.iload_n 2, 1) := by decide +kernel
theorem d_MO_isAlike_57 : decode c_MO_isAlike 57 = .ok (.imul, 1) := by decide +kernel
theorem d_MO_isAlike_58 : decode c_MO_isAlike 58 = .ok (.iload 5, 2) := by decide +kernel
theorem d_MO_isAlike_60 : decode c_MO_isAlike 60 = .ok (.iadd, 1) := by decide +kernel
theorem d_MO_isAlike_61 : decode c_MO_isAlike 61 = .ok (.iaload, 1) := by decide +kernel
theorem d_MO_isAlike_62 : decode c_MO_isAlike 62 = .ok (.if_icmp .ne 7, 3) := by decide +kernel
theorem d_MO_isAlike_65 : decode c_MO_isAlike 65 = .ok (.iconst 1, 1) := by decide +kernel
theorem d_MO_isAlike_66 : decode c_MO_isAlike 66 = .ok (.goto 4, 3) := by decide +kernel
theorem d_MO_isAlike_69 : decode c_MO_isAlike 69 = .ok (.iconst 0, 1) := by decide +kernel
theorem d_MO_isAlike_70 : decode c_MO_isAlike 70 = .ok (.istore 4, 2) := by decide +kernel
theorem d_MO_isAlike_72 : decode c_MO_isAlike 72 = .ok (.iinc 5 1, 3) := by decide +kernel
theorem d_MO_isAlike_75 : decode c_MO_isAlike 75 = .ok (.goto (-48), 3) := by decide +kernel
theorem d_MO_isAlike_78 : decode c_MO_isAlike 78 = .ok (.iload 4, 2) := by decide +kernel
theorem d_MO_isAlike_80 : decode c_MO_isAlike 80 = .ok (.ireturn, 1) := by decide +kernel
theorem d_MO_isLinked_0 : decode c_MO_isLinked 0 = .ok (.aload_n 0, 1) := by decide +kernel
theorem d_MO_isLinked_1 : decode c_MO_isLinked 1 = .ok (.getfield 7, 3) := by decide +kernel
theorem d_MO_isLinked_4 : decode c_MO_isLinked 4 = .ok (.bipush 49, 2) := by decide +kernel
theorem d_MO_isLinked_6 : decode c_MO_isLinked 6 = .ok (.iload_n 1, 1) := by decide +kernel
theorem d_MO_isLinked_7 : decode c_MO_isLinked 7 = .ok (.iadd, 1) := by decide +kernel
theorem d_MO_isLinked_8 : decode c_MO_isLinked 8 = .ok (.iaload, 1) := by decide +kernel
theorem d_MO_isLinked_9 : decode c_MO_isLinked 9 = .ok (.iload_n 2, 1) := by decide +kernel
theorem d_MO_isLinked_10 : decode c_MO_isLinked 10 = .ok (.ishr, 1) := by decide +kernel
theorem d_MO_isLinked_11 : decode c_MO_isLinked 11 = .ok (.iconst 1, 1) := by decide +kernel
theorem d_MO_isLinked_12 : decode c_MO_isLinked 12 = .ok (.iand, 1) := by decide +kernel
theorem d_MO_isLinked_13 : decode c_MO_isLinked 13 = .ok (.iconst 1, 1) := by decide +kernel
theorem d_MO_isLinked_14 : decode c_MO_isLinked 14 = .ok (.if_icmp .ne 7, 3) := by decide +kernel
theorem d_MO_isLinked_17 : decode c_MO_isLinked 17 = .ok (.iconst 1, 1) := by decide +kernel
theorem d_MO_isLinked_18 : decode c_MO_isLinked 18 = .ok (.goto 4, 3) := by decide +kernel
theorem d_MO_isLinked_21 : decode c_MO_isLinked 21 = .ok (.iconst 0, 1) := by decide +kernel
theorem d_MO_isLinked_22 : decode c_MO_isLinked 22 = .ok (.ireturn, 1) := by decide +kernel
theorem d_MO_far_0 : decode c_MO_far 0 = .ok (.aload_n 0, 1) := by decide +kernel
theorem d_MO_far_1 : decode c_MO_far 1 = .ok (.getfield 61, 3) := by decide +kernel
theorem d_MO_far_4 : decode c_MO_far 4 = .ok (.iload_n 1, 1) := by decide +kernel
theorem d_MO_far_5 : decode c_MO_far 5 = .ok (.iaload, 1) := by decide +kernel
theorem d_MO_far_6 : decode c_MO_far 6 = .ok (.istore_n 3, 1) := by decide +kernel
theorem d_MO_far_7 : decode c_MO_far 7 = .ok (.aload_n 0, 1) := by decide +kernel
theorem d_MO_far_8 : decode c_MO_far 8 = .ok (.getfield 61, 3) := by decide +kernel
theorem d_MO_far_11 : decode c_MO_far 11 = .ok (.iload_n 2, 1) := by decide +kernel
theorem d_MO_far_12 : decode c_MO_far 12 = .ok (.iaload, 1) := by decide +kernel
theorem d_MO_far_13 : decode c_MO_far 13 = .ok (.istore 4, 2) := by decide +kernel
theorem d_MO_far_15 : decode c_MO_far 15 = .ok (.iconst 0, 1) := by decide +kernel
theorem d_MO_far_16 : decode c_MO_far 16 = .ok (.istore 5, 2) := by decide +kernel
theorem d_MO_far_18 : decode c_MO_far 18 = .ok (.iload 5, 2) := by decide +kernel
theorem d_MO_far_20 : decode c_MO_far 20 = .ok (.iload 4, 2) := by decide +kernel
theorem d_MO_far_22 : decode c_MO_far 22 = .ok (.if_icmp .gt 18, 3) := by decide +kernel
theorem d_MO_far_25 : decode c_MO_far 25 = .ok (.aload_n 0, 1) := by decide +kernel
theorem d_MO_far_26 : decode c_MO_far 26 = .ok (.getfield 64, 3) := by decide +kernel
theorem d_MO_far_29 : decode c_MO_far 29 = .ok (.iload 5, 2) := by decide +kernel
theorem d_MO_far_31 : decode c_MO_far 31 = .ok (.iload 5, 2) := by decide +kernel
theorem d_MO_far_33 : decode c_MO_far 33 = .ok (.iastore, 1) := by decide +kernel
theorem d_MO_far_34 : decode c_MO_far 34 = .ok (.iinc 5 1, 3) := by decide +kernel
theorem d_MO_far_37 : decode c_MO_far 37 = .ok (.goto (-19), 3) := by decide +kernel
theorem d_MO_far_40 : decode c_MO_far 40 = .ok (.iconst 1, 1) := by decide +kernel
theorem d_MO_far_41 : decode c_MO_far 41 = .ok (.istore 5, 2) := by decide +kernel
theorem d_MO_far_43 : decode c_MO_far 43 = .ok (.iload 5, 2) := by decide +kernel
theorem d_MO_far_45 : decode c_MO_far 45 = .ok (.iload_n 3, 1) := by decide +kernel
theorem d_MO_far_46 : decode c_MO_far 46 = .ok (.if_icmp .gt 184, 3) := by decide +kernel
theorem d_MO_far_49 : decode c_MO_far 49 = .ok (.aload_n 0, 1) := by decide +kernel
theorem d_MO_far_50 : decode c_MO_far 50 = .ok (.getfield 58, 3) := by decide +kernel
theorem d_MO_far_53 : decode c_MO_far 53 = .ok (.bipush 60, 2) := by decide +kernel
theorem d_MO_far_55 : decode c_MO_far 55 = .ok (.iload_n 1, 1) := by decide +kernel
theorem d_MO_far_56 : decode c_MO_far 56 = .ok (.imul, 1) := by decide +kernel
theorem d_MO_far_57 : decode c_MO_far 57 = .ok (.iload 5, 2) := by decide +kernel
theorem d_MO_far_59 : decode c_MO_far 59 = .ok (.iadd, 1) := by decide +kernel
theorem d_MO_far_60 : decode c_MO_far 60 = .ok (.iconst 1, 1) := by decide +kernel
theorem d_MO_far_61 : decode c_MO_far 61 = .ok (.isub, 1) := by decide +kernel
theorem d_MO_far_62 : decode c_MO_far 62 = .ok (.iaload, 1) := by decide +kernel
theorem d_MO_far_63 : decode c_MO_far 63 = .ok (.istore 6, 2) := by decide +kernel
theorem d_MO_far_65 : decode c_MO_far 65 = .ok (.aload_n 0, 1) := by decide +kernel
theorem d_MO_far_66 : decode c_MO_far 66 = .ok (.getfield 67, 3) := by decide +kernel
theorem d_MO_far_69 : decode c_MO_far 69 = .ok (.iconst 0, 1) := by decide +kernel
theorem d_MO_far_70 : decode c_MO_far 70 = .ok (.iload 5, 2) := by decide +kernel
theorem d_MO_far_72 : decode c_MO_far 72 = .ok (.iastore, 1) := by decide +kernel
theorem d_MO_far_73 : decode c_MO_far 73 = .ok (.iconst 1, 1) := by decide +kernel
theorem d_MO_far_74 : decode c_MO_far 74 = .ok (.istore 7, 2) := by decide +kernel
theorem d_MO_far_76 : decode c_MO_far 76 = .ok (.iload 7, 2) := by decide +kernel
theorem d_MO_far_78 : decode c_MO_far 78 = .ok (.iload 4, 2) := by decide +kernel
theorem d_MO_far_80 : decode c_MO_far 80 = .ok (.if_icmp .gt 114, 3) := by decide +kernel
theorem d_MO_far_83 : decode c_MO_far 83 = .ok (.aload_n 0, 1) := by decide +kernel
theorem d_MO_far_84 : decode c_MO_far 84 = .ok (.getfield 64, 3) := by decide +kernel
theorem d_MO_far_87 : decode c_MO_far 87 = .ok (.iload 7, 2) := by decide +kernel
theorem d_MO_far_89 : decode c_MO_far 89 = .ok (.iconst 1, 1) := by decide +kernel
theorem d_MO_far_90 : decode c_MO_far 90 = .ok (.isub, 1) := by decide +kernel
theorem d_MO_far_91 : decode c_MO_far 91 = .ok (.iaload, 1) := by decide +kernel
theorem d_MO_far_92 : decode c_MO_far 92 = .ok (.iload 6, 2) := by decide +kernel
theorem d_MO_far_94 : decode c_MO_far 94 = .ok (.aload_n 0, 1) := by decide +kernel
theorem d_MO_far_95 : decode c_MO_far 95 = .ok (.getfield 58, 3) := by decide +kernel
theorem d_MO_far_98 : decode c_MO_far 98 = .ok (.bipush 60, 2) := by decide +kernel
theorem d_MO_far_100 : decode c_MO_far 100 = .ok (.iload_n 2, 1) := by decide +kernel
theorem d_MO_far_101 : decode c_MO_far 101 = .ok (.imul, 1) := by decide +kernel
theorem d_MO_far_102 : decode c_MO_far 102 = .ok (.iload 7, 2) := by decide +kernel
theorem d_MO_far_104 : decode c_MO_far 104 = .ok (.iadd, 1) := by decide +kernel
theorem d_MO_far_105 : decode c_MO_far 105 = .ok (.iconst 1, 1) := by decide +kernel
theorem d_MO_far_106 : decode c_MO_far 106 = .ok (.isub, 1) := by decide +kernel
theorem d_MO_far_107 : decode c_MO_far 107 = .ok (.iaload, 1) := by decide +kernel
theorem d_MO_far_108 : decode c_MO_far 108 = .ok (.if_icmp .ne 7, 3) := by decide +kernel
theorem d_MO_far_111 : decode c_MO_far 111 = .ok (.iconst 0, 1) := by decide +kernel
theorem d_MO_far_112 : decode c_MO_far 112 = .ok (.goto 4, 3) := by decide +kernel
theorem d_MO_far_115 : decode c_MO_far 115 = .ok (.iconst 1, 1) := by decide +kernel
theorem d_MO_far_116 : decode c_MO_far 116 = .ok (.iadd, 1) := by decide +kernel
theorem d_MO_far_117 : decode c_MO_far 117 = .ok (.istore 8, 2) := by decide +kernel
theorem d_MO_far_119 : decode c_MO_far 119 = .ok (.aload_n 0, 1) := by decide +kernel
theorem d_MO_far_120 : decode c_MO_far 120 = .ok (.getfield 64, 3) := by decide +kernel
theorem d_MO_far_123 : decode c_MO_far 123 = .ok (.iload 7, 2) := by decide +kernel
theorem d_MO_far_125 : decode c_MO_far 125 = .ok (.iaload, 1) := by decide +kernel
theorem d_MO_far_126 : decode c_MO_far 126 = .ok (.iconst 1, 1) := by decide +kernel
theorem d_MO_far_127 : decode c_MO_far 127 = .ok (.iadd, 1) := by decide +kernel
theorem d_MO_far_128 : decode c_MO_far 128 = .ok (.iload 8, 2) := by decide +kernel
theorem d_MO_far_130 : decode c_MO_far 130 = .ok (.if_icmp .ge 15, 3) := by decide +kernel
theorem d_MO_far_133 : decode c_MO_far 133 = .ok (.aload_n 0, 1) := by decide +kernel
theorem d_MO_far_134 : decode c_MO_far 134 = .ok (.getfield 64, 3) := by decide +kernel
theorem d_MO_far_137 : decode c_MO_far 137 = .ok (.iload 7, 2) := by decide +kernel
theorem d_MO_far_139 : decode c_MO_far 139 = .ok (.iaload, 1) := by decide +kernel
theorem d_MO_far_140 : decode c_MO_far 140 = .ok (.iconst 1, 1) := by decide +kernel
theorem d_MO_far_141 : decode c_MO_far 141 = .ok (.iadd, 1) := by decide +kernel
theorem d_MO_far_142 : decode c_MO_far 142 = .ok (.goto 5, 3) := by decide +kernel
theorem d_MO_far_145 : decode c_MO_far 145 = .ok (.iload 8, 2) := by decide +kernel
theorem d_MO_far_147 : decode c_MO_far 147 = .ok (.istore 8, 2) := by decide +kernel
theorem d_MO_far_149 : decode c_MO_far 149 = .ok (.aload_n 0, 1) := by decide +kernel
theorem d_MO_far_150 : decode c_MO_far 150 = .ok (.getfield 67, 3) := by decide +kernel
theorem d_MO_far_153 : decode c_MO_far 153 = .ok (.iload 7, 2) := by decide +kernel
theorem d_MO_far_155 : decode c_MO_far 155 = .ok (.aload_n 0, 1) := by decide +kernel
theorem d_MO_far_156 : decode c_MO_far 156 = .ok (.getfield 67, 3) := by decide +kernel
theorem d_MO_far_159 : decode c_MO_far 159 = .ok (.iload 7, 2) := by decide +kernel
theorem d_MO_far_161 : decode c_MO_far 161 = .ok (.iconst 1, 1) := by decide +kernel
theorem d_MO_far_162 : decode c_MO_far 162 = .ok (.isub, 1) := by decide +kernel
theorem d_MO_far_163 : decode c_MO_far 163 = .ok (.iaload, 1) := by decide +kernel
theorem d_MO_far_164 : decode c_MO_far 164 = .ok (.iconst 1, 1) := by decide +kernel
theorem d_MO_far_165 : decode c_MO_far 165 = .ok (.iadd, 1) := by decide +kernel
theorem d_MO_far_166 : decode c_MO_far 166 = .ok (.iload 8, 2) := by decide +kernel
theorem d_MO_far_168 : decode c_MO_far 168 = .ok (.if_icmp .ge 17, 3) := by decide +kernel
theorem d_MO_far_171 : decode c_MO_far 171 = .ok (.aload_n 0, 1) := by decide +kernel
theorem d_MO_far_172 : decode c_MO_far 172 = .ok (.getfield 67, 3) := by decide +kernel
theorem d_MO_far_175 : decode c_MO_far 175 = .ok (.iload 7, 2) := by decide +kernel
theorem d_MO_far_177 : decode c_MO_far 177 = .ok (.iconst 1, 1) := by decide +kernel
theorem d_MO_far_178 : decode c_MO_far 178 = .ok (.isub, 1) := by decide +kernel
theorem d_MO_far_179 : decode c_MO_far 179 = .ok (.iaload, 1) := by decide +kernel
theorem d_MO_far_180 : decode c_MO_far 180 = .ok (.iconst 1, 1) := by decide +kernel
theorem d_MO_far_181 : decode c_MO_far 181 = .ok (.iadd, 1) := by decide +kernel
theorem d_MO_far_182 : decode c_MO_far 182 = .ok (.goto 5, 3) := by decide +kernel
theorem d_MO_far_185 : decode c_MO_far 185 = .ok (.iload 8, 2) := by decide +kernel
theorem d_MO_far_187 : decode c_MO_far 187 = .ok (.iastore, 1) := by decide +kernel
theorem d_MO_far_188 : decode c_MO_far 188 = .ok (.iinc 7 1, 3) := by decide +kernel
theorem d_MO_far_191 : decode c_MO_far 191 = .ok (.goto (-115), 3) := by decide +kernel
theorem d_MO_far_194 : decode c_MO_far 194 = .ok (.iconst 0, 1) := by decide +kernel
theorem d_MO_far_195 : decode c_MO_far 195 = .ok (.istore 7, 2) := by decide +kernel
theorem d_MO_far_197 : decode c_MO_far 197 = .ok (.iload 7, 2) := by decide +kernel
theorem d_MO_far_199 : decode c_MO_far 199 = .ok (.iload 4, 2) := by decide +kernel
theorem d_MO_far_201 : decode c_MO_far 201 = .ok (.if_icmp .gt 23, 3) := by decide +kernel
theorem d_MO_far_204 : decode c_MO_far 204 = .ok (.aload_n 0, 1) := by decide +kernel
theorem d_MO_far_205 : decode c_MO_far 205 = .ok (.getfield 64, 3) := by decide +kernel
theorem d_MO_far_208 : decode c_MO_far 208 = .ok (.iload 7, 2) := by decide +kernel
theorem d_MO_far_210 : decode c_MO_far 210 = .ok (.aload_n 0, 1) := by decide +kernel
theorem d_MO_far_211 : decode c_MO_far 211 = .ok (.getfield 67, 3) := by decide +kernel
theorem d_MO_far_214 : decode c_MO_far 214 = .ok (.iload 7, 2) := by decide +kernel
theorem d_MO_far_216 : decode c_MO_far 216 = .ok (.iaload, 1) := by decide +kernel
theorem d_MO_far_217 : decode c_MO_far 217 = .ok (.iastore, 1) := by decide +kernel
theorem d_MO_far_218 : decode c_MO_far 218 = .ok (.iinc 7 1, 3) := by decide +kernel
theorem d_MO_far_221 : decode c_MO_far 221 = .ok (.goto (-24), 3) := by decide +kernel
theorem d_MO_far_224 : decode c_MO_far 224 = .ok (.iinc 5 1, 3) := by decide +kernel
theorem d_MO_far_227 : decode c_MO_far 227 = .ok (.goto (-184), 3) := by decide +kernel
theorem d_MO_far_230 : decode c_MO_far 230 = .ok (.aload_n 0, 1) := by decide +kernel
theorem d_MO_far_231 : decode c_MO_far 231 = .ok (.getfield 64, 3) := by decide +kernel
theorem d_MO_far_234 : decode c_MO_far 234 = .ok (.iload 4, 2) := by decide +kernel
theorem d_MO_far_236 : decode c_MO_far 236 = .ok (.iaload, 1) := by decide +kernel
theorem d_MO_far_237 : decode c_MO_far 237 = .ok (.ireturn, 1) := by decide +kernel
theorem d_MO_heads_0 : decode c_MO_heads 0 = .ok (.aload_n 0, 1) := by decide +kernel
theorem d_MO_heads_1 : decode c_MO_heads 1 = .ok (.invokevirtual 90, 3) := by decide +kernel
theorem d_MO_heads_4 : decode c_MO_heads 4 = .ok (.aload_n 0, 1) := by decide +kernel
theorem d_MO_heads_5 : decode c_MO_heads 5 = .ok (.iconst 0, 1) := by decide +kernel
theorem d_MO_heads_6 : decode c_MO_heads 6 = .ok (.putfield 93, 3) := by decide +kernel
theorem d_MO_heads_9 : decode c_MO_heads 9 = .ok (.iconst 0, 1) := by decide +kernel
theorem d_MO_heads_10 : decode c_MO_heads 10 = .ok (.istore_n 1, 1) := by decide +kernel
theorem d_MO_heads_11 : decode c_MO_heads 11 = .ok (.iload_n 1, 1) := by decide +kernel
theorem d_MO_heads_12 : decode c_MO_heads 12 = .ok (.bipush 20, 2) := by decide +kernel
theorem d_MO_heads_14 : decode c_MO_heads 14 = .ok (.if_icmp .ge 28, 3) := by decide +kernel
theorem d_MO_heads_17 : decode c_MO_heads 17 = .ok (.aload_n 0, 1) := by decide +kernel
theorem d_MO_heads_18 : decode c_MO_heads 18 = .ok (.getfield 22, 3) := by decide +kernel
theorem d_MO_heads_21 : decode c_MO_heads 21 = .ok (.iload_n 1, 1) := by decide +kernel
theorem d_MO_heads_22 : decode c_MO_heads 22 = .ok (.aload_n 0, 1) := by decide +kernel
theorem d_MO_heads_23 : decode c_MO_heads 23 = .ok (.iload_n 1, 1) := by decide +kernel
theorem d_MO_heads_24 : decode c_MO_heads 24 = .ok (.invokevirtual 96, 3) := by decide +kernel
theorem d_MO_heads_27 : decode c_MO_heads 27 = .ok (.ifCond .eq 7, 3) := by decide +kernel
theorem d_MO_heads_30 : decode c_MO_heads 30 = .ok (.iload_n 1, 1) := by decide +kernel
theorem d_MO_heads_31 : decode c_MO_heads 31 = .ok (.goto 4, 3) := by decide +kernel
theorem d_MO_heads_34 : decode c_MO_heads 34 = .ok (.iconst (-1), 1) := by decide +kernel
theorem d_MO_heads_35 : decode c_MO_heads 35 = .ok (.iastore, 1) := by decide +kernel
theorem d_MO_heads_36 : decode c_MO_heads 36 = .ok (.iinc 1 1, 3) := by decide +kernel
theorem d_MO_heads_39 : decode c_MO_heads 39 = .ok (.goto (-28), 3) := by decide +kernel
theorem d_MO_heads_42 : decode c_MO_heads 42 = .ok (.iconst 1, 1) := by decide +kernel
theorem d_MO_heads_43 : decode c_MO_heads 43 = .ok (.istore_n 1, 1) := by decide +kernel
theorem d_MO_heads_44 : decode c_MO_heads 44 = .ok (.iload_n 1, 1) := by decide +kernel
theorem d_MO_heads_45 : decode c_MO_heads 45 = .ok (.ifCond .eq 138, 3) := by decide +kernel
theorem d_MO_heads_48 : decode c_MO_heads 48 = .ok (.iconst 0, 1) := by decide +kernel
theorem d_MO_heads_49 : decode c_MO_heads 49 = .ok (.istore_n 1, 1) := by decide +kernel
theorem d_MO_heads_50 : decode c_MO_heads 50 = .ok (.iconst 0, 1) := by decide +kernel
theorem d_MO_heads_51 : decode c_MO_heads 51 = .ok (.istore_n 2, 1) := by decide +kernel
theorem d_MO_heads_52 : decode c_MO_heads 52 = .ok (.iload_n 2, 1) := by decide +kernel
theorem d_MO_heads_53 : decode c_MO_heads 53 = .ok (.aload_n 0, 1) := by decide +kernel
theorem d_MO_heads_54 : decode c_MO_heads 54 = .ok (.getfield 7, 3) := by decide +kernel
theorem d_MO_heads_57 : decode c_MO_heads 57 = .ok (.iconst 0, 1) := by decide +kernel
theorem d_MO_heads_58 : decode c_MO_heads 58 = .ok (.iaload, 1) := by decide +kernel
theorem d_MO_heads_59 : decode c_MO_heads 59 = .ok (.if_icmp .ge 121, 3) := by decide +kernel
theorem d_MO_heads_62 : decode c_MO_heads 62 = .ok (.iconst 0, 1) := by decide +kernel
theorem d_MO_heads_63 : decode c_MO_heads 63 = .ok (.istore_n 3, 1) := by decide +kernel
theorem d_MO_heads_64 : decode c_MO_heads 64 = .ok (.iload_n 3, 1) := by decide +kernel
theorem d_MO_heads_65 : decode c_MO_heads 65 = .ok (.iload_n 2, 1) := by decide +kernel
theorem d_MO_heads_66 : decode c_MO_heads 66 = .ok (.if_icmp .ge 108, 3) := by decide +kernel
theorem d_MO_heads_69 : decode c_MO_heads 69 = .ok (.aload_n 0, 1) := by decide +kernel
theorem d_MO_heads_70 : decode c_MO_heads 70 = .ok (.iload_n 2, 1) := by decide +kernel
theorem d_MO_heads_71 : decode c_MO_heads 71 = .ok (.invokevirtual 96, 3) := by decide +kernel
theorem d_MO_heads_74 : decode c_MO_heads 74 = .ok (.ifCond .eq 94, 3) := by decide +kernel
theorem d_MO_heads_77 : decode c_MO_heads 77 = .ok (.aload_n 0, 1) := by decide +kernel
theorem d_MO_heads_78 : decode c_MO_heads 78 = .ok (.iload_n 3, 1) := by decide +kernel
theorem d_MO_heads_79 : decode c_MO_heads 79 = .ok (.invokevirtual 96, 3) := by decide +kernel
theorem d_MO_heads_82 : decode c_MO_heads 82 = .ok (.ifCond .eq 86, 3) := by decide +kernel
theorem d_MO_heads_85 : decode c_MO_heads 85 = .ok (.aload_n 0, 1) := by decide +kernel
theorem d_MO_heads_86 : decode c_MO_heads 86 = .ok (.getfield 22, 3) := by decide +kernel
theorem d_MO_heads_89 : decode c_MO_heads 89 = .ok (.iload_n 2, 1) := by decide +kernel
theorem d_MO_heads_90 : decode c_MO_heads 90 = .ok (.iaload, 1) := by decide +kernel
theorem d_MO_heads_91 : decode c_MO_heads 91 = .ok (.aload_n 0, 1) := by decide +kernel
theorem d_MO_heads_92 : decode c_MO_heads 92 = .ok (.getfield 22, 3) := by decide +kernel
theorem d_MO_heads_95 : decode c_MO_heads 95 = .ok (.iload_n 3, 1) := by decide +kernel
theorem d_MO_heads_96 : decode c_MO_heads 96 = .ok (.iaload, 1) := by decide +kernel
theorem d_MO_heads_97 : decode c_MO_heads 97 = .ok (.if_icmp .eq 71, 3) := by decide +kernel
theorem d_MO_heads_100 : decode c_MO_heads 100 = .ok (.aload_n 0, 1) := by decide +kernel
theorem d_MO_heads_101 : decode c_MO_heads 101 = .ok (.iload_n 2, 1) := by decide +kernel
theorem d_MO_heads_102 : decode c_MO_heads 102 = .ok (.iload_n 3, 1) := by decide +kernel
theorem d_MO_heads_103 : decode c_MO_heads 103 = .ok (.invokevirtual 99, 3) := by decide +kernel
theorem d_MO_heads_106 : decode c_MO_heads 106 = .ok (.ifCond .ne 12, 3) := by decide +kernel
theorem d_MO_heads_109 : decode c_MO_heads 109 = .ok (.aload_n 0, 1) := by decide +kernel
theorem d_MO_heads_110 : decode c_MO_heads 110 = .ok (.iload_n 2, 1) := by decide +kernel
theorem d_MO_heads_111 : decode c_MO_heads 111 = .ok (.iload_n 3, 1) := by decide +kernel
theorem d_MO_heads_112 : decode c_MO_heads 112 = .ok (.invokevirtual 103, 3) := by decide +kernel
theorem d_MO_heads_115 : decode c_MO_heads 115 = .ok (.ifCond .eq 53, 3) := by decide +kernel
theorem d_MO_heads_118 : decode c_MO_heads 118 = .ok (.aload_n 0, 1) := by decide +kernel
theorem d_MO_heads_119 : decode c_MO_heads 119 = .ok (.getfield 22, 3) := by decide +kernel
theorem d_MO_heads_122 : decode c_MO_heads 122 = .ok (.iload_n 2, 1) := by decide +kernel
theorem d_MO_heads_123 : decode c_MO_heads 123 = .ok (.iaload, 1) := by decide +kernel
theorem d_MO_heads_124 : decode c_MO_heads 124 = .ok (.aload_n 0, 1) := by decide +kernel
theorem d_MO_heads_125 : decode c_MO_heads 125 = .ok (.getfield 22, 3) := by decide +kernel
theorem d_MO_heads_128 : decode c_MO_heads 128 = .ok (.iload_n 3, 1) := by decide +kernel
theorem d_MO_heads_129 : decode c_MO_heads 129 = .ok (.iaload, 1) := by decide +kernel
theorem d_MO_heads_130 : decode c_MO_heads 130 = .ok (.if_icmp .ge 12, 3) := by decide +kernel
theorem d_MO_heads_133 : decode c_MO_heads 133 = .ok (.aload_n 0, 1) := by decide +kernel
theorem d_MO_heads_134 : decode c_MO_heads 134 = .ok (.getfield 22, 3) := by decide +kernel
theorem d_MO_heads_137 : decode c_MO_heads 137 = .ok (.iload_n 2, 1) := by decide +kernel
theorem d_MO_heads_138 : decode c_MO_heads 138 = .ok (.iaload, 1) := by decide +kernel
theorem d_MO_heads_139 : decode c_MO_heads 139 = .ok (.goto 9, 3) := by decide +kernel
theorem d_MO_heads_142 : decode c_MO_heads 142 = .ok (.aload_n 0, 1) := by decide +kernel
theorem d_MO_heads_143 : decode c_MO_heads 143 = .ok (.getfield 22, 3) := by decide +kernel
theorem d_MO_heads_146 : decode c_MO_heads 146 = .ok (.iload_n 3, 1) := by decide +kernel
theorem d_MO_heads_147 : decode c_MO_heads 147 = .ok (.iaload, 1) := by decide +kernel
theorem d_MO_heads_148 : decode c_MO_heads 148 = .ok (.istore 4, 2) := by decide +kernel
theorem d_MO_heads_150 : decode c_MO_heads 150 = .ok (.aload_n 0, 1) := by decide +kernel
theorem d_MO_heads_151 : decode c_MO_heads 151 = .ok (.getfield 22, 3) := by decide +kernel
theorem d_MO_heads_154 : decode c_MO_heads 154 = .ok (.iload_n 2, 1) := by decide +kernel
theorem d_MO_heads_155 : decode c_MO_heads 155 = .ok (.iload 4, 2) := by decide +kernel
theorem d_MO_heads_157 : decode c_MO_heads 157 = .ok (.iastore, 1) := by decide +kernel
theorem d_MO_heads_158 : decode c_MO_heads 158 = .ok (.aload_n 0, 1) := by decide +kernel
theorem d_MO_heads_159 : decode c_MO_heads 159 = .ok (.getfield 22, 3) := by decide +kernel
theorem d_MO_heads_162 : decode c_MO_heads 162 = .ok (.iload_n 3, 1) := by decide +kernel
theorem d_MO_heads_163 : decode c_MO_heads 163 = .ok (.iload 4, 2) := by decide +kernel
theorem d_MO_heads_165 : decode c_MO_heads 165 = .ok (.iastore, 1) := by decide +kernel
theorem d_MO_heads_166 : decode c_MO_heads 166 = .ok (.iconst 1, 1) := by decide +kernel
theorem d_MO_heads_167 : decode c_MO_heads 167 = .ok (.istore_n 1, 1) := by decide +kernel
theorem d_MO_heads_168 : decode c_MO_heads 168 = .ok (.iinc 3 1, 3) := by decide +kernel
theorem d_MO_heads_171 : decode c_MO_heads 171 = .ok (.goto (-107), 3) := by decide +kernel
theorem d_MO_heads_174 : decode c_MO_heads 174 = .ok (.iinc 2 1, 3) := by decide +kernel
theorem d_MO_heads_177 : decode c_MO_heads 177 = .ok (.goto (-125), 3) := by decide +kernel
theorem d_MO_heads_180 : decode c_MO_heads 180 = .ok (.goto (-136), 3) := by decide +kernel
theorem d_MO_heads_183 : decode c_MO_heads 183 = .ok (.iconst 0, 1) := by decide +kernel
theorem d_MO_heads_184 : decode c_MO_heads 184 = .ok (.istore_n 2, 1) := by decide +kernel
theorem d_MO_heads_185 : decode c_MO_heads 185 = .ok (.iload_n 2, 1) := by decide +kernel
theorem d_MO_heads_186 : decode c_MO_heads 186 = .ok (.aload_n 0, 1) := by decide +kernel
theorem d_MO_heads_187 : decode c_MO_heads 187 = .ok (.getfield 7, 3) := by decide +kernel
theorem d_MO_heads_190 : decode c_MO_heads 190 = .ok (.iconst 0, 1) := by decide +kernel
theorem d_MO_heads_191 : decode c_MO_heads 191 = .ok (.iaload, 1) := by decide +kernel
theorem d_MO_heads_192 : decode c_MO_heads 192 = .ok (.if_icmp .ge 33, 3) := by decide +kernel
theorem d_MO_heads_195 : decode c_MO_heads 195 = .ok (.aload_n 0, 1) := by decide +kernel
theorem d_MO_heads_196 : decode c_MO_heads 196 = .ok (.dup, 1) := by decide +kernel
theorem d_MO_heads_197 : decode c_MO_heads 197 = .ok (.getfield 93, 3) := by decide +kernel
theorem d_MO_heads_200 : decode c_MO_heads 200 = .ok (.aload_n 0, 1) := by decide +kernel
theorem d_MO_heads_201 : decode c_MO_heads 201 = .ok (.getfield 22, 3) := by decide +kernel
theorem d_MO_heads_204 : decode c_MO_heads 204 = .ok (.iload_n 2, 1) := by decide +kernel
theorem d_MO_heads_205 : decode c_MO_heads 205 = .ok (.iaload, 1) := by decide +kernel
theorem d_MO_heads_206 : decode c_MO_heads 206 = .ok (.iload_n 2, 1) := by decide +kernel
theorem d_MO_heads_207 : decode c_MO_heads 207 = .ok (.if_icmp .ne 7, 3) := by decide +kernel
theorem d_MO_heads_210 : decode c_MO_heads 210 = .ok (.iconst 1, 1) := by decide +kernel
theorem d_MO_heads_211 : decode c_MO_heads 211 = .ok (.goto 4, 3) := by decide +kernel
theorem d_MO_heads_214 : decode c_MO_heads 214 = .ok (.iconst 0, 1) := by decide +kernel
theorem d_MO_heads_215 : decode c_MO_heads 215 = .ok (.iadd, 1) := by decide +kernel
theorem d_MO_heads_216 : decode c_MO_heads 216 = .ok (.putfield 93, 3) := by decide +kernel
theorem d_MO_heads_219 : decode c_MO_heads 219 = .ok (.iinc 2 1, 3) := by decide +kernel
theorem d_MO_heads_222 : decode c_MO_heads 222 = .ok (.goto (-37), 3) := by decide +kernel
theorem d_MO_heads_225 : decode c_MO_heads 225 = .ok (.return_, 1) := by decide +kernel
theorem d_MO_isHead_0 : decode c_MO_isHead 0 = .ok (.iload_n 1, 1) := by decide +kernel
theorem d_MO_isHead_1 : decode c_MO_isHead 1 = .ok (.ifCond .lt 17, 3) := by decide +kernel
theorem d_MO_isHead_4 : decode c_MO_isHead 4 = .ok (.aload_n 0, 1) := by decide +kernel
theorem d_MO_isHead_5 : decode c_MO_isHead 5 = .ok (.getfield 22, 3) := by decide +kernel
theorem d_MO_isHead_8 : decode c_MO_isHead 8 = .ok (.iload_n 1, 1) := by decide +kernel
theorem d_MO_isHead_9 : decode c_MO_isHead 9 = .ok (.iaload, 1) := by decide +kernel
theorem d_MO_isHead_10 : decode c_MO_isHead 10 = .ok (.iload_n 1, 1) := by decide +kernel
theorem d_MO_isHead_11 : decode c_MO_isHead 11 = .ok (.if_icmp .ne 7, 3) := by decide +kernel
theorem d_MO_isHead_14 : decode c_MO_isHead 14 = .ok (.iconst 1, 1) := by decide +kernel
theorem d_MO_isHead_15 : decode c_MO_isHead 15 = .ok (.goto 4, 3) := by decide +kernel
theorem d_MO_isHead_18 : decode c_MO_isHead 18 = .ok (.iconst 0, 1) := by decide +kernel
theorem d_MO_isHead_19 : decode c_MO_isHead 19 = .ok (.ireturn, 1) := by decide +kernel
theorem d_MO_counts_0 : decode c_MO_counts 0 = .ok (.iconst 0, 1) := by decide +kernel
theorem d_MO_counts_1 : decode c_MO_counts 1 = .ok (.istore_n 1, 1) := by decide +kernel
theorem d_MO_counts_2 : decode c_MO_counts 2 = .ok (.iload_n 1, 1) := by decide +kernel
theorem d_MO_counts_3 : decode c_MO_counts 3 = .ok (.bipush 12, 2) := by decide +kernel
theorem d_MO_counts_5 : decode c_MO_counts 5 = .ok (.if_icmp .ge 134, 3) := by decide +kernel
theorem d_MO_counts_8 : decode c_MO_counts 8 = .ok (.iconst 0, 1) := by decide +kernel
theorem d_MO_counts_9 : decode c_MO_counts 9 = .ok (.istore_n 2, 1) := by decide +kernel
theorem d_MO_counts_10 : decode c_MO_counts 10 = .ok (.iconst 0, 1) := by decide +kernel
theorem d_MO_counts_11 : decode c_MO_counts 11 = .ok (.istore_n 3, 1) := by decide +kernel
theorem d_MO_counts_12 : decode c_MO_counts 12 = .ok (.iload_n 3, 1) := by decide +kernel
theorem d_MO_counts_13 : decode c_MO_counts 13 = .ok (.iconst 3, 1) := by decide +kernel
theorem d_MO_counts_14 : decode c_MO_counts 14 = .ok (.if_icmp .ge 119, 3) := by decide +kernel
theorem d_MO_counts_17 : decode c_MO_counts 17 = .ok (.aload_n 0, 1) := by decide +kernel
theorem d_MO_counts_18 : decode c_MO_counts 18 = .ok (.getfield 55, 3) := by decide +kernel
theorem d_MO_counts_21 : decode c_MO_counts 21 = .ok (.iconst 3, 1) := by decide +kernel
theorem d_MO_counts_22 : decode c_MO_counts 22 = .ok (.iload_n 1, 1) := by decide +kernel
theorem d_MO_counts_23 : decode c_MO_counts 23 = .ok (.imul, 1) := by decide +kernel
theorem d_MO_counts_24 : decode c_MO_counts 24 = .ok (.iload_n 3, 1) := by decide +kernel
theorem d_MO_counts_25 : decode c_MO_counts 25 = .ok (.iadd, 1) := by decide +kernel
theorem d_MO_counts_26 : decode c_MO_counts 26 = .ok (.iconst (-1), 1) := by decide +kernel
theorem d_MO_counts_27 : decode c_MO_counts 27 = .ok (.iastore, 1) := by decide +kernel
theorem d_MO_counts_28 : decode c_MO_counts 28 = .ok (.aload_n 0, 1) := by decide +kernel
theorem d_MO_counts_29 : decode c_MO_counts 29 = .ok (.getfield 7, 3) := by decide +kernel
theorem d_MO_counts_32 : decode c_MO_counts 32 = .ok (.sipush 1289, 3) := by decide +kernel
theorem d_MO_counts_35 : decode c_MO_counts 35 = .ok (.iconst 3, 1) := by decide +kernel
theorem d_MO_counts_36 : decode c_MO_counts 36 = .ok (.iload_n 1, 1) := by decide +kernel
theorem d_MO_counts_37 : decode c_MO_counts 37 = .ok (.imul, 1) := by decide +kernel
theorem d_MO_counts_38 : decode c_MO_counts 38 = .ok (.iadd, 1) := by decide +kernel
theorem d_MO_counts_39 : decode c_MO_counts 39 = .ok (.iload_n 3, 1) := by decide +kernel
theorem d_MO_counts_40 : decode c_MO_counts 40 = .ok (.iadd, 1) := by decide +kernel
theorem d_MO_counts_41 : decode c_MO_counts 41 = .ok (.iaload, 1) := by decide +kernel
theorem d_MO_counts_42 : decode c_MO_counts 42 = .ok (.iconst 1, 1) := by decide +kernel
theorem d_MO_counts_43 : decode c_MO_counts 43 = .ok (.isub, 1) := by decide +kernel
theorem d_MO_counts_44 : decode c_MO_counts 44 = .ok (.istore 4, 2) := by decide +kernel
theorem d_MO_counts_46 : decode c_MO_counts 46 = .ok (.aload_n 0, 1) := by decide +kernel
theorem d_MO_counts_47 : decode c_MO_counts 47 = .ok (.iload 4, 2) := by decide +kernel
theorem d_MO_counts_49 : decode c_MO_counts 49 = .ok (.invokevirtual 96, 3) := by decide +kernel
theorem d_MO_counts_52 : decode c_MO_counts 52 = .ok (.istore 5, 2) := by decide +kernel
theorem d_MO_counts_54 : decode c_MO_counts 54 = .ok (.iconst 0, 1) := by decide +kernel
theorem d_MO_counts_55 : decode c_MO_counts 55 = .ok (.istore 6, 2) := by decide +kernel
theorem d_MO_counts_57 : decode c_MO_counts 57 = .ok (.iload 6, 2) := by decide +kernel
theorem d_MO_counts_59 : decode c_MO_counts 59 = .ok (.iload_n 2, 1) := by decide +kernel
theorem d_MO_counts_60 : decode c_MO_counts 60 = .ok (.if_icmp .ge 47, 3) := by decide +kernel
theorem d_MO_counts_63 : decode c_MO_counts 63 = .ok (.iload 5, 2) := by decide +kernel
theorem d_MO_counts_65 : decode c_MO_counts 65 = .ok (.ifCond .eq 42, 3) := by decide +kernel
theorem d_MO_counts_68 : decode c_MO_counts 68 = .ok (.aload_n 0, 1) := by decide +kernel
theorem d_MO_counts_69 : decode c_MO_counts 69 = .ok (.getfield 22, 3) := by decide +kernel
theorem d_MO_counts_72 : decode c_MO_counts 72 = .ok (.aload_n 0, 1) := by decide +kernel
theorem d_MO_counts_73 : decode c_MO_counts 73 = .ok (.getfield 55, 3) := by decide +kernel
theorem d_MO_counts_76 : decode c_MO_counts 76 = .ok (.iconst 3, 1) := by decide +kernel
theorem d_MO_counts_77 : decode c_MO_counts 77 = .ok (.iload_n 1, 1) := by decide +kernel
theorem d_MO_counts_78 : decode c_MO_counts 78 = .ok (.imul, 1) := by decide +kernel
theorem d_MO_counts_79 : decode c_MO_counts 79 = .ok (.iload 6, 2) := by decide +kernel
theorem d_MO_counts_81 : decode c_MO_counts 81 = .ok (.iadd, 1) := by decide +kernel
theorem d_MO_counts_82 : decode c_MO_counts 82 = .ok (.iaload, 1) := by decide +kernel
theorem d_MO_counts_83 : decode c_MO_counts 83 = .ok (.iaload, 1) := by decide +kernel
theorem d_MO_counts_84 : decode c_MO_counts 84 = .ok (.aload_n 0, 1) := by decide +kernel
theorem d_MO_counts_85 : decode c_MO_counts 85 = .ok (.getfield 22, 3) := by decide +kernel
theorem d_MO_counts_88 : decode c_MO_counts 88 = .ok (.iload 4, 2) := by decide +kernel
theorem d_MO_counts_90 : decode c_MO_counts 90 = .ok (.iaload, 1) := by decide +kernel
theorem d_MO_counts_91 : decode c_MO_counts 91 = .ok (.if_icmp .eq 7, 3) := by decide +kernel
theorem d_MO_counts_94 : decode c_MO_counts 94 = .ok (.iconst 1, 1) := by decide +kernel
theorem d_MO_counts_95 : decode c_MO_counts 95 = .ok (.goto 4, 3) := by decide +kernel
theorem d_MO_counts_98 : decode c_MO_counts 98 = .ok (.iconst 0, 1) := by decide +kernel
theorem d_MO_counts_99 : decode c_MO_counts 99 = .ok (.istore 5, 2) := by decide +kernel
theorem d_MO_counts_101 : decode c_MO_counts 101 = .ok (.iinc 6 1, 3) := by decide +kernel
theorem d_MO_counts_104 : decode c_MO_counts 104 = .ok (.goto (-47), 3) := by decide +kernel
theorem d_MO_counts_107 : decode c_MO_counts 107 = .ok (.iload 5, 2) := by decide +kernel
theorem d_MO_counts_109 : decode c_MO_counts 109 = .ok (.ifCond .eq 18, 3) := by decide +kernel
theorem d_MO_counts_112 : decode c_MO_counts 112 = .ok (.aload_n 0, 1) := by decide +kernel
theorem d_MO_counts_113 : decode c_MO_counts 113 = .ok (.getfield 55, 3) := by decide +kernel
theorem d_MO_counts_116 : decode c_MO_counts 116 = .ok (.iconst 3, 1) := by decide +kernel
theorem d_MO_counts_117 : decode c_MO_counts 117 = .ok (.iload_n 1, 1) := by decide +kernel
theorem d_MO_counts_118 : decode c_MO_counts 118 = .ok (.imul, 1) := by decide +kernel
theorem d_MO_counts_119 : decode c_MO_counts 119 = .ok (.iload_n 2, 1) := by decide +kernel
theorem d_MO_counts_120 : decode c_MO_counts 120 = .ok (.iadd, 1) := by decide +kernel
theorem d_MO_counts_121 : decode c_MO_counts 121 = .ok (.iload 4, 2) := by decide +kernel
theorem d_MO_counts_123 : decode c_MO_counts 123 = .ok (.iastore, 1) := by decide +kernel
theorem d_MO_counts_124 : decode c_MO_counts 124 = .ok (.iinc 2 1, 3) := by decide +kernel
theorem d_MO_counts_127 : decode c_MO_counts 127 = .ok (.iinc 3 1, 3) := by decide +kernel
theorem d_MO_counts_130 : decode c_MO_counts 130 = .ok (.goto (-118), 3) := by decide +kernel
theorem d_MO_counts_133 : decode c_MO_counts 133 = .ok (.iinc 1 1, 3) := by decide +kernel
theorem d_MO_counts_136 : decode c_MO_counts 136 = .ok (.goto (-134), 3) := by decide +kernel
theorem d_MO_counts_139 : decode c_MO_counts 139 = .ok (.return_, 1) := by decide +kernel
theorem d_MO_most_0 : decode c_MO_most 0 = .ok (.iconst 0, 1) := by decide +kernel
theorem d_MO_most_1 : decode c_MO_most 1 = .ok (.istore_n 3, 1) := by decide +kernel
theorem d_MO_most_2 : decode c_MO_most 2 = .ok (.iconst 0, 1) := by decide +kernel
theorem d_MO_most_3 : decode c_MO_most 3 = .ok (.istore 4, 2) := by decide +kernel
theorem d_MO_most_5 : decode c_MO_most 5 = .ok (.iload 4, 2) := by decide +kernel
theorem d_MO_most_7 : decode c_MO_most 7 = .ok (.aload_n 0, 1) := by decide +kernel
theorem d_MO_most_8 : decode c_MO_most 8 = .ok (.getfield 7, 3) := by decide +kernel
theorem d_MO_most_11 : decode c_MO_most 11 = .ok (.iconst 0, 1) := by decide +kernel
theorem d_MO_most_12 : decode c_MO_most 12 = .ok (.iaload, 1) := by decide +kernel
theorem d_MO_most_13 : decode c_MO_most 13 = .ok (.if_icmp .ge 53, 3) := by decide +kernel
theorem d_MO_most_16 : decode c_MO_most 16 = .ok (.aload_n 0, 1) := by decide +kernel
theorem d_MO_most_17 : decode c_MO_most 17 = .ok (.getfield 7, 3) := by decide +kernel
theorem d_MO_most_20 : decode c_MO_most 20 = .ok (.sipush 1325, 3) := by decide +kernel
theorem d_MO_most_23 : decode c_MO_most 23 = .ok (.bipush 20, 2) := by decide +kernel
theorem d_MO_most_25 : decode c_MO_most 25 = .ok (.iload_n 1, 1) := by decide +kernel
theorem d_MO_most_26 : decode c_MO_most 26 = .ok (.imul, 1) := by decide +kernel
theorem d_MO_most_27 : decode c_MO_most 27 = .ok (.iadd, 1) := by decide +kernel
theorem d_MO_most_28 : decode c_MO_most 28 = .ok (.iload 4, 2) := by decide +kernel
theorem d_MO_most_30 : decode c_MO_most 30 = .ok (.iadd, 1) := by decide +kernel
theorem d_MO_most_31 : decode c_MO_most 31 = .ok (.iaload, 1) := by decide +kernel
theorem d_MO_most_32 : decode c_MO_most 32 = .ok (.iconst 1, 1) := by decide +kernel
theorem d_MO_most_33 : decode c_MO_most 33 = .ok (.isub, 1) := by decide +kernel
theorem d_MO_most_34 : decode c_MO_most 34 = .ok (.istore 5, 2) := by decide +kernel
theorem d_MO_most_36 : decode c_MO_most 36 = .ok (.aload_n 0, 1) := by decide +kernel
theorem d_MO_most_37 : decode c_MO_most 37 = .ok (.getfield 22, 3) := by decide +kernel
theorem d_MO_most_40 : decode c_MO_most 40 = .ok (.iload 4, 2) := by decide +kernel
theorem d_MO_most_42 : decode c_MO_most 42 = .ok (.iaload, 1) := by decide +kernel
theorem d_MO_most_43 : decode c_MO_most 43 = .ok (.iload_n 2, 1) := by decide +kernel
theorem d_MO_most_44 : decode c_MO_most 44 = .ok (.if_icmp .ne 14, 3) := by decide +kernel
theorem d_MO_most_47 : decode c_MO_most 47 = .ok (.iload 5, 2) := by decide +kernel
theorem d_MO_most_49 : decode c_MO_most 49 = .ok (.iload_n 3, 1) := by decide +kernel
theorem d_MO_most_50 : decode c_MO_most 50 = .ok (.if_icmp .le 8, 3) := by decide +kernel
theorem d_MO_most_53 : decode c_MO_most 53 = .ok (.iload 5, 2) := by decide +kernel
theorem d_MO_most_55 : decode c_MO_most 55 = .ok (.goto 4, 3) := by decide +kernel
theorem d_MO_most_58 : decode c_MO_most 58 = .ok (.iload_n 3, 1) := by decide +kernel
theorem d_MO_most_59 : decode c_MO_most 59 = .ok (.istore_n 3, 1) := by decide +kernel
theorem d_MO_most_60 : decode c_MO_most 60 = .ok (.iinc 4 1, 3) := by decide +kernel
theorem d_MO_most_63 : decode c_MO_most 63 = .ok (.goto (-58), 3) := by decide +kernel
theorem d_MO_most_66 : decode c_MO_most 66 = .ok (.iload_n 3, 1) := by decide +kernel
theorem d_MO_most_67 : decode c_MO_most 67 = .ok (.ireturn, 1) := by decide +kernel
theorem d_MO_rank_0 : decode c_MO_rank 0 = .ok (.iconst 1, 1) := by decide +kernel
theorem d_MO_rank_1 : decode c_MO_rank 1 = .ok (.istore_n 3, 1) := by decide +kernel
theorem d_MO_rank_2 : decode c_MO_rank 2 = .ok (.aload_n 0, 1) := by decide +kernel
theorem d_MO_rank_3 : decode c_MO_rank 3 = .ok (.iload_n 1, 1) := by decide +kernel
theorem d_MO_rank_4 : decode c_MO_rank 4 = .ok (.iload_n 2, 1) := by decide +kernel
theorem d_MO_rank_5 : decode c_MO_rank 5 = .ok (.invokevirtual 106, 3) := by decide +kernel
theorem d_MO_rank_8 : decode c_MO_rank 8 = .ok (.istore 4, 2) := by decide +kernel
theorem d_MO_rank_10 : decode c_MO_rank 10 = .ok (.iconst 0, 1) := by decide +kernel
theorem d_MO_rank_11 : decode c_MO_rank 11 = .ok (.istore 5, 2) := by decide +kernel
theorem d_MO_rank_13 : decode c_MO_rank 13 = .ok (.iload 5, 2) := by decide +kernel
theorem d_MO_rank_15 : decode c_MO_rank 15 = .ok (.aload_n 0, 1) := by decide +kernel
theorem d_MO_rank_16 : decode c_MO_rank 16 = .ok (.getfield 7, 3) := by decide +kernel
theorem d_MO_rank_19 : decode c_MO_rank 19 = .ok (.iconst 0, 1) := by decide +kernel
theorem d_MO_rank_20 : decode c_MO_rank 20 = .ok (.iaload, 1) := by decide +kernel
theorem d_MO_rank_21 : decode c_MO_rank 21 = .ok (.if_icmp .ge 38, 3) := by decide +kernel
theorem d_MO_rank_24 : decode c_MO_rank 24 = .ok (.iload_n 3, 1) := by decide +kernel
theorem d_MO_rank_25 : decode c_MO_rank 25 = .ok (.aload_n 0, 1) := by decide +kernel
theorem d_MO_rank_26 : decode c_MO_rank 26 = .ok (.iload 5, 2) := by decide +kernel
theorem d_MO_rank_28 : decode c_MO_rank 28 = .ok (.invokevirtual 109, 3) := by decide +kernel
theorem d_MO_rank_31 : decode c_MO_rank 31 = .ok (.ifCond .eq 19, 3) := by decide +kernel
theorem d_MO_rank_34 : decode c_MO_rank 34 = .ok (.aload_n 0, 1) := by decide +kernel
theorem d_MO_rank_35 : decode c_MO_rank 35 = .ok (.iload_n 1, 1) := by decide +kernel
theorem d_MO_rank_36 : decode c_MO_rank 36 = .ok (.iload 5, 2) := by decide +kernel
theorem d_MO_rank_38 : decode c_MO_rank 38 = .ok (.invokevirtual 106, 3) := by decide +kernel
theorem d_MO_rank_41 : decode c_MO_rank 41 = .ok (.iload 4, 2) := by decide +kernel
theorem d_MO_rank_43 : decode c_MO_rank 43 = .ok (.if_icmp .le 7, 3) := by decide +kernel
theorem d_MO_rank_46 : decode c_MO_rank 46 = .ok (.iconst 1, 1) := by decide +kernel
theorem d_MO_rank_47 : decode c_MO_rank 47 = .ok (.goto 4, 3) := by decide +kernel
theorem d_MO_rank_50 : decode c_MO_rank 50 = .ok (.iconst 0, 1) := by decide +kernel
theorem d_MO_rank_51 : decode c_MO_rank 51 = .ok (.iadd, 1) := by decide +kernel
theorem d_MO_rank_52 : decode c_MO_rank 52 = .ok (.istore_n 3, 1) := by decide +kernel
theorem d_MO_rank_53 : decode c_MO_rank 53 = .ok (.iinc 5 1, 3) := by decide +kernel
theorem d_MO_rank_56 : decode c_MO_rank 56 = .ok (.goto (-43), 3) := by decide +kernel
theorem d_MO_rank_59 : decode c_MO_rank 59 = .ok (.iload_n 3, 1) := by decide +kernel
theorem d_MO_rank_60 : decode c_MO_rank 60 = .ok (.ireturn, 1) := by decide +kernel
theorem d_MO_tallies_0 : decode c_MO_tallies 0 = .ok (.aload_n 0, 1) := by decide +kernel
theorem d_MO_tallies_1 : decode c_MO_tallies 1 = .ok (.invokevirtual 112, 3) := by decide +kernel
theorem d_MO_tallies_4 : decode c_MO_tallies 4 = .ok (.aload_n 0, 1) := by decide +kernel
theorem d_MO_tallies_5 : decode c_MO_tallies 5 = .ok (.invokevirtual 115, 3) := by decide +kernel
theorem d_MO_tallies_8 : decode c_MO_tallies 8 = .ok (.iconst 0, 1) := by decide +kernel
theorem d_MO_tallies_9 : decode c_MO_tallies 9 = .ok (.istore_n 1, 1) := by decide +kernel
theorem d_MO_tallies_10 : decode c_MO_tallies 10 = .ok (.iload_n 1, 1) := by decide +kernel
theorem d_MO_tallies_11 : decode c_MO_tallies 11 = .ok (.bipush 20, 2) := by decide +kernel
theorem d_MO_tallies_13 : decode c_MO_tallies 13 = .ok (.if_icmp .ge 61, 3) := by decide +kernel
theorem d_MO_tallies_16 : decode c_MO_tallies 16 = .ok (.aload_n 0, 1) := by decide +kernel
theorem d_MO_tallies_17 : decode c_MO_tallies 17 = .ok (.getfield 25, 3) := by decide +kernel
theorem d_MO_tallies_20 : decode c_MO_tallies 20 = .ok (.iload_n 1, 1) := by decide +kernel
theorem d_MO_tallies_21 : decode c_MO_tallies 21 = .ok (.iconst 0, 1) := by decide +kernel
theorem d_MO_tallies_22 : decode c_MO_tallies 22 = .ok (.iastore, 1) := by decide +kernel
theorem d_MO_tallies_23 : decode c_MO_tallies 23 = .ok (.aload_n 0, 1) := by decide +kernel
theorem d_MO_tallies_24 : decode c_MO_tallies 24 = .ok (.getfield 28, 3) := by decide +kernel
theorem d_MO_tallies_27 : decode c_MO_tallies 27 = .ok (.iload_n 1, 1) := by decide +kernel
theorem d_MO_tallies_28 : decode c_MO_tallies 28 = .ok (.iconst 0, 1) := by decide +kernel
theorem d_MO_tallies_29 : decode c_MO_tallies 29 = .ok (.iastore, 1) := by decide +kernel
theorem d_MO_tallies_30 : decode c_MO_tallies 30 = .ok (.aload_n 0, 1) := by decide +kernel
theorem d_MO_tallies_31 : decode c_MO_tallies 31 = .ok (.getfield 31, 3) := by decide +kernel
theorem d_MO_tallies_34 : decode c_MO_tallies 34 = .ok (.iload_n 1, 1) := by decide +kernel
theorem d_MO_tallies_35 : decode c_MO_tallies 35 = .ok (.aload_n 0, 1) := by decide +kernel
theorem d_MO_tallies_36 : decode c_MO_tallies 36 = .ok (.iload_n 1, 1) := by decide +kernel
theorem d_MO_tallies_37 : decode c_MO_tallies 37 = .ok (.invokevirtual 109, 3) := by decide +kernel
theorem d_MO_tallies_40 : decode c_MO_tallies 40 = .ok (.ifCond .eq 26, 3) := by decide +kernel
theorem d_MO_tallies_43 : decode c_MO_tallies 43 = .ok (.aload_n 0, 1) := by decide +kernel
theorem d_MO_tallies_44 : decode c_MO_tallies 44 = .ok (.iconst 0, 1) := by decide +kernel
theorem d_MO_tallies_45 : decode c_MO_tallies 45 = .ok (.iload_n 1, 1) := by decide +kernel
theorem d_MO_tallies_46 : decode c_MO_tallies 46 = .ok (.invokevirtual 118, 3) := by decide +kernel
theorem d_MO_tallies_49 : decode c_MO_tallies 49 = .ok (.aload_n 0, 1) := by decide +kernel
theorem d_MO_tallies_50 : decode c_MO_tallies 50 = .ok (.iconst 1, 1) := by decide +kernel
theorem d_MO_tallies_51 : decode c_MO_tallies 51 = .ok (.iload_n 1, 1) := by decide +kernel
theorem d_MO_tallies_52 : decode c_MO_tallies 52 = .ok (.invokevirtual 118, 3) := by decide +kernel
theorem d_MO_tallies_55 : decode c_MO_tallies 55 = .ok (.iadd, 1) := by decide +kernel
theorem d_MO_tallies_56 : decode c_MO_tallies 56 = .ok (.aload_n 0, 1) := by decide +kernel
theorem d_MO_tallies_57 : decode c_MO_tallies 57 = .ok (.iconst 2, 1) := by decide +kernel
theorem d_MO_tallies_58 : decode c_MO_tallies 58 = .ok (.iload_n 1, 1) := by decide +kernel
theorem d_MO_tallies_59 : decode c_MO_tallies 59 = .ok (.invokevirtual 118, 3) := by decide +kernel
theorem d_MO_tallies_62 : decode c_MO_tallies 62 = .ok (.iadd, 1) := by decide +kernel
theorem d_MO_tallies_63 : decode c_MO_tallies 63 = .ok (.goto 4, 3) := by decide +kernel
theorem d_MO_tallies_66 : decode c_MO_tallies 66 = .ok (.iconst 0, 1) := by decide +kernel
theorem d_MO_tallies_67 : decode c_MO_tallies 67 = .ok (.iastore, 1) := by decide +kernel
theorem d_MO_tallies_68 : decode c_MO_tallies 68 = .ok (.iinc 1 1, 3) := by decide +kernel
theorem d_MO_tallies_71 : decode c_MO_tallies 71 = .ok (.goto (-61), 3) := by decide +kernel
theorem d_MO_tallies_74 : decode c_MO_tallies 74 = .ok (.iconst 0, 1) := by decide +kernel
theorem d_MO_tallies_75 : decode c_MO_tallies 75 = .ok (.istore_n 1, 1) := by decide +kernel
theorem d_MO_tallies_76 : decode c_MO_tallies 76 = .ok (.iload_n 1, 1) := by decide +kernel
theorem d_MO_tallies_77 : decode c_MO_tallies 77 = .ok (.bipush 36, 2) := by decide +kernel
theorem d_MO_tallies_79 : decode c_MO_tallies 79 = .ok (.if_icmp .ge 64, 3) := by decide +kernel
theorem d_MO_tallies_82 : decode c_MO_tallies 82 = .ok (.aload_n 0, 1) := by decide +kernel
theorem d_MO_tallies_83 : decode c_MO_tallies 83 = .ok (.getfield 55, 3) := by decide +kernel
theorem d_MO_tallies_86 : decode c_MO_tallies 86 = .ok (.iload_n 1, 1) := by decide +kernel
theorem d_MO_tallies_87 : decode c_MO_tallies 87 = .ok (.iaload, 1) := by decide +kernel
theorem d_MO_tallies_88 : decode c_MO_tallies 88 = .ok (.ifCond .lt 49, 3) := by decide +kernel
theorem d_MO_tallies_91 : decode c_MO_tallies 91 = .ok (.aload_n 0, 1) := by decide +kernel
theorem d_MO_tallies_92 : decode c_MO_tallies 92 = .ok (.getfield 22, 3) := by decide +kernel
theorem d_MO_tallies_95 : decode c_MO_tallies 95 = .ok (.aload_n 0, 1) := by decide +kernel
theorem d_MO_tallies_96 : decode c_MO_tallies 96 = .ok (.getfield 55, 3) := by decide +kernel
theorem d_MO_tallies_99 : decode c_MO_tallies 99 = .ok (.iload_n 1, 1) := by decide +kernel
theorem d_MO_tallies_100 : decode c_MO_tallies 100 = .ok (.iaload, 1) := by decide +kernel
theorem d_MO_tallies_101 : decode c_MO_tallies 101 = .ok (.iaload, 1) := by decide +kernel
theorem d_MO_tallies_102 : decode c_MO_tallies 102 = .ok (.istore_n 2, 1) := by decide +kernel
theorem d_MO_tallies_103 : decode c_MO_tallies 103 = .ok (.aload_n 0, 1) := by decide +kernel
theorem d_MO_tallies_104 : decode c_MO_tallies 104 = .ok (.getfield 25, 3) := by decide +kernel
theorem d_MO_tallies_107 : decode c_MO_tallies 107 = .ok (.iload_n 2, 1) := by decide +kernel
theorem d_MO_tallies_108 : decode c_MO_tallies 108 = .ok (.dup2, 1) := by decide +kernel
theorem d_MO_tallies_109 : decode c_MO_tallies 109 = .ok (.iaload, 1) := by decide +kernel
theorem d_MO_tallies_110 : decode c_MO_tallies 110 = .ok (.iconst 3, 1) := by decide +kernel
theorem d_MO_tallies_111 : decode c_MO_tallies 111 = .ok (.iload_n 1, 1) := by decide +kernel
theorem d_MO_tallies_112 : decode c_MO_tallies 112 = .ok (.iconst 3, 1) := by decide +kernel
theorem d_MO_tallies_113 : decode c_MO_tallies 113 = .ok (.irem, 1) := by decide +kernel
theorem d_MO_tallies_114 : decode c_MO_tallies 114 = .ok (.isub, 1) := by decide +kernel
theorem d_MO_tallies_115 : decode c_MO_tallies 115 = .ok (.iadd, 1) := by decide +kernel
theorem d_MO_tallies_116 : decode c_MO_tallies 116 = .ok (.iastore, 1) := by decide +kernel
theorem d_MO_tallies_117 : decode c_MO_tallies 117 = .ok (.aload_n 0, 1) := by decide +kernel
theorem d_MO_tallies_118 : decode c_MO_tallies 118 = .ok (.getfield 28, 3) := by decide +kernel
theorem d_MO_tallies_121 : decode c_MO_tallies 121 = .ok (.iload_n 2, 1) := by decide +kernel
theorem d_MO_tallies_122 : decode c_MO_tallies 122 = .ok (.dup2, 1) := by decide +kernel
theorem d_MO_tallies_123 : decode c_MO_tallies 123 = .ok (.iaload, 1) := by decide +kernel
theorem d_MO_tallies_124 : decode c_MO_tallies 124 = .ok (.iload_n 1, 1) := by decide +kernel
theorem d_MO_tallies_125 : decode c_MO_tallies 125 = .ok (.iconst 3, 1) := by decide +kernel
theorem d_MO_tallies_126 : decode c_MO_tallies 126 = .ok (.irem, 1) := by decide +kernel
theorem d_MO_tallies_127 : decode c_MO_tallies 127 = .ok (.ifCond .ne 7, 3) := by decide +kernel
theorem d_MO_tallies_130 : decode c_MO_tallies 130 = .ok (.iconst 1, 1) := by decide +kernel
theorem d_MO_tallies_131 : decode c_MO_tallies 131 = .ok (.goto 4, 3) := by decide +kernel
theorem d_MO_tallies_134 : decode c_MO_tallies 134 = .ok (.iconst 0, 1) := by decide +kernel
theorem d_MO_tallies_135 : decode c_MO_tallies 135 = .ok (.iadd, 1) := by decide +kernel
theorem d_MO_tallies_136 : decode c_MO_tallies 136 = .ok (.iastore, 1) := by decide +kernel
theorem d_MO_tallies_137 : decode c_MO_tallies 137 = .ok (.iinc 1 1, 3) := by decide +kernel
theorem d_MO_tallies_140 : decode c_MO_tallies 140 = .ok (.goto (-64), 3) := by decide +kernel
theorem d_MO_tallies_143 : decode c_MO_tallies 143 = .ok (.return_, 1) := by decide +kernel
theorem d_MO_standsFor_0 : decode c_MO_standsFor 0 = .ok (.iconst 0, 1) := by decide +kernel
theorem d_MO_standsFor_1 : decode c_MO_standsFor 1 = .ok (.istore_n 2, 1) := by decide +kernel
theorem d_MO_standsFor_2 : decode c_MO_standsFor 2 = .ok (.iload_n 2, 1) := by decide +kernel
theorem d_MO_standsFor_3 : decode c_MO_standsFor 3 = .ok (.iconst 3, 1) := by decide +kernel
theorem d_MO_standsFor_4 : decode c_MO_standsFor 4 = .ok (.if_icmp .ge 45, 3) := by decide +kernel
theorem d_MO_standsFor_7 : decode c_MO_standsFor 7 = .ok (.aload_n 0, 1) := by decide +kernel
theorem d_MO_standsFor_8 : decode c_MO_standsFor 8 = .ok (.getfield 55, 3) := by decide +kernel
theorem d_MO_standsFor_11 : decode c_MO_standsFor 11 = .ok (.iconst 3, 1) := by decide +kernel
theorem d_MO_standsFor_12 : decode c_MO_standsFor 12 = .ok (.iload_n 1, 1) := by decide +kernel
theorem d_MO_standsFor_13 : decode c_MO_standsFor 13 = .ok (.imul, 1) := by decide +kernel
theorem d_MO_standsFor_14 : decode c_MO_standsFor 14 = .ok (.iload_n 2, 1) := by decide +kernel
theorem d_MO_standsFor_15 : decode c_MO_standsFor 15 = .ok (.iadd, 1) := by decide +kernel
theorem d_MO_standsFor_16 : decode c_MO_standsFor 16 = .ok (.iaload, 1) := by decide +kernel
theorem d_MO_standsFor_17 : decode c_MO_standsFor 17 = .ok (.istore_n 3, 1) := by decide +kernel
theorem d_MO_standsFor_18 : decode c_MO_standsFor 18 = .ok (.iload_n 3, 1) := by decide +kernel
theorem d_MO_standsFor_19 : decode c_MO_standsFor 19 = .ok (.ifCond .lt 24, 3) := by decide +kernel
theorem d_MO_standsFor_22 : decode c_MO_standsFor 22 = .ok (.aload_n 0, 1) := by decide +kernel
theorem d_MO_standsFor_23 : decode c_MO_standsFor 23 = .ok (.getfield 34, 3) := by decide +kernel
theorem d_MO_standsFor_26 : decode c_MO_standsFor 26 = .ok (.aload_n 0, 1) := by decide +kernel
theorem d_MO_standsFor_27 : decode c_MO_standsFor 27 = .ok (.getfield 22, 3) := by decide +kernel
theorem d_MO_standsFor_30 : decode c_MO_standsFor 30 = .ok (.iload_n 3, 1) := by decide +kernel
theorem d_MO_standsFor_31 : decode c_MO_standsFor 31 = .ok (.iaload, 1) := by decide +kernel
theorem d_MO_standsFor_32 : decode c_MO_standsFor 32 = .ok (.iaload, 1) := by decide +kernel
theorem d_MO_standsFor_33 : decode c_MO_standsFor 33 = .ok (.ifCond .ge 10, 3) := by decide +kernel
theorem d_MO_standsFor_36 : decode c_MO_standsFor 36 = .ok (.aload_n 0, 1) := by decide +kernel
theorem d_MO_standsFor_37 : decode c_MO_standsFor 37 = .ok (.getfield 22, 3) := by decide +kernel
theorem d_MO_standsFor_40 : decode c_MO_standsFor 40 = .ok (.iload_n 3, 1) := by decide +kernel
theorem d_MO_standsFor_41 : decode c_MO_standsFor 41 = .ok (.iaload, 1) := by decide +kernel
theorem d_MO_standsFor_42 : decode c_MO_standsFor 42 = .ok (.ireturn, 1) := by decide +kernel
theorem d_MO_standsFor_43 : decode c_MO_standsFor 43 = .ok (.iinc 2 1, 3) := by decide +kernel
theorem d_MO_standsFor_46 : decode c_MO_standsFor 46 = .ok (.goto (-44), 3) := by decide +kernel
theorem d_MO_standsFor_49 : decode c_MO_standsFor 49 = .ok (.iconst (-1), 1) := by decide +kernel
theorem d_MO_standsFor_50 : decode c_MO_standsFor 50 = .ok (.ireturn, 1) := by decide +kernel
theorem d_MO_goesRounds_0 : decode c_MO_goesRounds 0 = .ok (.iconst 0, 1) := by decide +kernel
theorem d_MO_goesRounds_1 : decode c_MO_goesRounds 1 = .ok (.istore_n 1, 1) := by decide +kernel
theorem d_MO_goesRounds_2 : decode c_MO_goesRounds 2 = .ok (.iload_n 1, 1) := by decide +kernel
theorem d_MO_goesRounds_3 : decode c_MO_goesRounds 3 = .ok (.bipush 20, 2) := by decide +kernel
theorem d_MO_goesRounds_5 : decode c_MO_goesRounds 5 = .ok (.if_icmp .ge 16, 3) := by decide +kernel
theorem d_MO_goesRounds_8 : decode c_MO_goesRounds 8 = .ok (.aload_n 0, 1) := by decide +kernel
theorem d_MO_goesRounds_9 : decode c_MO_goesRounds 9 = .ok (.getfield 34, 3) := by decide +kernel
theorem d_MO_goesRounds_12 : decode c_MO_goesRounds 12 = .ok (.iload_n 1, 1) := by decide +kernel
theorem d_MO_goesRounds_13 : decode c_MO_goesRounds 13 = .ok (.iconst (-1), 1) := by decide +kernel
theorem d_MO_goesRounds_14 : decode c_MO_goesRounds 14 = .ok (.iastore, 1) := by decide +kernel
theorem d_MO_goesRounds_15 : decode c_MO_goesRounds 15 = .ok (.iinc 1 1, 3) := by decide +kernel
theorem d_MO_goesRounds_18 : decode c_MO_goesRounds 18 = .ok (.goto (-16), 3) := by decide +kernel
theorem d_MO_goesRounds_21 : decode c_MO_goesRounds 21 = .ok (.iconst 0, 1) := by decide +kernel
theorem d_MO_goesRounds_22 : decode c_MO_goesRounds 22 = .ok (.istore_n 1, 1) := by decide +kernel
theorem d_MO_goesRounds_23 : decode c_MO_goesRounds 23 = .ok (.iload_n 1, 1) := by decide +kernel
theorem d_MO_goesRounds_24 : decode c_MO_goesRounds 24 = .ok (.iconst 1, 1) := by decide +kernel
theorem d_MO_goesRounds_25 : decode c_MO_goesRounds 25 = .ok (.iadd, 1) := by decide +kernel
theorem d_MO_goesRounds_26 : decode c_MO_goesRounds 26 = .ok (.aload_n 0, 1) := by decide +kernel
theorem d_MO_goesRounds_27 : decode c_MO_goesRounds 27 = .ok (.getfield 93, 3) := by decide +kernel
theorem d_MO_goesRounds_30 : decode c_MO_goesRounds 30 = .ok (.if_icmp .ge 214, 3) := by decide +kernel
theorem d_MO_goesRounds_33 : decode c_MO_goesRounds 33 = .ok (.iconst 0, 1) := by decide +kernel
theorem d_MO_goesRounds_34 : decode c_MO_goesRounds 34 = .ok (.istore_n 2, 1) := by decide +kernel
theorem d_MO_goesRounds_35 : decode c_MO_goesRounds 35 = .ok (.iload_n 2, 1) := by decide +kernel
theorem d_MO_goesRounds_36 : decode c_MO_goesRounds 36 = .ok (.bipush 20, 2) := by decide +kernel
theorem d_MO_goesRounds_38 : decode c_MO_goesRounds 38 = .ok (.if_icmp .ge 16, 3) := by decide +kernel
theorem d_MO_goesRounds_41 : decode c_MO_goesRounds 41 = .ok (.aload_n 0, 1) := by decide +kernel
theorem d_MO_goesRounds_42 : decode c_MO_goesRounds 42 = .ok (.getfield 52, 3) := by decide +kernel
theorem d_MO_goesRounds_45 : decode c_MO_goesRounds 45 = .ok (.iload_n 2, 1) := by decide +kernel
theorem d_MO_goesRounds_46 : decode c_MO_goesRounds 46 = .ok (.iconst 0, 1) := by decide +kernel
theorem d_MO_goesRounds_47 : decode c_MO_goesRounds 47 = .ok (.iastore, 1) := by decide +kernel
theorem d_MO_goesRounds_48 : decode c_MO_goesRounds 48 = .ok (.iinc 2 1, 3) := by decide +kernel
theorem d_MO_goesRounds_51 : decode c_MO_goesRounds 51 = .ok (.goto (-16), 3) := by decide +kernel
theorem d_MO_goesRounds_54 : decode c_MO_goesRounds 54 = .ok (.aload_n 0, 1) := by decide +kernel
theorem d_MO_goesRounds_55 : decode c_MO_goesRounds 55 = .ok (.getfield 43, 3) := by decide +kernel
theorem d_MO_goesRounds_58 : decode c_MO_goesRounds 58 = .ok (.iload_n 1, 1) := by decide +kernel
theorem d_MO_goesRounds_59 : decode c_MO_goesRounds 59 = .ok (.iconst 0, 1) := by decide +kernel
theorem d_MO_goesRounds_60 : decode c_MO_goesRounds 60 = .ok (.iastore, 1) := by decide +kernel
theorem d_MO_goesRounds_61 : decode c_MO_goesRounds 61 = .ok (.iconst 0, 1) := by decide +kernel
theorem d_MO_goesRounds_62 : decode c_MO_goesRounds 62 = .ok (.istore_n 2, 1) := by decide +kernel
theorem d_MO_goesRounds_63 : decode c_MO_goesRounds 63 = .ok (.iload_n 2, 1) := by decide +kernel
theorem d_MO_goesRounds_64 : decode c_MO_goesRounds 64 = .ok (.bipush 12, 2) := by decide +kernel
theorem d_MO_goesRounds_66 : decode c_MO_goesRounds 66 = .ok (.if_icmp .ge 42, 3) := by decide +kernel
theorem d_MO_goesRounds_69 : decode c_MO_goesRounds 69 = .ok (.aload_n 0, 1) := by decide +kernel
theorem d_MO_goesRounds_70 : decode c_MO_goesRounds 70 = .ok (.iload_n 2, 1) := by decide +kernel
theorem d_MO_goesRounds_71 : decode c_MO_goesRounds 71 = .ok (.invokevirtual 121, 3) := by decide +kernel
theorem d_MO_goesRounds_74 : decode c_MO_goesRounds 74 = .ok (.istore_n 3, 1) := by decide +kernel
theorem d_MO_goesRounds_75 : decode c_MO_goesRounds 75 = .ok (.iload_n 3, 1) := by decide +kernel
theorem d_MO_goesRounds_76 : decode c_MO_goesRounds 76 = .ok (.ifCond .ge 16, 3) := by decide +kernel
theorem d_MO_goesRounds_79 : decode c_MO_goesRounds 79 = .ok (.aload_n 0, 1) := by decide +kernel
theorem d_MO_goesRounds_80 : decode c_MO_goesRounds 80 = .ok (.getfield 43, 3) := by decide +kernel
theorem d_MO_goesRounds_83 : decode c_MO_goesRounds 83 = .ok (.iload_n 1, 1) := by decide +kernel
theorem d_MO_goesRounds_84 : decode c_MO_goesRounds 84 = .ok (.dup2, 1) := by decide +kernel
theorem d_MO_goesRounds_85 : decode c_MO_goesRounds 85 = .ok (.iaload, 1) := by decide +kernel
theorem d_MO_goesRounds_86 : decode c_MO_goesRounds 86 = .ok (.iconst 1, 1) := by decide +kernel
theorem d_MO_goesRounds_87 : decode c_MO_goesRounds 87 = .ok (.iadd, 1) := by decide +kernel
theorem d_MO_goesRounds_88 : decode c_MO_goesRounds 88 = .ok (.iastore, 1) := by decide +kernel
theorem d_MO_goesRounds_89 : decode c_MO_goesRounds 89 = .ok (.goto 13, 3) := by decide +kernel
theorem d_MO_goesRounds_92 : decode c_MO_goesRounds 92 = .ok (.aload_n 0, 1) := by decide +kernel
theorem d_MO_goesRounds_93 : decode c_MO_goesRounds 93 = .ok (.getfield 52, 3) := by decide +kernel
theorem d_MO_goesRounds_96 : decode c_MO_goesRounds 96 = .ok (.iload_n 3, 1) := by decide +kernel
theorem d_MO_goesRounds_97 : decode c_MO_goesRounds 97 = .ok (.dup2, 1) := by decide +kernel
theorem d_MO_goesRounds_98 : decode c_MO_goesRounds 98 = .ok (.iaload, 1) := by decide +kernel
theorem d_MO_goesRounds_99 : decode c_MO_goesRounds 99 = .ok (.iconst 1, 1) := by decide +kernel
theorem d_MO_goesRounds_100 : decode c_MO_goesRounds 100 = .ok (.iadd, 1) := by decide +kernel
theorem d_MO_goesRounds_101 : decode c_MO_goesRounds 101 = .ok (.iastore, 1) := by decide +kernel
theorem d_MO_goesRounds_102 : decode c_MO_goesRounds 102 = .ok (.iinc 2 1, 3) := by decide +kernel
theorem d_MO_goesRounds_105 : decode c_MO_goesRounds 105 = .ok (.goto (-42), 3) := by decide +kernel
theorem d_MO_goesRounds_108 : decode c_MO_goesRounds 108 = .ok (.iconst (-1), 1) := by decide +kernel
theorem d_MO_goesRounds_109 : decode c_MO_goesRounds 109 = .ok (.istore_n 2, 1) := by decide +kernel
theorem d_MO_goesRounds_110 : decode c_MO_goesRounds 110 = .ok (.iconst 0, 1) := by decide +kernel
theorem d_MO_goesRounds_111 : decode c_MO_goesRounds 111 = .ok (.istore_n 3, 1) := by decide +kernel
theorem d_MO_goesRounds_112 : decode c_MO_goesRounds 112 = .ok (.iload_n 3, 1) := by decide +kernel
theorem d_MO_goesRounds_113 : decode c_MO_goesRounds 113 = .ok (.aload_n 0, 1) := by decide +kernel
theorem d_MO_goesRounds_114 : decode c_MO_goesRounds 114 = .ok (.getfield 7, 3) := by decide +kernel
theorem d_MO_goesRounds_117 : decode c_MO_goesRounds 117 = .ok (.iconst 0, 1) := by decide +kernel
theorem d_MO_goesRounds_118 : decode c_MO_goesRounds 118 = .ok (.iaload, 1) := by decide +kernel
theorem d_MO_goesRounds_119 : decode c_MO_goesRounds 119 = .ok (.if_icmp .ge 93, 3) := by decide +kernel
theorem d_MO_goesRounds_122 : decode c_MO_goesRounds 122 = .ok (.aload_n 0, 1) := by decide +kernel
theorem d_MO_goesRounds_123 : decode c_MO_goesRounds 123 = .ok (.iload_n 3, 1) := by decide +kernel
theorem d_MO_goesRounds_124 : decode c_MO_goesRounds 124 = .ok (.invokevirtual 109, 3) := by decide +kernel
theorem d_MO_goesRounds_127 : decode c_MO_goesRounds 127 = .ok (.ifCond .eq 79, 3) := by decide +kernel
theorem d_MO_goesRounds_130 : decode c_MO_goesRounds 130 = .ok (.aload_n 0, 1) := by decide +kernel
theorem d_MO_goesRounds_131 : decode c_MO_goesRounds 131 = .ok (.getfield 34, 3) := by decide +kernel
theorem d_MO_goesRounds_134 : decode c_MO_goesRounds 134 = .ok (.iload_n 3, 1) := by decide +kernel
theorem d_MO_goesRounds_135 : decode c_MO_goesRounds 135 = .ok (.iaload, 1) := by decide +kernel
theorem d_MO_goesRounds_136 : decode c_MO_goesRounds 136 = .ok (.ifCond .ge 70, 3) := by decide +kernel
theorem d_MO_goesRounds_139 : decode c_MO_goesRounds 139 = .ok (.iload_n 2, 1) := by decide +kernel
theorem d_MO_goesRounds_140 : decode c_MO_goesRounds 140 = .ok (.ifCond .lt 48, 3) := by decide +kernel
theorem d_MO_goesRounds_143 : decode c_MO_goesRounds 143 = .ok (.aload_n 0, 1) := by decide +kernel
theorem d_MO_goesRounds_144 : decode c_MO_goesRounds 144 = .ok (.getfield 52, 3) := by decide +kernel
theorem d_MO_goesRounds_147 : decode c_MO_goesRounds 147 = .ok (.iload_n 3, 1) := by decide +kernel
theorem d_MO_goesRounds_148 : decode c_MO_goesRounds 148 = .ok (.iaload, 1) := by decide +kernel
theorem d_MO_goesRounds_149 : decode c_MO_goesRounds 149 = .ok (.aload_n 0, 1) := by decide +kernel
theorem d_MO_goesRounds_150 : decode c_MO_goesRounds 150 = .ok (.getfield 52, 3) := by decide +kernel
theorem d_MO_goesRounds_153 : decode c_MO_goesRounds 153 = .ok (.iload_n 2, 1) := by decide +kernel
theorem d_MO_goesRounds_154 : decode c_MO_goesRounds 154 = .ok (.iaload, 1) := by decide +kernel
theorem d_MO_goesRounds_155 : decode c_MO_goesRounds 155 = .ok (.if_icmp .lt 33, 3) := by decide +kernel
theorem d_MO_goesRounds_158 : decode c_MO_goesRounds 158 = .ok (.aload_n 0, 1) := by decide +kernel
theorem d_MO_goesRounds_159 : decode c_MO_goesRounds 159 = .ok (.getfield 52, 3) := by decide +kernel
theorem d_MO_goesRounds_162 : decode c_MO_goesRounds 162 = .ok (.iload_n 3, 1) := by decide +kernel
theorem d_MO_goesRounds_163 : decode c_MO_goesRounds 163 = .ok (.iaload, 1) := by decide +kernel
theorem d_MO_goesRounds_164 : decode c_MO_goesRounds 164 = .ok (.aload_n 0, 1) := by decide +kernel
theorem d_MO_goesRounds_165 : decode c_MO_goesRounds 165 = .ok (.getfield 52, 3) := by decide +kernel
theorem d_MO_goesRounds_168 : decode c_MO_goesRounds 168 = .ok (.iload_n 2, 1) := by decide +kernel
theorem d_MO_goesRounds_169 : decode c_MO_goesRounds 169 = .ok (.iaload, 1) := by decide +kernel
theorem d_MO_goesRounds_170 : decode c_MO_goesRounds 170 = .ok (.if_icmp .ne 22, 3) := by decide +kernel
theorem d_MO_goesRounds_173 : decode c_MO_goesRounds 173 = .ok (.aload_n 0, 1) := by decide +kernel
theorem d_MO_goesRounds_174 : decode c_MO_goesRounds 174 = .ok (.getfield 31, 3) := by decide +kernel
theorem d_MO_goesRounds_177 : decode c_MO_goesRounds 177 = .ok (.iload_n 3, 1) := by decide +kernel
theorem d_MO_goesRounds_178 : decode c_MO_goesRounds 178 = .ok (.iaload, 1) := by decide +kernel
theorem d_MO_goesRounds_179 : decode c_MO_goesRounds 179 = .ok (.aload_n 0, 1) := by decide +kernel
theorem d_MO_goesRounds_180 : decode c_MO_goesRounds 180 = .ok (.getfield 31, 3) := by decide +kernel
theorem d_MO_goesRounds_183 : decode c_MO_goesRounds 183 = .ok (.iload_n 2, 1) := by decide +kernel
theorem d_MO_goesRounds_184 : decode c_MO_goesRounds 184 = .ok (.iaload, 1) := by decide +kernel
theorem d_MO_goesRounds_185 : decode c_MO_goesRounds 185 = .ok (.if_icmp .lt 7, 3) := by decide +kernel
theorem d_MO_goesRounds_188 : decode c_MO_goesRounds 188 = .ok (.iconst 1, 1) := by decide +kernel
theorem d_MO_goesRounds_189 : decode c_MO_goesRounds 189 = .ok (.goto 4, 3) := by decide +kernel
theorem d_MO_goesRounds_192 : decode c_MO_goesRounds 192 = .ok (.iconst 0, 1) := by decide +kernel
theorem d_MO_goesRounds_193 : decode c_MO_goesRounds 193 = .ok (.istore 4, 2) := by decide +kernel
theorem d_MO_goesRounds_195 : decode c_MO_goesRounds 195 = .ok (.iload 4, 2) := by decide +kernel
theorem d_MO_goesRounds_197 : decode c_MO_goesRounds 197 = .ok (.ifCond .eq 7, 3) := by decide +kernel
theorem d_MO_goesRounds_200 : decode c_MO_goesRounds 200 = .ok (.iload_n 3, 1) := by decide +kernel
theorem d_MO_goesRounds_201 : decode c_MO_goesRounds 201 = .ok (.goto 4, 3) := by decide +kernel
theorem d_MO_goesRounds_204 : decode c_MO_goesRounds 204 = .ok (.iload_n 2, 1) := by decide +kernel
theorem d_MO_goesRounds_205 : decode c_MO_goesRounds 205 = .ok (.istore_n 2, 1) := by decide +kernel
theorem d_MO_goesRounds_206 : decode c_MO_goesRounds 206 = .ok (.iinc 3 1, 3) := by decide +kernel
theorem d_MO_goesRounds_209 : decode c_MO_goesRounds 209 = .ok (.goto (-97), 3) := by decide +kernel
theorem d_MO_goesRounds_212 : decode c_MO_goesRounds 212 = .ok (.aload_n 0, 1) := by decide +kernel
theorem d_MO_goesRounds_213 : decode c_MO_goesRounds 213 = .ok (.getfield 34, 3) := by decide +kernel
theorem d_MO_goesRounds_216 : decode c_MO_goesRounds 216 = .ok (.iload_n 2, 1) := by decide +kernel
theorem d_MO_goesRounds_217 : decode c_MO_goesRounds 217 = .ok (.iload_n 1, 1) := by decide +kernel
theorem d_MO_goesRounds_218 : decode c_MO_goesRounds 218 = .ok (.iastore, 1) := by decide +kernel
theorem d_MO_goesRounds_219 : decode c_MO_goesRounds 219 = .ok (.aload_n 0, 1) := by decide +kernel
theorem d_MO_goesRounds_220 : decode c_MO_goesRounds 220 = .ok (.getfield 37, 3) := by decide +kernel
theorem d_MO_goesRounds_223 : decode c_MO_goesRounds 223 = .ok (.iload_n 1, 1) := by decide +kernel
theorem d_MO_goesRounds_224 : decode c_MO_goesRounds 224 = .ok (.iload_n 2, 1) := by decide +kernel
theorem d_MO_goesRounds_225 : decode c_MO_goesRounds 225 = .ok (.iastore, 1) := by decide +kernel
theorem d_MO_goesRounds_226 : decode c_MO_goesRounds 226 = .ok (.aload_n 0, 1) := by decide +kernel
theorem d_MO_goesRounds_227 : decode c_MO_goesRounds 227 = .ok (.getfield 40, 3) := by decide +kernel
theorem d_MO_goesRounds_230 : decode c_MO_goesRounds 230 = .ok (.iload_n 1, 1) := by decide +kernel
theorem d_MO_goesRounds_231 : decode c_MO_goesRounds 231 = .ok (.aload_n 0, 1) := by decide +kernel
theorem d_MO_goesRounds_232 : decode c_MO_goesRounds 232 = .ok (.getfield 52, 3) := by decide +kernel
theorem d_MO_goesRounds_235 : decode c_MO_goesRounds 235 = .ok (.iload_n 2, 1) := by decide +kernel
theorem d_MO_goesRounds_236 : decode c_MO_goesRounds 236 = .ok (.iaload, 1) := by decide +kernel
theorem d_MO_goesRounds_237 : decode c_MO_goesRounds 237 = .ok (.iastore, 1) := by decide +kernel
theorem d_MO_goesRounds_238 : decode c_MO_goesRounds 238 = .ok (.iinc 1 1, 3) := by decide +kernel
theorem d_MO_goesRounds_241 : decode c_MO_goesRounds 241 = .ok (.goto (-218), 3) := by decide +kernel
theorem d_MO_goesRounds_244 : decode c_MO_goesRounds 244 = .ok (.return_, 1) := by decide +kernel
theorem d_MO_tally_0 : decode c_MO_tally 0 = .ok (.bipush 10, 2) := by decide +kernel
theorem d_MO_tally_2 : decode c_MO_tally 2 = .ok (.aload_n 0, 1) := by decide +kernel
theorem d_MO_tally_3 : decode c_MO_tally 3 = .ok (.getfield 25, 3) := by decide +kernel
theorem d_MO_tally_6 : decode c_MO_tally 6 = .ok (.iload_n 1, 1) := by decide +kernel
theorem d_MO_tally_7 : decode c_MO_tally 7 = .ok (.iaload, 1) := by decide +kernel
theorem d_MO_tally_8 : decode c_MO_tally 8 = .ok (.imul, 1) := by decide +kernel
theorem d_MO_tally_9 : decode c_MO_tally 9 = .ok (.aload_n 0, 1) := by decide +kernel
theorem d_MO_tally_10 : decode c_MO_tally 10 = .ok (.getfield 31, 3) := by decide +kernel
theorem d_MO_tally_13 : decode c_MO_tally 13 = .ok (.iload_n 1, 1) := by decide +kernel
theorem d_MO_tally_14 : decode c_MO_tally 14 = .ok (.iaload, 1) := by decide +kernel
theorem d_MO_tally_15 : decode c_MO_tally 15 = .ok (.isub, 1) := by decide +kernel
theorem d_MO_tally_16 : decode c_MO_tally 16 = .ok (.ireturn, 1) := by decide +kernel
theorem d_MO_isAhead_0 : decode c_MO_isAhead 0 = .ok (.aload_n 0, 1) := by decide +kernel
theorem d_MO_isAhead_1 : decode c_MO_isAhead 1 = .ok (.getfield 7, 3) := by decide +kernel
theorem d_MO_isAhead_4 : decode c_MO_isAhead 4 = .ok (.iconst 1, 1) := by decide +kernel
theorem d_MO_isAhead_5 : decode c_MO_isAhead 5 = .ok (.iaload, 1) := by decide +kernel
theorem d_MO_isAhead_6 : decode c_MO_isAhead 6 = .ok (.iconst 1, 1) := by decide +kernel
theorem d_MO_isAhead_7 : decode c_MO_isAhead 7 = .ok (.if_icmp .ne 42, 3) := by decide +kernel
theorem d_MO_isAhead_10 : decode c_MO_isAhead 10 = .ok (.aload_n 0, 1) := by decide +kernel
theorem d_MO_isAhead_11 : decode c_MO_isAhead 11 = .ok (.getfield 34, 3) := by decide +kernel
theorem d_MO_isAhead_14 : decode c_MO_isAhead 14 = .ok (.iload_n 2, 1) := by decide +kernel
theorem d_MO_isAhead_15 : decode c_MO_isAhead 15 = .ok (.iaload, 1) := by decide +kernel
theorem d_MO_isAhead_16 : decode c_MO_isAhead 16 = .ok (.ifCond .lt 31, 3) := by decide +kernel
theorem d_MO_isAhead_19 : decode c_MO_isAhead 19 = .ok (.aload_n 0, 1) := by decide +kernel
theorem d_MO_isAhead_20 : decode c_MO_isAhead 20 = .ok (.getfield 34, 3) := by decide +kernel
theorem d_MO_isAhead_23 : decode c_MO_isAhead 23 = .ok (.iload_n 1, 1) := by decide +kernel
theorem d_MO_isAhead_24 : decode c_MO_isAhead 24 = .ok (.iaload, 1) := by decide +kernel
theorem d_MO_isAhead_25 : decode c_MO_isAhead 25 = .ok (.ifCond .lt 18, 3) := by decide +kernel
theorem d_MO_isAhead_28 : decode c_MO_isAhead 28 = .ok (.aload_n 0, 1) := by decide +kernel
theorem d_MO_isAhead_29 : decode c_MO_isAhead 29 = .ok (.getfield 34, 3) := by decide +kernel
theorem d_MO_isAhead_32 : decode c_MO_isAhead 32 = .ok (.iload_n 1, 1) := by decide +kernel
theorem d_MO_isAhead_33 : decode c_MO_isAhead 33 = .ok (.iaload, 1) := by decide +kernel
theorem d_MO_isAhead_34 : decode c_MO_isAhead 34 = .ok (.aload_n 0, 1) := by decide +kernel
theorem d_MO_isAhead_35 : decode c_MO_isAhead 35 = .ok (.getfield 34, 3) := by decide +kernel
theorem d_MO_isAhead_38 : decode c_MO_isAhead 38 = .ok (.iload_n 2, 1) := by decide +kernel
theorem d_MO_isAhead_39 : decode c_MO_isAhead 39 = .ok (.iaload, 1) := by decide +kernel
theorem d_MO_isAhead_40 : decode c_MO_isAhead 40 = .ok (.if_icmp .le 7, 3) := by decide +kernel
theorem d_MO_isAhead_43 : decode c_MO_isAhead 43 = .ok (.iconst 1, 1) := by decide +kernel
theorem d_MO_isAhead_44 : decode c_MO_isAhead 44 = .ok (.goto 4, 3) := by decide +kernel
theorem d_MO_isAhead_47 : decode c_MO_isAhead 47 = .ok (.iconst 0, 1) := by decide +kernel
theorem d_MO_isAhead_48 : decode c_MO_isAhead 48 = .ok (.ireturn, 1) := by decide +kernel
theorem d_MO_isAhead_49 : decode c_MO_isAhead 49 = .ok (.aload_n 0, 1) := by decide +kernel
theorem d_MO_isAhead_50 : decode c_MO_isAhead 50 = .ok (.iload_n 1, 1) := by decide +kernel
theorem d_MO_isAhead_51 : decode c_MO_isAhead 51 = .ok (.invokevirtual 124, 3) := by decide +kernel
theorem d_MO_isAhead_54 : decode c_MO_isAhead 54 = .ok (.aload_n 0, 1) := by decide +kernel
theorem d_MO_isAhead_55 : decode c_MO_isAhead 55 = .ok (.iload_n 2, 1) := by decide +kernel
theorem d_MO_isAhead_56 : decode c_MO_isAhead 56 = .ok (.invokevirtual 124, 3) := by decide +kernel
theorem d_MO_isAhead_59 : decode c_MO_isAhead 59 = .ok (.isub, 1) := by decide +kernel
theorem d_MO_isAhead_60 : decode c_MO_isAhead 60 = .ok (.istore_n 3, 1) := by decide +kernel
theorem d_MO_isAhead_61 : decode c_MO_isAhead 61 = .ok (.iload_n 3, 1) := by decide +kernel
theorem d_MO_isAhead_62 : decode c_MO_isAhead 62 = .ok (.ifCond .ne 12, 3) := by decide +kernel
theorem d_MO_isAhead_65 : decode c_MO_isAhead 65 = .ok (.aload_n 0, 1) := by decide +kernel
theorem d_MO_isAhead_66 : decode c_MO_isAhead 66 = .ok (.getfield 7, 3) := by decide +kernel
theorem d_MO_isAhead_69 : decode c_MO_isAhead 69 = .ok (.iconst 3, 1) := by decide +kernel
theorem d_MO_isAhead_70 : decode c_MO_isAhead 70 = .ok (.iaload, 1) := by decide +kernel
theorem d_MO_isAhead_71 : decode c_MO_isAhead 71 = .ok (.ifCond .ne 13, 3) := by decide +kernel
theorem d_MO_isAhead_74 : decode c_MO_isAhead 74 = .ok (.iload_n 3, 1) := by decide +kernel
theorem d_MO_isAhead_75 : decode c_MO_isAhead 75 = .ok (.ifCond .le 7, 3) := by decide +kernel
theorem d_MO_isAhead_78 : decode c_MO_isAhead 78 = .ok (.iconst 1, 1) := by decide +kernel
theorem d_MO_isAhead_79 : decode c_MO_isAhead 79 = .ok (.goto 4, 3) := by decide +kernel
theorem d_MO_isAhead_82 : decode c_MO_isAhead 82 = .ok (.iconst 0, 1) := by decide +kernel
theorem d_MO_isAhead_83 : decode c_MO_isAhead 83 = .ok (.ireturn, 1) := by decide +kernel
theorem d_MO_isAhead_84 : decode c_MO_isAhead 84 = .ok (.aload_n 0, 1) := by decide +kernel
theorem d_MO_isAhead_85 : decode c_MO_isAhead 85 = .ok (.getfield 28, 3) := by decide +kernel
theorem d_MO_isAhead_88 : decode c_MO_isAhead 88 = .ok (.iload_n 1, 1) := by decide +kernel
theorem d_MO_isAhead_89 : decode c_MO_isAhead 89 = .ok (.iaload, 1) := by decide +kernel
theorem d_MO_isAhead_90 : decode c_MO_isAhead 90 = .ok (.aload_n 0, 1) := by decide +kernel
theorem d_MO_isAhead_91 : decode c_MO_isAhead 91 = .ok (.getfield 28, 3) := by decide +kernel
theorem d_MO_isAhead_94 : decode c_MO_isAhead 94 = .ok (.iload_n 2, 1) := by decide +kernel
theorem d_MO_isAhead_95 : decode c_MO_isAhead 95 = .ok (.iaload, 1) := by decide +kernel
theorem d_MO_isAhead_96 : decode c_MO_isAhead 96 = .ok (.isub, 1) := by decide +kernel
theorem d_MO_isAhead_97 : decode c_MO_isAhead 97 = .ok (.istore_n 3, 1) := by decide +kernel
theorem d_MO_isAhead_98 : decode c_MO_isAhead 98 = .ok (.iload_n 3, 1) := by decide +kernel
theorem d_MO_isAhead_99 : decode c_MO_isAhead 99 = .ok (.ifCond .ne 19, 3) := by decide +kernel
theorem d_MO_isAhead_102 : decode c_MO_isAhead 102 = .ok (.aload_n 0, 1) := by decide +kernel
theorem d_MO_isAhead_103 : decode c_MO_isAhead 103 = .ok (.getfield 31, 3) := by decide +kernel
theorem d_MO_isAhead_106 : decode c_MO_isAhead 106 = .ok (.iload_n 2, 1) := by decide +kernel
theorem d_MO_isAhead_107 : decode c_MO_isAhead 107 = .ok (.iaload, 1) := by decide +kernel
theorem d_MO_isAhead_108 : decode c_MO_isAhead 108 = .ok (.aload_n 0, 1) := by decide +kernel
theorem d_MO_isAhead_109 : decode c_MO_isAhead 109 = .ok (.getfield 31, 3) := by decide +kernel
theorem d_MO_isAhead_112 : decode c_MO_isAhead 112 = .ok (.iload_n 1, 1) := by decide +kernel
theorem d_MO_isAhead_113 : decode c_MO_isAhead 113 = .ok (.iaload, 1) := by decide +kernel
theorem d_MO_isAhead_114 : decode c_MO_isAhead 114 = .ok (.isub, 1) := by decide +kernel
theorem d_MO_isAhead_115 : decode c_MO_isAhead 115 = .ok (.goto 4, 3) := by decide +kernel
theorem d_MO_isAhead_118 : decode c_MO_isAhead 118 = .ok (.iload_n 3, 1) := by decide +kernel
theorem d_MO_isAhead_119 : decode c_MO_isAhead 119 = .ok (.istore_n 3, 1) := by decide +kernel
theorem d_MO_isAhead_120 : decode c_MO_isAhead 120 = .ok (.iload_n 3, 1) := by decide +kernel
theorem d_MO_isAhead_121 : decode c_MO_isAhead 121 = .ok (.ifCond .gt 12, 3) := by decide +kernel
theorem d_MO_isAhead_124 : decode c_MO_isAhead 124 = .ok (.iload_n 3, 1) := by decide +kernel
theorem d_MO_isAhead_125 : decode c_MO_isAhead 125 = .ok (.ifCond .ne 12, 3) := by decide +kernel
theorem d_MO_isAhead_128 : decode c_MO_isAhead 128 = .ok (.iload_n 1, 1) := by decide +kernel
theorem d_MO_isAhead_129 : decode c_MO_isAhead 129 = .ok (.iload_n 2, 1) := by decide +kernel
theorem d_MO_isAhead_130 : decode c_MO_isAhead 130 = .ok (.if_icmp .ge 7, 3) := by decide +kernel
theorem d_MO_isAhead_133 : decode c_MO_isAhead 133 = .ok (.iconst 1, 1) := by decide +kernel
theorem d_MO_isAhead_134 : decode c_MO_isAhead 134 = .ok (.goto 4, 3) := by decide +kernel
theorem d_MO_isAhead_137 : decode c_MO_isAhead 137 = .ok (.iconst 0, 1) := by decide +kernel
theorem d_MO_isAhead_138 : decode c_MO_isAhead 138 = .ok (.ireturn, 1) := by decide +kernel
theorem d_MO_orders_0 : decode c_MO_orders 0 = .ok (.iconst 0, 1) := by decide +kernel
theorem d_MO_orders_1 : decode c_MO_orders 1 = .ok (.istore_n 1, 1) := by decide +kernel
theorem d_MO_orders_2 : decode c_MO_orders 2 = .ok (.iload_n 1, 1) := by decide +kernel
theorem d_MO_orders_3 : decode c_MO_orders 3 = .ok (.bipush 20, 2) := by decide +kernel
theorem d_MO_orders_5 : decode c_MO_orders 5 = .ok (.if_icmp .ge 23, 3) := by decide +kernel
theorem d_MO_orders_8 : decode c_MO_orders 8 = .ok (.aload_n 0, 1) := by decide +kernel
theorem d_MO_orders_9 : decode c_MO_orders 9 = .ok (.getfield 46, 3) := by decide +kernel
theorem d_MO_orders_12 : decode c_MO_orders 12 = .ok (.iload_n 1, 1) := by decide +kernel
theorem d_MO_orders_13 : decode c_MO_orders 13 = .ok (.iconst 0, 1) := by decide +kernel
theorem d_MO_orders_14 : decode c_MO_orders 14 = .ok (.iastore, 1) := by decide +kernel
theorem d_MO_orders_15 : decode c_MO_orders 15 = .ok (.aload_n 0, 1) := by decide +kernel
theorem d_MO_orders_16 : decode c_MO_orders 16 = .ok (.getfield 52, 3) := by decide +kernel
theorem d_MO_orders_19 : decode c_MO_orders 19 = .ok (.iload_n 1, 1) := by decide +kernel
theorem d_MO_orders_20 : decode c_MO_orders 20 = .ok (.iconst 0, 1) := by decide +kernel
theorem d_MO_orders_21 : decode c_MO_orders 21 = .ok (.iastore, 1) := by decide +kernel
theorem d_MO_orders_22 : decode c_MO_orders 22 = .ok (.iinc 1 1, 3) := by decide +kernel
theorem d_MO_orders_25 : decode c_MO_orders 25 = .ok (.goto (-23), 3) := by decide +kernel
theorem d_MO_orders_28 : decode c_MO_orders 28 = .ok (.iconst 0, 1) := by decide +kernel
theorem d_MO_orders_29 : decode c_MO_orders 29 = .ok (.istore_n 1, 1) := by decide +kernel
theorem d_MO_orders_30 : decode c_MO_orders 30 = .ok (.iload_n 1, 1) := by decide +kernel
theorem d_MO_orders_31 : decode c_MO_orders 31 = .ok (.aload_n 0, 1) := by decide +kernel
theorem d_MO_orders_32 : decode c_MO_orders 32 = .ok (.getfield 7, 3) := by decide +kernel
theorem d_MO_orders_35 : decode c_MO_orders 35 = .ok (.iconst 0, 1) := by decide +kernel
theorem d_MO_orders_36 : decode c_MO_orders 36 = .ok (.iaload, 1) := by decide +kernel
theorem d_MO_orders_37 : decode c_MO_orders 37 = .ok (.if_icmp .ge 124, 3) := by decide +kernel
theorem d_MO_orders_40 : decode c_MO_orders 40 = .ok (.aload_n 0, 1) := by decide +kernel
theorem d_MO_orders_41 : decode c_MO_orders 41 = .ok (.iload_n 1, 1) := by decide +kernel
theorem d_MO_orders_42 : decode c_MO_orders 42 = .ok (.invokevirtual 109, 3) := by decide +kernel
theorem d_MO_orders_45 : decode c_MO_orders 45 = .ok (.ifCond .eq 110, 3) := by decide +kernel
theorem d_MO_orders_48 : decode c_MO_orders 48 = .ok (.iconst 0, 1) := by decide +kernel
theorem d_MO_orders_49 : decode c_MO_orders 49 = .ok (.istore_n 2, 1) := by decide +kernel
theorem d_MO_orders_50 : decode c_MO_orders 50 = .ok (.iconst 0, 1) := by decide +kernel
theorem d_MO_orders_51 : decode c_MO_orders 51 = .ok (.istore_n 3, 1) := by decide +kernel
theorem d_MO_orders_52 : decode c_MO_orders 52 = .ok (.iconst 0, 1) := by decide +kernel
theorem d_MO_orders_53 : decode c_MO_orders 53 = .ok (.istore 4, 2) := by decide +kernel
theorem d_MO_orders_55 : decode c_MO_orders 55 = .ok (.iload 4, 2) := by decide +kernel
theorem d_MO_orders_57 : decode c_MO_orders 57 = .ok (.aload_n 0, 1) := by decide +kernel
theorem d_MO_orders_58 : decode c_MO_orders 58 = .ok (.getfield 7, 3) := by decide +kernel
theorem d_MO_orders_61 : decode c_MO_orders 61 = .ok (.iconst 0, 1) := by decide +kernel
theorem d_MO_orders_62 : decode c_MO_orders 62 = .ok (.iaload, 1) := by decide +kernel
theorem d_MO_orders_63 : decode c_MO_orders 63 = .ok (.if_icmp .ge 76, 3) := by decide +kernel
theorem d_MO_orders_66 : decode c_MO_orders 66 = .ok (.aload_n 0, 1) := by decide +kernel
theorem d_MO_orders_67 : decode c_MO_orders 67 = .ok (.iload 4, 2) := by decide +kernel
theorem d_MO_orders_69 : decode c_MO_orders 69 = .ok (.invokevirtual 109, 3) := by decide +kernel
theorem d_MO_orders_72 : decode c_MO_orders 72 = .ok (.ifCond .eq 61, 3) := by decide +kernel
theorem d_MO_orders_75 : decode c_MO_orders 75 = .ok (.iload 4, 2) := by decide +kernel
theorem d_MO_orders_77 : decode c_MO_orders 77 = .ok (.iload_n 1, 1) := by decide +kernel
theorem d_MO_orders_78 : decode c_MO_orders 78 = .ok (.if_icmp .eq 55, 3) := by decide +kernel
theorem d_MO_orders_81 : decode c_MO_orders 81 = .ok (.iload_n 2, 1) := by decide +kernel
theorem d_MO_orders_82 : decode c_MO_orders 82 = .ok (.aload_n 0, 1) := by decide +kernel
theorem d_MO_orders_83 : decode c_MO_orders 83 = .ok (.iload 4, 2) := by decide +kernel
theorem d_MO_orders_85 : decode c_MO_orders 85 = .ok (.iload_n 1, 1) := by decide +kernel
theorem d_MO_orders_86 : decode c_MO_orders 86 = .ok (.invokevirtual 127, 3) := by decide +kernel
theorem d_MO_orders_89 : decode c_MO_orders 89 = .ok (.ifCond .eq 7, 3) := by decide +kernel
theorem d_MO_orders_92 : decode c_MO_orders 92 = .ok (.iconst 1, 1) := by decide +kernel
theorem d_MO_orders_93 : decode c_MO_orders 93 = .ok (.goto 4, 3) := by decide +kernel
theorem d_MO_orders_96 : decode c_MO_orders 96 = .ok (.iconst 0, 1) := by decide +kernel
theorem d_MO_orders_97 : decode c_MO_orders 97 = .ok (.iadd, 1) := by decide +kernel
theorem d_MO_orders_98 : decode c_MO_orders 98 = .ok (.istore_n 2, 1) := by decide +kernel
theorem d_MO_orders_99 : decode c_MO_orders 99 = .ok (.iload_n 3, 1) := by decide +kernel
theorem d_MO_orders_100 : decode c_MO_orders 100 = .ok (.aload_n 0, 1) := by decide +kernel
theorem d_MO_orders_101 : decode c_MO_orders 101 = .ok (.iload 4, 2) := by decide +kernel
theorem d_MO_orders_103 : decode c_MO_orders 103 = .ok (.iload_n 1, 1) := by decide +kernel
theorem d_MO_orders_104 : decode c_MO_orders 104 = .ok (.invokevirtual 127, 3) := by decide +kernel
theorem d_MO_orders_107 : decode c_MO_orders 107 = .ok (.ifCond .ne 19, 3) := by decide +kernel
theorem d_MO_orders_110 : decode c_MO_orders 110 = .ok (.aload_n 0, 1) := by decide +kernel
theorem d_MO_orders_111 : decode c_MO_orders 111 = .ok (.iload_n 1, 1) := by decide +kernel
theorem d_MO_orders_112 : decode c_MO_orders 112 = .ok (.iload 4, 2) := by decide +kernel
theorem d_MO_orders_114 : decode c_MO_orders 114 = .ok (.invokevirtual 127, 3) := by decide +kernel
theorem d_MO_orders_117 : decode c_MO_orders 117 = .ok (.ifCond .ne 13, 3) := by decide +kernel
theorem d_MO_orders_120 : decode c_MO_orders 120 = .ok (.iload 4, 2) := by decide +kernel
theorem d_MO_orders_122 : decode c_MO_orders 122 = .ok (.iload_n 1, 1) := by decide +kernel
theorem d_MO_orders_123 : decode c_MO_orders 123 = .ok (.if_icmp .ge 7, 3) := by decide +kernel
theorem d_MO_orders_126 : decode c_MO_orders 126 = .ok (.iconst 1, 1) := by decide +kernel
theorem d_MO_orders_127 : decode c_MO_orders 127 = .ok (.goto 4, 3) := by decide +kernel
theorem d_MO_orders_130 : decode c_MO_orders 130 = .ok (.iconst 0, 1) := by decide +kernel
theorem d_MO_orders_131 : decode c_MO_orders 131 = .ok (.iadd, 1) := by decide +kernel
theorem d_MO_orders_132 : decode c_MO_orders 132 = .ok (.istore_n 3, 1) := by decide +kernel
theorem d_MO_orders_133 : decode c_MO_orders 133 = .ok (.iinc 4 1, 3) := by decide +kernel
theorem d_MO_orders_136 : decode c_MO_orders 136 = .ok (.goto (-81), 3) := by decide +kernel
theorem d_MO_orders_139 : decode c_MO_orders 139 = .ok (.aload_n 0, 1) := by decide +kernel
theorem d_MO_orders_140 : decode c_MO_orders 140 = .ok (.getfield 46, 3) := by decide +kernel
theorem d_MO_orders_143 : decode c_MO_orders 143 = .ok (.iload_n 1, 1) := by decide +kernel
theorem d_MO_orders_144 : decode c_MO_orders 144 = .ok (.iconst 1, 1) := by decide +kernel
theorem d_MO_orders_145 : decode c_MO_orders 145 = .ok (.iload_n 2, 1) := by decide +kernel
theorem d_MO_orders_146 : decode c_MO_orders 146 = .ok (.iadd, 1) := by decide +kernel
theorem d_MO_orders_147 : decode c_MO_orders 147 = .ok (.iastore, 1) := by decide +kernel
theorem d_MO_orders_148 : decode c_MO_orders 148 = .ok (.aload_n 0, 1) := by decide +kernel
theorem d_MO_orders_149 : decode c_MO_orders 149 = .ok (.getfield 49, 3) := by decide +kernel
theorem d_MO_orders_152 : decode c_MO_orders 152 = .ok (.iload_n 3, 1) := by decide +kernel
theorem d_MO_orders_153 : decode c_MO_orders 153 = .ok (.iload_n 1, 1) := by decide +kernel
theorem d_MO_orders_154 : decode c_MO_orders 154 = .ok (.iastore, 1) := by decide +kernel
theorem d_MO_orders_155 : decode c_MO_orders 155 = .ok (.iinc 1 1, 3) := by decide +kernel
theorem d_MO_orders_158 : decode c_MO_orders 158 = .ok (.goto (-128), 3) := by decide +kernel
theorem d_MO_orders_161 : decode c_MO_orders 161 = .ok (.return_, 1) := by decide +kernel
theorem d_MO_prizeOf_0 : decode c_MO_prizeOf 0 = .ok (.iload_n 1, 1) := by decide +kernel
theorem d_MO_prizeOf_1 : decode c_MO_prizeOf 1 = .ok (.aload_n 0, 1) := by decide +kernel
theorem d_MO_prizeOf_2 : decode c_MO_prizeOf 2 = .ok (.getfield 7, 3) := by decide +kernel
theorem d_MO_prizeOf_5 : decode c_MO_prizeOf 5 = .ok (.iconst 2, 1) := by decide +kernel
theorem d_MO_prizeOf_6 : decode c_MO_prizeOf 6 = .ok (.iaload, 1) := by decide +kernel
theorem d_MO_prizeOf_7 : decode c_MO_prizeOf 7 = .ok (.if_icmp .gt 16, 3) := by decide +kernel
theorem d_MO_prizeOf_10 : decode c_MO_prizeOf 10 = .ok (.aload_n 0, 1) := by decide +kernel
theorem d_MO_prizeOf_11 : decode c_MO_prizeOf 11 = .ok (.getfield 7, 3) := by decide +kernel
theorem d_MO_prizeOf_14 : decode c_MO_prizeOf 14 = .ok (.iconst 4, 1) := by decide +kernel
theorem d_MO_prizeOf_15 : decode c_MO_prizeOf 15 = .ok (.iload_n 1, 1) := by decide +kernel
theorem d_MO_prizeOf_16 : decode c_MO_prizeOf 16 = .ok (.iadd, 1) := by decide +kernel
theorem d_MO_prizeOf_17 : decode c_MO_prizeOf 17 = .ok (.iconst 1, 1) := by decide +kernel
theorem d_MO_prizeOf_18 : decode c_MO_prizeOf 18 = .ok (.isub, 1) := by decide +kernel
theorem d_MO_prizeOf_19 : decode c_MO_prizeOf 19 = .ok (.iaload, 1) := by decide +kernel
theorem d_MO_prizeOf_20 : decode c_MO_prizeOf 20 = .ok (.goto 4, 3) := by decide +kernel
theorem d_MO_prizeOf_23 : decode c_MO_prizeOf 23 = .ok (.iconst 0, 1) := by decide +kernel
theorem d_MO_prizeOf_24 : decode c_MO_prizeOf 24 = .ok (.ireturn, 1) := by decide +kernel
theorem d_MO_shares_0 : decode c_MO_shares 0 = .ok (.iconst 0, 1) := by decide +kernel
theorem d_MO_shares_1 : decode c_MO_shares 1 = .ok (.istore_n 3, 1) := by decide +kernel
theorem d_MO_shares_2 : decode c_MO_shares 2 = .ok (.iconst 0, 1) := by decide +kernel
theorem d_MO_shares_3 : decode c_MO_shares 3 = .ok (.istore 4, 2) := by decide +kernel
theorem d_MO_shares_5 : decode c_MO_shares 5 = .ok (.iload 4, 2) := by decide +kernel
theorem d_MO_shares_7 : decode c_MO_shares 7 = .ok (.aload_n 0, 1) := by decide +kernel
theorem d_MO_shares_8 : decode c_MO_shares 8 = .ok (.getfield 7, 3) := by decide +kernel
theorem d_MO_shares_11 : decode c_MO_shares 11 = .ok (.iconst 0, 1) := by decide +kernel
theorem d_MO_shares_12 : decode c_MO_shares 12 = .ok (.iaload, 1) := by decide +kernel
theorem d_MO_shares_13 : decode c_MO_shares 13 = .ok (.if_icmp .ge 28, 3) := by decide +kernel
theorem d_MO_shares_16 : decode c_MO_shares 16 = .ok (.iload_n 3, 1) := by decide +kernel
theorem d_MO_shares_17 : decode c_MO_shares 17 = .ok (.aload_n 0, 1) := by decide +kernel
theorem d_MO_shares_18 : decode c_MO_shares 18 = .ok (.getfield 22, 3) := by decide +kernel
theorem d_MO_shares_21 : decode c_MO_shares 21 = .ok (.iload 4, 2) := by decide +kernel
theorem d_MO_shares_23 : decode c_MO_shares 23 = .ok (.iaload, 1) := by decide +kernel
theorem d_MO_shares_24 : decode c_MO_shares 24 = .ok (.iload_n 1, 1) := by decide +kernel
theorem d_MO_shares_25 : decode c_MO_shares 25 = .ok (.if_icmp .ne 7, 3) := by decide +kernel
theorem d_MO_shares_28 : decode c_MO_shares 28 = .ok (.iconst 1, 1) := by decide +kernel
theorem d_MO_shares_29 : decode c_MO_shares 29 = .ok (.goto 4, 3) := by decide +kernel
theorem d_MO_shares_32 : decode c_MO_shares 32 = .ok (.iconst 0, 1) := by decide +kernel
theorem d_MO_shares_33 : decode c_MO_shares 33 = .ok (.iadd, 1) := by decide +kernel
theorem d_MO_shares_34 : decode c_MO_shares 34 = .ok (.istore_n 3, 1) := by decide +kernel
theorem d_MO_shares_35 : decode c_MO_shares 35 = .ok (.iinc 4 1, 3) := by decide +kernel
theorem d_MO_shares_38 : decode c_MO_shares 38 = .ok (.goto (-33), 3) := by decide +kernel
theorem d_MO_shares_41 : decode c_MO_shares 41 = .ok (.iload_n 2, 1) := by decide +kernel
theorem d_MO_shares_42 : decode c_MO_shares 42 = .ok (.iload_n 3, 1) := by decide +kernel
theorem d_MO_shares_43 : decode c_MO_shares 43 = .ok (.irem, 1) := by decide +kernel
theorem d_MO_shares_44 : decode c_MO_shares 44 = .ok (.istore 4, 2) := by decide +kernel
theorem d_MO_shares_46 : decode c_MO_shares 46 = .ok (.iconst 0, 1) := by decide +kernel
theorem d_MO_shares_47 : decode c_MO_shares 47 = .ok (.istore 5, 2) := by decide +kernel
theorem d_MO_shares_49 : decode c_MO_shares 49 = .ok (.iload 5, 2) := by decide +kernel
theorem d_MO_shares_51 : decode c_MO_shares 51 = .ok (.aload_n 0, 1) := by decide +kernel
theorem d_MO_shares_52 : decode c_MO_shares 52 = .ok (.getfield 7, 3) := by decide +kernel
theorem d_MO_shares_55 : decode c_MO_shares 55 = .ok (.iconst 0, 1) := by decide +kernel
theorem d_MO_shares_56 : decode c_MO_shares 56 = .ok (.iaload, 1) := by decide +kernel
theorem d_MO_shares_57 : decode c_MO_shares 57 = .ok (.if_icmp .ge 44, 3) := by decide +kernel
theorem d_MO_shares_60 : decode c_MO_shares 60 = .ok (.aload_n 0, 1) := by decide +kernel
theorem d_MO_shares_61 : decode c_MO_shares 61 = .ok (.getfield 22, 3) := by decide +kernel
theorem d_MO_shares_64 : decode c_MO_shares 64 = .ok (.iload 5, 2) := by decide +kernel
theorem d_MO_shares_66 : decode c_MO_shares 66 = .ok (.iaload, 1) := by decide +kernel
theorem d_MO_shares_67 : decode c_MO_shares 67 = .ok (.iload_n 1, 1) := by decide +kernel
theorem d_MO_shares_68 : decode c_MO_shares 68 = .ok (.if_icmp .ne 27, 3) := by decide +kernel
theorem d_MO_shares_71 : decode c_MO_shares 71 = .ok (.aload_n 0, 1) := by decide +kernel
theorem d_MO_shares_72 : decode c_MO_shares 72 = .ok (.getfield 52, 3) := by decide +kernel
theorem d_MO_shares_75 : decode c_MO_shares 75 = .ok (.iload 5, 2) := by decide +kernel
theorem d_MO_shares_77 : decode c_MO_shares 77 = .ok (.iload_n 2, 1) := by decide +kernel
theorem d_MO_shares_78 : decode c_MO_shares 78 = .ok (.iload_n 3, 1) := by decide +kernel
theorem d_MO_shares_79 : decode c_MO_shares 79 = .ok (.idiv, 1) := by decide +kernel
theorem d_MO_shares_80 : decode c_MO_shares 80 = .ok (.iload 4, 2) := by decide +kernel
theorem d_MO_shares_82 : decode c_MO_shares 82 = .ok (.ifCond .le 7, 3) := by decide +kernel
theorem d_MO_shares_85 : decode c_MO_shares 85 = .ok (.iconst 1, 1) := by decide +kernel
theorem d_MO_shares_86 : decode c_MO_shares 86 = .ok (.goto 4, 3) := by decide +kernel
theorem d_MO_shares_89 : decode c_MO_shares 89 = .ok (.iconst 0, 1) := by decide +kernel
theorem d_MO_shares_90 : decode c_MO_shares 90 = .ok (.iadd, 1) := by decide +kernel
theorem d_MO_shares_91 : decode c_MO_shares 91 = .ok (.iastore, 1) := by decide +kernel
theorem d_MO_shares_92 : decode c_MO_shares 92 = .ok (.iinc 4 (-1), 3) := by decide +kernel
theorem d_MO_shares_95 : decode c_MO_shares 95 = .ok (.iinc 5 1, 3) := by decide +kernel
theorem d_MO_shares_98 : decode c_MO_shares 98 = .ok (.goto (-49), 3) := by decide +kernel
theorem d_MO_shares_101 : decode c_MO_shares 101 = .ok (.return_, 1) := by decide +kernel
theorem d_MO_works_0 : decode c_MO_works 0 = .ok (.aload_n 0, 1) := by decide +kernel
theorem d_MO_works_1 : decode c_MO_works 1 = .ok (.invokevirtual 130, 3) := by decide +kernel
theorem d_MO_works_4 : decode c_MO_works 4 = .ok (.aload_n 0, 1) := by decide +kernel
theorem d_MO_works_5 : decode c_MO_works 5 = .ok (.invokevirtual 133, 3) := by decide +kernel
theorem d_MO_works_8 : decode c_MO_works 8 = .ok (.aload_n 0, 1) := by decide +kernel
theorem d_MO_works_9 : decode c_MO_works 9 = .ok (.invokevirtual 136, 3) := by decide +kernel
theorem d_MO_works_12 : decode c_MO_works 12 = .ok (.iconst 0, 1) := by decide +kernel
theorem d_MO_works_13 : decode c_MO_works 13 = .ok (.istore_n 1, 1) := by decide +kernel
theorem d_MO_works_14 : decode c_MO_works 14 = .ok (.iload_n 1, 1) := by decide +kernel
theorem d_MO_works_15 : decode c_MO_works 15 = .ok (.aload_n 0, 1) := by decide +kernel
theorem d_MO_works_16 : decode c_MO_works 16 = .ok (.getfield 93, 3) := by decide +kernel
theorem d_MO_works_19 : decode c_MO_works 19 = .ok (.if_icmp .ge 130, 3) := by decide +kernel
theorem d_MO_works_22 : decode c_MO_works 22 = .ok (.iconst 1, 1) := by decide +kernel
theorem d_MO_works_23 : decode c_MO_works 23 = .ok (.istore_n 2, 1) := by decide +kernel
theorem d_MO_works_24 : decode c_MO_works 24 = .ok (.iload_n 1, 1) := by decide +kernel
theorem d_MO_works_25 : decode c_MO_works 25 = .ok (.iload_n 2, 1) := by decide +kernel
theorem d_MO_works_26 : decode c_MO_works 26 = .ok (.iadd, 1) := by decide +kernel
theorem d_MO_works_27 : decode c_MO_works 27 = .ok (.aload_n 0, 1) := by decide +kernel
theorem d_MO_works_28 : decode c_MO_works 28 = .ok (.getfield 93, 3) := by decide +kernel
theorem d_MO_works_31 : decode c_MO_works 31 = .ok (.if_icmp .ge 36, 3) := by decide +kernel
theorem d_MO_works_34 : decode c_MO_works 34 = .ok (.aload_n 0, 1) := by decide +kernel
theorem d_MO_works_35 : decode c_MO_works 35 = .ok (.getfield 46, 3) := by decide +kernel
theorem d_MO_works_38 : decode c_MO_works 38 = .ok (.aload_n 0, 1) := by decide +kernel
theorem d_MO_works_39 : decode c_MO_works 39 = .ok (.getfield 49, 3) := by decide +kernel
theorem d_MO_works_42 : decode c_MO_works 42 = .ok (.iload_n 1, 1) := by decide +kernel
theorem d_MO_works_43 : decode c_MO_works 43 = .ok (.iload_n 2, 1) := by decide +kernel
theorem d_MO_works_44 : decode c_MO_works 44 = .ok (.iadd, 1) := by decide +kernel
theorem d_MO_works_45 : decode c_MO_works 45 = .ok (.iaload, 1) := by decide +kernel
theorem d_MO_works_46 : decode c_MO_works 46 = .ok (.iaload, 1) := by decide +kernel
theorem d_MO_works_47 : decode c_MO_works 47 = .ok (.aload_n 0, 1) := by decide +kernel
theorem d_MO_works_48 : decode c_MO_works 48 = .ok (.getfield 46, 3) := by decide +kernel
theorem d_MO_works_51 : decode c_MO_works 51 = .ok (.aload_n 0, 1) := by decide +kernel
theorem d_MO_works_52 : decode c_MO_works 52 = .ok (.getfield 49, 3) := by decide +kernel
theorem d_MO_works_55 : decode c_MO_works 55 = .ok (.iload_n 1, 1) := by decide +kernel
theorem d_MO_works_56 : decode c_MO_works 56 = .ok (.iaload, 1) := by decide +kernel
theorem d_MO_works_57 : decode c_MO_works 57 = .ok (.iaload, 1) := by decide +kernel
theorem d_MO_works_58 : decode c_MO_works 58 = .ok (.if_icmp .ne 9, 3) := by decide +kernel
theorem d_MO_works_61 : decode c_MO_works 61 = .ok (.iinc 2 1, 3) := by decide +kernel
theorem d_MO_works_64 : decode c_MO_works 64 = .ok (.goto (-40), 3) := by decide +kernel
theorem d_MO_works_67 : decode c_MO_works 67 = .ok (.iconst 0, 1) := by decide +kernel
theorem d_MO_works_68 : decode c_MO_works 68 = .ok (.istore_n 3, 1) := by decide +kernel
theorem d_MO_works_69 : decode c_MO_works 69 = .ok (.iconst 0, 1) := by decide +kernel
theorem d_MO_works_70 : decode c_MO_works 70 = .ok (.istore 4, 2) := by decide +kernel
theorem d_MO_works_72 : decode c_MO_works 72 = .ok (.iload 4, 2) := by decide +kernel
theorem d_MO_works_74 : decode c_MO_works 74 = .ok (.iload_n 2, 1) := by decide +kernel
theorem d_MO_works_75 : decode c_MO_works 75 = .ok (.if_icmp .ge 22, 3) := by decide +kernel
theorem d_MO_works_78 : decode c_MO_works 78 = .ok (.iload_n 3, 1) := by decide +kernel
theorem d_MO_works_79 : decode c_MO_works 79 = .ok (.aload_n 0, 1) := by decide +kernel
theorem d_MO_works_80 : decode c_MO_works 80 = .ok (.iload_n 1, 1) := by decide +kernel
theorem d_MO_works_81 : decode c_MO_works 81 = .ok (.iload 4, 2) := by decide +kernel
theorem d_MO_works_83 : decode c_MO_works 83 = .ok (.iadd, 1) := by decide +kernel
theorem d_MO_works_84 : decode c_MO_works 84 = .ok (.iconst 1, 1) := by decide +kernel
theorem d_MO_works_85 : decode c_MO_works 85 = .ok (.iadd, 1) := by decide +kernel
theorem d_MO_works_86 : decode c_MO_works 86 = .ok (.invokevirtual 139, 3) := by decide +kernel
theorem d_MO_works_89 : decode c_MO_works 89 = .ok (.iadd, 1) := by decide +kernel
theorem d_MO_works_90 : decode c_MO_works 90 = .ok (.istore_n 3, 1) := by decide +kernel
theorem d_MO_works_91 : decode c_MO_works 91 = .ok (.iinc 4 1, 3) := by decide +kernel
theorem d_MO_works_94 : decode c_MO_works 94 = .ok (.goto (-22), 3) := by decide +kernel
theorem d_MO_works_97 : decode c_MO_works 97 = .ok (.iconst 0, 1) := by decide +kernel
theorem d_MO_works_98 : decode c_MO_works 98 = .ok (.istore 4, 2) := by decide +kernel
theorem d_MO_works_100 : decode c_MO_works 100 = .ok (.iload 4, 2) := by decide +kernel
theorem d_MO_works_102 : decode c_MO_works 102 = .ok (.iload_n 2, 1) := by decide +kernel
theorem d_MO_works_103 : decode c_MO_works 103 = .ok (.if_icmp .ge 39, 3) := by decide +kernel
theorem d_MO_works_106 : decode c_MO_works 106 = .ok (.aload_n 0, 1) := by decide +kernel
theorem d_MO_works_107 : decode c_MO_works 107 = .ok (.aload_n 0, 1) := by decide +kernel
theorem d_MO_works_108 : decode c_MO_works 108 = .ok (.getfield 49, 3) := by decide +kernel
theorem d_MO_works_111 : decode c_MO_works 111 = .ok (.iload_n 1, 1) := by decide +kernel
theorem d_MO_works_112 : decode c_MO_works 112 = .ok (.iload 4, 2) := by decide +kernel
theorem d_MO_works_114 : decode c_MO_works 114 = .ok (.iadd, 1) := by decide +kernel
theorem d_MO_works_115 : decode c_MO_works 115 = .ok (.iaload, 1) := by decide +kernel
theorem d_MO_works_116 : decode c_MO_works 116 = .ok (.iload_n 3, 1) := by decide +kernel
theorem d_MO_works_117 : decode c_MO_works 117 = .ok (.iload_n 2, 1) := by decide +kernel
theorem d_MO_works_118 : decode c_MO_works 118 = .ok (.idiv, 1) := by decide +kernel
theorem d_MO_works_119 : decode c_MO_works 119 = .ok (.iload 4, 2) := by decide +kernel
theorem d_MO_works_121 : decode c_MO_works 121 = .ok (.iload_n 3, 1) := by decide +kernel
theorem d_MO_works_122 : decode c_MO_works 122 = .ok (.iload_n 2, 1) := by decide +kernel
theorem d_MO_works_123 : decode c_MO_works 123 = .ok (.irem, 1) := by decide +kernel
theorem d_MO_works_124 : decode c_MO_works 124 = .ok (.if_icmp .ge 7, 3) := by decide +kernel
theorem d_MO_works_127 : decode c_MO_works 127 = .ok (.iconst 1, 1) := by decide +kernel
theorem d_MO_works_128 : decode c_MO_works 128 = .ok (.goto 4, 3) := by decide +kernel
theorem d_MO_works_131 : decode c_MO_works 131 = .ok (.iconst 0, 1) := by decide +kernel
theorem d_MO_works_132 : decode c_MO_works 132 = .ok (.iadd, 1) := by decide +kernel
theorem d_MO_works_133 : decode c_MO_works 133 = .ok (.invokevirtual 142, 3) := by decide +kernel
theorem d_MO_works_136 : decode c_MO_works 136 = .ok (.iinc 4 1, 3) := by decide +kernel
theorem d_MO_works_139 : decode c_MO_works 139 = .ok (.goto (-39), 3) := by decide +kernel
theorem d_MO_works_142 : decode c_MO_works 142 = .ok (.iload_n 1, 1) := by decide +kernel
theorem d_MO_works_143 : decode c_MO_works 143 = .ok (.iload_n 2, 1) := by decide +kernel
theorem d_MO_works_144 : decode c_MO_works 144 = .ok (.iadd, 1) := by decide +kernel
theorem d_MO_works_145 : decode c_MO_works 145 = .ok (.istore_n 1, 1) := by decide +kernel
theorem d_MO_works_146 : decode c_MO_works 146 = .ok (.goto (-132), 3) := by decide +kernel
theorem d_MO_works_149 : decode c_MO_works 149 = .ok (.return_, 1) := by decide +kernel
theorem d_MO_getsGroup_0 : decode c_MO_getsGroup 0 = .ok (.iconst 0, 1) := by decide +kernel
theorem d_MO_getsGroup_1 : decode c_MO_getsGroup 1 = .ok (.istore_n 2, 1) := by decide +kernel
theorem d_MO_getsGroup_2 : decode c_MO_getsGroup 2 = .ok (.iconst 0, 1) := by decide +kernel
theorem d_MO_getsGroup_3 : decode c_MO_getsGroup 3 = .ok (.istore_n 3, 1) := by decide +kernel
theorem d_MO_getsGroup_4 : decode c_MO_getsGroup 4 = .ok (.iload_n 3, 1) := by decide +kernel
theorem d_MO_getsGroup_5 : decode c_MO_getsGroup 5 = .ok (.aload_n 0, 1) := by decide +kernel
theorem d_MO_getsGroup_6 : decode c_MO_getsGroup 6 = .ok (.getfield 7, 3) := by decide +kernel
theorem d_MO_getsGroup_9 : decode c_MO_getsGroup 9 = .ok (.iconst 0, 1) := by decide +kernel
theorem d_MO_getsGroup_10 : decode c_MO_getsGroup 10 = .ok (.iaload, 1) := by decide +kernel
theorem d_MO_getsGroup_11 : decode c_MO_getsGroup 11 = .ok (.if_icmp .ge 32, 3) := by decide +kernel
theorem d_MO_getsGroup_14 : decode c_MO_getsGroup 14 = .ok (.iload_n 2, 1) := by decide +kernel
theorem d_MO_getsGroup_15 : decode c_MO_getsGroup 15 = .ok (.aload_n 0, 1) := by decide +kernel
theorem d_MO_getsGroup_16 : decode c_MO_getsGroup 16 = .ok (.getfield 22, 3) := by decide +kernel
theorem d_MO_getsGroup_19 : decode c_MO_getsGroup 19 = .ok (.iload_n 3, 1) := by decide +kernel
theorem d_MO_getsGroup_20 : decode c_MO_getsGroup 20 = .ok (.iaload, 1) := by decide +kernel
theorem d_MO_getsGroup_21 : decode c_MO_getsGroup 21 = .ok (.iload_n 1, 1) := by decide +kernel
theorem d_MO_getsGroup_22 : decode c_MO_getsGroup 22 = .ok (.if_icmp .ne 12, 3) := by decide +kernel
theorem d_MO_getsGroup_25 : decode c_MO_getsGroup 25 = .ok (.aload_n 0, 1) := by decide +kernel
theorem d_MO_getsGroup_26 : decode c_MO_getsGroup 26 = .ok (.getfield 52, 3) := by decide +kernel
theorem d_MO_getsGroup_29 : decode c_MO_getsGroup 29 = .ok (.iload_n 3, 1) := by decide +kernel
theorem d_MO_getsGroup_30 : decode c_MO_getsGroup 30 = .ok (.iaload, 1) := by decide +kernel
theorem d_MO_getsGroup_31 : decode c_MO_getsGroup 31 = .ok (.goto 4, 3) := by decide +kernel
theorem d_MO_getsGroup_34 : decode c_MO_getsGroup 34 = .ok (.iconst 0, 1) := by decide +kernel
theorem d_MO_getsGroup_35 : decode c_MO_getsGroup 35 = .ok (.iadd, 1) := by decide +kernel
theorem d_MO_getsGroup_36 : decode c_MO_getsGroup 36 = .ok (.istore_n 2, 1) := by decide +kernel
theorem d_MO_getsGroup_37 : decode c_MO_getsGroup 37 = .ok (.iinc 3 1, 3) := by decide +kernel
theorem d_MO_getsGroup_40 : decode c_MO_getsGroup 40 = .ok (.goto (-36), 3) := by decide +kernel
theorem d_MO_getsGroup_43 : decode c_MO_getsGroup 43 = .ok (.iload_n 2, 1) := by decide +kernel
theorem d_MO_getsGroup_44 : decode c_MO_getsGroup 44 = .ok (.ireturn, 1) := by decide +kernel
theorem d_MO_fault_0 : decode c_MO_fault 0 = .ok (.iconst 0, 1) := by decide +kernel
theorem d_MO_fault_1 : decode c_MO_fault 1 = .ok (.istore_n 1, 1) := by decide +kernel
theorem d_MO_fault_2 : decode c_MO_fault 2 = .ok (.iconst 0, 1) := by decide +kernel
theorem d_MO_fault_3 : decode c_MO_fault 3 = .ok (.istore_n 2, 1) := by decide +kernel
theorem d_MO_fault_4 : decode c_MO_fault 4 = .ok (.iload_n 2, 1) := by decide +kernel
theorem d_MO_fault_5 : decode c_MO_fault 5 = .ok (.aload_n 0, 1) := by decide +kernel
theorem d_MO_fault_6 : decode c_MO_fault 6 = .ok (.getfield 146, 3) := by decide +kernel
theorem d_MO_fault_9 : decode c_MO_fault 9 = .ok (.if_icmp .ge 35, 3) := by decide +kernel
theorem d_MO_fault_12 : decode c_MO_fault 12 = .ok (.aload_n 0, 1) := by decide +kernel
theorem d_MO_fault_13 : decode c_MO_fault 13 = .ok (.getfield 19, 3) := by decide +kernel
theorem d_MO_fault_16 : decode c_MO_fault 16 = .ok (.iload_n 2, 1) := by decide +kernel
theorem d_MO_fault_17 : decode c_MO_fault 17 = .ok (.iaload, 1) := by decide +kernel
theorem d_MO_fault_18 : decode c_MO_fault 18 = .ok (.invokestatic 149, 3) := by decide +kernel
theorem d_MO_fault_21 : decode c_MO_fault 21 = .ok (.ifCond .ne 5, 3) := by decide +kernel
theorem d_MO_fault_24 : decode c_MO_fault 24 = .ok (.iload_n 2, 1) := by decide +kernel
theorem d_MO_fault_25 : decode c_MO_fault 25 = .ok (.ireturn, 1) := by decide +kernel
theorem d_MO_fault_26 : decode c_MO_fault 26 = .ok (.iload_n 1, 1) := by decide +kernel
theorem d_MO_fault_27 : decode c_MO_fault 27 = .ok (.aload_n 0, 1) := by decide +kernel
theorem d_MO_fault_28 : decode c_MO_fault 28 = .ok (.getfield 19, 3) := by decide +kernel
theorem d_MO_fault_31 : decode c_MO_fault 31 = .ok (.iload_n 2, 1) := by decide +kernel
theorem d_MO_fault_32 : decode c_MO_fault 32 = .ok (.iaload, 1) := by decide +kernel
theorem d_MO_fault_33 : decode c_MO_fault 33 = .ok (.invokestatic 78, 3) := by decide +kernel
theorem d_MO_fault_36 : decode c_MO_fault 36 = .ok (.ior, 1) := by decide +kernel
theorem d_MO_fault_37 : decode c_MO_fault 37 = .ok (.istore_n 1, 1) := by decide +kernel
theorem d_MO_fault_38 : decode c_MO_fault 38 = .ok (.iinc 2 1, 3) := by decide +kernel
theorem d_MO_fault_41 : decode c_MO_fault 41 = .ok (.goto (-37), 3) := by decide +kernel
theorem d_MO_fault_44 : decode c_MO_fault 44 = .ok (.iload_n 1, 1) := by decide +kernel
theorem d_MO_fault_45 : decode c_MO_fault 45 = .ok (.ifCond .eq 7, 3) := by decide +kernel
theorem d_MO_fault_48 : decode c_MO_fault 48 = .ok (.iconst (-1), 1) := by decide +kernel
theorem d_MO_fault_49 : decode c_MO_fault 49 = .ok (.goto 7, 3) := by decide +kernel
theorem d_MO_fault_52 : decode c_MO_fault 52 = .ok (.aload_n 0, 1) := by decide +kernel
theorem d_MO_fault_53 : decode c_MO_fault 53 = .ok (.getfield 146, 3) := by decide +kernel
theorem d_MO_fault_56 : decode c_MO_fault 56 = .ok (.ireturn, 1) := by decide +kernel
theorem d_MO_submit_0 : decode c_MO_submit 0 = .ok (.iload_n 1, 1) := by decide +kernel
theorem d_MO_submit_1 : decode c_MO_submit 1 = .ok (.iconst 0, 1) := by decide +kernel
theorem d_MO_submit_2 : decode c_MO_submit 2 = .ok (.bipush 9, 2) := by decide +kernel
theorem d_MO_submit_4 : decode c_MO_submit 4 = .ok (.invokestatic 74, 3) := by decide +kernel
theorem d_MO_submit_7 : decode c_MO_submit 7 = .ok (.ifCond .ne 5, 3) := by decide +kernel
theorem d_MO_submit_10 : decode c_MO_submit 10 = .ok (.iconst (-1), 1) := by decide +kernel
theorem d_MO_submit_11 : decode c_MO_submit 11 = .ok (.ireturn, 1) := by decide +kernel
theorem d_MO_submit_12 : decode c_MO_submit 12 = .ok (.aload_n 0, 1) := by decide +kernel
theorem d_MO_submit_13 : decode c_MO_submit 13 = .ok (.invokevirtual 152, 3) := by decide +kernel
theorem d_MO_submit_16 : decode c_MO_submit 16 = .ok (.istore_n 2, 1) := by decide +kernel
theorem d_MO_submit_17 : decode c_MO_submit 17 = .ok (.iload_n 2, 1) := by decide +kernel
theorem d_MO_submit_18 : decode c_MO_submit 18 = .ok (.ifCond .lt 8, 3) := by decide +kernel
theorem d_MO_submit_21 : decode c_MO_submit 21 = .ok (.bipush (-100), 2) := by decide +kernel
theorem d_MO_submit_23 : decode c_MO_submit 23 = .ok (.iload_n 2, 1) := by decide +kernel
theorem d_MO_submit_24 : decode c_MO_submit 24 = .ok (.isub, 1) := by decide +kernel
theorem d_MO_submit_25 : decode c_MO_submit 25 = .ok (.ireturn, 1) := by decide +kernel
theorem d_MO_submit_26 : decode c_MO_submit 26 = .ok (.aload_n 0, 1) := by decide +kernel
theorem d_MO_submit_27 : decode c_MO_submit 27 = .ok (.getfield 7, 3) := by decide +kernel
theorem d_MO_submit_30 : decode c_MO_submit 30 = .ok (.iconst 0, 1) := by decide +kernel
theorem d_MO_submit_31 : decode c_MO_submit 31 = .ok (.iaload, 1) := by decide +kernel
theorem d_MO_submit_32 : decode c_MO_submit 32 = .ok (.istore_n 3, 1) := by decide +kernel
theorem d_MO_submit_33 : decode c_MO_submit 33 = .ok (.iload_n 3, 1) := by decide +kernel
theorem d_MO_submit_34 : decode c_MO_submit 34 = .ok (.bipush 20, 2) := by decide +kernel
theorem d_MO_submit_36 : decode c_MO_submit 36 = .ok (.if_icmp .ne 6, 3) := by decide +kernel
theorem d_MO_submit_39 : decode c_MO_submit 39 = .ok (.bipush (-3), 2) := by decide +kernel
theorem d_MO_submit_41 : decode c_MO_submit 41 = .ok (.ireturn, 1) := by decide +kernel
theorem d_MO_submit_42 : decode c_MO_submit 42 = .ok (.aload_n 0, 1) := by decide +kernel
theorem d_MO_submit_43 : decode c_MO_submit 43 = .ok (.invokevirtual 156, 3) := by decide +kernel
theorem d_MO_submit_46 : decode c_MO_submit 46 = .ok (.aload_n 0, 1) := by decide +kernel
theorem d_MO_submit_47 : decode c_MO_submit 47 = .ok (.getfield 7, 3) := by decide +kernel
theorem d_MO_submit_50 : decode c_MO_submit 50 = .ok (.iconst 0, 1) := by decide +kernel
theorem d_MO_submit_51 : decode c_MO_submit 51 = .ok (.iload_n 3, 1) := by decide +kernel
theorem d_MO_submit_52 : decode c_MO_submit 52 = .ok (.iconst 1, 1) := by decide +kernel
theorem d_MO_submit_53 : decode c_MO_submit 53 = .ok (.iadd, 1) := by decide +kernel
theorem d_MO_submit_54 : decode c_MO_submit 54 = .ok (.iastore, 1) := by decide +kernel
theorem d_MO_submit_55 : decode c_MO_submit 55 = .ok (.aload_n 0, 1) := by decide +kernel
theorem d_MO_submit_56 : decode c_MO_submit 56 = .ok (.getfield 7, 3) := by decide +kernel
theorem d_MO_submit_59 : decode c_MO_submit 59 = .ok (.bipush 9, 2) := by decide +kernel
theorem d_MO_submit_61 : decode c_MO_submit 61 = .ok (.iload_n 3, 1) := by decide +kernel
theorem d_MO_submit_62 : decode c_MO_submit 62 = .ok (.iadd, 1) := by decide +kernel
theorem d_MO_submit_63 : decode c_MO_submit 63 = .ok (.iload_n 1, 1) := by decide +kernel
theorem d_MO_submit_64 : decode c_MO_submit 64 = .ok (.iastore, 1) := by decide +kernel
theorem d_MO_submit_65 : decode c_MO_submit 65 = .ok (.aload_n 0, 1) := by decide +kernel
theorem d_MO_submit_66 : decode c_MO_submit 66 = .ok (.getfield 7, 3) := by decide +kernel
theorem d_MO_submit_69 : decode c_MO_submit 69 = .ok (.bipush 29, 2) := by decide +kernel
theorem d_MO_submit_71 : decode c_MO_submit 71 = .ok (.iload_n 3, 1) := by decide +kernel
theorem d_MO_submit_72 : decode c_MO_submit 72 = .ok (.iadd, 1) := by decide +kernel
theorem d_MO_submit_73 : decode c_MO_submit 73 = .ok (.iconst 1, 1) := by decide +kernel
theorem d_MO_submit_74 : decode c_MO_submit 74 = .ok (.iastore, 1) := by decide +kernel
theorem d_MO_submit_75 : decode c_MO_submit 75 = .ok (.aload_n 0, 1) := by decide +kernel
theorem d_MO_submit_76 : decode c_MO_submit 76 = .ok (.getfield 7, 3) := by decide +kernel
theorem d_MO_submit_79 : decode c_MO_submit 79 = .ok (.bipush 69, 2) := by decide +kernel
theorem d_MO_submit_81 : decode c_MO_submit 81 = .ok (.iload_n 3, 1) := by decide +kernel
theorem d_MO_submit_82 : decode c_MO_submit 82 = .ok (.iadd, 1) := by decide +kernel
theorem d_MO_submit_83 : decode c_MO_submit 83 = .ok (.aload_n 0, 1) := by decide +kernel
theorem d_MO_submit_84 : decode c_MO_submit 84 = .ok (.getfield 146, 3) := by decide +kernel
theorem d_MO_submit_87 : decode c_MO_submit 87 = .ok (.iastore, 1) := by decide +kernel
theorem d_MO_submit_88 : decode c_MO_submit 88 = .ok (.iconst 0, 1) := by decide +kernel
theorem d_MO_submit_89 : decode c_MO_submit 89 = .ok (.istore 4, 2) := by decide +kernel
theorem d_MO_submit_91 : decode c_MO_submit 91 = .ok (.iload 4, 2) := by decide +kernel
theorem d_MO_submit_93 : decode c_MO_submit 93 = .ok (.aload_n 0, 1) := by decide +kernel
theorem d_MO_submit_94 : decode c_MO_submit 94 = .ok (.getfield 146, 3) := by decide +kernel
theorem d_MO_submit_97 : decode c_MO_submit 97 = .ok (.if_icmp .ge 31, 3) := by decide +kernel
theorem d_MO_submit_100 : decode c_MO_submit 100 = .ok (.aload_n 0, 1) := by decide +kernel
theorem d_MO_submit_101 : decode c_MO_submit 101 = .ok (.getfield 7, 3) := by decide +kernel
theorem d_MO_submit_104 : decode c_MO_submit 104 = .ok (.bipush 89, 2) := by decide +kernel
theorem d_MO_submit_106 : decode c_MO_submit 106 = .ok (.bipush 60, 2) := by decide +kernel
theorem d_MO_submit_108 : decode c_MO_submit 108 = .ok (.iload_n 3, 1) := by decide +kernel
theorem d_MO_submit_109 : decode c_MO_submit 109 = .ok (.imul, 1) := by decide +kernel
theorem d_MO_submit_110 : decode c_MO_submit 110 = .ok (.iadd, 1) := by decide +kernel
theorem d_MO_submit_111 : decode c_MO_submit 111 = .ok (.iload 4, 2) := by decide +kernel
theorem d_MO_submit_113 : decode c_MO_submit 113 = .ok (.iadd, 1) := by decide +kernel
theorem d_MO_submit_114 : decode c_MO_submit 114 = .ok (.aload_n 0, 1) := by decide +kernel
theorem d_MO_submit_115 : decode c_MO_submit 115 = .ok (.getfield 19, 3) := by decide +kernel
theorem d_MO_submit_118 : decode c_MO_submit 118 = .ok (.iload 4, 2) := by decide +kernel
theorem d_MO_submit_120 : decode c_MO_submit 120 = .ok (.iaload, 1) := by decide +kernel
theorem d_MO_submit_121 : decode c_MO_submit 121 = .ok (.iastore, 1) := by decide +kernel
theorem d_MO_submit_122 : decode c_MO_submit 122 = .ok (.iinc 4 1, 3) := by decide +kernel
theorem d_MO_submit_125 : decode c_MO_submit 125 = .ok (.goto (-34), 3) := by decide +kernel
theorem d_MO_submit_128 : decode c_MO_submit 128 = .ok (.iload_n 3, 1) := by decide +kernel
theorem d_MO_submit_129 : decode c_MO_submit 129 = .ok (.ireturn, 1) := by decide +kernel
theorem d_MO_withdraw_0 : decode c_MO_withdraw 0 = .ok (.aload_n 0, 1) := by decide +kernel
theorem d_MO_withdraw_1 : decode c_MO_withdraw 1 = .ok (.iload_n 1, 1) := by decide +kernel
theorem d_MO_withdraw_2 : decode c_MO_withdraw 2 = .ok (.invokevirtual 96, 3) := by decide +kernel
theorem d_MO_withdraw_5 : decode c_MO_withdraw 5 = .ok (.ifCond .ne 5, 3) := by decide +kernel
theorem d_MO_withdraw_8 : decode c_MO_withdraw 8 = .ok (.iconst (-1), 1) := by decide +kernel
theorem d_MO_withdraw_9 : decode c_MO_withdraw 9 = .ok (.ireturn, 1) := by decide +kernel
theorem d_MO_withdraw_10 : decode c_MO_withdraw 10 = .ok (.aload_n 0, 1) := by decide +kernel
theorem d_MO_withdraw_11 : decode c_MO_withdraw 11 = .ok (.invokevirtual 156, 3) := by decide +kernel
theorem d_MO_withdraw_14 : decode c_MO_withdraw 14 = .ok (.aload_n 0, 1) := by decide +kernel
theorem d_MO_withdraw_15 : decode c_MO_withdraw 15 = .ok (.getfield 7, 3) := by decide +kernel
theorem d_MO_withdraw_18 : decode c_MO_withdraw 18 = .ok (.bipush 29, 2) := by decide +kernel
theorem d_MO_withdraw_20 : decode c_MO_withdraw 20 = .ok (.iload_n 1, 1) := by decide +kernel
theorem d_MO_withdraw_21 : decode c_MO_withdraw 21 = .ok (.iadd, 1) := by decide +kernel
theorem d_MO_withdraw_22 : decode c_MO_withdraw 22 = .ok (.iconst 0, 1) := by decide +kernel
theorem d_MO_withdraw_23 : decode c_MO_withdraw 23 = .ok (.iastore, 1) := by decide +kernel
theorem d_MO_withdraw_24 : decode c_MO_withdraw 24 = .ok (.aload_n 0, 1) := by decide +kernel
theorem d_MO_withdraw_25 : decode c_MO_withdraw 25 = .ok (.invokevirtual 159, 3) := by decide +kernel
theorem d_MO_withdraw_28 : decode c_MO_withdraw 28 = .ok (.ireturn, 1) := by decide +kernel
theorem d_MO_join_0 : decode c_MO_join 0 = .ok (.aload_n 0, 1) := by decide +kernel
theorem d_MO_join_1 : decode c_MO_join 1 = .ok (.iload_n 1, 1) := by decide +kernel
theorem d_MO_join_2 : decode c_MO_join 2 = .ok (.invokevirtual 96, 3) := by decide +kernel
theorem d_MO_join_5 : decode c_MO_join 5 = .ok (.ifCond .eq 11, 3) := by decide +kernel
theorem d_MO_join_8 : decode c_MO_join 8 = .ok (.aload_n 0, 1) := by decide +kernel
theorem d_MO_join_9 : decode c_MO_join 9 = .ok (.iload_n 2, 1) := by decide +kernel
theorem d_MO_join_10 : decode c_MO_join 10 = .ok (.invokevirtual 96, 3) := by decide +kernel
theorem d_MO_join_13 : decode c_MO_join 13 = .ok (.ifCond .ne 5, 3) := by decide +kernel
theorem d_MO_join_16 : decode c_MO_join 16 = .ok (.iconst (-1), 1) := by decide +kernel
theorem d_MO_join_17 : decode c_MO_join 17 = .ok (.ireturn, 1) := by decide +kernel
theorem d_MO_join_18 : decode c_MO_join 18 = .ok (.iload_n 1, 1) := by decide +kernel
theorem d_MO_join_19 : decode c_MO_join 19 = .ok (.iload_n 2, 1) := by decide +kernel
theorem d_MO_join_20 : decode c_MO_join 20 = .ok (.if_icmp .ne 6, 3) := by decide +kernel
theorem d_MO_join_23 : decode c_MO_join 23 = .ok (.bipush (-2), 2) := by decide +kernel
theorem d_MO_join_25 : decode c_MO_join 25 = .ok (.ireturn, 1) := by decide +kernel
theorem d_MO_join_26 : decode c_MO_join 26 = .ok (.aload_n 0, 1) := by decide +kernel
theorem d_MO_join_27 : decode c_MO_join 27 = .ok (.invokevirtual 112, 3) := by decide +kernel
theorem d_MO_join_30 : decode c_MO_join 30 = .ok (.aload_n 0, 1) := by decide +kernel
theorem d_MO_join_31 : decode c_MO_join 31 = .ok (.getfield 22, 3) := by decide +kernel
theorem d_MO_join_34 : decode c_MO_join 34 = .ok (.iload_n 1, 1) := by decide +kernel
theorem d_MO_join_35 : decode c_MO_join 35 = .ok (.iaload, 1) := by decide +kernel
theorem d_MO_join_36 : decode c_MO_join 36 = .ok (.aload_n 0, 1) := by decide +kernel
theorem d_MO_join_37 : decode c_MO_join 37 = .ok (.getfield 22, 3) := by decide +kernel
theorem d_MO_join_40 : decode c_MO_join 40 = .ok (.iload_n 2, 1) := by decide +kernel
theorem d_MO_join_41 : decode c_MO_join 41 = .ok (.iaload, 1) := by decide +kernel
theorem d_MO_join_42 : decode c_MO_join 42 = .ok (.if_icmp .ne 6, 3) := by decide +kernel
theorem d_MO_join_45 : decode c_MO_join 45 = .ok (.bipush (-5), 2) := by decide +kernel
theorem d_MO_join_47 : decode c_MO_join 47 = .ok (.ireturn, 1) := by decide +kernel
theorem d_MO_join_48 : decode c_MO_join 48 = .ok (.aload_n 0, 1) := by decide +kernel
theorem d_MO_join_49 : decode c_MO_join 49 = .ok (.invokevirtual 156, 3) := by decide +kernel
theorem d_MO_join_52 : decode c_MO_join 52 = .ok (.aload_n 0, 1) := by decide +kernel
theorem d_MO_join_53 : decode c_MO_join 53 = .ok (.getfield 7, 3) := by decide +kernel
theorem d_MO_join_56 : decode c_MO_join 56 = .ok (.bipush 49, 2) := by decide +kernel
theorem d_MO_join_58 : decode c_MO_join 58 = .ok (.iload_n 1, 1) := by decide +kernel
theorem d_MO_join_59 : decode c_MO_join 59 = .ok (.iadd, 1) := by decide +kernel
theorem d_MO_join_60 : decode c_MO_join 60 = .ok (.dup2, 1) := by decide +kernel
theorem d_MO_join_61 : decode c_MO_join 61 = .ok (.iaload, 1) := by decide +kernel
theorem d_MO_join_62 : decode c_MO_join 62 = .ok (.iconst 1, 1) := by decide +kernel
theorem d_MO_join_63 : decode c_MO_join 63 = .ok (.iload_n 2, 1) := by decide +kernel
theorem d_MO_join_64 : decode c_MO_join 64 = .ok (.ishl, 1) := by decide +kernel
theorem d_MO_join_65 : decode c_MO_join 65 = .ok (.ior, 1) := by decide +kernel
theorem d_MO_join_66 : decode c_MO_join 66 = .ok (.iastore, 1) := by decide +kernel
theorem d_MO_join_67 : decode c_MO_join 67 = .ok (.aload_n 0, 1) := by decide +kernel
theorem d_MO_join_68 : decode c_MO_join 68 = .ok (.getfield 7, 3) := by decide +kernel
theorem d_MO_join_71 : decode c_MO_join 71 = .ok (.bipush 49, 2) := by decide +kernel
theorem d_MO_join_73 : decode c_MO_join 73 = .ok (.iload_n 2, 1) := by decide +kernel
theorem d_MO_join_74 : decode c_MO_join 74 = .ok (.iadd, 1) := by decide +kernel
theorem d_MO_join_75 : decode c_MO_join 75 = .ok (.dup2, 1) := by decide +kernel
theorem d_MO_join_76 : decode c_MO_join 76 = .ok (.iaload, 1) := by decide +kernel
theorem d_MO_join_77 : decode c_MO_join 77 = .ok (.iconst 1, 1) := by decide +kernel
theorem d_MO_join_78 : decode c_MO_join 78 = .ok (.iload_n 1, 1) := by decide +kernel
theorem d_MO_join_79 : decode c_MO_join 79 = .ok (.ishl, 1) := by decide +kernel
theorem d_MO_join_80 : decode c_MO_join 80 = .ok (.ior, 1) := by decide +kernel
theorem d_MO_join_81 : decode c_MO_join 81 = .ok (.iastore, 1) := by decide +kernel
theorem d_MO_join_82 : decode c_MO_join 82 = .ok (.aload_n 0, 1) := by decide +kernel
theorem d_MO_join_83 : decode c_MO_join 83 = .ok (.invokevirtual 112, 3) := by decide +kernel
theorem d_MO_join_86 : decode c_MO_join 86 = .ok (.aload_n 0, 1) := by decide +kernel
theorem d_MO_join_87 : decode c_MO_join 87 = .ok (.getfield 22, 3) := by decide +kernel
theorem d_MO_join_90 : decode c_MO_join 90 = .ok (.iload_n 1, 1) := by decide +kernel
theorem d_MO_join_91 : decode c_MO_join 91 = .ok (.iaload, 1) := by decide +kernel
theorem d_MO_join_92 : decode c_MO_join 92 = .ok (.ireturn, 1) := by decide +kernel
theorem d_MO_part_0 : decode c_MO_part 0 = .ok (.aload_n 0, 1) := by decide +kernel
theorem d_MO_part_1 : decode c_MO_part 1 = .ok (.iload_n 1, 1) := by decide +kernel
theorem d_MO_part_2 : decode c_MO_part 2 = .ok (.invokevirtual 96, 3) := by decide +kernel
theorem d_MO_part_5 : decode c_MO_part 5 = .ok (.ifCond .ne 5, 3) := by decide +kernel
theorem d_MO_part_8 : decode c_MO_part 8 = .ok (.iconst (-1), 1) := by decide +kernel
theorem d_MO_part_9 : decode c_MO_part 9 = .ok (.ireturn, 1) := by decide +kernel
theorem d_MO_part_10 : decode c_MO_part 10 = .ok (.aload_n 0, 1) := by decide +kernel
theorem d_MO_part_11 : decode c_MO_part 11 = .ok (.getfield 7, 3) := by decide +kernel
theorem d_MO_part_14 : decode c_MO_part 14 = .ok (.bipush 49, 2) := by decide +kernel
theorem d_MO_part_16 : decode c_MO_part 16 = .ok (.iload_n 1, 1) := by decide +kernel
theorem d_MO_part_17 : decode c_MO_part 17 = .ok (.iadd, 1) := by decide +kernel
theorem d_MO_part_18 : decode c_MO_part 18 = .ok (.iaload, 1) := by decide +kernel
theorem d_MO_part_19 : decode c_MO_part 19 = .ok (.ifCond .ne 6, 3) := by decide +kernel
theorem d_MO_part_22 : decode c_MO_part 22 = .ok (.bipush (-5), 2) := by decide +kernel
theorem d_MO_part_24 : decode c_MO_part 24 = .ok (.ireturn, 1) := by decide +kernel
theorem d_MO_part_25 : decode c_MO_part 25 = .ok (.aload_n 0, 1) := by decide +kernel
theorem d_MO_part_26 : decode c_MO_part 26 = .ok (.invokevirtual 156, 3) := by decide +kernel
theorem d_MO_part_29 : decode c_MO_part 29 = .ok (.aload_n 0, 1) := by decide +kernel
theorem d_MO_part_30 : decode c_MO_part 30 = .ok (.getfield 7, 3) := by decide +kernel
theorem d_MO_part_33 : decode c_MO_part 33 = .ok (.bipush 49, 2) := by decide +kernel
theorem d_MO_part_35 : decode c_MO_part 35 = .ok (.iload_n 1, 1) := by decide +kernel
theorem d_MO_part_36 : decode c_MO_part 36 = .ok (.iadd, 1) := by decide +kernel
theorem d_MO_part_37 : decode c_MO_part 37 = .ok (.iconst 0, 1) := by decide +kernel
theorem d_MO_part_38 : decode c_MO_part 38 = .ok (.iastore, 1) := by decide +kernel
theorem d_MO_part_39 : decode c_MO_part 39 = .ok (.iconst 0, 1) := by decide +kernel
theorem d_MO_part_40 : decode c_MO_part 40 = .ok (.istore_n 2, 1) := by decide +kernel
theorem d_MO_part_41 : decode c_MO_part 41 = .ok (.iload_n 2, 1) := by decide +kernel
theorem d_MO_part_42 : decode c_MO_part 42 = .ok (.bipush 20, 2) := by decide +kernel
theorem d_MO_part_44 : decode c_MO_part 44 = .ok (.if_icmp .ge 26, 3) := by decide +kernel
theorem d_MO_part_47 : decode c_MO_part 47 = .ok (.aload_n 0, 1) := by decide +kernel
theorem d_MO_part_48 : decode c_MO_part 48 = .ok (.getfield 7, 3) := by decide +kernel
theorem d_MO_part_51 : decode c_MO_part 51 = .ok (.bipush 49, 2) := by decide +kernel
theorem d_MO_part_53 : decode c_MO_part 53 = .ok (.iload_n 2, 1) := by decide +kernel
theorem d_MO_part_54 : decode c_MO_part 54 = .ok (.iadd, 1) := by decide +kernel
theorem d_MO_part_55 : decode c_MO_part 55 = .ok (.dup2, 1) := by decide +kernel
theorem d_MO_part_56 : decode c_MO_part 56 = .ok (.iaload, 1) := by decide +kernel
theorem d_MO_part_57 : decode c_MO_part 57 = .ok (.iconst 1, 1) := by decide +kernel
theorem d_MO_part_58 : decode c_MO_part 58 = .ok (.iload_n 1, 1) := by decide +kernel
theorem d_MO_part_59 : decode c_MO_part 59 = .ok (.ishl, 1) := by decide +kernel
theorem d_MO_part_60 : decode c_MO_part 60 = .ok (.iconst (-1), 1) := by decide +kernel
theorem d_MO_part_61 : decode c_MO_part 61 = .ok (.ixor, 1) := by decide +kernel
theorem d_MO_part_62 : decode c_MO_part 62 = .ok (.iand, 1) := by decide +kernel
theorem d_MO_part_63 : decode c_MO_part 63 = .ok (.iastore, 1) := by decide +kernel
theorem d_MO_part_64 : decode c_MO_part 64 = .ok (.iinc 2 1, 3) := by decide +kernel
theorem d_MO_part_67 : decode c_MO_part 67 = .ok (.goto (-26), 3) := by decide +kernel
theorem d_MO_part_70 : decode c_MO_part 70 = .ok (.aload_n 0, 1) := by decide +kernel
theorem d_MO_part_71 : decode c_MO_part 71 = .ok (.invokevirtual 112, 3) := by decide +kernel
theorem d_MO_part_74 : decode c_MO_part 74 = .ok (.aload_n 0, 1) := by decide +kernel
theorem d_MO_part_75 : decode c_MO_part 75 = .ok (.getfield 22, 3) := by decide +kernel
theorem d_MO_part_78 : decode c_MO_part 78 = .ok (.iload_n 1, 1) := by decide +kernel
theorem d_MO_part_79 : decode c_MO_part 79 = .ok (.iaload, 1) := by decide +kernel
theorem d_MO_part_80 : decode c_MO_part 80 = .ok (.ireturn, 1) := by decide +kernel
theorem d_MO_vote_0 : decode c_MO_vote 0 = .ok (.iload_n 2, 1) := by decide +kernel
theorem d_MO_vote_1 : decode c_MO_vote 1 = .ok (.bipush (-5), 2) := by decide +kernel
theorem d_MO_vote_3 : decode c_MO_vote 3 = .ok (.if_icmp .eq 11, 3) := by decide +kernel
theorem d_MO_vote_6 : decode c_MO_vote 6 = .ok (.aload_n 0, 1) := by decide +kernel
theorem d_MO_vote_7 : decode c_MO_vote 7 = .ok (.iload_n 2, 1) := by decide +kernel
theorem d_MO_vote_8 : decode c_MO_vote 8 = .ok (.invokevirtual 96, 3) := by decide +kernel
theorem d_MO_vote_11 : decode c_MO_vote 11 = .ok (.ifCond .eq 37, 3) := by decide +kernel
theorem d_MO_vote_14 : decode c_MO_vote 14 = .ok (.iload_n 3, 1) := by decide +kernel
theorem d_MO_vote_15 : decode c_MO_vote 15 = .ok (.bipush (-5), 2) := by decide +kernel
theorem d_MO_vote_17 : decode c_MO_vote 17 = .ok (.if_icmp .eq 11, 3) := by decide +kernel
theorem d_MO_vote_20 : decode c_MO_vote 20 = .ok (.aload_n 0, 1) := by decide +kernel
theorem d_MO_vote_21 : decode c_MO_vote 21 = .ok (.iload_n 3, 1) := by decide +kernel
theorem d_MO_vote_22 : decode c_MO_vote 22 = .ok (.invokevirtual 96, 3) := by decide +kernel
theorem d_MO_vote_25 : decode c_MO_vote 25 = .ok (.ifCond .eq 23, 3) := by decide +kernel
theorem d_MO_vote_28 : decode c_MO_vote 28 = .ok (.iload 4, 2) := by decide +kernel
theorem d_MO_vote_30 : decode c_MO_vote 30 = .ok (.bipush (-5), 2) := by decide +kernel
theorem d_MO_vote_32 : decode c_MO_vote 32 = .ok (.if_icmp .eq 12, 3) := by decide +kernel
theorem d_MO_vote_35 : decode c_MO_vote 35 = .ok (.aload_n 0, 1) := by decide +kernel
theorem d_MO_vote_36 : decode c_MO_vote 36 = .ok (.iload 4, 2) := by decide +kernel
theorem d_MO_vote_38 : decode c_MO_vote 38 = .ok (.invokevirtual 96, 3) := by decide +kernel
theorem d_MO_vote_41 : decode c_MO_vote 41 = .ok (.ifCond .eq 7, 3) := by decide +kernel
theorem d_MO_vote_44 : decode c_MO_vote 44 = .ok (.iconst 1, 1) := by decide +kernel
theorem d_MO_vote_45 : decode c_MO_vote 45 = .ok (.goto 4, 3) := by decide +kernel
theorem d_MO_vote_48 : decode c_MO_vote 48 = .ok (.iconst 0, 1) := by decide +kernel
theorem d_MO_vote_49 : decode c_MO_vote 49 = .ok (.istore 5, 2) := by decide +kernel
theorem d_MO_vote_51 : decode c_MO_vote 51 = .ok (.iload_n 1, 1) := by decide +kernel
theorem d_MO_vote_52 : decode c_MO_vote 52 = .ok (.iconst 0, 1) := by decide +kernel
theorem d_MO_vote_53 : decode c_MO_vote 53 = .ok (.bipush 11, 2) := by decide +kernel
theorem d_MO_vote_55 : decode c_MO_vote 55 = .ok (.invokestatic 74, 3) := by decide +kernel
theorem d_MO_vote_58 : decode c_MO_vote 58 = .ok (.ifCond .eq 8, 3) := by decide +kernel
theorem d_MO_vote_61 : decode c_MO_vote 61 = .ok (.iload 5, 2) := by decide +kernel
theorem d_MO_vote_63 : decode c_MO_vote 63 = .ok (.ifCond .ne 5, 3) := by decide +kernel
theorem d_MO_vote_66 : decode c_MO_vote 66 = .ok (.iconst (-1), 1) := by decide +kernel
theorem d_MO_vote_67 : decode c_MO_vote 67 = .ok (.ireturn, 1) := by decide +kernel
theorem d_MO_vote_68 : decode c_MO_vote 68 = .ok (.iload_n 2, 1) := by decide +kernel
theorem d_MO_vote_69 : decode c_MO_vote 69 = .ok (.bipush (-5), 2) := by decide +kernel
theorem d_MO_vote_71 : decode c_MO_vote 71 = .ok (.if_icmp .ne 16, 3) := by decide +kernel
theorem d_MO_vote_74 : decode c_MO_vote 74 = .ok (.iload_n 3, 1) := by decide +kernel
theorem d_MO_vote_75 : decode c_MO_vote 75 = .ok (.bipush (-5), 2) := by decide +kernel
theorem d_MO_vote_77 : decode c_MO_vote 77 = .ok (.if_icmp .ne 23, 3) := by decide +kernel
theorem d_MO_vote_80 : decode c_MO_vote 80 = .ok (.iload 4, 2) := by decide +kernel
theorem d_MO_vote_82 : decode c_MO_vote 82 = .ok (.bipush (-5), 2) := by decide +kernel
theorem d_MO_vote_84 : decode c_MO_vote 84 = .ok (.if_icmp .ne 16, 3) := by decide +kernel
theorem d_MO_vote_87 : decode c_MO_vote 87 = .ok (.iload_n 3, 1) := by decide +kernel
theorem d_MO_vote_88 : decode c_MO_vote 88 = .ok (.bipush (-5), 2) := by decide +kernel
theorem d_MO_vote_90 : decode c_MO_vote 90 = .ok (.if_icmp .ne 14, 3) := by decide +kernel
theorem d_MO_vote_93 : decode c_MO_vote 93 = .ok (.iload 4, 2) := by decide +kernel
theorem d_MO_vote_95 : decode c_MO_vote 95 = .ok (.bipush (-5), 2) := by decide +kernel
theorem d_MO_vote_97 : decode c_MO_vote 97 = .ok (.if_icmp .eq 7, 3) := by decide +kernel
theorem d_MO_vote_100 : decode c_MO_vote 100 = .ok (.iconst 1, 1) := by decide +kernel
theorem d_MO_vote_101 : decode c_MO_vote 101 = .ok (.goto 4, 3) := by decide +kernel
theorem d_MO_vote_104 : decode c_MO_vote 104 = .ok (.iconst 0, 1) := by decide +kernel
theorem d_MO_vote_105 : decode c_MO_vote 105 = .ok (.istore 6, 2) := by decide +kernel
theorem d_MO_vote_107 : decode c_MO_vote 107 = .ok (.iload_n 2, 1) := by decide +kernel
theorem d_MO_vote_108 : decode c_MO_vote 108 = .ok (.bipush (-5), 2) := by decide +kernel
theorem d_MO_vote_110 : decode c_MO_vote 110 = .ok (.if_icmp .eq 14, 3) := by decide +kernel
theorem d_MO_vote_113 : decode c_MO_vote 113 = .ok (.iload_n 2, 1) := by decide +kernel
theorem d_MO_vote_114 : decode c_MO_vote 114 = .ok (.iload_n 3, 1) := by decide +kernel
theorem d_MO_vote_115 : decode c_MO_vote 115 = .ok (.if_icmp .eq 21, 3) := by decide +kernel
theorem d_MO_vote_118 : decode c_MO_vote 118 = .ok (.iload_n 2, 1) := by decide +kernel
theorem d_MO_vote_119 : decode c_MO_vote 119 = .ok (.iload 4, 2) := by decide +kernel
theorem d_MO_vote_121 : decode c_MO_vote 121 = .ok (.if_icmp .eq 15, 3) := by decide +kernel
theorem d_MO_vote_124 : decode c_MO_vote 124 = .ok (.iload_n 3, 1) := by decide +kernel
theorem d_MO_vote_125 : decode c_MO_vote 125 = .ok (.bipush (-5), 2) := by decide +kernel
theorem d_MO_vote_127 : decode c_MO_vote 127 = .ok (.if_icmp .eq 13, 3) := by decide +kernel
theorem d_MO_vote_130 : decode c_MO_vote 130 = .ok (.iload_n 3, 1) := by decide +kernel
theorem d_MO_vote_131 : decode c_MO_vote 131 = .ok (.iload 4, 2) := by decide +kernel
theorem d_MO_vote_133 : decode c_MO_vote 133 = .ok (.if_icmp .ne 7, 3) := by decide +kernel
theorem d_MO_vote_136 : decode c_MO_vote 136 = .ok (.iconst 1, 1) := by decide +kernel
theorem d_MO_vote_137 : decode c_MO_vote 137 = .ok (.goto 4, 3) := by decide +kernel
theorem d_MO_vote_140 : decode c_MO_vote 140 = .ok (.iconst 0, 1) := by decide +kernel
theorem d_MO_vote_141 : decode c_MO_vote 141 = .ok (.istore 7, 2) := by decide +kernel
theorem d_MO_vote_143 : decode c_MO_vote 143 = .ok (.iload 6, 2) := by decide +kernel
theorem d_MO_vote_145 : decode c_MO_vote 145 = .ok (.ifCond .ne 8, 3) := by decide +kernel
theorem d_MO_vote_148 : decode c_MO_vote 148 = .ok (.iload 7, 2) := by decide +kernel
theorem d_MO_vote_150 : decode c_MO_vote 150 = .ok (.ifCond .eq 6, 3) := by decide +kernel
theorem d_MO_vote_153 : decode c_MO_vote 153 = .ok (.bipush (-2), 2) := by decide +kernel
theorem d_MO_vote_155 : decode c_MO_vote 155 = .ok (.ireturn, 1) := by decide +kernel
theorem d_MO_vote_156 : decode c_MO_vote 156 = .ok (.sipush 1289, 3) := by decide +kernel
theorem d_MO_vote_159 : decode c_MO_vote 159 = .ok (.iconst 3, 1) := by decide +kernel
theorem d_MO_vote_160 : decode c_MO_vote 160 = .ok (.iload_n 1, 1) := by decide +kernel
theorem d_MO_vote_161 : decode c_MO_vote 161 = .ok (.imul, 1) := by decide +kernel
theorem d_MO_vote_162 : decode c_MO_vote 162 = .ok (.iadd, 1) := by decide +kernel
theorem d_MO_vote_163 : decode c_MO_vote 163 = .ok (.istore 8, 2) := by decide +kernel
theorem d_MO_vote_165 : decode c_MO_vote 165 = .ok (.iload_n 2, 1) := by decide +kernel
theorem d_MO_vote_166 : decode c_MO_vote 166 = .ok (.bipush (-5), 2) := by decide +kernel
theorem d_MO_vote_168 : decode c_MO_vote 168 = .ok (.if_icmp .ne 7, 3) := by decide +kernel
theorem d_MO_vote_171 : decode c_MO_vote 171 = .ok (.iconst 0, 1) := by decide +kernel
theorem d_MO_vote_172 : decode c_MO_vote 172 = .ok (.goto 6, 3) := by decide +kernel
theorem d_MO_vote_175 : decode c_MO_vote 175 = .ok (.iload_n 2, 1) := by decide +kernel
theorem d_MO_vote_176 : decode c_MO_vote 176 = .ok (.iconst 1, 1) := by decide +kernel
theorem d_MO_vote_177 : decode c_MO_vote 177 = .ok (.iadd, 1) := by decide +kernel
theorem d_MO_vote_178 : decode c_MO_vote 178 = .ok (.istore 9, 2) := by decide +kernel
theorem d_MO_vote_180 : decode c_MO_vote 180 = .ok (.iload_n 3, 1) := by decide +kernel
theorem d_MO_vote_181 : decode c_MO_vote 181 = .ok (.bipush (-5), 2) := by decide +kernel
theorem d_MO_vote_183 : decode c_MO_vote 183 = .ok (.if_icmp .ne 7, 3) := by decide +kernel
theorem d_MO_vote_186 : decode c_MO_vote 186 = .ok (.iconst 0, 1) := by decide +kernel
theorem d_MO_vote_187 : decode c_MO_vote 187 = .ok (.goto 6, 3) := by decide +kernel
theorem d_MO_vote_190 : decode c_MO_vote 190 = .ok (.iload_n 3, 1) := by decide +kernel
theorem d_MO_vote_191 : decode c_MO_vote 191 = .ok (.iconst 1, 1) := by decide +kernel
theorem d_MO_vote_192 : decode c_MO_vote 192 = .ok (.iadd, 1) := by decide +kernel
theorem d_MO_vote_193 : decode c_MO_vote 193 = .ok (.istore 10, 2) := by decide +kernel
theorem d_MO_vote_195 : decode c_MO_vote 195 = .ok (.iload 4, 2) := by decide +kernel
theorem d_MO_vote_197 : decode c_MO_vote 197 = .ok (.bipush (-5), 2) := by decide +kernel
theorem d_MO_vote_199 : decode c_MO_vote 199 = .ok (.if_icmp .ne 7, 3) := by decide +kernel
theorem d_MO_vote_202 : decode c_MO_vote 202 = .ok (.iconst 0, 1) := by decide +kernel
theorem d_MO_vote_203 : decode c_MO_vote 203 = .ok (.goto 7, 3) := by decide +kernel
theorem d_MO_vote_206 : decode c_MO_vote 206 = .ok (.iload 4, 2) := by decide +kernel
theorem d_MO_vote_208 : decode c_MO_vote 208 = .ok (.iconst 1, 1) := by decide +kernel
theorem d_MO_vote_209 : decode c_MO_vote 209 = .ok (.iadd, 1) := by decide +kernel
theorem d_MO_vote_210 : decode c_MO_vote 210 = .ok (.istore 11, 2) := by decide +kernel
theorem d_MO_vote_212 : decode c_MO_vote 212 = .ok (.aload_n 0, 1) := by decide +kernel
theorem d_MO_vote_213 : decode c_MO_vote 213 = .ok (.getfield 7, 3) := by decide +kernel
theorem d_MO_vote_216 : decode c_MO_vote 216 = .ok (.iload 8, 2) := by decide +kernel
theorem d_MO_vote_218 : decode c_MO_vote 218 = .ok (.iaload, 1) := by decide +kernel
theorem d_MO_vote_219 : decode c_MO_vote 219 = .ok (.iload 9, 2) := by decide +kernel
theorem d_MO_vote_221 : decode c_MO_vote 221 = .ok (.if_icmp .ne 34, 3) := by decide +kernel
theorem d_MO_vote_224 : decode c_MO_vote 224 = .ok (.aload_n 0, 1) := by decide +kernel
theorem d_MO_vote_225 : decode c_MO_vote 225 = .ok (.getfield 7, 3) := by decide +kernel
theorem d_MO_vote_228 : decode c_MO_vote 228 = .ok (.iload 8, 2) := by decide +kernel
theorem d_MO_vote_230 : decode c_MO_vote 230 = .ok (.iconst 1, 1) := by decide +kernel
theorem d_MO_vote_231 : decode c_MO_vote 231 = .ok (.iadd, 1) := by decide +kernel
theorem d_MO_vote_232 : decode c_MO_vote 232 = .ok (.iaload, 1) := by decide +kernel
theorem d_MO_vote_233 : decode c_MO_vote 233 = .ok (.iload 10, 2) := by decide +kernel
theorem d_MO_vote_235 : decode c_MO_vote 235 = .ok (.if_icmp .ne 20, 3) := by decide +kernel
theorem d_MO_vote_238 : decode c_MO_vote 238 = .ok (.aload_n 0, 1) := by decide +kernel
theorem d_MO_vote_239 : decode c_MO_vote 239 = .ok (.getfield 7, 3) := by decide +kernel
theorem d_MO_vote_242 : decode c_MO_vote 242 = .ok (.iload 8, 2) := by decide +kernel
theorem d_MO_vote_244 : decode c_MO_vote 244 = .ok (.iconst 2, 1) := by decide +kernel
theorem d_MO_vote_245 : decode c_MO_vote 245 = .ok (.iadd, 1) := by decide +kernel
theorem d_MO_vote_246 : decode c_MO_vote 246 = .ok (.iaload, 1) := by decide +kernel
theorem d_MO_vote_247 : decode c_MO_vote 247 = .ok (.iload 11, 2) := by decide +kernel
theorem d_MO_vote_249 : decode c_MO_vote 249 = .ok (.if_icmp .ne 6, 3) := by decide +kernel
theorem d_MO_vote_252 : decode c_MO_vote 252 = .ok (.bipush (-5), 2) := by decide +kernel
theorem d_MO_vote_254 : decode c_MO_vote 254 = .ok (.ireturn, 1) := by decide +kernel
theorem d_MO_vote_255 : decode c_MO_vote 255 = .ok (.aload_n 0, 1) := by decide +kernel
theorem d_MO_vote_256 : decode c_MO_vote 256 = .ok (.invokevirtual 156, 3) := by decide +kernel
theorem d_MO_vote_259 : decode c_MO_vote 259 = .ok (.aload_n 0, 1) := by decide +kernel
theorem d_MO_vote_260 : decode c_MO_vote 260 = .ok (.getfield 7, 3) := by decide +kernel
theorem d_MO_vote_263 : decode c_MO_vote 263 = .ok (.iload 8, 2) := by decide +kernel
theorem d_MO_vote_265 : decode c_MO_vote 265 = .ok (.iload 9, 2) := by decide +kernel
theorem d_MO_vote_267 : decode c_MO_vote 267 = .ok (.iastore, 1) := by decide +kernel
theorem d_MO_vote_268 : decode c_MO_vote 268 = .ok (.aload_n 0, 1) := by decide +kernel
theorem d_MO_vote_269 : decode c_MO_vote 269 = .ok (.getfield 7, 3) := by decide +kernel
theorem d_MO_vote_272 : decode c_MO_vote 272 = .ok (.iload 8, 2) := by decide +kernel
theorem d_MO_vote_274 : decode c_MO_vote 274 = .ok (.iconst 1, 1) := by decide +kernel
theorem d_MO_vote_275 : decode c_MO_vote 275 = .ok (.iadd, 1) := by decide +kernel
theorem d_MO_vote_276 : decode c_MO_vote 276 = .ok (.iload 10, 2) := by decide +kernel
theorem d_MO_vote_278 : decode c_MO_vote 278 = .ok (.iastore, 1) := by decide +kernel
theorem d_MO_vote_279 : decode c_MO_vote 279 = .ok (.aload_n 0, 1) := by decide +kernel
theorem d_MO_vote_280 : decode c_MO_vote 280 = .ok (.getfield 7, 3) := by decide +kernel
theorem d_MO_vote_283 : decode c_MO_vote 283 = .ok (.iload 8, 2) := by decide +kernel
theorem d_MO_vote_285 : decode c_MO_vote 285 = .ok (.iconst 2, 1) := by decide +kernel
theorem d_MO_vote_286 : decode c_MO_vote 286 = .ok (.iadd, 1) := by decide +kernel
theorem d_MO_vote_287 : decode c_MO_vote 287 = .ok (.iload 11, 2) := by decide +kernel
theorem d_MO_vote_289 : decode c_MO_vote 289 = .ok (.iastore, 1) := by decide +kernel
theorem d_MO_vote_290 : decode c_MO_vote 290 = .ok (.iload 4, 2) := by decide +kernel
theorem d_MO_vote_292 : decode c_MO_vote 292 = .ok (.bipush (-5), 2) := by decide +kernel
theorem d_MO_vote_294 : decode c_MO_vote 294 = .ok (.if_icmp .eq 7, 3) := by decide +kernel
theorem d_MO_vote_297 : decode c_MO_vote 297 = .ok (.iconst 3, 1) := by decide +kernel
theorem d_MO_vote_298 : decode c_MO_vote 298 = .ok (.goto 24, 3) := by decide +kernel
theorem d_MO_vote_301 : decode c_MO_vote 301 = .ok (.iload_n 3, 1) := by decide +kernel
theorem d_MO_vote_302 : decode c_MO_vote 302 = .ok (.bipush (-5), 2) := by decide +kernel
theorem d_MO_vote_304 : decode c_MO_vote 304 = .ok (.if_icmp .eq 7, 3) := by decide +kernel
theorem d_MO_vote_307 : decode c_MO_vote 307 = .ok (.iconst 2, 1) := by decide +kernel
theorem d_MO_vote_308 : decode c_MO_vote 308 = .ok (.goto 14, 3) := by decide +kernel
theorem d_MO_vote_311 : decode c_MO_vote 311 = .ok (.iload_n 2, 1) := by decide +kernel
theorem d_MO_vote_312 : decode c_MO_vote 312 = .ok (.bipush (-5), 2) := by decide +kernel
theorem d_MO_vote_314 : decode c_MO_vote 314 = .ok (.if_icmp .eq 7, 3) := by decide +kernel
theorem d_MO_vote_317 : decode c_MO_vote 317 = .ok (.iconst 1, 1) := by decide +kernel
theorem d_MO_vote_318 : decode c_MO_vote 318 = .ok (.goto 4, 3) := by decide +kernel
theorem d_MO_vote_321 : decode c_MO_vote 321 = .ok (.iconst 0, 1) := by decide +kernel
theorem d_MO_vote_322 : decode c_MO_vote 322 = .ok (.ireturn, 1) := by decide +kernel
theorem d_MO_score_0 : decode c_MO_score 0 = .ok (.iload_n 1, 1) := by decide +kernel
theorem d_MO_score_1 : decode c_MO_score 1 = .ok (.iconst 0, 1) := by decide +kernel
theorem d_MO_score_2 : decode c_MO_score 2 = .ok (.iconst 2, 1) := by decide +kernel
theorem d_MO_score_3 : decode c_MO_score 3 = .ok (.invokestatic 74, 3) := by decide +kernel
theorem d_MO_score_6 : decode c_MO_score 6 = .ok (.ifCond .eq 11, 3) := by decide +kernel
theorem d_MO_score_9 : decode c_MO_score 9 = .ok (.aload_n 0, 1) := by decide +kernel
theorem d_MO_score_10 : decode c_MO_score 10 = .ok (.iload_n 2, 1) := by decide +kernel
theorem d_MO_score_11 : decode c_MO_score 11 = .ok (.invokevirtual 96, 3) := by decide +kernel
theorem d_MO_score_14 : decode c_MO_score 14 = .ok (.ifCond .ne 5, 3) := by decide +kernel
theorem d_MO_score_17 : decode c_MO_score 17 = .ok (.iconst (-1), 1) := by decide +kernel
theorem d_MO_score_18 : decode c_MO_score 18 = .ok (.ireturn, 1) := by decide +kernel
theorem d_MO_score_19 : decode c_MO_score 19 = .ok (.iload_n 3, 1) := by decide +kernel
theorem d_MO_score_20 : decode c_MO_score 20 = .ok (.iconst 0, 1) := by decide +kernel
theorem d_MO_score_21 : decode c_MO_score 21 = .ok (.bipush 10, 2) := by decide +kernel
theorem d_MO_score_23 : decode c_MO_score 23 = .ok (.invokestatic 74, 3) := by decide +kernel
theorem d_MO_score_26 : decode c_MO_score 26 = .ok (.ifCond .ne 6, 3) := by decide +kernel
theorem d_MO_score_29 : decode c_MO_score 29 = .ok (.bipush (-2), 2) := by decide +kernel
theorem d_MO_score_31 : decode c_MO_score 31 = .ok (.ireturn, 1) := by decide +kernel
theorem d_MO_score_32 : decode c_MO_score 32 = .ok (.sipush 1325, 3) := by decide +kernel
theorem d_MO_score_35 : decode c_MO_score 35 = .ok (.bipush 20, 2) := by decide +kernel
theorem d_MO_score_37 : decode c_MO_score 37 = .ok (.iload_n 1, 1) := by decide +kernel
theorem d_MO_score_38 : decode c_MO_score 38 = .ok (.imul, 1) := by decide +kernel
theorem d_MO_score_39 : decode c_MO_score 39 = .ok (.iadd, 1) := by decide +kernel
theorem d_MO_score_40 : decode c_MO_score 40 = .ok (.iload_n 2, 1) := by decide +kernel
theorem d_MO_score_41 : decode c_MO_score 41 = .ok (.iadd, 1) := by decide +kernel
theorem d_MO_score_42 : decode c_MO_score 42 = .ok (.istore 4, 2) := by decide +kernel
theorem d_MO_score_44 : decode c_MO_score 44 = .ok (.aload_n 0, 1) := by decide +kernel
theorem d_MO_score_45 : decode c_MO_score 45 = .ok (.getfield 7, 3) := by decide +kernel
theorem d_MO_score_48 : decode c_MO_score 48 = .ok (.iload 4, 2) := by decide +kernel
theorem d_MO_score_50 : decode c_MO_score 50 = .ok (.iaload, 1) := by decide +kernel
theorem d_MO_score_51 : decode c_MO_score 51 = .ok (.iload_n 3, 1) := by decide +kernel
theorem d_MO_score_52 : decode c_MO_score 52 = .ok (.iconst 1, 1) := by decide +kernel
theorem d_MO_score_53 : decode c_MO_score 53 = .ok (.iadd, 1) := by decide +kernel
theorem d_MO_score_54 : decode c_MO_score 54 = .ok (.if_icmp .ne 6, 3) := by decide +kernel
theorem d_MO_score_57 : decode c_MO_score 57 = .ok (.bipush (-5), 2) := by decide +kernel
theorem d_MO_score_59 : decode c_MO_score 59 = .ok (.ireturn, 1) := by decide +kernel
theorem d_MO_score_60 : decode c_MO_score 60 = .ok (.aload_n 0, 1) := by decide +kernel
theorem d_MO_score_61 : decode c_MO_score 61 = .ok (.invokevirtual 156, 3) := by decide +kernel
theorem d_MO_score_64 : decode c_MO_score 64 = .ok (.aload_n 0, 1) := by decide +kernel
theorem d_MO_score_65 : decode c_MO_score 65 = .ok (.getfield 7, 3) := by decide +kernel
theorem d_MO_score_68 : decode c_MO_score 68 = .ok (.iload 4, 2) := by decide +kernel
theorem d_MO_score_70 : decode c_MO_score 70 = .ok (.iload_n 3, 1) := by decide +kernel
theorem d_MO_score_71 : decode c_MO_score 71 = .ok (.iconst 1, 1) := by decide +kernel
theorem d_MO_score_72 : decode c_MO_score 72 = .ok (.iadd, 1) := by decide +kernel
theorem d_MO_score_73 : decode c_MO_score 73 = .ok (.iastore, 1) := by decide +kernel
theorem d_MO_score_74 : decode c_MO_score 74 = .ok (.aload_n 0, 1) := by decide +kernel
theorem d_MO_score_75 : decode c_MO_score 75 = .ok (.invokevirtual 112, 3) := by decide +kernel
theorem d_MO_score_78 : decode c_MO_score 78 = .ok (.aload_n 0, 1) := by decide +kernel
theorem d_MO_score_79 : decode c_MO_score 79 = .ok (.iload_n 1, 1) := by decide +kernel
theorem d_MO_score_80 : decode c_MO_score 80 = .ok (.aload_n 0, 1) := by decide +kernel
theorem d_MO_score_81 : decode c_MO_score 81 = .ok (.getfield 22, 3) := by decide +kernel
theorem d_MO_score_84 : decode c_MO_score 84 = .ok (.iload_n 2, 1) := by decide +kernel
theorem d_MO_score_85 : decode c_MO_score 85 = .ok (.iaload, 1) := by decide +kernel
theorem d_MO_score_86 : decode c_MO_score 86 = .ok (.invokevirtual 118, 3) := by decide +kernel
theorem d_MO_score_89 : decode c_MO_score 89 = .ok (.ireturn, 1) := by decide +kernel
theorem d_MO_set_0 : decode c_MO_set 0 = .ok (.iload_n 1, 1) := by decide +kernel
theorem d_MO_set_1 : decode c_MO_set 1 = .ok (.iconst 0, 1) := by decide +kernel
theorem d_MO_set_2 : decode c_MO_set 2 = .ok (.iconst 2, 1) := by decide +kernel
theorem d_MO_set_3 : decode c_MO_set 3 = .ok (.invokestatic 74, 3) := by decide +kernel
theorem d_MO_set_6 : decode c_MO_set 6 = .ok (.ifCond .eq 21, 3) := by decide +kernel
theorem d_MO_set_9 : decode c_MO_set 9 = .ok (.iload_n 2, 1) := by decide +kernel
theorem d_MO_set_10 : decode c_MO_set 10 = .ok (.iconst 0, 1) := by decide +kernel
theorem d_MO_set_11 : decode c_MO_set 11 = .ok (.iload_n 1, 1) := by decide +kernel
theorem d_MO_set_12 : decode c_MO_set 12 = .ok (.iconst 1, 1) := by decide +kernel
theorem d_MO_set_13 : decode c_MO_set 13 = .ok (.if_icmp .ne 7, 3) := by decide +kernel
theorem d_MO_set_16 : decode c_MO_set 16 = .ok (.iconst 5, 1) := by decide +kernel
theorem d_MO_set_17 : decode c_MO_set 17 = .ok (.goto 4, 3) := by decide +kernel
theorem d_MO_set_20 : decode c_MO_set 20 = .ok (.iconst 1, 1) := by decide +kernel
theorem d_MO_set_21 : decode c_MO_set 21 = .ok (.invokestatic 74, 3) := by decide +kernel
theorem d_MO_set_24 : decode c_MO_set 24 = .ok (.ifCond .ne 6, 3) := by decide +kernel
theorem d_MO_set_27 : decode c_MO_set 27 = .ok (.bipush (-2), 2) := by decide +kernel
theorem d_MO_set_29 : decode c_MO_set 29 = .ok (.ireturn, 1) := by decide +kernel
theorem d_MO_set_30 : decode c_MO_set 30 = .ok (.aload_n 0, 1) := by decide +kernel
theorem d_MO_set_31 : decode c_MO_set 31 = .ok (.getfield 7, 3) := by decide +kernel
theorem d_MO_set_34 : decode c_MO_set 34 = .ok (.iconst 1, 1) := by decide +kernel
theorem d_MO_set_35 : decode c_MO_set 35 = .ok (.iload_n 1, 1) := by decide +kernel
theorem d_MO_set_36 : decode c_MO_set 36 = .ok (.iadd, 1) := by decide +kernel
theorem d_MO_set_37 : decode c_MO_set 37 = .ok (.iaload, 1) := by decide +kernel
theorem d_MO_set_38 : decode c_MO_set 38 = .ok (.istore_n 3, 1) := by decide +kernel
theorem d_MO_set_39 : decode c_MO_set 39 = .ok (.iload_n 3, 1) := by decide +kernel
theorem d_MO_set_40 : decode c_MO_set 40 = .ok (.iload_n 2, 1) := by decide +kernel
theorem d_MO_set_41 : decode c_MO_set 41 = .ok (.if_icmp .ne 6, 3) := by decide +kernel
theorem d_MO_set_44 : decode c_MO_set 44 = .ok (.bipush (-5), 2) := by decide +kernel
theorem d_MO_set_46 : decode c_MO_set 46 = .ok (.ireturn, 1) := by decide +kernel
theorem d_MO_set_47 : decode c_MO_set 47 = .ok (.aload_n 0, 1) := by decide +kernel
theorem d_MO_set_48 : decode c_MO_set 48 = .ok (.invokevirtual 156, 3) := by decide +kernel
theorem d_MO_set_51 : decode c_MO_set 51 = .ok (.aload_n 0, 1) := by decide +kernel
theorem d_MO_set_52 : decode c_MO_set 52 = .ok (.getfield 7, 3) := by decide +kernel
theorem d_MO_set_55 : decode c_MO_set 55 = .ok (.iconst 1, 1) := by decide +kernel
theorem d_MO_set_56 : decode c_MO_set 56 = .ok (.iload_n 1, 1) := by decide +kernel
theorem d_MO_set_57 : decode c_MO_set 57 = .ok (.iadd, 1) := by decide +kernel
theorem d_MO_set_58 : decode c_MO_set 58 = .ok (.iload_n 2, 1) := by decide +kernel
theorem d_MO_set_59 : decode c_MO_set 59 = .ok (.iastore, 1) := by decide +kernel
theorem d_MO_set_60 : decode c_MO_set 60 = .ok (.iload_n 3, 1) := by decide +kernel
theorem d_MO_set_61 : decode c_MO_set 61 = .ok (.ireturn, 1) := by decide +kernel
theorem d_MO_prize_0 : decode c_MO_prize 0 = .ok (.iload_n 1, 1) := by decide +kernel
theorem d_MO_prize_1 : decode c_MO_prize 1 = .ok (.iconst 1, 1) := by decide +kernel
theorem d_MO_prize_2 : decode c_MO_prize 2 = .ok (.iconst 5, 1) := by decide +kernel
theorem d_MO_prize_3 : decode c_MO_prize 3 = .ok (.invokestatic 74, 3) := by decide +kernel
theorem d_MO_prize_6 : decode c_MO_prize 6 = .ok (.ifCond .eq 14, 3) := by decide +kernel
theorem d_MO_prize_9 : decode c_MO_prize 9 = .ok (.iload_n 2, 1) := by decide +kernel
theorem d_MO_prize_10 : decode c_MO_prize 10 = .ok (.iconst 0, 1) := by decide +kernel
theorem d_MO_prize_11 : decode c_MO_prize 11 = .ok (.sipush 999, 3) := by decide +kernel
theorem d_MO_prize_14 : decode c_MO_prize 14 = .ok (.invokestatic 74, 3) := by decide +kernel
theorem d_MO_prize_17 : decode c_MO_prize 17 = .ok (.ifCond .ne 6, 3) := by decide +kernel
theorem d_MO_prize_20 : decode c_MO_prize 20 = .ok (.bipush (-2), 2) := by decide +kernel
theorem d_MO_prize_22 : decode c_MO_prize 22 = .ok (.ireturn, 1) := by decide +kernel
theorem d_MO_prize_23 : decode c_MO_prize 23 = .ok (.aload_n 0, 1) := by decide +kernel
theorem d_MO_prize_24 : decode c_MO_prize 24 = .ok (.getfield 7, 3) := by decide +kernel
theorem d_MO_prize_27 : decode c_MO_prize 27 = .ok (.iconst 4, 1) := by decide +kernel
theorem d_MO_prize_28 : decode c_MO_prize 28 = .ok (.iload_n 1, 1) := by decide +kernel
theorem d_MO_prize_29 : decode c_MO_prize 29 = .ok (.iadd, 1) := by decide +kernel
theorem d_MO_prize_30 : decode c_MO_prize 30 = .ok (.iconst 1, 1) := by decide +kernel
theorem d_MO_prize_31 : decode c_MO_prize 31 = .ok (.isub, 1) := by decide +kernel
theorem d_MO_prize_32 : decode c_MO_prize 32 = .ok (.iaload, 1) := by decide +kernel
theorem d_MO_prize_33 : decode c_MO_prize 33 = .ok (.istore_n 3, 1) := by decide +kernel
theorem d_MO_prize_34 : decode c_MO_prize 34 = .ok (.iload_n 3, 1) := by decide +kernel
theorem d_MO_prize_35 : decode c_MO_prize 35 = .ok (.iload_n 2, 1) := by decide +kernel
theorem d_MO_prize_36 : decode c_MO_prize 36 = .ok (.if_icmp .ne 6, 3) := by decide +kernel
theorem d_MO_prize_39 : decode c_MO_prize 39 = .ok (.bipush (-5), 2) := by decide +kernel
theorem d_MO_prize_41 : decode c_MO_prize 41 = .ok (.ireturn, 1) := by decide +kernel
theorem d_MO_prize_42 : decode c_MO_prize 42 = .ok (.aload_n 0, 1) := by decide +kernel
theorem d_MO_prize_43 : decode c_MO_prize 43 = .ok (.invokevirtual 156, 3) := by decide +kernel
theorem d_MO_prize_46 : decode c_MO_prize 46 = .ok (.aload_n 0, 1) := by decide +kernel
theorem d_MO_prize_47 : decode c_MO_prize 47 = .ok (.getfield 7, 3) := by decide +kernel
theorem d_MO_prize_50 : decode c_MO_prize 50 = .ok (.iconst 4, 1) := by decide +kernel
theorem d_MO_prize_51 : decode c_MO_prize 51 = .ok (.iload_n 1, 1) := by decide +kernel
theorem d_MO_prize_52 : decode c_MO_prize 52 = .ok (.iadd, 1) := by decide +kernel
theorem d_MO_prize_53 : decode c_MO_prize 53 = .ok (.iconst 1, 1) := by decide +kernel
theorem d_MO_prize_54 : decode c_MO_prize 54 = .ok (.isub, 1) := by decide +kernel
theorem d_MO_prize_55 : decode c_MO_prize 55 = .ok (.iload_n 2, 1) := by decide +kernel
theorem d_MO_prize_56 : decode c_MO_prize 56 = .ok (.iastore, 1) := by decide +kernel
theorem d_MO_prize_57 : decode c_MO_prize 57 = .ok (.iload_n 3, 1) := by decide +kernel
theorem d_MO_prize_58 : decode c_MO_prize 58 = .ok (.ireturn, 1) := by decide +kernel
theorem d_MO_type_0 : decode c_MO_type 0 = .ok (.aload_n 0, 1) := by decide +kernel
theorem d_MO_type_1 : decode c_MO_type 1 = .ok (.getfield 146, 3) := by decide +kernel
theorem d_MO_type_4 : decode c_MO_type 4 = .ok (.bipush 60, 2) := by decide +kernel
theorem d_MO_type_6 : decode c_MO_type 6 = .ok (.if_icmp .ne 6, 3) := by decide +kernel
theorem d_MO_type_9 : decode c_MO_type 9 = .ok (.bipush (-3), 2) := by decide +kernel
theorem d_MO_type_11 : decode c_MO_type 11 = .ok (.ireturn, 1) := by decide +kernel
theorem d_MO_type_12 : decode c_MO_type 12 = .ok (.aload_n 0, 1) := by decide +kernel
theorem d_MO_type_13 : decode c_MO_type 13 = .ok (.getfield 19, 3) := by decide +kernel
theorem d_MO_type_16 : decode c_MO_type 16 = .ok (.aload_n 0, 1) := by decide +kernel
theorem d_MO_type_17 : decode c_MO_type 17 = .ok (.getfield 146, 3) := by decide +kernel
theorem d_MO_type_20 : decode c_MO_type 20 = .ok (.iload_n 1, 1) := by decide +kernel
theorem d_MO_type_21 : decode c_MO_type 21 = .ok (.iastore, 1) := by decide +kernel
theorem d_MO_type_22 : decode c_MO_type 22 = .ok (.aload_n 0, 1) := by decide +kernel
theorem d_MO_type_23 : decode c_MO_type 23 = .ok (.dup, 1) := by decide +kernel
theorem d_MO_type_24 : decode c_MO_type 24 = .ok (.getfield 146, 3) := by decide +kernel
theorem d_MO_type_27 : decode c_MO_type 27 = .ok (.iconst 1, 1) := by decide +kernel
theorem d_MO_type_28 : decode c_MO_type 28 = .ok (.iadd, 1) := by decide +kernel
theorem d_MO_type_29 : decode c_MO_type 29 = .ok (.putfield 146, 3) := by decide +kernel
theorem d_MO_type_32 : decode c_MO_type 32 = .ok (.aload_n 0, 1) := by decide +kernel
theorem d_MO_type_33 : decode c_MO_type 33 = .ok (.getfield 146, 3) := by decide +kernel
theorem d_MO_type_36 : decode c_MO_type 36 = .ok (.ireturn, 1) := by decide +kernel
theorem d_MO_clearText_0 : decode c_MO_clearText 0 = .ok (.aload_n 0, 1) := by decide +kernel
theorem d_MO_clearText_1 : decode c_MO_clearText 1 = .ok (.getfield 146, 3) := by decide +kernel
theorem d_MO_clearText_4 : decode c_MO_clearText 4 = .ok (.istore_n 1, 1) := by decide +kernel
theorem d_MO_clearText_5 : decode c_MO_clearText 5 = .ok (.aload_n 0, 1) := by decide +kernel
theorem d_MO_clearText_6 : decode c_MO_clearText 6 = .ok (.iconst 0, 1) := by decide +kernel
theorem d_MO_clearText_7 : decode c_MO_clearText 7 = .ok (.putfield 146, 3) := by decide +kernel
theorem d_MO_clearText_10 : decode c_MO_clearText 10 = .ok (.iload_n 1, 1) := by decide +kernel
theorem d_MO_clearText_11 : decode c_MO_clearText 11 = .ok (.ireturn, 1) := by decide +kernel
theorem d_MO_undo_0 : decode c_MO_undo 0 = .ok (.aload_n 0, 1) := by decide +kernel
theorem d_MO_undo_1 : decode c_MO_undo 1 = .ok (.getfield 70, 3) := by decide +kernel
theorem d_MO_undo_4 : decode c_MO_undo 4 = .ok (.ifCond .ne 6, 3) := by decide +kernel
theorem d_MO_undo_7 : decode c_MO_undo 7 = .ok (.bipush (-5), 2) := by decide +kernel
theorem d_MO_undo_9 : decode c_MO_undo 9 = .ok (.ireturn, 1) := by decide +kernel
theorem d_MO_undo_10 : decode c_MO_undo 10 = .ok (.aload_n 0, 1) := by decide +kernel
theorem d_MO_undo_11 : decode c_MO_undo 11 = .ok (.dup, 1) := by decide +kernel
theorem d_MO_undo_12 : decode c_MO_undo 12 = .ok (.getfield 70, 3) := by decide +kernel
theorem d_MO_undo_15 : decode c_MO_undo 15 = .ok (.iconst 1, 1) := by decide +kernel
theorem d_MO_undo_16 : decode c_MO_undo 16 = .ok (.isub, 1) := by decide +kernel
theorem d_MO_undo_17 : decode c_MO_undo 17 = .ok (.putfield 70, 3) := by decide +kernel
theorem d_MO_undo_20 : decode c_MO_undo 20 = .ok (.iconst 0, 1) := by decide +kernel
theorem d_MO_undo_21 : decode c_MO_undo 21 = .ok (.istore_n 1, 1) := by decide +kernel
theorem d_MO_undo_22 : decode c_MO_undo 22 = .ok (.iload_n 1, 1) := by decide +kernel
theorem d_MO_undo_23 : decode c_MO_undo 23 = .ok (.sipush 1385, 3) := by decide +kernel
theorem d_MO_undo_26 : decode c_MO_undo 26 = .ok (.if_icmp .ge 30, 3) := by decide +kernel
theorem d_MO_undo_29 : decode c_MO_undo 29 = .ok (.aload_n 0, 1) := by decide +kernel
theorem d_MO_undo_30 : decode c_MO_undo 30 = .ok (.getfield 7, 3) := by decide +kernel
theorem d_MO_undo_33 : decode c_MO_undo 33 = .ok (.iload_n 1, 1) := by decide +kernel
theorem d_MO_undo_34 : decode c_MO_undo 34 = .ok (.aload_n 0, 1) := by decide +kernel
theorem d_MO_undo_35 : decode c_MO_undo 35 = .ok (.getfield 16, 3) := by decide +kernel
theorem d_MO_undo_38 : decode c_MO_undo 38 = .ok (.sipush 1385, 3) := by decide +kernel
theorem d_MO_undo_41 : decode c_MO_undo 41 = .ok (.aload_n 0, 1) := by decide +kernel
theorem d_MO_undo_42 : decode c_MO_undo 42 = .ok (.getfield 70, 3) := by decide +kernel
theorem d_MO_undo_45 : decode c_MO_undo 45 = .ok (.imul, 1) := by decide +kernel
theorem d_MO_undo_46 : decode c_MO_undo 46 = .ok (.iload_n 1, 1) := by decide +kernel
theorem d_MO_undo_47 : decode c_MO_undo 47 = .ok (.iadd, 1) := by decide +kernel
theorem d_MO_undo_48 : decode c_MO_undo 48 = .ok (.iaload, 1) := by decide +kernel
theorem d_MO_undo_49 : decode c_MO_undo 49 = .ok (.iastore, 1) := by decide +kernel
theorem d_MO_undo_50 : decode c_MO_undo 50 = .ok (.iinc 1 1, 3) := by decide +kernel
theorem d_MO_undo_53 : decode c_MO_undo 53 = .ok (.goto (-31), 3) := by decide +kernel
theorem d_MO_undo_56 : decode c_MO_undo 56 = .ok (.aload_n 0, 1) := by decide +kernel
theorem d_MO_undo_57 : decode c_MO_undo 57 = .ok (.getfield 70, 3) := by decide +kernel
theorem d_MO_undo_60 : decode c_MO_undo 60 = .ok (.ireturn, 1) := by decide +kernel
theorem d_MO_keep_0 : decode c_MO_keep 0 = .ok (.iconst 0, 1) := by decide +kernel
theorem d_MO_keep_1 : decode c_MO_keep 1 = .ok (.istore_n 1, 1) := by decide +kernel
theorem d_MO_keep_2 : decode c_MO_keep 2 = .ok (.iload_n 1, 1) := by decide +kernel
theorem d_MO_keep_3 : decode c_MO_keep 3 = .ok (.sipush 1385, 3) := by decide +kernel
theorem d_MO_keep_6 : decode c_MO_keep 6 = .ok (.if_icmp .ge 21, 3) := by decide +kernel
theorem d_MO_keep_9 : decode c_MO_keep 9 = .ok (.aload_n 0, 1) := by decide +kernel
theorem d_MO_keep_10 : decode c_MO_keep 10 = .ok (.getfield 13, 3) := by decide +kernel
theorem d_MO_keep_13 : decode c_MO_keep 13 = .ok (.iload_n 1, 1) := by decide +kernel
theorem d_MO_keep_14 : decode c_MO_keep 14 = .ok (.aload_n 0, 1) := by decide +kernel
theorem d_MO_keep_15 : decode c_MO_keep 15 = .ok (.getfield 7, 3) := by decide +kernel
theorem d_MO_keep_18 : decode c_MO_keep 18 = .ok (.iload_n 1, 1) := by decide +kernel
theorem d_MO_keep_19 : decode c_MO_keep 19 = .ok (.iaload, 1) := by decide +kernel
theorem d_MO_keep_20 : decode c_MO_keep 20 = .ok (.iastore, 1) := by decide +kernel
theorem d_MO_keep_21 : decode c_MO_keep 21 = .ok (.iinc 1 1, 3) := by decide +kernel
theorem d_MO_keep_24 : decode c_MO_keep 24 = .ok (.goto (-22), 3) := by decide +kernel
theorem d_MO_keep_27 : decode c_MO_keep 27 = .ok (.aload_n 0, 1) := by decide +kernel
theorem d_MO_keep_28 : decode c_MO_keep 28 = .ok (.iconst 1, 1) := by decide +kernel
theorem d_MO_keep_29 : decode c_MO_keep 29 = .ok (.putfield 162, 3) := by decide +kernel
theorem d_MO_keep_32 : decode c_MO_keep 32 = .ok (.aload_n 0, 1) := by decide +kernel
theorem d_MO_keep_33 : decode c_MO_keep 33 = .ok (.invokevirtual 159, 3) := by decide +kernel
theorem d_MO_keep_36 : decode c_MO_keep 36 = .ok (.ireturn, 1) := by decide +kernel
theorem d_MO_restore_0 : decode c_MO_restore 0 = .ok (.aload_n 0, 1) := by decide +kernel
theorem d_MO_restore_1 : decode c_MO_restore 1 = .ok (.getfield 162, 3) := by decide +kernel
theorem d_MO_restore_4 : decode c_MO_restore 4 = .ok (.ifCond .ne 6, 3) := by decide +kernel
theorem d_MO_restore_7 : decode c_MO_restore 7 = .ok (.bipush (-5), 2) := by decide +kernel
theorem d_MO_restore_9 : decode c_MO_restore 9 = .ok (.ireturn, 1) := by decide +kernel
theorem d_MO_restore_10 : decode c_MO_restore 10 = .ok (.aload_n 0, 1) := by decide +kernel
theorem d_MO_restore_11 : decode c_MO_restore 11 = .ok (.invokevirtual 156, 3) := by decide +kernel
theorem d_MO_restore_14 : decode c_MO_restore 14 = .ok (.iconst 0, 1) := by decide +kernel
theorem d_MO_restore_15 : decode c_MO_restore 15 = .ok (.istore_n 1, 1) := by decide +kernel
theorem d_MO_restore_16 : decode c_MO_restore 16 = .ok (.iload_n 1, 1) := by decide +kernel
theorem d_MO_restore_17 : decode c_MO_restore 17 = .ok (.sipush 1385, 3) := by decide +kernel
theorem d_MO_restore_20 : decode c_MO_restore 20 = .ok (.if_icmp .ge 21, 3) := by decide +kernel
theorem d_MO_restore_23 : decode c_MO_restore 23 = .ok (.aload_n 0, 1) := by decide +kernel
theorem d_MO_restore_24 : decode c_MO_restore 24 = .ok (.getfield 7, 3) := by decide +kernel
theorem d_MO_restore_27 : decode c_MO_restore 27 = .ok (.iload_n 1, 1) := by decide +kernel
theorem d_MO_restore_28 : decode c_MO_restore 28 = .ok (.aload_n 0, 1) := by decide +kernel
theorem d_MO_restore_29 : decode c_MO_restore 29 = .ok (.getfield 13, 3) := by decide +kernel
theorem d_MO_restore_32 : decode c_MO_restore 32 = .ok (.iload_n 1, 1) := by decide +kernel
theorem d_MO_restore_33 : decode c_MO_restore 33 = .ok (.iaload, 1) := by decide +kernel
theorem d_MO_restore_34 : decode c_MO_restore 34 = .ok (.iastore, 1) := by decide +kernel
theorem d_MO_restore_35 : decode c_MO_restore 35 = .ok (.iinc 1 1, 3) := by decide +kernel
theorem d_MO_restore_38 : decode c_MO_restore 38 = .ok (.goto (-22), 3) := by decide +kernel
theorem d_MO_restore_41 : decode c_MO_restore 41 = .ok (.aload_n 0, 1) := by decide +kernel
theorem d_MO_restore_42 : decode c_MO_restore 42 = .ok (.invokevirtual 159, 3) := by decide +kernel
theorem d_MO_restore_45 : decode c_MO_restore 45 = .ok (.ireturn, 1) := by decide +kernel
theorem d_MO_links_0 : decode c_MO_links 0 = .ok (.iconst 0, 1) := by decide +kernel
theorem d_MO_links_1 : decode c_MO_links 1 = .ok (.istore_n 2, 1) := by decide +kernel
theorem d_MO_links_2 : decode c_MO_links 2 = .ok (.iconst 0, 1) := by decide +kernel
theorem d_MO_links_3 : decode c_MO_links 3 = .ok (.istore_n 3, 1) := by decide +kernel
theorem d_MO_links_4 : decode c_MO_links 4 = .ok (.iload_n 3, 1) := by decide +kernel
theorem d_MO_links_5 : decode c_MO_links 5 = .ok (.aload_n 0, 1) := by decide +kernel
theorem d_MO_links_6 : decode c_MO_links 6 = .ok (.getfield 7, 3) := by decide +kernel
theorem d_MO_links_9 : decode c_MO_links 9 = .ok (.iconst 0, 1) := by decide +kernel
theorem d_MO_links_10 : decode c_MO_links 10 = .ok (.iaload, 1) := by decide +kernel
theorem d_MO_links_11 : decode c_MO_links 11 = .ok (.if_icmp .ge 34, 3) := by decide +kernel
theorem d_MO_links_14 : decode c_MO_links 14 = .ok (.iload_n 2, 1) := by decide +kernel
theorem d_MO_links_15 : decode c_MO_links 15 = .ok (.aload_n 0, 1) := by decide +kernel
theorem d_MO_links_16 : decode c_MO_links 16 = .ok (.iload_n 3, 1) := by decide +kernel
theorem d_MO_links_17 : decode c_MO_links 17 = .ok (.invokevirtual 96, 3) := by decide +kernel
theorem d_MO_links_20 : decode c_MO_links 20 = .ok (.ifCond .eq 16, 3) := by decide +kernel
theorem d_MO_links_23 : decode c_MO_links 23 = .ok (.aload_n 0, 1) := by decide +kernel
theorem d_MO_links_24 : decode c_MO_links 24 = .ok (.iload_n 1, 1) := by decide +kernel
theorem d_MO_links_25 : decode c_MO_links 25 = .ok (.iload_n 3, 1) := by decide +kernel
theorem d_MO_links_26 : decode c_MO_links 26 = .ok (.invokevirtual 99, 3) := by decide +kernel
theorem d_MO_links_29 : decode c_MO_links 29 = .ok (.ifCond .eq 7, 3) := by decide +kernel
theorem d_MO_links_32 : decode c_MO_links 32 = .ok (.iconst 1, 1) := by decide +kernel
theorem d_MO_links_33 : decode c_MO_links 33 = .ok (.goto 4, 3) := by decide +kernel
theorem d_MO_links_36 : decode c_MO_links 36 = .ok (.iconst 0, 1) := by decide +kernel
theorem d_MO_links_37 : decode c_MO_links 37 = .ok (.iadd, 1) := by decide +kernel
theorem d_MO_links_38 : decode c_MO_links 38 = .ok (.istore_n 2, 1) := by decide +kernel
theorem d_MO_links_39 : decode c_MO_links 39 = .ok (.iinc 3 1, 3) := by decide +kernel
theorem d_MO_links_42 : decode c_MO_links 42 = .ok (.goto (-38), 3) := by decide +kernel
theorem d_MO_links_45 : decode c_MO_links 45 = .ok (.iload_n 2, 1) := by decide +kernel
theorem d_MO_links_46 : decode c_MO_links 46 = .ok (.ireturn, 1) := by decide +kernel
theorem d_MO_stands_0 : decode c_MO_stands 0 = .ok (.iconst 0, 1) := by decide +kernel
theorem d_MO_stands_1 : decode c_MO_stands 1 = .ok (.istore_n 2, 1) := by decide +kernel
theorem d_MO_stands_2 : decode c_MO_stands 2 = .ok (.iconst 0, 1) := by decide +kernel
theorem d_MO_stands_3 : decode c_MO_stands 3 = .ok (.istore_n 3, 1) := by decide +kernel
theorem d_MO_stands_4 : decode c_MO_stands 4 = .ok (.iload_n 3, 1) := by decide +kernel
theorem d_MO_stands_5 : decode c_MO_stands 5 = .ok (.bipush 36, 2) := by decide +kernel
theorem d_MO_stands_7 : decode c_MO_stands 7 = .ok (.if_icmp .ge 33, 3) := by decide +kernel
theorem d_MO_stands_10 : decode c_MO_stands 10 = .ok (.iload_n 2, 1) := by decide +kernel
theorem d_MO_stands_11 : decode c_MO_stands 11 = .ok (.aload_n 0, 1) := by decide +kernel
theorem d_MO_stands_12 : decode c_MO_stands 12 = .ok (.getfield 7, 3) := by decide +kernel
theorem d_MO_stands_15 : decode c_MO_stands 15 = .ok (.sipush 1289, 3) := by decide +kernel
theorem d_MO_stands_18 : decode c_MO_stands 18 = .ok (.iload_n 3, 1) := by decide +kernel
theorem d_MO_stands_19 : decode c_MO_stands 19 = .ok (.iadd, 1) := by decide +kernel
theorem d_MO_stands_20 : decode c_MO_stands 20 = .ok (.iaload, 1) := by decide +kernel
theorem d_MO_stands_21 : decode c_MO_stands 21 = .ok (.iload_n 1, 1) := by decide +kernel
theorem d_MO_stands_22 : decode c_MO_stands 22 = .ok (.iconst 1, 1) := by decide +kernel
theorem d_MO_stands_23 : decode c_MO_stands 23 = .ok (.iadd, 1) := by decide +kernel
theorem d_MO_stands_24 : decode c_MO_stands 24 = .ok (.if_icmp .ne 7, 3) := by decide +kernel
theorem d_MO_stands_27 : decode c_MO_stands 27 = .ok (.iconst 1, 1) := by decide +kernel
theorem d_MO_stands_28 : decode c_MO_stands 28 = .ok (.goto 4, 3) := by decide +kernel
theorem d_MO_stands_31 : decode c_MO_stands 31 = .ok (.iconst 0, 1) := by decide +kernel
theorem d_MO_stands_32 : decode c_MO_stands 32 = .ok (.iadd, 1) := by decide +kernel
theorem d_MO_stands_33 : decode c_MO_stands 33 = .ok (.istore_n 2, 1) := by decide +kernel
theorem d_MO_stands_34 : decode c_MO_stands 34 = .ok (.iinc 3 1, 3) := by decide +kernel
theorem d_MO_stands_37 : decode c_MO_stands 37 = .ok (.goto (-33), 3) := by decide +kernel
theorem d_MO_stands_40 : decode c_MO_stands 40 = .ok (.iload_n 2, 1) := by decide +kernel
theorem d_MO_stands_41 : decode c_MO_stands 41 = .ok (.ireturn, 1) := by decide +kernel
theorem d_MO_caption_0 : decode c_MO_caption 0 = .ok (.aload_n 0, 1) := by decide +kernel
theorem d_MO_caption_1 : decode c_MO_caption 1 = .ok (.iload_n 1, 1) := by decide +kernel
theorem d_MO_caption_2 : decode c_MO_caption 2 = .ok (.invokevirtual 96, 3) := by decide +kernel
theorem d_MO_caption_5 : decode c_MO_caption 5 = .ok (.ifCond .ne 5, 3) := by decide +kernel
theorem d_MO_caption_8 : decode c_MO_caption 8 = .ok (.iconst (-1), 1) := by decide +kernel
theorem d_MO_caption_9 : decode c_MO_caption 9 = .ok (.ireturn, 1) := by decide +kernel
theorem d_MO_caption_10 : decode c_MO_caption 10 = .ok (.iload_n 2, 1) := by decide +kernel
theorem d_MO_caption_11 : decode c_MO_caption 11 = .ok (.iconst 0, 1) := by decide +kernel
theorem d_MO_caption_12 : decode c_MO_caption 12 = .ok (.bipush 6, 2) := by decide +kernel
theorem d_MO_caption_14 : decode c_MO_caption 14 = .ok (.invokestatic 74, 3) := by decide +kernel
theorem d_MO_caption_17 : decode c_MO_caption 17 = .ok (.ifCond .ne 6, 3) := by decide +kernel
theorem d_MO_caption_20 : decode c_MO_caption 20 = .ok (.bipush (-2), 2) := by decide +kernel
theorem d_MO_caption_22 : decode c_MO_caption 22 = .ok (.ireturn, 1) := by decide +kernel
theorem d_MO_caption_23 : decode c_MO_caption 23 = .ok (.iload_n 2, 1) := by decide +kernel
theorem d_MO_caption_24 : decode c_MO_caption 24 = .ok (.ifCond .eq 8, 3) := by decide +kernel
theorem d_MO_caption_27 : decode c_MO_caption 27 = .ok (.iload_n 2, 1) := by decide +kernel
theorem d_MO_caption_28 : decode c_MO_caption 28 = .ok (.iconst 2, 1) := by decide +kernel
theorem d_MO_caption_29 : decode c_MO_caption 29 = .ok (.if_icmp .ne 22, 3) := by decide +kernel
theorem d_MO_caption_32 : decode c_MO_caption 32 = .ok (.aload_n 0, 1) := by decide +kernel
theorem d_MO_caption_33 : decode c_MO_caption 33 = .ok (.getfield 7, 3) := by decide +kernel
theorem d_MO_caption_36 : decode c_MO_caption 36 = .ok (.iload_n 2, 1) := by decide +kernel
theorem d_MO_caption_37 : decode c_MO_caption 37 = .ok (.ifCond .ne 8, 3) := by decide +kernel
theorem d_MO_caption_40 : decode c_MO_caption 40 = .ok (.bipush 9, 2) := by decide +kernel
theorem d_MO_caption_42 : decode c_MO_caption 42 = .ok (.goto 5, 3) := by decide +kernel
theorem d_MO_caption_45 : decode c_MO_caption 45 = .ok (.bipush 69, 2) := by decide +kernel
theorem d_MO_caption_47 : decode c_MO_caption 47 = .ok (.iload_n 1, 1) := by decide +kernel
theorem d_MO_caption_48 : decode c_MO_caption 48 = .ok (.iadd, 1) := by decide +kernel
theorem d_MO_caption_49 : decode c_MO_caption 49 = .ok (.iaload, 1) := by decide +kernel
theorem d_MO_caption_50 : decode c_MO_caption 50 = .ok (.ireturn, 1) := by decide +kernel
theorem d_MO_caption_51 : decode c_MO_caption 51 = .ok (.iload_n 2, 1) := by decide +kernel
theorem d_MO_caption_52 : decode c_MO_caption 52 = .ok (.iconst 3, 1) := by decide +kernel
theorem d_MO_caption_53 : decode c_MO_caption 53 = .ok (.if_icmp .eq 8, 3) := by decide +kernel
theorem d_MO_caption_56 : decode c_MO_caption 56 = .ok (.iload_n 2, 1) := by decide +kernel
theorem d_MO_caption_57 : decode c_MO_caption 57 = .ok (.iconst 4, 1) := by decide +kernel
theorem d_MO_caption_58 : decode c_MO_caption 58 = .ok (.if_icmp .ne 27, 3) := by decide +kernel
theorem d_MO_caption_61 : decode c_MO_caption 61 = .ok (.aload_n 0, 1) := by decide +kernel
theorem d_MO_caption_62 : decode c_MO_caption 62 = .ok (.invokevirtual 90, 3) := by decide +kernel
theorem d_MO_caption_65 : decode c_MO_caption 65 = .ok (.iload_n 2, 1) := by decide +kernel
theorem d_MO_caption_66 : decode c_MO_caption 66 = .ok (.iconst 3, 1) := by decide +kernel
theorem d_MO_caption_67 : decode c_MO_caption 67 = .ok (.if_icmp .ne 12, 3) := by decide +kernel
theorem d_MO_caption_70 : decode c_MO_caption 70 = .ok (.aload_n 0, 1) := by decide +kernel
theorem d_MO_caption_71 : decode c_MO_caption 71 = .ok (.getfield 61, 3) := by decide +kernel
theorem d_MO_caption_74 : decode c_MO_caption 74 = .ok (.iload_n 1, 1) := by decide +kernel
theorem d_MO_caption_75 : decode c_MO_caption 75 = .ok (.iaload, 1) := by decide +kernel
theorem d_MO_caption_76 : decode c_MO_caption 76 = .ok (.goto 8, 3) := by decide +kernel
theorem d_MO_caption_79 : decode c_MO_caption 79 = .ok (.aload_n 0, 1) := by decide +kernel
theorem d_MO_caption_80 : decode c_MO_caption 80 = .ok (.iload_n 1, 1) := by decide +kernel
theorem d_MO_caption_81 : decode c_MO_caption 81 = .ok (.invokevirtual 166, 3) := by decide +kernel
theorem d_MO_caption_84 : decode c_MO_caption 84 = .ok (.ireturn, 1) := by decide +kernel
theorem d_MO_caption_85 : decode c_MO_caption 85 = .ok (.aload_n 0, 1) := by decide +kernel
theorem d_MO_caption_86 : decode c_MO_caption 86 = .ok (.invokevirtual 169, 3) := by decide +kernel
theorem d_MO_caption_89 : decode c_MO_caption 89 = .ok (.iload_n 2, 1) := by decide +kernel
theorem d_MO_caption_90 : decode c_MO_caption 90 = .ok (.iconst 1, 1) := by decide +kernel
theorem d_MO_caption_91 : decode c_MO_caption 91 = .ok (.if_icmp .ne 12, 3) := by decide +kernel
theorem d_MO_caption_94 : decode c_MO_caption 94 = .ok (.aload_n 0, 1) := by decide +kernel
theorem d_MO_caption_95 : decode c_MO_caption 95 = .ok (.getfield 22, 3) := by decide +kernel
theorem d_MO_caption_98 : decode c_MO_caption 98 = .ok (.iload_n 1, 1) := by decide +kernel
theorem d_MO_caption_99 : decode c_MO_caption 99 = .ok (.iaload, 1) := by decide +kernel
theorem d_MO_caption_100 : decode c_MO_caption 100 = .ok (.goto 22, 3) := by decide +kernel
theorem d_MO_caption_103 : decode c_MO_caption 103 = .ok (.iload_n 2, 1) := by decide +kernel
theorem d_MO_caption_104 : decode c_MO_caption 104 = .ok (.iconst 5, 1) := by decide +kernel
theorem d_MO_caption_105 : decode c_MO_caption 105 = .ok (.if_icmp .ne 12, 3) := by decide +kernel
theorem d_MO_caption_108 : decode c_MO_caption 108 = .ok (.aload_n 0, 1) := by decide +kernel
theorem d_MO_caption_109 : decode c_MO_caption 109 = .ok (.getfield 52, 3) := by decide +kernel
theorem d_MO_caption_112 : decode c_MO_caption 112 = .ok (.iload_n 1, 1) := by decide +kernel
theorem d_MO_caption_113 : decode c_MO_caption 113 = .ok (.iaload, 1) := by decide +kernel
theorem d_MO_caption_114 : decode c_MO_caption 114 = .ok (.goto 8, 3) := by decide +kernel
theorem d_MO_caption_117 : decode c_MO_caption 117 = .ok (.aload_n 0, 1) := by decide +kernel
theorem d_MO_caption_118 : decode c_MO_caption 118 = .ok (.iload_n 1, 1) := by decide +kernel
theorem d_MO_caption_119 : decode c_MO_caption 119 = .ok (.invokevirtual 172, 3) := by decide +kernel
theorem d_MO_caption_122 : decode c_MO_caption 122 = .ok (.ireturn, 1) := by decide +kernel
theorem d_MO_letter_0 : decode c_MO_letter 0 = .ok (.aload_n 0, 1) := by decide +kernel
theorem d_MO_letter_1 : decode c_MO_letter 1 = .ok (.iload_n 1, 1) := by decide +kernel
theorem d_MO_letter_2 : decode c_MO_letter 2 = .ok (.invokevirtual 96, 3) := by decide +kernel
theorem d_MO_letter_5 : decode c_MO_letter 5 = .ok (.ifCond .ne 5, 3) := by decide +kernel
theorem d_MO_letter_8 : decode c_MO_letter 8 = .ok (.iconst (-1), 1) := by decide +kernel
theorem d_MO_letter_9 : decode c_MO_letter 9 = .ok (.ireturn, 1) := by decide +kernel
theorem d_MO_letter_10 : decode c_MO_letter 10 = .ok (.iload_n 2, 1) := by decide +kernel
theorem d_MO_letter_11 : decode c_MO_letter 11 = .ok (.ifCond .ge 6, 3) := by decide +kernel
theorem d_MO_letter_14 : decode c_MO_letter 14 = .ok (.bipush (-2), 2) := by decide +kernel
theorem d_MO_letter_16 : decode c_MO_letter 16 = .ok (.ireturn, 1) := by decide +kernel
theorem d_MO_letter_17 : decode c_MO_letter 17 = .ok (.iload_n 2, 1) := by decide +kernel
theorem d_MO_letter_18 : decode c_MO_letter 18 = .ok (.aload_n 0, 1) := by decide +kernel
theorem d_MO_letter_19 : decode c_MO_letter 19 = .ok (.getfield 7, 3) := by decide +kernel
theorem d_MO_letter_22 : decode c_MO_letter 22 = .ok (.bipush 69, 2) := by decide +kernel
theorem d_MO_letter_24 : decode c_MO_letter 24 = .ok (.iload_n 1, 1) := by decide +kernel
theorem d_MO_letter_25 : decode c_MO_letter 25 = .ok (.iadd, 1) := by decide +kernel
theorem d_MO_letter_26 : decode c_MO_letter 26 = .ok (.iaload, 1) := by decide +kernel
theorem d_MO_letter_27 : decode c_MO_letter 27 = .ok (.if_icmp .ge 12, 3) := by decide +kernel
theorem d_MO_letter_30 : decode c_MO_letter 30 = .ok (.aload_n 0, 1) := by decide +kernel
theorem d_MO_letter_31 : decode c_MO_letter 31 = .ok (.iload_n 1, 1) := by decide +kernel
theorem d_MO_letter_32 : decode c_MO_letter 32 = .ok (.iload_n 2, 1) := by decide +kernel
theorem d_MO_letter_33 : decode c_MO_letter 33 = .ok (.invokevirtual 82, 3) := by decide +kernel
theorem d_MO_letter_36 : decode c_MO_letter 36 = .ok (.goto 5, 3) := by decide +kernel
theorem d_MO_letter_39 : decode c_MO_letter 39 = .ok (.bipush (-5), 2) := by decide +kernel
theorem d_MO_letter_41 : decode c_MO_letter 41 = .ok (.ireturn, 1) := by decide +kernel
theorem d_MO_members_0 : decode c_MO_members 0 = .ok (.iconst 0, 1) := by decide +kernel
theorem d_MO_members_1 : decode c_MO_members 1 = .ok (.istore_n 2, 1) := by decide +kernel
theorem d_MO_members_2 : decode c_MO_members 2 = .ok (.iconst 0, 1) := by decide +kernel
theorem d_MO_members_3 : decode c_MO_members 3 = .ok (.istore_n 3, 1) := by decide +kernel
theorem d_MO_members_4 : decode c_MO_members 4 = .ok (.iload_n 3, 1) := by decide +kernel
theorem d_MO_members_5 : decode c_MO_members 5 = .ok (.aload_n 0, 1) := by decide +kernel
theorem d_MO_members_6 : decode c_MO_members 6 = .ok (.getfield 7, 3) := by decide +kernel
theorem d_MO_members_9 : decode c_MO_members 9 = .ok (.iconst 0, 1) := by decide +kernel
theorem d_MO_members_10 : decode c_MO_members 10 = .ok (.iaload, 1) := by decide +kernel
theorem d_MO_members_11 : decode c_MO_members 11 = .ok (.if_icmp .ge 27, 3) := by decide +kernel
theorem d_MO_members_14 : decode c_MO_members 14 = .ok (.iload_n 2, 1) := by decide +kernel
theorem d_MO_members_15 : decode c_MO_members 15 = .ok (.aload_n 0, 1) := by decide +kernel
theorem d_MO_members_16 : decode c_MO_members 16 = .ok (.getfield 22, 3) := by decide +kernel
theorem d_MO_members_19 : decode c_MO_members 19 = .ok (.iload_n 3, 1) := by decide +kernel
theorem d_MO_members_20 : decode c_MO_members 20 = .ok (.iaload, 1) := by decide +kernel
theorem d_MO_members_21 : decode c_MO_members 21 = .ok (.iload_n 1, 1) := by decide +kernel
theorem d_MO_members_22 : decode c_MO_members 22 = .ok (.if_icmp .ne 7, 3) := by decide +kernel
theorem d_MO_members_25 : decode c_MO_members 25 = .ok (.iconst 1, 1) := by decide +kernel
theorem d_MO_members_26 : decode c_MO_members 26 = .ok (.goto 4, 3) := by decide +kernel
theorem d_MO_members_29 : decode c_MO_members 29 = .ok (.iconst 0, 1) := by decide +kernel
theorem d_MO_members_30 : decode c_MO_members 30 = .ok (.iadd, 1) := by decide +kernel
theorem d_MO_members_31 : decode c_MO_members 31 = .ok (.istore_n 2, 1) := by decide +kernel
theorem d_MO_members_32 : decode c_MO_members 32 = .ok (.iinc 3 1, 3) := by decide +kernel
theorem d_MO_members_35 : decode c_MO_members 35 = .ok (.goto (-31), 3) := by decide +kernel
theorem d_MO_members_38 : decode c_MO_members 38 = .ok (.iload_n 2, 1) := by decide +kernel
theorem d_MO_members_39 : decode c_MO_members 39 = .ok (.ireturn, 1) := by decide +kernel
theorem d_MO_group_0 : decode c_MO_group 0 = .ok (.aload_n 0, 1) := by decide +kernel
theorem d_MO_group_1 : decode c_MO_group 1 = .ok (.iload_n 1, 1) := by decide +kernel
theorem d_MO_group_2 : decode c_MO_group 2 = .ok (.invokevirtual 96, 3) := by decide +kernel
theorem d_MO_group_5 : decode c_MO_group 5 = .ok (.ifCond .ne 5, 3) := by decide +kernel
theorem d_MO_group_8 : decode c_MO_group 8 = .ok (.iconst (-1), 1) := by decide +kernel
theorem d_MO_group_9 : decode c_MO_group 9 = .ok (.ireturn, 1) := by decide +kernel
theorem d_MO_group_10 : decode c_MO_group 10 = .ok (.iload_n 2, 1) := by decide +kernel
theorem d_MO_group_11 : decode c_MO_group 11 = .ok (.iconst 0, 1) := by decide +kernel
theorem d_MO_group_12 : decode c_MO_group 12 = .ok (.bipush 7, 2) := by decide +kernel
theorem d_MO_group_14 : decode c_MO_group 14 = .ok (.invokestatic 74, 3) := by decide +kernel
theorem d_MO_group_17 : decode c_MO_group 17 = .ok (.ifCond .ne 6, 3) := by decide +kernel
theorem d_MO_group_20 : decode c_MO_group 20 = .ok (.bipush (-2), 2) := by decide +kernel
theorem d_MO_group_22 : decode c_MO_group 22 = .ok (.ireturn, 1) := by decide +kernel
theorem d_MO_group_23 : decode c_MO_group 23 = .ok (.aload_n 0, 1) := by decide +kernel
theorem d_MO_group_24 : decode c_MO_group 24 = .ok (.invokevirtual 169, 3) := by decide +kernel
theorem d_MO_group_27 : decode c_MO_group 27 = .ok (.aload_n 0, 1) := by decide +kernel
theorem d_MO_group_28 : decode c_MO_group 28 = .ok (.getfield 22, 3) := by decide +kernel
theorem d_MO_group_31 : decode c_MO_group 31 = .ok (.iload_n 1, 1) := by decide +kernel
theorem d_MO_group_32 : decode c_MO_group 32 = .ok (.iaload, 1) := by decide +kernel
theorem d_MO_group_33 : decode c_MO_group 33 = .ok (.istore_n 3, 1) := by decide +kernel
theorem d_MO_group_34 : decode c_MO_group 34 = .ok (.iload_n 2, 1) := by decide +kernel
theorem d_MO_group_35 : decode c_MO_group 35 = .ok (.iconst 4, 1) := by decide +kernel
theorem d_MO_group_36 : decode c_MO_group 36 = .ok (.if_icmp .ge 50, 3) := by decide +kernel
theorem d_MO_group_39 : decode c_MO_group 39 = .ok (.iload_n 2, 1) := by decide +kernel
theorem d_MO_group_40 : decode c_MO_group 40 = .ok (.ifCond .ne 11, 3) := by decide +kernel
theorem d_MO_group_43 : decode c_MO_group 43 = .ok (.aload_n 0, 1) := by decide +kernel
theorem d_MO_group_44 : decode c_MO_group 44 = .ok (.iload_n 3, 1) := by decide +kernel
theorem d_MO_group_45 : decode c_MO_group 45 = .ok (.invokevirtual 175, 3) := by decide +kernel
theorem d_MO_group_48 : decode c_MO_group 48 = .ok (.goto 37, 3) := by decide +kernel
theorem d_MO_group_51 : decode c_MO_group 51 = .ok (.iload_n 2, 1) := by decide +kernel
theorem d_MO_group_52 : decode c_MO_group 52 = .ok (.iconst 1, 1) := by decide +kernel
theorem d_MO_group_53 : decode c_MO_group 53 = .ok (.if_icmp .ne 12, 3) := by decide +kernel
theorem d_MO_group_56 : decode c_MO_group 56 = .ok (.aload_n 0, 1) := by decide +kernel
theorem d_MO_group_57 : decode c_MO_group 57 = .ok (.getfield 25, 3) := by decide +kernel
theorem d_MO_group_60 : decode c_MO_group 60 = .ok (.iload_n 3, 1) := by decide +kernel
theorem d_MO_group_61 : decode c_MO_group 61 = .ok (.iaload, 1) := by decide +kernel
theorem d_MO_group_62 : decode c_MO_group 62 = .ok (.goto 23, 3) := by decide +kernel
theorem d_MO_group_65 : decode c_MO_group 65 = .ok (.iload_n 2, 1) := by decide +kernel
theorem d_MO_group_66 : decode c_MO_group 66 = .ok (.iconst 2, 1) := by decide +kernel
theorem d_MO_group_67 : decode c_MO_group 67 = .ok (.if_icmp .ne 12, 3) := by decide +kernel
theorem d_MO_group_70 : decode c_MO_group 70 = .ok (.aload_n 0, 1) := by decide +kernel
theorem d_MO_group_71 : decode c_MO_group 71 = .ok (.getfield 28, 3) := by decide +kernel
theorem d_MO_group_74 : decode c_MO_group 74 = .ok (.iload_n 3, 1) := by decide +kernel
theorem d_MO_group_75 : decode c_MO_group 75 = .ok (.iaload, 1) := by decide +kernel
theorem d_MO_group_76 : decode c_MO_group 76 = .ok (.goto 9, 3) := by decide +kernel
theorem d_MO_group_79 : decode c_MO_group 79 = .ok (.aload_n 0, 1) := by decide +kernel
theorem d_MO_group_80 : decode c_MO_group 80 = .ok (.getfield 31, 3) := by decide +kernel
theorem d_MO_group_83 : decode c_MO_group 83 = .ok (.iload_n 3, 1) := by decide +kernel
theorem d_MO_group_84 : decode c_MO_group 84 = .ok (.iaload, 1) := by decide +kernel
theorem d_MO_group_85 : decode c_MO_group 85 = .ok (.ireturn, 1) := by decide +kernel
theorem d_MO_group_86 : decode c_MO_group 86 = .ok (.iload_n 2, 1) := by decide +kernel
theorem d_MO_group_87 : decode c_MO_group 87 = .ok (.iconst 4, 1) := by decide +kernel
theorem d_MO_group_88 : decode c_MO_group 88 = .ok (.if_icmp .ne 15, 3) := by decide +kernel
theorem d_MO_group_91 : decode c_MO_group 91 = .ok (.sipush 1000, 3) := by decide +kernel
theorem d_MO_group_94 : decode c_MO_group 94 = .ok (.aload_n 0, 1) := by decide +kernel
theorem d_MO_group_95 : decode c_MO_group 95 = .ok (.iload_n 3, 1) := by decide +kernel
theorem d_MO_group_96 : decode c_MO_group 96 = .ok (.invokevirtual 124, 3) := by decide +kernel
theorem d_MO_group_99 : decode c_MO_group 99 = .ok (.iadd, 1) := by decide +kernel
theorem d_MO_group_100 : decode c_MO_group 100 = .ok (.goto 51, 3) := by decide +kernel
theorem d_MO_group_103 : decode c_MO_group 103 = .ok (.iload_n 2, 1) := by decide +kernel
theorem d_MO_group_104 : decode c_MO_group 104 = .ok (.iconst 5, 1) := by decide +kernel
theorem d_MO_group_105 : decode c_MO_group 105 = .ok (.if_icmp .ne 12, 3) := by decide +kernel
theorem d_MO_group_108 : decode c_MO_group 108 = .ok (.aload_n 0, 1) := by decide +kernel
theorem d_MO_group_109 : decode c_MO_group 109 = .ok (.getfield 46, 3) := by decide +kernel
theorem d_MO_group_112 : decode c_MO_group 112 = .ok (.iload_n 3, 1) := by decide +kernel
theorem d_MO_group_113 : decode c_MO_group 113 = .ok (.iaload, 1) := by decide +kernel
theorem d_MO_group_114 : decode c_MO_group 114 = .ok (.goto 37, 3) := by decide +kernel
theorem d_MO_group_117 : decode c_MO_group 117 = .ok (.iload_n 2, 1) := by decide +kernel
theorem d_MO_group_118 : decode c_MO_group 118 = .ok (.bipush 6, 2) := by decide +kernel
theorem d_MO_group_120 : decode c_MO_group 120 = .ok (.if_icmp .ne 11, 3) := by decide +kernel
theorem d_MO_group_123 : decode c_MO_group 123 = .ok (.aload_n 0, 1) := by decide +kernel
theorem d_MO_group_124 : decode c_MO_group 124 = .ok (.iload_n 3, 1) := by decide +kernel
theorem d_MO_group_125 : decode c_MO_group 125 = .ok (.invokevirtual 178, 3) := by decide +kernel
theorem d_MO_group_128 : decode c_MO_group 128 = .ok (.goto 23, 3) := by decide +kernel
theorem d_MO_group_131 : decode c_MO_group 131 = .ok (.aload_n 0, 1) := by decide +kernel
theorem d_MO_group_132 : decode c_MO_group 132 = .ok (.getfield 34, 3) := by decide +kernel
theorem d_MO_group_135 : decode c_MO_group 135 = .ok (.iload_n 3, 1) := by decide +kernel
theorem d_MO_group_136 : decode c_MO_group 136 = .ok (.iaload, 1) := by decide +kernel
theorem d_MO_group_137 : decode c_MO_group 137 = .ok (.ifCond .ge 8, 3) := by decide +kernel
theorem d_MO_group_140 : decode c_MO_group 140 = .ok (.bipush (-5), 2) := by decide +kernel
theorem d_MO_group_142 : decode c_MO_group 142 = .ok (.goto 9, 3) := by decide +kernel
theorem d_MO_group_145 : decode c_MO_group 145 = .ok (.aload_n 0, 1) := by decide +kernel
theorem d_MO_group_146 : decode c_MO_group 146 = .ok (.getfield 34, 3) := by decide +kernel
theorem d_MO_group_149 : decode c_MO_group 149 = .ok (.iload_n 3, 1) := by decide +kernel
theorem d_MO_group_150 : decode c_MO_group 150 = .ok (.iaload, 1) := by decide +kernel
theorem d_MO_group_151 : decode c_MO_group 151 = .ok (.ireturn, 1) := by decide +kernel
theorem d_MO_judged_0 : decode c_MO_judged 0 = .ok (.iload_n 1, 1) := by decide +kernel
theorem d_MO_judged_1 : decode c_MO_judged 1 = .ok (.iconst 0, 1) := by decide +kernel
theorem d_MO_judged_2 : decode c_MO_judged 2 = .ok (.iconst 2, 1) := by decide +kernel
theorem d_MO_judged_3 : decode c_MO_judged 3 = .ok (.invokestatic 74, 3) := by decide +kernel
theorem d_MO_judged_6 : decode c_MO_judged 6 = .ok (.ifCond .eq 11, 3) := by decide +kernel
theorem d_MO_judged_9 : decode c_MO_judged 9 = .ok (.aload_n 0, 1) := by decide +kernel
theorem d_MO_judged_10 : decode c_MO_judged 10 = .ok (.iload_n 2, 1) := by decide +kernel
theorem d_MO_judged_11 : decode c_MO_judged 11 = .ok (.invokevirtual 96, 3) := by decide +kernel
theorem d_MO_judged_14 : decode c_MO_judged 14 = .ok (.ifCond .ne 5, 3) := by decide +kernel
theorem d_MO_judged_17 : decode c_MO_judged 17 = .ok (.iconst (-1), 1) := by decide +kernel
theorem d_MO_judged_18 : decode c_MO_judged 18 = .ok (.ireturn, 1) := by decide +kernel
theorem d_MO_judged_19 : decode c_MO_judged 19 = .ok (.iload_n 3, 1) := by decide +kernel
theorem d_MO_judged_20 : decode c_MO_judged 20 = .ok (.iconst 0, 1) := by decide +kernel
theorem d_MO_judged_21 : decode c_MO_judged 21 = .ok (.iconst 2, 1) := by decide +kernel
theorem d_MO_judged_22 : decode c_MO_judged 22 = .ok (.invokestatic 74, 3) := by decide +kernel
theorem d_MO_judged_25 : decode c_MO_judged 25 = .ok (.ifCond .ne 6, 3) := by decide +kernel
theorem d_MO_judged_28 : decode c_MO_judged 28 = .ok (.bipush (-2), 2) := by decide +kernel
theorem d_MO_judged_30 : decode c_MO_judged 30 = .ok (.ireturn, 1) := by decide +kernel
theorem d_MO_judged_31 : decode c_MO_judged 31 = .ok (.aload_n 0, 1) := by decide +kernel
theorem d_MO_judged_32 : decode c_MO_judged 32 = .ok (.getfield 7, 3) := by decide +kernel
theorem d_MO_judged_35 : decode c_MO_judged 35 = .ok (.sipush 1325, 3) := by decide +kernel
theorem d_MO_judged_38 : decode c_MO_judged 38 = .ok (.bipush 20, 2) := by decide +kernel
theorem d_MO_judged_40 : decode c_MO_judged 40 = .ok (.iload_n 1, 1) := by decide +kernel
theorem d_MO_judged_41 : decode c_MO_judged 41 = .ok (.imul, 1) := by decide +kernel
theorem d_MO_judged_42 : decode c_MO_judged 42 = .ok (.iadd, 1) := by decide +kernel
theorem d_MO_judged_43 : decode c_MO_judged 43 = .ok (.iload_n 2, 1) := by decide +kernel
theorem d_MO_judged_44 : decode c_MO_judged 44 = .ok (.iadd, 1) := by decide +kernel
theorem d_MO_judged_45 : decode c_MO_judged 45 = .ok (.iaload, 1) := by decide +kernel
theorem d_MO_judged_46 : decode c_MO_judged 46 = .ok (.istore 4, 2) := by decide +kernel
theorem d_MO_judged_48 : decode c_MO_judged 48 = .ok (.iload_n 3, 1) := by decide +kernel
theorem d_MO_judged_49 : decode c_MO_judged 49 = .ok (.ifCond .ne 18, 3) := by decide +kernel
theorem d_MO_judged_52 : decode c_MO_judged 52 = .ok (.iload 4, 2) := by decide +kernel
theorem d_MO_judged_54 : decode c_MO_judged 54 = .ok (.ifCond .ne 8, 3) := by decide +kernel
theorem d_MO_judged_57 : decode c_MO_judged 57 = .ok (.bipush (-5), 2) := by decide +kernel
theorem d_MO_judged_59 : decode c_MO_judged 59 = .ok (.goto 7, 3) := by decide +kernel
theorem d_MO_judged_62 : decode c_MO_judged 62 = .ok (.iload 4, 2) := by decide +kernel
theorem d_MO_judged_64 : decode c_MO_judged 64 = .ok (.iconst 1, 1) := by decide +kernel
theorem d_MO_judged_65 : decode c_MO_judged 65 = .ok (.isub, 1) := by decide +kernel
theorem d_MO_judged_66 : decode c_MO_judged 66 = .ok (.ireturn, 1) := by decide +kernel
theorem d_MO_judged_67 : decode c_MO_judged 67 = .ok (.aload_n 0, 1) := by decide +kernel
theorem d_MO_judged_68 : decode c_MO_judged 68 = .ok (.invokevirtual 112, 3) := by decide +kernel
theorem d_MO_judged_71 : decode c_MO_judged 71 = .ok (.iload_n 3, 1) := by decide +kernel
theorem d_MO_judged_72 : decode c_MO_judged 72 = .ok (.iconst 1, 1) := by decide +kernel
theorem d_MO_judged_73 : decode c_MO_judged 73 = .ok (.if_icmp .ne 17, 3) := by decide +kernel
theorem d_MO_judged_76 : decode c_MO_judged 76 = .ok (.aload_n 0, 1) := by decide +kernel
theorem d_MO_judged_77 : decode c_MO_judged 77 = .ok (.iload_n 1, 1) := by decide +kernel
theorem d_MO_judged_78 : decode c_MO_judged 78 = .ok (.aload_n 0, 1) := by decide +kernel
theorem d_MO_judged_79 : decode c_MO_judged 79 = .ok (.getfield 22, 3) := by decide +kernel
theorem d_MO_judged_82 : decode c_MO_judged 82 = .ok (.iload_n 2, 1) := by decide +kernel
theorem d_MO_judged_83 : decode c_MO_judged 83 = .ok (.iaload, 1) := by decide +kernel
theorem d_MO_judged_84 : decode c_MO_judged 84 = .ok (.invokevirtual 106, 3) := by decide +kernel
theorem d_MO_judged_87 : decode c_MO_judged 87 = .ok (.goto 14, 3) := by decide +kernel
theorem d_MO_judged_90 : decode c_MO_judged 90 = .ok (.aload_n 0, 1) := by decide +kernel
theorem d_MO_judged_91 : decode c_MO_judged 91 = .ok (.iload_n 1, 1) := by decide +kernel
theorem d_MO_judged_92 : decode c_MO_judged 92 = .ok (.aload_n 0, 1) := by decide +kernel
theorem d_MO_judged_93 : decode c_MO_judged 93 = .ok (.getfield 22, 3) := by decide +kernel
theorem d_MO_judged_96 : decode c_MO_judged 96 = .ok (.iload_n 2, 1) := by decide +kernel
theorem d_MO_judged_97 : decode c_MO_judged 97 = .ok (.iaload, 1) := by decide +kernel
theorem d_MO_judged_98 : decode c_MO_judged 98 = .ok (.invokevirtual 118, 3) := by decide +kernel
theorem d_MO_judged_101 : decode c_MO_judged 101 = .ok (.ireturn, 1) := by decide +kernel
theorem d_MO_ballot_0 : decode c_MO_ballot 0 = .ok (.iload_n 1, 1) := by decide +kernel
theorem d_MO_ballot_1 : decode c_MO_ballot 1 = .ok (.iconst 0, 1) := by decide +kernel
theorem d_MO_ballot_2 : decode c_MO_ballot 2 = .ok (.bipush 11, 2) := by decide +kernel
theorem d_MO_ballot_4 : decode c_MO_ballot 4 = .ok (.invokestatic 74, 3) := by decide +kernel
theorem d_MO_ballot_7 : decode c_MO_ballot 7 = .ok (.ifCond .ne 5, 3) := by decide +kernel
theorem d_MO_ballot_10 : decode c_MO_ballot 10 = .ok (.iconst (-1), 1) := by decide +kernel
theorem d_MO_ballot_11 : decode c_MO_ballot 11 = .ok (.ireturn, 1) := by decide +kernel
theorem d_MO_ballot_12 : decode c_MO_ballot 12 = .ok (.iload_n 2, 1) := by decide +kernel
theorem d_MO_ballot_13 : decode c_MO_ballot 13 = .ok (.iconst 0, 1) := by decide +kernel
theorem d_MO_ballot_14 : decode c_MO_ballot 14 = .ok (.iconst 2, 1) := by decide +kernel
theorem d_MO_ballot_15 : decode c_MO_ballot 15 = .ok (.invokestatic 74, 3) := by decide +kernel
theorem d_MO_ballot_18 : decode c_MO_ballot 18 = .ok (.ifCond .ne 6, 3) := by decide +kernel
theorem d_MO_ballot_21 : decode c_MO_ballot 21 = .ok (.bipush (-2), 2) := by decide +kernel
theorem d_MO_ballot_23 : decode c_MO_ballot 23 = .ok (.ireturn, 1) := by decide +kernel
theorem d_MO_ballot_24 : decode c_MO_ballot 24 = .ok (.aload_n 0, 1) := by decide +kernel
theorem d_MO_ballot_25 : decode c_MO_ballot 25 = .ok (.invokevirtual 112, 3) := by decide +kernel
theorem d_MO_ballot_28 : decode c_MO_ballot 28 = .ok (.aload_n 0, 1) := by decide +kernel
theorem d_MO_ballot_29 : decode c_MO_ballot 29 = .ok (.invokevirtual 115, 3) := by decide +kernel
theorem d_MO_ballot_32 : decode c_MO_ballot 32 = .ok (.iload_n 3, 1) := by decide +kernel
theorem d_MO_ballot_33 : decode c_MO_ballot 33 = .ok (.ifCond .eq 16, 3) := by decide +kernel
theorem d_MO_ballot_36 : decode c_MO_ballot 36 = .ok (.aload_n 0, 1) := by decide +kernel
theorem d_MO_ballot_37 : decode c_MO_ballot 37 = .ok (.getfield 55, 3) := by decide +kernel
theorem d_MO_ballot_40 : decode c_MO_ballot 40 = .ok (.iconst 3, 1) := by decide +kernel
theorem d_MO_ballot_41 : decode c_MO_ballot 41 = .ok (.iload_n 1, 1) := by decide +kernel
theorem d_MO_ballot_42 : decode c_MO_ballot 42 = .ok (.imul, 1) := by decide +kernel
theorem d_MO_ballot_43 : decode c_MO_ballot 43 = .ok (.iload_n 2, 1) := by decide +kernel
theorem d_MO_ballot_44 : decode c_MO_ballot 44 = .ok (.iadd, 1) := by decide +kernel
theorem d_MO_ballot_45 : decode c_MO_ballot 45 = .ok (.iaload, 1) := by decide +kernel
theorem d_MO_ballot_46 : decode c_MO_ballot 46 = .ok (.goto 19, 3) := by decide +kernel
theorem d_MO_ballot_49 : decode c_MO_ballot 49 = .ok (.aload_n 0, 1) := by decide +kernel
theorem d_MO_ballot_50 : decode c_MO_ballot 50 = .ok (.getfield 7, 3) := by decide +kernel
theorem d_MO_ballot_53 : decode c_MO_ballot 53 = .ok (.sipush 1289, 3) := by decide +kernel
theorem d_MO_ballot_56 : decode c_MO_ballot 56 = .ok (.iconst 3, 1) := by decide +kernel
theorem d_MO_ballot_57 : decode c_MO_ballot 57 = .ok (.iload_n 1, 1) := by decide +kernel
theorem d_MO_ballot_58 : decode c_MO_ballot 58 = .ok (.imul, 1) := by decide +kernel
theorem d_MO_ballot_59 : decode c_MO_ballot 59 = .ok (.iadd, 1) := by decide +kernel
theorem d_MO_ballot_60 : decode c_MO_ballot 60 = .ok (.iload_n 2, 1) := by decide +kernel
theorem d_MO_ballot_61 : decode c_MO_ballot 61 = .ok (.iadd, 1) := by decide +kernel
theorem d_MO_ballot_62 : decode c_MO_ballot 62 = .ok (.iaload, 1) := by decide +kernel
theorem d_MO_ballot_63 : decode c_MO_ballot 63 = .ok (.iconst 1, 1) := by decide +kernel
theorem d_MO_ballot_64 : decode c_MO_ballot 64 = .ok (.isub, 1) := by decide +kernel
theorem d_MO_ballot_65 : decode c_MO_ballot 65 = .ok (.istore 4, 2) := by decide +kernel
theorem d_MO_ballot_67 : decode c_MO_ballot 67 = .ok (.iload 4, 2) := by decide +kernel
theorem d_MO_ballot_69 : decode c_MO_ballot 69 = .ok (.ifCond .ge 8, 3) := by decide +kernel
theorem d_MO_ballot_72 : decode c_MO_ballot 72 = .ok (.bipush (-5), 2) := by decide +kernel
theorem d_MO_ballot_74 : decode c_MO_ballot 74 = .ok (.goto 5, 3) := by decide +kernel
theorem d_MO_ballot_77 : decode c_MO_ballot 77 = .ok (.iload 4, 2) := by decide +kernel
theorem d_MO_ballot_79 : decode c_MO_ballot 79 = .ok (.ireturn, 1) := by decide +kernel
theorem d_MO_ranked_0 : decode c_MO_ranked 0 = .ok (.iload_n 1, 1) := by decide +kernel
theorem d_MO_ranked_1 : decode c_MO_ranked 1 = .ok (.ifCond .ge 6, 3) := by decide +kernel
theorem d_MO_ranked_4 : decode c_MO_ranked 4 = .ok (.bipush (-2), 2) := by decide +kernel
theorem d_MO_ranked_6 : decode c_MO_ranked 6 = .ok (.ireturn, 1) := by decide +kernel
theorem d_MO_ranked_7 : decode c_MO_ranked 7 = .ok (.aload_n 0, 1) := by decide +kernel
theorem d_MO_ranked_8 : decode c_MO_ranked 8 = .ok (.invokevirtual 169, 3) := by decide +kernel
theorem d_MO_ranked_11 : decode c_MO_ranked 11 = .ok (.iload_n 1, 1) := by decide +kernel
theorem d_MO_ranked_12 : decode c_MO_ranked 12 = .ok (.aload_n 0, 1) := by decide +kernel
theorem d_MO_ranked_13 : decode c_MO_ranked 13 = .ok (.getfield 93, 3) := by decide +kernel
theorem d_MO_ranked_16 : decode c_MO_ranked 16 = .ok (.if_icmp .ge 12, 3) := by decide +kernel
theorem d_MO_ranked_19 : decode c_MO_ranked 19 = .ok (.aload_n 0, 1) := by decide +kernel
theorem d_MO_ranked_20 : decode c_MO_ranked 20 = .ok (.getfield 49, 3) := by decide +kernel
theorem d_MO_ranked_23 : decode c_MO_ranked 23 = .ok (.iload_n 1, 1) := by decide +kernel
theorem d_MO_ranked_24 : decode c_MO_ranked 24 = .ok (.iaload, 1) := by decide +kernel
theorem d_MO_ranked_25 : decode c_MO_ranked 25 = .ok (.goto 5, 3) := by decide +kernel
theorem d_MO_ranked_28 : decode c_MO_ranked 28 = .ok (.bipush (-5), 2) := by decide +kernel
theorem d_MO_ranked_30 : decode c_MO_ranked 30 = .ok (.ireturn, 1) := by decide +kernel
theorem d_MO_round_0 : decode c_MO_round 0 = .ok (.iload_n 1, 1) := by decide +kernel
theorem d_MO_round_1 : decode c_MO_round 1 = .ok (.ifCond .lt 12, 3) := by decide +kernel
theorem d_MO_round_4 : decode c_MO_round 4 = .ok (.iload_n 2, 1) := by decide +kernel
theorem d_MO_round_5 : decode c_MO_round 5 = .ok (.iconst 0, 1) := by decide +kernel
theorem d_MO_round_6 : decode c_MO_round 6 = .ok (.iconst 2, 1) := by decide +kernel
theorem d_MO_round_7 : decode c_MO_round 7 = .ok (.invokestatic 74, 3) := by decide +kernel
theorem d_MO_round_10 : decode c_MO_round 10 = .ok (.ifCond .ne 6, 3) := by decide +kernel
theorem d_MO_round_13 : decode c_MO_round 13 = .ok (.bipush (-2), 2) := by decide +kernel
theorem d_MO_round_15 : decode c_MO_round 15 = .ok (.ireturn, 1) := by decide +kernel
theorem d_MO_round_16 : decode c_MO_round 16 = .ok (.aload_n 0, 1) := by decide +kernel
theorem d_MO_round_17 : decode c_MO_round 17 = .ok (.invokevirtual 169, 3) := by decide +kernel
theorem d_MO_round_20 : decode c_MO_round 20 = .ok (.iload_n 1, 1) := by decide +kernel
theorem d_MO_round_21 : decode c_MO_round 21 = .ok (.aload_n 0, 1) := by decide +kernel
theorem d_MO_round_22 : decode c_MO_round 22 = .ok (.getfield 93, 3) := by decide +kernel
theorem d_MO_round_25 : decode c_MO_round 25 = .ok (.iconst 1, 1) := by decide +kernel
theorem d_MO_round_26 : decode c_MO_round 26 = .ok (.isub, 1) := by decide +kernel
theorem d_MO_round_27 : decode c_MO_round 27 = .ok (.if_icmp .lt 6, 3) := by decide +kernel
theorem d_MO_round_30 : decode c_MO_round 30 = .ok (.bipush (-5), 2) := by decide +kernel
theorem d_MO_round_32 : decode c_MO_round 32 = .ok (.ireturn, 1) := by decide +kernel
theorem d_MO_round_33 : decode c_MO_round 33 = .ok (.iload_n 2, 1) := by decide +kernel
theorem d_MO_round_34 : decode c_MO_round 34 = .ok (.ifCond .ne 12, 3) := by decide +kernel
theorem d_MO_round_37 : decode c_MO_round 37 = .ok (.aload_n 0, 1) := by decide +kernel
theorem d_MO_round_38 : decode c_MO_round 38 = .ok (.getfield 37, 3) := by decide +kernel
theorem d_MO_round_41 : decode c_MO_round 41 = .ok (.iload_n 1, 1) := by decide +kernel
theorem d_MO_round_42 : decode c_MO_round 42 = .ok (.iaload, 1) := by decide +kernel
theorem d_MO_round_43 : decode c_MO_round 43 = .ok (.goto 23, 3) := by decide +kernel
theorem d_MO_round_46 : decode c_MO_round 46 = .ok (.iload_n 2, 1) := by decide +kernel
theorem d_MO_round_47 : decode c_MO_round 47 = .ok (.iconst 1, 1) := by decide +kernel
theorem d_MO_round_48 : decode c_MO_round 48 = .ok (.if_icmp .ne 12, 3) := by decide +kernel
theorem d_MO_round_51 : decode c_MO_round 51 = .ok (.aload_n 0, 1) := by decide +kernel
theorem d_MO_round_52 : decode c_MO_round 52 = .ok (.getfield 40, 3) := by decide +kernel
theorem d_MO_round_55 : decode c_MO_round 55 = .ok (.iload_n 1, 1) := by decide +kernel
theorem d_MO_round_56 : decode c_MO_round 56 = .ok (.iaload, 1) := by decide +kernel
theorem d_MO_round_57 : decode c_MO_round 57 = .ok (.goto 9, 3) := by decide +kernel
theorem d_MO_round_60 : decode c_MO_round 60 = .ok (.aload_n 0, 1) := by decide +kernel
theorem d_MO_round_61 : decode c_MO_round 61 = .ok (.getfield 43, 3) := by decide +kernel
theorem d_MO_round_64 : decode c_MO_round 64 = .ok (.iload_n 1, 1) := by decide +kernel
theorem d_MO_round_65 : decode c_MO_round 65 = .ok (.iaload, 1) := by decide +kernel
theorem d_MO_round_66 : decode c_MO_round 66 = .ok (.ireturn, 1) := by decide +kernel
theorem d_MO_distance_0 : decode c_MO_distance 0 = .ok (.aload_n 0, 1) := by decide +kernel
theorem d_MO_distance_1 : decode c_MO_distance 1 = .ok (.iload_n 1, 1) := by decide +kernel
theorem d_MO_distance_2 : decode c_MO_distance 2 = .ok (.invokevirtual 96, 3) := by decide +kernel
theorem d_MO_distance_5 : decode c_MO_distance 5 = .ok (.ifCond .eq 11, 3) := by decide +kernel
theorem d_MO_distance_8 : decode c_MO_distance 8 = .ok (.aload_n 0, 1) := by decide +kernel
theorem d_MO_distance_9 : decode c_MO_distance 9 = .ok (.iload_n 2, 1) := by decide +kernel
theorem d_MO_distance_10 : decode c_MO_distance 10 = .ok (.invokevirtual 96, 3) := by decide +kernel
theorem d_MO_distance_13 : decode c_MO_distance 13 = .ok (.ifCond .ne 5, 3) := by decide +kernel
theorem d_MO_distance_16 : decode c_MO_distance 16 = .ok (.iconst (-1), 1) := by decide +kernel
theorem d_MO_distance_17 : decode c_MO_distance 17 = .ok (.ireturn, 1) := by decide +kernel
theorem d_MO_distance_18 : decode c_MO_distance 18 = .ok (.aload_n 0, 1) := by decide +kernel
theorem d_MO_distance_19 : decode c_MO_distance 19 = .ok (.invokevirtual 90, 3) := by decide +kernel
theorem d_MO_distance_22 : decode c_MO_distance 22 = .ok (.aload_n 0, 1) := by decide +kernel
theorem d_MO_distance_23 : decode c_MO_distance 23 = .ok (.iload_n 1, 1) := by decide +kernel
theorem d_MO_distance_24 : decode c_MO_distance 24 = .ok (.iload_n 2, 1) := by decide +kernel
theorem d_MO_distance_25 : decode c_MO_distance 25 = .ok (.invokevirtual 181, 3) := by decide +kernel
theorem d_MO_distance_28 : decode c_MO_distance 28 = .ok (.ireturn, 1) := by decide +kernel
theorem d_MO_near_0 : decode c_MO_near 0 = .ok (.iload_n 1, 1) := by decide +kernel
theorem d_MO_near_1 : decode c_MO_near 1 = .ok (.ifCond .lt 12, 3) := by decide +kernel
theorem d_MO_near_4 : decode c_MO_near 4 = .ok (.iload_n 2, 1) := by decide +kernel
theorem d_MO_near_5 : decode c_MO_near 5 = .ok (.iconst 0, 1) := by decide +kernel
theorem d_MO_near_6 : decode c_MO_near 6 = .ok (.iconst 2, 1) := by decide +kernel
theorem d_MO_near_7 : decode c_MO_near 7 = .ok (.invokestatic 74, 3) := by decide +kernel
theorem d_MO_near_10 : decode c_MO_near 10 = .ok (.ifCond .ne 6, 3) := by decide +kernel
theorem d_MO_near_13 : decode c_MO_near 13 = .ok (.bipush (-2), 2) := by decide +kernel
theorem d_MO_near_15 : decode c_MO_near 15 = .ok (.ireturn, 1) := by decide +kernel
theorem d_MO_near_16 : decode c_MO_near 16 = .ok (.aload_n 0, 1) := by decide +kernel
theorem d_MO_near_17 : decode c_MO_near 17 = .ok (.invokevirtual 112, 3) := by decide +kernel
theorem d_MO_near_20 : decode c_MO_near 20 = .ok (.iload_n 1, 1) := by decide +kernel
theorem d_MO_near_21 : decode c_MO_near 21 = .ok (.istore_n 3, 1) := by decide +kernel
theorem d_MO_near_22 : decode c_MO_near 22 = .ok (.iconst 1, 1) := by decide +kernel
theorem d_MO_near_23 : decode c_MO_near 23 = .ok (.istore 4, 2) := by decide +kernel
theorem d_MO_near_25 : decode c_MO_near 25 = .ok (.iload 4, 2) := by decide +kernel
theorem d_MO_near_27 : decode c_MO_near 27 = .ok (.iconst 3, 1) := by decide +kernel
theorem d_MO_near_28 : decode c_MO_near 28 = .ok (.if_icmp .gt 159, 3) := by decide +kernel
theorem d_MO_near_31 : decode c_MO_near 31 = .ok (.iconst 0, 1) := by decide +kernel
theorem d_MO_near_32 : decode c_MO_near 32 = .ok (.istore 5, 2) := by decide +kernel
theorem d_MO_near_34 : decode c_MO_near 34 = .ok (.iload 5, 2) := by decide +kernel
theorem d_MO_near_36 : decode c_MO_near 36 = .ok (.aload_n 0, 1) := by decide +kernel
theorem d_MO_near_37 : decode c_MO_near 37 = .ok (.getfield 7, 3) := by decide +kernel
theorem d_MO_near_40 : decode c_MO_near 40 = .ok (.iconst 0, 1) := by decide +kernel
theorem d_MO_near_41 : decode c_MO_near 41 = .ok (.iaload, 1) := by decide +kernel
theorem d_MO_near_42 : decode c_MO_near 42 = .ok (.if_icmp .ge 139, 3) := by decide +kernel
theorem d_MO_near_45 : decode c_MO_near 45 = .ok (.iload 5, 2) := by decide +kernel
theorem d_MO_near_47 : decode c_MO_near 47 = .ok (.iconst 1, 1) := by decide +kernel
theorem d_MO_near_48 : decode c_MO_near 48 = .ok (.iadd, 1) := by decide +kernel
theorem d_MO_near_49 : decode c_MO_near 49 = .ok (.istore 6, 2) := by decide +kernel
theorem d_MO_near_51 : decode c_MO_near 51 = .ok (.iload 6, 2) := by decide +kernel
theorem d_MO_near_53 : decode c_MO_near 53 = .ok (.aload_n 0, 1) := by decide +kernel
theorem d_MO_near_54 : decode c_MO_near 54 = .ok (.getfield 7, 3) := by decide +kernel
theorem d_MO_near_57 : decode c_MO_near 57 = .ok (.iconst 0, 1) := by decide +kernel
theorem d_MO_near_58 : decode c_MO_near 58 = .ok (.iaload, 1) := by decide +kernel
theorem d_MO_near_59 : decode c_MO_near 59 = .ok (.if_icmp .ge 116, 3) := by decide +kernel
theorem d_MO_near_62 : decode c_MO_near 62 = .ok (.aload_n 0, 1) := by decide +kernel
theorem d_MO_near_63 : decode c_MO_near 63 = .ok (.getfield 61, 3) := by decide +kernel
theorem d_MO_near_66 : decode c_MO_near 66 = .ok (.iload 5, 2) := by decide +kernel
theorem d_MO_near_68 : decode c_MO_near 68 = .ok (.iaload, 1) := by decide +kernel
theorem d_MO_near_69 : decode c_MO_near 69 = .ok (.aload_n 0, 1) := by decide +kernel
theorem d_MO_near_70 : decode c_MO_near 70 = .ok (.getfield 61, 3) := by decide +kernel
theorem d_MO_near_73 : decode c_MO_near 73 = .ok (.iload 6, 2) := by decide +kernel
theorem d_MO_near_75 : decode c_MO_near 75 = .ok (.iaload, 1) := by decide +kernel
theorem d_MO_near_76 : decode c_MO_near 76 = .ok (.isub, 1) := by decide +kernel
theorem d_MO_near_77 : decode c_MO_near 77 = .ok (.istore 7, 2) := by decide +kernel
theorem d_MO_near_79 : decode c_MO_near 79 = .ok (.aload_n 0, 1) := by decide +kernel
theorem d_MO_near_80 : decode c_MO_near 80 = .ok (.iload 5, 2) := by decide +kernel
theorem d_MO_near_82 : decode c_MO_near 82 = .ok (.invokevirtual 96, 3) := by decide +kernel
theorem d_MO_near_85 : decode c_MO_near 85 = .ok (.ifCond .eq 84, 3) := by decide +kernel
theorem d_MO_near_88 : decode c_MO_near 88 = .ok (.aload_n 0, 1) := by decide +kernel
theorem d_MO_near_89 : decode c_MO_near 89 = .ok (.iload 6, 2) := by decide +kernel
theorem d_MO_near_91 : decode c_MO_near 91 = .ok (.invokevirtual 96, 3) := by decide +kernel
theorem d_MO_near_94 : decode c_MO_near 94 = .ok (.ifCond .eq 75, 3) := by decide +kernel
theorem d_MO_near_97 : decode c_MO_near 97 = .ok (.aload_n 0, 1) := by decide +kernel
theorem d_MO_near_98 : decode c_MO_near 98 = .ok (.getfield 22, 3) := by decide +kernel
theorem d_MO_near_101 : decode c_MO_near 101 = .ok (.iload 5, 2) := by decide +kernel
theorem d_MO_near_103 : decode c_MO_near 103 = .ok (.iaload, 1) := by decide +kernel
theorem d_MO_near_104 : decode c_MO_near 104 = .ok (.aload_n 0, 1) := by decide +kernel
theorem d_MO_near_105 : decode c_MO_near 105 = .ok (.getfield 22, 3) := by decide +kernel
theorem d_MO_near_108 : decode c_MO_near 108 = .ok (.iload 6, 2) := by decide +kernel
theorem d_MO_near_110 : decode c_MO_near 110 = .ok (.iaload, 1) := by decide +kernel
theorem d_MO_near_111 : decode c_MO_near 111 = .ok (.if_icmp .eq 58, 3) := by decide +kernel
theorem d_MO_near_114 : decode c_MO_near 114 = .ok (.iload 7, 2) := by decide +kernel
theorem d_MO_near_116 : decode c_MO_near 116 = .ok (.iload 4, 2) := by decide +kernel
theorem d_MO_near_118 : decode c_MO_near 118 = .ok (.ineg, 1) := by decide +kernel
theorem d_MO_near_119 : decode c_MO_near 119 = .ok (.iload 4, 2) := by decide +kernel
theorem d_MO_near_121 : decode c_MO_near 121 = .ok (.invokestatic 74, 3) := by decide +kernel
theorem d_MO_near_124 : decode c_MO_near 124 = .ok (.ifCond .eq 45, 3) := by decide +kernel
theorem d_MO_near_127 : decode c_MO_near 127 = .ok (.aload_n 0, 1) := by decide +kernel
theorem d_MO_near_128 : decode c_MO_near 128 = .ok (.iload 5, 2) := by decide +kernel
theorem d_MO_near_130 : decode c_MO_near 130 = .ok (.iload 6, 2) := by decide +kernel
theorem d_MO_near_132 : decode c_MO_near 132 = .ok (.invokevirtual 181, 3) := by decide +kernel
theorem d_MO_near_135 : decode c_MO_near 135 = .ok (.iload 4, 2) := by decide +kernel
theorem d_MO_near_137 : decode c_MO_near 137 = .ok (.if_icmp .ne 32, 3) := by decide +kernel
theorem d_MO_near_140 : decode c_MO_near 140 = .ok (.iload_n 3, 1) := by decide +kernel
theorem d_MO_near_141 : decode c_MO_near 141 = .ok (.ifCond .ne 25, 3) := by decide +kernel
theorem d_MO_near_144 : decode c_MO_near 144 = .ok (.iload_n 2, 1) := by decide +kernel
theorem d_MO_near_145 : decode c_MO_near 145 = .ok (.ifCond .ne 8, 3) := by decide +kernel
theorem d_MO_near_148 : decode c_MO_near 148 = .ok (.iload 5, 2) := by decide +kernel
theorem d_MO_near_150 : decode c_MO_near 150 = .ok (.goto 15, 3) := by decide +kernel
theorem d_MO_near_153 : decode c_MO_near 153 = .ok (.iload_n 2, 1) := by decide +kernel
theorem d_MO_near_154 : decode c_MO_near 154 = .ok (.iconst 1, 1) := by decide +kernel
theorem d_MO_near_155 : decode c_MO_near 155 = .ok (.if_icmp .ne 8, 3) := by decide +kernel
theorem d_MO_near_158 : decode c_MO_near 158 = .ok (.iload 6, 2) := by decide +kernel
theorem d_MO_near_160 : decode c_MO_near 160 = .ok (.goto 5, 3) := by decide +kernel
theorem d_MO_near_163 : decode c_MO_near 163 = .ok (.iload 4, 2) := by decide +kernel
theorem d_MO_near_165 : decode c_MO_near 165 = .ok (.ireturn, 1) := by decide +kernel
theorem d_MO_near_166 : decode c_MO_near 166 = .ok (.iinc 3 (-1), 3) := by decide +kernel
theorem d_MO_near_169 : decode c_MO_near 169 = .ok (.iinc 6 1, 3) := by decide +kernel
theorem d_MO_near_172 : decode c_MO_near 172 = .ok (.goto (-121), 3) := by decide +kernel
theorem d_MO_near_175 : decode c_MO_near 175 = .ok (.iinc 5 1, 3) := by decide +kernel
theorem d_MO_near_178 : decode c_MO_near 178 = .ok (.goto (-144), 3) := by decide +kernel
theorem d_MO_near_181 : decode c_MO_near 181 = .ok (.iinc 4 1, 3) := by decide +kernel
theorem d_MO_near_184 : decode c_MO_near 184 = .ok (.goto (-159), 3) := by decide +kernel
theorem d_MO_near_187 : decode c_MO_near 187 = .ok (.bipush (-5), 2) := by decide +kernel
theorem d_MO_near_189 : decode c_MO_near 189 = .ok (.ireturn, 1) := by decide +kernel
theorem d_MO_author_0 : decode c_MO_author 0 = .ok (.iload_n 1, 1) := by decide +kernel
theorem d_MO_author_1 : decode c_MO_author 1 = .ok (.iconst 0, 1) := by decide +kernel
theorem d_MO_author_2 : decode c_MO_author 2 = .ok (.bipush 9, 2) := by decide +kernel
theorem d_MO_author_4 : decode c_MO_author 4 = .ok (.invokestatic 74, 3) := by decide +kernel
theorem d_MO_author_7 : decode c_MO_author 7 = .ok (.ifCond .ne 5, 3) := by decide +kernel
theorem d_MO_author_10 : decode c_MO_author 10 = .ok (.iconst (-1), 1) := by decide +kernel
theorem d_MO_author_11 : decode c_MO_author 11 = .ok (.ireturn, 1) := by decide +kernel
theorem d_MO_author_12 : decode c_MO_author 12 = .ok (.iload_n 2, 1) := by decide +kernel
theorem d_MO_author_13 : decode c_MO_author 13 = .ok (.iconst 0, 1) := by decide +kernel
theorem d_MO_author_14 : decode c_MO_author 14 = .ok (.iconst 2, 1) := by decide +kernel
theorem d_MO_author_15 : decode c_MO_author 15 = .ok (.invokestatic 74, 3) := by decide +kernel
theorem d_MO_author_18 : decode c_MO_author 18 = .ok (.ifCond .ne 6, 3) := by decide +kernel
theorem d_MO_author_21 : decode c_MO_author 21 = .ok (.bipush (-2), 2) := by decide +kernel
theorem d_MO_author_23 : decode c_MO_author 23 = .ok (.ireturn, 1) := by decide +kernel
theorem d_MO_author_24 : decode c_MO_author 24 = .ok (.aload_n 0, 1) := by decide +kernel
theorem d_MO_author_25 : decode c_MO_author 25 = .ok (.invokevirtual 169, 3) := by decide +kernel
theorem d_MO_author_28 : decode c_MO_author 28 = .ok (.iconst 0, 1) := by decide +kernel
theorem d_MO_author_29 : decode c_MO_author 29 = .ok (.istore_n 3, 1) := by decide +kernel
theorem d_MO_author_30 : decode c_MO_author 30 = .ok (.iconst 0, 1) := by decide +kernel
theorem d_MO_author_31 : decode c_MO_author 31 = .ok (.istore 4, 2) := by decide +kernel
theorem d_MO_author_33 : decode c_MO_author 33 = .ok (.bipush (-5), 2) := by decide +kernel
theorem d_MO_author_35 : decode c_MO_author 35 = .ok (.istore 5, 2) := by decide +kernel
theorem d_MO_author_37 : decode c_MO_author 37 = .ok (.iconst 0, 1) := by decide +kernel
theorem d_MO_author_38 : decode c_MO_author 38 = .ok (.istore 6, 2) := by decide +kernel
theorem d_MO_author_40 : decode c_MO_author 40 = .ok (.iload 6, 2) := by decide +kernel
theorem d_MO_author_42 : decode c_MO_author 42 = .ok (.aload_n 0, 1) := by decide +kernel
theorem d_MO_author_43 : decode c_MO_author 43 = .ok (.getfield 7, 3) := by decide +kernel
theorem d_MO_author_46 : decode c_MO_author 46 = .ok (.iconst 0, 1) := by decide +kernel
theorem d_MO_author_47 : decode c_MO_author 47 = .ok (.iaload, 1) := by decide +kernel
theorem d_MO_author_48 : decode c_MO_author 48 = .ok (.if_icmp .ge 84, 3) := by decide +kernel
theorem d_MO_author_51 : decode c_MO_author 51 = .ok (.aload_n 0, 1) := by decide +kernel
theorem d_MO_author_52 : decode c_MO_author 52 = .ok (.iload 6, 2) := by decide +kernel
theorem d_MO_author_54 : decode c_MO_author 54 = .ok (.invokevirtual 96, 3) := by decide +kernel
theorem d_MO_author_57 : decode c_MO_author 57 = .ok (.ifCond .eq 69, 3) := by decide +kernel
theorem d_MO_author_60 : decode c_MO_author 60 = .ok (.aload_n 0, 1) := by decide +kernel
theorem d_MO_author_61 : decode c_MO_author 61 = .ok (.getfield 7, 3) := by decide +kernel
theorem d_MO_author_64 : decode c_MO_author 64 = .ok (.bipush 9, 2) := by decide +kernel
theorem d_MO_author_66 : decode c_MO_author 66 = .ok (.iload 6, 2) := by decide +kernel
theorem d_MO_author_68 : decode c_MO_author 68 = .ok (.iadd, 1) := by decide +kernel
theorem d_MO_author_69 : decode c_MO_author 69 = .ok (.iaload, 1) := by decide +kernel
theorem d_MO_author_70 : decode c_MO_author 70 = .ok (.iload_n 1, 1) := by decide +kernel
theorem d_MO_author_71 : decode c_MO_author 71 = .ok (.if_icmp .ne 55, 3) := by decide +kernel
theorem d_MO_author_74 : decode c_MO_author 74 = .ok (.aload_n 0, 1) := by decide +kernel
theorem d_MO_author_75 : decode c_MO_author 75 = .ok (.getfield 46, 3) := by decide +kernel
theorem d_MO_author_78 : decode c_MO_author 78 = .ok (.aload_n 0, 1) := by decide +kernel
theorem d_MO_author_79 : decode c_MO_author 79 = .ok (.getfield 22, 3) := by decide +kernel
theorem d_MO_author_82 : decode c_MO_author 82 = .ok (.iload 6, 2) := by decide +kernel
theorem d_MO_author_84 : decode c_MO_author 84 = .ok (.iaload, 1) := by decide +kernel
theorem d_MO_author_85 : decode c_MO_author 85 = .ok (.iaload, 1) := by decide +kernel
theorem d_MO_author_86 : decode c_MO_author 86 = .ok (.istore 7, 2) := by decide +kernel
theorem d_MO_author_88 : decode c_MO_author 88 = .ok (.iinc 3 1, 3) := by decide +kernel
theorem d_MO_author_91 : decode c_MO_author 91 = .ok (.iload 4, 2) := by decide +kernel
theorem d_MO_author_93 : decode c_MO_author 93 = .ok (.aload_n 0, 1) := by decide +kernel
theorem d_MO_author_94 : decode c_MO_author 94 = .ok (.getfield 52, 3) := by decide +kernel
theorem d_MO_author_97 : decode c_MO_author 97 = .ok (.iload 6, 2) := by decide +kernel
theorem d_MO_author_99 : decode c_MO_author 99 = .ok (.iaload, 1) := by decide +kernel
theorem d_MO_author_100 : decode c_MO_author 100 = .ok (.iadd, 1) := by decide +kernel
theorem d_MO_author_101 : decode c_MO_author 101 = .ok (.istore 4, 2) := by decide +kernel
theorem d_MO_author_103 : decode c_MO_author 103 = .ok (.iload 5, 2) := by decide +kernel
theorem d_MO_author_105 : decode c_MO_author 105 = .ok (.bipush (-5), 2) := by decide +kernel
theorem d_MO_author_107 : decode c_MO_author 107 = .ok (.if_icmp .eq 10, 3) := by decide +kernel
theorem d_MO_author_110 : decode c_MO_author 110 = .ok (.iload 7, 2) := by decide +kernel
theorem d_MO_author_112 : decode c_MO_author 112 = .ok (.iload 5, 2) := by decide +kernel
theorem d_MO_author_114 : decode c_MO_author 114 = .ok (.if_icmp .ge 8, 3) := by decide +kernel
theorem d_MO_author_117 : decode c_MO_author 117 = .ok (.iload 7, 2) := by decide +kernel
theorem d_MO_author_119 : decode c_MO_author 119 = .ok (.goto 5, 3) := by decide +kernel
theorem d_MO_author_122 : decode c_MO_author 122 = .ok (.iload 5, 2) := by decide +kernel
theorem d_MO_author_124 : decode c_MO_author 124 = .ok (.istore 5, 2) := by decide +kernel
theorem d_MO_author_126 : decode c_MO_author 126 = .ok (.iinc 6 1, 3) := by decide +kernel
theorem d_MO_author_129 : decode c_MO_author 129 = .ok (.goto (-89), 3) := by decide +kernel
theorem d_MO_author_132 : decode c_MO_author 132 = .ok (.iload_n 2, 1) := by decide +kernel
theorem d_MO_author_133 : decode c_MO_author 133 = .ok (.ifCond .ne 7, 3) := by decide +kernel
theorem d_MO_author_136 : decode c_MO_author 136 = .ok (.iload_n 3, 1) := by decide +kernel
theorem d_MO_author_137 : decode c_MO_author 137 = .ok (.goto 15, 3) := by decide +kernel
theorem d_MO_author_140 : decode c_MO_author 140 = .ok (.iload_n 2, 1) := by decide +kernel
theorem d_MO_author_141 : decode c_MO_author 141 = .ok (.iconst 1, 1) := by decide +kernel
theorem d_MO_author_142 : decode c_MO_author 142 = .ok (.if_icmp .ne 8, 3) := by decide +kernel
theorem d_MO_author_145 : decode c_MO_author 145 = .ok (.iload 4, 2) := by decide +kernel
theorem d_MO_author_147 : decode c_MO_author 147 = .ok (.goto 5, 3) := by decide +kernel
theorem d_MO_author_150 : decode c_MO_author 150 = .ok (.iload 5, 2) := by decide +kernel
theorem d_MO_author_152 : decode c_MO_author 152 = .ok (.ireturn, 1) := by decide +kernel
theorem d_MO_allLinks_0 : decode c_MO_allLinks 0 = .ok (.iconst 0, 1) := by decide +kernel
theorem d_MO_allLinks_1 : decode c_MO_allLinks 1 = .ok (.istore_n 1, 1) := by decide +kernel
theorem d_MO_allLinks_2 : decode c_MO_allLinks 2 = .ok (.iconst 0, 1) := by decide +kernel
theorem d_MO_allLinks_3 : decode c_MO_allLinks 3 = .ok (.istore_n 2, 1) := by decide +kernel
theorem d_MO_allLinks_4 : decode c_MO_allLinks 4 = .ok (.iload_n 2, 1) := by decide +kernel
theorem d_MO_allLinks_5 : decode c_MO_allLinks 5 = .ok (.bipush 20, 2) := by decide +kernel
theorem d_MO_allLinks_7 : decode c_MO_allLinks 7 = .ok (.if_icmp .ge 39, 3) := by decide +kernel
theorem d_MO_allLinks_10 : decode c_MO_allLinks 10 = .ok (.iconst 0, 1) := by decide +kernel
theorem d_MO_allLinks_11 : decode c_MO_allLinks 11 = .ok (.istore_n 3, 1) := by decide +kernel
theorem d_MO_allLinks_12 : decode c_MO_allLinks 12 = .ok (.iload_n 3, 1) := by decide +kernel
theorem d_MO_allLinks_13 : decode c_MO_allLinks 13 = .ok (.iload_n 2, 1) := by decide +kernel
theorem d_MO_allLinks_14 : decode c_MO_allLinks 14 = .ok (.if_icmp .ge 26, 3) := by decide +kernel
theorem d_MO_allLinks_17 : decode c_MO_allLinks 17 = .ok (.iload_n 1, 1) := by decide +kernel
theorem d_MO_allLinks_18 : decode c_MO_allLinks 18 = .ok (.aload_n 0, 1) := by decide +kernel
theorem d_MO_allLinks_19 : decode c_MO_allLinks 19 = .ok (.iload_n 2, 1) := by decide +kernel
theorem d_MO_allLinks_20 : decode c_MO_allLinks 20 = .ok (.iload_n 3, 1) := by decide +kernel
theorem d_MO_allLinks_21 : decode c_MO_allLinks 21 = .ok (.invokevirtual 99, 3) := by decide +kernel
theorem d_MO_allLinks_24 : decode c_MO_allLinks 24 = .ok (.ifCond .eq 7, 3) := by decide +kernel
theorem d_MO_allLinks_27 : decode c_MO_allLinks 27 = .ok (.iconst 1, 1) := by decide +kernel
theorem d_MO_allLinks_28 : decode c_MO_allLinks 28 = .ok (.goto 4, 3) := by decide +kernel
theorem d_MO_allLinks_31 : decode c_MO_allLinks 31 = .ok (.iconst 0, 1) := by decide +kernel
theorem d_MO_allLinks_32 : decode c_MO_allLinks 32 = .ok (.iadd, 1) := by decide +kernel
theorem d_MO_allLinks_33 : decode c_MO_allLinks 33 = .ok (.istore_n 1, 1) := by decide +kernel
theorem d_MO_allLinks_34 : decode c_MO_allLinks 34 = .ok (.iinc 3 1, 3) := by decide +kernel
theorem d_MO_allLinks_37 : decode c_MO_allLinks 37 = .ok (.goto (-25), 3) := by decide +kernel
theorem d_MO_allLinks_40 : decode c_MO_allLinks 40 = .ok (.iinc 2 1, 3) := by decide +kernel
theorem d_MO_allLinks_43 : decode c_MO_allLinks 43 = .ok (.goto (-39), 3) := by decide +kernel
theorem d_MO_allLinks_46 : decode c_MO_allLinks 46 = .ok (.iload_n 1, 1) := by decide +kernel
theorem d_MO_allLinks_47 : decode c_MO_allLinks 47 = .ok (.ireturn, 1) := by decide +kernel
theorem d_MO_over_0 : decode c_MO_over 0 = .ok (.iconst 0, 1) := by decide +kernel
theorem d_MO_over_1 : decode c_MO_over 1 = .ok (.istore_n 2, 1) := by decide +kernel
theorem d_MO_over_2 : decode c_MO_over 2 = .ok (.iconst 0, 1) := by decide +kernel
theorem d_MO_over_3 : decode c_MO_over 3 = .ok (.istore_n 3, 1) := by decide +kernel
theorem d_MO_over_4 : decode c_MO_over 4 = .ok (.iload_n 3, 1) := by decide +kernel
theorem d_MO_over_5 : decode c_MO_over 5 = .ok (.bipush 12, 2) := by decide +kernel
theorem d_MO_over_7 : decode c_MO_over 7 = .ok (.if_icmp .ge 33, 3) := by decide +kernel
theorem d_MO_over_10 : decode c_MO_over 10 = .ok (.iload_n 1, 1) := by decide +kernel
theorem d_MO_over_11 : decode c_MO_over 11 = .ok (.iconst 4, 1) := by decide +kernel
theorem d_MO_over_12 : decode c_MO_over 12 = .ok (.if_icmp .ne 28, 3) := by decide +kernel
theorem d_MO_over_15 : decode c_MO_over 15 = .ok (.iload_n 2, 1) := by decide +kernel
theorem d_MO_over_16 : decode c_MO_over 16 = .ok (.aload_n 0, 1) := by decide +kernel
theorem d_MO_over_17 : decode c_MO_over 17 = .ok (.getfield 55, 3) := by decide +kernel
theorem d_MO_over_20 : decode c_MO_over 20 = .ok (.iconst 3, 1) := by decide +kernel
theorem d_MO_over_21 : decode c_MO_over 21 = .ok (.iload_n 3, 1) := by decide +kernel
theorem d_MO_over_22 : decode c_MO_over 22 = .ok (.imul, 1) := by decide +kernel
theorem d_MO_over_23 : decode c_MO_over 23 = .ok (.iaload, 1) := by decide +kernel
theorem d_MO_over_24 : decode c_MO_over 24 = .ok (.ifCond .lt 7, 3) := by decide +kernel
theorem d_MO_over_27 : decode c_MO_over 27 = .ok (.iconst 1, 1) := by decide +kernel
theorem d_MO_over_28 : decode c_MO_over 28 = .ok (.goto 4, 3) := by decide +kernel
theorem d_MO_over_31 : decode c_MO_over 31 = .ok (.iconst 0, 1) := by decide +kernel
theorem d_MO_over_32 : decode c_MO_over 32 = .ok (.iadd, 1) := by decide +kernel
theorem d_MO_over_33 : decode c_MO_over 33 = .ok (.istore_n 2, 1) := by decide +kernel
theorem d_MO_over_34 : decode c_MO_over 34 = .ok (.iinc 3 1, 3) := by decide +kernel
theorem d_MO_over_37 : decode c_MO_over 37 = .ok (.goto (-33), 3) := by decide +kernel
theorem d_MO_over_40 : decode c_MO_over 40 = .ok (.iconst 0, 1) := by decide +kernel
theorem d_MO_over_41 : decode c_MO_over 41 = .ok (.istore_n 3, 1) := by decide +kernel
theorem d_MO_over_42 : decode c_MO_over 42 = .ok (.iload_n 3, 1) := by decide +kernel
theorem d_MO_over_43 : decode c_MO_over 43 = .ok (.aload_n 0, 1) := by decide +kernel
theorem d_MO_over_44 : decode c_MO_over 44 = .ok (.getfield 93, 3) := by decide +kernel
theorem d_MO_over_47 : decode c_MO_over 47 = .ok (.if_icmp .ge 141, 3) := by decide +kernel
theorem d_MO_over_50 : decode c_MO_over 50 = .ok (.iload_n 3, 1) := by decide +kernel
theorem d_MO_over_51 : decode c_MO_over 51 = .ok (.ifCond .le 30, 3) := by decide +kernel
theorem d_MO_over_54 : decode c_MO_over 54 = .ok (.aload_n 0, 1) := by decide +kernel
theorem d_MO_over_55 : decode c_MO_over 55 = .ok (.getfield 46, 3) := by decide +kernel
theorem d_MO_over_58 : decode c_MO_over 58 = .ok (.aload_n 0, 1) := by decide +kernel
theorem d_MO_over_59 : decode c_MO_over 59 = .ok (.getfield 49, 3) := by decide +kernel
theorem d_MO_over_62 : decode c_MO_over 62 = .ok (.iload_n 3, 1) := by decide +kernel
theorem d_MO_over_63 : decode c_MO_over 63 = .ok (.iaload, 1) := by decide +kernel
theorem d_MO_over_64 : decode c_MO_over 64 = .ok (.iaload, 1) := by decide +kernel
theorem d_MO_over_65 : decode c_MO_over 65 = .ok (.aload_n 0, 1) := by decide +kernel
theorem d_MO_over_66 : decode c_MO_over 66 = .ok (.getfield 46, 3) := by decide +kernel
theorem d_MO_over_69 : decode c_MO_over 69 = .ok (.aload_n 0, 1) := by decide +kernel
theorem d_MO_over_70 : decode c_MO_over 70 = .ok (.getfield 49, 3) := by decide +kernel
theorem d_MO_over_73 : decode c_MO_over 73 = .ok (.iload_n 3, 1) := by decide +kernel
theorem d_MO_over_74 : decode c_MO_over 74 = .ok (.iconst 1, 1) := by decide +kernel
theorem d_MO_over_75 : decode c_MO_over 75 = .ok (.isub, 1) := by decide +kernel
theorem d_MO_over_76 : decode c_MO_over 76 = .ok (.iaload, 1) := by decide +kernel
theorem d_MO_over_77 : decode c_MO_over 77 = .ok (.iaload, 1) := by decide +kernel
theorem d_MO_over_78 : decode c_MO_over 78 = .ok (.if_icmp .eq 40, 3) := by decide +kernel
theorem d_MO_over_81 : decode c_MO_over 81 = .ok (.iload_n 3, 1) := by decide +kernel
theorem d_MO_over_82 : decode c_MO_over 82 = .ok (.iconst 1, 1) := by decide +kernel
theorem d_MO_over_83 : decode c_MO_over 83 = .ok (.iadd, 1) := by decide +kernel
theorem d_MO_over_84 : decode c_MO_over 84 = .ok (.aload_n 0, 1) := by decide +kernel
theorem d_MO_over_85 : decode c_MO_over 85 = .ok (.getfield 93, 3) := by decide +kernel
theorem d_MO_over_88 : decode c_MO_over 88 = .ok (.if_icmp .ge 34, 3) := by decide +kernel
theorem d_MO_over_91 : decode c_MO_over 91 = .ok (.aload_n 0, 1) := by decide +kernel
theorem d_MO_over_92 : decode c_MO_over 92 = .ok (.getfield 46, 3) := by decide +kernel
theorem d_MO_over_95 : decode c_MO_over 95 = .ok (.aload_n 0, 1) := by decide +kernel
theorem d_MO_over_96 : decode c_MO_over 96 = .ok (.getfield 49, 3) := by decide +kernel
theorem d_MO_over_99 : decode c_MO_over 99 = .ok (.iload_n 3, 1) := by decide +kernel
theorem d_MO_over_100 : decode c_MO_over 100 = .ok (.iaload, 1) := by decide +kernel
theorem d_MO_over_101 : decode c_MO_over 101 = .ok (.iaload, 1) := by decide +kernel
theorem d_MO_over_102 : decode c_MO_over 102 = .ok (.aload_n 0, 1) := by decide +kernel
theorem d_MO_over_103 : decode c_MO_over 103 = .ok (.getfield 46, 3) := by decide +kernel
theorem d_MO_over_106 : decode c_MO_over 106 = .ok (.aload_n 0, 1) := by decide +kernel
theorem d_MO_over_107 : decode c_MO_over 107 = .ok (.getfield 49, 3) := by decide +kernel
theorem d_MO_over_110 : decode c_MO_over 110 = .ok (.iload_n 3, 1) := by decide +kernel
theorem d_MO_over_111 : decode c_MO_over 111 = .ok (.iconst 1, 1) := by decide +kernel
theorem d_MO_over_112 : decode c_MO_over 112 = .ok (.iadd, 1) := by decide +kernel
theorem d_MO_over_113 : decode c_MO_over 113 = .ok (.iaload, 1) := by decide +kernel
theorem d_MO_over_114 : decode c_MO_over 114 = .ok (.iaload, 1) := by decide +kernel
theorem d_MO_over_115 : decode c_MO_over 115 = .ok (.if_icmp .ne 7, 3) := by decide +kernel
theorem d_MO_over_118 : decode c_MO_over 118 = .ok (.iconst 1, 1) := by decide +kernel
theorem d_MO_over_119 : decode c_MO_over 119 = .ok (.goto 4, 3) := by decide +kernel
theorem d_MO_over_122 : decode c_MO_over 122 = .ok (.iconst 0, 1) := by decide +kernel
theorem d_MO_over_123 : decode c_MO_over 123 = .ok (.istore 4, 2) := by decide +kernel
theorem d_MO_over_125 : decode c_MO_over 125 = .ok (.iload_n 2, 1) := by decide +kernel
theorem d_MO_over_126 : decode c_MO_over 126 = .ok (.iload_n 1, 1) := by decide +kernel
theorem d_MO_over_127 : decode c_MO_over 127 = .ok (.iconst 5, 1) := by decide +kernel
theorem d_MO_over_128 : decode c_MO_over 128 = .ok (.if_icmp .ne 17, 3) := by decide +kernel
theorem d_MO_over_131 : decode c_MO_over 131 = .ok (.aload_n 0, 1) := by decide +kernel
theorem d_MO_over_132 : decode c_MO_over 132 = .ok (.getfield 25, 3) := by decide +kernel
theorem d_MO_over_135 : decode c_MO_over 135 = .ok (.aload_n 0, 1) := by decide +kernel
theorem d_MO_over_136 : decode c_MO_over 136 = .ok (.getfield 49, 3) := by decide +kernel
theorem d_MO_over_139 : decode c_MO_over 139 = .ok (.iload_n 3, 1) := by decide +kernel
theorem d_MO_over_140 : decode c_MO_over 140 = .ok (.iaload, 1) := by decide +kernel
theorem d_MO_over_141 : decode c_MO_over 141 = .ok (.iaload, 1) := by decide +kernel
theorem d_MO_over_142 : decode c_MO_over 142 = .ok (.goto 38, 3) := by decide +kernel
theorem d_MO_over_145 : decode c_MO_over 145 = .ok (.iload_n 1, 1) := by decide +kernel
theorem d_MO_over_146 : decode c_MO_over 146 = .ok (.bipush 6, 2) := by decide +kernel
theorem d_MO_over_148 : decode c_MO_over 148 = .ok (.if_icmp .ne 16, 3) := by decide +kernel
theorem d_MO_over_151 : decode c_MO_over 151 = .ok (.aload_n 0, 1) := by decide +kernel
theorem d_MO_over_152 : decode c_MO_over 152 = .ok (.aload_n 0, 1) := by decide +kernel
theorem d_MO_over_153 : decode c_MO_over 153 = .ok (.getfield 49, 3) := by decide +kernel
theorem d_MO_over_156 : decode c_MO_over 156 = .ok (.iload_n 3, 1) := by decide +kernel
theorem d_MO_over_157 : decode c_MO_over 157 = .ok (.iaload, 1) := by decide +kernel
theorem d_MO_over_158 : decode c_MO_over 158 = .ok (.invokevirtual 178, 3) := by decide +kernel
theorem d_MO_over_161 : decode c_MO_over 161 = .ok (.goto 19, 3) := by decide +kernel
theorem d_MO_over_164 : decode c_MO_over 164 = .ok (.iload_n 1, 1) := by decide +kernel
theorem d_MO_over_165 : decode c_MO_over 165 = .ok (.bipush 10, 2) := by decide +kernel
theorem d_MO_over_167 : decode c_MO_over 167 = .ok (.if_icmp .ne 12, 3) := by decide +kernel
theorem d_MO_over_170 : decode c_MO_over 170 = .ok (.iload 4, 2) := by decide +kernel
theorem d_MO_over_172 : decode c_MO_over 172 = .ok (.ifCond .eq 7, 3) := by decide +kernel
theorem d_MO_over_175 : decode c_MO_over 175 = .ok (.iconst 1, 1) := by decide +kernel
theorem d_MO_over_176 : decode c_MO_over 176 = .ok (.goto 4, 3) := by decide +kernel
theorem d_MO_over_179 : decode c_MO_over 179 = .ok (.iconst 0, 1) := by decide +kernel
theorem d_MO_over_180 : decode c_MO_over 180 = .ok (.iadd, 1) := by decide +kernel
theorem d_MO_over_181 : decode c_MO_over 181 = .ok (.istore_n 2, 1) := by decide +kernel
theorem d_MO_over_182 : decode c_MO_over 182 = .ok (.iinc 3 1, 3) := by decide +kernel
theorem d_MO_over_185 : decode c_MO_over 185 = .ok (.goto (-143), 3) := by decide +kernel
theorem d_MO_over_188 : decode c_MO_over 188 = .ok (.iload_n 2, 1) := by decide +kernel
theorem d_MO_over_189 : decode c_MO_over 189 = .ok (.ireturn, 1) := by decide +kernel
theorem d_MO_count_0 : decode c_MO_count 0 = .ok (.iload_n 1, 1) := by decide +kernel
theorem d_MO_count_1 : decode c_MO_count 1 = .ok (.bipush 21, 2) := by decide +kernel
theorem d_MO_count_3 : decode c_MO_count 3 = .ok (.bipush 25, 2) := by decide +kernel
theorem d_MO_count_5 : decode c_MO_count 5 = .ok (.invokestatic 74, 3) := by decide +kernel
theorem d_MO_count_8 : decode c_MO_count 8 = .ok (.ifCond .eq 15, 3) := by decide +kernel
theorem d_MO_count_11 : decode c_MO_count 11 = .ok (.aload_n 0, 1) := by decide +kernel
theorem d_MO_count_12 : decode c_MO_count 12 = .ok (.getfield 7, 3) := by decide +kernel
theorem d_MO_count_15 : decode c_MO_count 15 = .ok (.iconst 4, 1) := by decide +kernel
theorem d_MO_count_16 : decode c_MO_count 16 = .ok (.iload_n 1, 1) := by decide +kernel
theorem d_MO_count_17 : decode c_MO_count 17 = .ok (.iadd, 1) := by decide +kernel
theorem d_MO_count_18 : decode c_MO_count 18 = .ok (.bipush 21, 2) := by decide +kernel
theorem d_MO_count_20 : decode c_MO_count 20 = .ok (.isub, 1) := by decide +kernel
theorem d_MO_count_21 : decode c_MO_count 21 = .ok (.iaload, 1) := by decide +kernel
theorem d_MO_count_22 : decode c_MO_count 22 = .ok (.ireturn, 1) := by decide +kernel
theorem d_MO_count_23 : decode c_MO_count 23 = .ok (.iload_n 1, 1) := by decide +kernel
theorem d_MO_count_24 : decode c_MO_count 24 = .ok (.iconst 0, 1) := by decide +kernel
theorem d_MO_count_25 : decode c_MO_count 25 = .ok (.bipush 12, 2) := by decide +kernel
theorem d_MO_count_27 : decode c_MO_count 27 = .ok (.invokestatic 74, 3) := by decide +kernel
theorem d_MO_count_30 : decode c_MO_count 30 = .ok (.ifCond .ne 6, 3) := by decide +kernel
theorem d_MO_count_33 : decode c_MO_count 33 = .ok (.bipush (-2), 2) := by decide +kernel
theorem d_MO_count_35 : decode c_MO_count 35 = .ok (.ireturn, 1) := by decide +kernel
theorem d_MO_count_36 : decode c_MO_count 36 = .ok (.iload_n 1, 1) := by decide +kernel
theorem d_MO_count_37 : decode c_MO_count 37 = .ok (.iconst 2, 1) := by decide +kernel
theorem d_MO_count_38 : decode c_MO_count 38 = .ok (.if_icmp .lt 8, 3) := by decide +kernel
theorem d_MO_count_41 : decode c_MO_count 41 = .ok (.iload_n 1, 1) := by decide +kernel
theorem d_MO_count_42 : decode c_MO_count 42 = .ok (.iconst 3, 1) := by decide +kernel
theorem d_MO_count_43 : decode c_MO_count 43 = .ok (.if_icmp .ne 33, 3) := by decide +kernel
theorem d_MO_count_46 : decode c_MO_count 46 = .ok (.iload_n 1, 1) := by decide +kernel
theorem d_MO_count_47 : decode c_MO_count 47 = .ok (.ifCond .ne 10, 3) := by decide +kernel
theorem d_MO_count_50 : decode c_MO_count 50 = .ok (.aload_n 0, 1) := by decide +kernel
theorem d_MO_count_51 : decode c_MO_count 51 = .ok (.invokevirtual 159, 3) := by decide +kernel
theorem d_MO_count_54 : decode c_MO_count 54 = .ok (.goto 21, 3) := by decide +kernel
theorem d_MO_count_57 : decode c_MO_count 57 = .ok (.iload_n 1, 1) := by decide +kernel
theorem d_MO_count_58 : decode c_MO_count 58 = .ok (.iconst 1, 1) := by decide +kernel
theorem d_MO_count_59 : decode c_MO_count 59 = .ok (.if_icmp .ne 12, 3) := by decide +kernel
theorem d_MO_count_62 : decode c_MO_count 62 = .ok (.aload_n 0, 1) := by decide +kernel
theorem d_MO_count_63 : decode c_MO_count 63 = .ok (.getfield 7, 3) := by decide +kernel
theorem d_MO_count_66 : decode c_MO_count 66 = .ok (.iconst 0, 1) := by decide +kernel
theorem d_MO_count_67 : decode c_MO_count 67 = .ok (.iaload, 1) := by decide +kernel
theorem d_MO_count_68 : decode c_MO_count 68 = .ok (.goto 7, 3) := by decide +kernel
theorem d_MO_count_71 : decode c_MO_count 71 = .ok (.aload_n 0, 1) := by decide +kernel
theorem d_MO_count_72 : decode c_MO_count 72 = .ok (.invokevirtual 184, 3) := by decide +kernel
theorem d_MO_count_75 : decode c_MO_count 75 = .ok (.ireturn, 1) := by decide +kernel
theorem d_MO_count_76 : decode c_MO_count 76 = .ok (.iload_n 1, 1) := by decide +kernel
theorem d_MO_count_77 : decode c_MO_count 77 = .ok (.bipush 7, 2) := by decide +kernel
theorem d_MO_count_79 : decode c_MO_count 79 = .ok (.bipush 9, 2) := by decide +kernel
theorem d_MO_count_81 : decode c_MO_count 81 = .ok (.invokestatic 74, 3) := by decide +kernel
theorem d_MO_count_84 : decode c_MO_count 84 = .ok (.ifCond .eq 15, 3) := by decide +kernel
theorem d_MO_count_87 : decode c_MO_count 87 = .ok (.aload_n 0, 1) := by decide +kernel
theorem d_MO_count_88 : decode c_MO_count 88 = .ok (.getfield 7, 3) := by decide +kernel
theorem d_MO_count_91 : decode c_MO_count 91 = .ok (.iconst 1, 1) := by decide +kernel
theorem d_MO_count_92 : decode c_MO_count 92 = .ok (.iload_n 1, 1) := by decide +kernel
theorem d_MO_count_93 : decode c_MO_count 93 = .ok (.iadd, 1) := by decide +kernel
theorem d_MO_count_94 : decode c_MO_count 94 = .ok (.bipush 7, 2) := by decide +kernel
theorem d_MO_count_96 : decode c_MO_count 96 = .ok (.isub, 1) := by decide +kernel
theorem d_MO_count_97 : decode c_MO_count 97 = .ok (.iaload, 1) := by decide +kernel
theorem d_MO_count_98 : decode c_MO_count 98 = .ok (.ireturn, 1) := by decide +kernel
theorem d_MO_count_99 : decode c_MO_count 99 = .ok (.iload_n 1, 1) := by decide +kernel
theorem d_MO_count_100 : decode c_MO_count 100 = .ok (.bipush 10, 2) := by decide +kernel
theorem d_MO_count_102 : decode c_MO_count 102 = .ok (.if_icmp .le 21, 3) := by decide +kernel
theorem d_MO_count_105 : decode c_MO_count 105 = .ok (.iload_n 1, 1) := by decide +kernel
theorem d_MO_count_106 : decode c_MO_count 106 = .ok (.bipush 11, 2) := by decide +kernel
theorem d_MO_count_108 : decode c_MO_count 108 = .ok (.if_icmp .ne 10, 3) := by decide +kernel
theorem d_MO_count_111 : decode c_MO_count 111 = .ok (.aload_n 0, 1) := by decide +kernel
theorem d_MO_count_112 : decode c_MO_count 112 = .ok (.getfield 70, 3) := by decide +kernel
theorem d_MO_count_115 : decode c_MO_count 115 = .ok (.goto 7, 3) := by decide +kernel
theorem d_MO_count_118 : decode c_MO_count 118 = .ok (.aload_n 0, 1) := by decide +kernel
theorem d_MO_count_119 : decode c_MO_count 119 = .ok (.getfield 146, 3) := by decide +kernel
theorem d_MO_count_122 : decode c_MO_count 122 = .ok (.ireturn, 1) := by decide +kernel
theorem d_MO_count_123 : decode c_MO_count 123 = .ok (.aload_n 0, 1) := by decide +kernel
theorem d_MO_count_124 : decode c_MO_count 124 = .ok (.invokevirtual 169, 3) := by decide +kernel
theorem d_MO_count_127 : decode c_MO_count 127 = .ok (.iload_n 1, 1) := by decide +kernel
theorem d_MO_count_128 : decode c_MO_count 128 = .ok (.iconst 2, 1) := by decide +kernel
theorem d_MO_count_129 : decode c_MO_count 129 = .ok (.if_icmp .ne 10, 3) := by decide +kernel
theorem d_MO_count_132 : decode c_MO_count 132 = .ok (.aload_n 0, 1) := by decide +kernel
theorem d_MO_count_133 : decode c_MO_count 133 = .ok (.getfield 93, 3) := by decide +kernel
theorem d_MO_count_136 : decode c_MO_count 136 = .ok (.goto 8, 3) := by decide +kernel
theorem d_MO_count_139 : decode c_MO_count 139 = .ok (.aload_n 0, 1) := by decide +kernel
theorem d_MO_count_140 : decode c_MO_count 140 = .ok (.iload_n 1, 1) := by decide +kernel
theorem d_MO_count_141 : decode c_MO_count 141 = .ok (.invokevirtual 187, 3) := by decide +kernel
theorem d_MO_count_144 : decode c_MO_count 144 = .ok (.ireturn, 1) := by decide +kernel
theorem d_LW_law_0 : decode code 0 = .ok (.new 7, 3) := by decide +kernel
theorem d_LW_law_3 : decode code 3 = .ok (.dup, 1) := by decide +kernel
theorem d_LW_law_4 : decode code 4 = .ok (.invokespecial 9, 3) := by decide +kernel
theorem d_LW_law_7 : decode code 7 = .ok (.astore_n 1, 1) := by decide +kernel
theorem d_LW_law_8 : decode code 8 = .ok (.new 10, 3) := by decide +kernel
theorem d_LW_law_11 : decode code 11 = .ok (.dup, 1) := by decide +kernel
theorem d_LW_law_12 : decode code 12 = .ok (.invokespecial 12, 3) := by decide +kernel
theorem d_LW_law_15 : decode code 15 = .ok (.astore_n 2, 1) := by decide +kernel
theorem d_LW_law_16 : decode code 16 = .ok (.iconst 0, 1) := by decide +kernel
theorem d_LW_law_17 : decode code 17 = .ok (.istore_n 3, 1) := by decide +kernel
theorem d_LW_law_18 : decode code 18 = .ok (.iload_n 3, 1) := by decide +kernel
theorem d_LW_law_19 : decode code 19 = .ok (.aload_n 0, 1) := by decide +kernel
theorem d_LW_law_20 : decode code 20 = .ok (.arraylength, 1) := by decide +kernel
theorem d_LW_law_21 : decode code 21 = .ok (.iconst 5, 1) := by decide +kernel
theorem d_LW_law_22 : decode code 22 = .ok (.isub, 1) := by decide +kernel
theorem d_LW_law_23 : decode code 23 = .ok (.if_icmp .gt 847, 3) := by decide +kernel
theorem d_LW_law_26 : decode code 26 = .ok (.aload_n 0, 1) := by decide +kernel
theorem d_LW_law_27 : decode code 27 = .ok (.iload_n 3, 1) := by decide +kernel
theorem d_LW_law_28 : decode code 28 = .ok (.iaload, 1) := by decide +kernel
theorem d_LW_law_29 : decode code 29 = .ok (.bipush 31, 2) := by decide +kernel
theorem d_LW_law_31 : decode code 31 = .ok (.iand, 1) := by decide +kernel
theorem d_LW_law_32 : decode code 32 = .ok (.tableswitch 832 0 23 #[112, 135, 158, 191, 214, 267, 310, 343, 376, 401, 414, 427, 440, 453, 486, 519, 552, 595, 654, 677, 710, 743, 776, 809], 112) := by decide +kernel
theorem d_LW_law_144 : decode code 144 = .ok (.aload_n 1, 1) := by decide +kernel
theorem d_LW_law_145 : decode code 145 = .ok (.aload_n 0, 1) := by decide +kernel
theorem d_LW_law_146 : decode code 146 = .ok (.iload_n 3, 1) := by decide +kernel
theorem d_LW_law_147 : decode code 147 = .ok (.iconst 1, 1) := by decide +kernel
theorem d_LW_law_148 : decode code 148 = .ok (.iadd, 1) := by decide +kernel
theorem d_LW_law_149 : decode code 149 = .ok (.iaload, 1) := by decide +kernel
theorem d_LW_law_150 : decode code 150 = .ok (.invokevirtual 13, 3) := by decide +kernel
theorem d_LW_law_153 : decode code 153 = .ok (.aload_n 2, 1) := by decide +kernel
theorem d_LW_law_154 : decode code 154 = .ok (.aload_n 0, 1) := by decide +kernel
theorem d_LW_law_155 : decode code 155 = .ok (.iload_n 3, 1) := by decide +kernel
theorem d_LW_law_156 : decode code 156 = .ok (.iconst 1, 1) := by decide +kernel
theorem d_LW_law_157 : decode code 157 = .ok (.iadd, 1) := by decide +kernel
theorem d_LW_law_158 : decode code 158 = .ok (.iaload, 1) := by decide +kernel
theorem d_LW_law_159 : decode code 159 = .ok (.invokevirtual 17, 3) := by decide +kernel
theorem d_LW_law_162 : decode code 162 = .ok (.if_icmp .eq 702, 3) := by decide +kernel
theorem d_LW_law_165 : decode code 165 = .ok (.iconst 0, 1) := by decide +kernel
theorem d_LW_law_166 : decode code 166 = .ok (.ireturn, 1) := by decide +kernel
theorem d_LW_law_167 : decode code 167 = .ok (.aload_n 1, 1) := by decide +kernel
theorem d_LW_law_168 : decode code 168 = .ok (.aload_n 0, 1) := by decide +kernel
theorem d_LW_law_169 : decode code 169 = .ok (.iload_n 3, 1) := by decide +kernel
theorem d_LW_law_170 : decode code 170 = .ok (.iconst 1, 1) := by decide +kernel
theorem d_LW_law_171 : decode code 171 = .ok (.iadd, 1) := by decide +kernel
theorem d_LW_law_172 : decode code 172 = .ok (.iaload, 1) := by decide +kernel
theorem d_LW_law_173 : decode code 173 = .ok (.invokevirtual 18, 3) := by decide +kernel
theorem d_LW_law_176 : decode code 176 = .ok (.aload_n 2, 1) := by decide +kernel
theorem d_LW_law_177 : decode code 177 = .ok (.aload_n 0, 1) := by decide +kernel
theorem d_LW_law_178 : decode code 178 = .ok (.iload_n 3, 1) := by decide +kernel
theorem d_LW_law_179 : decode code 179 = .ok (.iconst 1, 1) := by decide +kernel
theorem d_LW_law_180 : decode code 180 = .ok (.iadd, 1) := by decide +kernel
theorem d_LW_law_181 : decode code 181 = .ok (.iaload, 1) := by decide +kernel
theorem d_LW_law_182 : decode code 182 = .ok (.invokevirtual 21, 3) := by decide +kernel
theorem d_LW_law_185 : decode code 185 = .ok (.if_icmp .eq 679, 3) := by decide +kernel
theorem d_LW_law_188 : decode code 188 = .ok (.iconst 0, 1) := by decide +kernel
theorem d_LW_law_189 : decode code 189 = .ok (.ireturn, 1) := by decide +kernel
theorem d_LW_law_190 : decode code 190 = .ok (.aload_n 1, 1) := by decide +kernel
theorem d_LW_law_191 : decode code 191 = .ok (.aload_n 0, 1) := by decide +kernel
theorem d_LW_law_192 : decode code 192 = .ok (.iload_n 3, 1) := by decide +kernel
theorem d_LW_law_193 : decode code 193 = .ok (.iconst 1, 1) := by decide +kernel
theorem d_LW_law_194 : decode code 194 = .ok (.iadd, 1) := by decide +kernel
theorem d_LW_law_195 : decode code 195 = .ok (.iaload, 1) := by decide +kernel
theorem d_LW_law_196 : decode code 196 = .ok (.aload_n 0, 1) := by decide +kernel
theorem d_LW_law_197 : decode code 197 = .ok (.iload_n 3, 1) := by decide +kernel
theorem d_LW_law_198 : decode code 198 = .ok (.iconst 2, 1) := by decide +kernel
theorem d_LW_law_199 : decode code 199 = .ok (.iadd, 1) := by decide +kernel
theorem d_LW_law_200 : decode code 200 = .ok (.iaload, 1) := by decide +kernel
theorem d_LW_law_201 : decode code 201 = .ok (.invokevirtual 22, 3) := by decide +kernel
theorem d_LW_law_204 : decode code 204 = .ok (.aload_n 2, 1) := by decide +kernel
theorem d_LW_law_205 : decode code 205 = .ok (.aload_n 0, 1) := by decide +kernel
theorem d_LW_law_206 : decode code 206 = .ok (.iload_n 3, 1) := by decide +kernel
theorem d_LW_law_207 : decode code 207 = .ok (.iconst 1, 1) := by decide +kernel
theorem d_LW_law_208 : decode code 208 = .ok (.iadd, 1) := by decide +kernel
theorem d_LW_law_209 : decode code 209 = .ok (.iaload, 1) := by decide +kernel
theorem d_LW_law_210 : decode code 210 = .ok (.aload_n 0, 1) := by decide +kernel
theorem d_LW_law_211 : decode code 211 = .ok (.iload_n 3, 1) := by decide +kernel
theorem d_LW_law_212 : decode code 212 = .ok (.iconst 2, 1) := by decide +kernel
theorem d_LW_law_213 : decode code 213 = .ok (.iadd, 1) := by decide +kernel
theorem d_LW_law_214 : decode code 214 = .ok (.iaload, 1) := by decide +kernel
theorem d_LW_law_215 : decode code 215 = .ok (.invokevirtual 26, 3) := by decide +kernel
theorem d_LW_law_218 : decode code 218 = .ok (.if_icmp .eq 646, 3) := by decide +kernel
theorem d_LW_law_221 : decode code 221 = .ok (.iconst 0, 1) := by decide +kernel
theorem d_LW_law_222 : decode code 222 = .ok (.ireturn, 1) := by decide +kernel
theorem d_LW_law_223 : decode code 223 = .ok (.aload_n 1, 1) := by decide +kernel
theorem d_LW_law_224 : decode code 224 = .ok (.aload_n 0, 1) := by decide +kernel
theorem d_LW_law_225 : decode code 225 = .ok (.iload_n 3, 1) := by decide +kernel
theorem d_LW_law_226 : decode code 226 = .ok (.iconst 1, 1) := by decide +kernel
theorem d_LW_law_227 : decode code 227 = .ok (.iadd, 1) := by decide +kernel
theorem d_LW_law_228 : decode code 228 = .ok (.iaload, 1) := by decide +kernel
theorem d_LW_law_229 : decode code 229 = .ok (.invokevirtual 27, 3) := by decide +kernel
theorem d_LW_law_232 : decode code 232 = .ok (.aload_n 2, 1) := by decide +kernel
theorem d_LW_law_233 : decode code 233 = .ok (.aload_n 0, 1) := by decide +kernel
theorem d_LW_law_234 : decode code 234 = .ok (.iload_n 3, 1) := by decide +kernel
theorem d_LW_law_235 : decode code 235 = .ok (.iconst 1, 1) := by decide +kernel
theorem d_LW_law_236 : decode code 236 = .ok (.iadd, 1) := by decide +kernel
theorem d_LW_law_237 : decode code 237 = .ok (.iaload, 1) := by decide +kernel
theorem d_LW_law_238 : decode code 238 = .ok (.invokevirtual 30, 3) := by decide +kernel
theorem d_LW_law_241 : decode code 241 = .ok (.if_icmp .eq 623, 3) := by decide +kernel
theorem d_LW_law_244 : decode code 244 = .ok (.iconst 0, 1) := by decide +kernel
theorem d_LW_law_245 : decode code 245 = .ok (.ireturn, 1) := by decide +kernel
theorem d_LW_law_246 : decode code 246 = .ok (.aload_n 1, 1) := by decide +kernel
theorem d_LW_law_247 : decode code 247 = .ok (.aload_n 0, 1) := by decide +kernel
theorem d_LW_law_248 : decode code 248 = .ok (.iload_n 3, 1) := by decide +kernel
theorem d_LW_law_249 : decode code 249 = .ok (.iconst 1, 1) := by decide +kernel
theorem d_LW_law_250 : decode code 250 = .ok (.iadd, 1) := by decide +kernel
theorem d_LW_law_251 : decode code 251 = .ok (.iaload, 1) := by decide +kernel
theorem d_LW_law_252 : decode code 252 = .ok (.aload_n 0, 1) := by decide +kernel
theorem d_LW_law_253 : decode code 253 = .ok (.iload_n 3, 1) := by decide +kernel
theorem d_LW_law_254 : decode code 254 = .ok (.iconst 2, 1) := by decide +kernel
theorem d_LW_law_255 : decode code 255 = .ok (.iadd, 1) := by decide +kernel
theorem d_LW_law_256 : decode code 256 = .ok (.iaload, 1) := by decide +kernel
theorem d_LW_law_257 : decode code 257 = .ok (.aload_n 0, 1) := by decide +kernel
theorem d_LW_law_258 : decode code 258 = .ok (.iload_n 3, 1) := by decide +kernel
theorem d_LW_law_259 : decode code 259 = .ok (.iconst 3, 1) := by decide +kernel
theorem d_LW_law_260 : decode code 260 = .ok (.iadd, 1) := by decide +kernel
theorem d_LW_law_261 : decode code 261 = .ok (.iaload, 1) := by decide +kernel
theorem d_LW_law_262 : decode code 262 = .ok (.aload_n 0, 1) := by decide +kernel
theorem d_LW_law_263 : decode code 263 = .ok (.iload_n 3, 1) := by decide +kernel
theorem d_LW_law_264 : decode code 264 = .ok (.iconst 4, 1) := by decide +kernel
theorem d_LW_law_265 : decode code 265 = .ok (.iadd, 1) := by decide +kernel
theorem d_LW_law_266 : decode code 266 = .ok (.iaload, 1) := by decide +kernel
theorem d_LW_law_267 : decode code 267 = .ok (.invokevirtual 31, 3) := by decide +kernel
theorem d_LW_law_270 : decode code 270 = .ok (.aload_n 2, 1) := by decide +kernel
theorem d_LW_law_271 : decode code 271 = .ok (.aload_n 0, 1) := by decide +kernel
theorem d_LW_law_272 : decode code 272 = .ok (.iload_n 3, 1) := by decide +kernel
theorem d_LW_law_273 : decode code 273 = .ok (.iconst 1, 1) := by decide +kernel
theorem d_LW_law_274 : decode code 274 = .ok (.iadd, 1) := by decide +kernel
theorem d_LW_law_275 : decode code 275 = .ok (.iaload, 1) := by decide +kernel
theorem d_LW_law_276 : decode code 276 = .ok (.aload_n 0, 1) := by decide +kernel
theorem d_LW_law_277 : decode code 277 = .ok (.iload_n 3, 1) := by decide +kernel
theorem d_LW_law_278 : decode code 278 = .ok (.iconst 2, 1) := by decide +kernel
theorem d_LW_law_279 : decode code 279 = .ok (.iadd, 1) := by decide +kernel
theorem d_LW_law_280 : decode code 280 = .ok (.iaload, 1) := by decide +kernel
theorem d_LW_law_281 : decode code 281 = .ok (.aload_n 0, 1) := by decide +kernel
theorem d_LW_law_282 : decode code 282 = .ok (.iload_n 3, 1) := by decide +kernel
theorem d_LW_law_283 : decode code 283 = .ok (.iconst 3, 1) := by decide +kernel
theorem d_LW_law_284 : decode code 284 = .ok (.iadd, 1) := by decide +kernel
theorem d_LW_law_285 : decode code 285 = .ok (.iaload, 1) := by decide +kernel
theorem d_LW_law_286 : decode code 286 = .ok (.aload_n 0, 1) := by decide +kernel
theorem d_LW_law_287 : decode code 287 = .ok (.iload_n 3, 1) := by decide +kernel
theorem d_LW_law_288 : decode code 288 = .ok (.iconst 4, 1) := by decide +kernel
theorem d_LW_law_289 : decode code 289 = .ok (.iadd, 1) := by decide +kernel
theorem d_LW_law_290 : decode code 290 = .ok (.iaload, 1) := by decide +kernel
theorem d_LW_law_291 : decode code 291 = .ok (.invokevirtual 35, 3) := by decide +kernel
theorem d_LW_law_294 : decode code 294 = .ok (.if_icmp .eq 570, 3) := by decide +kernel
theorem d_LW_law_297 : decode code 297 = .ok (.iconst 0, 1) := by decide +kernel
theorem d_LW_law_298 : decode code 298 = .ok (.ireturn, 1) := by decide +kernel
theorem d_LW_law_299 : decode code 299 = .ok (.aload_n 1, 1) := by decide +kernel
theorem d_LW_law_300 : decode code 300 = .ok (.aload_n 0, 1) := by decide +kernel
theorem d_LW_law_301 : decode code 301 = .ok (.iload_n 3, 1) := by decide +kernel
theorem d_LW_law_302 : decode code 302 = .ok (.iconst 1, 1) := by decide +kernel
theorem d_LW_law_303 : decode code 303 = .ok (.iadd, 1) := by decide +kernel
theorem d_LW_law_304 : decode code 304 = .ok (.iaload, 1) := by decide +kernel
theorem d_LW_law_305 : decode code 305 = .ok (.aload_n 0, 1) := by decide +kernel
theorem d_LW_law_306 : decode code 306 = .ok (.iload_n 3, 1) := by decide +kernel
theorem d_LW_law_307 : decode code 307 = .ok (.iconst 2, 1) := by decide +kernel
theorem d_LW_law_308 : decode code 308 = .ok (.iadd, 1) := by decide +kernel
theorem d_LW_law_309 : decode code 309 = .ok (.iaload, 1) := by decide +kernel
theorem d_LW_law_310 : decode code 310 = .ok (.aload_n 0, 1) := by decide +kernel
theorem d_LW_law_311 : decode code 311 = .ok (.iload_n 3, 1) := by decide +kernel
theorem d_LW_law_312 : decode code 312 = .ok (.iconst 3, 1) := by decide +kernel
theorem d_LW_law_313 : decode code 313 = .ok (.iadd, 1) := by decide +kernel
theorem d_LW_law_314 : decode code 314 = .ok (.iaload, 1) := by decide +kernel
theorem d_LW_law_315 : decode code 315 = .ok (.invokevirtual 36, 3) := by decide +kernel
theorem d_LW_law_318 : decode code 318 = .ok (.aload_n 2, 1) := by decide +kernel
theorem d_LW_law_319 : decode code 319 = .ok (.aload_n 0, 1) := by decide +kernel
theorem d_LW_law_320 : decode code 320 = .ok (.iload_n 3, 1) := by decide +kernel
theorem d_LW_law_321 : decode code 321 = .ok (.iconst 1, 1) := by decide +kernel
theorem d_LW_law_322 : decode code 322 = .ok (.iadd, 1) := by decide +kernel
theorem d_LW_law_323 : decode code 323 = .ok (.iaload, 1) := by decide +kernel
theorem d_LW_law_324 : decode code 324 = .ok (.aload_n 0, 1) := by decide +kernel
theorem d_LW_law_325 : decode code 325 = .ok (.iload_n 3, 1) := by decide +kernel
theorem d_LW_law_326 : decode code 326 = .ok (.iconst 2, 1) := by decide +kernel
theorem d_LW_law_327 : decode code 327 = .ok (.iadd, 1) := by decide +kernel
theorem d_LW_law_328 : decode code 328 = .ok (.iaload, 1) := by decide +kernel
theorem d_LW_law_329 : decode code 329 = .ok (.aload_n 0, 1) := by decide +kernel
theorem d_LW_law_330 : decode code 330 = .ok (.iload_n 3, 1) := by decide +kernel
theorem d_LW_law_331 : decode code 331 = .ok (.iconst 3, 1) := by decide +kernel
theorem d_LW_law_332 : decode code 332 = .ok (.iadd, 1) := by decide +kernel
theorem d_LW_law_333 : decode code 333 = .ok (.iaload, 1) := by decide +kernel
theorem d_LW_law_334 : decode code 334 = .ok (.invokevirtual 40, 3) := by decide +kernel
theorem d_LW_law_337 : decode code 337 = .ok (.if_icmp .eq 527, 3) := by decide +kernel
theorem d_LW_law_340 : decode code 340 = .ok (.iconst 0, 1) := by decide +kernel
theorem d_LW_law_341 : decode code 341 = .ok (.ireturn, 1) := by decide +kernel
theorem d_LW_law_342 : decode code 342 = .ok (.aload_n 1, 1) := by decide +kernel
theorem d_LW_law_343 : decode code 343 = .ok (.aload_n 0, 1) := by decide +kernel
theorem d_LW_law_344 : decode code 344 = .ok (.iload_n 3, 1) := by decide +kernel
theorem d_LW_law_345 : decode code 345 = .ok (.iconst 1, 1) := by decide +kernel
theorem d_LW_law_346 : decode code 346 = .ok (.iadd, 1) := by decide +kernel
theorem d_LW_law_347 : decode code 347 = .ok (.iaload, 1) := by decide +kernel
theorem d_LW_law_348 : decode code 348 = .ok (.aload_n 0, 1) := by decide +kernel
theorem d_LW_law_349 : decode code 349 = .ok (.iload_n 3, 1) := by decide +kernel
theorem d_LW_law_350 : decode code 350 = .ok (.iconst 2, 1) := by decide +kernel
theorem d_LW_law_351 : decode code 351 = .ok (.iadd, 1) := by decide +kernel
theorem d_LW_law_352 : decode code 352 = .ok (.iaload, 1) := by decide +kernel
theorem d_LW_law_353 : decode code 353 = .ok (.invokevirtual 41, 3) := by decide +kernel
theorem d_LW_law_356 : decode code 356 = .ok (.aload_n 2, 1) := by decide +kernel
theorem d_LW_law_357 : decode code 357 = .ok (.aload_n 0, 1) := by decide +kernel
theorem d_LW_law_358 : decode code 358 = .ok (.iload_n 3, 1) := by decide +kernel
theorem d_LW_law_359 : decode code 359 = .ok (.iconst 1, 1) := by decide +kernel
theorem d_LW_law_360 : decode code 360 = .ok (.iadd, 1) := by decide +kernel
theorem d_LW_law_361 : decode code 361 = .ok (.iaload, 1) := by decide +kernel
theorem d_LW_law_362 : decode code 362 = .ok (.aload_n 0, 1) := by decide +kernel
theorem d_LW_law_363 : decode code 363 = .ok (.iload_n 3, 1) := by decide +kernel
theorem d_LW_law_364 : decode code 364 = .ok (.iconst 2, 1) := by decide +kernel
theorem d_LW_law_365 : decode code 365 = .ok (.iadd, 1) := by decide +kernel
theorem d_LW_law_366 : decode code 366 = .ok (.iaload, 1) := by decide +kernel
theorem d_LW_law_367 : decode code 367 = .ok (.invokevirtual 44, 3) := by decide +kernel
theorem d_LW_law_370 : decode code 370 = .ok (.if_icmp .eq 494, 3) := by decide +kernel
theorem d_LW_law_373 : decode code 373 = .ok (.iconst 0, 1) := by decide +kernel
theorem d_LW_law_374 : decode code 374 = .ok (.ireturn, 1) := by decide +kernel
theorem d_LW_law_375 : decode code 375 = .ok (.aload_n 1, 1) := by decide +kernel
theorem d_LW_law_376 : decode code 376 = .ok (.aload_n 0, 1) := by decide +kernel
theorem d_LW_law_377 : decode code 377 = .ok (.iload_n 3, 1) := by decide +kernel
theorem d_LW_law_378 : decode code 378 = .ok (.iconst 1, 1) := by decide +kernel
theorem d_LW_law_379 : decode code 379 = .ok (.iadd, 1) := by decide +kernel
theorem d_LW_law_380 : decode code 380 = .ok (.iaload, 1) := by decide +kernel
theorem d_LW_law_381 : decode code 381 = .ok (.aload_n 0, 1) := by decide +kernel
theorem d_LW_law_382 : decode code 382 = .ok (.iload_n 3, 1) := by decide +kernel
theorem d_LW_law_383 : decode code 383 = .ok (.iconst 2, 1) := by decide +kernel
theorem d_LW_law_384 : decode code 384 = .ok (.iadd, 1) := by decide +kernel
theorem d_LW_law_385 : decode code 385 = .ok (.iaload, 1) := by decide +kernel
theorem d_LW_law_386 : decode code 386 = .ok (.invokevirtual 45, 3) := by decide +kernel
theorem d_LW_law_389 : decode code 389 = .ok (.aload_n 2, 1) := by decide +kernel
theorem d_LW_law_390 : decode code 390 = .ok (.aload_n 0, 1) := by decide +kernel
theorem d_LW_law_391 : decode code 391 = .ok (.iload_n 3, 1) := by decide +kernel
theorem d_LW_law_392 : decode code 392 = .ok (.iconst 1, 1) := by decide +kernel
theorem d_LW_law_393 : decode code 393 = .ok (.iadd, 1) := by decide +kernel
theorem d_LW_law_394 : decode code 394 = .ok (.iaload, 1) := by decide +kernel
theorem d_LW_law_395 : decode code 395 = .ok (.aload_n 0, 1) := by decide +kernel
theorem d_LW_law_396 : decode code 396 = .ok (.iload_n 3, 1) := by decide +kernel
theorem d_LW_law_397 : decode code 397 = .ok (.iconst 2, 1) := by decide +kernel
theorem d_LW_law_398 : decode code 398 = .ok (.iadd, 1) := by decide +kernel
theorem d_LW_law_399 : decode code 399 = .ok (.iaload, 1) := by decide +kernel
theorem d_LW_law_400 : decode code 400 = .ok (.invokevirtual 48, 3) := by decide +kernel
theorem d_LW_law_403 : decode code 403 = .ok (.if_icmp .eq 461, 3) := by decide +kernel
theorem d_LW_law_406 : decode code 406 = .ok (.iconst 0, 1) := by decide +kernel
theorem d_LW_law_407 : decode code 407 = .ok (.ireturn, 1) := by decide +kernel
theorem d_LW_law_408 : decode code 408 = .ok (.aload_n 1, 1) := by decide +kernel
theorem d_LW_law_409 : decode code 409 = .ok (.aload_n 0, 1) := by decide +kernel
theorem d_LW_law_410 : decode code 410 = .ok (.iload_n 3, 1) := by decide +kernel
theorem d_LW_law_411 : decode code 411 = .ok (.iconst 1, 1) := by decide +kernel
theorem d_LW_law_412 : decode code 412 = .ok (.iadd, 1) := by decide +kernel
theorem d_LW_law_413 : decode code 413 = .ok (.iaload, 1) := by decide +kernel
theorem d_LW_law_414 : decode code 414 = .ok (.i2c, 1) := by decide +kernel
theorem d_LW_law_415 : decode code 415 = .ok (.invokevirtual 49, 3) := by decide +kernel
theorem d_LW_law_418 : decode code 418 = .ok (.aload_n 2, 1) := by decide +kernel
theorem d_LW_law_419 : decode code 419 = .ok (.aload_n 0, 1) := by decide +kernel
theorem d_LW_law_420 : decode code 420 = .ok (.iload_n 3, 1) := by decide +kernel
theorem d_LW_law_421 : decode code 421 = .ok (.iconst 1, 1) := by decide +kernel
theorem d_LW_law_422 : decode code 422 = .ok (.iadd, 1) := by decide +kernel
theorem d_LW_law_423 : decode code 423 = .ok (.iaload, 1) := by decide +kernel
theorem d_LW_law_424 : decode code 424 = .ok (.i2c, 1) := by decide +kernel
theorem d_LW_law_425 : decode code 425 = .ok (.invokevirtual 53, 3) := by decide +kernel
theorem d_LW_law_428 : decode code 428 = .ok (.if_icmp .eq 436, 3) := by decide +kernel
theorem d_LW_law_431 : decode code 431 = .ok (.iconst 0, 1) := by decide +kernel
theorem d_LW_law_432 : decode code 432 = .ok (.ireturn, 1) := by decide +kernel
theorem d_LW_law_433 : decode code 433 = .ok (.aload_n 1, 1) := by decide +kernel
theorem d_LW_law_434 : decode code 434 = .ok (.invokevirtual 54, 3) := by decide +kernel
theorem d_LW_law_437 : decode code 437 = .ok (.aload_n 2, 1) := by decide +kernel
theorem d_LW_law_438 : decode code 438 = .ok (.invokevirtual 58, 3) := by decide +kernel
theorem d_LW_law_441 : decode code 441 = .ok (.if_icmp .eq 423, 3) := by decide +kernel
theorem d_LW_law_444 : decode code 444 = .ok (.iconst 0, 1) := by decide +kernel
theorem d_LW_law_445 : decode code 445 = .ok (.ireturn, 1) := by decide +kernel
theorem d_LW_law_446 : decode code 446 = .ok (.aload_n 1, 1) := by decide +kernel
theorem d_LW_law_447 : decode code 447 = .ok (.invokevirtual 59, 3) := by decide +kernel
theorem d_LW_law_450 : decode code 450 = .ok (.aload_n 2, 1) := by decide +kernel
theorem d_LW_law_451 : decode code 451 = .ok (.invokevirtual 62, 3) := by decide +kernel
theorem d_LW_law_454 : decode code 454 = .ok (.if_icmp .eq 410, 3) := by decide +kernel
theorem d_LW_law_457 : decode code 457 = .ok (.iconst 0, 1) := by decide +kernel
theorem d_LW_law_458 : decode code 458 = .ok (.ireturn, 1) := by decide +kernel
theorem d_LW_law_459 : decode code 459 = .ok (.aload_n 1, 1) := by decide +kernel
theorem d_LW_law_460 : decode code 460 = .ok (.invokevirtual 63, 3) := by decide +kernel
theorem d_LW_law_463 : decode code 463 = .ok (.aload_n 2, 1) := by decide +kernel
theorem d_LW_law_464 : decode code 464 = .ok (.invokevirtual 66, 3) := by decide +kernel
theorem d_LW_law_467 : decode code 467 = .ok (.if_icmp .eq 397, 3) := by decide +kernel
theorem d_LW_law_470 : decode code 470 = .ok (.iconst 0, 1) := by decide +kernel
theorem d_LW_law_471 : decode code 471 = .ok (.ireturn, 1) := by decide +kernel
theorem d_LW_law_472 : decode code 472 = .ok (.aload_n 1, 1) := by decide +kernel
theorem d_LW_law_473 : decode code 473 = .ok (.invokevirtual 67, 3) := by decide +kernel
theorem d_LW_law_476 : decode code 476 = .ok (.aload_n 2, 1) := by decide +kernel
theorem d_LW_law_477 : decode code 477 = .ok (.invokevirtual 70, 3) := by decide +kernel
theorem d_LW_law_480 : decode code 480 = .ok (.if_icmp .eq 384, 3) := by decide +kernel
theorem d_LW_law_483 : decode code 483 = .ok (.iconst 0, 1) := by decide +kernel
theorem d_LW_law_484 : decode code 484 = .ok (.ireturn, 1) := by decide +kernel
theorem d_LW_law_485 : decode code 485 = .ok (.aload_n 1, 1) := by decide +kernel
theorem d_LW_law_486 : decode code 486 = .ok (.aload_n 0, 1) := by decide +kernel
theorem d_LW_law_487 : decode code 487 = .ok (.iload_n 3, 1) := by decide +kernel
theorem d_LW_law_488 : decode code 488 = .ok (.iconst 1, 1) := by decide +kernel
theorem d_LW_law_489 : decode code 489 = .ok (.iadd, 1) := by decide +kernel
theorem d_LW_law_490 : decode code 490 = .ok (.iaload, 1) := by decide +kernel
theorem d_LW_law_491 : decode code 491 = .ok (.aload_n 0, 1) := by decide +kernel
theorem d_LW_law_492 : decode code 492 = .ok (.iload_n 3, 1) := by decide +kernel
theorem d_LW_law_493 : decode code 493 = .ok (.iconst 2, 1) := by decide +kernel
theorem d_LW_law_494 : decode code 494 = .ok (.iadd, 1) := by decide +kernel
theorem d_LW_law_495 : decode code 495 = .ok (.iaload, 1) := by decide +kernel
theorem d_LW_law_496 : decode code 496 = .ok (.invokevirtual 71, 3) := by decide +kernel
theorem d_LW_law_499 : decode code 499 = .ok (.aload_n 2, 1) := by decide +kernel
theorem d_LW_law_500 : decode code 500 = .ok (.aload_n 0, 1) := by decide +kernel
theorem d_LW_law_501 : decode code 501 = .ok (.iload_n 3, 1) := by decide +kernel
theorem d_LW_law_502 : decode code 502 = .ok (.iconst 1, 1) := by decide +kernel
theorem d_LW_law_503 : decode code 503 = .ok (.iadd, 1) := by decide +kernel
theorem d_LW_law_504 : decode code 504 = .ok (.iaload, 1) := by decide +kernel
theorem d_LW_law_505 : decode code 505 = .ok (.aload_n 0, 1) := by decide +kernel
theorem d_LW_law_506 : decode code 506 = .ok (.iload_n 3, 1) := by decide +kernel
theorem d_LW_law_507 : decode code 507 = .ok (.iconst 2, 1) := by decide +kernel
theorem d_LW_law_508 : decode code 508 = .ok (.iadd, 1) := by decide +kernel
theorem d_LW_law_509 : decode code 509 = .ok (.iaload, 1) := by decide +kernel
theorem d_LW_law_510 : decode code 510 = .ok (.invokevirtual 74, 3) := by decide +kernel
theorem d_LW_law_513 : decode code 513 = .ok (.if_icmp .eq 351, 3) := by decide +kernel
theorem d_LW_law_516 : decode code 516 = .ok (.iconst 0, 1) := by decide +kernel
theorem d_LW_law_517 : decode code 517 = .ok (.ireturn, 1) := by decide +kernel
theorem d_LW_law_518 : decode code 518 = .ok (.aload_n 1, 1) := by decide +kernel
theorem d_LW_law_519 : decode code 519 = .ok (.aload_n 0, 1) := by decide +kernel
theorem d_LW_law_520 : decode code 520 = .ok (.iload_n 3, 1) := by decide +kernel
theorem d_LW_law_521 : decode code 521 = .ok (.iconst 1, 1) := by decide +kernel
theorem d_LW_law_522 : decode code 522 = .ok (.iadd, 1) := by decide +kernel
theorem d_LW_law_523 : decode code 523 = .ok (.iaload, 1) := by decide +kernel
theorem d_LW_law_524 : decode code 524 = .ok (.aload_n 0, 1) := by decide +kernel
theorem d_LW_law_525 : decode code 525 = .ok (.iload_n 3, 1) := by decide +kernel
theorem d_LW_law_526 : decode code 526 = .ok (.iconst 2, 1) := by decide +kernel
theorem d_LW_law_527 : decode code 527 = .ok (.iadd, 1) := by decide +kernel
theorem d_LW_law_528 : decode code 528 = .ok (.iaload, 1) := by decide +kernel
theorem d_LW_law_529 : decode code 529 = .ok (.invokevirtual 75, 3) := by decide +kernel
theorem d_LW_law_532 : decode code 532 = .ok (.aload_n 2, 1) := by decide +kernel
theorem d_LW_law_533 : decode code 533 = .ok (.aload_n 0, 1) := by decide +kernel
theorem d_LW_law_534 : decode code 534 = .ok (.iload_n 3, 1) := by decide +kernel
theorem d_LW_law_535 : decode code 535 = .ok (.iconst 1, 1) := by decide +kernel
theorem d_LW_law_536 : decode code 536 = .ok (.iadd, 1) := by decide +kernel
theorem d_LW_law_537 : decode code 537 = .ok (.iaload, 1) := by decide +kernel
theorem d_LW_law_538 : decode code 538 = .ok (.aload_n 0, 1) := by decide +kernel
theorem d_LW_law_539 : decode code 539 = .ok (.iload_n 3, 1) := by decide +kernel
theorem d_LW_law_540 : decode code 540 = .ok (.iconst 2, 1) := by decide +kernel
theorem d_LW_law_541 : decode code 541 = .ok (.iadd, 1) := by decide +kernel
theorem d_LW_law_542 : decode code 542 = .ok (.iaload, 1) := by decide +kernel
theorem d_LW_law_543 : decode code 543 = .ok (.invokevirtual 78, 3) := by decide +kernel
theorem d_LW_law_546 : decode code 546 = .ok (.if_icmp .eq 318, 3) := by decide +kernel
theorem d_LW_law_549 : decode code 549 = .ok (.iconst 0, 1) := by decide +kernel
theorem d_LW_law_550 : decode code 550 = .ok (.ireturn, 1) := by decide +kernel
theorem d_LW_law_551 : decode code 551 = .ok (.aload_n 1, 1) := by decide +kernel
theorem d_LW_law_552 : decode code 552 = .ok (.aload_n 0, 1) := by decide +kernel
theorem d_LW_law_553 : decode code 553 = .ok (.iload_n 3, 1) := by decide +kernel
theorem d_LW_law_554 : decode code 554 = .ok (.iconst 1, 1) := by decide +kernel
theorem d_LW_law_555 : decode code 555 = .ok (.iadd, 1) := by decide +kernel
theorem d_LW_law_556 : decode code 556 = .ok (.iaload, 1) := by decide +kernel
theorem d_LW_law_557 : decode code 557 = .ok (.aload_n 0, 1) := by decide +kernel
theorem d_LW_law_558 : decode code 558 = .ok (.iload_n 3, 1) := by decide +kernel
theorem d_LW_law_559 : decode code 559 = .ok (.iconst 2, 1) := by decide +kernel
theorem d_LW_law_560 : decode code 560 = .ok (.iadd, 1) := by decide +kernel
theorem d_LW_law_561 : decode code 561 = .ok (.iaload, 1) := by decide +kernel
theorem d_LW_law_562 : decode code 562 = .ok (.invokevirtual 79, 3) := by decide +kernel
theorem d_LW_law_565 : decode code 565 = .ok (.aload_n 2, 1) := by decide +kernel
theorem d_LW_law_566 : decode code 566 = .ok (.aload_n 0, 1) := by decide +kernel
theorem d_LW_law_567 : decode code 567 = .ok (.iload_n 3, 1) := by decide +kernel
theorem d_LW_law_568 : decode code 568 = .ok (.iconst 1, 1) := by decide +kernel
theorem d_LW_law_569 : decode code 569 = .ok (.iadd, 1) := by decide +kernel
theorem d_LW_law_570 : decode code 570 = .ok (.iaload, 1) := by decide +kernel
theorem d_LW_law_571 : decode code 571 = .ok (.aload_n 0, 1) := by decide +kernel
theorem d_LW_law_572 : decode code 572 = .ok (.iload_n 3, 1) := by decide +kernel
theorem d_LW_law_573 : decode code 573 = .ok (.iconst 2, 1) := by decide +kernel
theorem d_LW_law_574 : decode code 574 = .ok (.iadd, 1) := by decide +kernel
theorem d_LW_law_575 : decode code 575 = .ok (.iaload, 1) := by decide +kernel
theorem d_LW_law_576 : decode code 576 = .ok (.invokevirtual 82, 3) := by decide +kernel
theorem d_LW_law_579 : decode code 579 = .ok (.if_icmp .eq 285, 3) := by decide +kernel
theorem d_LW_law_582 : decode code 582 = .ok (.iconst 0, 1) := by decide +kernel
theorem d_LW_law_583 : decode code 583 = .ok (.ireturn, 1) := by decide +kernel
theorem d_LW_law_584 : decode code 584 = .ok (.aload_n 1, 1) := by decide +kernel
theorem d_LW_law_585 : decode code 585 = .ok (.aload_n 0, 1) := by decide +kernel
theorem d_LW_law_586 : decode code 586 = .ok (.iload_n 3, 1) := by decide +kernel
theorem d_LW_law_587 : decode code 587 = .ok (.iconst 1, 1) := by decide +kernel
theorem d_LW_law_588 : decode code 588 = .ok (.iadd, 1) := by decide +kernel
theorem d_LW_law_589 : decode code 589 = .ok (.iaload, 1) := by decide +kernel
theorem d_LW_law_590 : decode code 590 = .ok (.aload_n 0, 1) := by decide +kernel
theorem d_LW_law_591 : decode code 591 = .ok (.iload_n 3, 1) := by decide +kernel
theorem d_LW_law_592 : decode code 592 = .ok (.iconst 2, 1) := by decide +kernel
theorem d_LW_law_593 : decode code 593 = .ok (.iadd, 1) := by decide +kernel
theorem d_LW_law_594 : decode code 594 = .ok (.iaload, 1) := by decide +kernel
theorem d_LW_law_595 : decode code 595 = .ok (.aload_n 0, 1) := by decide +kernel
theorem d_LW_law_596 : decode code 596 = .ok (.iload_n 3, 1) := by decide +kernel
theorem d_LW_law_597 : decode code 597 = .ok (.iconst 3, 1) := by decide +kernel
theorem d_LW_law_598 : decode code 598 = .ok (.iadd, 1) := by decide +kernel
theorem d_LW_law_599 : decode code 599 = .ok (.iaload, 1) := by decide +kernel
theorem d_LW_law_600 : decode code 600 = .ok (.invokevirtual 83, 3) := by decide +kernel
theorem d_LW_law_603 : decode code 603 = .ok (.aload_n 2, 1) := by decide +kernel
theorem d_LW_law_604 : decode code 604 = .ok (.aload_n 0, 1) := by decide +kernel
theorem d_LW_law_605 : decode code 605 = .ok (.iload_n 3, 1) := by decide +kernel
theorem d_LW_law_606 : decode code 606 = .ok (.iconst 1, 1) := by decide +kernel
theorem d_LW_law_607 : decode code 607 = .ok (.iadd, 1) := by decide +kernel
theorem d_LW_law_608 : decode code 608 = .ok (.iaload, 1) := by decide +kernel
theorem d_LW_law_609 : decode code 609 = .ok (.aload_n 0, 1) := by decide +kernel
theorem d_LW_law_610 : decode code 610 = .ok (.iload_n 3, 1) := by decide +kernel
theorem d_LW_law_611 : decode code 611 = .ok (.iconst 2, 1) := by decide +kernel
theorem d_LW_law_612 : decode code 612 = .ok (.iadd, 1) := by decide +kernel
theorem d_LW_law_613 : decode code 613 = .ok (.iaload, 1) := by decide +kernel
theorem d_LW_law_614 : decode code 614 = .ok (.aload_n 0, 1) := by decide +kernel
theorem d_LW_law_615 : decode code 615 = .ok (.iload_n 3, 1) := by decide +kernel
theorem d_LW_law_616 : decode code 616 = .ok (.iconst 3, 1) := by decide +kernel
theorem d_LW_law_617 : decode code 617 = .ok (.iadd, 1) := by decide +kernel
theorem d_LW_law_618 : decode code 618 = .ok (.iaload, 1) := by decide +kernel
theorem d_LW_law_619 : decode code 619 = .ok (.invokevirtual 86, 3) := by decide +kernel
theorem d_LW_law_622 : decode code 622 = .ok (.if_icmp .eq 242, 3) := by decide +kernel
theorem d_LW_law_625 : decode code 625 = .ok (.iconst 0, 1) := by decide +kernel
theorem d_LW_law_626 : decode code 626 = .ok (.ireturn, 1) := by decide +kernel
theorem d_LW_law_627 : decode code 627 = .ok (.aload_n 1, 1) := by decide +kernel
theorem d_LW_law_628 : decode code 628 = .ok (.aload_n 0, 1) := by decide +kernel
theorem d_LW_law_629 : decode code 629 = .ok (.iload_n 3, 1) := by decide +kernel
theorem d_LW_law_630 : decode code 630 = .ok (.iconst 1, 1) := by decide +kernel
theorem d_LW_law_631 : decode code 631 = .ok (.iadd, 1) := by decide +kernel
theorem d_LW_law_632 : decode code 632 = .ok (.iaload, 1) := by decide +kernel
theorem d_LW_law_633 : decode code 633 = .ok (.aload_n 0, 1) := by decide +kernel
theorem d_LW_law_634 : decode code 634 = .ok (.iload_n 3, 1) := by decide +kernel
theorem d_LW_law_635 : decode code 635 = .ok (.iconst 2, 1) := by decide +kernel
theorem d_LW_law_636 : decode code 636 = .ok (.iadd, 1) := by decide +kernel
theorem d_LW_law_637 : decode code 637 = .ok (.iaload, 1) := by decide +kernel
theorem d_LW_law_638 : decode code 638 = .ok (.aload_n 0, 1) := by decide +kernel
theorem d_LW_law_639 : decode code 639 = .ok (.iload_n 3, 1) := by decide +kernel
theorem d_LW_law_640 : decode code 640 = .ok (.iconst 3, 1) := by decide +kernel
theorem d_LW_law_641 : decode code 641 = .ok (.iadd, 1) := by decide +kernel
theorem d_LW_law_642 : decode code 642 = .ok (.iaload, 1) := by decide +kernel
theorem d_LW_law_643 : decode code 643 = .ok (.ifCond .eq 7, 3) := by decide +kernel
theorem d_LW_law_646 : decode code 646 = .ok (.iconst 1, 1) := by decide +kernel
theorem d_LW_law_647 : decode code 647 = .ok (.goto 4, 3) := by decide +kernel
theorem d_LW_law_650 : decode code 650 = .ok (.iconst 0, 1) := by decide +kernel
theorem d_LW_law_651 : decode code 651 = .ok (.invokevirtual 87, 3) := by decide +kernel
theorem d_LW_law_654 : decode code 654 = .ok (.aload_n 2, 1) := by decide +kernel
theorem d_LW_law_655 : decode code 655 = .ok (.aload_n 0, 1) := by decide +kernel
theorem d_LW_law_656 : decode code 656 = .ok (.iload_n 3, 1) := by decide +kernel
theorem d_LW_law_657 : decode code 657 = .ok (.iconst 1, 1) := by decide +kernel
theorem d_LW_law_658 : decode code 658 = .ok (.iadd, 1) := by decide +kernel
theorem d_LW_law_659 : decode code 659 = .ok (.iaload, 1) := by decide +kernel
theorem d_LW_law_660 : decode code 660 = .ok (.aload_n 0, 1) := by decide +kernel
theorem d_LW_law_661 : decode code 661 = .ok (.iload_n 3, 1) := by decide +kernel
theorem d_LW_law_662 : decode code 662 = .ok (.iconst 2, 1) := by decide +kernel
theorem d_LW_law_663 : decode code 663 = .ok (.iadd, 1) := by decide +kernel
theorem d_LW_law_664 : decode code 664 = .ok (.iaload, 1) := by decide +kernel
theorem d_LW_law_665 : decode code 665 = .ok (.aload_n 0, 1) := by decide +kernel
theorem d_LW_law_666 : decode code 666 = .ok (.iload_n 3, 1) := by decide +kernel
theorem d_LW_law_667 : decode code 667 = .ok (.iconst 3, 1) := by decide +kernel
theorem d_LW_law_668 : decode code 668 = .ok (.iadd, 1) := by decide +kernel
theorem d_LW_law_669 : decode code 669 = .ok (.iaload, 1) := by decide +kernel
theorem d_LW_law_670 : decode code 670 = .ok (.ifCond .eq 7, 3) := by decide +kernel
theorem d_LW_law_673 : decode code 673 = .ok (.iconst 1, 1) := by decide +kernel
theorem d_LW_law_674 : decode code 674 = .ok (.goto 4, 3) := by decide +kernel
theorem d_LW_law_677 : decode code 677 = .ok (.iconst 0, 1) := by decide +kernel
theorem d_LW_law_678 : decode code 678 = .ok (.invokevirtual 91, 3) := by decide +kernel
theorem d_LW_law_681 : decode code 681 = .ok (.if_icmp .eq 183, 3) := by decide +kernel
theorem d_LW_law_684 : decode code 684 = .ok (.iconst 0, 1) := by decide +kernel
theorem d_LW_law_685 : decode code 685 = .ok (.ireturn, 1) := by decide +kernel
theorem d_LW_law_686 : decode code 686 = .ok (.aload_n 1, 1) := by decide +kernel
theorem d_LW_law_687 : decode code 687 = .ok (.aload_n 0, 1) := by decide +kernel
theorem d_LW_law_688 : decode code 688 = .ok (.iload_n 3, 1) := by decide +kernel
theorem d_LW_law_689 : decode code 689 = .ok (.iconst 1, 1) := by decide +kernel
theorem d_LW_law_690 : decode code 690 = .ok (.iadd, 1) := by decide +kernel
theorem d_LW_law_691 : decode code 691 = .ok (.iaload, 1) := by decide +kernel
theorem d_LW_law_692 : decode code 692 = .ok (.invokevirtual 92, 3) := by decide +kernel
theorem d_LW_law_695 : decode code 695 = .ok (.aload_n 2, 1) := by decide +kernel
theorem d_LW_law_696 : decode code 696 = .ok (.aload_n 0, 1) := by decide +kernel
theorem d_LW_law_697 : decode code 697 = .ok (.iload_n 3, 1) := by decide +kernel
theorem d_LW_law_698 : decode code 698 = .ok (.iconst 1, 1) := by decide +kernel
theorem d_LW_law_699 : decode code 699 = .ok (.iadd, 1) := by decide +kernel
theorem d_LW_law_700 : decode code 700 = .ok (.iaload, 1) := by decide +kernel
theorem d_LW_law_701 : decode code 701 = .ok (.invokevirtual 95, 3) := by decide +kernel
theorem d_LW_law_704 : decode code 704 = .ok (.if_icmp .eq 160, 3) := by decide +kernel
theorem d_LW_law_707 : decode code 707 = .ok (.iconst 0, 1) := by decide +kernel
theorem d_LW_law_708 : decode code 708 = .ok (.ireturn, 1) := by decide +kernel
theorem d_LW_law_709 : decode code 709 = .ok (.aload_n 1, 1) := by decide +kernel
theorem d_LW_law_710 : decode code 710 = .ok (.aload_n 0, 1) := by decide +kernel
theorem d_LW_law_711 : decode code 711 = .ok (.iload_n 3, 1) := by decide +kernel
theorem d_LW_law_712 : decode code 712 = .ok (.iconst 1, 1) := by decide +kernel
theorem d_LW_law_713 : decode code 713 = .ok (.iadd, 1) := by decide +kernel
theorem d_LW_law_714 : decode code 714 = .ok (.iaload, 1) := by decide +kernel
theorem d_LW_law_715 : decode code 715 = .ok (.aload_n 0, 1) := by decide +kernel
theorem d_LW_law_716 : decode code 716 = .ok (.iload_n 3, 1) := by decide +kernel
theorem d_LW_law_717 : decode code 717 = .ok (.iconst 2, 1) := by decide +kernel
theorem d_LW_law_718 : decode code 718 = .ok (.iadd, 1) := by decide +kernel
theorem d_LW_law_719 : decode code 719 = .ok (.iaload, 1) := by decide +kernel
theorem d_LW_law_720 : decode code 720 = .ok (.invokevirtual 96, 3) := by decide +kernel
theorem d_LW_law_723 : decode code 723 = .ok (.aload_n 2, 1) := by decide +kernel
theorem d_LW_law_724 : decode code 724 = .ok (.aload_n 0, 1) := by decide +kernel
theorem d_LW_law_725 : decode code 725 = .ok (.iload_n 3, 1) := by decide +kernel
theorem d_LW_law_726 : decode code 726 = .ok (.iconst 1, 1) := by decide +kernel
theorem d_LW_law_727 : decode code 727 = .ok (.iadd, 1) := by decide +kernel
theorem d_LW_law_728 : decode code 728 = .ok (.iaload, 1) := by decide +kernel
theorem d_LW_law_729 : decode code 729 = .ok (.aload_n 0, 1) := by decide +kernel
theorem d_LW_law_730 : decode code 730 = .ok (.iload_n 3, 1) := by decide +kernel
theorem d_LW_law_731 : decode code 731 = .ok (.iconst 2, 1) := by decide +kernel
theorem d_LW_law_732 : decode code 732 = .ok (.iadd, 1) := by decide +kernel
theorem d_LW_law_733 : decode code 733 = .ok (.iaload, 1) := by decide +kernel
theorem d_LW_law_734 : decode code 734 = .ok (.invokevirtual 99, 3) := by decide +kernel
theorem d_LW_law_737 : decode code 737 = .ok (.if_icmp .eq 127, 3) := by decide +kernel
theorem d_LW_law_740 : decode code 740 = .ok (.iconst 0, 1) := by decide +kernel
theorem d_LW_law_741 : decode code 741 = .ok (.ireturn, 1) := by decide +kernel
theorem d_LW_law_742 : decode code 742 = .ok (.aload_n 1, 1) := by decide +kernel
theorem d_LW_law_743 : decode code 743 = .ok (.aload_n 0, 1) := by decide +kernel
theorem d_LW_law_744 : decode code 744 = .ok (.iload_n 3, 1) := by decide +kernel
theorem d_LW_law_745 : decode code 745 = .ok (.iconst 1, 1) := by decide +kernel
theorem d_LW_law_746 : decode code 746 = .ok (.iadd, 1) := by decide +kernel
theorem d_LW_law_747 : decode code 747 = .ok (.iaload, 1) := by decide +kernel
theorem d_LW_law_748 : decode code 748 = .ok (.aload_n 0, 1) := by decide +kernel
theorem d_LW_law_749 : decode code 749 = .ok (.iload_n 3, 1) := by decide +kernel
theorem d_LW_law_750 : decode code 750 = .ok (.iconst 2, 1) := by decide +kernel
theorem d_LW_law_751 : decode code 751 = .ok (.iadd, 1) := by decide +kernel
theorem d_LW_law_752 : decode code 752 = .ok (.iaload, 1) := by decide +kernel
theorem d_LW_law_753 : decode code 753 = .ok (.invokevirtual 100, 3) := by decide +kernel
theorem d_LW_law_756 : decode code 756 = .ok (.aload_n 2, 1) := by decide +kernel
theorem d_LW_law_757 : decode code 757 = .ok (.aload_n 0, 1) := by decide +kernel
theorem d_LW_law_758 : decode code 758 = .ok (.iload_n 3, 1) := by decide +kernel
theorem d_LW_law_759 : decode code 759 = .ok (.iconst 1, 1) := by decide +kernel
theorem d_LW_law_760 : decode code 760 = .ok (.iadd, 1) := by decide +kernel
theorem d_LW_law_761 : decode code 761 = .ok (.iaload, 1) := by decide +kernel
theorem d_LW_law_762 : decode code 762 = .ok (.aload_n 0, 1) := by decide +kernel
theorem d_LW_law_763 : decode code 763 = .ok (.iload_n 3, 1) := by decide +kernel
theorem d_LW_law_764 : decode code 764 = .ok (.iconst 2, 1) := by decide +kernel
theorem d_LW_law_765 : decode code 765 = .ok (.iadd, 1) := by decide +kernel
theorem d_LW_law_766 : decode code 766 = .ok (.iaload, 1) := by decide +kernel
theorem d_LW_law_767 : decode code 767 = .ok (.invokevirtual 103, 3) := by decide +kernel
theorem d_LW_law_770 : decode code 770 = .ok (.if_icmp .eq 94, 3) := by decide +kernel
theorem d_LW_law_773 : decode code 773 = .ok (.iconst 0, 1) := by decide +kernel
theorem d_LW_law_774 : decode code 774 = .ok (.ireturn, 1) := by decide +kernel
theorem d_LW_law_775 : decode code 775 = .ok (.aload_n 1, 1) := by decide +kernel
theorem d_LW_law_776 : decode code 776 = .ok (.aload_n 0, 1) := by decide +kernel
theorem d_LW_law_777 : decode code 777 = .ok (.iload_n 3, 1) := by decide +kernel
theorem d_LW_law_778 : decode code 778 = .ok (.iconst 1, 1) := by decide +kernel
theorem d_LW_law_779 : decode code 779 = .ok (.iadd, 1) := by decide +kernel
theorem d_LW_law_780 : decode code 780 = .ok (.iaload, 1) := by decide +kernel
theorem d_LW_law_781 : decode code 781 = .ok (.aload_n 0, 1) := by decide +kernel
theorem d_LW_law_782 : decode code 782 = .ok (.iload_n 3, 1) := by decide +kernel
theorem d_LW_law_783 : decode code 783 = .ok (.iconst 2, 1) := by decide +kernel
theorem d_LW_law_784 : decode code 784 = .ok (.iadd, 1) := by decide +kernel
theorem d_LW_law_785 : decode code 785 = .ok (.iaload, 1) := by decide +kernel
theorem d_LW_law_786 : decode code 786 = .ok (.invokevirtual 104, 3) := by decide +kernel
theorem d_LW_law_789 : decode code 789 = .ok (.aload_n 2, 1) := by decide +kernel
theorem d_LW_law_790 : decode code 790 = .ok (.aload_n 0, 1) := by decide +kernel
theorem d_LW_law_791 : decode code 791 = .ok (.iload_n 3, 1) := by decide +kernel
theorem d_LW_law_792 : decode code 792 = .ok (.iconst 1, 1) := by decide +kernel
theorem d_LW_law_793 : decode code 793 = .ok (.iadd, 1) := by decide +kernel
theorem d_LW_law_794 : decode code 794 = .ok (.iaload, 1) := by decide +kernel
theorem d_LW_law_795 : decode code 795 = .ok (.aload_n 0, 1) := by decide +kernel
theorem d_LW_law_796 : decode code 796 = .ok (.iload_n 3, 1) := by decide +kernel
theorem d_LW_law_797 : decode code 797 = .ok (.iconst 2, 1) := by decide +kernel
theorem d_LW_law_798 : decode code 798 = .ok (.iadd, 1) := by decide +kernel
theorem d_LW_law_799 : decode code 799 = .ok (.iaload, 1) := by decide +kernel
theorem d_LW_law_800 : decode code 800 = .ok (.invokevirtual 107, 3) := by decide +kernel
theorem d_LW_law_803 : decode code 803 = .ok (.if_icmp .eq 61, 3) := by decide +kernel
theorem d_LW_law_806 : decode code 806 = .ok (.iconst 0, 1) := by decide +kernel
theorem d_LW_law_807 : decode code 807 = .ok (.ireturn, 1) := by decide +kernel
theorem d_LW_law_808 : decode code 808 = .ok (.aload_n 1, 1) := by decide +kernel
theorem d_LW_law_809 : decode code 809 = .ok (.aload_n 0, 1) := by decide +kernel
theorem d_LW_law_810 : decode code 810 = .ok (.iload_n 3, 1) := by decide +kernel
theorem d_LW_law_811 : decode code 811 = .ok (.iconst 1, 1) := by decide +kernel
theorem d_LW_law_812 : decode code 812 = .ok (.iadd, 1) := by decide +kernel
theorem d_LW_law_813 : decode code 813 = .ok (.iaload, 1) := by decide +kernel
theorem d_LW_law_814 : decode code 814 = .ok (.aload_n 0, 1) := by decide +kernel
theorem d_LW_law_815 : decode code 815 = .ok (.iload_n 3, 1) := by decide +kernel
theorem d_LW_law_816 : decode code 816 = .ok (.iconst 2, 1) := by decide +kernel
theorem d_LW_law_817 : decode code 817 = .ok (.iadd, 1) := by decide +kernel
theorem d_LW_law_818 : decode code 818 = .ok (.iaload, 1) := by decide +kernel
theorem d_LW_law_819 : decode code 819 = .ok (.invokevirtual 108, 3) := by decide +kernel
theorem d_LW_law_822 : decode code 822 = .ok (.aload_n 2, 1) := by decide +kernel
theorem d_LW_law_823 : decode code 823 = .ok (.aload_n 0, 1) := by decide +kernel
theorem d_LW_law_824 : decode code 824 = .ok (.iload_n 3, 1) := by decide +kernel
theorem d_LW_law_825 : decode code 825 = .ok (.iconst 1, 1) := by decide +kernel
theorem d_LW_law_826 : decode code 826 = .ok (.iadd, 1) := by decide +kernel
theorem d_LW_law_827 : decode code 827 = .ok (.iaload, 1) := by decide +kernel
theorem d_LW_law_828 : decode code 828 = .ok (.aload_n 0, 1) := by decide +kernel
theorem d_LW_law_829 : decode code 829 = .ok (.iload_n 3, 1) := by decide +kernel
theorem d_LW_law_830 : decode code 830 = .ok (.iconst 2, 1) := by decide +kernel
theorem d_LW_law_831 : decode code 831 = .ok (.iadd, 1) := by decide +kernel
theorem d_LW_law_832 : decode code 832 = .ok (.iaload, 1) := by decide +kernel
theorem d_LW_law_833 : decode code 833 = .ok (.invokevirtual 111, 3) := by decide +kernel
theorem d_LW_law_836 : decode code 836 = .ok (.if_icmp .eq 28, 3) := by decide +kernel
theorem d_LW_law_839 : decode code 839 = .ok (.iconst 0, 1) := by decide +kernel
theorem d_LW_law_840 : decode code 840 = .ok (.ireturn, 1) := by decide +kernel
theorem d_LW_law_841 : decode code 841 = .ok (.aload_n 1, 1) := by decide +kernel
theorem d_LW_law_842 : decode code 842 = .ok (.aload_n 0, 1) := by decide +kernel
theorem d_LW_law_843 : decode code 843 = .ok (.iload_n 3, 1) := by decide +kernel
theorem d_LW_law_844 : decode code 844 = .ok (.iconst 1, 1) := by decide +kernel
theorem d_LW_law_845 : decode code 845 = .ok (.iadd, 1) := by decide +kernel
theorem d_LW_law_846 : decode code 846 = .ok (.iaload, 1) := by decide +kernel
theorem d_LW_law_847 : decode code 847 = .ok (.invokevirtual 112, 3) := by decide +kernel
theorem d_LW_law_850 : decode code 850 = .ok (.aload_n 2, 1) := by decide +kernel
theorem d_LW_law_851 : decode code 851 = .ok (.aload_n 0, 1) := by decide +kernel
theorem d_LW_law_852 : decode code 852 = .ok (.iload_n 3, 1) := by decide +kernel
theorem d_LW_law_853 : decode code 853 = .ok (.iconst 1, 1) := by decide +kernel
theorem d_LW_law_854 : decode code 854 = .ok (.iadd, 1) := by decide +kernel
theorem d_LW_law_855 : decode code 855 = .ok (.iaload, 1) := by decide +kernel
theorem d_LW_law_856 : decode code 856 = .ok (.invokevirtual 115, 3) := by decide +kernel
theorem d_LW_law_859 : decode code 859 = .ok (.if_icmp .eq 5, 3) := by decide +kernel
theorem d_LW_law_862 : decode code 862 = .ok (.iconst 0, 1) := by decide +kernel
theorem d_LW_law_863 : decode code 863 = .ok (.ireturn, 1) := by decide +kernel
theorem d_LW_law_864 : decode code 864 = .ok (.iinc 3 5, 3) := by decide +kernel
theorem d_LW_law_867 : decode code 867 = .ok (.goto (-849), 3) := by decide +kernel
theorem d_LW_law_870 : decode code 870 = .ok (.iconst 1, 1) := by decide +kernel
theorem d_LW_law_871 : decode code 871 = .ok (.ireturn, 1) := by decide +kernel
