theorem dmX13_way_0 : decode cX13_way 0 = .ok (.aload_n 0, 1) := dw_at cX13_way_k0 (p := 0) rfl (by decide +kernel)
theorem dmX13_way_1 : decode cX13_way 1 = .ok (.iconst 0, 1) := dw_at cX13_way_k0 (p := 1) rfl (by decide +kernel)
theorem dmX13_way_2 : decode cX13_way 2 = .ok (.putfield 1, 3) := dw_at cX13_way_k0 (p := 2) rfl (by decide +kernel)
theorem dmX13_way_5 : decode cX13_way 5 = .ok (.aload_n 0, 1) := dw_at cX13_way_k0 (p := 5) rfl (by decide +kernel)
theorem dmX13_way_6 : decode cX13_way 6 = .ok (.iload_n 1, 1) := dw_at cX13_way_k0 (p := 6) rfl (by decide +kernel)
theorem dmX13_way_7 : decode cX13_way 7 = .ok (.invokevirtual 423, 3) := dw_at cX13_way_k0 (p := 7) rfl (by decide +kernel)
theorem dmX13_way_10 : decode cX13_way 10 = .ok (.ifCond .eq 11, 3) := dw_at cX13_way_k0 (p := 10) rfl (by decide +kernel)
theorem dmX13_way_13 : decode cX13_way 13 = .ok (.aload_n 0, 1) := dw_at cX13_way_k0 (p := 13) rfl (by decide +kernel)
theorem dmX13_way_14 : decode cX13_way 14 = .ok (.iload_n 2, 1) := dw_at cX13_way_k0 (p := 14) rfl (by decide +kernel)
theorem dmX13_way_15 : decode cX13_way 15 = .ok (.invokevirtual 423, 3) := dw_at cX13_way_k0 (p := 15) rfl (by decide +kernel)
theorem dmX13_way_18 : decode cX13_way 18 = .ok (.ifCond .ne 9, 3) := dw_at cX13_way_k0 (p := 18) rfl (by decide +kernel)
theorem dmX13_way_21 : decode cX13_way 21 = .ok (.aload_n 0, 1) := dw_at cX13_way_k0 (p := 21) rfl (by decide +kernel)
theorem dmX13_way_22 : decode cX13_way 22 = .ok (.iconst 1, 1) := dw_at cX13_way_k0 (p := 22) rfl (by decide +kernel)
theorem dmX13_way_23 : decode cX13_way 23 = .ok (.invokevirtual 403, 3) := dw_at cX13_way_k0 (p := 23) rfl (by decide +kernel)
theorem dmX13_way_26 : decode cX13_way 26 = .ok (.ireturn, 1) := dw_at cX13_way_k1 (p := 0) rfl (by decide +kernel)
theorem dmX13_way_27 : decode cX13_way 27 = .ok (.aload_n 0, 1) := dw_at cX13_way_k1 (p := 1) rfl (by decide +kernel)
theorem dmX13_way_28 : decode cX13_way 28 = .ok (.getfield 110, 3) := dw_at cX13_way_k1 (p := 2) rfl (by decide +kernel)
theorem dmX13_way_31 : decode cX13_way 31 = .ok (.bipush 32, 2) := dw_at cX13_way_k1 (p := 5) rfl (by decide +kernel)
theorem dmX13_way_33 : decode cX13_way 33 = .ok (.iload_n 1, 1) := dw_at cX13_way_k1 (p := 7) rfl (by decide +kernel)
theorem dmX13_way_34 : decode cX13_way 34 = .ok (.imul, 1) := dw_at cX13_way_k1 (p := 8) rfl (by decide +kernel)
theorem dmX13_way_35 : decode cX13_way 35 = .ok (.invokestatic 67, 3) := dw_at cX13_way_k1 (p := 9) rfl (by decide +kernel)
theorem dmX13_way_38 : decode cX13_way 38 = .ok (.bipush 8, 2) := dw_at cX13_way_k1 (p := 12) rfl (by decide +kernel)
theorem dmX13_way_40 : decode cX13_way 40 = .ok (.if_icmp .gt 19, 3) := dw_at cX13_way_k1 (p := 14) rfl (by decide +kernel)
theorem dmX13_way_43 : decode cX13_way 43 = .ok (.aload_n 0, 1) := dw_at cX13_way_k1 (p := 17) rfl (by decide +kernel)
theorem dmX13_way_44 : decode cX13_way 44 = .ok (.getfield 110, 3) := dw_at cX13_way_k1 (p := 18) rfl (by decide +kernel)
theorem dmX13_way_47 : decode cX13_way 47 = .ok (.bipush 32, 2) := dw_at cX13_way_k1 (p := 21) rfl (by decide +kernel)
theorem dmX13_way_49 : decode cX13_way 49 = .ok (.iload_n 2, 1) := dw_at cX13_way_k1 (p := 23) rfl (by decide +kernel)
theorem dmX13_way_50 : decode cX13_way 50 = .ok (.imul, 1) := dw_at cX13_way_k2 (p := 0) rfl (by decide +kernel)
theorem dmX13_way_51 : decode cX13_way 51 = .ok (.invokestatic 67, 3) := dw_at cX13_way_k2 (p := 1) rfl (by decide +kernel)
theorem dmX13_way_54 : decode cX13_way 54 = .ok (.bipush 8, 2) := dw_at cX13_way_k2 (p := 4) rfl (by decide +kernel)
theorem dmX13_way_56 : decode cX13_way 56 = .ok (.if_icmp .le 9, 3) := dw_at cX13_way_k2 (p := 6) rfl (by decide +kernel)
theorem dmX13_way_59 : decode cX13_way 59 = .ok (.aload_n 0, 1) := dw_at cX13_way_k2 (p := 9) rfl (by decide +kernel)
theorem dmX13_way_60 : decode cX13_way 60 = .ok (.iconst 2, 1) := dw_at cX13_way_k2 (p := 10) rfl (by decide +kernel)
theorem dmX13_way_61 : decode cX13_way 61 = .ok (.invokevirtual 403, 3) := dw_at cX13_way_k2 (p := 11) rfl (by decide +kernel)
theorem dmX13_way_64 : decode cX13_way 64 = .ok (.ireturn, 1) := dw_at cX13_way_k2 (p := 14) rfl (by decide +kernel)
theorem dmX13_way_65 : decode cX13_way 65 = .ok (.aload_n 0, 1) := dw_at cX13_way_k2 (p := 15) rfl (by decide +kernel)
theorem dmX13_way_66 : decode cX13_way 66 = .ok (.iload_n 1, 1) := dw_at cX13_way_k2 (p := 16) rfl (by decide +kernel)
theorem dmX13_way_67 : decode cX13_way 67 = .ok (.iload_n 2, 1) := dw_at cX13_way_k2 (p := 17) rfl (by decide +kernel)
theorem dmX13_way_68 : decode cX13_way 68 = .ok (.invokevirtual 549, 3) := dw_at cX13_way_k2 (p := 18) rfl (by decide +kernel)
theorem dmX13_way_71 : decode cX13_way 71 = .ok (.ifCond .eq 5, 3) := dw_at cX13_way_k2 (p := 21) rfl (by decide +kernel)
theorem dmX13_way_74 : decode cX13_way 74 = .ok (.iconst 0, 1) := dw_at cX13_way_k3 (p := 0) rfl (by decide +kernel)
theorem dmX13_way_75 : decode cX13_way 75 = .ok (.ireturn, 1) := dw_at cX13_way_k3 (p := 1) rfl (by decide +kernel)
theorem dmX13_way_76 : decode cX13_way 76 = .ok (.iconst 0, 1) := dw_at cX13_way_k3 (p := 2) rfl (by decide +kernel)
theorem dmX13_way_77 : decode cX13_way 77 = .ok (.istore_n 3, 1) := dw_at cX13_way_k3 (p := 3) rfl (by decide +kernel)
theorem dmX13_way_78 : decode cX13_way 78 = .ok (.iload_n 3, 1) := dw_at cX13_way_k3 (p := 4) rfl (by decide +kernel)
theorem dmX13_way_79 : decode cX13_way 79 = .ok (.aload_n 0, 1) := dw_at cX13_way_k3 (p := 5) rfl (by decide +kernel)
theorem dmX13_way_80 : decode cX13_way 80 = .ok (.getfield 110, 3) := dw_at cX13_way_k3 (p := 6) rfl (by decide +kernel)
theorem dmX13_way_83 : decode cX13_way 83 = .ok (.bipush 32, 2) := dw_at cX13_way_k3 (p := 9) rfl (by decide +kernel)
theorem dmX13_way_85 : decode cX13_way 85 = .ok (.iload_n 2, 1) := dw_at cX13_way_k3 (p := 11) rfl (by decide +kernel)
theorem dmX13_way_86 : decode cX13_way 86 = .ok (.imul, 1) := dw_at cX13_way_k3 (p := 12) rfl (by decide +kernel)
theorem dmX13_way_87 : decode cX13_way 87 = .ok (.iaload, 1) := dw_at cX13_way_k3 (p := 13) rfl (by decide +kernel)
theorem dmX13_way_88 : decode cX13_way 88 = .ok (.if_icmp .gt 26, 3) := dw_at cX13_way_k3 (p := 14) rfl (by decide +kernel)
theorem dmX13_way_91 : decode cX13_way 91 = .ok (.aload_n 0, 1) := dw_at cX13_way_k3 (p := 17) rfl (by decide +kernel)
theorem dmX13_way_92 : decode cX13_way 92 = .ok (.getfield 152, 3) := dw_at cX13_way_k3 (p := 18) rfl (by decide +kernel)
theorem dmX13_way_95 : decode cX13_way 95 = .ok (.iload_n 3, 1) := dw_at cX13_way_k3 (p := 21) rfl (by decide +kernel)
theorem dmX13_way_96 : decode cX13_way 96 = .ok (.aload_n 0, 1) := dw_at cX13_way_k3 (p := 22) rfl (by decide +kernel)
theorem dmX13_way_97 : decode cX13_way 97 = .ok (.getfield 110, 3) := dw_at cX13_way_k3 (p := 23) rfl (by decide +kernel)
theorem dmX13_way_100 : decode cX13_way 100 = .ok (.bipush 32, 2) := dw_at cX13_way_k4 (p := 0) rfl (by decide +kernel)
theorem dmX13_way_102 : decode cX13_way 102 = .ok (.iload_n 2, 1) := dw_at cX13_way_k4 (p := 2) rfl (by decide +kernel)
theorem dmX13_way_103 : decode cX13_way 103 = .ok (.imul, 1) := dw_at cX13_way_k4 (p := 3) rfl (by decide +kernel)
theorem dmX13_way_104 : decode cX13_way 104 = .ok (.iload_n 3, 1) := dw_at cX13_way_k4 (p := 4) rfl (by decide +kernel)
theorem dmX13_way_105 : decode cX13_way 105 = .ok (.iadd, 1) := dw_at cX13_way_k4 (p := 5) rfl (by decide +kernel)
theorem dmX13_way_106 : decode cX13_way 106 = .ok (.iaload, 1) := dw_at cX13_way_k4 (p := 6) rfl (by decide +kernel)
theorem dmX13_way_107 : decode cX13_way 107 = .ok (.iastore, 1) := dw_at cX13_way_k4 (p := 7) rfl (by decide +kernel)
theorem dmX13_way_108 : decode cX13_way 108 = .ok (.iinc 3 1, 3) := dw_at cX13_way_k4 (p := 8) rfl (by decide +kernel)
theorem dmX13_way_111 : decode cX13_way 111 = .ok (.goto (-33), 3) := dw_at cX13_way_k4 (p := 11) rfl (by decide +kernel)
theorem dmX13_way_114 : decode cX13_way 114 = .ok (.aload_n 0, 1) := dw_at cX13_way_k4 (p := 14) rfl (by decide +kernel)
theorem dmX13_way_115 : decode cX13_way 115 = .ok (.iconst 0, 1) := dw_at cX13_way_k4 (p := 15) rfl (by decide +kernel)
theorem dmX13_way_116 : decode cX13_way 116 = .ok (.putfield 475, 3) := dw_at cX13_way_k4 (p := 16) rfl (by decide +kernel)
theorem dmX13_way_119 : decode cX13_way 119 = .ok (.iconst 0, 1) := dw_at cX13_way_k4 (p := 19) rfl (by decide +kernel)
theorem dmX13_way_120 : decode cX13_way 120 = .ok (.istore_n 3, 1) := dw_at cX13_way_k4 (p := 20) rfl (by decide +kernel)
theorem dmX13_way_121 : decode cX13_way 121 = .ok (.iload_n 3, 1) := dw_at cX13_way_k4 (p := 21) rfl (by decide +kernel)
theorem dmX13_way_122 : decode cX13_way 122 = .ok (.iconst 5, 1) := dw_at cX13_way_k4 (p := 22) rfl (by decide +kernel)
theorem dmX13_way_123 : decode cX13_way 123 = .ok (.if_icmp .ge 32, 3) := dw_at cX13_way_k4 (p := 23) rfl (by decide +kernel)
theorem dmX13_way_126 : decode cX13_way 126 = .ok (.aload_n 0, 1) := dw_at cX13_way_k5 (p := 0) rfl (by decide +kernel)
theorem dmX13_way_127 : decode cX13_way 127 = .ok (.iload_n 1, 1) := dw_at cX13_way_k5 (p := 1) rfl (by decide +kernel)
theorem dmX13_way_128 : decode cX13_way 128 = .ok (.aload_n 0, 1) := dw_at cX13_way_k5 (p := 2) rfl (by decide +kernel)
theorem dmX13_way_129 : decode cX13_way 129 = .ok (.getfield 114, 3) := dw_at cX13_way_k5 (p := 3) rfl (by decide +kernel)
theorem dmX13_way_132 : decode cX13_way 132 = .ok (.invokevirtual 434, 3) := dw_at cX13_way_k5 (p := 6) rfl (by decide +kernel)
theorem dmX13_way_135 : decode cX13_way 135 = .ok (.aload_n 0, 1) := dw_at cX13_way_k5 (p := 9) rfl (by decide +kernel)
theorem dmX13_way_136 : decode cX13_way 136 = .ok (.iconst 2, 1) := dw_at cX13_way_k5 (p := 10) rfl (by decide +kernel)
theorem dmX13_way_137 : decode cX13_way 137 = .ok (.putfield 465, 3) := dw_at cX13_way_k5 (p := 11) rfl (by decide +kernel)
theorem dmX13_way_140 : decode cX13_way 140 = .ok (.aload_n 0, 1) := dw_at cX13_way_k5 (p := 14) rfl (by decide +kernel)
theorem dmX13_way_141 : decode cX13_way 141 = .ok (.aload_n 0, 1) := dw_at cX13_way_k5 (p := 15) rfl (by decide +kernel)
theorem dmX13_way_142 : decode cX13_way 142 = .ok (.getfield 114, 3) := dw_at cX13_way_k5 (p := 16) rfl (by decide +kernel)
theorem dmX13_way_145 : decode cX13_way 145 = .ok (.iload_n 3, 1) := dw_at cX13_way_k5 (p := 19) rfl (by decide +kernel)
theorem dmX13_way_146 : decode cX13_way 146 = .ok (.invokevirtual 543, 3) := dw_at cX13_way_k5 (p := 20) rfl (by decide +kernel)
theorem dmX13_way_149 : decode cX13_way 149 = .ok (.iinc 3 1, 3) := dw_at cX13_way_k5 (p := 23) rfl (by decide +kernel)
theorem dmX13_way_152 : decode cX13_way 152 = .ok (.goto (-31), 3) := dw_at cX13_way_k6 (p := 0) rfl (by decide +kernel)
theorem dmX13_way_155 : decode cX13_way 155 = .ok (.iconst 0, 1) := dw_at cX13_way_k6 (p := 3) rfl (by decide +kernel)
theorem dmX13_way_156 : decode cX13_way 156 = .ok (.istore_n 3, 1) := dw_at cX13_way_k6 (p := 4) rfl (by decide +kernel)
theorem dmX13_way_157 : decode cX13_way 157 = .ok (.iload_n 3, 1) := dw_at cX13_way_k6 (p := 5) rfl (by decide +kernel)
theorem dmX13_way_158 : decode cX13_way 158 = .ok (.aload_n 0, 1) := dw_at cX13_way_k6 (p := 6) rfl (by decide +kernel)
theorem dmX13_way_159 : decode cX13_way 159 = .ok (.getfield 475, 3) := dw_at cX13_way_k6 (p := 7) rfl (by decide +kernel)
theorem dmX13_way_162 : decode cX13_way 162 = .ok (.if_icmp .ge 30, 3) := dw_at cX13_way_k6 (p := 10) rfl (by decide +kernel)
theorem dmX13_way_165 : decode cX13_way 165 = .ok (.aload_n 0, 1) := dw_at cX13_way_k6 (p := 13) rfl (by decide +kernel)
theorem dmX13_way_166 : decode cX13_way 166 = .ok (.getfield 143, 3) := dw_at cX13_way_k6 (p := 14) rfl (by decide +kernel)
theorem dmX13_way_169 : decode cX13_way 169 = .ok (.bipush 32, 2) := dw_at cX13_way_k6 (p := 17) rfl (by decide +kernel)
theorem dmX13_way_171 : decode cX13_way 171 = .ok (.iload_n 3, 1) := dw_at cX13_way_k6 (p := 19) rfl (by decide +kernel)
theorem dmX13_way_172 : decode cX13_way 172 = .ok (.imul, 1) := dw_at cX13_way_k6 (p := 20) rfl (by decide +kernel)
theorem dmX13_way_173 : decode cX13_way 173 = .ok (.aload_n 0, 1) := dw_at cX13_way_k6 (p := 21) rfl (by decide +kernel)
theorem dmX13_way_174 : decode cX13_way 174 = .ok (.getfield 152, 3) := dw_at cX13_way_k6 (p := 22) rfl (by decide +kernel)
theorem dmX13_way_177 : decode cX13_way 177 = .ok (.iconst 0, 1) := dw_at cX13_way_k7 (p := 0) rfl (by decide +kernel)
theorem dmX13_way_178 : decode cX13_way 178 = .ok (.invokestatic 445, 3) := dw_at cX13_way_k7 (p := 1) rfl (by decide +kernel)
theorem dmX13_way_181 : decode cX13_way 181 = .ok (.ifCond .eq 5, 3) := dw_at cX13_way_k7 (p := 4) rfl (by decide +kernel)
theorem dmX13_way_184 : decode cX13_way 184 = .ok (.iconst 1, 1) := dw_at cX13_way_k7 (p := 7) rfl (by decide +kernel)
theorem dmX13_way_185 : decode cX13_way 185 = .ok (.ireturn, 1) := dw_at cX13_way_k7 (p := 8) rfl (by decide +kernel)
theorem dmX13_way_186 : decode cX13_way 186 = .ok (.iinc 3 1, 3) := dw_at cX13_way_k7 (p := 9) rfl (by decide +kernel)
theorem dmX13_way_189 : decode cX13_way 189 = .ok (.goto (-32), 3) := dw_at cX13_way_k7 (p := 12) rfl (by decide +kernel)
theorem dmX13_way_192 : decode cX13_way 192 = .ok (.aload_n 0, 1) := dw_at cX13_way_k7 (p := 15) rfl (by decide +kernel)
theorem dmX13_way_193 : decode cX13_way 193 = .ok (.iconst 0, 1) := dw_at cX13_way_k7 (p := 16) rfl (by decide +kernel)
theorem dmX13_way_194 : decode cX13_way 194 = .ok (.putfield 471, 3) := dw_at cX13_way_k7 (p := 17) rfl (by decide +kernel)
theorem dmX13_way_197 : decode cX13_way 197 = .ok (.aload_n 0, 1) := dw_at cX13_way_k7 (p := 20) rfl (by decide +kernel)
theorem dmX13_way_198 : decode cX13_way 198 = .ok (.iconst 1, 1) := dw_at cX13_way_k7 (p := 21) rfl (by decide +kernel)
theorem dmX13_way_199 : decode cX13_way 199 = .ok (.putfield 465, 3) := dw_at cX13_way_k7 (p := 22) rfl (by decide +kernel)
theorem dmX13_way_202 : decode cX13_way 202 = .ok (.aload_n 0, 1) := dw_at cX13_way_k8 (p := 0) rfl (by decide +kernel)
theorem dmX13_way_203 : decode cX13_way 203 = .ok (.getfield 152, 3) := dw_at cX13_way_k8 (p := 1) rfl (by decide +kernel)
theorem dmX13_way_206 : decode cX13_way 206 = .ok (.iconst 0, 1) := dw_at cX13_way_k8 (p := 4) rfl (by decide +kernel)
theorem dmX13_way_207 : decode cX13_way 207 = .ok (.invokestatic 67, 3) := dw_at cX13_way_k8 (p := 5) rfl (by decide +kernel)
theorem dmX13_way_210 : decode cX13_way 210 = .ok (.iconst 2, 1) := dw_at cX13_way_k8 (p := 8) rfl (by decide +kernel)
theorem dmX13_way_211 : decode cX13_way 211 = .ok (.idiv, 1) := dw_at cX13_way_k8 (p := 9) rfl (by decide +kernel)
theorem dmX13_way_212 : decode cX13_way 212 = .ok (.istore_n 3, 1) := dw_at cX13_way_k8 (p := 10) rfl (by decide +kernel)
theorem dmX13_way_213 : decode cX13_way 213 = .ok (.iconst 0, 1) := dw_at cX13_way_k8 (p := 11) rfl (by decide +kernel)
theorem dmX13_way_214 : decode cX13_way 214 = .ok (.istore 4, 2) := dw_at cX13_way_k8 (p := 12) rfl (by decide +kernel)
theorem dmX13_way_216 : decode cX13_way 216 = .ok (.iload 4, 2) := dw_at cX13_way_k8 (p := 14) rfl (by decide +kernel)
theorem dmX13_way_218 : decode cX13_way 218 = .ok (.aload_n 0, 1) := dw_at cX13_way_k8 (p := 16) rfl (by decide +kernel)
theorem dmX13_way_219 : decode cX13_way 219 = .ok (.getfield 475, 3) := dw_at cX13_way_k8 (p := 17) rfl (by decide +kernel)
theorem dmX13_way_222 : decode cX13_way 222 = .ok (.if_icmp .ge 126, 3) := dw_at cX13_way_k8 (p := 20) rfl (by decide +kernel)
theorem dmX13_way_225 : decode cX13_way 225 = .ok (.aload_n 0, 1) := dw_at cX13_way_k8 (p := 23) rfl (by decide +kernel)
theorem dmX13_way_226 : decode cX13_way 226 = .ok (.getfield 471, 3) := dw_at cX13_way_k9 (p := 0) rfl (by decide +kernel)
theorem dmX13_way_229 : decode cX13_way 229 = .ok (.ifCond .ne 119, 3) := dw_at cX13_way_k9 (p := 3) rfl (by decide +kernel)
theorem dmX13_way_232 : decode cX13_way 232 = .ok (.iload_n 3, 1) := dw_at cX13_way_k9 (p := 6) rfl (by decide +kernel)
theorem dmX13_way_233 : decode cX13_way 233 = .ok (.aload_n 0, 1) := dw_at cX13_way_k9 (p := 7) rfl (by decide +kernel)
theorem dmX13_way_234 : decode cX13_way 234 = .ok (.getfield 143, 3) := dw_at cX13_way_k9 (p := 8) rfl (by decide +kernel)
theorem dmX13_way_237 : decode cX13_way 237 = .ok (.bipush 32, 2) := dw_at cX13_way_k9 (p := 11) rfl (by decide +kernel)
theorem dmX13_way_239 : decode cX13_way 239 = .ok (.iload 4, 2) := dw_at cX13_way_k9 (p := 13) rfl (by decide +kernel)
theorem dmX13_way_241 : decode cX13_way 241 = .ok (.imul, 1) := dw_at cX13_way_k9 (p := 15) rfl (by decide +kernel)
theorem dmX13_way_242 : decode cX13_way 242 = .ok (.invokestatic 67, 3) := dw_at cX13_way_k9 (p := 16) rfl (by decide +kernel)
theorem dmX13_way_245 : decode cX13_way 245 = .ok (.iconst 2, 1) := dw_at cX13_way_k9 (p := 19) rfl (by decide +kernel)
theorem dmX13_way_246 : decode cX13_way 246 = .ok (.idiv, 1) := dw_at cX13_way_k9 (p := 20) rfl (by decide +kernel)
theorem dmX13_way_247 : decode cX13_way 247 = .ok (.isub, 1) := dw_at cX13_way_k9 (p := 21) rfl (by decide +kernel)
theorem dmX13_way_248 : decode cX13_way 248 = .ok (.istore 5, 2) := dw_at cX13_way_k9 (p := 22) rfl (by decide +kernel)
theorem dmX13_way_250 : decode cX13_way 250 = .ok (.iload 5, 2) := dw_at cX13_way_k10 (p := 0) rfl (by decide +kernel)
theorem dmX13_way_252 : decode cX13_way 252 = .ok (.iconst (-1), 1) := dw_at cX13_way_k10 (p := 2) rfl (by decide +kernel)
theorem dmX13_way_253 : decode cX13_way 253 = .ok (.if_icmp .ne 7, 3) := dw_at cX13_way_k10 (p := 3) rfl (by decide +kernel)
theorem dmX13_way_256 : decode cX13_way 256 = .ok (.iconst 0, 1) := dw_at cX13_way_k10 (p := 6) rfl (by decide +kernel)
theorem dmX13_way_257 : decode cX13_way 257 = .ok (.goto 44, 3) := dw_at cX13_way_k10 (p := 7) rfl (by decide +kernel)
theorem dmX13_way_260 : decode cX13_way 260 = .ok (.iload 5, 2) := dw_at cX13_way_k10 (p := 10) rfl (by decide +kernel)
theorem dmX13_way_262 : decode cX13_way 262 = .ok (.iconst 1, 1) := dw_at cX13_way_k10 (p := 12) rfl (by decide +kernel)
theorem dmX13_way_263 : decode cX13_way 263 = .ok (.if_icmp .ne 7, 3) := dw_at cX13_way_k10 (p := 13) rfl (by decide +kernel)
theorem dmX13_way_266 : decode cX13_way 266 = .ok (.iconst 1, 1) := dw_at cX13_way_k10 (p := 16) rfl (by decide +kernel)
theorem dmX13_way_267 : decode cX13_way 267 = .ok (.goto 34, 3) := dw_at cX13_way_k10 (p := 17) rfl (by decide +kernel)
theorem dmX13_way_270 : decode cX13_way 270 = .ok (.iload 5, 2) := dw_at cX13_way_k10 (p := 20) rfl (by decide +kernel)
theorem dmX13_way_272 : decode cX13_way 272 = .ok (.bipush (-2), 2) := dw_at cX13_way_k10 (p := 22) rfl (by decide +kernel)
theorem dmX13_way_274 : decode cX13_way 274 = .ok (.if_icmp .ne 7, 3) := dw_at cX13_way_k11 (p := 0) rfl (by decide +kernel)
theorem dmX13_way_277 : decode cX13_way 277 = .ok (.iconst 2, 1) := dw_at cX13_way_k11 (p := 3) rfl (by decide +kernel)
theorem dmX13_way_278 : decode cX13_way 278 = .ok (.goto 23, 3) := dw_at cX13_way_k11 (p := 4) rfl (by decide +kernel)
theorem dmX13_way_281 : decode cX13_way 281 = .ok (.iload 5, 2) := dw_at cX13_way_k11 (p := 7) rfl (by decide +kernel)
theorem dmX13_way_283 : decode cX13_way 283 = .ok (.iconst 2, 1) := dw_at cX13_way_k11 (p := 9) rfl (by decide +kernel)
theorem dmX13_way_284 : decode cX13_way 284 = .ok (.if_icmp .ne 7, 3) := dw_at cX13_way_k11 (p := 10) rfl (by decide +kernel)
theorem dmX13_way_287 : decode cX13_way 287 = .ok (.iconst 3, 1) := dw_at cX13_way_k11 (p := 13) rfl (by decide +kernel)
theorem dmX13_way_288 : decode cX13_way 288 = .ok (.goto 13, 3) := dw_at cX13_way_k11 (p := 14) rfl (by decide +kernel)
theorem dmX13_way_291 : decode cX13_way 291 = .ok (.iload 5, 2) := dw_at cX13_way_k11 (p := 17) rfl (by decide +kernel)
theorem dmX13_way_293 : decode cX13_way 293 = .ok (.ifCond .ne 7, 3) := dw_at cX13_way_k11 (p := 19) rfl (by decide +kernel)
theorem dmX13_way_296 : decode cX13_way 296 = .ok (.iconst 4, 1) := dw_at cX13_way_k11 (p := 22) rfl (by decide +kernel)
theorem dmX13_way_297 : decode cX13_way 297 = .ok (.goto 4, 3) := dw_at cX13_way_k11 (p := 23) rfl (by decide +kernel)
theorem dmX13_way_300 : decode cX13_way 300 = .ok (.iconst (-1), 1) := dw_at cX13_way_k12 (p := 0) rfl (by decide +kernel)
theorem dmX13_way_301 : decode cX13_way 301 = .ok (.istore 6, 2) := dw_at cX13_way_k12 (p := 1) rfl (by decide +kernel)
theorem dmX13_way_303 : decode cX13_way 303 = .ok (.iload 6, 2) := dw_at cX13_way_k12 (p := 3) rfl (by decide +kernel)
theorem dmX13_way_305 : decode cX13_way 305 = .ok (.iconst (-1), 1) := dw_at cX13_way_k12 (p := 5) rfl (by decide +kernel)
theorem dmX13_way_306 : decode cX13_way 306 = .ok (.if_icmp .eq 36, 3) := dw_at cX13_way_k12 (p := 6) rfl (by decide +kernel)
theorem dmX13_way_309 : decode cX13_way 309 = .ok (.aload_n 0, 1) := dw_at cX13_way_k12 (p := 9) rfl (by decide +kernel)
theorem dmX13_way_310 : decode cX13_way 310 = .ok (.getfield 143, 3) := dw_at cX13_way_k12 (p := 10) rfl (by decide +kernel)
theorem dmX13_way_313 : decode cX13_way 313 = .ok (.bipush 32, 2) := dw_at cX13_way_k12 (p := 13) rfl (by decide +kernel)
theorem dmX13_way_315 : decode cX13_way 315 = .ok (.iload 4, 2) := dw_at cX13_way_k12 (p := 15) rfl (by decide +kernel)
theorem dmX13_way_317 : decode cX13_way 317 = .ok (.imul, 1) := dw_at cX13_way_k12 (p := 17) rfl (by decide +kernel)
theorem dmX13_way_318 : decode cX13_way 318 = .ok (.aload_n 0, 1) := dw_at cX13_way_k12 (p := 18) rfl (by decide +kernel)
theorem dmX13_way_319 : decode cX13_way 319 = .ok (.getfield 114, 3) := dw_at cX13_way_k12 (p := 19) rfl (by decide +kernel)
theorem dmX13_way_322 : decode cX13_way 322 = .ok (.invokestatic 430, 3) := dw_at cX13_way_k12 (p := 22) rfl (by decide +kernel)
theorem dmX13_way_325 : decode cX13_way 325 = .ok (.aload_n 0, 1) := dw_at cX13_way_k13 (p := 0) rfl (by decide +kernel)
theorem dmX13_way_326 : decode cX13_way 326 = .ok (.getfield 114, 3) := dw_at cX13_way_k13 (p := 1) rfl (by decide +kernel)
theorem dmX13_way_329 : decode cX13_way 329 = .ok (.invokevirtual 71, 3) := dw_at cX13_way_k13 (p := 4) rfl (by decide +kernel)
theorem dmX13_way_332 : decode cX13_way 332 = .ok (.aload_n 0, 1) := dw_at cX13_way_k13 (p := 7) rfl (by decide +kernel)
theorem dmX13_way_333 : decode cX13_way 333 = .ok (.aload_n 0, 1) := dw_at cX13_way_k13 (p := 8) rfl (by decide +kernel)
theorem dmX13_way_334 : decode cX13_way 334 = .ok (.getfield 114, 3) := dw_at cX13_way_k13 (p := 9) rfl (by decide +kernel)
theorem dmX13_way_337 : decode cX13_way 337 = .ok (.iload 6, 2) := dw_at cX13_way_k13 (p := 12) rfl (by decide +kernel)
theorem dmX13_way_339 : decode cX13_way 339 = .ok (.invokevirtual 543, 3) := dw_at cX13_way_k13 (p := 14) rfl (by decide +kernel)
theorem dmX13_way_342 : decode cX13_way 342 = .ok (.iinc 4 1, 3) := dw_at cX13_way_k13 (p := 17) rfl (by decide +kernel)
theorem dmX13_way_345 : decode cX13_way 345 = .ok (.goto (-129), 3) := dw_at cX13_way_k13 (p := 20) rfl (by decide +kernel)
theorem dmX13_way_348 : decode cX13_way 348 = .ok (.aload_n 0, 1) := dw_at cX13_way_k13 (p := 23) rfl (by decide +kernel)
theorem dmX13_way_349 : decode cX13_way 349 = .ok (.getfield 471, 3) := dw_at cX13_way_k14 (p := 0) rfl (by decide +kernel)
theorem dmX13_way_352 : decode cX13_way 352 = .ok (.ifCond .eq 7, 3) := dw_at cX13_way_k14 (p := 3) rfl (by decide +kernel)
theorem dmX13_way_355 : decode cX13_way 355 = .ok (.iconst 2, 1) := dw_at cX13_way_k14 (p := 6) rfl (by decide +kernel)
theorem dmX13_way_356 : decode cX13_way 356 = .ok (.goto 4, 3) := dw_at cX13_way_k14 (p := 7) rfl (by decide +kernel)
theorem dmX13_way_359 : decode cX13_way 359 = .ok (.iconst (-1), 1) := dw_at cX13_way_k14 (p := 10) rfl (by decide +kernel)
theorem dmX13_way_360 : decode cX13_way 360 = .ok (.ireturn, 1) := dw_at cX13_way_k14 (p := 11) rfl (by decide +kernel)
def qm_X13_way_0 (K : Nat) (go : Nat → Int32 → Int32 → Int32 → Int32 → Int32 → Int32 → Int32 → ow_MS → Option (Int32 × ow_MS)) (x1 : Int32) (x2 : Int32) (x3 : Int32) (x4 : Int32) (x5 : Int32) (x6 : Int32) (t0 : Int32) (z : ow_MS) : Option (Int32 × ow_MS) :=
 wrF z 1 0 fun z1 => cs1 (qe_X13_has K x1 z1) fun v3 z2 => (if v3 = 0 then go 1 x1 x2 0 0 0 0 0 z2
 else cs1 (qe_X13_has K x2 z2) fun v5 z4 => (if v5 = 0 then go 1 x1 x2 0 0 0 0 0 z4
 else cs1 (qe_X13_visitsOf K 12 (32 * x1) z4) fun v7 z6 => (if 8 < v7 then go 2 x1 x2 0 0 0 0 0 z6
 else cs1 (qe_X13_visitsOf K 12 (32 * x2) z6) fun v9 z8 => (if v9 ≤ 8 then cs1 (qe_X13_alike K x1 x2 z8) fun v11 z10 => (if v11 = 0 then go 3 x1 x2 0 0 0 0 0 z10
 else some (0, z10))
 else go 2 x1 x2 0 0 0 0 0 z8))))
def qm_X13_way_1 (K : Nat) (go : Nat → Int32 → Int32 → Int32 → Int32 → Int32 → Int32 → Int32 → ow_MS → Option (Int32 × ow_MS)) (x1 : Int32) (x2 : Int32) (x3 : Int32) (x4 : Int32) (x5 : Int32) (x6 : Int32) (t0 : Int32) (z : ow_MS) : Option (Int32 × ow_MS) :=
 cs1 (qe_X13_fails K 1 z) fun v13 z12 => some (v13, z12)
def qm_X13_way_2 (K : Nat) (go : Nat → Int32 → Int32 → Int32 → Int32 → Int32 → Int32 → Int32 → ow_MS → Option (Int32 × ow_MS)) (x1 : Int32) (x2 : Int32) (x3 : Int32) (x4 : Int32) (x5 : Int32) (x6 : Int32) (t0 : Int32) (z : ow_MS) : Option (Int32 × ow_MS) :=
 cs1 (qe_X13_fails K 2 z) fun v15 z14 => some (v15, z14)
def qm_X13_way_3 (K : Nat) (go : Nat → Int32 → Int32 → Int32 → Int32 → Int32 → Int32 → Int32 → ow_MS → Option (Int32 × ow_MS)) (x1 : Int32) (x2 : Int32) (x3 : Int32) (x4 : Int32) (x5 : Int32) (x6 : Int32) (t0 : Int32) (z : ow_MS) : Option (Int32 × ow_MS) :=
 rdI mX z 12 (32 * x2) fun v16 => (if v16 < x3 then wrF z 24 0 fun z17 => go 4 x1 x2 0 0 0 0 0 z17
 else rdI mX z 12 ((32 * x2) + x3) fun v18 => wrI mX z 28 x3 v18 fun z19 => go 3 x1 x2 (x3 + 1) 0 0 0 0 z19)
def qm_X13_way_4 (K : Nat) (go : Nat → Int32 → Int32 → Int32 → Int32 → Int32 → Int32 → Int32 → ow_MS → Option (Int32 × ow_MS)) (x1 : Int32) (x2 : Int32) (x3 : Int32) (x4 : Int32) (x5 : Int32) (x6 : Int32) (t0 : Int32) (z : ow_MS) : Option (Int32 × ow_MS) :=
 (if 5 ≤ x3 then go 5 x1 x2 0 0 0 0 0 z
 else cs0 (qe_X13_open K x1 1000 z) fun z20 => wrF z20 30 2 fun z21 => cs0 (qe_X13_tryMoves K 1000 x3 z21) fun z22 => go 4 x1 x2 (x3 + 1) 0 0 0 0 z22)
def qm_X13_way_5 (K : Nat) (go : Nat → Int32 → Int32 → Int32 → Int32 → Int32 → Int32 → Int32 → ow_MS → Option (Int32 × ow_MS)) (x1 : Int32) (x2 : Int32) (x3 : Int32) (x4 : Int32) (x5 : Int32) (x6 : Int32) (t0 : Int32) (z : ow_MS) : Option (Int32 × ow_MS) :=
 rdF z 24 fun v23 => (if v23 ≤ x3 then okZ 0 (wrF z 29 0 fun z24 => wrF z24 30 1 fun z25 => cs1 (qe_X13_visitsOf K 28 0 z25) fun v27 z26 => nzI 2 (go 6 x1 x2 (v27 / 2) 0 0 0 0 z26))
 else cs1 (qe_X13_isSame K 23 (32 * x3) 28 0 z) fun v29 z28 => (if v29 = 0 then go 5 x1 x2 (x3 + 1) 0 0 0 0 z28
 else some (1, z28)))
def qm_X13_way_6 (K : Nat) (go : Nat → Int32 → Int32 → Int32 → Int32 → Int32 → Int32 → Int32 → ow_MS → Option (Int32 × ow_MS)) (x1 : Int32) (x2 : Int32) (x3 : Int32) (x4 : Int32) (x5 : Int32) (x6 : Int32) (t0 : Int32) (z : ow_MS) : Option (Int32 × ow_MS) :=
 rdF z 24 fun v30 => (if v30 ≤ x4 then go 9 x1 x2 x3 x4 0 0 0 z
 else rdF z 29 fun v31 => (if v31 = 0 then cs1 (qe_X13_visitsOf K 23 (32 * x4) z) fun v33 z32 => nzI 2 ((if (x3 - (v33 / 2)) = (-1) then go 7 x1 x2 x3 x4 (x3 - (v33 / 2)) 0 0 z32
 else (if (x3 - (v33 / 2)) = 1 then go 7 x1 x2 x3 x4 (x3 - (v33 / 2)) 0 1 z32
 else (if (x3 - (v33 / 2)) = (-2) then go 7 x1 x2 x3 x4 (x3 - (v33 / 2)) 0 2 z32
 else (if (x3 - (v33 / 2)) = 2 then go 7 x1 x2 x3 x4 (x3 - (v33 / 2)) 0 3 z32
 else (if (x3 - (v33 / 2)) = 0 then go 7 x1 x2 x3 x4 (x3 - (v33 / 2)) 0 4 z32
 else go 7 x1 x2 x3 x4 (x3 - (v33 / 2)) 0 (-1) z32))))))
 else go 9 x1 x2 x3 x4 0 0 0 z))
def qm_X13_way_7 (K : Nat) (go : Nat → Int32 → Int32 → Int32 → Int32 → Int32 → Int32 → Int32 → ow_MS → Option (Int32 × ow_MS)) (x1 : Int32) (x2 : Int32) (x3 : Int32) (x4 : Int32) (x5 : Int32) (x6 : Int32) (t0 : Int32) (z : ow_MS) : Option (Int32 × ow_MS) :=
 (if t0 = (-1) then go 8 x1 x2 x3 x4 x5 t0 0 z
 else cs0 (qe_X13_unpack K 23 (32 * x4) 1000 z) fun z34 => cs0 (qe_X12_link K 1000 z34) fun z35 => cs0 (qe_X13_tryMoves K 1000 t0 z35) fun z36 => go 8 x1 x2 x3 x4 x5 t0 0 z36)
def qm_X13_way_8 (K : Nat) (go : Nat → Int32 → Int32 → Int32 → Int32 → Int32 → Int32 → Int32 → ow_MS → Option (Int32 × ow_MS)) (x1 : Int32) (x2 : Int32) (x3 : Int32) (x4 : Int32) (x5 : Int32) (x6 : Int32) (t0 : Int32) (z : ow_MS) : Option (Int32 × ow_MS) :=
 go 6 x1 x2 x3 (x4 + 1) 0 0 0 z
def qm_X13_way_9 (K : Nat) (go : Nat → Int32 → Int32 → Int32 → Int32 → Int32 → Int32 → Int32 → ow_MS → Option (Int32 × ow_MS)) (x1 : Int32) (x2 : Int32) (x3 : Int32) (x4 : Int32) (x5 : Int32) (x6 : Int32) (t0 : Int32) (z : ow_MS) : Option (Int32 × ow_MS) :=
 rdF z 29 fun v37 => (if v37 = 0 then some ((-1), z)
 else some (2, z))
def qb_X13_way (K : Nat) (go : Nat → Int32 → Int32 → Int32 → Int32 → Int32 → Int32 → Int32 → ow_MS → Option (Int32 × ow_MS)) (L : Nat) (x1 : Int32) (x2 : Int32) (x3 : Int32) (x4 : Int32) (x5 : Int32) (x6 : Int32) (t0 : Int32) (z : ow_MS) : Option (Int32 × ow_MS) := match L with
  | 0 => qm_X13_way_0 K go x1 x2 x3 x4 x5 x6 t0 z
  | 1 => qm_X13_way_1 K go x1 x2 x3 x4 x5 x6 t0 z
  | 2 => qm_X13_way_2 K go x1 x2 x3 x4 x5 x6 t0 z
  | 3 => qm_X13_way_3 K go x1 x2 x3 x4 x5 x6 t0 z
  | 4 => qm_X13_way_4 K go x1 x2 x3 x4 x5 x6 t0 z
  | 5 => qm_X13_way_5 K go x1 x2 x3 x4 x5 x6 t0 z
  | 6 => qm_X13_way_6 K go x1 x2 x3 x4 x5 x6 t0 z
  | 7 => qm_X13_way_7 K go x1 x2 x3 x4 x5 x6 t0 z
  | 8 => qm_X13_way_8 K go x1 x2 x3 x4 x5 x6 t0 z
  | 9 => qm_X13_way_9 K go x1 x2 x3 x4 x5 x6 t0 z
  | _ => none
def q_X13_way (K : Nat) : Nat → Nat → Int32 → Int32 → Int32 → Int32 → Int32 → Int32 → Int32 → ow_MS → Option (Int32 × ow_MS)
  | 0 => fun _ _ _ _ _ _ _ _ _ => none
  | k + 1 => qb_X13_way K (q_X13_way K k)
def qe_X13_way (K : Nat) (x1 : Int32) (x2 : Int32) (z : ow_MS) : Option (Int32 × ow_MS) := q_X13_way K K 0 x1 x2 0 0 0 0 0 z
abbrev wm_X13_way : List Cond := .code yX13_way cX13_way 7 (some .int) :: wM
theorem cd_X13_way : yX13_way.cls = RX13 ∧ yX13_way.cls ≠ "java/lang/invoke/MethodHandle" ∧ yX13_way.cls ≠ "java/lang/invoke/VarHandle" ∧ (parseMethodDescriptor yX13_way.desc).map (fun d => d.parameters.length) = some 2 := by decide +kernel
set_option maxHeartbeats 4000000 in
set_option maxRecDepth 100000 in
theorem km_X13_way (l : Launch) (D : va_G) (q : ow_Q5) (u : Nat → Nat) (hU : tw_inj mX u) (K : Nat) (x1 : Int32) (x2 : Int32)  (z z1 : ow_MS) (r : Int32) (hq : qe_X13_way K x1 x2 z = some (r, z1)) : Met l yX13_way wm_X13_way ({ frames := 8, cells := 0, slots := 0, locals := 208 } : Room) (va_Pc [.ref (u 0), .int x1, .int x2] (mw_pre D q u z)) (va_Qi (fun x (_ : Unit) => x = r) (fun _ t => va_P D vwCl (tw mX q u z1) t.heap) (tw_A mX u)) 0 0 (tw_A mX u) := by
  refine Met.ofW (cc := cX13_way) (maxL := 7) (ret := (some .int)) (by decide) rfl ?_
  intro p e s m args below meth c s₁ B hml hv
  obtain ⟨rfl, hP, hK, hN⟩ := hv
  have hx := B.exec
  have hb := B.bytes
  have hr := B.returns
  have hts := atoms_spec (ws := wm_X13_way) B.pre
  have hT : ∀ w ∈ wM, w.before ([.ref (u 0), .int x1, .int x2] : List Value).toArray s = true := fun w h => hts w (List.mem_cons_of_mem _ h)
  have hown : s.vm.findClass RX13 = some m.cls := findClass_of_methodNamed B.named
  have hlocks := B.notSynchronized
  have hM : tw_M D vwCl mX q s.heap u z s.heap [] := ⟨hP, va_S.rf⟩
  have hl := lv_entry ([.ref (u 0), .int x1, .int x2]) (n := 7) (Nat.le_of_ble_eq_true rfl)
  rw [lg_entry_eq]
  generalize (lg_sl ([.ref (u 0), .int x1, .int x2]) ++ List.replicate (7 - (lg_sl ([.ref (u 0), .int x1, .int x2])).length) Slot.unset).toArray = ls at hl ⊢
  have hl : lv_has ls 7 [(0, .ref (u 0)), (1, .int x1), (2, .int x2)] := hl
  refine ow_named (fun QQ hQQ => ?_)
  generalize ([.ref (u 0), .int x1, .int x2] : List Value).toArray = args at hts hT hQQ ⊢
  have key : ∀ k : Nat, (∀ (x1 : Int32) (x2 : Int32) (x3 : Int32) (x4 : Int32) (x5 : Int32) (x6 : Int32) (t0 : Int32) (z : ow_MS) (H : Heap) (locs : List Loc) (ls : Array Slot), tw_M D vwCl mX q s.heap u z H locs → lv_has ls 7 [(0, .ref (u 0)), (1, .int x1), (2, .int x2)] → q_X13_way K k 0 x1 x2 x3 x4 x5 x6 t0 z = some (r, z1) → W p l e ({ frames := 8, cells := 0, slots := 0, locals := 208 } : Room) s m args below meth c H locs 0 0 QQ (F0 m 0 ls [])) ∧ (∀ (x1 : Int32) (x2 : Int32) (x3 : Int32) (x4 : Int32) (x5 : Int32) (x6 : Int32) (t0 : Int32) (z : ow_MS) (H : Heap) (locs : List Loc) (ls : Array Slot), tw_M D vwCl mX q s.heap u z H locs → lv_has ls 7 [(0, .ref (u 0)), (1, .int x1), (2, .int x2)] → q_X13_way K k 1 x1 x2 x3 x4 x5 x6 t0 z = some (r, z1) → W p l e ({ frames := 8, cells := 0, slots := 0, locals := 208 } : Room) s m args below meth c H locs 0 0 QQ (F0 m 21 ls [])) ∧ (∀ (x1 : Int32) (x2 : Int32) (x3 : Int32) (x4 : Int32) (x5 : Int32) (x6 : Int32) (t0 : Int32) (z : ow_MS) (H : Heap) (locs : List Loc) (ls : Array Slot), tw_M D vwCl mX q s.heap u z H locs → lv_has ls 7 [(0, .ref (u 0)), (1, .int x1), (2, .int x2)] → q_X13_way K k 2 x1 x2 x3 x4 x5 x6 t0 z = some (r, z1) → W p l e ({ frames := 8, cells := 0, slots := 0, locals := 208 } : Room) s m args below meth c H locs 0 0 QQ (F0 m 59 ls [])) ∧ (∀ (x1 : Int32) (x2 : Int32) (x3 : Int32) (x4 : Int32) (x5 : Int32) (x6 : Int32) (t0 : Int32) (z : ow_MS) (H : Heap) (locs : List Loc) (ls : Array Slot), tw_M D vwCl mX q s.heap u z H locs → lv_has ls 7 [(0, .ref (u 0)), (1, .int x1), (2, .int x2), (3, .int x3)] → q_X13_way K k 3 x1 x2 x3 x4 x5 x6 t0 z = some (r, z1) → W p l e ({ frames := 8, cells := 0, slots := 0, locals := 208 } : Room) s m args below meth c H locs 0 0 QQ (F0 m 78 ls [])) ∧ (∀ (x1 : Int32) (x2 : Int32) (x3 : Int32) (x4 : Int32) (x5 : Int32) (x6 : Int32) (t0 : Int32) (z : ow_MS) (H : Heap) (locs : List Loc) (ls : Array Slot), tw_M D vwCl mX q s.heap u z H locs → lv_has ls 7 [(0, .ref (u 0)), (1, .int x1), (2, .int x2), (3, .int x3)] → q_X13_way K k 4 x1 x2 x3 x4 x5 x6 t0 z = some (r, z1) → W p l e ({ frames := 8, cells := 0, slots := 0, locals := 208 } : Room) s m args below meth c H locs 0 0 QQ (F0 m 121 ls [])) ∧ (∀ (x1 : Int32) (x2 : Int32) (x3 : Int32) (x4 : Int32) (x5 : Int32) (x6 : Int32) (t0 : Int32) (z : ow_MS) (H : Heap) (locs : List Loc) (ls : Array Slot), tw_M D vwCl mX q s.heap u z H locs → lv_has ls 7 [(0, .ref (u 0)), (1, .int x1), (2, .int x2), (3, .int x3)] → q_X13_way K k 5 x1 x2 x3 x4 x5 x6 t0 z = some (r, z1) → W p l e ({ frames := 8, cells := 0, slots := 0, locals := 208 } : Room) s m args below meth c H locs 0 0 QQ (F0 m 157 ls [])) ∧ (∀ (x1 : Int32) (x2 : Int32) (x3 : Int32) (x4 : Int32) (x5 : Int32) (x6 : Int32) (t0 : Int32) (z : ow_MS) (H : Heap) (locs : List Loc) (ls : Array Slot), tw_M D vwCl mX q s.heap u z H locs → lv_has ls 7 [(0, .ref (u 0)), (1, .int x1), (2, .int x2), (3, .int x3), (4, .int x4)] → q_X13_way K k 6 x1 x2 x3 x4 x5 x6 t0 z = some (r, z1) → W p l e ({ frames := 8, cells := 0, slots := 0, locals := 208 } : Room) s m args below meth c H locs 0 0 QQ (F0 m 216 ls [])) ∧ (∀ (x1 : Int32) (x2 : Int32) (x3 : Int32) (x4 : Int32) (x5 : Int32) (x6 : Int32) (t0 : Int32) (z : ow_MS) (H : Heap) (locs : List Loc) (ls : Array Slot), tw_M D vwCl mX q s.heap u z H locs → lv_has ls 7 [(0, .ref (u 0)), (1, .int x1), (2, .int x2), (3, .int x3), (4, .int x4), (5, .int x5)] → q_X13_way K k 7 x1 x2 x3 x4 x5 x6 t0 z = some (r, z1) → W p l e ({ frames := 8, cells := 0, slots := 0, locals := 208 } : Room) s m args below meth c H locs 0 0 QQ (F0 m 301 ls [.int t0])) ∧ (∀ (x1 : Int32) (x2 : Int32) (x3 : Int32) (x4 : Int32) (x5 : Int32) (x6 : Int32) (t0 : Int32) (z : ow_MS) (H : Heap) (locs : List Loc) (ls : Array Slot), tw_M D vwCl mX q s.heap u z H locs → lv_has ls 7 [(0, .ref (u 0)), (1, .int x1), (2, .int x2), (3, .int x3), (4, .int x4), (5, .int x5), (6, .int x6)] → q_X13_way K k 8 x1 x2 x3 x4 x5 x6 t0 z = some (r, z1) → W p l e ({ frames := 8, cells := 0, slots := 0, locals := 208 } : Room) s m args below meth c H locs 0 0 QQ (F0 m 342 ls [])) ∧ (∀ (x1 : Int32) (x2 : Int32) (x3 : Int32) (x4 : Int32) (x5 : Int32) (x6 : Int32) (t0 : Int32) (z : ow_MS) (H : Heap) (locs : List Loc) (ls : Array Slot), tw_M D vwCl mX q s.heap u z H locs → lv_has ls 7 [(0, .ref (u 0)), (1, .int x1), (2, .int x2), (3, .int x3), (4, .int x4)] → q_X13_way K k 9 x1 x2 x3 x4 x5 x6 t0 z = some (r, z1) → W p l e ({ frames := 8, cells := 0, slots := 0, locals := 208 } : Room) s m args below meth c H locs 0 0 QQ (F0 m 348 ls [])) := by
    intro k
    induction k with
    | zero => exact ⟨fun _ _ _ _ _ _ _ _ _ _ _  _ _ hq => tw_no hq, fun _ _ _ _ _ _ _ _ _ _ _  _ _ hq => tw_no hq, fun _ _ _ _ _ _ _ _ _ _ _  _ _ hq => tw_no hq, fun _ _ _ _ _ _ _ _ _ _ _  _ _ hq => tw_no hq, fun _ _ _ _ _ _ _ _ _ _ _  _ _ hq => tw_no hq, fun _ _ _ _ _ _ _ _ _ _ _  _ _ hq => tw_no hq, fun _ _ _ _ _ _ _ _ _ _ _  _ _ hq => tw_no hq, fun _ _ _ _ _ _ _ _ _ _ _  _ _ hq => tw_no hq, fun _ _ _ _ _ _ _ _ _ _ _  _ _ hq => tw_no hq, fun _ _ _ _ _ _ _ _ _ _ _  _ _ hq => tw_no hq⟩
    | succ k ih =>
      obtain ⟨ih_0, ih_1, ih_2, ih_3, ih_4, ih_5, ih_6, ih_7, ih_8, ih_9⟩ := ih
      refine ⟨?_, ?_, ?_, ?_, ?_, ?_, ?_, ?_, ?_, ?_⟩
      · intro x1 x2 x3 x4 x5 x6 t0 z H locs ls  hM hl hq
        have hq : qm_X13_way_0 K (q_X13_way K k) x1 x2 x3 x4 x5 x6 t0 z = some (r, z1) := hq
        unfold qm_X13_way_0 at hq
        refine lv_aload_n hx hb dmX13_way_0 rfl (lv_at hl 0 rfl) ?_
        refine lv_iconst (v := 0) hx hb dmX13_way_1 (by decide) ?_
        refine mp13_1 hx hb hT hown hK hM hU hq dmX13_way_2 (fun z1 H locs hM hq => ?_)
        refine lv_aload_n hx hb dmX13_way_5 rfl (lv_at hl 0 rfl) ?_
        refine lv_iload_n hx hb dmX13_way_6 rfl (lv_at hl 1 rfl) ?_
        obtain ⟨v3, z2, hcq, hq⟩ := tw_cl1 hq
        refine tw_cali hM (va_runV (As := [.int x1]) (rest := []) ⟨hx, hb, hml, hown, hts⟩ (km_X13_has l D q u hU K x1 z1 z2 v3 hcq) (cwV 1 hts (tw_gV wM_good wq_127 wq_128 wq_129 wq_61 wq_90) rfl rfl rfl cd_X13_has ⟨(Nat.le_of_ble_eq_true rfl), (Nat.le_of_ble_eq_true rfl)⟩) (mw_preV hK hN hM mo_0 rfl) rfl rfl hl.1 rfl (lv_room (Nat.le_of_ble_eq_true rfl)) dmX13_way_7 ⟨(Nat.le_of_ble_eq_true rfl), (Nat.le_of_ble_eq_true rfl)⟩) (fun H locs hM => ?_)
        refine lv_if_eq (tgt := 21) hx hb dmX13_way_10 (by decide) (fun hc => ?_) (fun hc => ?_)
        · have hq := tw_it hq hc
          exact ih_1 x1 x2 0 0 0 0 0 z2 H locs ls hM (lv_sub hl [0, 1, 2] rfl) hq
        · have hq := tw_if hq hc
          refine lv_aload_n hx hb dmX13_way_13 rfl (lv_at hl 0 rfl) ?_
          refine lv_iload_n hx hb dmX13_way_14 rfl (lv_at hl 2 rfl) ?_
          obtain ⟨v5, z4, hcq, hq⟩ := tw_cl1 hq
          refine tw_cali hM (va_runV (As := [.int x2]) (rest := []) ⟨hx, hb, hml, hown, hts⟩ (km_X13_has l D q u hU K x2 z2 z4 v5 hcq) (cwV 1 hts (tw_gV wM_good wq_127 wq_128 wq_129 wq_61 wq_90) rfl rfl rfl cd_X13_has ⟨(Nat.le_of_ble_eq_true rfl), (Nat.le_of_ble_eq_true rfl)⟩) (mw_preV hK hN hM mo_0 rfl) rfl rfl hl.1 rfl (lv_room (Nat.le_of_ble_eq_true rfl)) dmX13_way_15 ⟨(Nat.le_of_ble_eq_true rfl), (Nat.le_of_ble_eq_true rfl)⟩) (fun H locs hM => ?_)
          refine lv_if_ne (tgt := 27) hx hb dmX13_way_18 (by decide) (fun hc => ?_) (fun hc => ?_)
          · have hq := tw_if hq hc
            refine lv_aload_n hx hb dmX13_way_27 rfl (lv_at hl 0 rfl) ?_
            refine mg13_110 hx hb hT hown hK hM dmX13_way_28 ?_
            refine lv_bipush (v := 32) hx hb dmX13_way_31 (by decide) ?_
            refine lv_iload_n hx hb dmX13_way_33 rfl (lv_at hl 1 rfl) ?_
            refine lv_imul hx hb dmX13_way_34 ?_
            obtain ⟨v7, z6, hcq, hq⟩ := tw_cl1 hq
            refine tw_cali hM (va_runS (As := [.ref (u 12), .int (32 * x1)]) (rest := []) ⟨hx, hb, hml, hown, hts⟩ (km_X13_visitsOf l D q u hU K 12 (32 * x1) mr_12 z4 z6 v7 hcq) (va_cwS 2 hts (tw_gS wM_good wq_71 wq_72 wq_61 wq_70) rfl rfl rfl cd_X13_visitsOf ⟨(Nat.le_of_ble_eq_true rfl), (Nat.le_of_ble_eq_true rfl)⟩) (mw_preS hK hN hM) rfl rfl hl.1 rfl (lv_room (Nat.le_of_ble_eq_true rfl)) dmX13_way_35 ⟨(Nat.le_of_ble_eq_true rfl), (Nat.le_of_ble_eq_true rfl)⟩) (fun H locs hM => ?_)
            refine lv_bipush (v := 8) hx hb dmX13_way_38 (by decide) ?_
            refine lv_icmp_gt (tgt := 59) hx hb dmX13_way_40 (by decide) (fun hc => ?_) (fun hc => ?_)
            · have hq := tw_it hq hc
              exact ih_2 x1 x2 0 0 0 0 0 z6 H locs ls hM (lv_sub hl [0, 1, 2] rfl) hq
            · have hq := tw_if hq hc
              refine lv_aload_n hx hb dmX13_way_43 rfl (lv_at hl 0 rfl) ?_
              refine mg13_110 hx hb hT hown hK hM dmX13_way_44 ?_
              refine lv_bipush (v := 32) hx hb dmX13_way_47 (by decide) ?_
              refine lv_iload_n hx hb dmX13_way_49 rfl (lv_at hl 2 rfl) ?_
              refine lv_imul hx hb dmX13_way_50 ?_
              obtain ⟨v9, z8, hcq, hq⟩ := tw_cl1 hq
              refine tw_cali hM (va_runS (As := [.ref (u 12), .int (32 * x2)]) (rest := []) ⟨hx, hb, hml, hown, hts⟩ (km_X13_visitsOf l D q u hU K 12 (32 * x2) mr_12 z6 z8 v9 hcq) (va_cwS 2 hts (tw_gS wM_good wq_71 wq_72 wq_61 wq_70) rfl rfl rfl cd_X13_visitsOf ⟨(Nat.le_of_ble_eq_true rfl), (Nat.le_of_ble_eq_true rfl)⟩) (mw_preS hK hN hM) rfl rfl hl.1 rfl (lv_room (Nat.le_of_ble_eq_true rfl)) dmX13_way_51 ⟨(Nat.le_of_ble_eq_true rfl), (Nat.le_of_ble_eq_true rfl)⟩) (fun H locs hM => ?_)
              refine lv_bipush (v := 8) hx hb dmX13_way_54 (by decide) ?_
              refine lv_icmp_le (tgt := 65) hx hb dmX13_way_56 (by decide) (fun hc => ?_) (fun hc => ?_)
              · have hq := tw_it hq hc
                refine lv_aload_n hx hb dmX13_way_65 rfl (lv_at hl 0 rfl) ?_
                refine lv_iload_n hx hb dmX13_way_66 rfl (lv_at hl 1 rfl) ?_
                refine lv_iload_n hx hb dmX13_way_67 rfl (lv_at hl 2 rfl) ?_
                obtain ⟨v11, z10, hcq, hq⟩ := tw_cl1 hq
                refine tw_cali hM (va_runV (As := [.int x1, .int x2]) (rest := []) ⟨hx, hb, hml, hown, hts⟩ (km_X13_alike l D q u hU K x1 x2 z8 z10 v11 hcq) (cwV 2 hts (tw_gV wM_good wq_252 wq_253 wq_254 wq_61 wq_151) rfl rfl rfl cd_X13_alike ⟨(Nat.le_of_ble_eq_true rfl), (Nat.le_of_ble_eq_true rfl)⟩) (mw_preV hK hN hM mo_0 rfl) rfl rfl hl.1 rfl (lv_room (Nat.le_of_ble_eq_true rfl)) dmX13_way_68 ⟨(Nat.le_of_ble_eq_true rfl), (Nat.le_of_ble_eq_true rfl)⟩) (fun H locs hM => ?_)
                refine lv_if_eq (tgt := 76) hx hb dmX13_way_71 (by decide) (fun hc => ?_) (fun hc => ?_)
                · have hq := tw_it hq hc
                  refine lv_iconst (v := 0) hx hb dmX13_way_76 (by decide) ?_
                  refine lv_istore_n (lv' := [(3, .int 0), (0, .ref (u 0)), (1, .int x1), (2, .int x2)]) hx hb dmX13_way_77 rfl hl (by decide) rfl (fun ls hl => ?_)
                  exact ih_3 x1 x2 0 0 0 0 0 z10 H locs ls hM (lv_sub hl [1, 2, 3, 0] rfl) hq
                · have hq := tw_if hq hc
                  refine lv_iconst (v := 0) hx hb dmX13_way_74 (by decide) ?_
                  exact mw_iret hx hb hr hlocks hM hq hQQ dmX13_way_75
              · have hq := tw_if hq hc
                exact ih_2 x1 x2 0 0 0 0 0 z8 H locs ls hM (lv_sub hl [0, 1, 2] rfl) hq
          · have hq := tw_it hq hc
            exact ih_1 x1 x2 0 0 0 0 0 z4 H locs ls hM (lv_sub hl [0, 1, 2] rfl) hq
      · intro x1 x2 x3 x4 x5 x6 t0 z H locs ls  hM hl hq
        have hq : qm_X13_way_1 K (q_X13_way K k) x1 x2 x3 x4 x5 x6 t0 z = some (r, z1) := hq
        unfold qm_X13_way_1 at hq
        refine lv_aload_n hx hb dmX13_way_21 rfl (lv_at hl 0 rfl) ?_
        refine lv_iconst (v := 1) hx hb dmX13_way_22 (by decide) ?_
        obtain ⟨v13, z12, hcq, hq⟩ := tw_cl1 hq
        refine tw_cali hM (va_runV (As := [.int 1]) (rest := []) ⟨hx, hb, hml, hown, hts⟩ (km_X13_fails l D q u hU K 1 z z12 v13 hcq) (cwV 1 hts (tw_gV wM_good wq_103 wq_104 wq_105 wq_61 wq_50) rfl rfl rfl cd_X13_fails ⟨(Nat.le_of_ble_eq_true rfl), (Nat.le_of_ble_eq_true rfl)⟩) (mw_preV hK hN hM mo_0 rfl) rfl rfl hl.1 rfl (lv_room (Nat.le_of_ble_eq_true rfl)) dmX13_way_23 ⟨(Nat.le_of_ble_eq_true rfl), (Nat.le_of_ble_eq_true rfl)⟩) (fun H locs hM => ?_)
        exact mw_iret hx hb hr hlocks hM hq hQQ dmX13_way_26
      · intro x1 x2 x3 x4 x5 x6 t0 z H locs ls  hM hl hq
        have hq : qm_X13_way_2 K (q_X13_way K k) x1 x2 x3 x4 x5 x6 t0 z = some (r, z1) := hq
        unfold qm_X13_way_2 at hq
        refine lv_aload_n hx hb dmX13_way_59 rfl (lv_at hl 0 rfl) ?_
        refine lv_iconst (v := 2) hx hb dmX13_way_60 (by decide) ?_
        obtain ⟨v15, z14, hcq, hq⟩ := tw_cl1 hq
        refine tw_cali hM (va_runV (As := [.int 2]) (rest := []) ⟨hx, hb, hml, hown, hts⟩ (km_X13_fails l D q u hU K 2 z z14 v15 hcq) (cwV 1 hts (tw_gV wM_good wq_103 wq_104 wq_105 wq_61 wq_50) rfl rfl rfl cd_X13_fails ⟨(Nat.le_of_ble_eq_true rfl), (Nat.le_of_ble_eq_true rfl)⟩) (mw_preV hK hN hM mo_0 rfl) rfl rfl hl.1 rfl (lv_room (Nat.le_of_ble_eq_true rfl)) dmX13_way_61 ⟨(Nat.le_of_ble_eq_true rfl), (Nat.le_of_ble_eq_true rfl)⟩) (fun H locs hM => ?_)
        exact mw_iret hx hb hr hlocks hM hq hQQ dmX13_way_64
      · intro x1 x2 x3 x4 x5 x6 t0 z H locs ls  hM hl hq
        have hq : qm_X13_way_3 K (q_X13_way K k) x1 x2 x3 x4 x5 x6 t0 z = some (r, z1) := hq
        unfold qm_X13_way_3 at hq
        refine lv_iload_n hx hb dmX13_way_78 rfl (lv_at hl 3 rfl) ?_
        refine lv_aload_n hx hb dmX13_way_79 rfl (lv_at hl 0 rfl) ?_
        refine mg13_110 hx hb hT hown hK hM dmX13_way_80 ?_
        refine lv_bipush (v := 32) hx hb dmX13_way_83 (by decide) ?_
        refine lv_iload_n hx hb dmX13_way_85 rfl (lv_at hl 2 rfl) ?_
        refine lv_imul hx hb dmX13_way_86 ?_
        refine tw_iald mX_ok hx hb hK hM mr_12 hq dmX13_way_87 (fun v16 hq => ?_)
        refine lv_icmp_gt (tgt := 114) hx hb dmX13_way_88 (by decide) (fun hc => ?_) (fun hc => ?_)
        · have hq := tw_it hq hc
          refine lv_aload_n hx hb dmX13_way_114 rfl (lv_at hl 0 rfl) ?_
          refine lv_iconst (v := 0) hx hb dmX13_way_115 (by decide) ?_
          refine mp13_475 hx hb hT hown hK hM hU hq dmX13_way_116 (fun z17 H locs hM hq => ?_)
          refine lv_iconst (v := 0) hx hb dmX13_way_119 (by decide) ?_
          refine lv_istore_n (lv' := [(3, .int 0), (0, .ref (u 0)), (1, .int x1), (2, .int x2)]) hx hb dmX13_way_120 rfl hl (by decide) rfl (fun ls hl => ?_)
          exact ih_4 x1 x2 0 0 0 0 0 z17 H locs ls hM (lv_sub hl [1, 2, 3, 0] rfl) hq
        · have hq := tw_if hq hc
          refine lv_aload_n hx hb dmX13_way_91 rfl (lv_at hl 0 rfl) ?_
          refine mg13_152 hx hb hT hown hK hM dmX13_way_92 ?_
          refine lv_iload_n hx hb dmX13_way_95 rfl (lv_at hl 3 rfl) ?_
          refine lv_aload_n hx hb dmX13_way_96 rfl (lv_at hl 0 rfl) ?_
          refine mg13_110 hx hb hT hown hK hM dmX13_way_97 ?_
          refine lv_bipush (v := 32) hx hb dmX13_way_100 (by decide) ?_
          refine lv_iload_n hx hb dmX13_way_102 rfl (lv_at hl 2 rfl) ?_
          refine lv_imul hx hb dmX13_way_103 ?_
          refine lv_iload_n hx hb dmX13_way_104 rfl (lv_at hl 3 rfl) ?_
          refine lv_iadd hx hb dmX13_way_105 ?_
          refine tw_iald mX_ok hx hb hK hM mr_12 hq dmX13_way_106 (fun v18 hq => ?_)
          refine tw_iast mX_ok hU hx hb hK hM mr_28 hq dmX13_way_107 (fun z19 H locs hM hq => ?_)
          refine lv_iinc (v := (x3 + 1)) (lv' := [(3, .int (x3 + 1)), (0, .ref (u 0)), (1, .int x1), (2, .int x2)]) hx hb dmX13_way_108 hl (k := 3) rfl rfl (by decide) rfl (fun ls hl => ?_)
          refine lv_goto (tgt := 78) hx hb dmX13_way_111 (by decide) ?_
          exact ih_3 x1 x2 (x3 + 1) 0 0 0 0 z19 H locs ls hM (lv_sub hl [1, 2, 3, 0] rfl) hq
      · intro x1 x2 x3 x4 x5 x6 t0 z H locs ls  hM hl hq
        have hq : qm_X13_way_4 K (q_X13_way K k) x1 x2 x3 x4 x5 x6 t0 z = some (r, z1) := hq
        unfold qm_X13_way_4 at hq
        refine lv_iload_n hx hb dmX13_way_121 rfl (lv_at hl 3 rfl) ?_
        refine lv_iconst (v := 5) hx hb dmX13_way_122 (by decide) ?_
        refine lv_icmp_ge (tgt := 155) hx hb dmX13_way_123 (by decide) (fun hc => ?_) (fun hc => ?_)
        · have hq := tw_it hq hc
          refine lv_iconst (v := 0) hx hb dmX13_way_155 (by decide) ?_
          refine lv_istore_n (lv' := [(3, .int 0), (0, .ref (u 0)), (1, .int x1), (2, .int x2)]) hx hb dmX13_way_156 rfl hl (by decide) rfl (fun ls hl => ?_)
          exact ih_5 x1 x2 0 0 0 0 0 z H locs ls hM (lv_sub hl [1, 2, 3, 0] rfl) hq
        · have hq := tw_if hq hc
          refine lv_aload_n hx hb dmX13_way_126 rfl (lv_at hl 0 rfl) ?_
          refine lv_iload_n hx hb dmX13_way_127 rfl (lv_at hl 1 rfl) ?_
          refine lv_aload_n hx hb dmX13_way_128 rfl (lv_at hl 0 rfl) ?_
          refine mg13_114 hx hb hT hown hK hM dmX13_way_129 ?_
          obtain ⟨z20, hcq, hq⟩ := tw_cl0 hq
          refine tw_calv hM (va_runV (As := [.int x1, .ref (u 1000)]) (rest := []) ⟨hx, hb, hml, hown, hts⟩ (km_X13_open l D q u hU K x1 1000 mw_n1 z z20 hcq) (cwV 2 hts (tw_gV wM_good wq_138 wq_139 wq_140 wq_61 wq_136) rfl rfl rfl cd_X13_open ⟨(Nat.le_of_ble_eq_true rfl), (Nat.le_of_ble_eq_true rfl)⟩) (mw_preV hK hN hM mo_0 rfl) rfl rfl hl.1 rfl (lv_room (Nat.le_of_ble_eq_true rfl)) dmX13_way_132 ⟨(Nat.le_of_ble_eq_true rfl), (Nat.le_of_ble_eq_true rfl)⟩) (fun H locs hM => ?_)
          refine lv_aload_n hx hb dmX13_way_135 rfl (lv_at hl 0 rfl) ?_
          refine lv_iconst (v := 2) hx hb dmX13_way_136 (by decide) ?_
          refine mp13_465 hx hb hT hown hK hM hU hq dmX13_way_137 (fun z21 H locs hM hq => ?_)
          refine lv_aload_n hx hb dmX13_way_140 rfl (lv_at hl 0 rfl) ?_
          refine lv_aload_n hx hb dmX13_way_141 rfl (lv_at hl 0 rfl) ?_
          refine mg13_114 hx hb hT hown hK hM dmX13_way_142 ?_
          refine lv_iload_n hx hb dmX13_way_145 rfl (lv_at hl 3 rfl) ?_
          obtain ⟨z22, hcq, hq⟩ := tw_cl0 hq
          refine tw_calv hM (va_runV (As := [.ref (u 1000), .int x3]) (rest := []) ⟨hx, hb, hml, hown, hts⟩ (km_X13_tryMoves l D q u hU K 1000 x3 mw_n1 z21 z22 hcq) (cwV 2 hts (tw_gV wM_good wq_243 wq_244 wq_245 wq_61 wq_242) rfl rfl rfl cd_X13_tryMoves ⟨(Nat.le_of_ble_eq_true rfl), (Nat.le_of_ble_eq_true rfl)⟩) (mw_preV hK hN hM mo_0 rfl) rfl rfl hl.1 rfl (lv_room (Nat.le_of_ble_eq_true rfl)) dmX13_way_146 ⟨(Nat.le_of_ble_eq_true rfl), (Nat.le_of_ble_eq_true rfl)⟩) (fun H locs hM => ?_)
          refine lv_iinc (v := (x3 + 1)) (lv' := [(3, .int (x3 + 1)), (0, .ref (u 0)), (1, .int x1), (2, .int x2)]) hx hb dmX13_way_149 hl (k := 3) rfl rfl (by decide) rfl (fun ls hl => ?_)
          refine lv_goto (tgt := 121) hx hb dmX13_way_152 (by decide) ?_
          exact ih_4 x1 x2 (x3 + 1) 0 0 0 0 z22 H locs ls hM (lv_sub hl [1, 2, 3, 0] rfl) hq
      · intro x1 x2 x3 x4 x5 x6 t0 z H locs ls  hM hl hq
        have hq : qm_X13_way_5 K (q_X13_way K k) x1 x2 x3 x4 x5 x6 t0 z = some (r, z1) := hq
        unfold qm_X13_way_5 at hq
        refine lv_iload_n hx hb dmX13_way_157 rfl (lv_at hl 3 rfl) ?_
        refine lv_aload_n hx hb dmX13_way_158 rfl (lv_at hl 0 rfl) ?_
        refine mg13_475 hx hb hT hown hK hM hq dmX13_way_159 (fun v23 hq => ?_)
        refine lv_icmp_ge (tgt := 192) hx hb dmX13_way_162 (by decide) (fun hc => ?_) (fun hc => ?_)
        · have hq := tw_it hq hc
          refine lv_aload_n hx hb dmX13_way_192 rfl (lv_at hl 0 rfl) ?_
          refine lv_iconst (v := 0) hx hb dmX13_way_193 (by decide) ?_
          obtain ⟨hz, hq⟩ := tw_gZ hq
          refine mp13_471 hx hb hT hown hK hM hU hz hq dmX13_way_194 (fun z24 H locs hM hq => ?_)
          refine lv_aload_n hx hb dmX13_way_197 rfl (lv_at hl 0 rfl) ?_
          refine lv_iconst (v := 1) hx hb dmX13_way_198 (by decide) ?_
          refine mp13_465 hx hb hT hown hK hM hU hq dmX13_way_199 (fun z25 H locs hM hq => ?_)
          refine lv_aload_n hx hb dmX13_way_202 rfl (lv_at hl 0 rfl) ?_
          refine mg13_152 hx hb hT hown hK hM dmX13_way_203 ?_
          refine lv_iconst (v := 0) hx hb dmX13_way_206 (by decide) ?_
          obtain ⟨v27, z26, hcq, hq⟩ := tw_cl1 hq
          refine tw_cali hM (va_runS (As := [.ref (u 28), .int 0]) (rest := []) ⟨hx, hb, hml, hown, hts⟩ (km_X13_visitsOf l D q u hU K 28 0 mr_28 z25 z26 v27 hcq) (va_cwS 2 hts (tw_gS wM_good wq_71 wq_72 wq_61 wq_70) rfl rfl rfl cd_X13_visitsOf ⟨(Nat.le_of_ble_eq_true rfl), (Nat.le_of_ble_eq_true rfl)⟩) (mw_preS hK hN hM) rfl rfl hl.1 rfl (lv_room (Nat.le_of_ble_eq_true rfl)) dmX13_way_207 ⟨(Nat.le_of_ble_eq_true rfl), (Nat.le_of_ble_eq_true rfl)⟩) (fun H locs hM => ?_)
          refine lv_iconst (v := 2) hx hb dmX13_way_210 (by decide) ?_
          obtain ⟨hz, hq⟩ := tw_nzI hq
          refine lv_idiv hx hb dmX13_way_211 hz ?_
          refine lv_istore_n (lv' := [(3, .int (v27 / 2)), (0, .ref (u 0)), (1, .int x1), (2, .int x2)]) hx hb dmX13_way_212 rfl hl (by decide) rfl (fun ls hl => ?_)
          refine lv_iconst (v := 0) hx hb dmX13_way_213 (by decide) ?_
          refine lv_istore (lv' := [(4, .int 0), (3, .int (v27 / 2)), (0, .ref (u 0)), (1, .int x1), (2, .int x2)]) hx hb dmX13_way_214 hl (by decide) rfl (fun ls hl => ?_)
          exact ih_6 x1 x2 (v27 / 2) 0 0 0 0 z26 H locs ls hM (lv_sub hl [2, 3, 4, 1, 0] rfl) hq
        · have hq := tw_if hq hc
          refine lv_aload_n hx hb dmX13_way_165 rfl (lv_at hl 0 rfl) ?_
          refine mg13_143 hx hb hT hown hK hM dmX13_way_166 ?_
          refine lv_bipush (v := 32) hx hb dmX13_way_169 (by decide) ?_
          refine lv_iload_n hx hb dmX13_way_171 rfl (lv_at hl 3 rfl) ?_
          refine lv_imul hx hb dmX13_way_172 ?_
          refine lv_aload_n hx hb dmX13_way_173 rfl (lv_at hl 0 rfl) ?_
          refine mg13_152 hx hb hT hown hK hM dmX13_way_174 ?_
          refine lv_iconst (v := 0) hx hb dmX13_way_177 (by decide) ?_
          obtain ⟨v29, z28, hcq, hq⟩ := tw_cl1 hq
          refine tw_cali hM (va_runS (As := [.ref (u 23), .int (32 * x3), .ref (u 28), .int 0]) (rest := []) ⟨hx, hb, hml, hown, hts⟩ (km_X13_isSame l D q u hU K 23 (32 * x3) 28 0 mr_23 mr_28 z z28 v29 hcq) (va_cwS 4 hts (tw_gS wM_good wq_149 wq_150 wq_61 wq_74) rfl rfl rfl cd_X13_isSame ⟨(Nat.le_of_ble_eq_true rfl), (Nat.le_of_ble_eq_true rfl)⟩) (mw_preS hK hN hM) rfl rfl hl.1 rfl (lv_room (Nat.le_of_ble_eq_true rfl)) dmX13_way_178 ⟨(Nat.le_of_ble_eq_true rfl), (Nat.le_of_ble_eq_true rfl)⟩) (fun H locs hM => ?_)
          refine lv_if_eq (tgt := 186) hx hb dmX13_way_181 (by decide) (fun hc => ?_) (fun hc => ?_)
          · have hq := tw_it hq hc
            refine lv_iinc (v := (x3 + 1)) (lv' := [(3, .int (x3 + 1)), (0, .ref (u 0)), (1, .int x1), (2, .int x2)]) hx hb dmX13_way_186 hl (k := 3) rfl rfl (by decide) rfl (fun ls hl => ?_)
            refine lv_goto (tgt := 157) hx hb dmX13_way_189 (by decide) ?_
            exact ih_5 x1 x2 (x3 + 1) 0 0 0 0 z28 H locs ls hM (lv_sub hl [1, 2, 3, 0] rfl) hq
          · have hq := tw_if hq hc
            refine lv_iconst (v := 1) hx hb dmX13_way_184 (by decide) ?_
            exact mw_iret hx hb hr hlocks hM hq hQQ dmX13_way_185
      · intro x1 x2 x3 x4 x5 x6 t0 z H locs ls  hM hl hq
        have hq : qm_X13_way_6 K (q_X13_way K k) x1 x2 x3 x4 x5 x6 t0 z = some (r, z1) := hq
        unfold qm_X13_way_6 at hq
        refine lv_iload hx hb dmX13_way_216 (lv_at hl 4 rfl) ?_
        refine lv_aload_n hx hb dmX13_way_218 rfl (lv_at hl 0 rfl) ?_
        refine mg13_475 hx hb hT hown hK hM hq dmX13_way_219 (fun v30 hq => ?_)
        refine lv_icmp_ge (tgt := 348) hx hb dmX13_way_222 (by decide) (fun hc => ?_) (fun hc => ?_)
        · have hq := tw_it hq hc
          exact ih_9 x1 x2 x3 x4 0 0 0 z H locs ls hM (lv_sub hl [0, 1, 2, 3, 4] rfl) hq
        · have hq := tw_if hq hc
          refine lv_aload_n hx hb dmX13_way_225 rfl (lv_at hl 0 rfl) ?_
          refine mg13_471 hx hb hT hown hK hM hq dmX13_way_226 (fun v31 hq => ?_)
          refine lv_if_ne (tgt := 348) hx hb dmX13_way_229 (by decide) (fun hc => ?_) (fun hc => ?_)
          · have hq := tw_if hq hc
            exact ih_9 x1 x2 x3 x4 0 0 0 z H locs ls hM (lv_sub hl [0, 1, 2, 3, 4] rfl) hq
          · have hq := tw_it hq hc
            refine lv_iload_n hx hb dmX13_way_232 rfl (lv_at hl 3 rfl) ?_
            refine lv_aload_n hx hb dmX13_way_233 rfl (lv_at hl 0 rfl) ?_
            refine mg13_143 hx hb hT hown hK hM dmX13_way_234 ?_
            refine lv_bipush (v := 32) hx hb dmX13_way_237 (by decide) ?_
            refine lv_iload hx hb dmX13_way_239 (lv_at hl 4 rfl) ?_
            refine lv_imul hx hb dmX13_way_241 ?_
            obtain ⟨v33, z32, hcq, hq⟩ := tw_cl1 hq
            refine tw_cali hM (va_runS (As := [.ref (u 23), .int (32 * x4)]) (rest := [.int x3]) ⟨hx, hb, hml, hown, hts⟩ (km_X13_visitsOf l D q u hU K 23 (32 * x4) mr_23 z z32 v33 hcq) (va_cwS 2 hts (tw_gS wM_good wq_71 wq_72 wq_61 wq_70) rfl rfl rfl cd_X13_visitsOf ⟨(Nat.le_of_ble_eq_true rfl), (Nat.le_of_ble_eq_true rfl)⟩) (mw_preS hK hN hM) rfl rfl hl.1 rfl (lv_room (Nat.le_of_ble_eq_true rfl)) dmX13_way_242 ⟨(Nat.le_of_ble_eq_true rfl), (Nat.le_of_ble_eq_true rfl)⟩) (fun H locs hM => ?_)
            refine lv_iconst (v := 2) hx hb dmX13_way_245 (by decide) ?_
            obtain ⟨hz, hq⟩ := tw_nzI hq
            refine lv_idiv hx hb dmX13_way_246 hz ?_
            refine lv_isub hx hb dmX13_way_247 ?_
            refine lv_istore (lv' := [(5, .int (x3 - (v33 / 2))), (0, .ref (u 0)), (1, .int x1), (2, .int x2), (3, .int x3), (4, .int x4)]) hx hb dmX13_way_248 hl (by decide) rfl (fun ls hl => ?_)
            refine lv_iload hx hb dmX13_way_250 (lv_at hl 0 rfl) ?_
            refine lv_iconst (v := (-1)) hx hb dmX13_way_252 (by decide) ?_
            refine lv_icmp_ne (tgt := 260) hx hb dmX13_way_253 (by decide) (fun hc => ?_) (fun hc => ?_)
            · have hq := tw_if hq hc
              refine lv_iload hx hb dmX13_way_260 (lv_at hl 0 rfl) ?_
              refine lv_iconst (v := 1) hx hb dmX13_way_262 (by decide) ?_
              refine lv_icmp_ne (tgt := 270) hx hb dmX13_way_263 (by decide) (fun hc => ?_) (fun hc => ?_)
              · have hq := tw_if hq hc
                refine lv_iload hx hb dmX13_way_270 (lv_at hl 0 rfl) ?_
                refine lv_bipush (v := (-2)) hx hb dmX13_way_272 (by decide) ?_
                refine lv_icmp_ne (tgt := 281) hx hb dmX13_way_274 (by decide) (fun hc => ?_) (fun hc => ?_)
                · have hq := tw_if hq hc
                  refine lv_iload hx hb dmX13_way_281 (lv_at hl 0 rfl) ?_
                  refine lv_iconst (v := 2) hx hb dmX13_way_283 (by decide) ?_
                  refine lv_icmp_ne (tgt := 291) hx hb dmX13_way_284 (by decide) (fun hc => ?_) (fun hc => ?_)
                  · have hq := tw_if hq hc
                    refine lv_iload hx hb dmX13_way_291 (lv_at hl 0 rfl) ?_
                    refine lv_if_ne (tgt := 300) hx hb dmX13_way_293 (by decide) (fun hc => ?_) (fun hc => ?_)
                    · have hq := tw_if hq hc
                      refine lv_iconst (v := (-1)) hx hb dmX13_way_300 (by decide) ?_
                      exact ih_7 x1 x2 x3 x4 (x3 - (v33 / 2)) 0 (-1) z32 H locs ls hM (lv_sub hl [1, 2, 3, 4, 5, 0] rfl) hq
                    · have hq := tw_it hq hc
                      refine lv_iconst (v := 4) hx hb dmX13_way_296 (by decide) ?_
                      refine lv_goto (tgt := 301) hx hb dmX13_way_297 (by decide) ?_
                      exact ih_7 x1 x2 x3 x4 (x3 - (v33 / 2)) 0 4 z32 H locs ls hM (lv_sub hl [1, 2, 3, 4, 5, 0] rfl) hq
                  · have hq := tw_it hq hc
                    refine lv_iconst (v := 3) hx hb dmX13_way_287 (by decide) ?_
                    refine lv_goto (tgt := 301) hx hb dmX13_way_288 (by decide) ?_
                    exact ih_7 x1 x2 x3 x4 (x3 - (v33 / 2)) 0 3 z32 H locs ls hM (lv_sub hl [1, 2, 3, 4, 5, 0] rfl) hq
                · have hq := tw_it hq hc
                  refine lv_iconst (v := 2) hx hb dmX13_way_277 (by decide) ?_
                  refine lv_goto (tgt := 301) hx hb dmX13_way_278 (by decide) ?_
                  exact ih_7 x1 x2 x3 x4 (x3 - (v33 / 2)) 0 2 z32 H locs ls hM (lv_sub hl [1, 2, 3, 4, 5, 0] rfl) hq
              · have hq := tw_it hq hc
                refine lv_iconst (v := 1) hx hb dmX13_way_266 (by decide) ?_
                refine lv_goto (tgt := 301) hx hb dmX13_way_267 (by decide) ?_
                exact ih_7 x1 x2 x3 x4 (x3 - (v33 / 2)) 0 1 z32 H locs ls hM (lv_sub hl [1, 2, 3, 4, 5, 0] rfl) hq
            · have hq := tw_it hq hc
              refine lv_iconst (v := 0) hx hb dmX13_way_256 (by decide) ?_
              refine lv_goto (tgt := 301) hx hb dmX13_way_257 (by decide) ?_
              exact ih_7 x1 x2 x3 x4 (x3 - (v33 / 2)) 0 0 z32 H locs ls hM (lv_sub hl [1, 2, 3, 4, 5, 0] rfl) hq
      · intro x1 x2 x3 x4 x5 x6 t0 z H locs ls  hM hl hq
        have hq : qm_X13_way_7 K (q_X13_way K k) x1 x2 x3 x4 x5 x6 t0 z = some (r, z1) := hq
        unfold qm_X13_way_7 at hq
        refine lv_istore (lv' := [(6, .int t0), (0, .ref (u 0)), (1, .int x1), (2, .int x2), (3, .int x3), (4, .int x4), (5, .int x5)]) hx hb dmX13_way_301 hl (by decide) rfl (fun ls hl => ?_)
        refine lv_iload hx hb dmX13_way_303 (lv_at hl 0 rfl) ?_
        refine lv_iconst (v := (-1)) hx hb dmX13_way_305 (by decide) ?_
        refine lv_icmp_eq (tgt := 342) hx hb dmX13_way_306 (by decide) (fun hc => ?_) (fun hc => ?_)
        · have hq := tw_it hq hc
          exact ih_8 x1 x2 x3 x4 x5 t0 0 z H locs ls hM (lv_sub hl [1, 2, 3, 4, 5, 6, 0] rfl) hq
        · have hq := tw_if hq hc
          refine lv_aload_n hx hb dmX13_way_309 rfl (lv_at hl 1 rfl) ?_
          refine mg13_143 hx hb hT hown hK hM dmX13_way_310 ?_
          refine lv_bipush (v := 32) hx hb dmX13_way_313 (by decide) ?_
          refine lv_iload hx hb dmX13_way_315 (lv_at hl 5 rfl) ?_
          refine lv_imul hx hb dmX13_way_317 ?_
          refine lv_aload_n hx hb dmX13_way_318 rfl (lv_at hl 1 rfl) ?_
          refine mg13_114 hx hb hT hown hK hM dmX13_way_319 ?_
          obtain ⟨z34, hcq, hq⟩ := tw_cl0 hq
          refine tw_calv hM (va_runS (As := [.ref (u 23), .int (32 * x4), .ref (u 1000)]) (rest := []) ⟨hx, hb, hml, hown, hts⟩ (km_X13_unpack l D q u hU K 23 (32 * x4) 1000 mr_23 mw_n1 z z34 hcq) (va_cwS 3 hts (tw_gS wM_good wq_134 wq_135 wq_61 wq_88) rfl rfl rfl cd_X13_unpack ⟨(Nat.le_of_ble_eq_true rfl), (Nat.le_of_ble_eq_true rfl)⟩) (mw_preS hK hN hM) rfl rfl hl.1 rfl (lv_room (Nat.le_of_ble_eq_true rfl)) dmX13_way_322 ⟨(Nat.le_of_ble_eq_true rfl), (Nat.le_of_ble_eq_true rfl)⟩) (fun H locs hM => ?_)
          refine lv_aload_n hx hb dmX13_way_325 rfl (lv_at hl 1 rfl) ?_
          refine mg13_114 hx hb hT hown hK hM dmX13_way_326 ?_
          obtain ⟨z35, hcq, hq⟩ := tw_cl0 hq
          refine tw_calv hM (va_runV (As := []) (rest := []) ⟨hx, hb, hml, hown, hts⟩ (km_X12_link l D q u hU K 1000 mw_n1 z34 z35 hcq) (cwV 0 hts (tw_gV wM_good wq_77 wq_78 wq_79 wq_13 wq_30) rfl rfl rfl cd_X12_link ⟨(Nat.le_of_ble_eq_true rfl), (Nat.le_of_ble_eq_true rfl)⟩) (mw_preV hK hN hM (mo_n mw_n1) rfl) rfl rfl hl.1 rfl (lv_room (Nat.le_of_ble_eq_true rfl)) dmX13_way_329 ⟨(Nat.le_of_ble_eq_true rfl), (Nat.le_of_ble_eq_true rfl)⟩) (fun H locs hM => ?_)
          refine lv_aload_n hx hb dmX13_way_332 rfl (lv_at hl 1 rfl) ?_
          refine lv_aload_n hx hb dmX13_way_333 rfl (lv_at hl 1 rfl) ?_
          refine mg13_114 hx hb hT hown hK hM dmX13_way_334 ?_
          refine lv_iload hx hb dmX13_way_337 (lv_at hl 0 rfl) ?_
          obtain ⟨z36, hcq, hq⟩ := tw_cl0 hq
          refine tw_calv hM (va_runV (As := [.ref (u 1000), .int t0]) (rest := []) ⟨hx, hb, hml, hown, hts⟩ (km_X13_tryMoves l D q u hU K 1000 t0 mw_n1 z35 z36 hcq) (cwV 2 hts (tw_gV wM_good wq_243 wq_244 wq_245 wq_61 wq_242) rfl rfl rfl cd_X13_tryMoves ⟨(Nat.le_of_ble_eq_true rfl), (Nat.le_of_ble_eq_true rfl)⟩) (mw_preV hK hN hM mo_0 rfl) rfl rfl hl.1 rfl (lv_room (Nat.le_of_ble_eq_true rfl)) dmX13_way_339 ⟨(Nat.le_of_ble_eq_true rfl), (Nat.le_of_ble_eq_true rfl)⟩) (fun H locs hM => ?_)
          exact ih_8 x1 x2 x3 x4 x5 t0 0 z36 H locs ls hM (lv_sub hl [1, 2, 3, 4, 5, 6, 0] rfl) hq
      · intro x1 x2 x3 x4 x5 x6 t0 z H locs ls  hM hl hq
        have hq : qm_X13_way_8 K (q_X13_way K k) x1 x2 x3 x4 x5 x6 t0 z = some (r, z1) := hq
        unfold qm_X13_way_8 at hq
        refine lv_iinc (v := (x4 + 1)) (lv' := [(4, .int (x4 + 1)), (0, .ref (u 0)), (1, .int x1), (2, .int x2), (3, .int x3), (5, .int x5), (6, .int x6)]) hx hb dmX13_way_342 hl (k := 4) rfl rfl (by decide) rfl (fun ls hl => ?_)
        refine lv_goto (tgt := 216) hx hb dmX13_way_345 (by decide) ?_
        exact ih_6 x1 x2 x3 (x4 + 1) 0 0 0 z H locs ls hM (lv_sub hl [1, 2, 3, 4, 0] rfl) hq
      · intro x1 x2 x3 x4 x5 x6 t0 z H locs ls  hM hl hq
        have hq : qm_X13_way_9 K (q_X13_way K k) x1 x2 x3 x4 x5 x6 t0 z = some (r, z1) := hq
        unfold qm_X13_way_9 at hq
        refine lv_aload_n hx hb dmX13_way_348 rfl (lv_at hl 0 rfl) ?_
        refine mg13_471 hx hb hT hown hK hM hq dmX13_way_349 (fun v37 hq => ?_)
        refine lv_if_eq (tgt := 359) hx hb dmX13_way_352 (by decide) (fun hc => ?_) (fun hc => ?_)
        · have hq := tw_it hq hc
          refine lv_iconst (v := (-1)) hx hb dmX13_way_359 (by decide) ?_
          exact mw_iret hx hb hr hlocks hM hq hQQ dmX13_way_360
        · have hq := tw_if hq hc
          refine lv_iconst (v := 2) hx hb dmX13_way_355 (by decide) ?_
          refine lv_goto (tgt := 360) hx hb dmX13_way_356 (by decide) ?_
          exact mw_iret hx hb hr hlocks hM hq hQQ dmX13_way_360
  exact (key K).1 x1 x2 0 0 0 0 0 z s.heap [] ls  hM (lv_sub hl [0, 1, 2] rfl) hq
theorem dmX13_isParted_0 : decode cX13_isParted 0 = .ok (.iconst 0, 1) := dw_at cX13_isParted_k0 (p := 0) rfl (by decide +kernel)
theorem dmX13_isParted_1 : decode cX13_isParted 1 = .ok (.istore 5, 2) := dw_at cX13_isParted_k0 (p := 1) rfl (by decide +kernel)
theorem dmX13_isParted_3 : decode cX13_isParted 3 = .ok (.iload 5, 2) := dw_at cX13_isParted_k0 (p := 3) rfl (by decide +kernel)
theorem dmX13_isParted_5 : decode cX13_isParted 5 = .ok (.aload_n 1, 1) := dw_at cX13_isParted_k0 (p := 5) rfl (by decide +kernel)
theorem dmX13_isParted_6 : decode cX13_isParted 6 = .ok (.getfield 44, 3) := dw_at cX13_isParted_k0 (p := 6) rfl (by decide +kernel)
theorem dmX13_isParted_9 : decode cX13_isParted 9 = .ok (.if_icmp .ge 34, 3) := dw_at cX13_isParted_k0 (p := 9) rfl (by decide +kernel)
theorem dmX13_isParted_12 : decode cX13_isParted 12 = .ok (.aload_n 0, 1) := dw_at cX13_isParted_k0 (p := 12) rfl (by decide +kernel)
theorem dmX13_isParted_13 : decode cX13_isParted 13 = .ok (.getfield 173, 3) := dw_at cX13_isParted_k0 (p := 13) rfl (by decide +kernel)
theorem dmX13_isParted_16 : decode cX13_isParted 16 = .ok (.iload 5, 2) := dw_at cX13_isParted_k0 (p := 16) rfl (by decide +kernel)
theorem dmX13_isParted_18 : decode cX13_isParted 18 = .ok (.iload 5, 2) := dw_at cX13_isParted_k0 (p := 18) rfl (by decide +kernel)
theorem dmX13_isParted_20 : decode cX13_isParted 20 = .ok (.iload_n 3, 1) := dw_at cX13_isParted_k0 (p := 20) rfl (by decide +kernel)
theorem dmX13_isParted_21 : decode cX13_isParted 21 = .ok (.if_icmp .le 14, 3) := dw_at cX13_isParted_k0 (p := 21) rfl (by decide +kernel)
theorem dmX13_isParted_24 : decode cX13_isParted 24 = .ok (.iload 5, 2) := dw_at cX13_isParted_k1 (p := 0) rfl (by decide +kernel)
theorem dmX13_isParted_26 : decode cX13_isParted 26 = .ok (.iload 4, 2) := dw_at cX13_isParted_k1 (p := 2) rfl (by decide +kernel)
theorem dmX13_isParted_28 : decode cX13_isParted 28 = .ok (.if_icmp .gt 7, 3) := dw_at cX13_isParted_k1 (p := 4) rfl (by decide +kernel)
theorem dmX13_isParted_31 : decode cX13_isParted 31 = .ok (.iconst 1, 1) := dw_at cX13_isParted_k1 (p := 7) rfl (by decide +kernel)
theorem dmX13_isParted_32 : decode cX13_isParted 32 = .ok (.goto 4, 3) := dw_at cX13_isParted_k1 (p := 8) rfl (by decide +kernel)
theorem dmX13_isParted_35 : decode cX13_isParted 35 = .ok (.iconst 0, 1) := dw_at cX13_isParted_k1 (p := 11) rfl (by decide +kernel)
theorem dmX13_isParted_36 : decode cX13_isParted 36 = .ok (.bastore, 1) := dw_at cX13_isParted_k1 (p := 12) rfl (by decide +kernel)
theorem dmX13_isParted_37 : decode cX13_isParted 37 = .ok (.iinc 5 1, 3) := dw_at cX13_isParted_k1 (p := 13) rfl (by decide +kernel)
theorem dmX13_isParted_40 : decode cX13_isParted 40 = .ok (.goto (-37), 3) := dw_at cX13_isParted_k1 (p := 16) rfl (by decide +kernel)
theorem dmX13_isParted_43 : decode cX13_isParted 43 = .ok (.iconst 1, 1) := dw_at cX13_isParted_k1 (p := 19) rfl (by decide +kernel)
theorem dmX13_isParted_44 : decode cX13_isParted 44 = .ok (.istore 5, 2) := dw_at cX13_isParted_k1 (p := 20) rfl (by decide +kernel)
theorem dmX13_isParted_46 : decode cX13_isParted 46 = .ok (.iload 5, 2) := dw_at cX13_isParted_k1 (p := 22) rfl (by decide +kernel)
theorem dmX13_isParted_48 : decode cX13_isParted 48 = .ok (.ifCond .eq 114, 3) := dw_at cX13_isParted_k2 (p := 0) rfl (by decide +kernel)
theorem dmX13_isParted_51 : decode cX13_isParted 51 = .ok (.iconst 0, 1) := dw_at cX13_isParted_k2 (p := 3) rfl (by decide +kernel)
theorem dmX13_isParted_52 : decode cX13_isParted 52 = .ok (.istore 5, 2) := dw_at cX13_isParted_k2 (p := 4) rfl (by decide +kernel)
theorem dmX13_isParted_54 : decode cX13_isParted 54 = .ok (.iconst 0, 1) := dw_at cX13_isParted_k2 (p := 6) rfl (by decide +kernel)
theorem dmX13_isParted_55 : decode cX13_isParted 55 = .ok (.istore 6, 2) := dw_at cX13_isParted_k2 (p := 7) rfl (by decide +kernel)
theorem dmX13_isParted_57 : decode cX13_isParted 57 = .ok (.iload 6, 2) := dw_at cX13_isParted_k2 (p := 9) rfl (by decide +kernel)
theorem dmX13_isParted_59 : decode cX13_isParted 59 = .ok (.aload_n 1, 1) := dw_at cX13_isParted_k2 (p := 11) rfl (by decide +kernel)
theorem dmX13_isParted_60 : decode cX13_isParted 60 = .ok (.getfield 44, 3) := dw_at cX13_isParted_k2 (p := 12) rfl (by decide +kernel)
theorem dmX13_isParted_63 : decode cX13_isParted 63 = .ok (.if_icmp .ge 96, 3) := dw_at cX13_isParted_k2 (p := 15) rfl (by decide +kernel)
theorem dmX13_isParted_66 : decode cX13_isParted 66 = .ok (.aload_n 0, 1) := dw_at cX13_isParted_k2 (p := 18) rfl (by decide +kernel)
theorem dmX13_isParted_67 : decode cX13_isParted 67 = .ok (.getfield 173, 3) := dw_at cX13_isParted_k2 (p := 19) rfl (by decide +kernel)
theorem dmX13_isParted_70 : decode cX13_isParted 70 = .ok (.iload 6, 2) := dw_at cX13_isParted_k2 (p := 22) rfl (by decide +kernel)
theorem dmX13_isParted_72 : decode cX13_isParted 72 = .ok (.baload, 1) := dw_at cX13_isParted_k3 (p := 0) rfl (by decide +kernel)
theorem dmX13_isParted_73 : decode cX13_isParted 73 = .ok (.ifCond .eq 80, 3) := dw_at cX13_isParted_k3 (p := 1) rfl (by decide +kernel)
theorem dmX13_isParted_76 : decode cX13_isParted 76 = .ok (.aload_n 0, 1) := dw_at cX13_isParted_k3 (p := 4) rfl (by decide +kernel)
theorem dmX13_isParted_77 : decode cX13_isParted 77 = .ok (.getfield 173, 3) := dw_at cX13_isParted_k3 (p := 5) rfl (by decide +kernel)
theorem dmX13_isParted_80 : decode cX13_isParted 80 = .ok (.aload_n 1, 1) := dw_at cX13_isParted_k3 (p := 8) rfl (by decide +kernel)
theorem dmX13_isParted_81 : decode cX13_isParted 81 = .ok (.getfield 41, 3) := dw_at cX13_isParted_k3 (p := 9) rfl (by decide +kernel)
theorem dmX13_isParted_84 : decode cX13_isParted 84 = .ok (.iload 6, 2) := dw_at cX13_isParted_k3 (p := 12) rfl (by decide +kernel)
theorem dmX13_isParted_86 : decode cX13_isParted 86 = .ok (.iaload, 1) := dw_at cX13_isParted_k3 (p := 14) rfl (by decide +kernel)
theorem dmX13_isParted_87 : decode cX13_isParted 87 = .ok (.baload, 1) := dw_at cX13_isParted_k3 (p := 15) rfl (by decide +kernel)
theorem dmX13_isParted_88 : decode cX13_isParted 88 = .ok (.ifCond .ne 65, 3) := dw_at cX13_isParted_k3 (p := 16) rfl (by decide +kernel)
theorem dmX13_isParted_91 : decode cX13_isParted 91 = .ok (.aload_n 1, 1) := dw_at cX13_isParted_k3 (p := 19) rfl (by decide +kernel)
theorem dmX13_isParted_92 : decode cX13_isParted 92 = .ok (.getfield 18, 3) := dw_at cX13_isParted_k3 (p := 20) rfl (by decide +kernel)
theorem dmX13_isParted_95 : decode cX13_isParted 95 = .ok (.aload_n 1, 1) := dw_at cX13_isParted_k3 (p := 23) rfl (by decide +kernel)
theorem dmX13_isParted_96 : decode cX13_isParted 96 = .ok (.getfield 41, 3) := dw_at cX13_isParted_k4 (p := 0) rfl (by decide +kernel)
theorem dmX13_isParted_99 : decode cX13_isParted 99 = .ok (.iload 6, 2) := dw_at cX13_isParted_k4 (p := 3) rfl (by decide +kernel)
theorem dmX13_isParted_101 : decode cX13_isParted 101 = .ok (.iaload, 1) := dw_at cX13_isParted_k4 (p := 5) rfl (by decide +kernel)
theorem dmX13_isParted_102 : decode cX13_isParted 102 = .ok (.iaload, 1) := dw_at cX13_isParted_k4 (p := 6) rfl (by decide +kernel)
theorem dmX13_isParted_103 : decode cX13_isParted 103 = .ok (.istore 7, 2) := dw_at cX13_isParted_k4 (p := 7) rfl (by decide +kernel)
theorem dmX13_isParted_105 : decode cX13_isParted 105 = .ok (.iload 7, 2) := dw_at cX13_isParted_k4 (p := 9) rfl (by decide +kernel)
theorem dmX13_isParted_107 : decode cX13_isParted 107 = .ok (.iload_n 2, 1) := dw_at cX13_isParted_k4 (p := 11) rfl (by decide +kernel)
theorem dmX13_isParted_108 : decode cX13_isParted 108 = .ok (.if_icmp .ne 5, 3) := dw_at cX13_isParted_k4 (p := 12) rfl (by decide +kernel)
theorem dmX13_isParted_111 : decode cX13_isParted 111 = .ok (.iconst 0, 1) := dw_at cX13_isParted_k4 (p := 15) rfl (by decide +kernel)
theorem dmX13_isParted_112 : decode cX13_isParted 112 = .ok (.ireturn, 1) := dw_at cX13_isParted_k4 (p := 16) rfl (by decide +kernel)
theorem dmX13_isParted_113 : decode cX13_isParted 113 = .ok (.aload_n 1, 1) := dw_at cX13_isParted_k4 (p := 17) rfl (by decide +kernel)
theorem dmX13_isParted_114 : decode cX13_isParted 114 = .ok (.getfield 452, 3) := dw_at cX13_isParted_k4 (p := 18) rfl (by decide +kernel)
theorem dmX13_isParted_117 : decode cX13_isParted 117 = .ok (.iload 7, 2) := dw_at cX13_isParted_k4 (p := 21) rfl (by decide +kernel)
theorem dmX13_isParted_119 : decode cX13_isParted 119 = .ok (.iaload, 1) := dw_at cX13_isParted_k4 (p := 23) rfl (by decide +kernel)
theorem dmX13_isParted_120 : decode cX13_isParted 120 = .ok (.istore 8, 2) := dw_at cX13_isParted_k5 (p := 0) rfl (by decide +kernel)
theorem dmX13_isParted_122 : decode cX13_isParted 122 = .ok (.iload 8, 2) := dw_at cX13_isParted_k5 (p := 2) rfl (by decide +kernel)
theorem dmX13_isParted_124 : decode cX13_isParted 124 = .ok (.aload_n 1, 1) := dw_at cX13_isParted_k5 (p := 4) rfl (by decide +kernel)
theorem dmX13_isParted_125 : decode cX13_isParted 125 = .ok (.getfield 452, 3) := dw_at cX13_isParted_k5 (p := 5) rfl (by decide +kernel)
theorem dmX13_isParted_128 : decode cX13_isParted 128 = .ok (.iload 7, 2) := dw_at cX13_isParted_k5 (p := 8) rfl (by decide +kernel)
theorem dmX13_isParted_130 : decode cX13_isParted 130 = .ok (.iconst 1, 1) := dw_at cX13_isParted_k5 (p := 10) rfl (by decide +kernel)
theorem dmX13_isParted_131 : decode cX13_isParted 131 = .ok (.iadd, 1) := dw_at cX13_isParted_k5 (p := 11) rfl (by decide +kernel)
theorem dmX13_isParted_132 : decode cX13_isParted 132 = .ok (.iaload, 1) := dw_at cX13_isParted_k5 (p := 12) rfl (by decide +kernel)
theorem dmX13_isParted_133 : decode cX13_isParted 133 = .ok (.if_icmp .ge 17, 3) := dw_at cX13_isParted_k5 (p := 13) rfl (by decide +kernel)
theorem dmX13_isParted_136 : decode cX13_isParted 136 = .ok (.aload_n 0, 1) := dw_at cX13_isParted_k5 (p := 16) rfl (by decide +kernel)
theorem dmX13_isParted_137 : decode cX13_isParted 137 = .ok (.getfield 173, 3) := dw_at cX13_isParted_k5 (p := 17) rfl (by decide +kernel)
theorem dmX13_isParted_140 : decode cX13_isParted 140 = .ok (.iload 8, 2) := dw_at cX13_isParted_k5 (p := 20) rfl (by decide +kernel)
theorem dmX13_isParted_142 : decode cX13_isParted 142 = .ok (.iconst 1, 1) := dw_at cX13_isParted_k5 (p := 22) rfl (by decide +kernel)
theorem dmX13_isParted_143 : decode cX13_isParted 143 = .ok (.bastore, 1) := dw_at cX13_isParted_k5 (p := 23) rfl (by decide +kernel)
theorem dmX13_isParted_144 : decode cX13_isParted 144 = .ok (.iinc 8 1, 3) := dw_at cX13_isParted_k6 (p := 0) rfl (by decide +kernel)
theorem dmX13_isParted_147 : decode cX13_isParted 147 = .ok (.goto (-25), 3) := dw_at cX13_isParted_k6 (p := 3) rfl (by decide +kernel)
theorem dmX13_isParted_150 : decode cX13_isParted 150 = .ok (.iconst 1, 1) := dw_at cX13_isParted_k6 (p := 6) rfl (by decide +kernel)
theorem dmX13_isParted_151 : decode cX13_isParted 151 = .ok (.istore 5, 2) := dw_at cX13_isParted_k6 (p := 7) rfl (by decide +kernel)
theorem dmX13_isParted_153 : decode cX13_isParted 153 = .ok (.iinc 6 1, 3) := dw_at cX13_isParted_k6 (p := 9) rfl (by decide +kernel)
theorem dmX13_isParted_156 : decode cX13_isParted 156 = .ok (.goto (-99), 3) := dw_at cX13_isParted_k6 (p := 12) rfl (by decide +kernel)
theorem dmX13_isParted_159 : decode cX13_isParted 159 = .ok (.goto (-113), 3) := dw_at cX13_isParted_k6 (p := 15) rfl (by decide +kernel)
theorem dmX13_isParted_162 : decode cX13_isParted 162 = .ok (.iconst 1, 1) := dw_at cX13_isParted_k6 (p := 18) rfl (by decide +kernel)
theorem dmX13_isParted_163 : decode cX13_isParted 163 = .ok (.ireturn, 1) := dw_at cX13_isParted_k6 (p := 19) rfl (by decide +kernel)
def qm_X13_isParted_0 (K : Nat) (go : Nat → Int32 → Int32 → Int32 → Int32 → Int32 → Int32 → Int32 → Nat → Int32 → Int32 → ow_MS → Option (Int32 × ow_MS)) (x2 : Int32) (x3 : Int32) (x4 : Int32) (x5 : Int32) (x6 : Int32) (x7 : Int32) (x8 : Int32) (r1 : Nat) (t0 : Int32) (t1 : Int32) (z : ow_MS) : Option (Int32 × ow_MS) :=
 go 1 x2 x3 x4 0 0 0 0 r1 0 0 z
def qm_X13_isParted_1 (K : Nat) (go : Nat → Int32 → Int32 → Int32 → Int32 → Int32 → Int32 → Int32 → Nat → Int32 → Int32 → ow_MS → Option (Int32 × ow_MS)) (x2 : Int32) (x3 : Int32) (x4 : Int32) (x5 : Int32) (x6 : Int32) (x7 : Int32) (x8 : Int32) (r1 : Nat) (t0 : Int32) (t1 : Int32) (z : ow_MS) : Option (Int32 × ow_MS) :=
 rdF z (r1 + 1) fun v1 => (if v1 ≤ x5 then go 4 x2 x3 x4 1 0 0 0 r1 0 0 z
 else (if x5 ≤ x3 then go 2 x2 x3 x4 x5 0 0 0 r1 x5 0 z
 else (if x4 < x5 then go 2 x2 x3 x4 x5 0 0 0 r1 x5 0 z
 else go 3 x2 x3 x4 x5 0 0 0 r1 1 x5 z)))
def qm_X13_isParted_2 (K : Nat) (go : Nat → Int32 → Int32 → Int32 → Int32 → Int32 → Int32 → Int32 → Nat → Int32 → Int32 → ow_MS → Option (Int32 × ow_MS)) (x2 : Int32) (x3 : Int32) (x4 : Int32) (x5 : Int32) (x6 : Int32) (x7 : Int32) (x8 : Int32) (r1 : Nat) (t0 : Int32) (t1 : Int32) (z : ow_MS) : Option (Int32 × ow_MS) :=
 go 3 x2 x3 x4 x5 0 0 0 r1 0 t0 z
def qm_X13_isParted_3 (K : Nat) (go : Nat → Int32 → Int32 → Int32 → Int32 → Int32 → Int32 → Int32 → Nat → Int32 → Int32 → ow_MS → Option (Int32 × ow_MS)) (x2 : Int32) (x3 : Int32) (x4 : Int32) (x5 : Int32) (x6 : Int32) (x7 : Int32) (x8 : Int32) (r1 : Nat) (t0 : Int32) (t1 : Int32) (z : ow_MS) : Option (Int32 × ow_MS) :=
 wrZ mX z 38 t1 t0 fun z2 => go 1 x2 x3 x4 (x5 + 1) 0 0 0 r1 0 0 z2
def qm_X13_isParted_4 (K : Nat) (go : Nat → Int32 → Int32 → Int32 → Int32 → Int32 → Int32 → Int32 → Nat → Int32 → Int32 → ow_MS → Option (Int32 × ow_MS)) (x2 : Int32) (x3 : Int32) (x4 : Int32) (x5 : Int32) (x6 : Int32) (x7 : Int32) (x8 : Int32) (r1 : Nat) (t0 : Int32) (t1 : Int32) (z : ow_MS) : Option (Int32 × ow_MS) :=
 (if x5 = 0 then okZ 1 (some (1, z))
 else go 5 x2 x3 x4 0 0 0 0 r1 0 0 z)
def qm_X13_isParted_5 (K : Nat) (go : Nat → Int32 → Int32 → Int32 → Int32 → Int32 → Int32 → Int32 → Nat → Int32 → Int32 → ow_MS → Option (Int32 × ow_MS)) (x2 : Int32) (x3 : Int32) (x4 : Int32) (x5 : Int32) (x6 : Int32) (x7 : Int32) (x8 : Int32) (r1 : Nat) (t0 : Int32) (t1 : Int32) (z : ow_MS) : Option (Int32 × ow_MS) :=
 rdF z (r1 + 1) fun v3 => (if v3 ≤ x6 then go 4 x2 x3 x4 x5 0 0 0 r1 0 0 z
 else rdI mX z 38 x6 fun v4 => (if v4 = 0 then go 7 x2 x3 x4 x5 x6 0 0 r1 0 0 z
 else rdI mX z (r1 + 7) x6 fun v5 => rdI mX z 38 v5 fun v6 => (if v6 = 0 then rdI mX z (r1 + 7) x6 fun v7 => rdI mX z (r1 + 8) v7 fun v8 => (if v8 = x2 then okZ 0 (some (0, z))
 else rdI mX z (r1 + 3) v8 fun v9 => go 6 x2 x3 x4 x5 x6 v8 v9 r1 0 0 z)
 else go 7 x2 x3 x4 x5 x6 0 0 r1 0 0 z)))
def qm_X13_isParted_6 (K : Nat) (go : Nat → Int32 → Int32 → Int32 → Int32 → Int32 → Int32 → Int32 → Nat → Int32 → Int32 → ow_MS → Option (Int32 × ow_MS)) (x2 : Int32) (x3 : Int32) (x4 : Int32) (x5 : Int32) (x6 : Int32) (x7 : Int32) (x8 : Int32) (r1 : Nat) (t0 : Int32) (t1 : Int32) (z : ow_MS) : Option (Int32 × ow_MS) :=
 rdI mX z (r1 + 3) (x7 + 1) fun v10 => (if v10 ≤ x8 then go 7 x2 x3 x4 1 x6 0 0 r1 0 0 z
 else wrZ mX z 38 x8 1 fun z11 => go 6 x2 x3 x4 x5 x6 x7 (x8 + 1) r1 0 0 z11)
def qm_X13_isParted_7 (K : Nat) (go : Nat → Int32 → Int32 → Int32 → Int32 → Int32 → Int32 → Int32 → Nat → Int32 → Int32 → ow_MS → Option (Int32 × ow_MS)) (x2 : Int32) (x3 : Int32) (x4 : Int32) (x5 : Int32) (x6 : Int32) (x7 : Int32) (x8 : Int32) (r1 : Nat) (t0 : Int32) (t1 : Int32) (z : ow_MS) : Option (Int32 × ow_MS) :=
 go 5 x2 x3 x4 x5 (x6 + 1) 0 0 r1 0 0 z
def qb_X13_isParted (K : Nat) (go : Nat → Int32 → Int32 → Int32 → Int32 → Int32 → Int32 → Int32 → Nat → Int32 → Int32 → ow_MS → Option (Int32 × ow_MS)) (L : Nat) (x2 : Int32) (x3 : Int32) (x4 : Int32) (x5 : Int32) (x6 : Int32) (x7 : Int32) (x8 : Int32) (r1 : Nat) (t0 : Int32) (t1 : Int32) (z : ow_MS) : Option (Int32 × ow_MS) := match L with
  | 0 => qm_X13_isParted_0 K go x2 x3 x4 x5 x6 x7 x8 r1 t0 t1 z
  | 1 => qm_X13_isParted_1 K go x2 x3 x4 x5 x6 x7 x8 r1 t0 t1 z
  | 2 => qm_X13_isParted_2 K go x2 x3 x4 x5 x6 x7 x8 r1 t0 t1 z
  | 3 => qm_X13_isParted_3 K go x2 x3 x4 x5 x6 x7 x8 r1 t0 t1 z
  | 4 => qm_X13_isParted_4 K go x2 x3 x4 x5 x6 x7 x8 r1 t0 t1 z
  | 5 => qm_X13_isParted_5 K go x2 x3 x4 x5 x6 x7 x8 r1 t0 t1 z
  | 6 => qm_X13_isParted_6 K go x2 x3 x4 x5 x6 x7 x8 r1 t0 t1 z
  | 7 => qm_X13_isParted_7 K go x2 x3 x4 x5 x6 x7 x8 r1 t0 t1 z
  | _ => none
def q_X13_isParted (K : Nat) : Nat → Nat → Int32 → Int32 → Int32 → Int32 → Int32 → Int32 → Int32 → Nat → Int32 → Int32 → ow_MS → Option (Int32 × ow_MS)
  | 0 => fun _ _ _ _ _ _ _ _ _ _ _ _ => none
  | k + 1 => qb_X13_isParted K (q_X13_isParted K k)
def qe_X13_isParted (K : Nat) (r1 : Nat) (x2 : Int32) (x3 : Int32) (x4 : Int32) (z : ow_MS) : Option (Int32 × ow_MS) := q_X13_isParted K K 0 x2 x3 x4 0 0 0 0 r1 0 0 z
abbrev wm_X13_isParted : List Cond := .code yX13_isParted cX13_isParted 9 (some .boolean) :: wM
theorem cd_X13_isParted : yX13_isParted.cls = RX13 ∧ yX13_isParted.cls ≠ "java/lang/invoke/MethodHandle" ∧ yX13_isParted.cls ≠ "java/lang/invoke/VarHandle" ∧ (parseMethodDescriptor yX13_isParted.desc).map (fun d => d.parameters.length) = some 4 := by decide +kernel
set_option maxHeartbeats 4000000 in
set_option maxRecDepth 100000 in
theorem km_X13_isParted (l : Launch) (D : va_G) (q : ow_Q5) (u : Nat → Nat) (hU : tw_inj mX u) (K : Nat) (r1 : Nat) (x2 : Int32) (x3 : Int32) (x4 : Int32) (hr1 : mw_net r1) (z z1 : ow_MS) (r : Int32) (hq : qe_X13_isParted K r1 x2 x3 x4 z = some (r, z1)) : Met l yX13_isParted wm_X13_isParted ({ frames := 0, cells := 0, slots := 0, locals := 0 } : Room) (va_Pc [.ref (u 0), .ref (u r1), .int x2, .int x3, .int x4] (mw_pre D q u z)) (va_Qi (fun x (_ : Unit) => x = r) (fun _ t => va_P D vwCl (tw mX q u z1) t.heap) (tw_A mX u)) 0 0 (tw_A mX u) := by
  refine Met.ofW (cc := cX13_isParted) (maxL := 9) (ret := (some .boolean)) (by decide) rfl ?_
  intro p e s m args below meth c s₁ B hml hv
  obtain ⟨rfl, hP, hK, hN⟩ := hv
  have hx := B.exec
  have hb := B.bytes
  have hr := B.returns
  have hts := atoms_spec (ws := wm_X13_isParted) B.pre
  have hT : ∀ w ∈ wM, w.before ([.ref (u 0), .ref (u r1), .int x2, .int x3, .int x4] : List Value).toArray s = true := fun w h => hts w (List.mem_cons_of_mem _ h)
  have hown : s.vm.findClass RX13 = some m.cls := findClass_of_methodNamed B.named
  have hlocks := B.notSynchronized
  have hM : tw_M D vwCl mX q s.heap u z s.heap [] := ⟨hP, va_S.rf⟩
  have hl := lv_entry ([.ref (u 0), .ref (u r1), .int x2, .int x3, .int x4]) (n := 9) (Nat.le_of_ble_eq_true rfl)
  rw [lg_entry_eq]
  generalize (lg_sl ([.ref (u 0), .ref (u r1), .int x2, .int x3, .int x4]) ++ List.replicate (9 - (lg_sl ([.ref (u 0), .ref (u r1), .int x2, .int x3, .int x4])).length) Slot.unset).toArray = ls at hl ⊢
  have hl : lv_has ls 9 [(0, .ref (u 0)), (1, .ref (u r1)), (2, .int x2), (3, .int x3), (4, .int x4)] := hl
  refine ow_named (fun QQ hQQ => ?_)
  generalize ([.ref (u 0), .ref (u r1), .int x2, .int x3, .int x4] : List Value).toArray = args at hts hT hQQ ⊢
  have key : ∀ k : Nat, (∀ (x2 : Int32) (x3 : Int32) (x4 : Int32) (x5 : Int32) (x6 : Int32) (x7 : Int32) (x8 : Int32) (r1 : Nat) (t0 : Int32) (t1 : Int32) (z : ow_MS) (H : Heap) (locs : List Loc) (ls : Array Slot), mw_net r1 → tw_M D vwCl mX q s.heap u z H locs → lv_has ls 9 [(0, .ref (u 0)), (1, .ref (u r1)), (2, .int x2), (3, .int x3), (4, .int x4)] → q_X13_isParted K k 0 x2 x3 x4 x5 x6 x7 x8 r1 t0 t1 z = some (r, z1) → W p l e ({ frames := 0, cells := 0, slots := 0, locals := 0 } : Room) s m args below meth c H locs 0 0 QQ (F0 m 0 ls [])) ∧ (∀ (x2 : Int32) (x3 : Int32) (x4 : Int32) (x5 : Int32) (x6 : Int32) (x7 : Int32) (x8 : Int32) (r1 : Nat) (t0 : Int32) (t1 : Int32) (z : ow_MS) (H : Heap) (locs : List Loc) (ls : Array Slot), mw_net r1 → tw_M D vwCl mX q s.heap u z H locs → lv_has ls 9 [(0, .ref (u 0)), (1, .ref (u r1)), (2, .int x2), (3, .int x3), (4, .int x4), (5, .int x5)] → q_X13_isParted K k 1 x2 x3 x4 x5 x6 x7 x8 r1 t0 t1 z = some (r, z1) → W p l e ({ frames := 0, cells := 0, slots := 0, locals := 0 } : Room) s m args below meth c H locs 0 0 QQ (F0 m 3 ls [])) ∧ (∀ (x2 : Int32) (x3 : Int32) (x4 : Int32) (x5 : Int32) (x6 : Int32) (x7 : Int32) (x8 : Int32) (r1 : Nat) (t0 : Int32) (t1 : Int32) (z : ow_MS) (H : Heap) (locs : List Loc) (ls : Array Slot), mw_net r1 → tw_M D vwCl mX q s.heap u z H locs → lv_has ls 9 [(0, .ref (u 0)), (1, .ref (u r1)), (2, .int x2), (3, .int x3), (4, .int x4), (5, .int x5)] → q_X13_isParted K k 2 x2 x3 x4 x5 x6 x7 x8 r1 t0 t1 z = some (r, z1) → W p l e ({ frames := 0, cells := 0, slots := 0, locals := 0 } : Room) s m args below meth c H locs 0 0 QQ (F0 m 35 ls [.int t0, .ref (u 38)])) ∧ (∀ (x2 : Int32) (x3 : Int32) (x4 : Int32) (x5 : Int32) (x6 : Int32) (x7 : Int32) (x8 : Int32) (r1 : Nat) (t0 : Int32) (t1 : Int32) (z : ow_MS) (H : Heap) (locs : List Loc) (ls : Array Slot), mw_net r1 → tw_M D vwCl mX q s.heap u z H locs → lv_has ls 9 [(0, .ref (u 0)), (1, .ref (u r1)), (2, .int x2), (3, .int x3), (4, .int x4), (5, .int x5)] → q_X13_isParted K k 3 x2 x3 x4 x5 x6 x7 x8 r1 t0 t1 z = some (r, z1) → W p l e ({ frames := 0, cells := 0, slots := 0, locals := 0 } : Room) s m args below meth c H locs 0 0 QQ (F0 m 36 ls [.int t0, .int t1, .ref (u 38)])) ∧ (∀ (x2 : Int32) (x3 : Int32) (x4 : Int32) (x5 : Int32) (x6 : Int32) (x7 : Int32) (x8 : Int32) (r1 : Nat) (t0 : Int32) (t1 : Int32) (z : ow_MS) (H : Heap) (locs : List Loc) (ls : Array Slot), mw_net r1 → tw_M D vwCl mX q s.heap u z H locs → lv_has ls 9 [(0, .ref (u 0)), (1, .ref (u r1)), (2, .int x2), (3, .int x3), (4, .int x4), (5, .int x5)] → q_X13_isParted K k 4 x2 x3 x4 x5 x6 x7 x8 r1 t0 t1 z = some (r, z1) → W p l e ({ frames := 0, cells := 0, slots := 0, locals := 0 } : Room) s m args below meth c H locs 0 0 QQ (F0 m 46 ls [])) ∧ (∀ (x2 : Int32) (x3 : Int32) (x4 : Int32) (x5 : Int32) (x6 : Int32) (x7 : Int32) (x8 : Int32) (r1 : Nat) (t0 : Int32) (t1 : Int32) (z : ow_MS) (H : Heap) (locs : List Loc) (ls : Array Slot), mw_net r1 → tw_M D vwCl mX q s.heap u z H locs → lv_has ls 9 [(0, .ref (u 0)), (1, .ref (u r1)), (2, .int x2), (3, .int x3), (4, .int x4), (5, .int x5), (6, .int x6)] → q_X13_isParted K k 5 x2 x3 x4 x5 x6 x7 x8 r1 t0 t1 z = some (r, z1) → W p l e ({ frames := 0, cells := 0, slots := 0, locals := 0 } : Room) s m args below meth c H locs 0 0 QQ (F0 m 57 ls [])) ∧ (∀ (x2 : Int32) (x3 : Int32) (x4 : Int32) (x5 : Int32) (x6 : Int32) (x7 : Int32) (x8 : Int32) (r1 : Nat) (t0 : Int32) (t1 : Int32) (z : ow_MS) (H : Heap) (locs : List Loc) (ls : Array Slot), mw_net r1 → tw_M D vwCl mX q s.heap u z H locs → lv_has ls 9 [(0, .ref (u 0)), (1, .ref (u r1)), (2, .int x2), (3, .int x3), (4, .int x4), (5, .int x5), (6, .int x6), (7, .int x7), (8, .int x8)] → q_X13_isParted K k 6 x2 x3 x4 x5 x6 x7 x8 r1 t0 t1 z = some (r, z1) → W p l e ({ frames := 0, cells := 0, slots := 0, locals := 0 } : Room) s m args below meth c H locs 0 0 QQ (F0 m 122 ls [])) ∧ (∀ (x2 : Int32) (x3 : Int32) (x4 : Int32) (x5 : Int32) (x6 : Int32) (x7 : Int32) (x8 : Int32) (r1 : Nat) (t0 : Int32) (t1 : Int32) (z : ow_MS) (H : Heap) (locs : List Loc) (ls : Array Slot), mw_net r1 → tw_M D vwCl mX q s.heap u z H locs → lv_has ls 9 [(0, .ref (u 0)), (1, .ref (u r1)), (2, .int x2), (3, .int x3), (4, .int x4), (5, .int x5), (6, .int x6)] → q_X13_isParted K k 7 x2 x3 x4 x5 x6 x7 x8 r1 t0 t1 z = some (r, z1) → W p l e ({ frames := 0, cells := 0, slots := 0, locals := 0 } : Room) s m args below meth c H locs 0 0 QQ (F0 m 153 ls [])) := by
    intro k
    induction k with
    | zero => exact ⟨fun _ _ _ _ _ _ _ _ _ _ _ _ _ _ _ _ _ hq => tw_no hq, fun _ _ _ _ _ _ _ _ _ _ _ _ _ _ _ _ _ hq => tw_no hq, fun _ _ _ _ _ _ _ _ _ _ _ _ _ _ _ _ _ hq => tw_no hq, fun _ _ _ _ _ _ _ _ _ _ _ _ _ _ _ _ _ hq => tw_no hq, fun _ _ _ _ _ _ _ _ _ _ _ _ _ _ _ _ _ hq => tw_no hq, fun _ _ _ _ _ _ _ _ _ _ _ _ _ _ _ _ _ hq => tw_no hq, fun _ _ _ _ _ _ _ _ _ _ _ _ _ _ _ _ _ hq => tw_no hq, fun _ _ _ _ _ _ _ _ _ _ _ _ _ _ _ _ _ hq => tw_no hq⟩
    | succ k ih =>
      obtain ⟨ih_0, ih_1, ih_2, ih_3, ih_4, ih_5, ih_6, ih_7⟩ := ih
      refine ⟨?_, ?_, ?_, ?_, ?_, ?_, ?_, ?_⟩
      · intro x2 x3 x4 x5 x6 x7 x8 r1 t0 t1 z H locs ls hr1 hM hl hq
        have hq : qm_X13_isParted_0 K (q_X13_isParted K k) x2 x3 x4 x5 x6 x7 x8 r1 t0 t1 z = some (r, z1) := hq
        unfold qm_X13_isParted_0 at hq
        refine lv_iconst (v := 0) hx hb dmX13_isParted_0 (by decide) ?_
        refine lv_istore (lv' := [(5, .int 0), (0, .ref (u 0)), (1, .ref (u r1)), (2, .int x2), (3, .int x3), (4, .int x4)]) hx hb dmX13_isParted_1 hl (by decide) rfl (fun ls hl => ?_)
        exact ih_1 x2 x3 x4 0 0 0 0 r1 0 0 z H locs ls hr1 hM (lv_sub hl [1, 2, 3, 4, 5, 0] rfl) hq
      · intro x2 x3 x4 x5 x6 x7 x8 r1 t0 t1 z H locs ls hr1 hM hl hq
        have hq : qm_X13_isParted_1 K (q_X13_isParted K k) x2 x3 x4 x5 x6 x7 x8 r1 t0 t1 z = some (r, z1) := hq
        unfold qm_X13_isParted_1 at hq
        refine lv_iload hx hb dmX13_isParted_3 (lv_at hl 5 rfl) ?_
        refine lv_aload_n hx hb dmX13_isParted_5 rfl (lv_at hl 1 rfl) ?_
        refine mg13_44 hx hb hT hown hK hM hN hr1 hq dmX13_isParted_6 (fun v1 hq => ?_)
        refine lv_icmp_ge (tgt := 43) hx hb dmX13_isParted_9 (by decide) (fun hc => ?_) (fun hc => ?_)
        · have hq := tw_it hq hc
          refine lv_iconst (v := 1) hx hb dmX13_isParted_43 (by decide) ?_
          refine lv_istore (lv' := [(5, .int 1), (0, .ref (u 0)), (1, .ref (u r1)), (2, .int x2), (3, .int x3), (4, .int x4)]) hx hb dmX13_isParted_44 hl (by decide) rfl (fun ls hl => ?_)
          exact ih_4 x2 x3 x4 1 0 0 0 r1 0 0 z H locs ls hr1 hM (lv_sub hl [1, 2, 3, 4, 5, 0] rfl) hq
        · have hq := tw_if hq hc
          refine lv_aload_n hx hb dmX13_isParted_12 rfl (lv_at hl 0 rfl) ?_
          refine mg13_173 hx hb hT hown hK hM dmX13_isParted_13 ?_
          refine lv_iload hx hb dmX13_isParted_16 (lv_at hl 5 rfl) ?_
          refine lv_iload hx hb dmX13_isParted_18 (lv_at hl 5 rfl) ?_
          refine lv_iload_n hx hb dmX13_isParted_20 rfl (lv_at hl 3 rfl) ?_
          refine lv_icmp_le (tgt := 35) hx hb dmX13_isParted_21 (by decide) (fun hc => ?_) (fun hc => ?_)
          · have hq := tw_it hq hc
            exact ih_2 x2 x3 x4 x5 0 0 0 r1 x5 0 z H locs ls hr1 hM (lv_sub hl [0, 1, 2, 3, 4, 5] rfl) hq
          · have hq := tw_if hq hc
            refine lv_iload hx hb dmX13_isParted_24 (lv_at hl 5 rfl) ?_
            refine lv_iload hx hb dmX13_isParted_26 (lv_at hl 4 rfl) ?_
            refine lv_icmp_gt (tgt := 35) hx hb dmX13_isParted_28 (by decide) (fun hc => ?_) (fun hc => ?_)
            · have hq := tw_it hq hc
              exact ih_2 x2 x3 x4 x5 0 0 0 r1 x5 0 z H locs ls hr1 hM (lv_sub hl [0, 1, 2, 3, 4, 5] rfl) hq
            · have hq := tw_if hq hc
              refine lv_iconst (v := 1) hx hb dmX13_isParted_31 (by decide) ?_
              refine lv_goto (tgt := 36) hx hb dmX13_isParted_32 (by decide) ?_
              exact ih_3 x2 x3 x4 x5 0 0 0 r1 1 x5 z H locs ls hr1 hM (lv_sub hl [0, 1, 2, 3, 4, 5] rfl) hq
      · intro x2 x3 x4 x5 x6 x7 x8 r1 t0 t1 z H locs ls hr1 hM hl hq
        have hq : qm_X13_isParted_2 K (q_X13_isParted K k) x2 x3 x4 x5 x6 x7 x8 r1 t0 t1 z = some (r, z1) := hq
        unfold qm_X13_isParted_2 at hq
        refine lv_iconst (v := 0) hx hb dmX13_isParted_35 (by decide) ?_
        exact ih_3 x2 x3 x4 x5 0 0 0 r1 0 t0 z H locs ls hr1 hM (lv_sub hl [0, 1, 2, 3, 4, 5] rfl) hq
      · intro x2 x3 x4 x5 x6 x7 x8 r1 t0 t1 z H locs ls hr1 hM hl hq
        have hq : qm_X13_isParted_3 K (q_X13_isParted K k) x2 x3 x4 x5 x6 x7 x8 r1 t0 t1 z = some (r, z1) := hq
        unfold qm_X13_isParted_3 at hq
        refine tw_zast mX_ok hU hx hb hK hM mr_38 hq dmX13_isParted_36 (fun z2 H locs hM hq => ?_)
        refine lv_iinc (v := (x5 + 1)) (lv' := [(5, .int (x5 + 1)), (0, .ref (u 0)), (1, .ref (u r1)), (2, .int x2), (3, .int x3), (4, .int x4)]) hx hb dmX13_isParted_37 hl (k := 5) rfl rfl (by decide) rfl (fun ls hl => ?_)
        refine lv_goto (tgt := 3) hx hb dmX13_isParted_40 (by decide) ?_
        exact ih_1 x2 x3 x4 (x5 + 1) 0 0 0 r1 0 0 z2 H locs ls hr1 hM (lv_sub hl [1, 2, 3, 4, 5, 0] rfl) hq
      · intro x2 x3 x4 x5 x6 x7 x8 r1 t0 t1 z H locs ls hr1 hM hl hq
        have hq : qm_X13_isParted_4 K (q_X13_isParted K k) x2 x3 x4 x5 x6 x7 x8 r1 t0 t1 z = some (r, z1) := hq
        unfold qm_X13_isParted_4 at hq
        refine lv_iload hx hb dmX13_isParted_46 (lv_at hl 5 rfl) ?_
        refine lv_if_eq (tgt := 162) hx hb dmX13_isParted_48 (by decide) (fun hc => ?_) (fun hc => ?_)
        · have hq := tw_it hq hc
          refine lv_iconst (v := 1) hx hb dmX13_isParted_162 (by decide) ?_
          obtain ⟨hz, hq⟩ := tw_gZ hq
          exact mw_zret hx hb hr hlocks hM hz hq hQQ dmX13_isParted_163
        · have hq := tw_if hq hc
          refine lv_iconst (v := 0) hx hb dmX13_isParted_51 (by decide) ?_
          refine lv_istore (lv' := [(5, .int 0), (0, .ref (u 0)), (1, .ref (u r1)), (2, .int x2), (3, .int x3), (4, .int x4)]) hx hb dmX13_isParted_52 hl (by decide) rfl (fun ls hl => ?_)
          refine lv_iconst (v := 0) hx hb dmX13_isParted_54 (by decide) ?_
          refine lv_istore (lv' := [(6, .int 0), (5, .int 0), (0, .ref (u 0)), (1, .ref (u r1)), (2, .int x2), (3, .int x3), (4, .int x4)]) hx hb dmX13_isParted_55 hl (by decide) rfl (fun ls hl => ?_)
          exact ih_5 x2 x3 x4 0 0 0 0 r1 0 0 z H locs ls hr1 hM (lv_sub hl [2, 3, 4, 5, 6, 1, 0] rfl) hq
      · intro x2 x3 x4 x5 x6 x7 x8 r1 t0 t1 z H locs ls hr1 hM hl hq
        have hq : qm_X13_isParted_5 K (q_X13_isParted K k) x2 x3 x4 x5 x6 x7 x8 r1 t0 t1 z = some (r, z1) := hq
        unfold qm_X13_isParted_5 at hq
        refine lv_iload hx hb dmX13_isParted_57 (lv_at hl 6 rfl) ?_
        refine lv_aload_n hx hb dmX13_isParted_59 rfl (lv_at hl 1 rfl) ?_
        refine mg13_44 hx hb hT hown hK hM hN hr1 hq dmX13_isParted_60 (fun v3 hq => ?_)
        refine lv_icmp_ge (tgt := 159) hx hb dmX13_isParted_63 (by decide) (fun hc => ?_) (fun hc => ?_)
        · have hq := tw_it hq hc
          refine lv_goto (tgt := 46) hx hb dmX13_isParted_159 (by decide) ?_
          exact ih_4 x2 x3 x4 x5 0 0 0 r1 0 0 z H locs ls hr1 hM (lv_sub hl [0, 1, 2, 3, 4, 5] rfl) hq
        · have hq := tw_if hq hc
          refine lv_aload_n hx hb dmX13_isParted_66 rfl (lv_at hl 0 rfl) ?_
          refine mg13_173 hx hb hT hown hK hM dmX13_isParted_67 ?_
          refine lv_iload hx hb dmX13_isParted_70 (lv_at hl 6 rfl) ?_
          refine tw_zald mX_ok hx hb hK hM mr_38 hq dmX13_isParted_72 (fun v4 hq => ?_)
          refine lv_if_eq (tgt := 153) hx hb dmX13_isParted_73 (by decide) (fun hc => ?_) (fun hc => ?_)
          · have hq := tw_it hq hc
            exact ih_7 x2 x3 x4 x5 x6 0 0 r1 0 0 z H locs ls hr1 hM (lv_sub hl [0, 1, 2, 3, 4, 5, 6] rfl) hq
          · have hq := tw_if hq hc
            refine lv_aload_n hx hb dmX13_isParted_76 rfl (lv_at hl 0 rfl) ?_
            refine mg13_173 hx hb hT hown hK hM dmX13_isParted_77 ?_
            refine lv_aload_n hx hb dmX13_isParted_80 rfl (lv_at hl 1 rfl) ?_
            refine mg13_41 hx hb hT hown hK hM hN hr1 dmX13_isParted_81 ?_
            refine lv_iload hx hb dmX13_isParted_84 (lv_at hl 6 rfl) ?_
            refine tw_iald mX_ok hx hb hK hM (mrn_7 hr1) hq dmX13_isParted_86 (fun v5 hq => ?_)
            refine tw_zald mX_ok hx hb hK hM mr_38 hq dmX13_isParted_87 (fun v6 hq => ?_)
            refine lv_if_ne (tgt := 153) hx hb dmX13_isParted_88 (by decide) (fun hc => ?_) (fun hc => ?_)
            · have hq := tw_if hq hc
              exact ih_7 x2 x3 x4 x5 x6 0 0 r1 0 0 z H locs ls hr1 hM (lv_sub hl [0, 1, 2, 3, 4, 5, 6] rfl) hq
            · have hq := tw_it hq hc
              refine lv_aload_n hx hb dmX13_isParted_91 rfl (lv_at hl 1 rfl) ?_
              refine mg13_18 hx hb hT hown hK hM hN hr1 dmX13_isParted_92 ?_
              refine lv_aload_n hx hb dmX13_isParted_95 rfl (lv_at hl 1 rfl) ?_
              refine mg13_41 hx hb hT hown hK hM hN hr1 dmX13_isParted_96 ?_
              refine lv_iload hx hb dmX13_isParted_99 (lv_at hl 6 rfl) ?_
              refine tw_iald mX_ok hx hb hK hM (mrn_7 hr1) hq dmX13_isParted_101 (fun v7 hq => ?_)
              refine tw_iald mX_ok hx hb hK hM (mrn_8 hr1) hq dmX13_isParted_102 (fun v8 hq => ?_)
              refine lv_istore (lv' := [(7, .int v8), (0, .ref (u 0)), (1, .ref (u r1)), (2, .int x2), (3, .int x3), (4, .int x4), (5, .int x5), (6, .int x6)]) hx hb dmX13_isParted_103 hl (by decide) rfl (fun ls hl => ?_)
              refine lv_iload hx hb dmX13_isParted_105 (lv_at hl 0 rfl) ?_
              refine lv_iload_n hx hb dmX13_isParted_107 rfl (lv_at hl 3 rfl) ?_
              refine lv_icmp_ne (tgt := 113) hx hb dmX13_isParted_108 (by decide) (fun hc => ?_) (fun hc => ?_)
              · have hq := tw_if hq hc
                refine lv_aload_n hx hb dmX13_isParted_113 rfl (lv_at hl 2 rfl) ?_
                refine mg13_452 hx hb hT hown hK hM hN hr1 dmX13_isParted_114 ?_
                refine lv_iload hx hb dmX13_isParted_117 (lv_at hl 0 rfl) ?_
                refine tw_iald mX_ok hx hb hK hM (mrn_3 hr1) hq dmX13_isParted_119 (fun v9 hq => ?_)
                refine lv_istore (lv' := [(8, .int v9), (7, .int v8), (0, .ref (u 0)), (1, .ref (u r1)), (2, .int x2), (3, .int x3), (4, .int x4), (5, .int x5), (6, .int x6)]) hx hb dmX13_isParted_120 hl (by decide) rfl (fun ls hl => ?_)
                exact ih_6 x2 x3 x4 x5 x6 v8 v9 r1 0 0 z H locs ls hr1 hM (lv_sub hl [2, 3, 4, 5, 6, 7, 8, 1, 0] rfl) hq
              · have hq := tw_it hq hc
                refine lv_iconst (v := 0) hx hb dmX13_isParted_111 (by decide) ?_
                obtain ⟨hz, hq⟩ := tw_gZ hq
                exact mw_zret hx hb hr hlocks hM hz hq hQQ dmX13_isParted_112
      · intro x2 x3 x4 x5 x6 x7 x8 r1 t0 t1 z H locs ls hr1 hM hl hq
        have hq : qm_X13_isParted_6 K (q_X13_isParted K k) x2 x3 x4 x5 x6 x7 x8 r1 t0 t1 z = some (r, z1) := hq
        unfold qm_X13_isParted_6 at hq
        refine lv_iload hx hb dmX13_isParted_122 (lv_at hl 8 rfl) ?_
        refine lv_aload_n hx hb dmX13_isParted_124 rfl (lv_at hl 1 rfl) ?_
        refine mg13_452 hx hb hT hown hK hM hN hr1 dmX13_isParted_125 ?_
        refine lv_iload hx hb dmX13_isParted_128 (lv_at hl 7 rfl) ?_
        refine lv_iconst (v := 1) hx hb dmX13_isParted_130 (by decide) ?_
        refine lv_iadd hx hb dmX13_isParted_131 ?_
        refine tw_iald mX_ok hx hb hK hM (mrn_3 hr1) hq dmX13_isParted_132 (fun v10 hq => ?_)
        refine lv_icmp_ge (tgt := 150) hx hb dmX13_isParted_133 (by decide) (fun hc => ?_) (fun hc => ?_)
        · have hq := tw_it hq hc
          refine lv_iconst (v := 1) hx hb dmX13_isParted_150 (by decide) ?_
          refine lv_istore (lv' := [(5, .int 1), (0, .ref (u 0)), (1, .ref (u r1)), (2, .int x2), (3, .int x3), (4, .int x4), (6, .int x6), (7, .int x7), (8, .int x8)]) hx hb dmX13_isParted_151 hl (by decide) rfl (fun ls hl => ?_)
          exact ih_7 x2 x3 x4 1 x6 0 0 r1 0 0 z H locs ls hr1 hM (lv_sub hl [1, 2, 3, 4, 5, 0, 6] rfl) hq
        · have hq := tw_if hq hc
          refine lv_aload_n hx hb dmX13_isParted_136 rfl (lv_at hl 0 rfl) ?_
          refine mg13_173 hx hb hT hown hK hM dmX13_isParted_137 ?_
          refine lv_iload hx hb dmX13_isParted_140 (lv_at hl 8 rfl) ?_
          refine lv_iconst (v := 1) hx hb dmX13_isParted_142 (by decide) ?_
          refine tw_zast mX_ok hU hx hb hK hM mr_38 hq dmX13_isParted_143 (fun z11 H locs hM hq => ?_)
          refine lv_iinc (v := (x8 + 1)) (lv' := [(8, .int (x8 + 1)), (0, .ref (u 0)), (1, .ref (u r1)), (2, .int x2), (3, .int x3), (4, .int x4), (5, .int x5), (6, .int x6), (7, .int x7)]) hx hb dmX13_isParted_144 hl (k := 8) rfl rfl (by decide) rfl (fun ls hl => ?_)
          refine lv_goto (tgt := 122) hx hb dmX13_isParted_147 (by decide) ?_
          exact ih_6 x2 x3 x4 x5 x6 x7 (x8 + 1) r1 0 0 z11 H locs ls hr1 hM (lv_sub hl [1, 2, 3, 4, 5, 6, 7, 8, 0] rfl) hq
      · intro x2 x3 x4 x5 x6 x7 x8 r1 t0 t1 z H locs ls hr1 hM hl hq
        have hq : qm_X13_isParted_7 K (q_X13_isParted K k) x2 x3 x4 x5 x6 x7 x8 r1 t0 t1 z = some (r, z1) := hq
        unfold qm_X13_isParted_7 at hq
        refine lv_iinc (v := (x6 + 1)) (lv' := [(6, .int (x6 + 1)), (0, .ref (u 0)), (1, .ref (u r1)), (2, .int x2), (3, .int x3), (4, .int x4), (5, .int x5)]) hx hb dmX13_isParted_153 hl (k := 6) rfl rfl (by decide) rfl (fun ls hl => ?_)
        refine lv_goto (tgt := 57) hx hb dmX13_isParted_156 (by decide) ?_
        exact ih_5 x2 x3 x4 x5 (x6 + 1) 0 0 r1 0 0 z H locs ls hr1 hM (lv_sub hl [1, 2, 3, 4, 5, 6, 0] rfl) hq
  exact (key K).1 x2 x3 x4 0 0 0 0 r1 0 0 z s.heap [] ls hr1 hM (lv_sub hl [0, 1, 2, 3, 4] rfl) hq
theorem dmX13_waitsFor_0 : decode cX13_waitsFor 0 = .ok (.aload_n 0, 1) := dw_at cX13_waitsFor_k0 (p := 0) rfl (by decide +kernel)
theorem dmX13_waitsFor_1 : decode cX13_waitsFor 1 = .ok (.getfield 121, 3) := dw_at cX13_waitsFor_k0 (p := 1) rfl (by decide +kernel)
theorem dmX13_waitsFor_4 : decode cX13_waitsFor 4 = .ok (.invokevirtual 91, 3) := dw_at cX13_waitsFor_k0 (p := 4) rfl (by decide +kernel)
theorem dmX13_waitsFor_7 : decode cX13_waitsFor 7 = .ok (.aload_n 0, 1) := dw_at cX13_waitsFor_k0 (p := 7) rfl (by decide +kernel)
theorem dmX13_waitsFor_8 : decode cX13_waitsFor 8 = .ok (.getfield 121, 3) := dw_at cX13_waitsFor_k0 (p := 8) rfl (by decide +kernel)
theorem dmX13_waitsFor_11 : decode cX13_waitsFor 11 = .ok (.aload_n 1, 1) := dw_at cX13_waitsFor_k0 (p := 11) rfl (by decide +kernel)
theorem dmX13_waitsFor_12 : decode cX13_waitsFor 12 = .ok (.invokevirtual 448, 3) := dw_at cX13_waitsFor_k0 (p := 12) rfl (by decide +kernel)
theorem dmX13_waitsFor_15 : decode cX13_waitsFor 15 = .ok (.iconst 0, 1) := dw_at cX13_waitsFor_k0 (p := 15) rfl (by decide +kernel)
theorem dmX13_waitsFor_16 : decode cX13_waitsFor 16 = .ok (.istore 4, 2) := dw_at cX13_waitsFor_k0 (p := 16) rfl (by decide +kernel)
theorem dmX13_waitsFor_18 : decode cX13_waitsFor 18 = .ok (.iload 4, 2) := dw_at cX13_waitsFor_k0 (p := 18) rfl (by decide +kernel)
theorem dmX13_waitsFor_20 : decode cX13_waitsFor 20 = .ok (.aload_n 1, 1) := dw_at cX13_waitsFor_k0 (p := 20) rfl (by decide +kernel)
theorem dmX13_waitsFor_21 : decode cX13_waitsFor 21 = .ok (.getfield 407, 3) := dw_at cX13_waitsFor_k0 (p := 21) rfl (by decide +kernel)
theorem dmX13_waitsFor_24 : decode cX13_waitsFor 24 = .ok (.if_icmp .ge 88, 3) := dw_at cX13_waitsFor_k1 (p := 0) rfl (by decide +kernel)
theorem dmX13_waitsFor_27 : decode cX13_waitsFor 27 = .ok (.iconst 0, 1) := dw_at cX13_waitsFor_k1 (p := 3) rfl (by decide +kernel)
theorem dmX13_waitsFor_28 : decode cX13_waitsFor 28 = .ok (.istore 5, 2) := dw_at cX13_waitsFor_k1 (p := 4) rfl (by decide +kernel)
theorem dmX13_waitsFor_30 : decode cX13_waitsFor 30 = .ok (.aload_n 1, 1) := dw_at cX13_waitsFor_k1 (p := 6) rfl (by decide +kernel)
theorem dmX13_waitsFor_31 : decode cX13_waitsFor 31 = .ok (.getfield 452, 3) := dw_at cX13_waitsFor_k1 (p := 7) rfl (by decide +kernel)
theorem dmX13_waitsFor_34 : decode cX13_waitsFor 34 = .ok (.iload 4, 2) := dw_at cX13_waitsFor_k1 (p := 10) rfl (by decide +kernel)
theorem dmX13_waitsFor_36 : decode cX13_waitsFor 36 = .ok (.iaload, 1) := dw_at cX13_waitsFor_k1 (p := 12) rfl (by decide +kernel)
theorem dmX13_waitsFor_37 : decode cX13_waitsFor 37 = .ok (.istore 6, 2) := dw_at cX13_waitsFor_k1 (p := 13) rfl (by decide +kernel)
theorem dmX13_waitsFor_39 : decode cX13_waitsFor 39 = .ok (.iload 6, 2) := dw_at cX13_waitsFor_k1 (p := 15) rfl (by decide +kernel)
theorem dmX13_waitsFor_41 : decode cX13_waitsFor 41 = .ok (.aload_n 1, 1) := dw_at cX13_waitsFor_k1 (p := 17) rfl (by decide +kernel)
theorem dmX13_waitsFor_42 : decode cX13_waitsFor 42 = .ok (.getfield 452, 3) := dw_at cX13_waitsFor_k1 (p := 18) rfl (by decide +kernel)
theorem dmX13_waitsFor_45 : decode cX13_waitsFor 45 = .ok (.iload 4, 2) := dw_at cX13_waitsFor_k1 (p := 21) rfl (by decide +kernel)
theorem dmX13_waitsFor_47 : decode cX13_waitsFor 47 = .ok (.iconst 1, 1) := dw_at cX13_waitsFor_k1 (p := 23) rfl (by decide +kernel)
theorem dmX13_waitsFor_48 : decode cX13_waitsFor 48 = .ok (.iadd, 1) := dw_at cX13_waitsFor_k2 (p := 0) rfl (by decide +kernel)
theorem dmX13_waitsFor_49 : decode cX13_waitsFor 49 = .ok (.iaload, 1) := dw_at cX13_waitsFor_k2 (p := 1) rfl (by decide +kernel)
theorem dmX13_waitsFor_50 : decode cX13_waitsFor 50 = .ok (.if_icmp .ge 44, 3) := dw_at cX13_waitsFor_k2 (p := 2) rfl (by decide +kernel)
theorem dmX13_waitsFor_53 : decode cX13_waitsFor 53 = .ok (.aload_n 0, 1) := dw_at cX13_waitsFor_k2 (p := 5) rfl (by decide +kernel)
theorem dmX13_waitsFor_54 : decode cX13_waitsFor 54 = .ok (.getfield 173, 3) := dw_at cX13_waitsFor_k2 (p := 6) rfl (by decide +kernel)
theorem dmX13_waitsFor_57 : decode cX13_waitsFor 57 = .ok (.iload 6, 2) := dw_at cX13_waitsFor_k2 (p := 9) rfl (by decide +kernel)
theorem dmX13_waitsFor_59 : decode cX13_waitsFor 59 = .ok (.baload, 1) := dw_at cX13_waitsFor_k2 (p := 11) rfl (by decide +kernel)
theorem dmX13_waitsFor_60 : decode cX13_waitsFor 60 = .ok (.iload_n 2, 1) := dw_at cX13_waitsFor_k2 (p := 12) rfl (by decide +kernel)
theorem dmX13_waitsFor_61 : decode cX13_waitsFor 61 = .ok (.if_icmp .ne 27, 3) := dw_at cX13_waitsFor_k2 (p := 13) rfl (by decide +kernel)
theorem dmX13_waitsFor_64 : decode cX13_waitsFor 64 = .ok (.aload_n 0, 1) := dw_at cX13_waitsFor_k2 (p := 16) rfl (by decide +kernel)
theorem dmX13_waitsFor_65 : decode cX13_waitsFor 65 = .ok (.getfield 121, 3) := dw_at cX13_waitsFor_k2 (p := 17) rfl (by decide +kernel)
theorem dmX13_waitsFor_68 : decode cX13_waitsFor 68 = .ok (.aload_n 1, 1) := dw_at cX13_waitsFor_k2 (p := 20) rfl (by decide +kernel)
theorem dmX13_waitsFor_69 : decode cX13_waitsFor 69 = .ok (.getfield 23, 3) := dw_at cX13_waitsFor_k2 (p := 21) rfl (by decide +kernel)
theorem dmX13_waitsFor_72 : decode cX13_waitsFor 72 = .ok (.iload 6, 2) := dw_at cX13_waitsFor_k3 (p := 0) rfl (by decide +kernel)
theorem dmX13_waitsFor_74 : decode cX13_waitsFor 74 = .ok (.iaload, 1) := dw_at cX13_waitsFor_k3 (p := 2) rfl (by decide +kernel)
theorem dmX13_waitsFor_75 : decode cX13_waitsFor 75 = .ok (.aload_n 1, 1) := dw_at cX13_waitsFor_k3 (p := 3) rfl (by decide +kernel)
theorem dmX13_waitsFor_76 : decode cX13_waitsFor 76 = .ok (.getfield 32, 3) := dw_at cX13_waitsFor_k3 (p := 4) rfl (by decide +kernel)
theorem dmX13_waitsFor_79 : decode cX13_waitsFor 79 = .ok (.iload 6, 2) := dw_at cX13_waitsFor_k3 (p := 7) rfl (by decide +kernel)
theorem dmX13_waitsFor_81 : decode cX13_waitsFor 81 = .ok (.iaload, 1) := dw_at cX13_waitsFor_k3 (p := 9) rfl (by decide +kernel)
theorem dmX13_waitsFor_82 : decode cX13_waitsFor 82 = .ok (.invokevirtual 97, 3) := dw_at cX13_waitsFor_k3 (p := 10) rfl (by decide +kernel)
theorem dmX13_waitsFor_85 : decode cX13_waitsFor 85 = .ok (.iinc 5 1, 3) := dw_at cX13_waitsFor_k3 (p := 13) rfl (by decide +kernel)
theorem dmX13_waitsFor_88 : decode cX13_waitsFor 88 = .ok (.iinc 6 1, 3) := dw_at cX13_waitsFor_k3 (p := 16) rfl (by decide +kernel)
theorem dmX13_waitsFor_91 : decode cX13_waitsFor 91 = .ok (.goto (-52), 3) := dw_at cX13_waitsFor_k3 (p := 19) rfl (by decide +kernel)
theorem dmX13_waitsFor_94 : decode cX13_waitsFor 94 = .ok (.iload 5, 2) := dw_at cX13_waitsFor_k3 (p := 22) rfl (by decide +kernel)
theorem dmX13_waitsFor_96 : decode cX13_waitsFor 96 = .ok (.ifCond .le 10, 3) := dw_at cX13_waitsFor_k4 (p := 0) rfl (by decide +kernel)
theorem dmX13_waitsFor_99 : decode cX13_waitsFor 99 = .ok (.aload_n 0, 1) := dw_at cX13_waitsFor_k4 (p := 3) rfl (by decide +kernel)
theorem dmX13_waitsFor_100 : decode cX13_waitsFor 100 = .ok (.getfield 121, 3) := dw_at cX13_waitsFor_k4 (p := 4) rfl (by decide +kernel)
theorem dmX13_waitsFor_103 : decode cX13_waitsFor 103 = .ok (.invokevirtual 94, 3) := dw_at cX13_waitsFor_k4 (p := 7) rfl (by decide +kernel)
theorem dmX13_waitsFor_106 : decode cX13_waitsFor 106 = .ok (.iinc 4 1, 3) := dw_at cX13_waitsFor_k4 (p := 10) rfl (by decide +kernel)
theorem dmX13_waitsFor_109 : decode cX13_waitsFor 109 = .ok (.goto (-91), 3) := dw_at cX13_waitsFor_k4 (p := 13) rfl (by decide +kernel)
theorem dmX13_waitsFor_112 : decode cX13_waitsFor 112 = .ok (.aload_n 0, 1) := dw_at cX13_waitsFor_k4 (p := 16) rfl (by decide +kernel)
theorem dmX13_waitsFor_113 : decode cX13_waitsFor 113 = .ok (.aload_n 0, 1) := dw_at cX13_waitsFor_k4 (p := 17) rfl (by decide +kernel)
theorem dmX13_waitsFor_114 : decode cX13_waitsFor 114 = .ok (.getfield 121, 3) := dw_at cX13_waitsFor_k4 (p := 18) rfl (by decide +kernel)
theorem dmX13_waitsFor_117 : decode cX13_waitsFor 117 = .ok (.aload_n 0, 1) := dw_at cX13_waitsFor_k4 (p := 21) rfl (by decide +kernel)
theorem dmX13_waitsFor_118 : decode cX13_waitsFor 118 = .ok (.getfield 170, 3) := dw_at cX13_waitsFor_k4 (p := 22) rfl (by decide +kernel)
theorem dmX13_waitsFor_121 : decode cX13_waitsFor 121 = .ok (.bipush 32, 2) := dw_at cX13_waitsFor_k5 (p := 0) rfl (by decide +kernel)
theorem dmX13_waitsFor_123 : decode cX13_waitsFor 123 = .ok (.iload_n 3, 1) := dw_at cX13_waitsFor_k5 (p := 2) rfl (by decide +kernel)
theorem dmX13_waitsFor_124 : decode cX13_waitsFor 124 = .ok (.imul, 1) := dw_at cX13_waitsFor_k5 (p := 3) rfl (by decide +kernel)
theorem dmX13_waitsFor_125 : decode cX13_waitsFor 125 = .ok (.invokevirtual 396, 3) := dw_at cX13_waitsFor_k5 (p := 4) rfl (by decide +kernel)
theorem dmX13_waitsFor_128 : decode cX13_waitsFor 128 = .ok (.return_, 1) := dw_at cX13_waitsFor_k5 (p := 7) rfl (by decide +kernel)
def qm_X13_waitsFor_0 (K : Nat) (go : Nat → Int32 → Int32 → Int32 → Int32 → Int32 → Nat → ow_MS → Option ow_MS) (x2 : Int32) (x3 : Int32) (x4 : Int32) (x5 : Int32) (x6 : Int32) (r1 : Nat) (z : ow_MS) : Option ow_MS :=
 cs0 (qe_X12_clear K 3000 z) fun z1 => cs0 (qe_X12_signsOf K 3000 r1 z1) fun z2 => go 1 x2 x3 0 0 0 r1 z2
def qm_X13_waitsFor_1 (K : Nat) (go : Nat → Int32 → Int32 → Int32 → Int32 → Int32 → Nat → ow_MS → Option ow_MS) (x2 : Int32) (x3 : Int32) (x4 : Int32) (x5 : Int32) (x6 : Int32) (r1 : Nat) (z : ow_MS) : Option ow_MS :=
 rdF z (r1 + 2) fun v3 => (if v3 ≤ x4 then cs0 (qe_X13_pack K 3000 37 (32 * x3) z) fun z4 => some z4
 else rdI mX z (r1 + 3) x4 fun v5 => go 2 x2 x3 x4 0 v5 r1 z)
def qm_X13_waitsFor_2 (K : Nat) (go : Nat → Int32 → Int32 → Int32 → Int32 → Int32 → Nat → ow_MS → Option ow_MS) (x2 : Int32) (x3 : Int32) (x4 : Int32) (x5 : Int32) (x6 : Int32) (r1 : Nat) (z : ow_MS) : Option ow_MS :=
 rdI mX z (r1 + 3) (x4 + 1) fun v6 => (if v6 ≤ x6 then (if x5 ≤ 0 then go 4 x2 x3 x4 x5 x6 r1 z
 else cs0 (qe_X12_end K 3000 z) fun z7 => go 4 x2 x3 x4 x5 x6 r1 z7)
 else rdI mX z 38 x6 fun v8 => (if v8 = x2 then rdI mX z (r1 + 4) x6 fun v9 => rdI mX z (r1 + 5) x6 fun v10 => cs0 (qe_X12_add K 3000 v9 v10 z) fun z11 => go 3 x2 x3 x4 (x5 + 1) x6 r1 z11
 else go 3 x2 x3 x4 x5 x6 r1 z))
def qm_X13_waitsFor_3 (K : Nat) (go : Nat → Int32 → Int32 → Int32 → Int32 → Int32 → Nat → ow_MS → Option ow_MS) (x2 : Int32) (x3 : Int32) (x4 : Int32) (x5 : Int32) (x6 : Int32) (r1 : Nat) (z : ow_MS) : Option ow_MS :=
 go 2 x2 x3 x4 x5 (x6 + 1) r1 z
def qm_X13_waitsFor_4 (K : Nat) (go : Nat → Int32 → Int32 → Int32 → Int32 → Int32 → Nat → ow_MS → Option ow_MS) (x2 : Int32) (x3 : Int32) (x4 : Int32) (x5 : Int32) (x6 : Int32) (r1 : Nat) (z : ow_MS) : Option ow_MS :=
 go 1 x2 x3 (x4 + 1) 0 0 r1 z
def qb_X13_waitsFor (K : Nat) (go : Nat → Int32 → Int32 → Int32 → Int32 → Int32 → Nat → ow_MS → Option ow_MS) (L : Nat) (x2 : Int32) (x3 : Int32) (x4 : Int32) (x5 : Int32) (x6 : Int32) (r1 : Nat) (z : ow_MS) : Option ow_MS := match L with
  | 0 => qm_X13_waitsFor_0 K go x2 x3 x4 x5 x6 r1 z
  | 1 => qm_X13_waitsFor_1 K go x2 x3 x4 x5 x6 r1 z
  | 2 => qm_X13_waitsFor_2 K go x2 x3 x4 x5 x6 r1 z
  | 3 => qm_X13_waitsFor_3 K go x2 x3 x4 x5 x6 r1 z
  | 4 => qm_X13_waitsFor_4 K go x2 x3 x4 x5 x6 r1 z
  | _ => none
def q_X13_waitsFor (K : Nat) : Nat → Nat → Int32 → Int32 → Int32 → Int32 → Int32 → Nat → ow_MS → Option ow_MS
  | 0 => fun _ _ _ _ _ _ _ _ => none
  | k + 1 => qb_X13_waitsFor K (q_X13_waitsFor K k)
def qe_X13_waitsFor (K : Nat) (r1 : Nat) (x2 : Int32) (x3 : Int32) (z : ow_MS) : Option ow_MS := q_X13_waitsFor K K 0 x2 x3 0 0 0 r1 z
abbrev wm_X13_waitsFor : List Cond := .code yX13_waitsFor cX13_waitsFor 7 none :: wM
theorem cd_X13_waitsFor : yX13_waitsFor.cls = RX13 ∧ yX13_waitsFor.cls ≠ "java/lang/invoke/MethodHandle" ∧ yX13_waitsFor.cls ≠ "java/lang/invoke/VarHandle" ∧ (parseMethodDescriptor yX13_waitsFor.desc).map (fun d => d.parameters.length) = some 3 := by decide +kernel
set_option maxHeartbeats 4000000 in
set_option maxRecDepth 100000 in
theorem km_X13_waitsFor (l : Launch) (D : va_G) (q : ow_Q5) (u : Nat → Nat) (hU : tw_inj mX u) (K : Nat) (r1 : Nat) (x2 : Int32) (x3 : Int32) (hr1 : mw_net r1) (z z1 : ow_MS) (hq : qe_X13_waitsFor K r1 x2 x3 z = some z1) : Met l yX13_waitsFor wm_X13_waitsFor ({ frames := 4, cells := 0, slots := 0, locals := 111 } : Room) (va_Pc [.ref (u 0), .ref (u r1), .int x2, .int x3] (mw_pre D q u z)) (va_Qv (fun (_ : Unit) => True) (fun _ t => va_P D vwCl (tw mX q u z1) t.heap) (tw_A mX u)) 0 0 (tw_A mX u) := by
  refine Met.ofW (cc := cX13_waitsFor) (maxL := 7) (ret := none) (by decide) rfl ?_
  intro p e s m args below meth c s₁ B hml hv
  obtain ⟨rfl, hP, hK, hN⟩ := hv
  have hx := B.exec
  have hb := B.bytes
  have hr := B.returns
  have hts := atoms_spec (ws := wm_X13_waitsFor) B.pre
  have hT : ∀ w ∈ wM, w.before ([.ref (u 0), .ref (u r1), .int x2, .int x3] : List Value).toArray s = true := fun w h => hts w (List.mem_cons_of_mem _ h)
  have hown : s.vm.findClass RX13 = some m.cls := findClass_of_methodNamed B.named
  have hlocks := B.notSynchronized
  have hM : tw_M D vwCl mX q s.heap u z s.heap [] := ⟨hP, va_S.rf⟩
  have hl := lv_entry ([.ref (u 0), .ref (u r1), .int x2, .int x3]) (n := 7) (Nat.le_of_ble_eq_true rfl)
  rw [lg_entry_eq]
  generalize (lg_sl ([.ref (u 0), .ref (u r1), .int x2, .int x3]) ++ List.replicate (7 - (lg_sl ([.ref (u 0), .ref (u r1), .int x2, .int x3])).length) Slot.unset).toArray = ls at hl ⊢
  have hl : lv_has ls 7 [(0, .ref (u 0)), (1, .ref (u r1)), (2, .int x2), (3, .int x3)] := hl
  refine ow_named (fun QQ hQQ => ?_)
  generalize ([.ref (u 0), .ref (u r1), .int x2, .int x3] : List Value).toArray = args at hts hT hQQ ⊢
  have key : ∀ k : Nat, (∀ (x2 : Int32) (x3 : Int32) (x4 : Int32) (x5 : Int32) (x6 : Int32) (r1 : Nat) (z : ow_MS) (H : Heap) (locs : List Loc) (ls : Array Slot), mw_net r1 → tw_M D vwCl mX q s.heap u z H locs → lv_has ls 7 [(0, .ref (u 0)), (1, .ref (u r1)), (2, .int x2), (3, .int x3)] → q_X13_waitsFor K k 0 x2 x3 x4 x5 x6 r1 z = some z1 → W p l e ({ frames := 4, cells := 0, slots := 0, locals := 111 } : Room) s m args below meth c H locs 0 0 QQ (F0 m 0 ls [])) ∧ (∀ (x2 : Int32) (x3 : Int32) (x4 : Int32) (x5 : Int32) (x6 : Int32) (r1 : Nat) (z : ow_MS) (H : Heap) (locs : List Loc) (ls : Array Slot), mw_net r1 → tw_M D vwCl mX q s.heap u z H locs → lv_has ls 7 [(0, .ref (u 0)), (1, .ref (u r1)), (2, .int x2), (3, .int x3), (4, .int x4)] → q_X13_waitsFor K k 1 x2 x3 x4 x5 x6 r1 z = some z1 → W p l e ({ frames := 4, cells := 0, slots := 0, locals := 111 } : Room) s m args below meth c H locs 0 0 QQ (F0 m 18 ls [])) ∧ (∀ (x2 : Int32) (x3 : Int32) (x4 : Int32) (x5 : Int32) (x6 : Int32) (r1 : Nat) (z : ow_MS) (H : Heap) (locs : List Loc) (ls : Array Slot), mw_net r1 → tw_M D vwCl mX q s.heap u z H locs → lv_has ls 7 [(0, .ref (u 0)), (1, .ref (u r1)), (2, .int x2), (3, .int x3), (4, .int x4), (5, .int x5), (6, .int x6)] → q_X13_waitsFor K k 2 x2 x3 x4 x5 x6 r1 z = some z1 → W p l e ({ frames := 4, cells := 0, slots := 0, locals := 111 } : Room) s m args below meth c H locs 0 0 QQ (F0 m 39 ls [])) ∧ (∀ (x2 : Int32) (x3 : Int32) (x4 : Int32) (x5 : Int32) (x6 : Int32) (r1 : Nat) (z : ow_MS) (H : Heap) (locs : List Loc) (ls : Array Slot), mw_net r1 → tw_M D vwCl mX q s.heap u z H locs → lv_has ls 7 [(0, .ref (u 0)), (1, .ref (u r1)), (2, .int x2), (3, .int x3), (4, .int x4), (5, .int x5), (6, .int x6)] → q_X13_waitsFor K k 3 x2 x3 x4 x5 x6 r1 z = some z1 → W p l e ({ frames := 4, cells := 0, slots := 0, locals := 111 } : Room) s m args below meth c H locs 0 0 QQ (F0 m 88 ls [])) ∧ (∀ (x2 : Int32) (x3 : Int32) (x4 : Int32) (x5 : Int32) (x6 : Int32) (r1 : Nat) (z : ow_MS) (H : Heap) (locs : List Loc) (ls : Array Slot), mw_net r1 → tw_M D vwCl mX q s.heap u z H locs → lv_has ls 7 [(0, .ref (u 0)), (1, .ref (u r1)), (2, .int x2), (3, .int x3), (4, .int x4), (5, .int x5), (6, .int x6)] → q_X13_waitsFor K k 4 x2 x3 x4 x5 x6 r1 z = some z1 → W p l e ({ frames := 4, cells := 0, slots := 0, locals := 111 } : Room) s m args below meth c H locs 0 0 QQ (F0 m 106 ls [])) := by
    intro k
    induction k with
    | zero => exact ⟨fun _ _ _ _ _ _ _ _ _ _ _ _ _ hq => tw_no hq, fun _ _ _ _ _ _ _ _ _ _ _ _ _ hq => tw_no hq, fun _ _ _ _ _ _ _ _ _ _ _ _ _ hq => tw_no hq, fun _ _ _ _ _ _ _ _ _ _ _ _ _ hq => tw_no hq, fun _ _ _ _ _ _ _ _ _ _ _ _ _ hq => tw_no hq⟩
    | succ k ih =>
      obtain ⟨ih_0, ih_1, ih_2, ih_3, ih_4⟩ := ih
      refine ⟨?_, ?_, ?_, ?_, ?_⟩
      · intro x2 x3 x4 x5 x6 r1 z H locs ls hr1 hM hl hq
        have hq : qm_X13_waitsFor_0 K (q_X13_waitsFor K k) x2 x3 x4 x5 x6 r1 z = some z1 := hq
        unfold qm_X13_waitsFor_0 at hq
        refine lv_aload_n hx hb dmX13_waitsFor_0 rfl (lv_at hl 0 rfl) ?_
        refine mg13_121 hx hb hT hown hK hM dmX13_waitsFor_1 ?_
        obtain ⟨z1, hcq, hq⟩ := tw_cl0 hq
        refine tw_calv hM (va_runV (As := []) (rest := []) ⟨hx, hb, hml, hown, hts⟩ (km_X12_clear l D q u hU K 3000 mw_n3 z z1 hcq) (cwV 0 hts (tw_gV wM_good wq_85 wq_11 wq_12 wq_13 wq_3) rfl rfl rfl cd_X12_clear ⟨(Nat.le_of_ble_eq_true rfl), (Nat.le_of_ble_eq_true rfl)⟩) (mw_preV hK hN hM (mo_n mw_n3) rfl) rfl rfl hl.1 rfl (lv_room (Nat.le_of_ble_eq_true rfl)) dmX13_waitsFor_4 ⟨(Nat.le_of_ble_eq_true rfl), (Nat.le_of_ble_eq_true rfl)⟩) (fun H locs hM => ?_)
        refine lv_aload_n hx hb dmX13_waitsFor_7 rfl (lv_at hl 0 rfl) ?_
        refine mg13_121 hx hb hT hown hK hM dmX13_waitsFor_8 ?_
        refine lv_aload_n hx hb dmX13_waitsFor_11 rfl (lv_at hl 1 rfl) ?_
        obtain ⟨z2, hcq, hq⟩ := tw_cl0 hq
        refine tw_calv hM (va_runV (As := [.ref (u r1)]) (rest := []) ⟨hx, hb, hml, hown, hts⟩ (km_X12_signsOf l D q u hU K 3000 r1 mw_n3 hr1 z1 z2 hcq) (cwV 1 hts (tw_gV wM_good wq_153 wq_21 wq_22 wq_13 wq_9) rfl rfl rfl cd_X12_signsOf ⟨(Nat.le_of_ble_eq_true rfl), (Nat.le_of_ble_eq_true rfl)⟩) (mw_preV hK hN hM (mo_n mw_n3) rfl) rfl rfl hl.1 rfl (lv_room (Nat.le_of_ble_eq_true rfl)) dmX13_waitsFor_12 ⟨(Nat.le_of_ble_eq_true rfl), (Nat.le_of_ble_eq_true rfl)⟩) (fun H locs hM => ?_)
        refine lv_iconst (v := 0) hx hb dmX13_waitsFor_15 (by decide) ?_
        refine lv_istore (lv' := [(4, .int 0), (0, .ref (u 0)), (1, .ref (u r1)), (2, .int x2), (3, .int x3)]) hx hb dmX13_waitsFor_16 hl (by decide) rfl (fun ls hl => ?_)
        exact ih_1 x2 x3 0 0 0 r1 z2 H locs ls hr1 hM (lv_sub hl [1, 2, 3, 4, 0] rfl) hq
      · intro x2 x3 x4 x5 x6 r1 z H locs ls hr1 hM hl hq
        have hq : qm_X13_waitsFor_1 K (q_X13_waitsFor K k) x2 x3 x4 x5 x6 r1 z = some z1 := hq
        unfold qm_X13_waitsFor_1 at hq
        refine lv_iload hx hb dmX13_waitsFor_18 (lv_at hl 4 rfl) ?_
        refine lv_aload_n hx hb dmX13_waitsFor_20 rfl (lv_at hl 1 rfl) ?_
        refine mg13_407 hx hb hT hown hK hM hN hr1 hq dmX13_waitsFor_21 (fun v3 hq => ?_)
        refine lv_icmp_ge (tgt := 112) hx hb dmX13_waitsFor_24 (by decide) (fun hc => ?_) (fun hc => ?_)
        · have hq := tw_it hq hc
          refine lv_aload_n hx hb dmX13_waitsFor_112 rfl (lv_at hl 0 rfl) ?_
          refine lv_aload_n hx hb dmX13_waitsFor_113 rfl (lv_at hl 0 rfl) ?_
          refine mg13_121 hx hb hT hown hK hM dmX13_waitsFor_114 ?_
          refine lv_aload_n hx hb dmX13_waitsFor_117 rfl (lv_at hl 0 rfl) ?_
          refine mg13_170 hx hb hT hown hK hM dmX13_waitsFor_118 ?_
          refine lv_bipush (v := 32) hx hb dmX13_waitsFor_121 (by decide) ?_
          refine lv_iload_n hx hb dmX13_waitsFor_123 rfl (lv_at hl 3 rfl) ?_
          refine lv_imul hx hb dmX13_waitsFor_124 ?_
          obtain ⟨z4, hcq, hq⟩ := tw_cl0 hq
          refine tw_calv hM (va_runV (As := [.ref (u 3000), .ref (u 37), .int (32 * x3)]) (rest := []) ⟨hx, hb, hml, hown, hts⟩ (km_X13_pack l D q u hU K 3000 37 (32 * x3) mw_n3 mr_37 z z4 hcq) (cwV 3 hts (tw_gV wM_good wq_96 wq_97 wq_98 wq_61 wq_84) rfl rfl rfl cd_X13_pack ⟨(Nat.le_of_ble_eq_true rfl), (Nat.le_of_ble_eq_true rfl)⟩) (mw_preV hK hN hM mo_0 rfl) rfl rfl hl.1 rfl (lv_room (Nat.le_of_ble_eq_true rfl)) dmX13_waitsFor_125 ⟨(Nat.le_of_ble_eq_true rfl), (Nat.le_of_ble_eq_true rfl)⟩) (fun H locs hM => ?_)
          exact mw_vret hx hb hr hlocks hM hq hQQ dmX13_waitsFor_128
        · have hq := tw_if hq hc
          refine lv_iconst (v := 0) hx hb dmX13_waitsFor_27 (by decide) ?_
          refine lv_istore (lv' := [(5, .int 0), (0, .ref (u 0)), (1, .ref (u r1)), (2, .int x2), (3, .int x3), (4, .int x4)]) hx hb dmX13_waitsFor_28 hl (by decide) rfl (fun ls hl => ?_)
          refine lv_aload_n hx hb dmX13_waitsFor_30 rfl (lv_at hl 2 rfl) ?_
          refine mg13_452 hx hb hT hown hK hM hN hr1 dmX13_waitsFor_31 ?_
          refine lv_iload hx hb dmX13_waitsFor_34 (lv_at hl 5 rfl) ?_
          refine tw_iald mX_ok hx hb hK hM (mrn_3 hr1) hq dmX13_waitsFor_36 (fun v5 hq => ?_)
          refine lv_istore (lv' := [(6, .int v5), (5, .int 0), (0, .ref (u 0)), (1, .ref (u r1)), (2, .int x2), (3, .int x3), (4, .int x4)]) hx hb dmX13_waitsFor_37 hl (by decide) rfl (fun ls hl => ?_)
          exact ih_2 x2 x3 x4 0 v5 r1 z H locs ls hr1 hM (lv_sub hl [2, 3, 4, 5, 6, 1, 0] rfl) hq
      · intro x2 x3 x4 x5 x6 r1 z H locs ls hr1 hM hl hq
        have hq : qm_X13_waitsFor_2 K (q_X13_waitsFor K k) x2 x3 x4 x5 x6 r1 z = some z1 := hq
        unfold qm_X13_waitsFor_2 at hq
        refine lv_iload hx hb dmX13_waitsFor_39 (lv_at hl 6 rfl) ?_
        refine lv_aload_n hx hb dmX13_waitsFor_41 rfl (lv_at hl 1 rfl) ?_
        refine mg13_452 hx hb hT hown hK hM hN hr1 dmX13_waitsFor_42 ?_
        refine lv_iload hx hb dmX13_waitsFor_45 (lv_at hl 4 rfl) ?_
        refine lv_iconst (v := 1) hx hb dmX13_waitsFor_47 (by decide) ?_
        refine lv_iadd hx hb dmX13_waitsFor_48 ?_
        refine tw_iald mX_ok hx hb hK hM (mrn_3 hr1) hq dmX13_waitsFor_49 (fun v6 hq => ?_)
        refine lv_icmp_ge (tgt := 94) hx hb dmX13_waitsFor_50 (by decide) (fun hc => ?_) (fun hc => ?_)
        · have hq := tw_it hq hc
          refine lv_iload hx hb dmX13_waitsFor_94 (lv_at hl 5 rfl) ?_
          refine lv_if_le (tgt := 106) hx hb dmX13_waitsFor_96 (by decide) (fun hc => ?_) (fun hc => ?_)
          · have hq := tw_it hq hc
            exact ih_4 x2 x3 x4 x5 x6 r1 z H locs ls hr1 hM (lv_sub hl [0, 1, 2, 3, 4, 5, 6] rfl) hq
          · have hq := tw_if hq hc
            refine lv_aload_n hx hb dmX13_waitsFor_99 rfl (lv_at hl 0 rfl) ?_
            refine mg13_121 hx hb hT hown hK hM dmX13_waitsFor_100 ?_
            obtain ⟨z7, hcq, hq⟩ := tw_cl0 hq
            refine tw_calv hM (va_runV (As := []) (rest := []) ⟨hx, hb, hml, hown, hts⟩ (km_X12_end l D q u hU K 3000 mw_n3 z z7 hcq) (cwV 0 hts (tw_gV wM_good wq_86 wq_18 wq_19 wq_13 wq_7) rfl rfl rfl cd_X12_end ⟨(Nat.le_of_ble_eq_true rfl), (Nat.le_of_ble_eq_true rfl)⟩) (mw_preV hK hN hM (mo_n mw_n3) rfl) rfl rfl hl.1 rfl (lv_room (Nat.le_of_ble_eq_true rfl)) dmX13_waitsFor_103 ⟨(Nat.le_of_ble_eq_true rfl), (Nat.le_of_ble_eq_true rfl)⟩) (fun H locs hM => ?_)
            exact ih_4 x2 x3 x4 x5 x6 r1 z7 H locs ls hr1 hM (lv_sub hl [0, 1, 2, 3, 4, 5, 6] rfl) hq
        · have hq := tw_if hq hc
          refine lv_aload_n hx hb dmX13_waitsFor_53 rfl (lv_at hl 0 rfl) ?_
          refine mg13_173 hx hb hT hown hK hM dmX13_waitsFor_54 ?_
          refine lv_iload hx hb dmX13_waitsFor_57 (lv_at hl 6 rfl) ?_
          refine tw_zald mX_ok hx hb hK hM mr_38 hq dmX13_waitsFor_59 (fun v8 hq => ?_)
          refine lv_iload_n hx hb dmX13_waitsFor_60 rfl (lv_at hl 2 rfl) ?_
          refine lv_icmp_ne (tgt := 88) hx hb dmX13_waitsFor_61 (by decide) (fun hc => ?_) (fun hc => ?_)
          · have hq := tw_if hq hc
            exact ih_3 x2 x3 x4 x5 x6 r1 z H locs ls hr1 hM (lv_sub hl [0, 1, 2, 3, 4, 5, 6] rfl) hq
          · have hq := tw_it hq hc
            refine lv_aload_n hx hb dmX13_waitsFor_64 rfl (lv_at hl 0 rfl) ?_
            refine mg13_121 hx hb hT hown hK hM dmX13_waitsFor_65 ?_
            refine lv_aload_n hx hb dmX13_waitsFor_68 rfl (lv_at hl 1 rfl) ?_
            refine mg13_23 hx hb hT hown hK hM hN hr1 dmX13_waitsFor_69 ?_
            refine lv_iload hx hb dmX13_waitsFor_72 (lv_at hl 6 rfl) ?_
            refine tw_iald mX_ok hx hb hK hM (mrn_4 hr1) hq dmX13_waitsFor_74 (fun v9 hq => ?_)
            refine lv_aload_n hx hb dmX13_waitsFor_75 rfl (lv_at hl 1 rfl) ?_
            refine mg13_32 hx hb hT hown hK hM hN hr1 dmX13_waitsFor_76 ?_
            refine lv_iload hx hb dmX13_waitsFor_79 (lv_at hl 6 rfl) ?_
            refine tw_iald mX_ok hx hb hK hM (mrn_5 hr1) hq dmX13_waitsFor_81 (fun v10 hq => ?_)
            obtain ⟨z11, hcq, hq⟩ := tw_cl0 hq
            refine tw_calv hM (va_runV (As := [.int v9, .int v10]) (rest := []) ⟨hx, hb, hml, hown, hts⟩ (km_X12_add l D q u hU K 3000 v9 v10 mw_n3 z z11 hcq) (cwV 2 hts (tw_gV wM_good wq_87 wq_15 wq_16 wq_13 wq_6) rfl rfl rfl cd_X12_add ⟨(Nat.le_of_ble_eq_true rfl), (Nat.le_of_ble_eq_true rfl)⟩) (mw_preV hK hN hM (mo_n mw_n3) rfl) rfl rfl hl.1 rfl (lv_room (Nat.le_of_ble_eq_true rfl)) dmX13_waitsFor_82 ⟨(Nat.le_of_ble_eq_true rfl), (Nat.le_of_ble_eq_true rfl)⟩) (fun H locs hM => ?_)
            refine lv_iinc (v := (x5 + 1)) (lv' := [(5, .int (x5 + 1)), (0, .ref (u 0)), (1, .ref (u r1)), (2, .int x2), (3, .int x3), (4, .int x4), (6, .int x6)]) hx hb dmX13_waitsFor_85 hl (k := 5) rfl rfl (by decide) rfl (fun ls hl => ?_)
            exact ih_3 x2 x3 x4 (x5 + 1) x6 r1 z11 H locs ls hr1 hM (lv_sub hl [1, 2, 3, 4, 5, 0, 6] rfl) hq
      · intro x2 x3 x4 x5 x6 r1 z H locs ls hr1 hM hl hq
        have hq : qm_X13_waitsFor_3 K (q_X13_waitsFor K k) x2 x3 x4 x5 x6 r1 z = some z1 := hq
        unfold qm_X13_waitsFor_3 at hq
        refine lv_iinc (v := (x6 + 1)) (lv' := [(6, .int (x6 + 1)), (0, .ref (u 0)), (1, .ref (u r1)), (2, .int x2), (3, .int x3), (4, .int x4), (5, .int x5)]) hx hb dmX13_waitsFor_88 hl (k := 6) rfl rfl (by decide) rfl (fun ls hl => ?_)
        refine lv_goto (tgt := 39) hx hb dmX13_waitsFor_91 (by decide) ?_
        exact ih_2 x2 x3 x4 x5 (x6 + 1) r1 z H locs ls hr1 hM (lv_sub hl [1, 2, 3, 4, 5, 6, 0] rfl) hq
      · intro x2 x3 x4 x5 x6 r1 z H locs ls hr1 hM hl hq
        have hq : qm_X13_waitsFor_4 K (q_X13_waitsFor K k) x2 x3 x4 x5 x6 r1 z = some z1 := hq
        unfold qm_X13_waitsFor_4 at hq
        refine lv_iinc (v := (x4 + 1)) (lv' := [(4, .int (x4 + 1)), (0, .ref (u 0)), (1, .ref (u r1)), (2, .int x2), (3, .int x3), (5, .int x5), (6, .int x6)]) hx hb dmX13_waitsFor_106 hl (k := 4) rfl rfl (by decide) rfl (fun ls hl => ?_)
        refine lv_goto (tgt := 18) hx hb dmX13_waitsFor_109 (by decide) ?_
        exact ih_1 x2 x3 (x4 + 1) 0 0 r1 z H locs ls hr1 hM (lv_sub hl [1, 2, 3, 4, 0] rfl) hq
  exact (key K).1 x2 x3 0 0 0 r1 z s.heap [] ls hr1 hM (lv_sub hl [0, 1, 2, 3] rfl) hq
theorem dmX13_addSummand_0 : decode cX13_addSummand 0 = .ok (.iconst 0, 1) := dw_at cX13_addSummand_k0 (p := 0) rfl (by decide +kernel)
theorem dmX13_addSummand_1 : decode cX13_addSummand 1 = .ok (.istore_n 2, 1) := dw_at cX13_addSummand_k0 (p := 1) rfl (by decide +kernel)
theorem dmX13_addSummand_2 : decode cX13_addSummand 2 = .ok (.iload_n 2, 1) := dw_at cX13_addSummand_k0 (p := 2) rfl (by decide +kernel)
theorem dmX13_addSummand_3 : decode cX13_addSummand 3 = .ok (.aload_n 0, 1) := dw_at cX13_addSummand_k0 (p := 3) rfl (by decide +kernel)
theorem dmX13_addSummand_4 : decode cX13_addSummand 4 = .ok (.getfield 170, 3) := dw_at cX13_addSummand_k0 (p := 4) rfl (by decide +kernel)
theorem dmX13_addSummand_7 : decode cX13_addSummand 7 = .ok (.iload_n 1, 1) := dw_at cX13_addSummand_k0 (p := 7) rfl (by decide +kernel)
theorem dmX13_addSummand_8 : decode cX13_addSummand 8 = .ok (.iaload, 1) := dw_at cX13_addSummand_k0 (p := 8) rfl (by decide +kernel)
theorem dmX13_addSummand_9 : decode cX13_addSummand 9 = .ok (.if_icmp .gt 31, 3) := dw_at cX13_addSummand_k0 (p := 9) rfl (by decide +kernel)
theorem dmX13_addSummand_12 : decode cX13_addSummand 12 = .ok (.aload_n 0, 1) := dw_at cX13_addSummand_k0 (p := 12) rfl (by decide +kernel)
theorem dmX13_addSummand_13 : decode cX13_addSummand 13 = .ok (.getfield 167, 3) := dw_at cX13_addSummand_k0 (p := 13) rfl (by decide +kernel)
theorem dmX13_addSummand_16 : decode cX13_addSummand 16 = .ok (.bipush 32, 2) := dw_at cX13_addSummand_k0 (p := 16) rfl (by decide +kernel)
theorem dmX13_addSummand_18 : decode cX13_addSummand 18 = .ok (.aload_n 0, 1) := dw_at cX13_addSummand_k0 (p := 18) rfl (by decide +kernel)
theorem dmX13_addSummand_19 : decode cX13_addSummand 19 = .ok (.getfield 553, 3) := dw_at cX13_addSummand_k0 (p := 19) rfl (by decide +kernel)
theorem dmX13_addSummand_22 : decode cX13_addSummand 22 = .ok (.imul, 1) := dw_at cX13_addSummand_k0 (p := 22) rfl (by decide +kernel)
theorem dmX13_addSummand_23 : decode cX13_addSummand 23 = .ok (.iload_n 2, 1) := dw_at cX13_addSummand_k0 (p := 23) rfl (by decide +kernel)
theorem dmX13_addSummand_24 : decode cX13_addSummand 24 = .ok (.iadd, 1) := dw_at cX13_addSummand_k1 (p := 0) rfl (by decide +kernel)
theorem dmX13_addSummand_25 : decode cX13_addSummand 25 = .ok (.aload_n 0, 1) := dw_at cX13_addSummand_k1 (p := 1) rfl (by decide +kernel)
theorem dmX13_addSummand_26 : decode cX13_addSummand 26 = .ok (.getfield 170, 3) := dw_at cX13_addSummand_k1 (p := 2) rfl (by decide +kernel)
theorem dmX13_addSummand_29 : decode cX13_addSummand 29 = .ok (.iload_n 1, 1) := dw_at cX13_addSummand_k1 (p := 5) rfl (by decide +kernel)
theorem dmX13_addSummand_30 : decode cX13_addSummand 30 = .ok (.iload_n 2, 1) := dw_at cX13_addSummand_k1 (p := 6) rfl (by decide +kernel)
theorem dmX13_addSummand_31 : decode cX13_addSummand 31 = .ok (.iadd, 1) := dw_at cX13_addSummand_k1 (p := 7) rfl (by decide +kernel)
theorem dmX13_addSummand_32 : decode cX13_addSummand 32 = .ok (.iaload, 1) := dw_at cX13_addSummand_k1 (p := 8) rfl (by decide +kernel)
theorem dmX13_addSummand_33 : decode cX13_addSummand 33 = .ok (.iastore, 1) := dw_at cX13_addSummand_k1 (p := 9) rfl (by decide +kernel)
theorem dmX13_addSummand_34 : decode cX13_addSummand 34 = .ok (.iinc 2 1, 3) := dw_at cX13_addSummand_k1 (p := 10) rfl (by decide +kernel)
theorem dmX13_addSummand_37 : decode cX13_addSummand 37 = .ok (.goto (-35), 3) := dw_at cX13_addSummand_k1 (p := 13) rfl (by decide +kernel)
theorem dmX13_addSummand_40 : decode cX13_addSummand 40 = .ok (.aload_n 0, 1) := dw_at cX13_addSummand_k1 (p := 16) rfl (by decide +kernel)
theorem dmX13_addSummand_41 : decode cX13_addSummand 41 = .ok (.getfield 553, 3) := dw_at cX13_addSummand_k1 (p := 17) rfl (by decide +kernel)
theorem dmX13_addSummand_44 : decode cX13_addSummand 44 = .ok (.istore_n 2, 1) := dw_at cX13_addSummand_k1 (p := 20) rfl (by decide +kernel)
theorem dmX13_addSummand_45 : decode cX13_addSummand 45 = .ok (.iload_n 2, 1) := dw_at cX13_addSummand_k1 (p := 21) rfl (by decide +kernel)
theorem dmX13_addSummand_46 : decode cX13_addSummand 46 = .ok (.ifCond .le 55, 3) := dw_at cX13_addSummand_k1 (p := 22) rfl (by decide +kernel)
theorem dmX13_addSummand_49 : decode cX13_addSummand 49 = .ok (.aload_n 0, 1) := dw_at cX13_addSummand_k2 (p := 0) rfl (by decide +kernel)
theorem dmX13_addSummand_50 : decode cX13_addSummand 50 = .ok (.getfield 167, 3) := dw_at cX13_addSummand_k2 (p := 1) rfl (by decide +kernel)
theorem dmX13_addSummand_53 : decode cX13_addSummand 53 = .ok (.bipush 32, 2) := dw_at cX13_addSummand_k2 (p := 4) rfl (by decide +kernel)
theorem dmX13_addSummand_55 : decode cX13_addSummand 55 = .ok (.aload_n 0, 1) := dw_at cX13_addSummand_k2 (p := 6) rfl (by decide +kernel)
theorem dmX13_addSummand_56 : decode cX13_addSummand 56 = .ok (.getfield 553, 3) := dw_at cX13_addSummand_k2 (p := 7) rfl (by decide +kernel)
theorem dmX13_addSummand_59 : decode cX13_addSummand 59 = .ok (.imul, 1) := dw_at cX13_addSummand_k2 (p := 10) rfl (by decide +kernel)
theorem dmX13_addSummand_60 : decode cX13_addSummand 60 = .ok (.aload_n 0, 1) := dw_at cX13_addSummand_k2 (p := 11) rfl (by decide +kernel)
theorem dmX13_addSummand_61 : decode cX13_addSummand 61 = .ok (.getfield 167, 3) := dw_at cX13_addSummand_k2 (p := 12) rfl (by decide +kernel)
theorem dmX13_addSummand_64 : decode cX13_addSummand 64 = .ok (.bipush 32, 2) := dw_at cX13_addSummand_k2 (p := 15) rfl (by decide +kernel)
theorem dmX13_addSummand_66 : decode cX13_addSummand 66 = .ok (.aload_n 0, 1) := dw_at cX13_addSummand_k2 (p := 17) rfl (by decide +kernel)
theorem dmX13_addSummand_67 : decode cX13_addSummand 67 = .ok (.getfield 176, 3) := dw_at cX13_addSummand_k2 (p := 18) rfl (by decide +kernel)
theorem dmX13_addSummand_70 : decode cX13_addSummand 70 = .ok (.iload_n 2, 1) := dw_at cX13_addSummand_k2 (p := 21) rfl (by decide +kernel)
theorem dmX13_addSummand_71 : decode cX13_addSummand 71 = .ok (.iconst 1, 1) := dw_at cX13_addSummand_k2 (p := 22) rfl (by decide +kernel)
theorem dmX13_addSummand_72 : decode cX13_addSummand 72 = .ok (.isub, 1) := dw_at cX13_addSummand_k2 (p := 23) rfl (by decide +kernel)
theorem dmX13_addSummand_73 : decode cX13_addSummand 73 = .ok (.iaload, 1) := dw_at cX13_addSummand_k3 (p := 0) rfl (by decide +kernel)
theorem dmX13_addSummand_74 : decode cX13_addSummand 74 = .ok (.imul, 1) := dw_at cX13_addSummand_k3 (p := 1) rfl (by decide +kernel)
theorem dmX13_addSummand_75 : decode cX13_addSummand 75 = .ok (.invokestatic 488, 3) := dw_at cX13_addSummand_k3 (p := 2) rfl (by decide +kernel)
theorem dmX13_addSummand_78 : decode cX13_addSummand 78 = .ok (.ifCond .eq 23, 3) := dw_at cX13_addSummand_k3 (p := 5) rfl (by decide +kernel)
theorem dmX13_addSummand_81 : decode cX13_addSummand 81 = .ok (.aload_n 0, 1) := dw_at cX13_addSummand_k3 (p := 8) rfl (by decide +kernel)
theorem dmX13_addSummand_82 : decode cX13_addSummand 82 = .ok (.getfield 176, 3) := dw_at cX13_addSummand_k3 (p := 9) rfl (by decide +kernel)
theorem dmX13_addSummand_85 : decode cX13_addSummand 85 = .ok (.iload_n 2, 1) := dw_at cX13_addSummand_k3 (p := 12) rfl (by decide +kernel)
theorem dmX13_addSummand_86 : decode cX13_addSummand 86 = .ok (.aload_n 0, 1) := dw_at cX13_addSummand_k3 (p := 13) rfl (by decide +kernel)
theorem dmX13_addSummand_87 : decode cX13_addSummand 87 = .ok (.getfield 176, 3) := dw_at cX13_addSummand_k3 (p := 14) rfl (by decide +kernel)
theorem dmX13_addSummand_90 : decode cX13_addSummand 90 = .ok (.iload_n 2, 1) := dw_at cX13_addSummand_k3 (p := 17) rfl (by decide +kernel)
theorem dmX13_addSummand_91 : decode cX13_addSummand 91 = .ok (.iconst 1, 1) := dw_at cX13_addSummand_k3 (p := 18) rfl (by decide +kernel)
theorem dmX13_addSummand_92 : decode cX13_addSummand 92 = .ok (.isub, 1) := dw_at cX13_addSummand_k3 (p := 19) rfl (by decide +kernel)
theorem dmX13_addSummand_93 : decode cX13_addSummand 93 = .ok (.iaload, 1) := dw_at cX13_addSummand_k3 (p := 20) rfl (by decide +kernel)
theorem dmX13_addSummand_94 : decode cX13_addSummand 94 = .ok (.iastore, 1) := dw_at cX13_addSummand_k3 (p := 21) rfl (by decide +kernel)
theorem dmX13_addSummand_95 : decode cX13_addSummand 95 = .ok (.iinc 2 (-1), 3) := dw_at cX13_addSummand_k3 (p := 22) rfl (by decide +kernel)
theorem dmX13_addSummand_98 : decode cX13_addSummand 98 = .ok (.goto (-53), 3) := dw_at cX13_addSummand_k4 (p := 0) rfl (by decide +kernel)
theorem dmX13_addSummand_101 : decode cX13_addSummand 101 = .ok (.aload_n 0, 1) := dw_at cX13_addSummand_k4 (p := 3) rfl (by decide +kernel)
theorem dmX13_addSummand_102 : decode cX13_addSummand 102 = .ok (.getfield 176, 3) := dw_at cX13_addSummand_k4 (p := 4) rfl (by decide +kernel)
theorem dmX13_addSummand_105 : decode cX13_addSummand 105 = .ok (.iload_n 2, 1) := dw_at cX13_addSummand_k4 (p := 7) rfl (by decide +kernel)
theorem dmX13_addSummand_106 : decode cX13_addSummand 106 = .ok (.aload_n 0, 1) := dw_at cX13_addSummand_k4 (p := 8) rfl (by decide +kernel)
theorem dmX13_addSummand_107 : decode cX13_addSummand 107 = .ok (.getfield 553, 3) := dw_at cX13_addSummand_k4 (p := 9) rfl (by decide +kernel)
theorem dmX13_addSummand_110 : decode cX13_addSummand 110 = .ok (.iastore, 1) := dw_at cX13_addSummand_k4 (p := 12) rfl (by decide +kernel)
theorem dmX13_addSummand_111 : decode cX13_addSummand 111 = .ok (.aload_n 0, 1) := dw_at cX13_addSummand_k4 (p := 13) rfl (by decide +kernel)
theorem dmX13_addSummand_112 : decode cX13_addSummand 112 = .ok (.dup, 1) := dw_at cX13_addSummand_k4 (p := 14) rfl (by decide +kernel)
theorem dmX13_addSummand_113 : decode cX13_addSummand 113 = .ok (.getfield 553, 3) := dw_at cX13_addSummand_k4 (p := 15) rfl (by decide +kernel)
theorem dmX13_addSummand_116 : decode cX13_addSummand 116 = .ok (.iconst 1, 1) := dw_at cX13_addSummand_k4 (p := 18) rfl (by decide +kernel)
theorem dmX13_addSummand_117 : decode cX13_addSummand 117 = .ok (.iadd, 1) := dw_at cX13_addSummand_k4 (p := 19) rfl (by decide +kernel)
theorem dmX13_addSummand_118 : decode cX13_addSummand 118 = .ok (.putfield 553, 3) := dw_at cX13_addSummand_k4 (p := 20) rfl (by decide +kernel)
theorem dmX13_addSummand_121 : decode cX13_addSummand 121 = .ok (.return_, 1) := dw_at cX13_addSummand_k4 (p := 23) rfl (by decide +kernel)
def qm_X13_addSummand_0 (K : Nat) (go : Nat → Int32 → Int32 → ow_MS → Option ow_MS) (x1 : Int32) (x2 : Int32) (z : ow_MS) : Option ow_MS :=
 go 1 x1 0 z
def qm_X13_addSummand_1 (K : Nat) (go : Nat → Int32 → Int32 → ow_MS → Option ow_MS) (x1 : Int32) (x2 : Int32) (z : ow_MS) : Option ow_MS :=
 rdI mX z 37 x1 fun v1 => (if v1 < x2 then rdF z 36 fun v2 => go 2 x1 v2 z
 else rdF z 36 fun v3 => rdI mX z 37 (x1 + x2) fun v4 => wrI mX z 35 ((32 * v3) + x2) v4 fun z5 => go 1 x1 (x2 + 1) z5)
def qm_X13_addSummand_2 (K : Nat) (go : Nat → Int32 → Int32 → ow_MS → Option ow_MS) (x1 : Int32) (x2 : Int32) (z : ow_MS) : Option ow_MS :=
 (if x2 ≤ 0 then go 3 x1 x2 z
 else rdF z 36 fun v6 => rdI mX z 39 (x2 - 1) fun v7 => cs1 (qe_X13_isLesser K 35 (32 * v6) 35 (32 * v7) z) fun v9 z8 => (if v9 = 0 then go 3 x1 x2 z8
 else rdI mX z8 39 (x2 - 1) fun v10 => wrI mX z8 39 x2 v10 fun z11 => go 2 x1 (x2 + (-1)) z11))
def qm_X13_addSummand_3 (K : Nat) (go : Nat → Int32 → Int32 → ow_MS → Option ow_MS) (x1 : Int32) (x2 : Int32) (z : ow_MS) : Option ow_MS :=
 rdF z 36 fun v12 => wrI mX z 39 x2 v12 fun z13 => rdF z13 36 fun v14 => wrF z13 36 (v14 + 1) fun z15 => some z15
def qb_X13_addSummand (K : Nat) (go : Nat → Int32 → Int32 → ow_MS → Option ow_MS) (L : Nat) (x1 : Int32) (x2 : Int32) (z : ow_MS) : Option ow_MS := match L with
  | 0 => qm_X13_addSummand_0 K go x1 x2 z
  | 1 => qm_X13_addSummand_1 K go x1 x2 z
  | 2 => qm_X13_addSummand_2 K go x1 x2 z
  | 3 => qm_X13_addSummand_3 K go x1 x2 z
  | _ => none
def q_X13_addSummand (K : Nat) : Nat → Nat → Int32 → Int32 → ow_MS → Option ow_MS
  | 0 => fun _ _ _ _ => none
  | k + 1 => qb_X13_addSummand K (q_X13_addSummand K k)
def qe_X13_addSummand (K : Nat) (x1 : Int32) (z : ow_MS) : Option ow_MS := q_X13_addSummand K K 0 x1 0 z
abbrev wm_X13_addSummand : List Cond := .code yX13_addSummand cX13_addSummand 3 none :: wM
theorem cd_X13_addSummand : yX13_addSummand.cls = RX13 ∧ yX13_addSummand.cls ≠ "java/lang/invoke/MethodHandle" ∧ yX13_addSummand.cls ≠ "java/lang/invoke/VarHandle" ∧ (parseMethodDescriptor yX13_addSummand.desc).map (fun d => d.parameters.length) = some 1 := by decide +kernel
set_option maxHeartbeats 4000000 in
set_option maxRecDepth 100000 in
theorem km_X13_addSummand (l : Launch) (D : va_G) (q : ow_Q5) (u : Nat → Nat) (hU : tw_inj mX u) (K : Nat) (x1 : Int32)  (z z1 : ow_MS) (hq : qe_X13_addSummand K x1 z = some z1) : Met l yX13_addSummand wm_X13_addSummand ({ frames := 3, cells := 0, slots := 0, locals := 79 } : Room) (va_Pc [.ref (u 0), .int x1] (mw_pre D q u z)) (va_Qv (fun (_ : Unit) => True) (fun _ t => va_P D vwCl (tw mX q u z1) t.heap) (tw_A mX u)) 0 0 (tw_A mX u) := by
  refine Met.ofW (cc := cX13_addSummand) (maxL := 3) (ret := none) (by decide) rfl ?_
  intro p e s m args below meth c s₁ B hml hv
  obtain ⟨rfl, hP, hK, hN⟩ := hv
  have hx := B.exec
  have hb := B.bytes
  have hr := B.returns
  have hts := atoms_spec (ws := wm_X13_addSummand) B.pre
  have hT : ∀ w ∈ wM, w.before ([.ref (u 0), .int x1] : List Value).toArray s = true := fun w h => hts w (List.mem_cons_of_mem _ h)
  have hown : s.vm.findClass RX13 = some m.cls := findClass_of_methodNamed B.named
  have hlocks := B.notSynchronized
  have hM : tw_M D vwCl mX q s.heap u z s.heap [] := ⟨hP, va_S.rf⟩
  have hl := lv_entry ([.ref (u 0), .int x1]) (n := 3) (Nat.le_of_ble_eq_true rfl)
  rw [lg_entry_eq]
  generalize (lg_sl ([.ref (u 0), .int x1]) ++ List.replicate (3 - (lg_sl ([.ref (u 0), .int x1])).length) Slot.unset).toArray = ls at hl ⊢
  have hl : lv_has ls 3 [(0, .ref (u 0)), (1, .int x1)] := hl
  refine ow_named (fun QQ hQQ => ?_)
  generalize ([.ref (u 0), .int x1] : List Value).toArray = args at hts hT hQQ ⊢
  have key : ∀ k : Nat, (∀ (x1 : Int32) (x2 : Int32) (z : ow_MS) (H : Heap) (locs : List Loc) (ls : Array Slot), tw_M D vwCl mX q s.heap u z H locs → lv_has ls 3 [(0, .ref (u 0)), (1, .int x1)] → q_X13_addSummand K k 0 x1 x2 z = some z1 → W p l e ({ frames := 3, cells := 0, slots := 0, locals := 79 } : Room) s m args below meth c H locs 0 0 QQ (F0 m 0 ls [])) ∧ (∀ (x1 : Int32) (x2 : Int32) (z : ow_MS) (H : Heap) (locs : List Loc) (ls : Array Slot), tw_M D vwCl mX q s.heap u z H locs → lv_has ls 3 [(0, .ref (u 0)), (1, .int x1), (2, .int x2)] → q_X13_addSummand K k 1 x1 x2 z = some z1 → W p l e ({ frames := 3, cells := 0, slots := 0, locals := 79 } : Room) s m args below meth c H locs 0 0 QQ (F0 m 2 ls [])) ∧ (∀ (x1 : Int32) (x2 : Int32) (z : ow_MS) (H : Heap) (locs : List Loc) (ls : Array Slot), tw_M D vwCl mX q s.heap u z H locs → lv_has ls 3 [(0, .ref (u 0)), (1, .int x1), (2, .int x2)] → q_X13_addSummand K k 2 x1 x2 z = some z1 → W p l e ({ frames := 3, cells := 0, slots := 0, locals := 79 } : Room) s m args below meth c H locs 0 0 QQ (F0 m 45 ls [])) ∧ (∀ (x1 : Int32) (x2 : Int32) (z : ow_MS) (H : Heap) (locs : List Loc) (ls : Array Slot), tw_M D vwCl mX q s.heap u z H locs → lv_has ls 3 [(0, .ref (u 0)), (1, .int x1), (2, .int x2)] → q_X13_addSummand K k 3 x1 x2 z = some z1 → W p l e ({ frames := 3, cells := 0, slots := 0, locals := 79 } : Room) s m args below meth c H locs 0 0 QQ (F0 m 101 ls [])) := by
    intro k
    induction k with
    | zero => exact ⟨fun _ _ _ _ _ _  _ _ hq => tw_no hq, fun _ _ _ _ _ _  _ _ hq => tw_no hq, fun _ _ _ _ _ _  _ _ hq => tw_no hq, fun _ _ _ _ _ _  _ _ hq => tw_no hq⟩
    | succ k ih =>
      obtain ⟨ih_0, ih_1, ih_2, ih_3⟩ := ih
      refine ⟨?_, ?_, ?_, ?_⟩
      · intro x1 x2 z H locs ls  hM hl hq
        have hq : qm_X13_addSummand_0 K (q_X13_addSummand K k) x1 x2 z = some z1 := hq
        unfold qm_X13_addSummand_0 at hq
        refine lv_iconst (v := 0) hx hb dmX13_addSummand_0 (by decide) ?_
        refine lv_istore_n (lv' := [(2, .int 0), (0, .ref (u 0)), (1, .int x1)]) hx hb dmX13_addSummand_1 rfl hl (by decide) rfl (fun ls hl => ?_)
        exact ih_1 x1 0 z H locs ls hM (lv_sub hl [1, 2, 0] rfl) hq
      · intro x1 x2 z H locs ls  hM hl hq
        have hq : qm_X13_addSummand_1 K (q_X13_addSummand K k) x1 x2 z = some z1 := hq
        unfold qm_X13_addSummand_1 at hq
        refine lv_iload_n hx hb dmX13_addSummand_2 rfl (lv_at hl 2 rfl) ?_
        refine lv_aload_n hx hb dmX13_addSummand_3 rfl (lv_at hl 0 rfl) ?_
        refine mg13_170 hx hb hT hown hK hM dmX13_addSummand_4 ?_
        refine lv_iload_n hx hb dmX13_addSummand_7 rfl (lv_at hl 1 rfl) ?_
        refine tw_iald mX_ok hx hb hK hM mr_37 hq dmX13_addSummand_8 (fun v1 hq => ?_)
        refine lv_icmp_gt (tgt := 40) hx hb dmX13_addSummand_9 (by decide) (fun hc => ?_) (fun hc => ?_)
        · have hq := tw_it hq hc
          refine lv_aload_n hx hb dmX13_addSummand_40 rfl (lv_at hl 0 rfl) ?_
          refine mg13_553 hx hb hT hown hK hM hq dmX13_addSummand_41 (fun v2 hq => ?_)
          refine lv_istore_n (lv' := [(2, .int v2), (0, .ref (u 0)), (1, .int x1)]) hx hb dmX13_addSummand_44 rfl hl (by decide) rfl (fun ls hl => ?_)
          exact ih_2 x1 v2 z H locs ls hM (lv_sub hl [1, 2, 0] rfl) hq
        · have hq := tw_if hq hc
          refine lv_aload_n hx hb dmX13_addSummand_12 rfl (lv_at hl 0 rfl) ?_
          refine mg13_167 hx hb hT hown hK hM dmX13_addSummand_13 ?_
          refine lv_bipush (v := 32) hx hb dmX13_addSummand_16 (by decide) ?_
          refine lv_aload_n hx hb dmX13_addSummand_18 rfl (lv_at hl 0 rfl) ?_
          refine mg13_553 hx hb hT hown hK hM hq dmX13_addSummand_19 (fun v3 hq => ?_)
          refine lv_imul hx hb dmX13_addSummand_22 ?_
          refine lv_iload_n hx hb dmX13_addSummand_23 rfl (lv_at hl 2 rfl) ?_
          refine lv_iadd hx hb dmX13_addSummand_24 ?_
          refine lv_aload_n hx hb dmX13_addSummand_25 rfl (lv_at hl 0 rfl) ?_
          refine mg13_170 hx hb hT hown hK hM dmX13_addSummand_26 ?_
          refine lv_iload_n hx hb dmX13_addSummand_29 rfl (lv_at hl 1 rfl) ?_
          refine lv_iload_n hx hb dmX13_addSummand_30 rfl (lv_at hl 2 rfl) ?_
          refine lv_iadd hx hb dmX13_addSummand_31 ?_
          refine tw_iald mX_ok hx hb hK hM mr_37 hq dmX13_addSummand_32 (fun v4 hq => ?_)
          refine tw_iast mX_ok hU hx hb hK hM mr_35 hq dmX13_addSummand_33 (fun z5 H locs hM hq => ?_)
          refine lv_iinc (v := (x2 + 1)) (lv' := [(2, .int (x2 + 1)), (0, .ref (u 0)), (1, .int x1)]) hx hb dmX13_addSummand_34 hl (k := 2) rfl rfl (by decide) rfl (fun ls hl => ?_)
          refine lv_goto (tgt := 2) hx hb dmX13_addSummand_37 (by decide) ?_
          exact ih_1 x1 (x2 + 1) z5 H locs ls hM (lv_sub hl [1, 2, 0] rfl) hq
      · intro x1 x2 z H locs ls  hM hl hq
        have hq : qm_X13_addSummand_2 K (q_X13_addSummand K k) x1 x2 z = some z1 := hq
        unfold qm_X13_addSummand_2 at hq
        refine lv_iload_n hx hb dmX13_addSummand_45 rfl (lv_at hl 2 rfl) ?_
        refine lv_if_le (tgt := 101) hx hb dmX13_addSummand_46 (by decide) (fun hc => ?_) (fun hc => ?_)
        · have hq := tw_it hq hc
          exact ih_3 x1 x2 z H locs ls hM (lv_sub hl [0, 1, 2] rfl) hq
        · have hq := tw_if hq hc
          refine lv_aload_n hx hb dmX13_addSummand_49 rfl (lv_at hl 0 rfl) ?_
          refine mg13_167 hx hb hT hown hK hM dmX13_addSummand_50 ?_
          refine lv_bipush (v := 32) hx hb dmX13_addSummand_53 (by decide) ?_
          refine lv_aload_n hx hb dmX13_addSummand_55 rfl (lv_at hl 0 rfl) ?_
          refine mg13_553 hx hb hT hown hK hM hq dmX13_addSummand_56 (fun v6 hq => ?_)
          refine lv_imul hx hb dmX13_addSummand_59 ?_
          refine lv_aload_n hx hb dmX13_addSummand_60 rfl (lv_at hl 0 rfl) ?_
          refine mg13_167 hx hb hT hown hK hM dmX13_addSummand_61 ?_
          refine lv_bipush (v := 32) hx hb dmX13_addSummand_64 (by decide) ?_
          refine lv_aload_n hx hb dmX13_addSummand_66 rfl (lv_at hl 0 rfl) ?_
          refine mg13_176 hx hb hT hown hK hM dmX13_addSummand_67 ?_
          refine lv_iload_n hx hb dmX13_addSummand_70 rfl (lv_at hl 2 rfl) ?_
          refine lv_iconst (v := 1) hx hb dmX13_addSummand_71 (by decide) ?_
          refine lv_isub hx hb dmX13_addSummand_72 ?_
          refine tw_iald mX_ok hx hb hK hM mr_39 hq dmX13_addSummand_73 (fun v7 hq => ?_)
          refine lv_imul hx hb dmX13_addSummand_74 ?_
          obtain ⟨v9, z8, hcq, hq⟩ := tw_cl1 hq
          refine tw_cali hM (va_runS (As := [.ref (u 35), .int (32 * v6), .ref (u 35), .int (32 * v7)]) (rest := []) ⟨hx, hb, hml, hown, hts⟩ (km_X13_isLesser l D q u hU K 35 (32 * v6) 35 (32 * v7) mr_35 mr_35 z z8 v9 hcq) (va_cwS 4 hts (tw_gS wM_good wq_185 wq_186 wq_61 wq_73) rfl rfl rfl cd_X13_isLesser ⟨(Nat.le_of_ble_eq_true rfl), (Nat.le_of_ble_eq_true rfl)⟩) (mw_preS hK hN hM) rfl rfl hl.1 rfl (lv_room (Nat.le_of_ble_eq_true rfl)) dmX13_addSummand_75 ⟨(Nat.le_of_ble_eq_true rfl), (Nat.le_of_ble_eq_true rfl)⟩) (fun H locs hM => ?_)
          refine lv_if_eq (tgt := 101) hx hb dmX13_addSummand_78 (by decide) (fun hc => ?_) (fun hc => ?_)
          · have hq := tw_it hq hc
            exact ih_3 x1 x2 z8 H locs ls hM (lv_sub hl [0, 1, 2] rfl) hq
          · have hq := tw_if hq hc
            refine lv_aload_n hx hb dmX13_addSummand_81 rfl (lv_at hl 0 rfl) ?_
            refine mg13_176 hx hb hT hown hK hM dmX13_addSummand_82 ?_
            refine lv_iload_n hx hb dmX13_addSummand_85 rfl (lv_at hl 2 rfl) ?_
            refine lv_aload_n hx hb dmX13_addSummand_86 rfl (lv_at hl 0 rfl) ?_
            refine mg13_176 hx hb hT hown hK hM dmX13_addSummand_87 ?_
            refine lv_iload_n hx hb dmX13_addSummand_90 rfl (lv_at hl 2 rfl) ?_
            refine lv_iconst (v := 1) hx hb dmX13_addSummand_91 (by decide) ?_
            refine lv_isub hx hb dmX13_addSummand_92 ?_
            refine tw_iald mX_ok hx hb hK hM mr_39 hq dmX13_addSummand_93 (fun v10 hq => ?_)
            refine tw_iast mX_ok hU hx hb hK hM mr_39 hq dmX13_addSummand_94 (fun z11 H locs hM hq => ?_)
            refine lv_iinc (v := (x2 + (-1))) (lv' := [(2, .int (x2 + (-1))), (0, .ref (u 0)), (1, .int x1)]) hx hb dmX13_addSummand_95 hl (k := 2) rfl rfl (by decide) rfl (fun ls hl => ?_)
            refine lv_goto (tgt := 45) hx hb dmX13_addSummand_98 (by decide) ?_
            exact ih_2 x1 (x2 + (-1)) z11 H locs ls hM (lv_sub hl [1, 2, 0] rfl) hq
      · intro x1 x2 z H locs ls  hM hl hq
        have hq : qm_X13_addSummand_3 K (q_X13_addSummand K k) x1 x2 z = some z1 := hq
        unfold qm_X13_addSummand_3 at hq
        refine lv_aload_n hx hb dmX13_addSummand_101 rfl (lv_at hl 0 rfl) ?_
        refine mg13_176 hx hb hT hown hK hM dmX13_addSummand_102 ?_
        refine lv_iload_n hx hb dmX13_addSummand_105 rfl (lv_at hl 2 rfl) ?_
        refine lv_aload_n hx hb dmX13_addSummand_106 rfl (lv_at hl 0 rfl) ?_
        refine mg13_553 hx hb hT hown hK hM hq dmX13_addSummand_107 (fun v12 hq => ?_)
        refine tw_iast mX_ok hU hx hb hK hM mr_39 hq dmX13_addSummand_110 (fun z13 H locs hM hq => ?_)
        refine lv_aload_n hx hb dmX13_addSummand_111 rfl (lv_at hl 0 rfl) ?_
        refine lv_dup hx hb dmX13_addSummand_112 rfl ?_
        refine mg13_553 hx hb hT hown hK hM hq dmX13_addSummand_113 (fun v14 hq => ?_)
        refine lv_iconst (v := 1) hx hb dmX13_addSummand_116 (by decide) ?_
        refine lv_iadd hx hb dmX13_addSummand_117 ?_
        refine mp13_553 hx hb hT hown hK hM hU hq dmX13_addSummand_118 (fun z15 H locs hM hq => ?_)
        exact mw_vret hx hb hr hlocks hM hq hQQ dmX13_addSummand_121
  exact (key K).1 x1 0 z s.heap [] ls  hM (lv_sub hl [0, 1] rfl) hq
theorem dmX13_summands_0 : decode cX13_summands 0 = .ok (.aload_n 0, 1) := dw_at cX13_summands_k0 (p := 0) rfl (by decide +kernel)
theorem dmX13_summands_1 : decode cX13_summands 1 = .ok (.iconst 0, 1) := dw_at cX13_summands_k0 (p := 1) rfl (by decide +kernel)
theorem dmX13_summands_2 : decode cX13_summands 2 = .ok (.putfield 1, 3) := dw_at cX13_summands_k0 (p := 2) rfl (by decide +kernel)
theorem dmX13_summands_5 : decode cX13_summands 5 = .ok (.aload_n 0, 1) := dw_at cX13_summands_k0 (p := 5) rfl (by decide +kernel)
theorem dmX13_summands_6 : decode cX13_summands 6 = .ok (.iload_n 1, 1) := dw_at cX13_summands_k0 (p := 6) rfl (by decide +kernel)
theorem dmX13_summands_7 : decode cX13_summands 7 = .ok (.invokevirtual 423, 3) := dw_at cX13_summands_k0 (p := 7) rfl (by decide +kernel)
theorem dmX13_summands_10 : decode cX13_summands 10 = .ok (.ifCond .ne 9, 3) := dw_at cX13_summands_k0 (p := 10) rfl (by decide +kernel)
theorem dmX13_summands_13 : decode cX13_summands 13 = .ok (.aload_n 0, 1) := dw_at cX13_summands_k0 (p := 13) rfl (by decide +kernel)
theorem dmX13_summands_14 : decode cX13_summands 14 = .ok (.iconst 1, 1) := dw_at cX13_summands_k0 (p := 14) rfl (by decide +kernel)
theorem dmX13_summands_15 : decode cX13_summands 15 = .ok (.invokevirtual 403, 3) := dw_at cX13_summands_k0 (p := 15) rfl (by decide +kernel)
theorem dmX13_summands_18 : decode cX13_summands 18 = .ok (.ireturn, 1) := dw_at cX13_summands_k0 (p := 18) rfl (by decide +kernel)
theorem dmX13_summands_19 : decode cX13_summands 19 = .ok (.aload_n 0, 1) := dw_at cX13_summands_k0 (p := 19) rfl (by decide +kernel)
theorem dmX13_summands_20 : decode cX13_summands 20 = .ok (.iload_n 1, 1) := dw_at cX13_summands_k0 (p := 20) rfl (by decide +kernel)
theorem dmX13_summands_21 : decode cX13_summands 21 = .ok (.aload_n 0, 1) := dw_at cX13_summands_k0 (p := 21) rfl (by decide +kernel)
theorem dmX13_summands_22 : decode cX13_summands 22 = .ok (.getfield 118, 3) := dw_at cX13_summands_k0 (p := 22) rfl (by decide +kernel)
theorem dmX13_summands_25 : decode cX13_summands 25 = .ok (.invokevirtual 434, 3) := dw_at cX13_summands_k1 (p := 0) rfl (by decide +kernel)
theorem dmX13_summands_28 : decode cX13_summands 28 = .ok (.aload_n 0, 1) := dw_at cX13_summands_k1 (p := 3) rfl (by decide +kernel)
theorem dmX13_summands_29 : decode cX13_summands 29 = .ok (.getfield 118, 3) := dw_at cX13_summands_k1 (p := 4) rfl (by decide +kernel)
theorem dmX13_summands_32 : decode cX13_summands 32 = .ok (.invokevirtual 75, 3) := dw_at cX13_summands_k1 (p := 7) rfl (by decide +kernel)
theorem dmX13_summands_35 : decode cX13_summands 35 = .ok (.iconst 0, 1) := dw_at cX13_summands_k1 (p := 10) rfl (by decide +kernel)
theorem dmX13_summands_36 : decode cX13_summands 36 = .ok (.istore_n 2, 1) := dw_at cX13_summands_k1 (p := 11) rfl (by decide +kernel)
theorem dmX13_summands_37 : decode cX13_summands 37 = .ok (.iconst 0, 1) := dw_at cX13_summands_k1 (p := 12) rfl (by decide +kernel)
theorem dmX13_summands_38 : decode cX13_summands 38 = .ok (.istore_n 3, 1) := dw_at cX13_summands_k1 (p := 13) rfl (by decide +kernel)
theorem dmX13_summands_39 : decode cX13_summands 39 = .ok (.iload_n 3, 1) := dw_at cX13_summands_k1 (p := 14) rfl (by decide +kernel)
theorem dmX13_summands_40 : decode cX13_summands 40 = .ok (.aload_n 0, 1) := dw_at cX13_summands_k1 (p := 15) rfl (by decide +kernel)
theorem dmX13_summands_41 : decode cX13_summands 41 = .ok (.getfield 118, 3) := dw_at cX13_summands_k1 (p := 16) rfl (by decide +kernel)
theorem dmX13_summands_44 : decode cX13_summands 44 = .ok (.getfield 78, 3) := dw_at cX13_summands_k1 (p := 19) rfl (by decide +kernel)
theorem dmX13_summands_47 : decode cX13_summands 47 = .ok (.if_icmp .ge 97, 3) := dw_at cX13_summands_k1 (p := 22) rfl (by decide +kernel)
theorem dmX13_summands_50 : decode cX13_summands 50 = .ok (.iconst 0, 1) := dw_at cX13_summands_k2 (p := 0) rfl (by decide +kernel)
theorem dmX13_summands_51 : decode cX13_summands 51 = .ok (.istore 4, 2) := dw_at cX13_summands_k2 (p := 1) rfl (by decide +kernel)
theorem dmX13_summands_53 : decode cX13_summands 53 = .ok (.iconst 0, 1) := dw_at cX13_summands_k2 (p := 3) rfl (by decide +kernel)
theorem dmX13_summands_54 : decode cX13_summands 54 = .ok (.istore 5, 2) := dw_at cX13_summands_k2 (p := 4) rfl (by decide +kernel)
theorem dmX13_summands_56 : decode cX13_summands 56 = .ok (.iload 5, 2) := dw_at cX13_summands_k2 (p := 6) rfl (by decide +kernel)
theorem dmX13_summands_58 : decode cX13_summands 58 = .ok (.aload_n 0, 1) := dw_at cX13_summands_k2 (p := 8) rfl (by decide +kernel)
theorem dmX13_summands_59 : decode cX13_summands 59 = .ok (.getfield 118, 3) := dw_at cX13_summands_k2 (p := 9) rfl (by decide +kernel)
theorem dmX13_summands_62 : decode cX13_summands 62 = .ok (.getfield 44, 3) := dw_at cX13_summands_k2 (p := 12) rfl (by decide +kernel)
theorem dmX13_summands_65 : decode cX13_summands 65 = .ok (.if_icmp .ge 55, 3) := dw_at cX13_summands_k2 (p := 15) rfl (by decide +kernel)
theorem dmX13_summands_68 : decode cX13_summands 68 = .ok (.aload_n 0, 1) := dw_at cX13_summands_k2 (p := 18) rfl (by decide +kernel)
theorem dmX13_summands_69 : decode cX13_summands 69 = .ok (.getfield 173, 3) := dw_at cX13_summands_k2 (p := 19) rfl (by decide +kernel)
theorem dmX13_summands_72 : decode cX13_summands 72 = .ok (.iload 5, 2) := dw_at cX13_summands_k2 (p := 22) rfl (by decide +kernel)
theorem dmX13_summands_74 : decode cX13_summands 74 = .ok (.aload_n 0, 1) := dw_at cX13_summands_k3 (p := 0) rfl (by decide +kernel)
theorem dmX13_summands_75 : decode cX13_summands 75 = .ok (.getfield 118, 3) := dw_at cX13_summands_k3 (p := 1) rfl (by decide +kernel)
theorem dmX13_summands_78 : decode cX13_summands 78 = .ok (.getfield 47, 3) := dw_at cX13_summands_k3 (p := 4) rfl (by decide +kernel)
theorem dmX13_summands_81 : decode cX13_summands 81 = .ok (.aload_n 0, 1) := dw_at cX13_summands_k3 (p := 7) rfl (by decide +kernel)
theorem dmX13_summands_82 : decode cX13_summands 82 = .ok (.getfield 118, 3) := dw_at cX13_summands_k3 (p := 8) rfl (by decide +kernel)
theorem dmX13_summands_85 : decode cX13_summands 85 = .ok (.getfield 18, 3) := dw_at cX13_summands_k3 (p := 11) rfl (by decide +kernel)
theorem dmX13_summands_88 : decode cX13_summands 88 = .ok (.iload 5, 2) := dw_at cX13_summands_k3 (p := 14) rfl (by decide +kernel)
theorem dmX13_summands_90 : decode cX13_summands 90 = .ok (.iaload, 1) := dw_at cX13_summands_k3 (p := 16) rfl (by decide +kernel)
theorem dmX13_summands_91 : decode cX13_summands 91 = .ok (.iaload, 1) := dw_at cX13_summands_k3 (p := 17) rfl (by decide +kernel)
theorem dmX13_summands_92 : decode cX13_summands 92 = .ok (.iload_n 3, 1) := dw_at cX13_summands_k3 (p := 18) rfl (by decide +kernel)
theorem dmX13_summands_93 : decode cX13_summands 93 = .ok (.if_icmp .ne 7, 3) := dw_at cX13_summands_k3 (p := 19) rfl (by decide +kernel)
theorem dmX13_summands_96 : decode cX13_summands 96 = .ok (.iconst 1, 1) := dw_at cX13_summands_k3 (p := 22) rfl (by decide +kernel)
theorem dmX13_summands_97 : decode cX13_summands 97 = .ok (.goto 4, 3) := dw_at cX13_summands_k3 (p := 23) rfl (by decide +kernel)
theorem dmX13_summands_100 : decode cX13_summands 100 = .ok (.iconst 0, 1) := dw_at cX13_summands_k4 (p := 0) rfl (by decide +kernel)
theorem dmX13_summands_101 : decode cX13_summands 101 = .ok (.bastore, 1) := dw_at cX13_summands_k4 (p := 1) rfl (by decide +kernel)
theorem dmX13_summands_102 : decode cX13_summands 102 = .ok (.iload 4, 2) := dw_at cX13_summands_k4 (p := 2) rfl (by decide +kernel)
theorem dmX13_summands_104 : decode cX13_summands 104 = .ok (.aload_n 0, 1) := dw_at cX13_summands_k4 (p := 4) rfl (by decide +kernel)
theorem dmX13_summands_105 : decode cX13_summands 105 = .ok (.getfield 173, 3) := dw_at cX13_summands_k4 (p := 5) rfl (by decide +kernel)
theorem dmX13_summands_108 : decode cX13_summands 108 = .ok (.iload 5, 2) := dw_at cX13_summands_k4 (p := 8) rfl (by decide +kernel)
theorem dmX13_summands_110 : decode cX13_summands 110 = .ok (.baload, 1) := dw_at cX13_summands_k4 (p := 10) rfl (by decide +kernel)
theorem dmX13_summands_111 : decode cX13_summands 111 = .ok (.ior, 1) := dw_at cX13_summands_k4 (p := 11) rfl (by decide +kernel)
theorem dmX13_summands_112 : decode cX13_summands 112 = .ok (.istore 4, 2) := dw_at cX13_summands_k4 (p := 12) rfl (by decide +kernel)
theorem dmX13_summands_114 : decode cX13_summands 114 = .ok (.iinc 5 1, 3) := dw_at cX13_summands_k4 (p := 14) rfl (by decide +kernel)
theorem dmX13_summands_117 : decode cX13_summands 117 = .ok (.goto (-61), 3) := dw_at cX13_summands_k4 (p := 17) rfl (by decide +kernel)
theorem dmX13_summands_120 : decode cX13_summands 120 = .ok (.iload 4, 2) := dw_at cX13_summands_k4 (p := 20) rfl (by decide +kernel)
theorem dmX13_summands_122 : decode cX13_summands 122 = .ok (.ifCond .eq 16, 3) := dw_at cX13_summands_k4 (p := 22) rfl (by decide +kernel)
theorem dmX13_summands_125 : decode cX13_summands 125 = .ok (.aload_n 0, 1) := dw_at cX13_summands_k5 (p := 0) rfl (by decide +kernel)
theorem dmX13_summands_126 : decode cX13_summands 126 = .ok (.aload_n 0, 1) := dw_at cX13_summands_k5 (p := 1) rfl (by decide +kernel)
theorem dmX13_summands_127 : decode cX13_summands 127 = .ok (.getfield 118, 3) := dw_at cX13_summands_k5 (p := 2) rfl (by decide +kernel)
theorem dmX13_summands_130 : decode cX13_summands 130 = .ok (.iconst 1, 1) := dw_at cX13_summands_k5 (p := 5) rfl (by decide +kernel)
theorem dmX13_summands_131 : decode cX13_summands 131 = .ok (.iload_n 2, 1) := dw_at cX13_summands_k5 (p := 6) rfl (by decide +kernel)
theorem dmX13_summands_132 : decode cX13_summands 132 = .ok (.invokevirtual 556, 3) := dw_at cX13_summands_k5 (p := 7) rfl (by decide +kernel)
theorem dmX13_summands_135 : decode cX13_summands 135 = .ok (.iinc 2 1, 3) := dw_at cX13_summands_k5 (p := 10) rfl (by decide +kernel)
theorem dmX13_summands_138 : decode cX13_summands 138 = .ok (.iinc 3 1, 3) := dw_at cX13_summands_k5 (p := 13) rfl (by decide +kernel)
theorem dmX13_summands_141 : decode cX13_summands 141 = .ok (.goto (-102), 3) := dw_at cX13_summands_k5 (p := 16) rfl (by decide +kernel)
theorem dmX13_summands_144 : decode cX13_summands 144 = .ok (.aload_n 0, 1) := dw_at cX13_summands_k5 (p := 19) rfl (by decide +kernel)
theorem dmX13_summands_145 : decode cX13_summands 145 = .ok (.iconst 0, 1) := dw_at cX13_summands_k5 (p := 20) rfl (by decide +kernel)
theorem dmX13_summands_146 : decode cX13_summands 146 = .ok (.putfield 553, 3) := dw_at cX13_summands_k5 (p := 21) rfl (by decide +kernel)
theorem dmX13_summands_149 : decode cX13_summands 149 = .ok (.iload_n 2, 1) := dw_at cX13_summands_k6 (p := 0) rfl (by decide +kernel)
theorem dmX13_summands_150 : decode cX13_summands 150 = .ok (.ifCond .le 185, 3) := dw_at cX13_summands_k6 (p := 1) rfl (by decide +kernel)
theorem dmX13_summands_153 : decode cX13_summands 153 = .ok (.iinc 2 (-1), 3) := dw_at cX13_summands_k6 (p := 4) rfl (by decide +kernel)
theorem dmX13_summands_156 : decode cX13_summands 156 = .ok (.aload_n 0, 1) := dw_at cX13_summands_k6 (p := 7) rfl (by decide +kernel)
theorem dmX13_summands_157 : decode cX13_summands 157 = .ok (.getfield 170, 3) := dw_at cX13_summands_k6 (p := 8) rfl (by decide +kernel)
theorem dmX13_summands_160 : decode cX13_summands 160 = .ok (.bipush 32, 2) := dw_at cX13_summands_k6 (p := 11) rfl (by decide +kernel)
theorem dmX13_summands_162 : decode cX13_summands 162 = .ok (.iload_n 2, 1) := dw_at cX13_summands_k6 (p := 13) rfl (by decide +kernel)
theorem dmX13_summands_163 : decode cX13_summands 163 = .ok (.imul, 1) := dw_at cX13_summands_k6 (p := 14) rfl (by decide +kernel)
theorem dmX13_summands_164 : decode cX13_summands 164 = .ok (.aload_n 0, 1) := dw_at cX13_summands_k6 (p := 15) rfl (by decide +kernel)
theorem dmX13_summands_165 : decode cX13_summands 165 = .ok (.getfield 114, 3) := dw_at cX13_summands_k6 (p := 16) rfl (by decide +kernel)
theorem dmX13_summands_168 : decode cX13_summands 168 = .ok (.invokestatic 430, 3) := dw_at cX13_summands_k6 (p := 19) rfl (by decide +kernel)
theorem dmX13_summands_171 : decode cX13_summands 171 = .ok (.aload_n 0, 1) := dw_at cX13_summands_k6 (p := 22) rfl (by decide +kernel)
theorem dmX13_summands_172 : decode cX13_summands 172 = .ok (.getfield 114, 3) := dw_at cX13_summands_k6 (p := 23) rfl (by decide +kernel)
theorem dmX13_summands_175 : decode cX13_summands 175 = .ok (.invokevirtual 71, 3) := dw_at cX13_summands_k7 (p := 0) rfl (by decide +kernel)
theorem dmX13_summands_178 : decode cX13_summands 178 = .ok (.iconst 0, 1) := dw_at cX13_summands_k7 (p := 3) rfl (by decide +kernel)
theorem dmX13_summands_179 : decode cX13_summands 179 = .ok (.istore_n 3, 1) := dw_at cX13_summands_k7 (p := 4) rfl (by decide +kernel)
theorem dmX13_summands_180 : decode cX13_summands 180 = .ok (.iconst 0, 1) := dw_at cX13_summands_k7 (p := 5) rfl (by decide +kernel)
theorem dmX13_summands_181 : decode cX13_summands 181 = .ok (.istore 4, 2) := dw_at cX13_summands_k7 (p := 6) rfl (by decide +kernel)
theorem dmX13_summands_183 : decode cX13_summands 183 = .ok (.iload 4, 2) := dw_at cX13_summands_k7 (p := 8) rfl (by decide +kernel)
theorem dmX13_summands_185 : decode cX13_summands 185 = .ok (.aload_n 0, 1) := dw_at cX13_summands_k7 (p := 10) rfl (by decide +kernel)
theorem dmX13_summands_186 : decode cX13_summands 186 = .ok (.getfield 114, 3) := dw_at cX13_summands_k7 (p := 11) rfl (by decide +kernel)
theorem dmX13_summands_189 : decode cX13_summands 189 = .ok (.getfield 407, 3) := dw_at cX13_summands_k7 (p := 14) rfl (by decide +kernel)
theorem dmX13_summands_192 : decode cX13_summands 192 = .ok (.if_icmp .ge 100, 3) := dw_at cX13_summands_k7 (p := 17) rfl (by decide +kernel)
theorem dmX13_summands_195 : decode cX13_summands 195 = .ok (.iload_n 3, 1) := dw_at cX13_summands_k7 (p := 20) rfl (by decide +kernel)
theorem dmX13_summands_196 : decode cX13_summands 196 = .ok (.ifCond .ne 96, 3) := dw_at cX13_summands_k7 (p := 21) rfl (by decide +kernel)
theorem dmX13_summands_199 : decode cX13_summands 199 = .ok (.aload_n 0, 1) := dw_at cX13_summands_k8 (p := 0) rfl (by decide +kernel)
theorem dmX13_summands_200 : decode cX13_summands 200 = .ok (.getfield 114, 3) := dw_at cX13_summands_k8 (p := 1) rfl (by decide +kernel)
theorem dmX13_summands_203 : decode cX13_summands 203 = .ok (.getfield 452, 3) := dw_at cX13_summands_k8 (p := 4) rfl (by decide +kernel)
theorem dmX13_summands_206 : decode cX13_summands 206 = .ok (.iload 4, 2) := dw_at cX13_summands_k8 (p := 7) rfl (by decide +kernel)
theorem dmX13_summands_208 : decode cX13_summands 208 = .ok (.iaload, 1) := dw_at cX13_summands_k8 (p := 9) rfl (by decide +kernel)
theorem dmX13_summands_209 : decode cX13_summands 209 = .ok (.istore 5, 2) := dw_at cX13_summands_k8 (p := 10) rfl (by decide +kernel)
theorem dmX13_summands_211 : decode cX13_summands 211 = .ok (.iload 5, 2) := dw_at cX13_summands_k8 (p := 12) rfl (by decide +kernel)
theorem dmX13_summands_213 : decode cX13_summands 213 = .ok (.aload_n 0, 1) := dw_at cX13_summands_k8 (p := 14) rfl (by decide +kernel)
theorem dmX13_summands_214 : decode cX13_summands 214 = .ok (.getfield 114, 3) := dw_at cX13_summands_k8 (p := 15) rfl (by decide +kernel)
theorem dmX13_summands_217 : decode cX13_summands 217 = .ok (.getfield 452, 3) := dw_at cX13_summands_k8 (p := 18) rfl (by decide +kernel)
theorem dmX13_summands_220 : decode cX13_summands 220 = .ok (.iload 4, 2) := dw_at cX13_summands_k8 (p := 21) rfl (by decide +kernel)
theorem dmX13_summands_222 : decode cX13_summands 222 = .ok (.iconst 1, 1) := dw_at cX13_summands_k8 (p := 23) rfl (by decide +kernel)
theorem dmX13_summands_223 : decode cX13_summands 223 = .ok (.iadd, 1) := dw_at cX13_summands_k9 (p := 0) rfl (by decide +kernel)
theorem dmX13_summands_224 : decode cX13_summands 224 = .ok (.iaload, 1) := dw_at cX13_summands_k9 (p := 1) rfl (by decide +kernel)
theorem dmX13_summands_225 : decode cX13_summands 225 = .ok (.if_icmp .ge 61, 3) := dw_at cX13_summands_k9 (p := 2) rfl (by decide +kernel)
theorem dmX13_summands_228 : decode cX13_summands 228 = .ok (.iload_n 3, 1) := dw_at cX13_summands_k9 (p := 5) rfl (by decide +kernel)
theorem dmX13_summands_229 : decode cX13_summands 229 = .ok (.ifCond .ne 57, 3) := dw_at cX13_summands_k9 (p := 6) rfl (by decide +kernel)
theorem dmX13_summands_232 : decode cX13_summands 232 = .ok (.iload 5, 2) := dw_at cX13_summands_k9 (p := 9) rfl (by decide +kernel)
theorem dmX13_summands_234 : decode cX13_summands 234 = .ok (.iconst 1, 1) := dw_at cX13_summands_k9 (p := 11) rfl (by decide +kernel)
theorem dmX13_summands_235 : decode cX13_summands 235 = .ok (.iadd, 1) := dw_at cX13_summands_k9 (p := 12) rfl (by decide +kernel)
theorem dmX13_summands_236 : decode cX13_summands 236 = .ok (.istore 6, 2) := dw_at cX13_summands_k9 (p := 13) rfl (by decide +kernel)
theorem dmX13_summands_238 : decode cX13_summands 238 = .ok (.iload 6, 2) := dw_at cX13_summands_k9 (p := 15) rfl (by decide +kernel)
theorem dmX13_summands_240 : decode cX13_summands 240 = .ok (.aload_n 0, 1) := dw_at cX13_summands_k9 (p := 17) rfl (by decide +kernel)
theorem dmX13_summands_241 : decode cX13_summands 241 = .ok (.getfield 114, 3) := dw_at cX13_summands_k9 (p := 18) rfl (by decide +kernel)
theorem dmX13_summands_244 : decode cX13_summands 244 = .ok (.getfield 452, 3) := dw_at cX13_summands_k9 (p := 21) rfl (by decide +kernel)
theorem dmX13_summands_247 : decode cX13_summands 247 = .ok (.iload 4, 2) := dw_at cX13_summands_k10 (p := 0) rfl (by decide +kernel)
theorem dmX13_summands_249 : decode cX13_summands 249 = .ok (.iconst 1, 1) := dw_at cX13_summands_k10 (p := 2) rfl (by decide +kernel)
theorem dmX13_summands_250 : decode cX13_summands 250 = .ok (.iadd, 1) := dw_at cX13_summands_k10 (p := 3) rfl (by decide +kernel)
theorem dmX13_summands_251 : decode cX13_summands 251 = .ok (.iaload, 1) := dw_at cX13_summands_k10 (p := 4) rfl (by decide +kernel)
theorem dmX13_summands_252 : decode cX13_summands 252 = .ok (.if_icmp .ge 28, 3) := dw_at cX13_summands_k10 (p := 5) rfl (by decide +kernel)
theorem dmX13_summands_255 : decode cX13_summands 255 = .ok (.iload_n 3, 1) := dw_at cX13_summands_k10 (p := 8) rfl (by decide +kernel)
theorem dmX13_summands_256 : decode cX13_summands 256 = .ok (.ifCond .ne 24, 3) := dw_at cX13_summands_k10 (p := 9) rfl (by decide +kernel)
theorem dmX13_summands_259 : decode cX13_summands 259 = .ok (.aload_n 0, 1) := dw_at cX13_summands_k10 (p := 12) rfl (by decide +kernel)
theorem dmX13_summands_260 : decode cX13_summands 260 = .ok (.aload_n 0, 1) := dw_at cX13_summands_k10 (p := 13) rfl (by decide +kernel)
theorem dmX13_summands_261 : decode cX13_summands 261 = .ok (.getfield 114, 3) := dw_at cX13_summands_k10 (p := 14) rfl (by decide +kernel)
theorem dmX13_summands_264 : decode cX13_summands 264 = .ok (.iload 4, 2) := dw_at cX13_summands_k10 (p := 17) rfl (by decide +kernel)
theorem dmX13_summands_266 : decode cX13_summands 266 = .ok (.iload 5, 2) := dw_at cX13_summands_k10 (p := 19) rfl (by decide +kernel)
theorem dmX13_summands_268 : decode cX13_summands 268 = .ok (.iload 6, 2) := dw_at cX13_summands_k10 (p := 21) rfl (by decide +kernel)
theorem dmX13_summands_270 : decode cX13_summands 270 = .ok (.invokevirtual 560, 3) := dw_at cX13_summands_k10 (p := 23) rfl (by decide +kernel)
theorem dmX13_summands_273 : decode cX13_summands 273 = .ok (.istore_n 3, 1) := dw_at cX13_summands_k11 (p := 0) rfl (by decide +kernel)
theorem dmX13_summands_274 : decode cX13_summands 274 = .ok (.iinc 6 1, 3) := dw_at cX13_summands_k11 (p := 1) rfl (by decide +kernel)
theorem dmX13_summands_277 : decode cX13_summands 277 = .ok (.goto (-39), 3) := dw_at cX13_summands_k11 (p := 4) rfl (by decide +kernel)
theorem dmX13_summands_280 : decode cX13_summands 280 = .ok (.iinc 5 1, 3) := dw_at cX13_summands_k11 (p := 7) rfl (by decide +kernel)
theorem dmX13_summands_283 : decode cX13_summands 283 = .ok (.goto (-72), 3) := dw_at cX13_summands_k11 (p := 10) rfl (by decide +kernel)
theorem dmX13_summands_286 : decode cX13_summands 286 = .ok (.iinc 4 1, 3) := dw_at cX13_summands_k11 (p := 13) rfl (by decide +kernel)
theorem dmX13_summands_289 : decode cX13_summands 289 = .ok (.goto (-106), 3) := dw_at cX13_summands_k11 (p := 16) rfl (by decide +kernel)
theorem dmX13_summands_292 : decode cX13_summands 292 = .ok (.iload_n 3, 1) := dw_at cX13_summands_k11 (p := 19) rfl (by decide +kernel)
theorem dmX13_summands_293 : decode cX13_summands 293 = .ok (.ifCond .eq 31, 3) := dw_at cX13_summands_k11 (p := 20) rfl (by decide +kernel)
theorem dmX13_summands_296 : decode cX13_summands 296 = .ok (.aload_n 0, 1) := dw_at cX13_summands_k11 (p := 23) rfl (by decide +kernel)
theorem dmX13_summands_297 : decode cX13_summands 297 = .ok (.aload_n 0, 1) := dw_at cX13_summands_k12 (p := 0) rfl (by decide +kernel)
theorem dmX13_summands_298 : decode cX13_summands 298 = .ok (.getfield 114, 3) := dw_at cX13_summands_k12 (p := 1) rfl (by decide +kernel)
theorem dmX13_summands_301 : decode cX13_summands 301 = .ok (.iconst 1, 1) := dw_at cX13_summands_k12 (p := 4) rfl (by decide +kernel)
theorem dmX13_summands_302 : decode cX13_summands 302 = .ok (.iload_n 2, 1) := dw_at cX13_summands_k12 (p := 5) rfl (by decide +kernel)
theorem dmX13_summands_303 : decode cX13_summands 303 = .ok (.invokevirtual 556, 3) := dw_at cX13_summands_k12 (p := 6) rfl (by decide +kernel)
theorem dmX13_summands_306 : decode cX13_summands 306 = .ok (.aload_n 0, 1) := dw_at cX13_summands_k12 (p := 9) rfl (by decide +kernel)
theorem dmX13_summands_307 : decode cX13_summands 307 = .ok (.aload_n 0, 1) := dw_at cX13_summands_k12 (p := 10) rfl (by decide +kernel)
theorem dmX13_summands_308 : decode cX13_summands 308 = .ok (.getfield 114, 3) := dw_at cX13_summands_k12 (p := 11) rfl (by decide +kernel)
theorem dmX13_summands_311 : decode cX13_summands 311 = .ok (.iconst 0, 1) := dw_at cX13_summands_k12 (p := 14) rfl (by decide +kernel)
theorem dmX13_summands_312 : decode cX13_summands 312 = .ok (.iload_n 2, 1) := dw_at cX13_summands_k12 (p := 15) rfl (by decide +kernel)
theorem dmX13_summands_313 : decode cX13_summands 313 = .ok (.iconst 1, 1) := dw_at cX13_summands_k12 (p := 16) rfl (by decide +kernel)
theorem dmX13_summands_314 : decode cX13_summands 314 = .ok (.iadd, 1) := dw_at cX13_summands_k12 (p := 17) rfl (by decide +kernel)
theorem dmX13_summands_315 : decode cX13_summands 315 = .ok (.invokevirtual 556, 3) := dw_at cX13_summands_k12 (p := 18) rfl (by decide +kernel)
theorem dmX13_summands_318 : decode cX13_summands 318 = .ok (.iinc 2 2, 3) := dw_at cX13_summands_k12 (p := 21) rfl (by decide +kernel)
theorem dmX13_summands_321 : decode cX13_summands 321 = .ok (.goto 11, 3) := dw_at cX13_summands_k13 (p := 0) rfl (by decide +kernel)
theorem dmX13_summands_324 : decode cX13_summands 324 = .ok (.aload_n 0, 1) := dw_at cX13_summands_k13 (p := 3) rfl (by decide +kernel)
theorem dmX13_summands_325 : decode cX13_summands 325 = .ok (.bipush 32, 2) := dw_at cX13_summands_k13 (p := 4) rfl (by decide +kernel)
theorem dmX13_summands_327 : decode cX13_summands 327 = .ok (.iload_n 2, 1) := dw_at cX13_summands_k13 (p := 6) rfl (by decide +kernel)
theorem dmX13_summands_328 : decode cX13_summands 328 = .ok (.imul, 1) := dw_at cX13_summands_k13 (p := 7) rfl (by decide +kernel)
theorem dmX13_summands_329 : decode cX13_summands 329 = .ok (.invokevirtual 564, 3) := dw_at cX13_summands_k13 (p := 8) rfl (by decide +kernel)
theorem dmX13_summands_332 : decode cX13_summands 332 = .ok (.goto (-183), 3) := dw_at cX13_summands_k13 (p := 11) rfl (by decide +kernel)
theorem dmX13_summands_335 : decode cX13_summands 335 = .ok (.aload_n 0, 1) := dw_at cX13_summands_k13 (p := 14) rfl (by decide +kernel)
theorem dmX13_summands_336 : decode cX13_summands 336 = .ok (.getfield 553, 3) := dw_at cX13_summands_k13 (p := 15) rfl (by decide +kernel)
theorem dmX13_summands_339 : decode cX13_summands 339 = .ok (.ireturn, 1) := dw_at cX13_summands_k13 (p := 18) rfl (by decide +kernel)
def qm_X13_summands_0 (K : Nat) (go : Nat → Int32 → Int32 → Int32 → Int32 → Int32 → Int32 → Int32 → Int32 → ow_MS → Option (Int32 × ow_MS)) (x1 : Int32) (x2 : Int32) (x3 : Int32) (x4 : Int32) (x5 : Int32) (x6 : Int32) (t0 : Int32) (t1 : Int32) (z : ow_MS) : Option (Int32 × ow_MS) :=
 wrF z 1 0 fun z1 => cs1 (qe_X13_has K x1 z1) fun v3 z2 => (if v3 = 0 then cs1 (qe_X13_fails K 1 z2) fun v7 z6 => some (v7, z6)
 else cs0 (qe_X13_open K x1 2000 z2) fun z4 => cs0 (qe_X12_split K 2000 z4) fun z5 => go 1 x1 0 0 0 0 0 0 0 z5)
def qm_X13_summands_1 (K : Nat) (go : Nat → Int32 → Int32 → Int32 → Int32 → Int32 → Int32 → Int32 → Int32 → ow_MS → Option (Int32 × ow_MS)) (x1 : Int32) (x2 : Int32) (x3 : Int32) (x4 : Int32) (x5 : Int32) (x6 : Int32) (t0 : Int32) (t1 : Int32) (z : ow_MS) : Option (Int32 × ow_MS) :=
 rdF z (2000 + 13) fun v8 => (if v8 ≤ x3 then wrF z 36 0 fun z9 => go 5 x1 x2 x3 0 0 0 0 0 z9
 else go 2 x1 x2 x3 0 0 0 0 0 z)
def qm_X13_summands_2 (K : Nat) (go : Nat → Int32 → Int32 → Int32 → Int32 → Int32 → Int32 → Int32 → Int32 → ow_MS → Option (Int32 × ow_MS)) (x1 : Int32) (x2 : Int32) (x3 : Int32) (x4 : Int32) (x5 : Int32) (x6 : Int32) (t0 : Int32) (t1 : Int32) (z : ow_MS) : Option (Int32 × ow_MS) :=
 rdF z (2000 + 1) fun v10 => (if v10 ≤ x5 then (if x4 = 0 then go 4 x1 x2 x3 x4 x5 0 0 0 z
 else cs0 (qe_X13_waitsFor K 2000 1 x2 z) fun z11 => go 4 x1 (x2 + 1) x3 x4 x5 0 0 0 z11)
 else rdI mX z (2000 + 8) x5 fun v12 => rdI mX z (2000 + 12) v12 fun v13 => (if v13 = x3 then go 3 x1 x2 x3 x4 x5 0 1 x5 z
 else go 3 x1 x2 x3 x4 x5 0 0 x5 z))
def qm_X13_summands_3 (K : Nat) (go : Nat → Int32 → Int32 → Int32 → Int32 → Int32 → Int32 → Int32 → Int32 → ow_MS → Option (Int32 × ow_MS)) (x1 : Int32) (x2 : Int32) (x3 : Int32) (x4 : Int32) (x5 : Int32) (x6 : Int32) (t0 : Int32) (t1 : Int32) (z : ow_MS) : Option (Int32 × ow_MS) :=
 wrZ mX z 38 t1 t0 fun z14 => rdI mX z14 38 x5 fun v15 => go 2 x1 x2 x3 (x4 ||| v15) (x5 + 1) 0 0 0 z14
def qm_X13_summands_4 (K : Nat) (go : Nat → Int32 → Int32 → Int32 → Int32 → Int32 → Int32 → Int32 → Int32 → ow_MS → Option (Int32 × ow_MS)) (x1 : Int32) (x2 : Int32) (x3 : Int32) (x4 : Int32) (x5 : Int32) (x6 : Int32) (t0 : Int32) (t1 : Int32) (z : ow_MS) : Option (Int32 × ow_MS) :=
 go 1 x1 x2 (x3 + 1) 0 0 0 0 0 z
def qm_X13_summands_5 (K : Nat) (go : Nat → Int32 → Int32 → Int32 → Int32 → Int32 → Int32 → Int32 → Int32 → ow_MS → Option (Int32 × ow_MS)) (x1 : Int32) (x2 : Int32) (x3 : Int32) (x4 : Int32) (x5 : Int32) (x6 : Int32) (t0 : Int32) (t1 : Int32) (z : ow_MS) : Option (Int32 × ow_MS) :=
 (if x2 ≤ 0 then rdF z 36 fun v16 => some (v16, z)
 else cs0 (qe_X13_unpack K 37 (32 * (x2 + (-1))) 1000 z) fun z17 => cs0 (qe_X12_link K 1000 z17) fun z18 => go 6 x1 (x2 + (-1)) 0 0 0 0 0 0 z18)
def qm_X13_summands_6 (K : Nat) (go : Nat → Int32 → Int32 → Int32 → Int32 → Int32 → Int32 → Int32 → Int32 → ow_MS → Option (Int32 × ow_MS)) (x1 : Int32) (x2 : Int32) (x3 : Int32) (x4 : Int32) (x5 : Int32) (x6 : Int32) (t0 : Int32) (t1 : Int32) (z : ow_MS) : Option (Int32 × ow_MS) :=
 rdF z (1000 + 2) fun v19 => (if v19 ≤ x4 then go 11 x1 x2 x3 x4 0 0 0 0 z
 else (if x3 = 0 then rdI mX z (1000 + 3) x4 fun v20 => go 7 x1 x2 x3 x4 v20 0 0 0 z
 else go 11 x1 x2 x3 x4 0 0 0 0 z))
def qm_X13_summands_7 (K : Nat) (go : Nat → Int32 → Int32 → Int32 → Int32 → Int32 → Int32 → Int32 → Int32 → ow_MS → Option (Int32 × ow_MS)) (x1 : Int32) (x2 : Int32) (x3 : Int32) (x4 : Int32) (x5 : Int32) (x6 : Int32) (t0 : Int32) (t1 : Int32) (z : ow_MS) : Option (Int32 × ow_MS) :=
 rdI mX z (1000 + 3) (x4 + 1) fun v21 => (if v21 ≤ x5 then go 10 x1 x2 x3 x4 x5 0 0 0 z
 else (if x3 = 0 then go 8 x1 x2 x3 x4 x5 (x5 + 1) 0 0 z
 else go 10 x1 x2 x3 x4 x5 0 0 0 z))
def qm_X13_summands_8 (K : Nat) (go : Nat → Int32 → Int32 → Int32 → Int32 → Int32 → Int32 → Int32 → Int32 → ow_MS → Option (Int32 × ow_MS)) (x1 : Int32) (x2 : Int32) (x3 : Int32) (x4 : Int32) (x5 : Int32) (x6 : Int32) (t0 : Int32) (t1 : Int32) (z : ow_MS) : Option (Int32 × ow_MS) :=
 rdI mX z (1000 + 3) (x4 + 1) fun v22 => (if v22 ≤ x6 then go 9 x1 x2 x3 x4 x5 x6 0 0 z
 else (if x3 = 0 then cs1 (qe_X13_isParted K 1000 x4 x5 x6 z) fun v24 z23 => go 8 x1 x2 v24 x4 x5 (x6 + 1) 0 0 z23
 else go 9 x1 x2 x3 x4 x5 x6 0 0 z))
def qm_X13_summands_9 (K : Nat) (go : Nat → Int32 → Int32 → Int32 → Int32 → Int32 → Int32 → Int32 → Int32 → ow_MS → Option (Int32 × ow_MS)) (x1 : Int32) (x2 : Int32) (x3 : Int32) (x4 : Int32) (x5 : Int32) (x6 : Int32) (t0 : Int32) (t1 : Int32) (z : ow_MS) : Option (Int32 × ow_MS) :=
 go 7 x1 x2 x3 x4 (x5 + 1) 0 0 0 z
def qm_X13_summands_10 (K : Nat) (go : Nat → Int32 → Int32 → Int32 → Int32 → Int32 → Int32 → Int32 → Int32 → ow_MS → Option (Int32 × ow_MS)) (x1 : Int32) (x2 : Int32) (x3 : Int32) (x4 : Int32) (x5 : Int32) (x6 : Int32) (t0 : Int32) (t1 : Int32) (z : ow_MS) : Option (Int32 × ow_MS) :=
 go 6 x1 x2 x3 (x4 + 1) 0 0 0 0 z
def qm_X13_summands_11 (K : Nat) (go : Nat → Int32 → Int32 → Int32 → Int32 → Int32 → Int32 → Int32 → Int32 → ow_MS → Option (Int32 × ow_MS)) (x1 : Int32) (x2 : Int32) (x3 : Int32) (x4 : Int32) (x5 : Int32) (x6 : Int32) (t0 : Int32) (t1 : Int32) (z : ow_MS) : Option (Int32 × ow_MS) :=
 (if x3 = 0 then cs0 (qe_X13_addSummand K (32 * x2) z) fun z25 => go 12 x1 x2 x3 x4 0 0 0 0 z25
 else cs0 (qe_X13_waitsFor K 1000 1 x2 z) fun z26 => cs0 (qe_X13_waitsFor K 1000 0 (x2 + 1) z26) fun z27 => go 12 x1 (x2 + 2) x3 x4 0 0 0 0 z27)
def qm_X13_summands_12 (K : Nat) (go : Nat → Int32 → Int32 → Int32 → Int32 → Int32 → Int32 → Int32 → Int32 → ow_MS → Option (Int32 × ow_MS)) (x1 : Int32) (x2 : Int32) (x3 : Int32) (x4 : Int32) (x5 : Int32) (x6 : Int32) (t0 : Int32) (t1 : Int32) (z : ow_MS) : Option (Int32 × ow_MS) :=
 go 5 x1 x2 x3 0 0 0 0 0 z
def qb_X13_summands (K : Nat) (go : Nat → Int32 → Int32 → Int32 → Int32 → Int32 → Int32 → Int32 → Int32 → ow_MS → Option (Int32 × ow_MS)) (L : Nat) (x1 : Int32) (x2 : Int32) (x3 : Int32) (x4 : Int32) (x5 : Int32) (x6 : Int32) (t0 : Int32) (t1 : Int32) (z : ow_MS) : Option (Int32 × ow_MS) := match L with
  | 0 => qm_X13_summands_0 K go x1 x2 x3 x4 x5 x6 t0 t1 z
  | 1 => qm_X13_summands_1 K go x1 x2 x3 x4 x5 x6 t0 t1 z
  | 2 => qm_X13_summands_2 K go x1 x2 x3 x4 x5 x6 t0 t1 z
  | 3 => qm_X13_summands_3 K go x1 x2 x3 x4 x5 x6 t0 t1 z
  | 4 => qm_X13_summands_4 K go x1 x2 x3 x4 x5 x6 t0 t1 z
  | 5 => qm_X13_summands_5 K go x1 x2 x3 x4 x5 x6 t0 t1 z
  | 6 => qm_X13_summands_6 K go x1 x2 x3 x4 x5 x6 t0 t1 z
  | 7 => qm_X13_summands_7 K go x1 x2 x3 x4 x5 x6 t0 t1 z
  | 8 => qm_X13_summands_8 K go x1 x2 x3 x4 x5 x6 t0 t1 z
  | 9 => qm_X13_summands_9 K go x1 x2 x3 x4 x5 x6 t0 t1 z
  | 10 => qm_X13_summands_10 K go x1 x2 x3 x4 x5 x6 t0 t1 z
  | 11 => qm_X13_summands_11 K go x1 x2 x3 x4 x5 x6 t0 t1 z
  | 12 => qm_X13_summands_12 K go x1 x2 x3 x4 x5 x6 t0 t1 z
  | _ => none
def q_X13_summands (K : Nat) : Nat → Nat → Int32 → Int32 → Int32 → Int32 → Int32 → Int32 → Int32 → Int32 → ow_MS → Option (Int32 × ow_MS)
  | 0 => fun _ _ _ _ _ _ _ _ _ _ => none
  | k + 1 => qb_X13_summands K (q_X13_summands K k)
def qe_X13_summands (K : Nat) (x1 : Int32) (z : ow_MS) : Option (Int32 × ow_MS) := q_X13_summands K K 0 x1 0 0 0 0 0 0 0 z
abbrev wm_X13_summands : List Cond := .code yX13_summands cX13_summands 7 (some .int) :: wM
theorem cd_X13_summands : yX13_summands.cls = RX13 ∧ yX13_summands.cls ≠ "java/lang/invoke/MethodHandle" ∧ yX13_summands.cls ≠ "java/lang/invoke/VarHandle" ∧ (parseMethodDescriptor yX13_summands.desc).map (fun d => d.parameters.length) = some 1 := by decide +kernel
set_option maxHeartbeats 4000000 in
set_option maxRecDepth 100000 in
theorem km_X13_summands (l : Launch) (D : va_G) (q : ow_Q5) (u : Nat → Nat) (hU : tw_inj mX u) (K : Nat) (x1 : Int32)  (z z1 : ow_MS) (r : Int32) (hq : qe_X13_summands K x1 z = some (r, z1)) : Met l yX13_summands wm_X13_summands ({ frames := 5, cells := 0, slots := 0, locals := 137 } : Room) (va_Pc [.ref (u 0), .int x1] (mw_pre D q u z)) (va_Qi (fun x (_ : Unit) => x = r) (fun _ t => va_P D vwCl (tw mX q u z1) t.heap) (tw_A mX u)) 0 0 (tw_A mX u) := by
  refine Met.ofW (cc := cX13_summands) (maxL := 7) (ret := (some .int)) (by decide) rfl ?_
  intro p e s m args below meth c s₁ B hml hv
  obtain ⟨rfl, hP, hK, hN⟩ := hv
  have hx := B.exec
  have hb := B.bytes
  have hr := B.returns
  have hts := atoms_spec (ws := wm_X13_summands) B.pre
  have hT : ∀ w ∈ wM, w.before ([.ref (u 0), .int x1] : List Value).toArray s = true := fun w h => hts w (List.mem_cons_of_mem _ h)
  have hown : s.vm.findClass RX13 = some m.cls := findClass_of_methodNamed B.named
  have hlocks := B.notSynchronized
  have hM : tw_M D vwCl mX q s.heap u z s.heap [] := ⟨hP, va_S.rf⟩
  have hl := lv_entry ([.ref (u 0), .int x1]) (n := 7) (Nat.le_of_ble_eq_true rfl)
  rw [lg_entry_eq]
  generalize (lg_sl ([.ref (u 0), .int x1]) ++ List.replicate (7 - (lg_sl ([.ref (u 0), .int x1])).length) Slot.unset).toArray = ls at hl ⊢
  have hl : lv_has ls 7 [(0, .ref (u 0)), (1, .int x1)] := hl
  refine ow_named (fun QQ hQQ => ?_)
  generalize ([.ref (u 0), .int x1] : List Value).toArray = args at hts hT hQQ ⊢
  have key : ∀ k : Nat, (∀ (x1 : Int32) (x2 : Int32) (x3 : Int32) (x4 : Int32) (x5 : Int32) (x6 : Int32) (t0 : Int32) (t1 : Int32) (z : ow_MS) (H : Heap) (locs : List Loc) (ls : Array Slot), tw_M D vwCl mX q s.heap u z H locs → lv_has ls 7 [(0, .ref (u 0)), (1, .int x1)] → q_X13_summands K k 0 x1 x2 x3 x4 x5 x6 t0 t1 z = some (r, z1) → W p l e ({ frames := 5, cells := 0, slots := 0, locals := 137 } : Room) s m args below meth c H locs 0 0 QQ (F0 m 0 ls [])) ∧ (∀ (x1 : Int32) (x2 : Int32) (x3 : Int32) (x4 : Int32) (x5 : Int32) (x6 : Int32) (t0 : Int32) (t1 : Int32) (z : ow_MS) (H : Heap) (locs : List Loc) (ls : Array Slot), tw_M D vwCl mX q s.heap u z H locs → lv_has ls 7 [(0, .ref (u 0)), (1, .int x1), (2, .int x2), (3, .int x3)] → q_X13_summands K k 1 x1 x2 x3 x4 x5 x6 t0 t1 z = some (r, z1) → W p l e ({ frames := 5, cells := 0, slots := 0, locals := 137 } : Room) s m args below meth c H locs 0 0 QQ (F0 m 39 ls [])) ∧ (∀ (x1 : Int32) (x2 : Int32) (x3 : Int32) (x4 : Int32) (x5 : Int32) (x6 : Int32) (t0 : Int32) (t1 : Int32) (z : ow_MS) (H : Heap) (locs : List Loc) (ls : Array Slot), tw_M D vwCl mX q s.heap u z H locs → lv_has ls 7 [(0, .ref (u 0)), (1, .int x1), (2, .int x2), (3, .int x3), (4, .int x4), (5, .int x5)] → q_X13_summands K k 2 x1 x2 x3 x4 x5 x6 t0 t1 z = some (r, z1) → W p l e ({ frames := 5, cells := 0, slots := 0, locals := 137 } : Room) s m args below meth c H locs 0 0 QQ (F0 m 56 ls [])) ∧ (∀ (x1 : Int32) (x2 : Int32) (x3 : Int32) (x4 : Int32) (x5 : Int32) (x6 : Int32) (t0 : Int32) (t1 : Int32) (z : ow_MS) (H : Heap) (locs : List Loc) (ls : Array Slot), tw_M D vwCl mX q s.heap u z H locs → lv_has ls 7 [(0, .ref (u 0)), (1, .int x1), (2, .int x2), (3, .int x3), (4, .int x4), (5, .int x5)] → q_X13_summands K k 3 x1 x2 x3 x4 x5 x6 t0 t1 z = some (r, z1) → W p l e ({ frames := 5, cells := 0, slots := 0, locals := 137 } : Room) s m args below meth c H locs 0 0 QQ (F0 m 101 ls [.int t0, .int t1, .ref (u 38)])) ∧ (∀ (x1 : Int32) (x2 : Int32) (x3 : Int32) (x4 : Int32) (x5 : Int32) (x6 : Int32) (t0 : Int32) (t1 : Int32) (z : ow_MS) (H : Heap) (locs : List Loc) (ls : Array Slot), tw_M D vwCl mX q s.heap u z H locs → lv_has ls 7 [(0, .ref (u 0)), (1, .int x1), (2, .int x2), (3, .int x3), (4, .int x4), (5, .int x5)] → q_X13_summands K k 4 x1 x2 x3 x4 x5 x6 t0 t1 z = some (r, z1) → W p l e ({ frames := 5, cells := 0, slots := 0, locals := 137 } : Room) s m args below meth c H locs 0 0 QQ (F0 m 138 ls [])) ∧ (∀ (x1 : Int32) (x2 : Int32) (x3 : Int32) (x4 : Int32) (x5 : Int32) (x6 : Int32) (t0 : Int32) (t1 : Int32) (z : ow_MS) (H : Heap) (locs : List Loc) (ls : Array Slot), tw_M D vwCl mX q s.heap u z H locs → lv_has ls 7 [(0, .ref (u 0)), (1, .int x1), (2, .int x2), (3, .int x3)] → q_X13_summands K k 5 x1 x2 x3 x4 x5 x6 t0 t1 z = some (r, z1) → W p l e ({ frames := 5, cells := 0, slots := 0, locals := 137 } : Room) s m args below meth c H locs 0 0 QQ (F0 m 149 ls [])) ∧ (∀ (x1 : Int32) (x2 : Int32) (x3 : Int32) (x4 : Int32) (x5 : Int32) (x6 : Int32) (t0 : Int32) (t1 : Int32) (z : ow_MS) (H : Heap) (locs : List Loc) (ls : Array Slot), tw_M D vwCl mX q s.heap u z H locs → lv_has ls 7 [(0, .ref (u 0)), (1, .int x1), (2, .int x2), (3, .int x3), (4, .int x4)] → q_X13_summands K k 6 x1 x2 x3 x4 x5 x6 t0 t1 z = some (r, z1) → W p l e ({ frames := 5, cells := 0, slots := 0, locals := 137 } : Room) s m args below meth c H locs 0 0 QQ (F0 m 183 ls [])) ∧ (∀ (x1 : Int32) (x2 : Int32) (x3 : Int32) (x4 : Int32) (x5 : Int32) (x6 : Int32) (t0 : Int32) (t1 : Int32) (z : ow_MS) (H : Heap) (locs : List Loc) (ls : Array Slot), tw_M D vwCl mX q s.heap u z H locs → lv_has ls 7 [(0, .ref (u 0)), (1, .int x1), (2, .int x2), (3, .int x3), (4, .int x4), (5, .int x5)] → q_X13_summands K k 7 x1 x2 x3 x4 x5 x6 t0 t1 z = some (r, z1) → W p l e ({ frames := 5, cells := 0, slots := 0, locals := 137 } : Room) s m args below meth c H locs 0 0 QQ (F0 m 211 ls [])) ∧ (∀ (x1 : Int32) (x2 : Int32) (x3 : Int32) (x4 : Int32) (x5 : Int32) (x6 : Int32) (t0 : Int32) (t1 : Int32) (z : ow_MS) (H : Heap) (locs : List Loc) (ls : Array Slot), tw_M D vwCl mX q s.heap u z H locs → lv_has ls 7 [(0, .ref (u 0)), (1, .int x1), (2, .int x2), (3, .int x3), (4, .int x4), (5, .int x5), (6, .int x6)] → q_X13_summands K k 8 x1 x2 x3 x4 x5 x6 t0 t1 z = some (r, z1) → W p l e ({ frames := 5, cells := 0, slots := 0, locals := 137 } : Room) s m args below meth c H locs 0 0 QQ (F0 m 238 ls [])) ∧ (∀ (x1 : Int32) (x2 : Int32) (x3 : Int32) (x4 : Int32) (x5 : Int32) (x6 : Int32) (t0 : Int32) (t1 : Int32) (z : ow_MS) (H : Heap) (locs : List Loc) (ls : Array Slot), tw_M D vwCl mX q s.heap u z H locs → lv_has ls 7 [(0, .ref (u 0)), (1, .int x1), (2, .int x2), (3, .int x3), (4, .int x4), (5, .int x5), (6, .int x6)] → q_X13_summands K k 9 x1 x2 x3 x4 x5 x6 t0 t1 z = some (r, z1) → W p l e ({ frames := 5, cells := 0, slots := 0, locals := 137 } : Room) s m args below meth c H locs 0 0 QQ (F0 m 280 ls [])) ∧ (∀ (x1 : Int32) (x2 : Int32) (x3 : Int32) (x4 : Int32) (x5 : Int32) (x6 : Int32) (t0 : Int32) (t1 : Int32) (z : ow_MS) (H : Heap) (locs : List Loc) (ls : Array Slot), tw_M D vwCl mX q s.heap u z H locs → lv_has ls 7 [(0, .ref (u 0)), (1, .int x1), (2, .int x2), (3, .int x3), (4, .int x4), (5, .int x5)] → q_X13_summands K k 10 x1 x2 x3 x4 x5 x6 t0 t1 z = some (r, z1) → W p l e ({ frames := 5, cells := 0, slots := 0, locals := 137 } : Room) s m args below meth c H locs 0 0 QQ (F0 m 286 ls [])) ∧ (∀ (x1 : Int32) (x2 : Int32) (x3 : Int32) (x4 : Int32) (x5 : Int32) (x6 : Int32) (t0 : Int32) (t1 : Int32) (z : ow_MS) (H : Heap) (locs : List Loc) (ls : Array Slot), tw_M D vwCl mX q s.heap u z H locs → lv_has ls 7 [(0, .ref (u 0)), (1, .int x1), (2, .int x2), (3, .int x3), (4, .int x4)] → q_X13_summands K k 11 x1 x2 x3 x4 x5 x6 t0 t1 z = some (r, z1) → W p l e ({ frames := 5, cells := 0, slots := 0, locals := 137 } : Room) s m args below meth c H locs 0 0 QQ (F0 m 292 ls [])) ∧ (∀ (x1 : Int32) (x2 : Int32) (x3 : Int32) (x4 : Int32) (x5 : Int32) (x6 : Int32) (t0 : Int32) (t1 : Int32) (z : ow_MS) (H : Heap) (locs : List Loc) (ls : Array Slot), tw_M D vwCl mX q s.heap u z H locs → lv_has ls 7 [(0, .ref (u 0)), (1, .int x1), (2, .int x2), (3, .int x3), (4, .int x4)] → q_X13_summands K k 12 x1 x2 x3 x4 x5 x6 t0 t1 z = some (r, z1) → W p l e ({ frames := 5, cells := 0, slots := 0, locals := 137 } : Room) s m args below meth c H locs 0 0 QQ (F0 m 332 ls [])) := by
    intro k
    induction k with
    | zero => exact ⟨fun _ _ _ _ _ _ _ _ _ _ _ _  _ _ hq => tw_no hq, fun _ _ _ _ _ _ _ _ _ _ _ _  _ _ hq => tw_no hq, fun _ _ _ _ _ _ _ _ _ _ _ _  _ _ hq => tw_no hq, fun _ _ _ _ _ _ _ _ _ _ _ _  _ _ hq => tw_no hq, fun _ _ _ _ _ _ _ _ _ _ _ _  _ _ hq => tw_no hq, fun _ _ _ _ _ _ _ _ _ _ _ _  _ _ hq => tw_no hq, fun _ _ _ _ _ _ _ _ _ _ _ _  _ _ hq => tw_no hq, fun _ _ _ _ _ _ _ _ _ _ _ _  _ _ hq => tw_no hq, fun _ _ _ _ _ _ _ _ _ _ _ _  _ _ hq => tw_no hq, fun _ _ _ _ _ _ _ _ _ _ _ _  _ _ hq => tw_no hq, fun _ _ _ _ _ _ _ _ _ _ _ _  _ _ hq => tw_no hq, fun _ _ _ _ _ _ _ _ _ _ _ _  _ _ hq => tw_no hq, fun _ _ _ _ _ _ _ _ _ _ _ _  _ _ hq => tw_no hq⟩
    | succ k ih =>
      obtain ⟨ih_0, ih_1, ih_2, ih_3, ih_4, ih_5, ih_6, ih_7, ih_8, ih_9, ih_10, ih_11, ih_12⟩ := ih
      refine ⟨?_, ?_, ?_, ?_, ?_, ?_, ?_, ?_, ?_, ?_, ?_, ?_, ?_⟩
      · intro x1 x2 x3 x4 x5 x6 t0 t1 z H locs ls  hM hl hq
        have hq : qm_X13_summands_0 K (q_X13_summands K k) x1 x2 x3 x4 x5 x6 t0 t1 z = some (r, z1) := hq
        unfold qm_X13_summands_0 at hq
        refine lv_aload_n hx hb dmX13_summands_0 rfl (lv_at hl 0 rfl) ?_
        refine lv_iconst (v := 0) hx hb dmX13_summands_1 (by decide) ?_
        refine mp13_1 hx hb hT hown hK hM hU hq dmX13_summands_2 (fun z1 H locs hM hq => ?_)
        refine lv_aload_n hx hb dmX13_summands_5 rfl (lv_at hl 0 rfl) ?_
        refine lv_iload_n hx hb dmX13_summands_6 rfl (lv_at hl 1 rfl) ?_
        obtain ⟨v3, z2, hcq, hq⟩ := tw_cl1 hq
        refine tw_cali hM (va_runV (As := [.int x1]) (rest := []) ⟨hx, hb, hml, hown, hts⟩ (km_X13_has l D q u hU K x1 z1 z2 v3 hcq) (cwV 1 hts (tw_gV wM_good wq_127 wq_128 wq_129 wq_61 wq_90) rfl rfl rfl cd_X13_has ⟨(Nat.le_of_ble_eq_true rfl), (Nat.le_of_ble_eq_true rfl)⟩) (mw_preV hK hN hM mo_0 rfl) rfl rfl hl.1 rfl (lv_room (Nat.le_of_ble_eq_true rfl)) dmX13_summands_7 ⟨(Nat.le_of_ble_eq_true rfl), (Nat.le_of_ble_eq_true rfl)⟩) (fun H locs hM => ?_)
        refine lv_if_ne (tgt := 19) hx hb dmX13_summands_10 (by decide) (fun hc => ?_) (fun hc => ?_)
        · have hq := tw_if hq hc
          refine lv_aload_n hx hb dmX13_summands_19 rfl (lv_at hl 0 rfl) ?_
          refine lv_iload_n hx hb dmX13_summands_20 rfl (lv_at hl 1 rfl) ?_
          refine lv_aload_n hx hb dmX13_summands_21 rfl (lv_at hl 0 rfl) ?_
          refine mg13_118 hx hb hT hown hK hM dmX13_summands_22 ?_
          obtain ⟨z4, hcq, hq⟩ := tw_cl0 hq
          refine tw_calv hM (va_runV (As := [.int x1, .ref (u 2000)]) (rest := []) ⟨hx, hb, hml, hown, hts⟩ (km_X13_open l D q u hU K x1 2000 mw_n2 z2 z4 hcq) (cwV 2 hts (tw_gV wM_good wq_138 wq_139 wq_140 wq_61 wq_136) rfl rfl rfl cd_X13_open ⟨(Nat.le_of_ble_eq_true rfl), (Nat.le_of_ble_eq_true rfl)⟩) (mw_preV hK hN hM mo_0 rfl) rfl rfl hl.1 rfl (lv_room (Nat.le_of_ble_eq_true rfl)) dmX13_summands_25 ⟨(Nat.le_of_ble_eq_true rfl), (Nat.le_of_ble_eq_true rfl)⟩) (fun H locs hM => ?_)
          refine lv_aload_n hx hb dmX13_summands_28 rfl (lv_at hl 0 rfl) ?_
          refine mg13_118 hx hb hT hown hK hM dmX13_summands_29 ?_
          obtain ⟨z5, hcq, hq⟩ := tw_cl0 hq
          refine tw_calv hM (va_runV (As := []) (rest := []) ⟨hx, hb, hml, hown, hts⟩ (km_X12_split l D q u hU K 2000 mw_n2 z4 z5 hcq) (cwV 0 hts (tw_gV wM_good wq_80 wq_39 wq_40 wq_13 wq_33) rfl rfl rfl cd_X12_split ⟨(Nat.le_of_ble_eq_true rfl), (Nat.le_of_ble_eq_true rfl)⟩) (mw_preV hK hN hM (mo_n mw_n2) rfl) rfl rfl hl.1 rfl (lv_room (Nat.le_of_ble_eq_true rfl)) dmX13_summands_32 ⟨(Nat.le_of_ble_eq_true rfl), (Nat.le_of_ble_eq_true rfl)⟩) (fun H locs hM => ?_)
          refine lv_iconst (v := 0) hx hb dmX13_summands_35 (by decide) ?_
          refine lv_istore_n (lv' := [(2, .int 0), (0, .ref (u 0)), (1, .int x1)]) hx hb dmX13_summands_36 rfl hl (by decide) rfl (fun ls hl => ?_)
          refine lv_iconst (v := 0) hx hb dmX13_summands_37 (by decide) ?_
          refine lv_istore_n (lv' := [(3, .int 0), (2, .int 0), (0, .ref (u 0)), (1, .int x1)]) hx hb dmX13_summands_38 rfl hl (by decide) rfl (fun ls hl => ?_)
          exact ih_1 x1 0 0 0 0 0 0 0 z5 H locs ls hM (lv_sub hl [2, 3, 1, 0] rfl) hq
        · have hq := tw_it hq hc
          refine lv_aload_n hx hb dmX13_summands_13 rfl (lv_at hl 0 rfl) ?_
          refine lv_iconst (v := 1) hx hb dmX13_summands_14 (by decide) ?_
          obtain ⟨v7, z6, hcq, hq⟩ := tw_cl1 hq
          refine tw_cali hM (va_runV (As := [.int 1]) (rest := []) ⟨hx, hb, hml, hown, hts⟩ (km_X13_fails l D q u hU K 1 z2 z6 v7 hcq) (cwV 1 hts (tw_gV wM_good wq_103 wq_104 wq_105 wq_61 wq_50) rfl rfl rfl cd_X13_fails ⟨(Nat.le_of_ble_eq_true rfl), (Nat.le_of_ble_eq_true rfl)⟩) (mw_preV hK hN hM mo_0 rfl) rfl rfl hl.1 rfl (lv_room (Nat.le_of_ble_eq_true rfl)) dmX13_summands_15 ⟨(Nat.le_of_ble_eq_true rfl), (Nat.le_of_ble_eq_true rfl)⟩) (fun H locs hM => ?_)
          exact mw_iret hx hb hr hlocks hM hq hQQ dmX13_summands_18
      · intro x1 x2 x3 x4 x5 x6 t0 t1 z H locs ls  hM hl hq
        have hq : qm_X13_summands_1 K (q_X13_summands K k) x1 x2 x3 x4 x5 x6 t0 t1 z = some (r, z1) := hq
        unfold qm_X13_summands_1 at hq
        refine lv_iload_n hx hb dmX13_summands_39 rfl (lv_at hl 3 rfl) ?_
        refine lv_aload_n hx hb dmX13_summands_40 rfl (lv_at hl 0 rfl) ?_
        refine mg13_118 hx hb hT hown hK hM dmX13_summands_41 ?_
        refine mg13_78 hx hb hT hown hK hM hN mw_n2 hq dmX13_summands_44 (fun v8 hq => ?_)
        refine lv_icmp_ge (tgt := 144) hx hb dmX13_summands_47 (by decide) (fun hc => ?_) (fun hc => ?_)
        · have hq := tw_it hq hc
          refine lv_aload_n hx hb dmX13_summands_144 rfl (lv_at hl 0 rfl) ?_
          refine lv_iconst (v := 0) hx hb dmX13_summands_145 (by decide) ?_
          refine mp13_553 hx hb hT hown hK hM hU hq dmX13_summands_146 (fun z9 H locs hM hq => ?_)
          exact ih_5 x1 x2 x3 0 0 0 0 0 z9 H locs ls hM (lv_sub hl [0, 1, 2, 3] rfl) hq
        · have hq := tw_if hq hc
          refine lv_iconst (v := 0) hx hb dmX13_summands_50 (by decide) ?_
          refine lv_istore (lv' := [(4, .int 0), (0, .ref (u 0)), (1, .int x1), (2, .int x2), (3, .int x3)]) hx hb dmX13_summands_51 hl (by decide) rfl (fun ls hl => ?_)
          refine lv_iconst (v := 0) hx hb dmX13_summands_53 (by decide) ?_
          refine lv_istore (lv' := [(5, .int 0), (4, .int 0), (0, .ref (u 0)), (1, .int x1), (2, .int x2), (3, .int x3)]) hx hb dmX13_summands_54 hl (by decide) rfl (fun ls hl => ?_)
          exact ih_2 x1 x2 x3 0 0 0 0 0 z H locs ls hM (lv_sub hl [2, 3, 4, 5, 1, 0] rfl) hq
      · intro x1 x2 x3 x4 x5 x6 t0 t1 z H locs ls  hM hl hq
        have hq : qm_X13_summands_2 K (q_X13_summands K k) x1 x2 x3 x4 x5 x6 t0 t1 z = some (r, z1) := hq
        unfold qm_X13_summands_2 at hq
        refine lv_iload hx hb dmX13_summands_56 (lv_at hl 5 rfl) ?_
        refine lv_aload_n hx hb dmX13_summands_58 rfl (lv_at hl 0 rfl) ?_
        refine mg13_118 hx hb hT hown hK hM dmX13_summands_59 ?_
        refine mg13_44 hx hb hT hown hK hM hN mw_n2 hq dmX13_summands_62 (fun v10 hq => ?_)
        refine lv_icmp_ge (tgt := 120) hx hb dmX13_summands_65 (by decide) (fun hc => ?_) (fun hc => ?_)
        · have hq := tw_it hq hc
          refine lv_iload hx hb dmX13_summands_120 (lv_at hl 4 rfl) ?_
          refine lv_if_eq (tgt := 138) hx hb dmX13_summands_122 (by decide) (fun hc => ?_) (fun hc => ?_)
          · have hq := tw_it hq hc
            exact ih_4 x1 x2 x3 x4 x5 0 0 0 z H locs ls hM (lv_sub hl [0, 1, 2, 3, 4, 5] rfl) hq
          · have hq := tw_if hq hc
            refine lv_aload_n hx hb dmX13_summands_125 rfl (lv_at hl 0 rfl) ?_
            refine lv_aload_n hx hb dmX13_summands_126 rfl (lv_at hl 0 rfl) ?_
            refine mg13_118 hx hb hT hown hK hM dmX13_summands_127 ?_
            refine lv_iconst (v := 1) hx hb dmX13_summands_130 (by decide) ?_
            refine lv_iload_n hx hb dmX13_summands_131 rfl (lv_at hl 2 rfl) ?_
            obtain ⟨z11, hcq, hq⟩ := tw_cl0 hq
            refine tw_calv hM (va_runV (As := [.ref (u 2000), .int 1, .int x2]) (rest := []) ⟨hx, hb, hml, hown, hts⟩ (km_X13_waitsFor l D q u hU K 2000 1 x2 mw_n2 z z11 hcq) (cwV 3 hts (tw_gV wM_good wq_264 wq_265 wq_266 wq_61 wq_259) rfl rfl rfl cd_X13_waitsFor ⟨(Nat.le_of_ble_eq_true rfl), (Nat.le_of_ble_eq_true rfl)⟩) (mw_preV hK hN hM mo_0 rfl) rfl rfl hl.1 rfl (lv_room (Nat.le_of_ble_eq_true rfl)) dmX13_summands_132 ⟨(Nat.le_of_ble_eq_true rfl), (Nat.le_of_ble_eq_true rfl)⟩) (fun H locs hM => ?_)
            refine lv_iinc (v := (x2 + 1)) (lv' := [(2, .int (x2 + 1)), (0, .ref (u 0)), (1, .int x1), (3, .int x3), (4, .int x4), (5, .int x5)]) hx hb dmX13_summands_135 hl (k := 2) rfl rfl (by decide) rfl (fun ls hl => ?_)
            exact ih_4 x1 (x2 + 1) x3 x4 x5 0 0 0 z11 H locs ls hM (lv_sub hl [1, 2, 0, 3, 4, 5] rfl) hq
        · have hq := tw_if hq hc
          refine lv_aload_n hx hb dmX13_summands_68 rfl (lv_at hl 0 rfl) ?_
          refine mg13_173 hx hb hT hown hK hM dmX13_summands_69 ?_
          refine lv_iload hx hb dmX13_summands_72 (lv_at hl 5 rfl) ?_
          refine lv_aload_n hx hb dmX13_summands_74 rfl (lv_at hl 0 rfl) ?_
          refine mg13_118 hx hb hT hown hK hM dmX13_summands_75 ?_
          refine mg13_47 hx hb hT hown hK hM hN mw_n2 dmX13_summands_78 ?_
          refine lv_aload_n hx hb dmX13_summands_81 rfl (lv_at hl 0 rfl) ?_
          refine mg13_118 hx hb hT hown hK hM dmX13_summands_82 ?_
          refine mg13_18 hx hb hT hown hK hM hN mw_n2 dmX13_summands_85 ?_
          refine lv_iload hx hb dmX13_summands_88 (lv_at hl 5 rfl) ?_
          refine tw_iald mX_ok hx hb hK hM (mrn_8 mw_n2) hq dmX13_summands_90 (fun v12 hq => ?_)
          refine tw_iald mX_ok hx hb hK hM (mrn_12 mw_n2) hq dmX13_summands_91 (fun v13 hq => ?_)
          refine lv_iload_n hx hb dmX13_summands_92 rfl (lv_at hl 3 rfl) ?_
          refine lv_icmp_ne (tgt := 100) hx hb dmX13_summands_93 (by decide) (fun hc => ?_) (fun hc => ?_)
          · have hq := tw_if hq hc
            refine lv_iconst (v := 0) hx hb dmX13_summands_100 (by decide) ?_
            exact ih_3 x1 x2 x3 x4 x5 0 0 x5 z H locs ls hM (lv_sub hl [0, 1, 2, 3, 4, 5] rfl) hq
          · have hq := tw_it hq hc
            refine lv_iconst (v := 1) hx hb dmX13_summands_96 (by decide) ?_
            refine lv_goto (tgt := 101) hx hb dmX13_summands_97 (by decide) ?_
            exact ih_3 x1 x2 x3 x4 x5 0 1 x5 z H locs ls hM (lv_sub hl [0, 1, 2, 3, 4, 5] rfl) hq
      · intro x1 x2 x3 x4 x5 x6 t0 t1 z H locs ls  hM hl hq
        have hq : qm_X13_summands_3 K (q_X13_summands K k) x1 x2 x3 x4 x5 x6 t0 t1 z = some (r, z1) := hq
        unfold qm_X13_summands_3 at hq
        refine tw_zast mX_ok hU hx hb hK hM mr_38 hq dmX13_summands_101 (fun z14 H locs hM hq => ?_)
        refine lv_iload hx hb dmX13_summands_102 (lv_at hl 4 rfl) ?_
        refine lv_aload_n hx hb dmX13_summands_104 rfl (lv_at hl 0 rfl) ?_
        refine mg13_173 hx hb hT hown hK hM dmX13_summands_105 ?_
        refine lv_iload hx hb dmX13_summands_108 (lv_at hl 5 rfl) ?_
        refine tw_zald mX_ok hx hb hK hM mr_38 hq dmX13_summands_110 (fun v15 hq => ?_)
        refine lv_ior hx hb dmX13_summands_111 ?_
        refine lv_istore (lv' := [(4, .int (x4 ||| v15)), (0, .ref (u 0)), (1, .int x1), (2, .int x2), (3, .int x3), (5, .int x5)]) hx hb dmX13_summands_112 hl (by decide) rfl (fun ls hl => ?_)
        refine lv_iinc (v := (x5 + 1)) (lv' := [(5, .int (x5 + 1)), (4, .int (x4 ||| v15)), (0, .ref (u 0)), (1, .int x1), (2, .int x2), (3, .int x3)]) hx hb dmX13_summands_114 hl (k := 5) rfl rfl (by decide) rfl (fun ls hl => ?_)
        refine lv_goto (tgt := 56) hx hb dmX13_summands_117 (by decide) ?_
        exact ih_2 x1 x2 x3 (x4 ||| v15) (x5 + 1) 0 0 0 z14 H locs ls hM (lv_sub hl [2, 3, 4, 5, 1, 0] rfl) hq
      · intro x1 x2 x3 x4 x5 x6 t0 t1 z H locs ls  hM hl hq
        have hq : qm_X13_summands_4 K (q_X13_summands K k) x1 x2 x3 x4 x5 x6 t0 t1 z = some (r, z1) := hq
        unfold qm_X13_summands_4 at hq
        refine lv_iinc (v := (x3 + 1)) (lv' := [(3, .int (x3 + 1)), (0, .ref (u 0)), (1, .int x1), (2, .int x2), (4, .int x4), (5, .int x5)]) hx hb dmX13_summands_138 hl (k := 3) rfl rfl (by decide) rfl (fun ls hl => ?_)
        refine lv_goto (tgt := 39) hx hb dmX13_summands_141 (by decide) ?_
        exact ih_1 x1 x2 (x3 + 1) 0 0 0 0 0 z H locs ls hM (lv_sub hl [1, 2, 3, 0] rfl) hq
      · intro x1 x2 x3 x4 x5 x6 t0 t1 z H locs ls  hM hl hq
        have hq : qm_X13_summands_5 K (q_X13_summands K k) x1 x2 x3 x4 x5 x6 t0 t1 z = some (r, z1) := hq
        unfold qm_X13_summands_5 at hq
        refine lv_iload_n hx hb dmX13_summands_149 rfl (lv_at hl 2 rfl) ?_
        refine lv_if_le (tgt := 335) hx hb dmX13_summands_150 (by decide) (fun hc => ?_) (fun hc => ?_)
        · have hq := tw_it hq hc
          refine lv_aload_n hx hb dmX13_summands_335 rfl (lv_at hl 0 rfl) ?_
          refine mg13_553 hx hb hT hown hK hM hq dmX13_summands_336 (fun v16 hq => ?_)
          exact mw_iret hx hb hr hlocks hM hq hQQ dmX13_summands_339
        · have hq := tw_if hq hc
          refine lv_iinc (v := (x2 + (-1))) (lv' := [(2, .int (x2 + (-1))), (0, .ref (u 0)), (1, .int x1), (3, .int x3)]) hx hb dmX13_summands_153 hl (k := 2) rfl rfl (by decide) rfl (fun ls hl => ?_)
          refine lv_aload_n hx hb dmX13_summands_156 rfl (lv_at hl 1 rfl) ?_
          refine mg13_170 hx hb hT hown hK hM dmX13_summands_157 ?_
          refine lv_bipush (v := 32) hx hb dmX13_summands_160 (by decide) ?_
          refine lv_iload_n hx hb dmX13_summands_162 rfl (lv_at hl 0 rfl) ?_
          refine lv_imul hx hb dmX13_summands_163 ?_
          refine lv_aload_n hx hb dmX13_summands_164 rfl (lv_at hl 1 rfl) ?_
          refine mg13_114 hx hb hT hown hK hM dmX13_summands_165 ?_
          obtain ⟨z17, hcq, hq⟩ := tw_cl0 hq
          refine tw_calv hM (va_runS (As := [.ref (u 37), .int (32 * (x2 + (-1))), .ref (u 1000)]) (rest := []) ⟨hx, hb, hml, hown, hts⟩ (km_X13_unpack l D q u hU K 37 (32 * (x2 + (-1))) 1000 mr_37 mw_n1 z z17 hcq) (va_cwS 3 hts (tw_gS wM_good wq_134 wq_135 wq_61 wq_88) rfl rfl rfl cd_X13_unpack ⟨(Nat.le_of_ble_eq_true rfl), (Nat.le_of_ble_eq_true rfl)⟩) (mw_preS hK hN hM) rfl rfl hl.1 rfl (lv_room (Nat.le_of_ble_eq_true rfl)) dmX13_summands_168 ⟨(Nat.le_of_ble_eq_true rfl), (Nat.le_of_ble_eq_true rfl)⟩) (fun H locs hM => ?_)
          refine lv_aload_n hx hb dmX13_summands_171 rfl (lv_at hl 1 rfl) ?_
          refine mg13_114 hx hb hT hown hK hM dmX13_summands_172 ?_
          obtain ⟨z18, hcq, hq⟩ := tw_cl0 hq
          refine tw_calv hM (va_runV (As := []) (rest := []) ⟨hx, hb, hml, hown, hts⟩ (km_X12_link l D q u hU K 1000 mw_n1 z17 z18 hcq) (cwV 0 hts (tw_gV wM_good wq_77 wq_78 wq_79 wq_13 wq_30) rfl rfl rfl cd_X12_link ⟨(Nat.le_of_ble_eq_true rfl), (Nat.le_of_ble_eq_true rfl)⟩) (mw_preV hK hN hM (mo_n mw_n1) rfl) rfl rfl hl.1 rfl (lv_room (Nat.le_of_ble_eq_true rfl)) dmX13_summands_175 ⟨(Nat.le_of_ble_eq_true rfl), (Nat.le_of_ble_eq_true rfl)⟩) (fun H locs hM => ?_)
          refine lv_iconst (v := 0) hx hb dmX13_summands_178 (by decide) ?_
          refine lv_istore_n (lv' := [(3, .int 0), (2, .int (x2 + (-1))), (0, .ref (u 0)), (1, .int x1)]) hx hb dmX13_summands_179 rfl hl (by decide) rfl (fun ls hl => ?_)
          refine lv_iconst (v := 0) hx hb dmX13_summands_180 (by decide) ?_
          refine lv_istore (lv' := [(4, .int 0), (3, .int 0), (2, .int (x2 + (-1))), (0, .ref (u 0)), (1, .int x1)]) hx hb dmX13_summands_181 hl (by decide) rfl (fun ls hl => ?_)
          exact ih_6 x1 (x2 + (-1)) 0 0 0 0 0 0 z18 H locs ls hM (lv_sub hl [3, 4, 2, 1, 0] rfl) hq
      · intro x1 x2 x3 x4 x5 x6 t0 t1 z H locs ls  hM hl hq
        have hq : qm_X13_summands_6 K (q_X13_summands K k) x1 x2 x3 x4 x5 x6 t0 t1 z = some (r, z1) := hq
        unfold qm_X13_summands_6 at hq
        refine lv_iload hx hb dmX13_summands_183 (lv_at hl 4 rfl) ?_
        refine lv_aload_n hx hb dmX13_summands_185 rfl (lv_at hl 0 rfl) ?_
        refine mg13_114 hx hb hT hown hK hM dmX13_summands_186 ?_
        refine mg13_407 hx hb hT hown hK hM hN mw_n1 hq dmX13_summands_189 (fun v19 hq => ?_)
        refine lv_icmp_ge (tgt := 292) hx hb dmX13_summands_192 (by decide) (fun hc => ?_) (fun hc => ?_)
        · have hq := tw_it hq hc
          exact ih_11 x1 x2 x3 x4 0 0 0 0 z H locs ls hM (lv_sub hl [0, 1, 2, 3, 4] rfl) hq
        · have hq := tw_if hq hc
          refine lv_iload_n hx hb dmX13_summands_195 rfl (lv_at hl 3 rfl) ?_
          refine lv_if_ne (tgt := 292) hx hb dmX13_summands_196 (by decide) (fun hc => ?_) (fun hc => ?_)
          · have hq := tw_if hq hc
            exact ih_11 x1 x2 x3 x4 0 0 0 0 z H locs ls hM (lv_sub hl [0, 1, 2, 3, 4] rfl) hq
          · have hq := tw_it hq hc
            refine lv_aload_n hx hb dmX13_summands_199 rfl (lv_at hl 0 rfl) ?_
            refine mg13_114 hx hb hT hown hK hM dmX13_summands_200 ?_
            refine mg13_452 hx hb hT hown hK hM hN mw_n1 dmX13_summands_203 ?_
            refine lv_iload hx hb dmX13_summands_206 (lv_at hl 4 rfl) ?_
            refine tw_iald mX_ok hx hb hK hM (mrn_3 mw_n1) hq dmX13_summands_208 (fun v20 hq => ?_)
            refine lv_istore (lv' := [(5, .int v20), (0, .ref (u 0)), (1, .int x1), (2, .int x2), (3, .int x3), (4, .int x4)]) hx hb dmX13_summands_209 hl (by decide) rfl (fun ls hl => ?_)
            exact ih_7 x1 x2 x3 x4 v20 0 0 0 z H locs ls hM (lv_sub hl [1, 2, 3, 4, 5, 0] rfl) hq
      · intro x1 x2 x3 x4 x5 x6 t0 t1 z H locs ls  hM hl hq
        have hq : qm_X13_summands_7 K (q_X13_summands K k) x1 x2 x3 x4 x5 x6 t0 t1 z = some (r, z1) := hq
        unfold qm_X13_summands_7 at hq
        refine lv_iload hx hb dmX13_summands_211 (lv_at hl 5 rfl) ?_
        refine lv_aload_n hx hb dmX13_summands_213 rfl (lv_at hl 0 rfl) ?_
        refine mg13_114 hx hb hT hown hK hM dmX13_summands_214 ?_
        refine mg13_452 hx hb hT hown hK hM hN mw_n1 dmX13_summands_217 ?_
        refine lv_iload hx hb dmX13_summands_220 (lv_at hl 4 rfl) ?_
        refine lv_iconst (v := 1) hx hb dmX13_summands_222 (by decide) ?_
        refine lv_iadd hx hb dmX13_summands_223 ?_
        refine tw_iald mX_ok hx hb hK hM (mrn_3 mw_n1) hq dmX13_summands_224 (fun v21 hq => ?_)
        refine lv_icmp_ge (tgt := 286) hx hb dmX13_summands_225 (by decide) (fun hc => ?_) (fun hc => ?_)
        · have hq := tw_it hq hc
          exact ih_10 x1 x2 x3 x4 x5 0 0 0 z H locs ls hM (lv_sub hl [0, 1, 2, 3, 4, 5] rfl) hq
        · have hq := tw_if hq hc
          refine lv_iload_n hx hb dmX13_summands_228 rfl (lv_at hl 3 rfl) ?_
          refine lv_if_ne (tgt := 286) hx hb dmX13_summands_229 (by decide) (fun hc => ?_) (fun hc => ?_)
          · have hq := tw_if hq hc
            exact ih_10 x1 x2 x3 x4 x5 0 0 0 z H locs ls hM (lv_sub hl [0, 1, 2, 3, 4, 5] rfl) hq
          · have hq := tw_it hq hc
            refine lv_iload hx hb dmX13_summands_232 (lv_at hl 5 rfl) ?_
            refine lv_iconst (v := 1) hx hb dmX13_summands_234 (by decide) ?_
            refine lv_iadd hx hb dmX13_summands_235 ?_
            refine lv_istore (lv' := [(6, .int (x5 + 1)), (0, .ref (u 0)), (1, .int x1), (2, .int x2), (3, .int x3), (4, .int x4), (5, .int x5)]) hx hb dmX13_summands_236 hl (by decide) rfl (fun ls hl => ?_)
            exact ih_8 x1 x2 x3 x4 x5 (x5 + 1) 0 0 z H locs ls hM (lv_sub hl [1, 2, 3, 4, 5, 6, 0] rfl) hq
      · intro x1 x2 x3 x4 x5 x6 t0 t1 z H locs ls  hM hl hq
        have hq : qm_X13_summands_8 K (q_X13_summands K k) x1 x2 x3 x4 x5 x6 t0 t1 z = some (r, z1) := hq
        unfold qm_X13_summands_8 at hq
        refine lv_iload hx hb dmX13_summands_238 (lv_at hl 6 rfl) ?_
        refine lv_aload_n hx hb dmX13_summands_240 rfl (lv_at hl 0 rfl) ?_
        refine mg13_114 hx hb hT hown hK hM dmX13_summands_241 ?_
        refine mg13_452 hx hb hT hown hK hM hN mw_n1 dmX13_summands_244 ?_
        refine lv_iload hx hb dmX13_summands_247 (lv_at hl 4 rfl) ?_
        refine lv_iconst (v := 1) hx hb dmX13_summands_249 (by decide) ?_
        refine lv_iadd hx hb dmX13_summands_250 ?_
        refine tw_iald mX_ok hx hb hK hM (mrn_3 mw_n1) hq dmX13_summands_251 (fun v22 hq => ?_)
        refine lv_icmp_ge (tgt := 280) hx hb dmX13_summands_252 (by decide) (fun hc => ?_) (fun hc => ?_)
        · have hq := tw_it hq hc
          exact ih_9 x1 x2 x3 x4 x5 x6 0 0 z H locs ls hM (lv_sub hl [0, 1, 2, 3, 4, 5, 6] rfl) hq
        · have hq := tw_if hq hc
          refine lv_iload_n hx hb dmX13_summands_255 rfl (lv_at hl 3 rfl) ?_
          refine lv_if_ne (tgt := 280) hx hb dmX13_summands_256 (by decide) (fun hc => ?_) (fun hc => ?_)
          · have hq := tw_if hq hc
            exact ih_9 x1 x2 x3 x4 x5 x6 0 0 z H locs ls hM (lv_sub hl [0, 1, 2, 3, 4, 5, 6] rfl) hq
          · have hq := tw_it hq hc
            refine lv_aload_n hx hb dmX13_summands_259 rfl (lv_at hl 0 rfl) ?_
            refine lv_aload_n hx hb dmX13_summands_260 rfl (lv_at hl 0 rfl) ?_
            refine mg13_114 hx hb hT hown hK hM dmX13_summands_261 ?_
            refine lv_iload hx hb dmX13_summands_264 (lv_at hl 4 rfl) ?_
            refine lv_iload hx hb dmX13_summands_266 (lv_at hl 5 rfl) ?_
            refine lv_iload hx hb dmX13_summands_268 (lv_at hl 6 rfl) ?_
            obtain ⟨v24, z23, hcq, hq⟩ := tw_cl1 hq
            refine tw_cali hM (va_runV (As := [.ref (u 1000), .int x4, .int x5, .int x6]) (rest := []) ⟨hx, hb, hml, hown, hts⟩ (km_X13_isParted l D q u hU K 1000 x4 x5 x6 mw_n1 z z23 v24 hcq) (cwV 4 hts (tw_gV wM_good wq_267 wq_268 wq_269 wq_61 wq_257) rfl rfl rfl cd_X13_isParted ⟨(Nat.le_of_ble_eq_true rfl), (Nat.le_of_ble_eq_true rfl)⟩) (mw_preV hK hN hM mo_0 rfl) rfl rfl hl.1 rfl (lv_room (Nat.le_of_ble_eq_true rfl)) dmX13_summands_270 ⟨(Nat.le_of_ble_eq_true rfl), (Nat.le_of_ble_eq_true rfl)⟩) (fun H locs hM => ?_)
            refine lv_istore_n (lv' := [(3, .int v24), (0, .ref (u 0)), (1, .int x1), (2, .int x2), (4, .int x4), (5, .int x5), (6, .int x6)]) hx hb dmX13_summands_273 rfl hl (by decide) rfl (fun ls hl => ?_)
            refine lv_iinc (v := (x6 + 1)) (lv' := [(6, .int (x6 + 1)), (3, .int v24), (0, .ref (u 0)), (1, .int x1), (2, .int x2), (4, .int x4), (5, .int x5)]) hx hb dmX13_summands_274 hl (k := 6) rfl rfl (by decide) rfl (fun ls hl => ?_)
            refine lv_goto (tgt := 238) hx hb dmX13_summands_277 (by decide) ?_
            exact ih_8 x1 x2 v24 x4 x5 (x6 + 1) 0 0 z23 H locs ls hM (lv_sub hl [2, 3, 4, 1, 5, 6, 0] rfl) hq
      · intro x1 x2 x3 x4 x5 x6 t0 t1 z H locs ls  hM hl hq
        have hq : qm_X13_summands_9 K (q_X13_summands K k) x1 x2 x3 x4 x5 x6 t0 t1 z = some (r, z1) := hq
        unfold qm_X13_summands_9 at hq
        refine lv_iinc (v := (x5 + 1)) (lv' := [(5, .int (x5 + 1)), (0, .ref (u 0)), (1, .int x1), (2, .int x2), (3, .int x3), (4, .int x4), (6, .int x6)]) hx hb dmX13_summands_280 hl (k := 5) rfl rfl (by decide) rfl (fun ls hl => ?_)
        refine lv_goto (tgt := 211) hx hb dmX13_summands_283 (by decide) ?_
        exact ih_7 x1 x2 x3 x4 (x5 + 1) 0 0 0 z H locs ls hM (lv_sub hl [1, 2, 3, 4, 5, 0] rfl) hq
      · intro x1 x2 x3 x4 x5 x6 t0 t1 z H locs ls  hM hl hq
        have hq : qm_X13_summands_10 K (q_X13_summands K k) x1 x2 x3 x4 x5 x6 t0 t1 z = some (r, z1) := hq
        unfold qm_X13_summands_10 at hq
        refine lv_iinc (v := (x4 + 1)) (lv' := [(4, .int (x4 + 1)), (0, .ref (u 0)), (1, .int x1), (2, .int x2), (3, .int x3), (5, .int x5)]) hx hb dmX13_summands_286 hl (k := 4) rfl rfl (by decide) rfl (fun ls hl => ?_)
        refine lv_goto (tgt := 183) hx hb dmX13_summands_289 (by decide) ?_
        exact ih_6 x1 x2 x3 (x4 + 1) 0 0 0 0 z H locs ls hM (lv_sub hl [1, 2, 3, 4, 0] rfl) hq
      · intro x1 x2 x3 x4 x5 x6 t0 t1 z H locs ls  hM hl hq
        have hq : qm_X13_summands_11 K (q_X13_summands K k) x1 x2 x3 x4 x5 x6 t0 t1 z = some (r, z1) := hq
        unfold qm_X13_summands_11 at hq
        refine lv_iload_n hx hb dmX13_summands_292 rfl (lv_at hl 3 rfl) ?_
        refine lv_if_eq (tgt := 324) hx hb dmX13_summands_293 (by decide) (fun hc => ?_) (fun hc => ?_)
        · have hq := tw_it hq hc
          refine lv_aload_n hx hb dmX13_summands_324 rfl (lv_at hl 0 rfl) ?_
          refine lv_bipush (v := 32) hx hb dmX13_summands_325 (by decide) ?_
          refine lv_iload_n hx hb dmX13_summands_327 rfl (lv_at hl 2 rfl) ?_
          refine lv_imul hx hb dmX13_summands_328 ?_
          obtain ⟨z25, hcq, hq⟩ := tw_cl0 hq
          refine tw_calv hM (va_runV (As := [.int (32 * x2)]) (rest := []) ⟨hx, hb, hml, hown, hts⟩ (km_X13_addSummand l D q u hU K (32 * x2) z z25 hcq) (cwV 1 hts (tw_gV wM_good wq_270 wq_271 wq_272 wq_61 wq_263) rfl rfl rfl cd_X13_addSummand ⟨(Nat.le_of_ble_eq_true rfl), (Nat.le_of_ble_eq_true rfl)⟩) (mw_preV hK hN hM mo_0 rfl) rfl rfl hl.1 rfl (lv_room (Nat.le_of_ble_eq_true rfl)) dmX13_summands_329 ⟨(Nat.le_of_ble_eq_true rfl), (Nat.le_of_ble_eq_true rfl)⟩) (fun H locs hM => ?_)
          exact ih_12 x1 x2 x3 x4 0 0 0 0 z25 H locs ls hM (lv_sub hl [0, 1, 2, 3, 4] rfl) hq
        · have hq := tw_if hq hc
          refine lv_aload_n hx hb dmX13_summands_296 rfl (lv_at hl 0 rfl) ?_
          refine lv_aload_n hx hb dmX13_summands_297 rfl (lv_at hl 0 rfl) ?_
          refine mg13_114 hx hb hT hown hK hM dmX13_summands_298 ?_
          refine lv_iconst (v := 1) hx hb dmX13_summands_301 (by decide) ?_
          refine lv_iload_n hx hb dmX13_summands_302 rfl (lv_at hl 2 rfl) ?_
          obtain ⟨z26, hcq, hq⟩ := tw_cl0 hq
          refine tw_calv hM (va_runV (As := [.ref (u 1000), .int 1, .int x2]) (rest := []) ⟨hx, hb, hml, hown, hts⟩ (km_X13_waitsFor l D q u hU K 1000 1 x2 mw_n1 z z26 hcq) (cwV 3 hts (tw_gV wM_good wq_264 wq_265 wq_266 wq_61 wq_259) rfl rfl rfl cd_X13_waitsFor ⟨(Nat.le_of_ble_eq_true rfl), (Nat.le_of_ble_eq_true rfl)⟩) (mw_preV hK hN hM mo_0 rfl) rfl rfl hl.1 rfl (lv_room (Nat.le_of_ble_eq_true rfl)) dmX13_summands_303 ⟨(Nat.le_of_ble_eq_true rfl), (Nat.le_of_ble_eq_true rfl)⟩) (fun H locs hM => ?_)
          refine lv_aload_n hx hb dmX13_summands_306 rfl (lv_at hl 0 rfl) ?_
          refine lv_aload_n hx hb dmX13_summands_307 rfl (lv_at hl 0 rfl) ?_
          refine mg13_114 hx hb hT hown hK hM dmX13_summands_308 ?_
          refine lv_iconst (v := 0) hx hb dmX13_summands_311 (by decide) ?_
          refine lv_iload_n hx hb dmX13_summands_312 rfl (lv_at hl 2 rfl) ?_
          refine lv_iconst (v := 1) hx hb dmX13_summands_313 (by decide) ?_
          refine lv_iadd hx hb dmX13_summands_314 ?_
          obtain ⟨z27, hcq, hq⟩ := tw_cl0 hq
          refine tw_calv hM (va_runV (As := [.ref (u 1000), .int 0, .int (x2 + 1)]) (rest := []) ⟨hx, hb, hml, hown, hts⟩ (km_X13_waitsFor l D q u hU K 1000 0 (x2 + 1) mw_n1 z26 z27 hcq) (cwV 3 hts (tw_gV wM_good wq_264 wq_265 wq_266 wq_61 wq_259) rfl rfl rfl cd_X13_waitsFor ⟨(Nat.le_of_ble_eq_true rfl), (Nat.le_of_ble_eq_true rfl)⟩) (mw_preV hK hN hM mo_0 rfl) rfl rfl hl.1 rfl (lv_room (Nat.le_of_ble_eq_true rfl)) dmX13_summands_315 ⟨(Nat.le_of_ble_eq_true rfl), (Nat.le_of_ble_eq_true rfl)⟩) (fun H locs hM => ?_)
          refine lv_iinc (v := (x2 + 2)) (lv' := [(2, .int (x2 + 2)), (0, .ref (u 0)), (1, .int x1), (3, .int x3), (4, .int x4)]) hx hb dmX13_summands_318 hl (k := 2) rfl rfl (by decide) rfl (fun ls hl => ?_)
          refine lv_goto (tgt := 332) hx hb dmX13_summands_321 (by decide) ?_
          exact ih_12 x1 (x2 + 2) x3 x4 0 0 0 0 z27 H locs ls hM (lv_sub hl [1, 2, 0, 3, 4] rfl) hq
      · intro x1 x2 x3 x4 x5 x6 t0 t1 z H locs ls  hM hl hq
        have hq : qm_X13_summands_12 K (q_X13_summands K k) x1 x2 x3 x4 x5 x6 t0 t1 z = some (r, z1) := hq
        unfold qm_X13_summands_12 at hq
        refine lv_goto (tgt := 149) hx hb dmX13_summands_332 (by decide) ?_
        exact ih_5 x1 x2 x3 0 0 0 0 0 z H locs ls hM (lv_sub hl [0, 1, 2, 3] rfl) hq
  exact (key K).1 x1 0 0 0 0 0 0 0 z s.heap [] ls  hM (lv_sub hl [0, 1] rfl) hq
theorem dmX13_summand_0 : decode cX13_summand 0 = .ok (.aload_n 0, 1) := dw_at cX13_summand_k0 (p := 0) rfl (by decide +kernel)
theorem dmX13_summand_1 : decode cX13_summand 1 = .ok (.iconst 0, 1) := dw_at cX13_summand_k0 (p := 1) rfl (by decide +kernel)
theorem dmX13_summand_2 : decode cX13_summand 2 = .ok (.putfield 1, 3) := dw_at cX13_summand_k0 (p := 2) rfl (by decide +kernel)
theorem dmX13_summand_5 : decode cX13_summand 5 = .ok (.iload_n 1, 1) := dw_at cX13_summand_k0 (p := 5) rfl (by decide +kernel)
theorem dmX13_summand_6 : decode cX13_summand 6 = .ok (.ifCond .lt 11, 3) := dw_at cX13_summand_k0 (p := 6) rfl (by decide +kernel)
theorem dmX13_summand_9 : decode cX13_summand 9 = .ok (.iload_n 1, 1) := dw_at cX13_summand_k0 (p := 9) rfl (by decide +kernel)
theorem dmX13_summand_10 : decode cX13_summand 10 = .ok (.aload_n 0, 1) := dw_at cX13_summand_k0 (p := 10) rfl (by decide +kernel)
theorem dmX13_summand_11 : decode cX13_summand 11 = .ok (.getfield 553, 3) := dw_at cX13_summand_k0 (p := 11) rfl (by decide +kernel)
theorem dmX13_summand_14 : decode cX13_summand 14 = .ok (.if_icmp .lt 9, 3) := dw_at cX13_summand_k0 (p := 14) rfl (by decide +kernel)
theorem dmX13_summand_17 : decode cX13_summand 17 = .ok (.aload_n 0, 1) := dw_at cX13_summand_k0 (p := 17) rfl (by decide +kernel)
theorem dmX13_summand_18 : decode cX13_summand 18 = .ok (.iconst 1, 1) := dw_at cX13_summand_k0 (p := 18) rfl (by decide +kernel)
theorem dmX13_summand_19 : decode cX13_summand 19 = .ok (.invokevirtual 403, 3) := dw_at cX13_summand_k0 (p := 19) rfl (by decide +kernel)
theorem dmX13_summand_22 : decode cX13_summand 22 = .ok (.ireturn, 1) := dw_at cX13_summand_k0 (p := 22) rfl (by decide +kernel)
theorem dmX13_summand_23 : decode cX13_summand 23 = .ok (.aload_n 0, 1) := dw_at cX13_summand_k0 (p := 23) rfl (by decide +kernel)
theorem dmX13_summand_24 : decode cX13_summand 24 = .ok (.invokevirtual 392, 3) := dw_at cX13_summand_k1 (p := 0) rfl (by decide +kernel)
theorem dmX13_summand_27 : decode cX13_summand 27 = .ok (.iconst (-1), 1) := dw_at cX13_summand_k1 (p := 3) rfl (by decide +kernel)
theorem dmX13_summand_28 : decode cX13_summand 28 = .ok (.if_icmp .ne 9, 3) := dw_at cX13_summand_k1 (p := 4) rfl (by decide +kernel)
theorem dmX13_summand_31 : decode cX13_summand 31 = .ok (.aload_n 0, 1) := dw_at cX13_summand_k1 (p := 7) rfl (by decide +kernel)
theorem dmX13_summand_32 : decode cX13_summand 32 = .ok (.iconst 2, 1) := dw_at cX13_summand_k1 (p := 8) rfl (by decide +kernel)
theorem dmX13_summand_33 : decode cX13_summand 33 = .ok (.invokevirtual 403, 3) := dw_at cX13_summand_k1 (p := 9) rfl (by decide +kernel)
theorem dmX13_summand_36 : decode cX13_summand 36 = .ok (.ireturn, 1) := dw_at cX13_summand_k1 (p := 12) rfl (by decide +kernel)
theorem dmX13_summand_37 : decode cX13_summand 37 = .ok (.aload_n 0, 1) := dw_at cX13_summand_k1 (p := 13) rfl (by decide +kernel)
theorem dmX13_summand_38 : decode cX13_summand 38 = .ok (.aload_n 0, 1) := dw_at cX13_summand_k1 (p := 14) rfl (by decide +kernel)
theorem dmX13_summand_39 : decode cX13_summand 39 = .ok (.getfield 167, 3) := dw_at cX13_summand_k1 (p := 15) rfl (by decide +kernel)
theorem dmX13_summand_42 : decode cX13_summand 42 = .ok (.bipush 32, 2) := dw_at cX13_summand_k1 (p := 18) rfl (by decide +kernel)
theorem dmX13_summand_44 : decode cX13_summand 44 = .ok (.aload_n 0, 1) := dw_at cX13_summand_k1 (p := 20) rfl (by decide +kernel)
theorem dmX13_summand_45 : decode cX13_summand 45 = .ok (.getfield 176, 3) := dw_at cX13_summand_k1 (p := 21) rfl (by decide +kernel)
theorem dmX13_summand_48 : decode cX13_summand 48 = .ok (.iload_n 1, 1) := dw_at cX13_summand_k1 (p := 24) rfl (by decide +kernel)
theorem dmX13_summand_49 : decode cX13_summand 49 = .ok (.iaload, 1) := dw_at cX13_summand_k1 (p := 25) rfl (by decide +kernel)
theorem dmX13_summand_50 : decode cX13_summand 50 = .ok (.imul, 1) := dw_at cX13_summand_k1 (p := 26) rfl (by decide +kernel)
theorem dmX13_summand_51 : decode cX13_summand 51 = .ok (.invokevirtual 546, 3) := dw_at cX13_summand_k1 (p := 27) rfl (by decide +kernel)
theorem dmX13_summand_54 : decode cX13_summand 54 = .ok (.ireturn, 1) := dw_at cX13_summand_k1 (p := 30) rfl (by decide +kernel)
def qm_X13_summand_0 (K : Nat) (go : Nat → Int32 → ow_MS → Option (Int32 × ow_MS)) (x1 : Int32) (z : ow_MS) : Option (Int32 × ow_MS) :=
 wrF z 1 0 fun z1 => (if x1 < 0 then go 1 x1 z1
 else rdF z1 36 fun v2 => (if x1 < v2 then cs1 (qe_X13_free K z1) fun v4 z3 => (if v4 = (-1) then cs1 (qe_X13_fails K 2 z3) fun v9 z8 => some (v9, z8)
 else rdI mX z3 39 x1 fun v5 => cs1 (qe_X13_keepRow K 35 (32 * v5) z3) fun v7 z6 => some (v7, z6))
 else go 1 x1 z1))
def qm_X13_summand_1 (K : Nat) (go : Nat → Int32 → ow_MS → Option (Int32 × ow_MS)) (x1 : Int32) (z : ow_MS) : Option (Int32 × ow_MS) :=
 cs1 (qe_X13_fails K 1 z) fun v11 z10 => some (v11, z10)
def qb_X13_summand (K : Nat) (go : Nat → Int32 → ow_MS → Option (Int32 × ow_MS)) (L : Nat) (x1 : Int32) (z : ow_MS) : Option (Int32 × ow_MS) := match L with
  | 0 => qm_X13_summand_0 K go x1 z
  | 1 => qm_X13_summand_1 K go x1 z
  | _ => none
def q_X13_summand (K : Nat) : Nat → Nat → Int32 → ow_MS → Option (Int32 × ow_MS)
  | 0 => fun _ _ _ => none
  | k + 1 => qb_X13_summand K (q_X13_summand K k)
def qe_X13_summand (K : Nat) (x1 : Int32) (z : ow_MS) : Option (Int32 × ow_MS) := q_X13_summand K K 0 x1 z
abbrev wm_X13_summand : List Cond := .code yX13_summand cX13_summand 2 (some .int) :: wM
theorem cd_X13_summand : yX13_summand.cls = RX13 ∧ yX13_summand.cls ≠ "java/lang/invoke/MethodHandle" ∧ yX13_summand.cls ≠ "java/lang/invoke/VarHandle" ∧ (parseMethodDescriptor yX13_summand.desc).map (fun d => d.parameters.length) = some 1 := by decide +kernel
set_option maxHeartbeats 4000000 in
set_option maxRecDepth 100000 in
theorem km_X13_summand (l : Launch) (D : va_G) (q : ow_Q5) (u : Nat → Nat) (hU : tw_inj mX u) (K : Nat) (x1 : Int32)  (z z1 : ow_MS) (r : Int32) (hq : qe_X13_summand K x1 z = some (r, z1)) : Met l yX13_summand wm_X13_summand ({ frames := 2, cells := 0, slots := 0, locals := 45 } : Room) (va_Pc [.ref (u 0), .int x1] (mw_pre D q u z)) (va_Qi (fun x (_ : Unit) => x = r) (fun _ t => va_P D vwCl (tw mX q u z1) t.heap) (tw_A mX u)) 0 0 (tw_A mX u) := by
  refine Met.ofW (cc := cX13_summand) (maxL := 2) (ret := (some .int)) (by decide) rfl ?_
  intro p e s m args below meth c s₁ B hml hv
  obtain ⟨rfl, hP, hK, hN⟩ := hv
  have hx := B.exec
  have hb := B.bytes
  have hr := B.returns
  have hts := atoms_spec (ws := wm_X13_summand) B.pre
  have hT : ∀ w ∈ wM, w.before ([.ref (u 0), .int x1] : List Value).toArray s = true := fun w h => hts w (List.mem_cons_of_mem _ h)
  have hown : s.vm.findClass RX13 = some m.cls := findClass_of_methodNamed B.named
  have hlocks := B.notSynchronized
  have hM : tw_M D vwCl mX q s.heap u z s.heap [] := ⟨hP, va_S.rf⟩
  have hl := lv_entry ([.ref (u 0), .int x1]) (n := 2) (Nat.le_of_ble_eq_true rfl)
  rw [lg_entry_eq]
  generalize (lg_sl ([.ref (u 0), .int x1]) ++ List.replicate (2 - (lg_sl ([.ref (u 0), .int x1])).length) Slot.unset).toArray = ls at hl ⊢
  have hl : lv_has ls 2 [(0, .ref (u 0)), (1, .int x1)] := hl
  refine ow_named (fun QQ hQQ => ?_)
  generalize ([.ref (u 0), .int x1] : List Value).toArray = args at hts hT hQQ ⊢
  have key : ∀ k : Nat, (∀ (x1 : Int32) (z : ow_MS) (H : Heap) (locs : List Loc) (ls : Array Slot), tw_M D vwCl mX q s.heap u z H locs → lv_has ls 2 [(0, .ref (u 0)), (1, .int x1)] → q_X13_summand K k 0 x1 z = some (r, z1) → W p l e ({ frames := 2, cells := 0, slots := 0, locals := 45 } : Room) s m args below meth c H locs 0 0 QQ (F0 m 0 ls [])) ∧ (∀ (x1 : Int32) (z : ow_MS) (H : Heap) (locs : List Loc) (ls : Array Slot), tw_M D vwCl mX q s.heap u z H locs → lv_has ls 2 [(0, .ref (u 0)), (1, .int x1)] → q_X13_summand K k 1 x1 z = some (r, z1) → W p l e ({ frames := 2, cells := 0, slots := 0, locals := 45 } : Room) s m args below meth c H locs 0 0 QQ (F0 m 17 ls [])) := by
    intro k
    induction k with
    | zero => exact ⟨fun _ _ _ _ _  _ _ hq => tw_no hq, fun _ _ _ _ _  _ _ hq => tw_no hq⟩
    | succ k ih =>
      obtain ⟨ih_0, ih_1⟩ := ih
      refine ⟨?_, ?_⟩
      · intro x1 z H locs ls  hM hl hq
        have hq : qm_X13_summand_0 K (q_X13_summand K k) x1 z = some (r, z1) := hq
        unfold qm_X13_summand_0 at hq
        refine lv_aload_n hx hb dmX13_summand_0 rfl (lv_at hl 0 rfl) ?_
        refine lv_iconst (v := 0) hx hb dmX13_summand_1 (by decide) ?_
        refine mp13_1 hx hb hT hown hK hM hU hq dmX13_summand_2 (fun z1 H locs hM hq => ?_)
        refine lv_iload_n hx hb dmX13_summand_5 rfl (lv_at hl 1 rfl) ?_
        refine lv_if_lt (tgt := 17) hx hb dmX13_summand_6 (by decide) (fun hc => ?_) (fun hc => ?_)
        · have hq := tw_it hq hc
          exact ih_1 x1 z1 H locs ls hM (lv_sub hl [0, 1] rfl) hq
        · have hq := tw_if hq hc
          refine lv_iload_n hx hb dmX13_summand_9 rfl (lv_at hl 1 rfl) ?_
          refine lv_aload_n hx hb dmX13_summand_10 rfl (lv_at hl 0 rfl) ?_
          refine mg13_553 hx hb hT hown hK hM hq dmX13_summand_11 (fun v2 hq => ?_)
          refine lv_icmp_lt (tgt := 23) hx hb dmX13_summand_14 (by decide) (fun hc => ?_) (fun hc => ?_)
          · have hq := tw_it hq hc
            refine lv_aload_n hx hb dmX13_summand_23 rfl (lv_at hl 0 rfl) ?_
            obtain ⟨v4, z3, hcq, hq⟩ := tw_cl1 hq
            refine tw_cali hM (va_runV (As := []) (rest := []) ⟨hx, hb, hml, hown, hts⟩ (km_X13_free l D q u hU K z1 z3 v4 hcq) (cwV 0 hts (tw_gV wM_good wq_93 wq_94 wq_95 wq_61 wq_91) rfl rfl rfl cd_X13_free ⟨(Nat.le_of_ble_eq_true rfl), (Nat.le_of_ble_eq_true rfl)⟩) (mw_preV hK hN hM mo_0 rfl) rfl rfl hl.1 rfl (lv_room (Nat.le_of_ble_eq_true rfl)) dmX13_summand_24 ⟨(Nat.le_of_ble_eq_true rfl), (Nat.le_of_ble_eq_true rfl)⟩) (fun H locs hM => ?_)
            refine lv_iconst (v := (-1)) hx hb dmX13_summand_27 (by decide) ?_
            refine lv_icmp_ne (tgt := 37) hx hb dmX13_summand_28 (by decide) (fun hc => ?_) (fun hc => ?_)
            · have hq := tw_if hq hc
              refine lv_aload_n hx hb dmX13_summand_37 rfl (lv_at hl 0 rfl) ?_
              refine lv_aload_n hx hb dmX13_summand_38 rfl (lv_at hl 0 rfl) ?_
              refine mg13_167 hx hb hT hown hK hM dmX13_summand_39 ?_
              refine lv_bipush (v := 32) hx hb dmX13_summand_42 (by decide) ?_
              refine lv_aload_n hx hb dmX13_summand_44 rfl (lv_at hl 0 rfl) ?_
              refine mg13_176 hx hb hT hown hK hM dmX13_summand_45 ?_
              refine lv_iload_n hx hb dmX13_summand_48 rfl (lv_at hl 1 rfl) ?_
              refine tw_iald mX_ok hx hb hK hM mr_39 hq dmX13_summand_49 (fun v5 hq => ?_)
              refine lv_imul hx hb dmX13_summand_50 ?_
              obtain ⟨v7, z6, hcq, hq⟩ := tw_cl1 hq
              refine tw_cali hM (va_runV (As := [.ref (u 35), .int (32 * v5)]) (rest := []) ⟨hx, hb, hml, hown, hts⟩ (km_X13_keepRow l D q u hU K 35 (32 * v5) mr_35 z3 z6 v7 hcq) (cwV 2 hts (tw_gV wM_good wq_247 wq_248 wq_249 wq_61 wq_100) rfl rfl rfl cd_X13_keepRow ⟨(Nat.le_of_ble_eq_true rfl), (Nat.le_of_ble_eq_true rfl)⟩) (mw_preV hK hN hM mo_0 rfl) rfl rfl hl.1 rfl (lv_room (Nat.le_of_ble_eq_true rfl)) dmX13_summand_51 ⟨(Nat.le_of_ble_eq_true rfl), (Nat.le_of_ble_eq_true rfl)⟩) (fun H locs hM => ?_)
              exact mw_iret hx hb hr hlocks hM hq hQQ dmX13_summand_54
            · have hq := tw_it hq hc
              refine lv_aload_n hx hb dmX13_summand_31 rfl (lv_at hl 0 rfl) ?_
              refine lv_iconst (v := 2) hx hb dmX13_summand_32 (by decide) ?_
              obtain ⟨v9, z8, hcq, hq⟩ := tw_cl1 hq
              refine tw_cali hM (va_runV (As := [.int 2]) (rest := []) ⟨hx, hb, hml, hown, hts⟩ (km_X13_fails l D q u hU K 2 z3 z8 v9 hcq) (cwV 1 hts (tw_gV wM_good wq_103 wq_104 wq_105 wq_61 wq_50) rfl rfl rfl cd_X13_fails ⟨(Nat.le_of_ble_eq_true rfl), (Nat.le_of_ble_eq_true rfl)⟩) (mw_preV hK hN hM mo_0 rfl) rfl rfl hl.1 rfl (lv_room (Nat.le_of_ble_eq_true rfl)) dmX13_summand_33 ⟨(Nat.le_of_ble_eq_true rfl), (Nat.le_of_ble_eq_true rfl)⟩) (fun H locs hM => ?_)
              exact mw_iret hx hb hr hlocks hM hq hQQ dmX13_summand_36
          · have hq := tw_if hq hc
            exact ih_1 x1 z1 H locs ls hM (lv_sub hl [0, 1] rfl) hq
      · intro x1 z H locs ls  hM hl hq
        have hq : qm_X13_summand_1 K (q_X13_summand K k) x1 z = some (r, z1) := hq
        unfold qm_X13_summand_1 at hq
        refine lv_aload_n hx hb dmX13_summand_17 rfl (lv_at hl 0 rfl) ?_
        refine lv_iconst (v := 1) hx hb dmX13_summand_18 (by decide) ?_
        obtain ⟨v11, z10, hcq, hq⟩ := tw_cl1 hq
        refine tw_cali hM (va_runV (As := [.int 1]) (rest := []) ⟨hx, hb, hml, hown, hts⟩ (km_X13_fails l D q u hU K 1 z z10 v11 hcq) (cwV 1 hts (tw_gV wM_good wq_103 wq_104 wq_105 wq_61 wq_50) rfl rfl rfl cd_X13_fails ⟨(Nat.le_of_ble_eq_true rfl), (Nat.le_of_ble_eq_true rfl)⟩) (mw_preV hK hN hM mo_0 rfl) rfl rfl hl.1 rfl (lv_room (Nat.le_of_ble_eq_true rfl)) dmX13_summand_19 ⟨(Nat.le_of_ble_eq_true rfl), (Nat.le_of_ble_eq_true rfl)⟩) (fun H locs hM => ?_)
        exact mw_iret hx hb hr hlocks hM hq hQQ dmX13_summand_22
  exact (key K).1 x1 z s.heap [] ls  hM (lv_sub hl [0, 1] rfl) hq
theorem dmX13_leaf_0 : decode cX13_leaf 0 = .ok (.aload_n 0, 1) := dw_at cX13_leaf_k0 (p := 0) rfl (by decide +kernel)
theorem dmX13_leaf_1 : decode cX13_leaf 1 = .ok (.getfield 572, 3) := dw_at cX13_leaf_k0 (p := 1) rfl (by decide +kernel)
theorem dmX13_leaf_4 : decode cX13_leaf 4 = .ok (.ifCond .ne 24, 3) := dw_at cX13_leaf_k0 (p := 4) rfl (by decide +kernel)
theorem dmX13_leaf_7 : decode cX13_leaf 7 = .ok (.aload_n 0, 1) := dw_at cX13_leaf_k0 (p := 7) rfl (by decide +kernel)
theorem dmX13_leaf_8 : decode cX13_leaf 8 = .ok (.getfield 186, 3) := dw_at cX13_leaf_k0 (p := 8) rfl (by decide +kernel)
theorem dmX13_leaf_11 : decode cX13_leaf 11 = .ok (.iload 5, 2) := dw_at cX13_leaf_k0 (p := 11) rfl (by decide +kernel)
theorem dmX13_leaf_13 : decode cX13_leaf 13 = .ok (.dup2, 1) := dw_at cX13_leaf_k0 (p := 13) rfl (by decide +kernel)
theorem dmX13_leaf_14 : decode cX13_leaf 14 = .ok (.laload, 1) := dw_at cX13_leaf_k0 (p := 14) rfl (by decide +kernel)
theorem dmX13_leaf_15 : decode cX13_leaf 15 = .ok (.iload_n 1, 1) := dw_at cX13_leaf_k0 (p := 15) rfl (by decide +kernel)
theorem dmX13_leaf_16 : decode cX13_leaf 16 = .ok (.iconst 1, 1) := dw_at cX13_leaf_k0 (p := 16) rfl (by decide +kernel)
theorem dmX13_leaf_17 : decode cX13_leaf 17 = .ok (.if_icmp .ne 7, 3) := dw_at cX13_leaf_k0 (p := 17) rfl (by decide +kernel)
theorem dmX13_leaf_20 : decode cX13_leaf 20 = .ok (.lload_n 2, 1) := dw_at cX13_leaf_k0 (p := 20) rfl (by decide +kernel)
theorem dmX13_leaf_21 : decode cX13_leaf 21 = .ok (.goto 4, 3) := dw_at cX13_leaf_k0 (p := 21) rfl (by decide +kernel)
theorem dmX13_leaf_24 : decode cX13_leaf 24 = .ok (.lconst 0, 1) := dw_at cX13_leaf_k1 (p := 0) rfl (by decide +kernel)
theorem dmX13_leaf_25 : decode cX13_leaf 25 = .ok (.ladd, 1) := dw_at cX13_leaf_k1 (p := 1) rfl (by decide +kernel)
theorem dmX13_leaf_26 : decode cX13_leaf 26 = .ok (.lastore, 1) := dw_at cX13_leaf_k1 (p := 2) rfl (by decide +kernel)
theorem dmX13_leaf_27 : decode cX13_leaf 27 = .ok (.return_, 1) := dw_at cX13_leaf_k1 (p := 3) rfl (by decide +kernel)
theorem dmX13_leaf_28 : decode cX13_leaf 28 = .ok (.iload_n 1, 1) := dw_at cX13_leaf_k1 (p := 4) rfl (by decide +kernel)
theorem dmX13_leaf_29 : decode cX13_leaf 29 = .ok (.iconst 1, 1) := dw_at cX13_leaf_k1 (p := 5) rfl (by decide +kernel)
theorem dmX13_leaf_30 : decode cX13_leaf 30 = .ok (.isub, 1) := dw_at cX13_leaf_k1 (p := 6) rfl (by decide +kernel)
theorem dmX13_leaf_31 : decode cX13_leaf 31 = .ok (.istore 6, 2) := dw_at cX13_leaf_k1 (p := 7) rfl (by decide +kernel)
theorem dmX13_leaf_33 : decode cX13_leaf 33 = .ok (.lload_n 2, 1) := dw_at cX13_leaf_k1 (p := 9) rfl (by decide +kernel)
theorem dmX13_leaf_34 : decode cX13_leaf 34 = .ok (.lstore 7, 2) := dw_at cX13_leaf_k1 (p := 10) rfl (by decide +kernel)
theorem dmX13_leaf_36 : decode cX13_leaf 36 = .ok (.iconst 0, 1) := dw_at cX13_leaf_k1 (p := 12) rfl (by decide +kernel)
theorem dmX13_leaf_37 : decode cX13_leaf 37 = .ok (.istore 9, 2) := dw_at cX13_leaf_k1 (p := 13) rfl (by decide +kernel)
theorem dmX13_leaf_39 : decode cX13_leaf 39 = .ok (.iload 9, 2) := dw_at cX13_leaf_k1 (p := 15) rfl (by decide +kernel)
theorem dmX13_leaf_41 : decode cX13_leaf 41 = .ok (.iload 6, 2) := dw_at cX13_leaf_k1 (p := 17) rfl (by decide +kernel)
theorem dmX13_leaf_43 : decode cX13_leaf 43 = .ok (.if_icmp .gt 76, 3) := dw_at cX13_leaf_k1 (p := 19) rfl (by decide +kernel)
theorem dmX13_leaf_46 : decode cX13_leaf 46 = .ok (.aload_n 0, 1) := dw_at cX13_leaf_k1 (p := 22) rfl (by decide +kernel)
theorem dmX13_leaf_47 : decode cX13_leaf 47 = .ok (.getfield 193, 3) := dw_at cX13_leaf_k1 (p := 23) rfl (by decide +kernel)
theorem dmX13_leaf_50 : decode cX13_leaf 50 = .ok (.sipush 129, 3) := dw_at cX13_leaf_k2 (p := 0) rfl (by decide +kernel)
theorem dmX13_leaf_53 : decode cX13_leaf 53 = .ok (.iload 5, 2) := dw_at cX13_leaf_k2 (p := 3) rfl (by decide +kernel)
theorem dmX13_leaf_55 : decode cX13_leaf 55 = .ok (.iload 6, 2) := dw_at cX13_leaf_k2 (p := 5) rfl (by decide +kernel)
theorem dmX13_leaf_57 : decode cX13_leaf 57 = .ok (.isub, 1) := dw_at cX13_leaf_k2 (p := 7) rfl (by decide +kernel)
theorem dmX13_leaf_58 : decode cX13_leaf 58 = .ok (.bipush 20, 2) := dw_at cX13_leaf_k2 (p := 8) rfl (by decide +kernel)
theorem dmX13_leaf_60 : decode cX13_leaf 60 = .ok (.iadd, 1) := dw_at cX13_leaf_k2 (p := 10) rfl (by decide +kernel)
theorem dmX13_leaf_61 : decode cX13_leaf 61 = .ok (.imul, 1) := dw_at cX13_leaf_k2 (p := 11) rfl (by decide +kernel)
theorem dmX13_leaf_62 : decode cX13_leaf 62 = .ok (.iload 4, 2) := dw_at cX13_leaf_k2 (p := 12) rfl (by decide +kernel)
theorem dmX13_leaf_64 : decode cX13_leaf 64 = .ok (.iadd, 1) := dw_at cX13_leaf_k2 (p := 14) rfl (by decide +kernel)
theorem dmX13_leaf_65 : decode cX13_leaf 65 = .ok (.iconst 2, 1) := dw_at cX13_leaf_k2 (p := 15) rfl (by decide +kernel)
theorem dmX13_leaf_66 : decode cX13_leaf 66 = .ok (.iload 9, 2) := dw_at cX13_leaf_k2 (p := 16) rfl (by decide +kernel)
theorem dmX13_leaf_68 : decode cX13_leaf 68 = .ok (.imul, 1) := dw_at cX13_leaf_k2 (p := 18) rfl (by decide +kernel)
theorem dmX13_leaf_69 : decode cX13_leaf 69 = .ok (.iadd, 1) := dw_at cX13_leaf_k2 (p := 19) rfl (by decide +kernel)
theorem dmX13_leaf_70 : decode cX13_leaf 70 = .ok (.iload 6, 2) := dw_at cX13_leaf_k2 (p := 20) rfl (by decide +kernel)
theorem dmX13_leaf_72 : decode cX13_leaf 72 = .ok (.isub, 1) := dw_at cX13_leaf_k2 (p := 22) rfl (by decide +kernel)
theorem dmX13_leaf_73 : decode cX13_leaf 73 = .ok (.bipush 64, 2) := dw_at cX13_leaf_k2 (p := 23) rfl (by decide +kernel)
theorem dmX13_leaf_75 : decode cX13_leaf 75 = .ok (.iadd, 1) := dw_at cX13_leaf_k3 (p := 0) rfl (by decide +kernel)
theorem dmX13_leaf_76 : decode cX13_leaf 76 = .ok (.dup2, 1) := dw_at cX13_leaf_k3 (p := 1) rfl (by decide +kernel)
theorem dmX13_leaf_77 : decode cX13_leaf 77 = .ok (.laload, 1) := dw_at cX13_leaf_k3 (p := 2) rfl (by decide +kernel)
theorem dmX13_leaf_78 : decode cX13_leaf 78 = .ok (.iload 9, 2) := dw_at cX13_leaf_k3 (p := 3) rfl (by decide +kernel)
theorem dmX13_leaf_80 : decode cX13_leaf 80 = .ok (.iconst 1, 1) := dw_at cX13_leaf_k3 (p := 5) rfl (by decide +kernel)
theorem dmX13_leaf_81 : decode cX13_leaf 81 = .ok (.iand, 1) := dw_at cX13_leaf_k3 (p := 6) rfl (by decide +kernel)
theorem dmX13_leaf_82 : decode cX13_leaf 82 = .ok (.ifCond .ne 8, 3) := dw_at cX13_leaf_k3 (p := 7) rfl (by decide +kernel)
theorem dmX13_leaf_85 : decode cX13_leaf 85 = .ok (.lload 7, 2) := dw_at cX13_leaf_k3 (p := 10) rfl (by decide +kernel)
theorem dmX13_leaf_87 : decode cX13_leaf 87 = .ok (.goto 7, 3) := dw_at cX13_leaf_k3 (p := 12) rfl (by decide +kernel)
theorem dmX13_leaf_90 : decode cX13_leaf 90 = .ok (.lconst 0, 1) := dw_at cX13_leaf_k3 (p := 15) rfl (by decide +kernel)
theorem dmX13_leaf_91 : decode cX13_leaf 91 = .ok (.lload 7, 2) := dw_at cX13_leaf_k3 (p := 16) rfl (by decide +kernel)
theorem dmX13_leaf_93 : decode cX13_leaf 93 = .ok (.lsub, 1) := dw_at cX13_leaf_k3 (p := 18) rfl (by decide +kernel)
theorem dmX13_leaf_94 : decode cX13_leaf 94 = .ok (.ladd, 1) := dw_at cX13_leaf_k3 (p := 19) rfl (by decide +kernel)
theorem dmX13_leaf_95 : decode cX13_leaf 95 = .ok (.lastore, 1) := dw_at cX13_leaf_k3 (p := 20) rfl (by decide +kernel)
theorem dmX13_leaf_96 : decode cX13_leaf 96 = .ok (.lload 7, 2) := dw_at cX13_leaf_k3 (p := 21) rfl (by decide +kernel)
theorem dmX13_leaf_98 : decode cX13_leaf 98 = .ok (.iload 6, 2) := dw_at cX13_leaf_k3 (p := 23) rfl (by decide +kernel)
theorem dmX13_leaf_100 : decode cX13_leaf 100 = .ok (.iload 9, 2) := dw_at cX13_leaf_k4 (p := 0) rfl (by decide +kernel)
theorem dmX13_leaf_102 : decode cX13_leaf 102 = .ok (.isub, 1) := dw_at cX13_leaf_k4 (p := 2) rfl (by decide +kernel)
theorem dmX13_leaf_103 : decode cX13_leaf 103 = .ok (.i2l, 1) := dw_at cX13_leaf_k4 (p := 3) rfl (by decide +kernel)
theorem dmX13_leaf_104 : decode cX13_leaf 104 = .ok (.lmul, 1) := dw_at cX13_leaf_k4 (p := 4) rfl (by decide +kernel)
theorem dmX13_leaf_105 : decode cX13_leaf 105 = .ok (.iload 9, 2) := dw_at cX13_leaf_k4 (p := 5) rfl (by decide +kernel)
theorem dmX13_leaf_107 : decode cX13_leaf 107 = .ok (.iconst 1, 1) := dw_at cX13_leaf_k4 (p := 7) rfl (by decide +kernel)
theorem dmX13_leaf_108 : decode cX13_leaf 108 = .ok (.iadd, 1) := dw_at cX13_leaf_k4 (p := 8) rfl (by decide +kernel)
theorem dmX13_leaf_109 : decode cX13_leaf 109 = .ok (.i2l, 1) := dw_at cX13_leaf_k4 (p := 9) rfl (by decide +kernel)
theorem dmX13_leaf_110 : decode cX13_leaf 110 = .ok (.ldiv, 1) := dw_at cX13_leaf_k4 (p := 10) rfl (by decide +kernel)
theorem dmX13_leaf_111 : decode cX13_leaf 111 = .ok (.lstore 7, 2) := dw_at cX13_leaf_k4 (p := 11) rfl (by decide +kernel)
theorem dmX13_leaf_113 : decode cX13_leaf 113 = .ok (.iinc 9 1, 3) := dw_at cX13_leaf_k4 (p := 13) rfl (by decide +kernel)
theorem dmX13_leaf_116 : decode cX13_leaf 116 = .ok (.goto (-77), 3) := dw_at cX13_leaf_k4 (p := 16) rfl (by decide +kernel)
theorem dmX13_leaf_119 : decode cX13_leaf 119 = .ok (.return_, 1) := dw_at cX13_leaf_k4 (p := 19) rfl (by decide +kernel)
def qm_X13_leaf_0 (K : Nat) (go : Nat → Int32 → Int32 → Int32 → Int32 → Int32 → Int64 → Int64 → Int32 → Int64 → Int64 → ow_MS → Option ow_MS) (x1 : Int32) (x4 : Int32) (x5 : Int32) (x6 : Int32) (x9 : Int32) (w2 : Int64) (w7 : Int64) (t2 : Int32) (y0 : Int64) (y1 : Int64) (z : ow_MS) : Option ow_MS :=
 rdF z 46 fun v1 => (if v1 = 0 then rdJ mX z 42 x5 fun v2 => (if x1 = 1 then wrJ mX z 42 x5 (v2 + w2) fun z4 => some z4
 else wrJ mX z 42 x5 (v2 + 0) fun z3 => some z3)
 else go 1 x1 x4 x5 (x1 - 1) 0 w2 w2 0 0 0 z)
def qm_X13_leaf_1 (K : Nat) (go : Nat → Int32 → Int32 → Int32 → Int32 → Int32 → Int64 → Int64 → Int32 → Int64 → Int64 → ow_MS → Option ow_MS) (x1 : Int32) (x4 : Int32) (x5 : Int32) (x6 : Int32) (x9 : Int32) (w2 : Int64) (w7 : Int64) (t2 : Int32) (y0 : Int64) (y1 : Int64) (z : ow_MS) : Option ow_MS :=
 (if x6 < x9 then some z
 else rdJ mX z 44 (((((129 * ((x5 - x6) + 20)) + x4) + (2 * x9)) - x6) + 64) fun v5 => (if (x9 &&& 1) = 0 then go 2 x1 x4 x5 x6 x9 w2 w7 (((((129 * ((x5 - x6) + 20)) + x4) + (2 * x9)) - x6) + 64) w7 v5 z
 else go 2 x1 x4 x5 x6 x9 w2 w7 (((((129 * ((x5 - x6) + 20)) + x4) + (2 * x9)) - x6) + 64) (0 - w7) v5 z))
def qm_X13_leaf_2 (K : Nat) (go : Nat → Int32 → Int32 → Int32 → Int32 → Int32 → Int64 → Int64 → Int32 → Int64 → Int64 → ow_MS → Option ow_MS) (x1 : Int32) (x4 : Int32) (x5 : Int32) (x6 : Int32) (x9 : Int32) (w2 : Int64) (w7 : Int64) (t2 : Int32) (y0 : Int64) (y1 : Int64) (z : ow_MS) : Option ow_MS :=
 wrJ mX z 44 t2 (y1 + y0) fun z6 => nzJ ((x9 + 1).toInt64) (go 1 x1 x4 x5 x6 (x9 + 1) w2 ((w7 * ((x6 - x9).toInt64)) / ((x9 + 1).toInt64)) 0 0 0 z6)
def qb_X13_leaf (K : Nat) (go : Nat → Int32 → Int32 → Int32 → Int32 → Int32 → Int64 → Int64 → Int32 → Int64 → Int64 → ow_MS → Option ow_MS) (L : Nat) (x1 : Int32) (x4 : Int32) (x5 : Int32) (x6 : Int32) (x9 : Int32) (w2 : Int64) (w7 : Int64) (t2 : Int32) (y0 : Int64) (y1 : Int64) (z : ow_MS) : Option ow_MS := match L with
  | 0 => qm_X13_leaf_0 K go x1 x4 x5 x6 x9 w2 w7 t2 y0 y1 z
  | 1 => qm_X13_leaf_1 K go x1 x4 x5 x6 x9 w2 w7 t2 y0 y1 z
  | 2 => qm_X13_leaf_2 K go x1 x4 x5 x6 x9 w2 w7 t2 y0 y1 z
  | _ => none
def q_X13_leaf (K : Nat) : Nat → Nat → Int32 → Int32 → Int32 → Int32 → Int32 → Int64 → Int64 → Int32 → Int64 → Int64 → ow_MS → Option ow_MS
  | 0 => fun _ _ _ _ _ _ _ _ _ _ _ _ => none
  | k + 1 => qb_X13_leaf K (q_X13_leaf K k)
def qe_X13_leaf (K : Nat) (x1 : Int32) (w2 : Int64) (x4 : Int32) (x5 : Int32) (z : ow_MS) : Option ow_MS := q_X13_leaf K K 0 x1 x4 x5 0 0 w2 0 0 0 0 z
abbrev wm_X13_leaf : List Cond := .code yX13_leaf cX13_leaf 10 none :: wM
theorem cd_X13_leaf : yX13_leaf.cls = RX13 ∧ yX13_leaf.cls ≠ "java/lang/invoke/MethodHandle" ∧ yX13_leaf.cls ≠ "java/lang/invoke/VarHandle" ∧ (parseMethodDescriptor yX13_leaf.desc).map (fun d => d.parameters.length) = some 4 := by decide +kernel
set_option maxHeartbeats 4000000 in
set_option maxRecDepth 100000 in
theorem km_X13_leaf (l : Launch) (D : va_G) (q : ow_Q5) (u : Nat → Nat) (hU : tw_inj mX u) (K : Nat) (x1 : Int32) (w2 : Int64) (x4 : Int32) (x5 : Int32)  (z z1 : ow_MS) (hq : qe_X13_leaf K x1 w2 x4 x5 z = some z1) : Met l yX13_leaf wm_X13_leaf ({ frames := 0, cells := 0, slots := 0, locals := 0 } : Room) (va_Pc [.ref (u 0), .int x1, .long w2, .int x4, .int x5] (mw_pre D q u z)) (va_Qv (fun (_ : Unit) => True) (fun _ t => va_P D vwCl (tw mX q u z1) t.heap) (tw_A mX u)) 0 0 (tw_A mX u) := by
  refine Met.ofW (cc := cX13_leaf) (maxL := 10) (ret := none) (by decide) rfl ?_
  intro p e s m args below meth c s₁ B hml hv
  obtain ⟨rfl, hP, hK, hN⟩ := hv
  have hx := B.exec
  have hb := B.bytes
  have hr := B.returns
  have hts := atoms_spec (ws := wm_X13_leaf) B.pre
  have hT : ∀ w ∈ wM, w.before ([.ref (u 0), .int x1, .long w2, .int x4, .int x5] : List Value).toArray s = true := fun w h => hts w (List.mem_cons_of_mem _ h)
  have hown : s.vm.findClass RX13 = some m.cls := findClass_of_methodNamed B.named
  have hlocks := B.notSynchronized
  have hM : tw_M D vwCl mX q s.heap u z s.heap [] := ⟨hP, va_S.rf⟩
  have hl := lv_entry ([.ref (u 0), .int x1, .long w2, .int x4, .int x5]) (n := 10) (Nat.le_of_ble_eq_true rfl)
  rw [lg_entry_eq]
  generalize (lg_sl ([.ref (u 0), .int x1, .long w2, .int x4, .int x5]) ++ List.replicate (10 - (lg_sl ([.ref (u 0), .int x1, .long w2, .int x4, .int x5])).length) Slot.unset).toArray = ls at hl ⊢
  have hl : lv_has ls 10 [(0, .ref (u 0)), (1, .int x1), (2, .long w2), (4, .int x4), (5, .int x5)] := hl
  refine ow_named (fun QQ hQQ => ?_)
  generalize ([.ref (u 0), .int x1, .long w2, .int x4, .int x5] : List Value).toArray = args at hts hT hQQ ⊢
  have key : ∀ k : Nat, (∀ (x1 : Int32) (x4 : Int32) (x5 : Int32) (x6 : Int32) (x9 : Int32) (w2 : Int64) (w7 : Int64) (t2 : Int32) (y0 : Int64) (y1 : Int64) (z : ow_MS) (H : Heap) (locs : List Loc) (ls : Array Slot), tw_M D vwCl mX q s.heap u z H locs → lv_has ls 10 [(0, .ref (u 0)), (1, .int x1), (2, .long w2), (4, .int x4), (5, .int x5)] → q_X13_leaf K k 0 x1 x4 x5 x6 x9 w2 w7 t2 y0 y1 z = some z1 → W p l e ({ frames := 0, cells := 0, slots := 0, locals := 0 } : Room) s m args below meth c H locs 0 0 QQ (F0 m 0 ls [])) ∧ (∀ (x1 : Int32) (x4 : Int32) (x5 : Int32) (x6 : Int32) (x9 : Int32) (w2 : Int64) (w7 : Int64) (t2 : Int32) (y0 : Int64) (y1 : Int64) (z : ow_MS) (H : Heap) (locs : List Loc) (ls : Array Slot), tw_M D vwCl mX q s.heap u z H locs → lv_has ls 10 [(0, .ref (u 0)), (1, .int x1), (2, .long w2), (4, .int x4), (5, .int x5), (6, .int x6), (7, .long w7), (9, .int x9)] → q_X13_leaf K k 1 x1 x4 x5 x6 x9 w2 w7 t2 y0 y1 z = some z1 → W p l e ({ frames := 0, cells := 0, slots := 0, locals := 0 } : Room) s m args below meth c H locs 0 0 QQ (F0 m 39 ls [])) ∧ (∀ (x1 : Int32) (x4 : Int32) (x5 : Int32) (x6 : Int32) (x9 : Int32) (w2 : Int64) (w7 : Int64) (t2 : Int32) (y0 : Int64) (y1 : Int64) (z : ow_MS) (H : Heap) (locs : List Loc) (ls : Array Slot), tw_M D vwCl mX q s.heap u z H locs → lv_has ls 10 [(0, .ref (u 0)), (1, .int x1), (2, .long w2), (4, .int x4), (5, .int x5), (6, .int x6), (7, .long w7), (9, .int x9)] → q_X13_leaf K k 2 x1 x4 x5 x6 x9 w2 w7 t2 y0 y1 z = some z1 → W p l e ({ frames := 0, cells := 0, slots := 0, locals := 0 } : Room) s m args below meth c H locs 0 0 QQ (F0 m 94 ls [.long y0, .long y1, .int t2, .ref (u 44)])) := by
    intro k
    induction k with
    | zero => exact ⟨fun _ _ _ _ _ _ _ _ _ _ _ _ _ _  _ _ hq => tw_no hq, fun _ _ _ _ _ _ _ _ _ _ _ _ _ _  _ _ hq => tw_no hq, fun _ _ _ _ _ _ _ _ _ _ _ _ _ _  _ _ hq => tw_no hq⟩
    | succ k ih =>
      obtain ⟨ih_0, ih_1, ih_2⟩ := ih
      refine ⟨?_, ?_, ?_⟩
      · intro x1 x4 x5 x6 x9 w2 w7 t2 y0 y1 z H locs ls  hM hl hq
        have hq : qm_X13_leaf_0 K (q_X13_leaf K k) x1 x4 x5 x6 x9 w2 w7 t2 y0 y1 z = some z1 := hq
        unfold qm_X13_leaf_0 at hq
        refine lv_aload_n hx hb dmX13_leaf_0 rfl (lv_at hl 0 rfl) ?_
        refine mg13_572 hx hb hT hown hK hM hq dmX13_leaf_1 (fun v1 hq => ?_)
        refine lv_if_ne (tgt := 28) hx hb dmX13_leaf_4 (by decide) (fun hc => ?_) (fun hc => ?_)
        · have hq := tw_if hq hc
          refine lv_iload_n hx hb dmX13_leaf_28 rfl (lv_at hl 1 rfl) ?_
          refine lv_iconst (v := 1) hx hb dmX13_leaf_29 (by decide) ?_
          refine lv_isub hx hb dmX13_leaf_30 ?_
          refine lv_istore (lv' := [(6, .int (x1 - 1)), (0, .ref (u 0)), (1, .int x1), (2, .long w2), (4, .int x4), (5, .int x5)]) hx hb dmX13_leaf_31 hl (by decide) rfl (fun ls hl => ?_)
          refine lv_lload_n hx hb dmX13_leaf_33 rfl (lv_at hl 3 rfl) ?_
          refine lv_lstore (lv' := [(7, .long w2), (6, .int (x1 - 1)), (0, .ref (u 0)), (1, .int x1), (2, .long w2), (4, .int x4), (5, .int x5)]) hx hb dmX13_leaf_34 hl (by decide) rfl (fun ls hl => ?_)
          refine lv_iconst (v := 0) hx hb dmX13_leaf_36 (by decide) ?_
          refine lv_istore (lv' := [(9, .int 0), (7, .long w2), (6, .int (x1 - 1)), (0, .ref (u 0)), (1, .int x1), (2, .long w2), (4, .int x4), (5, .int x5)]) hx hb dmX13_leaf_37 hl (by decide) rfl (fun ls hl => ?_)
          exact ih_1 x1 x4 x5 (x1 - 1) 0 w2 w2 0 0 0 z H locs ls hM (lv_sub hl [3, 4, 5, 6, 7, 2, 1, 0] rfl) hq
        · have hq := tw_it hq hc
          refine lv_aload_n hx hb dmX13_leaf_7 rfl (lv_at hl 0 rfl) ?_
          refine mg13_186 hx hb hT hown hK hM dmX13_leaf_8 ?_
          refine lv_iload hx hb dmX13_leaf_11 (lv_at hl 4 rfl) ?_
          refine lv_dup2_11 hx hb dmX13_leaf_13 rfl rfl ?_
          refine tw_lald mX_ok hx hb hK hM mr_42 hq dmX13_leaf_14 (fun v2 hq => ?_)
          refine lv_iload_n hx hb dmX13_leaf_15 rfl (lv_at hl 1 rfl) ?_
          refine lv_iconst (v := 1) hx hb dmX13_leaf_16 (by decide) ?_
          refine lv_icmp_ne (tgt := 24) hx hb dmX13_leaf_17 (by decide) (fun hc => ?_) (fun hc => ?_)
          · have hq := tw_if hq hc
            refine lv_lconst (v := 0) hx hb dmX13_leaf_24 rfl ?_
            refine lv_ladd hx hb dmX13_leaf_25 ?_
            refine tw_last mX_ok hU hx hb hK hM mr_42 hq dmX13_leaf_26 (fun z3 H locs hM hq => ?_)
            exact mw_vret hx hb hr hlocks hM hq hQQ dmX13_leaf_27
          · have hq := tw_it hq hc
            refine lv_lload_n hx hb dmX13_leaf_20 rfl (lv_at hl 2 rfl) ?_
            refine lv_goto (tgt := 25) hx hb dmX13_leaf_21 (by decide) ?_
            refine lv_ladd hx hb dmX13_leaf_25 ?_
            refine tw_last mX_ok hU hx hb hK hM mr_42 hq dmX13_leaf_26 (fun z4 H locs hM hq => ?_)
            exact mw_vret hx hb hr hlocks hM hq hQQ dmX13_leaf_27
      · intro x1 x4 x5 x6 x9 w2 w7 t2 y0 y1 z H locs ls  hM hl hq
        have hq : qm_X13_leaf_1 K (q_X13_leaf K k) x1 x4 x5 x6 x9 w2 w7 t2 y0 y1 z = some z1 := hq
        unfold qm_X13_leaf_1 at hq
        refine lv_iload hx hb dmX13_leaf_39 (lv_at hl 7 rfl) ?_
        refine lv_iload hx hb dmX13_leaf_41 (lv_at hl 5 rfl) ?_
        refine lv_icmp_gt (tgt := 119) hx hb dmX13_leaf_43 (by decide) (fun hc => ?_) (fun hc => ?_)
        · have hq := tw_it hq hc
          exact mw_vret hx hb hr hlocks hM hq hQQ dmX13_leaf_119
        · have hq := tw_if hq hc
          refine lv_aload_n hx hb dmX13_leaf_46 rfl (lv_at hl 0 rfl) ?_
          refine mg13_193 hx hb hT hown hK hM dmX13_leaf_47 ?_
          refine lv_sipush (v := 129) hx hb dmX13_leaf_50 (by decide) ?_
          refine lv_iload hx hb dmX13_leaf_53 (lv_at hl 4 rfl) ?_
          refine lv_iload hx hb dmX13_leaf_55 (lv_at hl 5 rfl) ?_
          refine lv_isub hx hb dmX13_leaf_57 ?_
          refine lv_bipush (v := 20) hx hb dmX13_leaf_58 (by decide) ?_
          refine lv_iadd hx hb dmX13_leaf_60 ?_
          refine lv_imul hx hb dmX13_leaf_61 ?_
          refine lv_iload hx hb dmX13_leaf_62 (lv_at hl 3 rfl) ?_
          refine lv_iadd hx hb dmX13_leaf_64 ?_
          refine lv_iconst (v := 2) hx hb dmX13_leaf_65 (by decide) ?_
          refine lv_iload hx hb dmX13_leaf_66 (lv_at hl 7 rfl) ?_
          refine lv_imul hx hb dmX13_leaf_68 ?_
          refine lv_iadd hx hb dmX13_leaf_69 ?_
          refine lv_iload hx hb dmX13_leaf_70 (lv_at hl 5 rfl) ?_
          refine lv_isub hx hb dmX13_leaf_72 ?_
          refine lv_bipush (v := 64) hx hb dmX13_leaf_73 (by decide) ?_
          refine lv_iadd hx hb dmX13_leaf_75 ?_
          refine lv_dup2_11 hx hb dmX13_leaf_76 rfl rfl ?_
          refine tw_lald mX_ok hx hb hK hM mr_44 hq dmX13_leaf_77 (fun v5 hq => ?_)
          refine lv_iload hx hb dmX13_leaf_78 (lv_at hl 7 rfl) ?_
          refine lv_iconst (v := 1) hx hb dmX13_leaf_80 (by decide) ?_
          refine lv_iand hx hb dmX13_leaf_81 ?_
          refine lv_if_ne (tgt := 90) hx hb dmX13_leaf_82 (by decide) (fun hc => ?_) (fun hc => ?_)
          · have hq := tw_if hq hc
            refine lv_lconst (v := 0) hx hb dmX13_leaf_90 rfl ?_
            refine lv_lload hx hb dmX13_leaf_91 (lv_at hl 6 rfl) ?_
            refine lv_lsub hx hb dmX13_leaf_93 ?_
            exact ih_2 x1 x4 x5 x6 x9 w2 w7 (((((129 * ((x5 - x6) + 20)) + x4) + (2 * x9)) - x6) + 64) (0 - w7) v5 z H locs ls hM (lv_sub hl [0, 1, 2, 3, 4, 5, 6, 7] rfl) hq
          · have hq := tw_it hq hc
            refine lv_lload hx hb dmX13_leaf_85 (lv_at hl 6 rfl) ?_
            refine lv_goto (tgt := 94) hx hb dmX13_leaf_87 (by decide) ?_
            exact ih_2 x1 x4 x5 x6 x9 w2 w7 (((((129 * ((x5 - x6) + 20)) + x4) + (2 * x9)) - x6) + 64) w7 v5 z H locs ls hM (lv_sub hl [0, 1, 2, 3, 4, 5, 6, 7] rfl) hq
      · intro x1 x4 x5 x6 x9 w2 w7 t2 y0 y1 z H locs ls  hM hl hq
        have hq : qm_X13_leaf_2 K (q_X13_leaf K k) x1 x4 x5 x6 x9 w2 w7 t2 y0 y1 z = some z1 := hq
        unfold qm_X13_leaf_2 at hq
        refine lv_ladd hx hb dmX13_leaf_94 ?_
        refine tw_last mX_ok hU hx hb hK hM mr_44 hq dmX13_leaf_95 (fun z6 H locs hM hq => ?_)
        refine lv_lload hx hb dmX13_leaf_96 (lv_at hl 6 rfl) ?_
        refine lv_iload hx hb dmX13_leaf_98 (lv_at hl 5 rfl) ?_
        refine lv_iload hx hb dmX13_leaf_100 (lv_at hl 7 rfl) ?_
        refine lv_isub hx hb dmX13_leaf_102 ?_
        refine lv_i2l hx hb dmX13_leaf_103 rfl ?_
        refine lv_lmul hx hb dmX13_leaf_104 ?_
        refine lv_iload hx hb dmX13_leaf_105 (lv_at hl 7 rfl) ?_
        refine lv_iconst (v := 1) hx hb dmX13_leaf_107 (by decide) ?_
        refine lv_iadd hx hb dmX13_leaf_108 ?_
        refine lv_i2l hx hb dmX13_leaf_109 rfl ?_
        obtain ⟨hz, hq⟩ := tw_nzJ hq
        refine lv_ldiv hx hb dmX13_leaf_110 hz ?_
        refine lv_lstore (lv' := [(7, .long ((w7 * ((x6 - x9).toInt64)) / ((x9 + 1).toInt64))), (0, .ref (u 0)), (1, .int x1), (2, .long w2), (4, .int x4), (5, .int x5), (6, .int x6), (9, .int x9)]) hx hb dmX13_leaf_111 hl (by decide) rfl (fun ls hl => ?_)
        refine lv_iinc (v := (x9 + 1)) (lv' := [(9, .int (x9 + 1)), (7, .long ((w7 * ((x6 - x9).toInt64)) / ((x9 + 1).toInt64))), (0, .ref (u 0)), (1, .int x1), (2, .long w2), (4, .int x4), (5, .int x5), (6, .int x6)]) hx hb dmX13_leaf_113 hl (k := 7) rfl rfl (by decide) rfl (fun ls hl => ?_)
        refine lv_goto (tgt := 39) hx hb dmX13_leaf_116 (by decide) ?_
        exact ih_1 x1 x4 x5 x6 (x9 + 1) w2 ((w7 * ((x6 - x9).toInt64)) / ((x9 + 1).toInt64)) 0 0 0 z6 H locs ls hM (lv_sub hl [2, 3, 4, 5, 6, 7, 1, 0] rfl) hq
  exact (key K).1 x1 x4 x5 0 0 w2 0 0 0 0 z s.heap [] ls  hM (lv_sub hl [0, 1, 2, 3, 4] rfl) hq
theorem dmX13_skein_0 : decode cX13_skein 0 = .ok (.aload_n 0, 1) := dw_at cX13_skein_k0 (p := 0) rfl (by decide +kernel)
theorem dmX13_skein_1 : decode cX13_skein 1 = .ok (.getfield 179, 3) := dw_at cX13_skein_k0 (p := 1) rfl (by decide +kernel)
theorem dmX13_skein_4 : decode cX13_skein 4 = .ok (.iload_n 1, 1) := dw_at cX13_skein_k0 (p := 4) rfl (by decide +kernel)
theorem dmX13_skein_5 : decode cX13_skein 5 = .ok (.aaload, 1) := dw_at cX13_skein_k0 (p := 5) rfl (by decide +kernel)
theorem dmX13_skein_6 : decode cX13_skein 6 = .ok (.astore 6, 2) := dw_at cX13_skein_k0 (p := 6) rfl (by decide +kernel)
theorem dmX13_skein_8 : decode cX13_skein 8 = .ok (.iconst 0, 1) := dw_at cX13_skein_k0 (p := 8) rfl (by decide +kernel)
theorem dmX13_skein_9 : decode cX13_skein 9 = .ok (.istore 7, 2) := dw_at cX13_skein_k0 (p := 9) rfl (by decide +kernel)
theorem dmX13_skein_11 : decode cX13_skein 11 = .ok (.iload 7, 2) := dw_at cX13_skein_k0 (p := 11) rfl (by decide +kernel)
theorem dmX13_skein_13 : decode cX13_skein 13 = .ok (.bipush 40, 2) := dw_at cX13_skein_k0 (p := 13) rfl (by decide +kernel)
theorem dmX13_skein_15 : decode cX13_skein 15 = .ok (.if_icmp .ge 17, 3) := dw_at cX13_skein_k0 (p := 15) rfl (by decide +kernel)
theorem dmX13_skein_18 : decode cX13_skein 18 = .ok (.aload_n 0, 1) := dw_at cX13_skein_k0 (p := 18) rfl (by decide +kernel)
theorem dmX13_skein_19 : decode cX13_skein 19 = .ok (.getfield 183, 3) := dw_at cX13_skein_k0 (p := 19) rfl (by decide +kernel)
theorem dmX13_skein_22 : decode cX13_skein 22 = .ok (.iload 7, 2) := dw_at cX13_skein_k0 (p := 22) rfl (by decide +kernel)
theorem dmX13_skein_24 : decode cX13_skein 24 = .ok (.iconst 0, 1) := dw_at cX13_skein_k1 (p := 0) rfl (by decide +kernel)
theorem dmX13_skein_25 : decode cX13_skein 25 = .ok (.bastore, 1) := dw_at cX13_skein_k1 (p := 1) rfl (by decide +kernel)
theorem dmX13_skein_26 : decode cX13_skein 26 = .ok (.iinc 7 1, 3) := dw_at cX13_skein_k1 (p := 2) rfl (by decide +kernel)
theorem dmX13_skein_29 : decode cX13_skein 29 = .ok (.goto (-18), 3) := dw_at cX13_skein_k1 (p := 5) rfl (by decide +kernel)
theorem dmX13_skein_32 : decode cX13_skein 32 = .ok (.iconst (-1), 1) := dw_at cX13_skein_k1 (p := 8) rfl (by decide +kernel)
theorem dmX13_skein_33 : decode cX13_skein 33 = .ok (.istore 7, 2) := dw_at cX13_skein_k1 (p := 9) rfl (by decide +kernel)
theorem dmX13_skein_35 : decode cX13_skein 35 = .ok (.iconst 0, 1) := dw_at cX13_skein_k1 (p := 11) rfl (by decide +kernel)
theorem dmX13_skein_36 : decode cX13_skein 36 = .ok (.istore 8, 2) := dw_at cX13_skein_k1 (p := 12) rfl (by decide +kernel)
theorem dmX13_skein_38 : decode cX13_skein 38 = .ok (.iload 8, 2) := dw_at cX13_skein_k1 (p := 14) rfl (by decide +kernel)
theorem dmX13_skein_40 : decode cX13_skein 40 = .ok (.aload 6, 2) := dw_at cX13_skein_k1 (p := 16) rfl (by decide +kernel)
theorem dmX13_skein_42 : decode cX13_skein 42 = .ok (.getfield 44, 3) := dw_at cX13_skein_k1 (p := 18) rfl (by decide +kernel)
theorem dmX13_skein_45 : decode cX13_skein 45 = .ok (.if_icmp .ge 63, 3) := dw_at cX13_skein_k1 (p := 21) rfl (by decide +kernel)
theorem dmX13_skein_48 : decode cX13_skein 48 = .ok (.iload 7, 2) := dw_at cX13_skein_k2 (p := 0) rfl (by decide +kernel)
theorem dmX13_skein_50 : decode cX13_skein 50 = .ok (.iconst (-1), 1) := dw_at cX13_skein_k2 (p := 2) rfl (by decide +kernel)
theorem dmX13_skein_51 : decode cX13_skein 51 = .ok (.if_icmp .ne 57, 3) := dw_at cX13_skein_k2 (p := 3) rfl (by decide +kernel)
theorem dmX13_skein_54 : decode cX13_skein 54 = .ok (.aload 6, 2) := dw_at cX13_skein_k2 (p := 6) rfl (by decide +kernel)
theorem dmX13_skein_56 : decode cX13_skein 56 = .ok (.getfield 23, 3) := dw_at cX13_skein_k2 (p := 8) rfl (by decide +kernel)
theorem dmX13_skein_59 : decode cX13_skein 59 = .ok (.iload 8, 2) := dw_at cX13_skein_k2 (p := 11) rfl (by decide +kernel)
theorem dmX13_skein_61 : decode cX13_skein 61 = .ok (.iaload, 1) := dw_at cX13_skein_k2 (p := 13) rfl (by decide +kernel)
theorem dmX13_skein_62 : decode cX13_skein 62 = .ok (.istore 9, 2) := dw_at cX13_skein_k2 (p := 14) rfl (by decide +kernel)
theorem dmX13_skein_64 : decode cX13_skein 64 = .ok (.aload_n 0, 1) := dw_at cX13_skein_k2 (p := 16) rfl (by decide +kernel)
theorem dmX13_skein_65 : decode cX13_skein 65 = .ok (.getfield 183, 3) := dw_at cX13_skein_k2 (p := 17) rfl (by decide +kernel)
theorem dmX13_skein_68 : decode cX13_skein 68 = .ok (.iload 9, 2) := dw_at cX13_skein_k2 (p := 20) rfl (by decide +kernel)
theorem dmX13_skein_70 : decode cX13_skein 70 = .ok (.baload, 1) := dw_at cX13_skein_k2 (p := 22) rfl (by decide +kernel)
theorem dmX13_skein_71 : decode cX13_skein 71 = .ok (.ifCond .ne 31, 3) := dw_at cX13_skein_k2 (p := 23) rfl (by decide +kernel)
theorem dmX13_skein_74 : decode cX13_skein 74 = .ok (.aload_n 0, 1) := dw_at cX13_skein_k3 (p := 0) rfl (by decide +kernel)
theorem dmX13_skein_75 : decode cX13_skein 75 = .ok (.getfield 183, 3) := dw_at cX13_skein_k3 (p := 1) rfl (by decide +kernel)
theorem dmX13_skein_78 : decode cX13_skein 78 = .ok (.iload 9, 2) := dw_at cX13_skein_k3 (p := 4) rfl (by decide +kernel)
theorem dmX13_skein_80 : decode cX13_skein 80 = .ok (.iconst 1, 1) := dw_at cX13_skein_k3 (p := 6) rfl (by decide +kernel)
theorem dmX13_skein_81 : decode cX13_skein 81 = .ok (.bastore, 1) := dw_at cX13_skein_k3 (p := 7) rfl (by decide +kernel)
theorem dmX13_skein_82 : decode cX13_skein 82 = .ok (.aload 6, 2) := dw_at cX13_skein_k3 (p := 8) rfl (by decide +kernel)
theorem dmX13_skein_84 : decode cX13_skein 84 = .ok (.getfield 32, 3) := dw_at cX13_skein_k3 (p := 10) rfl (by decide +kernel)
theorem dmX13_skein_87 : decode cX13_skein 87 = .ok (.iload 8, 2) := dw_at cX13_skein_k3 (p := 13) rfl (by decide +kernel)
theorem dmX13_skein_89 : decode cX13_skein 89 = .ok (.iaload, 1) := dw_at cX13_skein_k3 (p := 15) rfl (by decide +kernel)
theorem dmX13_skein_90 : decode cX13_skein 90 = .ok (.iconst 1, 1) := dw_at cX13_skein_k3 (p := 16) rfl (by decide +kernel)
theorem dmX13_skein_91 : decode cX13_skein 91 = .ok (.if_icmp .ne 8, 3) := dw_at cX13_skein_k3 (p := 17) rfl (by decide +kernel)
theorem dmX13_skein_94 : decode cX13_skein 94 = .ok (.iload 8, 2) := dw_at cX13_skein_k3 (p := 20) rfl (by decide +kernel)
theorem dmX13_skein_96 : decode cX13_skein 96 = .ok (.goto 4, 3) := dw_at cX13_skein_k3 (p := 22) rfl (by decide +kernel)
theorem dmX13_skein_99 : decode cX13_skein 99 = .ok (.iconst (-1), 1) := dw_at cX13_skein_k4 (p := 0) rfl (by decide +kernel)
theorem dmX13_skein_100 : decode cX13_skein 100 = .ok (.istore 7, 2) := dw_at cX13_skein_k4 (p := 1) rfl (by decide +kernel)
theorem dmX13_skein_102 : decode cX13_skein 102 = .ok (.iinc 8 1, 3) := dw_at cX13_skein_k4 (p := 3) rfl (by decide +kernel)
theorem dmX13_skein_105 : decode cX13_skein 105 = .ok (.goto (-67), 3) := dw_at cX13_skein_k4 (p := 6) rfl (by decide +kernel)
theorem dmX13_skein_108 : decode cX13_skein 108 = .ok (.iload 7, 2) := dw_at cX13_skein_k4 (p := 9) rfl (by decide +kernel)
theorem dmX13_skein_110 : decode cX13_skein 110 = .ok (.iconst (-1), 1) := dw_at cX13_skein_k4 (p := 11) rfl (by decide +kernel)
theorem dmX13_skein_111 : decode cX13_skein 111 = .ok (.if_icmp .ne 18, 3) := dw_at cX13_skein_k4 (p := 12) rfl (by decide +kernel)
theorem dmX13_skein_114 : decode cX13_skein 114 = .ok (.aload_n 0, 1) := dw_at cX13_skein_k4 (p := 15) rfl (by decide +kernel)
theorem dmX13_skein_115 : decode cX13_skein 115 = .ok (.aload 6, 2) := dw_at cX13_skein_k4 (p := 16) rfl (by decide +kernel)
theorem dmX13_skein_117 : decode cX13_skein 117 = .ok (.getfield 407, 3) := dw_at cX13_skein_k4 (p := 18) rfl (by decide +kernel)
theorem dmX13_skein_120 : decode cX13_skein 120 = .ok (.lload_n 2, 1) := dw_at cX13_skein_k4 (p := 21) rfl (by decide +kernel)
theorem dmX13_skein_121 : decode cX13_skein 121 = .ok (.iload 4, 2) := dw_at cX13_skein_k4 (p := 22) rfl (by decide +kernel)
theorem dmX13_skein_123 : decode cX13_skein 123 = .ok (.iload 5, 2) := dw_at cX13_skein_k5 (p := 0) rfl (by decide +kernel)
theorem dmX13_skein_125 : decode cX13_skein 125 = .ok (.invokevirtual 568, 3) := dw_at cX13_skein_k5 (p := 2) rfl (by decide +kernel)
theorem dmX13_skein_128 : decode cX13_skein 128 = .ok (.return_, 1) := dw_at cX13_skein_k5 (p := 5) rfl (by decide +kernel)
theorem dmX13_skein_129 : decode cX13_skein 129 = .ok (.iconst 0, 1) := dw_at cX13_skein_k5 (p := 6) rfl (by decide +kernel)
theorem dmX13_skein_130 : decode cX13_skein 130 = .ok (.istore 8, 2) := dw_at cX13_skein_k5 (p := 7) rfl (by decide +kernel)
theorem dmX13_skein_132 : decode cX13_skein 132 = .ok (.aload 6, 2) := dw_at cX13_skein_k5 (p := 9) rfl (by decide +kernel)
theorem dmX13_skein_134 : decode cX13_skein 134 = .ok (.getfield 452, 3) := dw_at cX13_skein_k5 (p := 11) rfl (by decide +kernel)
theorem dmX13_skein_137 : decode cX13_skein 137 = .ok (.iload 8, 2) := dw_at cX13_skein_k5 (p := 14) rfl (by decide +kernel)
theorem dmX13_skein_139 : decode cX13_skein 139 = .ok (.iconst 1, 1) := dw_at cX13_skein_k5 (p := 16) rfl (by decide +kernel)
theorem dmX13_skein_140 : decode cX13_skein 140 = .ok (.iadd, 1) := dw_at cX13_skein_k5 (p := 17) rfl (by decide +kernel)
theorem dmX13_skein_141 : decode cX13_skein 141 = .ok (.iaload, 1) := dw_at cX13_skein_k5 (p := 18) rfl (by decide +kernel)
theorem dmX13_skein_142 : decode cX13_skein 142 = .ok (.iload 7, 2) := dw_at cX13_skein_k5 (p := 19) rfl (by decide +kernel)
theorem dmX13_skein_144 : decode cX13_skein 144 = .ok (.if_icmp .gt 9, 3) := dw_at cX13_skein_k5 (p := 21) rfl (by decide +kernel)
theorem dmX13_skein_147 : decode cX13_skein 147 = .ok (.iinc 8 1, 3) := dw_at cX13_skein_k6 (p := 0) rfl (by decide +kernel)
theorem dmX13_skein_150 : decode cX13_skein 150 = .ok (.goto (-18), 3) := dw_at cX13_skein_k6 (p := 3) rfl (by decide +kernel)
theorem dmX13_skein_153 : decode cX13_skein 153 = .ok (.aload 6, 2) := dw_at cX13_skein_k6 (p := 6) rfl (by decide +kernel)
theorem dmX13_skein_155 : decode cX13_skein 155 = .ok (.getfield 23, 3) := dw_at cX13_skein_k6 (p := 8) rfl (by decide +kernel)
theorem dmX13_skein_158 : decode cX13_skein 158 = .ok (.iload 7, 2) := dw_at cX13_skein_k6 (p := 11) rfl (by decide +kernel)
theorem dmX13_skein_160 : decode cX13_skein 160 = .ok (.iaload, 1) := dw_at cX13_skein_k6 (p := 13) rfl (by decide +kernel)
theorem dmX13_skein_161 : decode cX13_skein 161 = .ok (.istore 9, 2) := dw_at cX13_skein_k6 (p := 14) rfl (by decide +kernel)
theorem dmX13_skein_163 : decode cX13_skein 163 = .ok (.iload 7, 2) := dw_at cX13_skein_k6 (p := 16) rfl (by decide +kernel)
theorem dmX13_skein_165 : decode cX13_skein 165 = .ok (.iconst 1, 1) := dw_at cX13_skein_k6 (p := 18) rfl (by decide +kernel)
theorem dmX13_skein_166 : decode cX13_skein 166 = .ok (.iadd, 1) := dw_at cX13_skein_k6 (p := 19) rfl (by decide +kernel)
theorem dmX13_skein_167 : decode cX13_skein 167 = .ok (.istore 10, 2) := dw_at cX13_skein_k6 (p := 20) rfl (by decide +kernel)
theorem dmX13_skein_169 : decode cX13_skein 169 = .ok (.aload 6, 2) := dw_at cX13_skein_k6 (p := 22) rfl (by decide +kernel)
theorem dmX13_skein_171 : decode cX13_skein 171 = .ok (.getfield 23, 3) := dw_at cX13_skein_k7 (p := 0) rfl (by decide +kernel)
theorem dmX13_skein_174 : decode cX13_skein 174 = .ok (.iload 10, 2) := dw_at cX13_skein_k7 (p := 3) rfl (by decide +kernel)
theorem dmX13_skein_176 : decode cX13_skein 176 = .ok (.iaload, 1) := dw_at cX13_skein_k7 (p := 5) rfl (by decide +kernel)
theorem dmX13_skein_177 : decode cX13_skein 177 = .ok (.iload 9, 2) := dw_at cX13_skein_k7 (p := 6) rfl (by decide +kernel)
theorem dmX13_skein_179 : decode cX13_skein 179 = .ok (.if_icmp .eq 9, 3) := dw_at cX13_skein_k7 (p := 8) rfl (by decide +kernel)
theorem dmX13_skein_182 : decode cX13_skein 182 = .ok (.iinc 10 1, 3) := dw_at cX13_skein_k7 (p := 11) rfl (by decide +kernel)
theorem dmX13_skein_185 : decode cX13_skein 185 = .ok (.goto (-16), 3) := dw_at cX13_skein_k7 (p := 14) rfl (by decide +kernel)
theorem dmX13_skein_188 : decode cX13_skein 188 = .ok (.aload 6, 2) := dw_at cX13_skein_k7 (p := 17) rfl (by decide +kernel)
theorem dmX13_skein_190 : decode cX13_skein 190 = .ok (.getfield 35, 3) := dw_at cX13_skein_k7 (p := 19) rfl (by decide +kernel)
theorem dmX13_skein_193 : decode cX13_skein 193 = .ok (.iload 9, 2) := dw_at cX13_skein_k7 (p := 22) rfl (by decide +kernel)
theorem dmX13_skein_195 : decode cX13_skein 195 = .ok (.iaload, 1) := dw_at cX13_skein_k8 (p := 0) rfl (by decide +kernel)
theorem dmX13_skein_196 : decode cX13_skein 196 = .ok (.ifCond .le 7, 3) := dw_at cX13_skein_k8 (p := 1) rfl (by decide +kernel)
theorem dmX13_skein_199 : decode cX13_skein 199 = .ok (.iconst 1, 1) := dw_at cX13_skein_k8 (p := 4) rfl (by decide +kernel)
theorem dmX13_skein_200 : decode cX13_skein 200 = .ok (.goto 4, 3) := dw_at cX13_skein_k8 (p := 5) rfl (by decide +kernel)
theorem dmX13_skein_203 : decode cX13_skein 203 = .ok (.iconst 0, 1) := dw_at cX13_skein_k8 (p := 8) rfl (by decide +kernel)
theorem dmX13_skein_204 : decode cX13_skein 204 = .ok (.istore 11, 2) := dw_at cX13_skein_k8 (p := 9) rfl (by decide +kernel)
theorem dmX13_skein_206 : decode cX13_skein 206 = .ok (.aload_n 0, 1) := dw_at cX13_skein_k8 (p := 11) rfl (by decide +kernel)
theorem dmX13_skein_207 : decode cX13_skein 207 = .ok (.getfield 179, 3) := dw_at cX13_skein_k8 (p := 12) rfl (by decide +kernel)
theorem dmX13_skein_210 : decode cX13_skein 210 = .ok (.iload_n 1, 1) := dw_at cX13_skein_k8 (p := 15) rfl (by decide +kernel)
theorem dmX13_skein_211 : decode cX13_skein 211 = .ok (.iconst 1, 1) := dw_at cX13_skein_k8 (p := 16) rfl (by decide +kernel)
theorem dmX13_skein_212 : decode cX13_skein 212 = .ok (.iadd, 1) := dw_at cX13_skein_k8 (p := 17) rfl (by decide +kernel)
theorem dmX13_skein_213 : decode cX13_skein 213 = .ok (.aaload, 1) := dw_at cX13_skein_k8 (p := 18) rfl (by decide +kernel)
theorem dmX13_skein_214 : decode cX13_skein 214 = .ok (.astore 12, 2) := dw_at cX13_skein_k8 (p := 19) rfl (by decide +kernel)
theorem dmX13_skein_216 : decode cX13_skein 216 = .ok (.aload 6, 2) := dw_at cX13_skein_k8 (p := 21) rfl (by decide +kernel)
theorem dmX13_skein_218 : decode cX13_skein 218 = .ok (.iload 8, 2) := dw_at cX13_skein_k8 (p := 23) rfl (by decide +kernel)
theorem dmX13_skein_220 : decode cX13_skein 220 = .ok (.iload 7, 2) := dw_at cX13_skein_k9 (p := 0) rfl (by decide +kernel)
theorem dmX13_skein_222 : decode cX13_skein 222 = .ok (.iload 10, 2) := dw_at cX13_skein_k9 (p := 2) rfl (by decide +kernel)
theorem dmX13_skein_224 : decode cX13_skein 224 = .ok (.aload 12, 2) := dw_at cX13_skein_k9 (p := 4) rfl (by decide +kernel)
theorem dmX13_skein_226 : decode cX13_skein 226 = .ok (.invokestatic 458, 3) := dw_at cX13_skein_k9 (p := 6) rfl (by decide +kernel)
theorem dmX13_skein_229 : decode cX13_skein 229 = .ok (.aload_n 0, 1) := dw_at cX13_skein_k9 (p := 9) rfl (by decide +kernel)
theorem dmX13_skein_230 : decode cX13_skein 230 = .ok (.iload_n 1, 1) := dw_at cX13_skein_k9 (p := 10) rfl (by decide +kernel)
theorem dmX13_skein_231 : decode cX13_skein 231 = .ok (.iconst 1, 1) := dw_at cX13_skein_k9 (p := 11) rfl (by decide +kernel)
theorem dmX13_skein_232 : decode cX13_skein 232 = .ok (.iadd, 1) := dw_at cX13_skein_k9 (p := 12) rfl (by decide +kernel)
theorem dmX13_skein_233 : decode cX13_skein 233 = .ok (.iload 11, 2) := dw_at cX13_skein_k9 (p := 13) rfl (by decide +kernel)
theorem dmX13_skein_235 : decode cX13_skein 235 = .ok (.ifCond .eq 7, 3) := dw_at cX13_skein_k9 (p := 15) rfl (by decide +kernel)
theorem dmX13_skein_238 : decode cX13_skein 238 = .ok (.lload_n 2, 1) := dw_at cX13_skein_k9 (p := 18) rfl (by decide +kernel)
theorem dmX13_skein_239 : decode cX13_skein 239 = .ok (.goto 6, 3) := dw_at cX13_skein_k9 (p := 19) rfl (by decide +kernel)
theorem dmX13_skein_242 : decode cX13_skein 242 = .ok (.lconst 0, 1) := dw_at cX13_skein_k9 (p := 22) rfl (by decide +kernel)
theorem dmX13_skein_243 : decode cX13_skein 243 = .ok (.lload_n 2, 1) := dw_at cX13_skein_k9 (p := 23) rfl (by decide +kernel)
theorem dmX13_skein_244 : decode cX13_skein 244 = .ok (.lsub, 1) := dw_at cX13_skein_k10 (p := 0) rfl (by decide +kernel)
theorem dmX13_skein_245 : decode cX13_skein 245 = .ok (.aload_n 0, 1) := dw_at cX13_skein_k10 (p := 1) rfl (by decide +kernel)
theorem dmX13_skein_246 : decode cX13_skein 246 = .ok (.getfield 572, 3) := dw_at cX13_skein_k10 (p := 2) rfl (by decide +kernel)
theorem dmX13_skein_249 : decode cX13_skein 249 = .ok (.ifCond .eq 19, 3) := dw_at cX13_skein_k10 (p := 5) rfl (by decide +kernel)
theorem dmX13_skein_252 : decode cX13_skein 252 = .ok (.iload 4, 2) := dw_at cX13_skein_k10 (p := 8) rfl (by decide +kernel)
theorem dmX13_skein_254 : decode cX13_skein 254 = .ok (.iload 11, 2) := dw_at cX13_skein_k10 (p := 10) rfl (by decide +kernel)
theorem dmX13_skein_256 : decode cX13_skein 256 = .ok (.ifCond .eq 7, 3) := dw_at cX13_skein_k10 (p := 12) rfl (by decide +kernel)
theorem dmX13_skein_259 : decode cX13_skein 259 = .ok (.iconst 1, 1) := dw_at cX13_skein_k10 (p := 15) rfl (by decide +kernel)
theorem dmX13_skein_260 : decode cX13_skein 260 = .ok (.goto 4, 3) := dw_at cX13_skein_k10 (p := 16) rfl (by decide +kernel)
theorem dmX13_skein_263 : decode cX13_skein 263 = .ok (.iconst (-1), 1) := dw_at cX13_skein_k10 (p := 19) rfl (by decide +kernel)
theorem dmX13_skein_264 : decode cX13_skein 264 = .ok (.iadd, 1) := dw_at cX13_skein_k10 (p := 20) rfl (by decide +kernel)
theorem dmX13_skein_265 : decode cX13_skein 265 = .ok (.goto 4, 3) := dw_at cX13_skein_k10 (p := 21) rfl (by decide +kernel)
theorem dmX13_skein_268 : decode cX13_skein 268 = .ok (.iconst 0, 1) := dw_at cX13_skein_k11 (p := 0) rfl (by decide +kernel)
theorem dmX13_skein_269 : decode cX13_skein 269 = .ok (.iload 5, 2) := dw_at cX13_skein_k11 (p := 1) rfl (by decide +kernel)
theorem dmX13_skein_271 : decode cX13_skein 271 = .ok (.iconst 1, 1) := dw_at cX13_skein_k11 (p := 3) rfl (by decide +kernel)
theorem dmX13_skein_272 : decode cX13_skein 272 = .ok (.iadd, 1) := dw_at cX13_skein_k11 (p := 4) rfl (by decide +kernel)
theorem dmX13_skein_273 : decode cX13_skein 273 = .ok (.invokevirtual 575, 3) := dw_at cX13_skein_k11 (p := 5) rfl (by decide +kernel)
theorem dmX13_skein_276 : decode cX13_skein 276 = .ok (.aload 12, 2) := dw_at cX13_skein_k11 (p := 8) rfl (by decide +kernel)
theorem dmX13_skein_278 : decode cX13_skein 278 = .ok (.aload 6, 2) := dw_at cX13_skein_k11 (p := 10) rfl (by decide +kernel)
theorem dmX13_skein_280 : decode cX13_skein 280 = .ok (.invokevirtual 528, 3) := dw_at cX13_skein_k11 (p := 12) rfl (by decide +kernel)
theorem dmX13_skein_283 : decode cX13_skein 283 = .ok (.aload 12, 2) := dw_at cX13_skein_k11 (p := 15) rfl (by decide +kernel)
theorem dmX13_skein_285 : decode cX13_skein 285 = .ok (.iload 9, 2) := dw_at cX13_skein_k11 (p := 17) rfl (by decide +kernel)
theorem dmX13_skein_287 : decode cX13_skein 287 = .ok (.invokestatic 455, 3) := dw_at cX13_skein_k11 (p := 19) rfl (by decide +kernel)
theorem dmX13_skein_290 : decode cX13_skein 290 = .ok (.aload_n 0, 1) := dw_at cX13_skein_k11 (p := 22) rfl (by decide +kernel)
theorem dmX13_skein_291 : decode cX13_skein 291 = .ok (.iload_n 1, 1) := dw_at cX13_skein_k11 (p := 23) rfl (by decide +kernel)
theorem dmX13_skein_292 : decode cX13_skein 292 = .ok (.iconst 1, 1) := dw_at cX13_skein_k12 (p := 0) rfl (by decide +kernel)
theorem dmX13_skein_293 : decode cX13_skein 293 = .ok (.iadd, 1) := dw_at cX13_skein_k12 (p := 1) rfl (by decide +kernel)
theorem dmX13_skein_294 : decode cX13_skein 294 = .ok (.lload_n 2, 1) := dw_at cX13_skein_k12 (p := 2) rfl (by decide +kernel)
theorem dmX13_skein_295 : decode cX13_skein 295 = .ok (.aload_n 0, 1) := dw_at cX13_skein_k12 (p := 3) rfl (by decide +kernel)
theorem dmX13_skein_296 : decode cX13_skein 296 = .ok (.getfield 572, 3) := dw_at cX13_skein_k12 (p := 4) rfl (by decide +kernel)
theorem dmX13_skein_299 : decode cX13_skein 299 = .ok (.ifCond .eq 20, 3) := dw_at cX13_skein_k12 (p := 7) rfl (by decide +kernel)
theorem dmX13_skein_302 : decode cX13_skein 302 = .ok (.iload 4, 2) := dw_at cX13_skein_k12 (p := 10) rfl (by decide +kernel)
theorem dmX13_skein_304 : decode cX13_skein 304 = .ok (.iload 11, 2) := dw_at cX13_skein_k12 (p := 12) rfl (by decide +kernel)
theorem dmX13_skein_306 : decode cX13_skein 306 = .ok (.ifCond .eq 7, 3) := dw_at cX13_skein_k12 (p := 14) rfl (by decide +kernel)
theorem dmX13_skein_309 : decode cX13_skein 309 = .ok (.iconst 2, 1) := dw_at cX13_skein_k12 (p := 17) rfl (by decide +kernel)
theorem dmX13_skein_310 : decode cX13_skein 310 = .ok (.goto 5, 3) := dw_at cX13_skein_k12 (p := 18) rfl (by decide +kernel)
theorem dmX13_skein_313 : decode cX13_skein 313 = .ok (.bipush (-2), 2) := dw_at cX13_skein_k12 (p := 21) rfl (by decide +kernel)
theorem dmX13_skein_315 : decode cX13_skein 315 = .ok (.iadd, 1) := dw_at cX13_skein_k12 (p := 23) rfl (by decide +kernel)
theorem dmX13_skein_316 : decode cX13_skein 316 = .ok (.goto 4, 3) := dw_at cX13_skein_k13 (p := 0) rfl (by decide +kernel)
theorem dmX13_skein_319 : decode cX13_skein 319 = .ok (.iconst 0, 1) := dw_at cX13_skein_k13 (p := 3) rfl (by decide +kernel)
theorem dmX13_skein_320 : decode cX13_skein 320 = .ok (.iload 5, 2) := dw_at cX13_skein_k13 (p := 4) rfl (by decide +kernel)
theorem dmX13_skein_322 : decode cX13_skein 322 = .ok (.invokevirtual 575, 3) := dw_at cX13_skein_k13 (p := 6) rfl (by decide +kernel)
theorem dmX13_skein_325 : decode cX13_skein 325 = .ok (.return_, 1) := dw_at cX13_skein_k13 (p := 9) rfl (by decide +kernel)
def qm_X13_skein_0 (K : Nat) (self : Int32 → Int64 → Int32 → Int32 → ow_MS → Option ow_MS) (go : Nat → Int32 → Int32 → Int32 → Int32 → Int32 → Int32 → Int32 → Int32 → Int64 → Nat → Nat → Int32 → Int32 → Int32 → Int32 → Int64 → Int64 → Int64 → ow_MS → Option ow_MS) (x1 : Int32) (x4 : Int32) (x5 : Int32) (x7 : Int32) (x8 : Int32) (x9 : Int32) (x10 : Int32) (x11 : Int32) (w2 : Int64) (r6 : Nat) (r12 : Nat) (t0 : Int32) (t1 : Int32) (t2 : Int32) (t3 : Int32) (y0 : Int64) (y1 : Int64) (y2 : Int64) (z : ow_MS) : Option ow_MS :=
 rdN x1 fun n1 => go 1 x1 x4 x5 0 0 0 0 0 w2 n1 0 0 0 0 0 0 0 0 z
def qm_X13_skein_1 (K : Nat) (self : Int32 → Int64 → Int32 → Int32 → ow_MS → Option ow_MS) (go : Nat → Int32 → Int32 → Int32 → Int32 → Int32 → Int32 → Int32 → Int32 → Int64 → Nat → Nat → Int32 → Int32 → Int32 → Int32 → Int64 → Int64 → Int64 → ow_MS → Option ow_MS) (x1 : Int32) (x4 : Int32) (x5 : Int32) (x7 : Int32) (x8 : Int32) (x9 : Int32) (x10 : Int32) (x11 : Int32) (w2 : Int64) (r6 : Nat) (r12 : Nat) (t0 : Int32) (t1 : Int32) (t2 : Int32) (t3 : Int32) (y0 : Int64) (y1 : Int64) (y2 : Int64) (z : ow_MS) : Option ow_MS :=
 (if 40 ≤ x7 then go 2 x1 x4 x5 (-1) 0 0 0 0 w2 r6 0 0 0 0 0 0 0 0 z
 else wrZ mX z 41 x7 0 fun z2 => go 1 x1 x4 x5 (x7 + 1) 0 0 0 0 w2 r6 0 0 0 0 0 0 0 0 z2)
def qm_X13_skein_2 (K : Nat) (self : Int32 → Int64 → Int32 → Int32 → ow_MS → Option ow_MS) (go : Nat → Int32 → Int32 → Int32 → Int32 → Int32 → Int32 → Int32 → Int32 → Int64 → Nat → Nat → Int32 → Int32 → Int32 → Int32 → Int64 → Int64 → Int64 → ow_MS → Option ow_MS) (x1 : Int32) (x4 : Int32) (x5 : Int32) (x7 : Int32) (x8 : Int32) (x9 : Int32) (x10 : Int32) (x11 : Int32) (w2 : Int64) (r6 : Nat) (r12 : Nat) (t0 : Int32) (t1 : Int32) (t2 : Int32) (t3 : Int32) (y0 : Int64) (y1 : Int64) (y2 : Int64) (z : ow_MS) : Option ow_MS :=
 rdF z (r6 + 1) fun v3 => (if v3 ≤ x8 then go 5 x1 x4 x5 x7 x8 0 0 0 w2 r6 0 0 0 0 0 0 0 0 z
 else (if x7 = (-1) then rdI mX z (r6 + 4) x8 fun v4 => rdI mX z 41 v4 fun v5 => (if v5 = 0 then wrZ mX z 41 v4 1 fun z6 => rdI mX z6 (r6 + 5) x8 fun v7 => (if v7 = 1 then go 3 x1 x4 x5 x7 x8 v4 0 0 w2 r6 0 x8 0 0 0 0 0 0 z6
 else go 3 x1 x4 x5 x7 x8 v4 0 0 w2 r6 0 (-1) 0 0 0 0 0 0 z6)
 else go 4 x1 x4 x5 x7 x8 v4 0 0 w2 r6 0 0 0 0 0 0 0 0 z)
 else go 5 x1 x4 x5 x7 x8 0 0 0 w2 r6 0 0 0 0 0 0 0 0 z))
def qm_X13_skein_3 (K : Nat) (self : Int32 → Int64 → Int32 → Int32 → ow_MS → Option ow_MS) (go : Nat → Int32 → Int32 → Int32 → Int32 → Int32 → Int32 → Int32 → Int32 → Int64 → Nat → Nat → Int32 → Int32 → Int32 → Int32 → Int64 → Int64 → Int64 → ow_MS → Option ow_MS) (x1 : Int32) (x4 : Int32) (x5 : Int32) (x7 : Int32) (x8 : Int32) (x9 : Int32) (x10 : Int32) (x11 : Int32) (w2 : Int64) (r6 : Nat) (r12 : Nat) (t0 : Int32) (t1 : Int32) (t2 : Int32) (t3 : Int32) (y0 : Int64) (y1 : Int64) (y2 : Int64) (z : ow_MS) : Option ow_MS :=
 go 4 x1 x4 x5 t0 x8 x9 0 0 w2 r6 0 0 0 0 0 0 0 0 z
def qm_X13_skein_4 (K : Nat) (self : Int32 → Int64 → Int32 → Int32 → ow_MS → Option ow_MS) (go : Nat → Int32 → Int32 → Int32 → Int32 → Int32 → Int32 → Int32 → Int32 → Int64 → Nat → Nat → Int32 → Int32 → Int32 → Int32 → Int64 → Int64 → Int64 → ow_MS → Option ow_MS) (x1 : Int32) (x4 : Int32) (x5 : Int32) (x7 : Int32) (x8 : Int32) (x9 : Int32) (x10 : Int32) (x11 : Int32) (w2 : Int64) (r6 : Nat) (r12 : Nat) (t0 : Int32) (t1 : Int32) (t2 : Int32) (t3 : Int32) (y0 : Int64) (y1 : Int64) (y2 : Int64) (z : ow_MS) : Option ow_MS :=
 go 2 x1 x4 x5 x7 (x8 + 1) 0 0 0 w2 r6 0 0 0 0 0 0 0 0 z
def qm_X13_skein_5 (K : Nat) (self : Int32 → Int64 → Int32 → Int32 → ow_MS → Option ow_MS) (go : Nat → Int32 → Int32 → Int32 → Int32 → Int32 → Int32 → Int32 → Int32 → Int64 → Nat → Nat → Int32 → Int32 → Int32 → Int32 → Int64 → Int64 → Int64 → ow_MS → Option ow_MS) (x1 : Int32) (x4 : Int32) (x5 : Int32) (x7 : Int32) (x8 : Int32) (x9 : Int32) (x10 : Int32) (x11 : Int32) (w2 : Int64) (r6 : Nat) (r12 : Nat) (t0 : Int32) (t1 : Int32) (t2 : Int32) (t3 : Int32) (y0 : Int64) (y1 : Int64) (y2 : Int64) (z : ow_MS) : Option ow_MS :=
 (if x7 = (-1) then rdF z (r6 + 2) fun v8 => cs0 (qe_X13_leaf K v8 w2 x4 x5 z) fun z9 => some z9
 else go 6 x1 x4 x5 x7 0 0 0 0 w2 r6 0 0 0 0 0 0 0 0 z)
def qm_X13_skein_6 (K : Nat) (self : Int32 → Int64 → Int32 → Int32 → ow_MS → Option ow_MS) (go : Nat → Int32 → Int32 → Int32 → Int32 → Int32 → Int32 → Int32 → Int32 → Int64 → Nat → Nat → Int32 → Int32 → Int32 → Int32 → Int64 → Int64 → Int64 → ow_MS → Option ow_MS) (x1 : Int32) (x4 : Int32) (x5 : Int32) (x7 : Int32) (x8 : Int32) (x9 : Int32) (x10 : Int32) (x11 : Int32) (w2 : Int64) (r6 : Nat) (r12 : Nat) (t0 : Int32) (t1 : Int32) (t2 : Int32) (t3 : Int32) (y0 : Int64) (y1 : Int64) (y2 : Int64) (z : ow_MS) : Option ow_MS :=
 rdI mX z (r6 + 3) (x8 + 1) fun v10 => (if x7 < v10 then rdI mX z (r6 + 4) x7 fun v11 => go 7 x1 x4 x5 x7 x8 v11 (x7 + 1) 0 w2 r6 0 0 0 0 0 0 0 0 z
 else go 6 x1 x4 x5 x7 (x8 + 1) 0 0 0 w2 r6 0 0 0 0 0 0 0 0 z)
def qm_X13_skein_7 (K : Nat) (self : Int32 → Int64 → Int32 → Int32 → ow_MS → Option ow_MS) (go : Nat → Int32 → Int32 → Int32 → Int32 → Int32 → Int32 → Int32 → Int32 → Int64 → Nat → Nat → Int32 → Int32 → Int32 → Int32 → Int64 → Int64 → Int64 → ow_MS → Option ow_MS) (x1 : Int32) (x4 : Int32) (x5 : Int32) (x7 : Int32) (x8 : Int32) (x9 : Int32) (x10 : Int32) (x11 : Int32) (w2 : Int64) (r6 : Nat) (r12 : Nat) (t0 : Int32) (t1 : Int32) (t2 : Int32) (t3 : Int32) (y0 : Int64) (y1 : Int64) (y2 : Int64) (z : ow_MS) : Option ow_MS :=
 rdI mX z (r6 + 4) x10 fun v12 => (if v12 = x9 then rdI mX z (r6 + 6) x9 fun v13 => (if v13 ≤ 0 then go 8 x1 x4 x5 x7 x8 x9 x10 0 w2 r6 0 0 0 0 0 0 0 0 z
 else go 8 x1 x4 x5 x7 x8 x9 x10 0 w2 r6 0 1 0 0 0 0 0 0 z)
 else go 7 x1 x4 x5 x7 x8 x9 (x10 + 1) 0 w2 r6 0 0 0 0 0 0 0 0 z)
def qm_X13_skein_8 (K : Nat) (self : Int32 → Int64 → Int32 → Int32 → ow_MS → Option ow_MS) (go : Nat → Int32 → Int32 → Int32 → Int32 → Int32 → Int32 → Int32 → Int32 → Int64 → Nat → Nat → Int32 → Int32 → Int32 → Int32 → Int64 → Int64 → Int64 → ow_MS → Option ow_MS) (x1 : Int32) (x4 : Int32) (x5 : Int32) (x7 : Int32) (x8 : Int32) (x9 : Int32) (x10 : Int32) (x11 : Int32) (w2 : Int64) (r6 : Nat) (r12 : Nat) (t0 : Int32) (t1 : Int32) (t2 : Int32) (t3 : Int32) (y0 : Int64) (y1 : Int64) (y2 : Int64) (z : ow_MS) : Option ow_MS :=
 rdN (x1 + 1) fun n14 => cs0 (qe_X13_smoothIn K r6 x8 x7 x10 n14 z) fun z15 => (if t0 = 0 then go 9 x1 x4 x5 x7 x8 x9 x10 t0 w2 r6 n14 0 (x1 + 1) 0 0 (0 - w2) 0 0 z15
 else go 9 x1 x4 x5 x7 x8 x9 x10 t0 w2 r6 n14 0 (x1 + 1) 0 0 w2 0 0 z15)
def qm_X13_skein_9 (K : Nat) (self : Int32 → Int64 → Int32 → Int32 → ow_MS → Option ow_MS) (go : Nat → Int32 → Int32 → Int32 → Int32 → Int32 → Int32 → Int32 → Int32 → Int64 → Nat → Nat → Int32 → Int32 → Int32 → Int32 → Int64 → Int64 → Int64 → ow_MS → Option ow_MS) (x1 : Int32) (x4 : Int32) (x5 : Int32) (x7 : Int32) (x8 : Int32) (x9 : Int32) (x10 : Int32) (x11 : Int32) (w2 : Int64) (r6 : Nat) (r12 : Nat) (t0 : Int32) (t1 : Int32) (t2 : Int32) (t3 : Int32) (y0 : Int64) (y1 : Int64) (y2 : Int64) (z : ow_MS) : Option ow_MS :=
 rdF z 46 fun v16 => (if v16 = 0 then go 11 x1 x4 x5 x7 x8 x9 x10 x11 w2 r6 r12 0 0 t1 0 0 y0 0 z
 else (if x11 = 0 then go 10 x1 x4 x5 x7 x8 x9 x10 x11 w2 r6 r12 (-1) x4 0 t1 0 0 y0 z
 else go 10 x1 x4 x5 x7 x8 x9 x10 x11 w2 r6 r12 1 x4 0 t1 0 0 y0 z))
def qm_X13_skein_10 (K : Nat) (self : Int32 → Int64 → Int32 → Int32 → ow_MS → Option ow_MS) (go : Nat → Int32 → Int32 → Int32 → Int32 → Int32 → Int32 → Int32 → Int32 → Int64 → Nat → Nat → Int32 → Int32 → Int32 → Int32 → Int64 → Int64 → Int64 → ow_MS → Option ow_MS) (x1 : Int32) (x4 : Int32) (x5 : Int32) (x7 : Int32) (x8 : Int32) (x9 : Int32) (x10 : Int32) (x11 : Int32) (w2 : Int64) (r6 : Nat) (r12 : Nat) (t0 : Int32) (t1 : Int32) (t2 : Int32) (t3 : Int32) (y0 : Int64) (y1 : Int64) (y2 : Int64) (z : ow_MS) : Option ow_MS :=
 go 11 x1 x4 x5 x7 x8 x9 x10 x11 w2 r6 r12 (t1 + t0) 0 t3 0 0 y2 0 z
def qm_X13_skein_11 (K : Nat) (self : Int32 → Int64 → Int32 → Int32 → ow_MS → Option ow_MS) (go : Nat → Int32 → Int32 → Int32 → Int32 → Int32 → Int32 → Int32 → Int32 → Int64 → Nat → Nat → Int32 → Int32 → Int32 → Int32 → Int64 → Int64 → Int64 → ow_MS → Option ow_MS) (x1 : Int32) (x4 : Int32) (x5 : Int32) (x7 : Int32) (x8 : Int32) (x9 : Int32) (x10 : Int32) (x11 : Int32) (w2 : Int64) (r6 : Nat) (r12 : Nat) (t0 : Int32) (t1 : Int32) (t2 : Int32) (t3 : Int32) (y0 : Int64) (y1 : Int64) (y2 : Int64) (z : ow_MS) : Option ow_MS :=
 cs0 (self t2 y1 t0 (x5 + 1) z) fun z17 => cs0 (qe_X12_copy K r12 r6 z17) fun z18 => cs0 (qe_X13_changeIn K r12 x9 z18) fun z19 => rdF z19 46 fun v20 => (if v20 = 0 then go 13 x1 x4 x5 x7 x8 x9 x10 x11 w2 r6 r12 0 0 (x1 + 1) 0 0 w2 0 z19
 else (if x11 = 0 then go 12 x1 x4 x5 x7 x8 x9 x10 x11 w2 r6 r12 (-2) x4 0 (x1 + 1) 0 0 w2 z19
 else go 12 x1 x4 x5 x7 x8 x9 x10 x11 w2 r6 r12 2 x4 0 (x1 + 1) 0 0 w2 z19))
def qm_X13_skein_12 (K : Nat) (self : Int32 → Int64 → Int32 → Int32 → ow_MS → Option ow_MS) (go : Nat → Int32 → Int32 → Int32 → Int32 → Int32 → Int32 → Int32 → Int32 → Int64 → Nat → Nat → Int32 → Int32 → Int32 → Int32 → Int64 → Int64 → Int64 → ow_MS → Option ow_MS) (x1 : Int32) (x4 : Int32) (x5 : Int32) (x7 : Int32) (x8 : Int32) (x9 : Int32) (x10 : Int32) (x11 : Int32) (w2 : Int64) (r6 : Nat) (r12 : Nat) (t0 : Int32) (t1 : Int32) (t2 : Int32) (t3 : Int32) (y0 : Int64) (y1 : Int64) (y2 : Int64) (z : ow_MS) : Option ow_MS :=
 go 13 x1 x4 x5 x7 x8 x9 x10 x11 w2 r6 r12 (t1 + t0) 0 t3 0 0 y2 0 z
def qm_X13_skein_13 (K : Nat) (self : Int32 → Int64 → Int32 → Int32 → ow_MS → Option ow_MS) (go : Nat → Int32 → Int32 → Int32 → Int32 → Int32 → Int32 → Int32 → Int32 → Int64 → Nat → Nat → Int32 → Int32 → Int32 → Int32 → Int64 → Int64 → Int64 → ow_MS → Option ow_MS) (x1 : Int32) (x4 : Int32) (x5 : Int32) (x7 : Int32) (x8 : Int32) (x9 : Int32) (x10 : Int32) (x11 : Int32) (w2 : Int64) (r6 : Nat) (r12 : Nat) (t0 : Int32) (t1 : Int32) (t2 : Int32) (t3 : Int32) (y0 : Int64) (y1 : Int64) (y2 : Int64) (z : ow_MS) : Option ow_MS :=
 cs0 (self t2 y1 t0 x5 z) fun z21 => some z21
def qb_X13_skein (K : Nat) (self : Int32 → Int64 → Int32 → Int32 → ow_MS → Option ow_MS) (go : Nat → Int32 → Int32 → Int32 → Int32 → Int32 → Int32 → Int32 → Int32 → Int64 → Nat → Nat → Int32 → Int32 → Int32 → Int32 → Int64 → Int64 → Int64 → ow_MS → Option ow_MS) (L : Nat) (x1 : Int32) (x4 : Int32) (x5 : Int32) (x7 : Int32) (x8 : Int32) (x9 : Int32) (x10 : Int32) (x11 : Int32) (w2 : Int64) (r6 : Nat) (r12 : Nat) (t0 : Int32) (t1 : Int32) (t2 : Int32) (t3 : Int32) (y0 : Int64) (y1 : Int64) (y2 : Int64) (z : ow_MS) : Option ow_MS := match L with
  | 0 => qm_X13_skein_0 K self go x1 x4 x5 x7 x8 x9 x10 x11 w2 r6 r12 t0 t1 t2 t3 y0 y1 y2 z
  | 1 => qm_X13_skein_1 K self go x1 x4 x5 x7 x8 x9 x10 x11 w2 r6 r12 t0 t1 t2 t3 y0 y1 y2 z
  | 2 => qm_X13_skein_2 K self go x1 x4 x5 x7 x8 x9 x10 x11 w2 r6 r12 t0 t1 t2 t3 y0 y1 y2 z
  | 3 => qm_X13_skein_3 K self go x1 x4 x5 x7 x8 x9 x10 x11 w2 r6 r12 t0 t1 t2 t3 y0 y1 y2 z
  | 4 => qm_X13_skein_4 K self go x1 x4 x5 x7 x8 x9 x10 x11 w2 r6 r12 t0 t1 t2 t3 y0 y1 y2 z
  | 5 => qm_X13_skein_5 K self go x1 x4 x5 x7 x8 x9 x10 x11 w2 r6 r12 t0 t1 t2 t3 y0 y1 y2 z
  | 6 => qm_X13_skein_6 K self go x1 x4 x5 x7 x8 x9 x10 x11 w2 r6 r12 t0 t1 t2 t3 y0 y1 y2 z
  | 7 => qm_X13_skein_7 K self go x1 x4 x5 x7 x8 x9 x10 x11 w2 r6 r12 t0 t1 t2 t3 y0 y1 y2 z
  | 8 => qm_X13_skein_8 K self go x1 x4 x5 x7 x8 x9 x10 x11 w2 r6 r12 t0 t1 t2 t3 y0 y1 y2 z
  | 9 => qm_X13_skein_9 K self go x1 x4 x5 x7 x8 x9 x10 x11 w2 r6 r12 t0 t1 t2 t3 y0 y1 y2 z
  | 10 => qm_X13_skein_10 K self go x1 x4 x5 x7 x8 x9 x10 x11 w2 r6 r12 t0 t1 t2 t3 y0 y1 y2 z
  | 11 => qm_X13_skein_11 K self go x1 x4 x5 x7 x8 x9 x10 x11 w2 r6 r12 t0 t1 t2 t3 y0 y1 y2 z
  | 12 => qm_X13_skein_12 K self go x1 x4 x5 x7 x8 x9 x10 x11 w2 r6 r12 t0 t1 t2 t3 y0 y1 y2 z
  | 13 => qm_X13_skein_13 K self go x1 x4 x5 x7 x8 x9 x10 x11 w2 r6 r12 t0 t1 t2 t3 y0 y1 y2 z
  | _ => none
def q_X13_skein (K : Nat) (self : Int32 → Int64 → Int32 → Int32 → ow_MS → Option ow_MS) : Nat → Nat → Int32 → Int32 → Int32 → Int32 → Int32 → Int32 → Int32 → Int32 → Int64 → Nat → Nat → Int32 → Int32 → Int32 → Int32 → Int64 → Int64 → Int64 → ow_MS → Option ow_MS
  | 0 => fun _ _ _ _ _ _ _ _ _ _ _ _ _ _ _ _ _ _ _ _ => none
  | k + 1 => qb_X13_skein K self (q_X13_skein K self k)
def qd_X13_skein (K : Nat) : Nat → Int32 → Int64 → Int32 → Int32 → ow_MS → Option ow_MS
  | 0 => fun _ _ _ _ _ => none
  | d + 1 => fun x1 w2 x4 x5 z => q_X13_skein K (qd_X13_skein K d) K 0 x1 x4 x5 0 0 0 0 0 w2 0 0 0 0 0 0 0 0 0 z
def qe_X13_skein (K : Nat) (x1 : Int32) (w2 : Int64) (x4 : Int32) (x5 : Int32) (z : ow_MS) : Option ow_MS := qd_X13_skein K 16 x1 w2 x4 x5 z
abbrev wm_X13_skein : List Cond := .code yX13_skein cX13_skein 13 none :: wM
theorem cd_X13_skein : yX13_skein.cls = RX13 ∧ yX13_skein.cls ≠ "java/lang/invoke/MethodHandle" ∧ yX13_skein.cls ≠ "java/lang/invoke/VarHandle" ∧ (parseMethodDescriptor yX13_skein.desc).map (fun d => d.parameters.length) = some 4 := by decide +kernel
set_option maxHeartbeats 4000000 in
set_option maxRecDepth 100000 in
theorem kd_X13_skein (l : Launch) (D : va_G) (q : ow_Q5) (u : Nat → Nat) (hU : tw_inj mX u) (K : Nat) (d : Nat) : ∀ (x1 : Int32) (w2 : Int64) (x4 : Int32) (x5 : Int32)  (z z1 : ow_MS) (_ : qd_X13_skein K d x1 w2 x4 x5 z = some z1), Met l yX13_skein wm_X13_skein ({ frames := 2 + d, cells := 0, slots := 0, locals := 50 + d * 32 } : Room) (va_Pc [.ref (u 0), .int x1, .long w2, .int x4, .int x5] (mw_pre D q u z)) (va_Qv (fun (_ : Unit) => True) (fun _ t => va_P D vwCl (tw mX q u z1) t.heap) (tw_A mX u)) 0 0 (tw_A mX u) := by
  induction d with
  | zero =>
    intro x1 w2 x4 x5  z z1 hq
    exact tw_no hq
  | succ d ihd =>
    intro x1 w2 x4 x5  z z1 hq
    have hq : q_X13_skein K (qd_X13_skein K d) K 0 x1 x4 x5 0 0 0 0 0 w2 0 0 0 0 0 0 0 0 0 z = some z1 := hq
    refine Met.ofW (cc := cX13_skein) (maxL := 13) (ret := none) (by decide) rfl ?_
    intro p e s m args below meth c s₁ B hml hv
    obtain ⟨rfl, hP, hK, hN⟩ := hv
    have hx := B.exec
    have hb := B.bytes
    have hr := B.returns
    have hts := atoms_spec (ws := wm_X13_skein) B.pre
    have hT : ∀ w ∈ wM, w.before ([.ref (u 0), .int x1, .long w2, .int x4, .int x5] : List Value).toArray s = true := fun w h => hts w (List.mem_cons_of_mem _ h)
    have hown : s.vm.findClass RX13 = some m.cls := findClass_of_methodNamed B.named
    have hlocks := B.notSynchronized
    have hM : tw_M D vwCl mX q s.heap u z s.heap [] := ⟨hP, va_S.rf⟩
    have hl := lv_entry ([.ref (u 0), .int x1, .long w2, .int x4, .int x5]) (n := 13) (Nat.le_of_ble_eq_true rfl)
    rw [lg_entry_eq]
    generalize (lg_sl ([.ref (u 0), .int x1, .long w2, .int x4, .int x5]) ++ List.replicate (13 - (lg_sl ([.ref (u 0), .int x1, .long w2, .int x4, .int x5])).length) Slot.unset).toArray = ls at hl ⊢
    have hl : lv_has ls 13 [(0, .ref (u 0)), (1, .int x1), (2, .long w2), (4, .int x4), (5, .int x5)] := hl
    refine ow_named (fun QQ hQQ => ?_)
    generalize ([.ref (u 0), .int x1, .long w2, .int x4, .int x5] : List Value).toArray = args at hts hT hQQ ⊢
    have key : ∀ k : Nat, (∀ (x1 : Int32) (x4 : Int32) (x5 : Int32) (x7 : Int32) (x8 : Int32) (x9 : Int32) (x10 : Int32) (x11 : Int32) (w2 : Int64) (r6 : Nat) (r12 : Nat) (t0 : Int32) (t1 : Int32) (t2 : Int32) (t3 : Int32) (y0 : Int64) (y1 : Int64) (y2 : Int64) (z : ow_MS) (H : Heap) (locs : List Loc) (ls : Array Slot), tw_M D vwCl mX q s.heap u z H locs → lv_has ls 13 [(0, .ref (u 0)), (1, .int x1), (2, .long w2), (4, .int x4), (5, .int x5)] → q_X13_skein K (qd_X13_skein K d) k 0 x1 x4 x5 x7 x8 x9 x10 x11 w2 r6 r12 t0 t1 t2 t3 y0 y1 y2 z = some z1 → W p l e ({ frames := 2 + (d + 1), cells := 0, slots := 0, locals := 50 + (d + 1) * 32 } : Room) s m args below meth c H locs 0 0 QQ (F0 m 0 ls [])) ∧ (∀ (x1 : Int32) (x4 : Int32) (x5 : Int32) (x7 : Int32) (x8 : Int32) (x9 : Int32) (x10 : Int32) (x11 : Int32) (w2 : Int64) (r6 : Nat) (r12 : Nat) (t0 : Int32) (t1 : Int32) (t2 : Int32) (t3 : Int32) (y0 : Int64) (y1 : Int64) (y2 : Int64) (z : ow_MS) (H : Heap) (locs : List Loc) (ls : Array Slot), mw_net r6 → tw_M D vwCl mX q s.heap u z H locs → lv_has ls 13 [(0, .ref (u 0)), (1, .int x1), (2, .long w2), (4, .int x4), (5, .int x5), (6, .ref (u r6)), (7, .int x7)] → q_X13_skein K (qd_X13_skein K d) k 1 x1 x4 x5 x7 x8 x9 x10 x11 w2 r6 r12 t0 t1 t2 t3 y0 y1 y2 z = some z1 → W p l e ({ frames := 2 + (d + 1), cells := 0, slots := 0, locals := 50 + (d + 1) * 32 } : Room) s m args below meth c H locs 0 0 QQ (F0 m 11 ls [])) ∧ (∀ (x1 : Int32) (x4 : Int32) (x5 : Int32) (x7 : Int32) (x8 : Int32) (x9 : Int32) (x10 : Int32) (x11 : Int32) (w2 : Int64) (r6 : Nat) (r12 : Nat) (t0 : Int32) (t1 : Int32) (t2 : Int32) (t3 : Int32) (y0 : Int64) (y1 : Int64) (y2 : Int64) (z : ow_MS) (H : Heap) (locs : List Loc) (ls : Array Slot), mw_net r6 → tw_M D vwCl mX q s.heap u z H locs → lv_has ls 13 [(0, .ref (u 0)), (1, .int x1), (2, .long w2), (4, .int x4), (5, .int x5), (6, .ref (u r6)), (7, .int x7), (8, .int x8)] → q_X13_skein K (qd_X13_skein K d) k 2 x1 x4 x5 x7 x8 x9 x10 x11 w2 r6 r12 t0 t1 t2 t3 y0 y1 y2 z = some z1 → W p l e ({ frames := 2 + (d + 1), cells := 0, slots := 0, locals := 50 + (d + 1) * 32 } : Room) s m args below meth c H locs 0 0 QQ (F0 m 38 ls [])) ∧ (∀ (x1 : Int32) (x4 : Int32) (x5 : Int32) (x7 : Int32) (x8 : Int32) (x9 : Int32) (x10 : Int32) (x11 : Int32) (w2 : Int64) (r6 : Nat) (r12 : Nat) (t0 : Int32) (t1 : Int32) (t2 : Int32) (t3 : Int32) (y0 : Int64) (y1 : Int64) (y2 : Int64) (z : ow_MS) (H : Heap) (locs : List Loc) (ls : Array Slot), mw_net r6 → tw_M D vwCl mX q s.heap u z H locs → lv_has ls 13 [(0, .ref (u 0)), (1, .int x1), (2, .long w2), (4, .int x4), (5, .int x5), (6, .ref (u r6)), (7, .int x7), (8, .int x8), (9, .int x9)] → q_X13_skein K (qd_X13_skein K d) k 3 x1 x4 x5 x7 x8 x9 x10 x11 w2 r6 r12 t0 t1 t2 t3 y0 y1 y2 z = some z1 → W p l e ({ frames := 2 + (d + 1), cells := 0, slots := 0, locals := 50 + (d + 1) * 32 } : Room) s m args below meth c H locs 0 0 QQ (F0 m 100 ls [.int t0])) ∧ (∀ (x1 : Int32) (x4 : Int32) (x5 : Int32) (x7 : Int32) (x8 : Int32) (x9 : Int32) (x10 : Int32) (x11 : Int32) (w2 : Int64) (r6 : Nat) (r12 : Nat) (t0 : Int32) (t1 : Int32) (t2 : Int32) (t3 : Int32) (y0 : Int64) (y1 : Int64) (y2 : Int64) (z : ow_MS) (H : Heap) (locs : List Loc) (ls : Array Slot), mw_net r6 → tw_M D vwCl mX q s.heap u z H locs → lv_has ls 13 [(0, .ref (u 0)), (1, .int x1), (2, .long w2), (4, .int x4), (5, .int x5), (6, .ref (u r6)), (7, .int x7), (8, .int x8), (9, .int x9)] → q_X13_skein K (qd_X13_skein K d) k 4 x1 x4 x5 x7 x8 x9 x10 x11 w2 r6 r12 t0 t1 t2 t3 y0 y1 y2 z = some z1 → W p l e ({ frames := 2 + (d + 1), cells := 0, slots := 0, locals := 50 + (d + 1) * 32 } : Room) s m args below meth c H locs 0 0 QQ (F0 m 102 ls [])) ∧ (∀ (x1 : Int32) (x4 : Int32) (x5 : Int32) (x7 : Int32) (x8 : Int32) (x9 : Int32) (x10 : Int32) (x11 : Int32) (w2 : Int64) (r6 : Nat) (r12 : Nat) (t0 : Int32) (t1 : Int32) (t2 : Int32) (t3 : Int32) (y0 : Int64) (y1 : Int64) (y2 : Int64) (z : ow_MS) (H : Heap) (locs : List Loc) (ls : Array Slot), mw_net r6 → tw_M D vwCl mX q s.heap u z H locs → lv_has ls 13 [(0, .ref (u 0)), (1, .int x1), (2, .long w2), (4, .int x4), (5, .int x5), (6, .ref (u r6)), (7, .int x7), (8, .int x8)] → q_X13_skein K (qd_X13_skein K d) k 5 x1 x4 x5 x7 x8 x9 x10 x11 w2 r6 r12 t0 t1 t2 t3 y0 y1 y2 z = some z1 → W p l e ({ frames := 2 + (d + 1), cells := 0, slots := 0, locals := 50 + (d + 1) * 32 } : Room) s m args below meth c H locs 0 0 QQ (F0 m 108 ls [])) ∧ (∀ (x1 : Int32) (x4 : Int32) (x5 : Int32) (x7 : Int32) (x8 : Int32) (x9 : Int32) (x10 : Int32) (x11 : Int32) (w2 : Int64) (r6 : Nat) (r12 : Nat) (t0 : Int32) (t1 : Int32) (t2 : Int32) (t3 : Int32) (y0 : Int64) (y1 : Int64) (y2 : Int64) (z : ow_MS) (H : Heap) (locs : List Loc) (ls : Array Slot), mw_net r6 → tw_M D vwCl mX q s.heap u z H locs → lv_has ls 13 [(0, .ref (u 0)), (1, .int x1), (2, .long w2), (4, .int x4), (5, .int x5), (6, .ref (u r6)), (7, .int x7), (8, .int x8)] → q_X13_skein K (qd_X13_skein K d) k 6 x1 x4 x5 x7 x8 x9 x10 x11 w2 r6 r12 t0 t1 t2 t3 y0 y1 y2 z = some z1 → W p l e ({ frames := 2 + (d + 1), cells := 0, slots := 0, locals := 50 + (d + 1) * 32 } : Room) s m args below meth c H locs 0 0 QQ (F0 m 132 ls [])) ∧ (∀ (x1 : Int32) (x4 : Int32) (x5 : Int32) (x7 : Int32) (x8 : Int32) (x9 : Int32) (x10 : Int32) (x11 : Int32) (w2 : Int64) (r6 : Nat) (r12 : Nat) (t0 : Int32) (t1 : Int32) (t2 : Int32) (t3 : Int32) (y0 : Int64) (y1 : Int64) (y2 : Int64) (z : ow_MS) (H : Heap) (locs : List Loc) (ls : Array Slot), mw_net r6 → tw_M D vwCl mX q s.heap u z H locs → lv_has ls 13 [(0, .ref (u 0)), (1, .int x1), (2, .long w2), (4, .int x4), (5, .int x5), (6, .ref (u r6)), (7, .int x7), (8, .int x8), (9, .int x9), (10, .int x10)] → q_X13_skein K (qd_X13_skein K d) k 7 x1 x4 x5 x7 x8 x9 x10 x11 w2 r6 r12 t0 t1 t2 t3 y0 y1 y2 z = some z1 → W p l e ({ frames := 2 + (d + 1), cells := 0, slots := 0, locals := 50 + (d + 1) * 32 } : Room) s m args below meth c H locs 0 0 QQ (F0 m 169 ls [])) ∧ (∀ (x1 : Int32) (x4 : Int32) (x5 : Int32) (x7 : Int32) (x8 : Int32) (x9 : Int32) (x10 : Int32) (x11 : Int32) (w2 : Int64) (r6 : Nat) (r12 : Nat) (t0 : Int32) (t1 : Int32) (t2 : Int32) (t3 : Int32) (y0 : Int64) (y1 : Int64) (y2 : Int64) (z : ow_MS) (H : Heap) (locs : List Loc) (ls : Array Slot), mw_net r6 → tw_M D vwCl mX q s.heap u z H locs → lv_has ls 13 [(0, .ref (u 0)), (1, .int x1), (2, .long w2), (4, .int x4), (5, .int x5), (6, .ref (u r6)), (7, .int x7), (8, .int x8), (9, .int x9), (10, .int x10)] → q_X13_skein K (qd_X13_skein K d) k 8 x1 x4 x5 x7 x8 x9 x10 x11 w2 r6 r12 t0 t1 t2 t3 y0 y1 y2 z = some z1 → W p l e ({ frames := 2 + (d + 1), cells := 0, slots := 0, locals := 50 + (d + 1) * 32 } : Room) s m args below meth c H locs 0 0 QQ (F0 m 204 ls [.int t0])) ∧ (∀ (x1 : Int32) (x4 : Int32) (x5 : Int32) (x7 : Int32) (x8 : Int32) (x9 : Int32) (x10 : Int32) (x11 : Int32) (w2 : Int64) (r6 : Nat) (r12 : Nat) (t0 : Int32) (t1 : Int32) (t2 : Int32) (t3 : Int32) (y0 : Int64) (y1 : Int64) (y2 : Int64) (z : ow_MS) (H : Heap) (locs : List Loc) (ls : Array Slot), mw_net r6 → mw_net r12 → tw_M D vwCl mX q s.heap u z H locs → lv_has ls 13 [(0, .ref (u 0)), (1, .int x1), (2, .long w2), (4, .int x4), (5, .int x5), (6, .ref (u r6)), (7, .int x7), (8, .int x8), (9, .int x9), (10, .int x10), (11, .int x11), (12, .ref (u r12))] → q_X13_skein K (qd_X13_skein K d) k 9 x1 x4 x5 x7 x8 x9 x10 x11 w2 r6 r12 t0 t1 t2 t3 y0 y1 y2 z = some z1 → W p l e ({ frames := 2 + (d + 1), cells := 0, slots := 0, locals := 50 + (d + 1) * 32 } : Room) s m args below meth c H locs 0 0 QQ (F0 m 245 ls [.long y0, .int t1, .ref (u 0)])) ∧ (∀ (x1 : Int32) (x4 : Int32) (x5 : Int32) (x7 : Int32) (x8 : Int32) (x9 : Int32) (x10 : Int32) (x11 : Int32) (w2 : Int64) (r6 : Nat) (r12 : Nat) (t0 : Int32) (t1 : Int32) (t2 : Int32) (t3 : Int32) (y0 : Int64) (y1 : Int64) (y2 : Int64) (z : ow_MS) (H : Heap) (locs : List Loc) (ls : Array Slot), mw_net r6 → mw_net r12 → tw_M D vwCl mX q s.heap u z H locs → lv_has ls 13 [(0, .ref (u 0)), (1, .int x1), (2, .long w2), (4, .int x4), (5, .int x5), (6, .ref (u r6)), (7, .int x7), (8, .int x8), (9, .int x9), (10, .int x10), (11, .int x11), (12, .ref (u r12))] → q_X13_skein K (qd_X13_skein K d) k 10 x1 x4 x5 x7 x8 x9 x10 x11 w2 r6 r12 t0 t1 t2 t3 y0 y1 y2 z = some z1 → W p l e ({ frames := 2 + (d + 1), cells := 0, slots := 0, locals := 50 + (d + 1) * 32 } : Room) s m args below meth c H locs 0 0 QQ (F0 m 264 ls [.int t0, .int t1, .long y2, .int t3, .ref (u 0)])) ∧ (∀ (x1 : Int32) (x4 : Int32) (x5 : Int32) (x7 : Int32) (x8 : Int32) (x9 : Int32) (x10 : Int32) (x11 : Int32) (w2 : Int64) (r6 : Nat) (r12 : Nat) (t0 : Int32) (t1 : Int32) (t2 : Int32) (t3 : Int32) (y0 : Int64) (y1 : Int64) (y2 : Int64) (z : ow_MS) (H : Heap) (locs : List Loc) (ls : Array Slot), mw_net r6 → mw_net r12 → tw_M D vwCl mX q s.heap u z H locs → lv_has ls 13 [(0, .ref (u 0)), (1, .int x1), (2, .long w2), (4, .int x4), (5, .int x5), (6, .ref (u r6)), (7, .int x7), (8, .int x8), (9, .int x9), (10, .int x10), (11, .int x11), (12, .ref (u r12))] → q_X13_skein K (qd_X13_skein K d) k 11 x1 x4 x5 x7 x8 x9 x10 x11 w2 r6 r12 t0 t1 t2 t3 y0 y1 y2 z = some z1 → W p l e ({ frames := 2 + (d + 1), cells := 0, slots := 0, locals := 50 + (d + 1) * 32 } : Room) s m args below meth c H locs 0 0 QQ (F0 m 269 ls [.int t0, .long y1, .int t2, .ref (u 0)])) ∧ (∀ (x1 : Int32) (x4 : Int32) (x5 : Int32) (x7 : Int32) (x8 : Int32) (x9 : Int32) (x10 : Int32) (x11 : Int32) (w2 : Int64) (r6 : Nat) (r12 : Nat) (t0 : Int32) (t1 : Int32) (t2 : Int32) (t3 : Int32) (y0 : Int64) (y1 : Int64) (y2 : Int64) (z : ow_MS) (H : Heap) (locs : List Loc) (ls : Array Slot), mw_net r6 → mw_net r12 → tw_M D vwCl mX q s.heap u z H locs → lv_has ls 13 [(0, .ref (u 0)), (1, .int x1), (2, .long w2), (4, .int x4), (5, .int x5), (6, .ref (u r6)), (7, .int x7), (8, .int x8), (9, .int x9), (10, .int x10), (11, .int x11), (12, .ref (u r12))] → q_X13_skein K (qd_X13_skein K d) k 12 x1 x4 x5 x7 x8 x9 x10 x11 w2 r6 r12 t0 t1 t2 t3 y0 y1 y2 z = some z1 → W p l e ({ frames := 2 + (d + 1), cells := 0, slots := 0, locals := 50 + (d + 1) * 32 } : Room) s m args below meth c H locs 0 0 QQ (F0 m 315 ls [.int t0, .int t1, .long y2, .int t3, .ref (u 0)])) ∧ (∀ (x1 : Int32) (x4 : Int32) (x5 : Int32) (x7 : Int32) (x8 : Int32) (x9 : Int32) (x10 : Int32) (x11 : Int32) (w2 : Int64) (r6 : Nat) (r12 : Nat) (t0 : Int32) (t1 : Int32) (t2 : Int32) (t3 : Int32) (y0 : Int64) (y1 : Int64) (y2 : Int64) (z : ow_MS) (H : Heap) (locs : List Loc) (ls : Array Slot), mw_net r6 → mw_net r12 → tw_M D vwCl mX q s.heap u z H locs → lv_has ls 13 [(0, .ref (u 0)), (1, .int x1), (2, .long w2), (4, .int x4), (5, .int x5), (6, .ref (u r6)), (7, .int x7), (8, .int x8), (9, .int x9), (10, .int x10), (11, .int x11), (12, .ref (u r12))] → q_X13_skein K (qd_X13_skein K d) k 13 x1 x4 x5 x7 x8 x9 x10 x11 w2 r6 r12 t0 t1 t2 t3 y0 y1 y2 z = some z1 → W p l e ({ frames := 2 + (d + 1), cells := 0, slots := 0, locals := 50 + (d + 1) * 32 } : Room) s m args below meth c H locs 0 0 QQ (F0 m 320 ls [.int t0, .long y1, .int t2, .ref (u 0)])) := by
      intro k
      induction k with
      | zero => exact ⟨fun _ _ _ _ _ _ _ _ _ _ _ _ _ _ _ _ _ _ _ _ _ _  _ _ hq => tw_no hq, fun _ _ _ _ _ _ _ _ _ _ _ _ _ _ _ _ _ _ _ _ _ _ _ _ _ hq => tw_no hq, fun _ _ _ _ _ _ _ _ _ _ _ _ _ _ _ _ _ _ _ _ _ _ _ _ _ hq => tw_no hq, fun _ _ _ _ _ _ _ _ _ _ _ _ _ _ _ _ _ _ _ _ _ _ _ _ _ hq => tw_no hq, fun _ _ _ _ _ _ _ _ _ _ _ _ _ _ _ _ _ _ _ _ _ _ _ _ _ hq => tw_no hq, fun _ _ _ _ _ _ _ _ _ _ _ _ _ _ _ _ _ _ _ _ _ _ _ _ _ hq => tw_no hq, fun _ _ _ _ _ _ _ _ _ _ _ _ _ _ _ _ _ _ _ _ _ _ _ _ _ hq => tw_no hq, fun _ _ _ _ _ _ _ _ _ _ _ _ _ _ _ _ _ _ _ _ _ _ _ _ _ hq => tw_no hq, fun _ _ _ _ _ _ _ _ _ _ _ _ _ _ _ _ _ _ _ _ _ _ _ _ _ hq => tw_no hq, fun _ _ _ _ _ _ _ _ _ _ _ _ _ _ _ _ _ _ _ _ _ _ _ _ _ _ hq => tw_no hq, fun _ _ _ _ _ _ _ _ _ _ _ _ _ _ _ _ _ _ _ _ _ _ _ _ _ _ hq => tw_no hq, fun _ _ _ _ _ _ _ _ _ _ _ _ _ _ _ _ _ _ _ _ _ _ _ _ _ _ hq => tw_no hq, fun _ _ _ _ _ _ _ _ _ _ _ _ _ _ _ _ _ _ _ _ _ _ _ _ _ _ hq => tw_no hq, fun _ _ _ _ _ _ _ _ _ _ _ _ _ _ _ _ _ _ _ _ _ _ _ _ _ _ hq => tw_no hq⟩
      | succ k ih =>
        obtain ⟨ih_0, ih_1, ih_2, ih_3, ih_4, ih_5, ih_6, ih_7, ih_8, ih_9, ih_10, ih_11, ih_12, ih_13⟩ := ih
        refine ⟨?_, ?_, ?_, ?_, ?_, ?_, ?_, ?_, ?_, ?_, ?_, ?_, ?_, ?_⟩
        · intro x1 x4 x5 x7 x8 x9 x10 x11 w2 r6 r12 t0 t1 t2 t3 y0 y1 y2 z H locs ls  hM hl hq
          have hq : qm_X13_skein_0 K (qd_X13_skein K d) (q_X13_skein K (qd_X13_skein K d) k) x1 x4 x5 x7 x8 x9 x10 x11 w2 r6 r12 t0 t1 t2 t3 y0 y1 y2 z = some z1 := hq
          unfold qm_X13_skein_0 at hq
          refine lv_aload_n hx hb dmX13_skein_0 rfl (lv_at hl 0 rfl) ?_
          refine mg13_179 hx hb hT hown hK hM dmX13_skein_1 ?_
          refine lv_iload_n hx hb dmX13_skein_4 rfl (lv_at hl 1 rfl) ?_
          refine mw_aald hx hb hK hM hq dmX13_skein_5 (fun n1 hn1 hq => ?_)
          refine lv_astore (lv' := [(6, .ref (u n1)), (0, .ref (u 0)), (1, .int x1), (2, .long w2), (4, .int x4), (5, .int x5)]) hx hb dmX13_skein_6 hl (by decide) rfl (fun ls hl => ?_)
          refine lv_iconst (v := 0) hx hb dmX13_skein_8 (by decide) ?_
          refine lv_istore (lv' := [(7, .int 0), (6, .ref (u n1)), (0, .ref (u 0)), (1, .int x1), (2, .long w2), (4, .int x4), (5, .int x5)]) hx hb dmX13_skein_9 hl (by decide) rfl (fun ls hl => ?_)
          exact ih_1 x1 x4 x5 0 0 0 0 0 w2 n1 0 0 0 0 0 0 0 0 z H locs ls hn1 hM (lv_sub hl [2, 3, 4, 5, 6, 1, 0] rfl) hq
        · intro x1 x4 x5 x7 x8 x9 x10 x11 w2 r6 r12 t0 t1 t2 t3 y0 y1 y2 z H locs ls hr6 hM hl hq
          have hq : qm_X13_skein_1 K (qd_X13_skein K d) (q_X13_skein K (qd_X13_skein K d) k) x1 x4 x5 x7 x8 x9 x10 x11 w2 r6 r12 t0 t1 t2 t3 y0 y1 y2 z = some z1 := hq
          unfold qm_X13_skein_1 at hq
          refine lv_iload hx hb dmX13_skein_11 (lv_at hl 6 rfl) ?_
          refine lv_bipush (v := 40) hx hb dmX13_skein_13 (by decide) ?_
          refine lv_icmp_ge (tgt := 32) hx hb dmX13_skein_15 (by decide) (fun hc => ?_) (fun hc => ?_)
          · have hq := tw_it hq hc
            refine lv_iconst (v := (-1)) hx hb dmX13_skein_32 (by decide) ?_
            refine lv_istore (lv' := [(7, .int (-1)), (0, .ref (u 0)), (1, .int x1), (2, .long w2), (4, .int x4), (5, .int x5), (6, .ref (u r6))]) hx hb dmX13_skein_33 hl (by decide) rfl (fun ls hl => ?_)
            refine lv_iconst (v := 0) hx hb dmX13_skein_35 (by decide) ?_
            refine lv_istore (lv' := [(8, .int 0), (7, .int (-1)), (0, .ref (u 0)), (1, .int x1), (2, .long w2), (4, .int x4), (5, .int x5), (6, .ref (u r6))]) hx hb dmX13_skein_36 hl (by decide) rfl (fun ls hl => ?_)
            exact ih_2 x1 x4 x5 (-1) 0 0 0 0 w2 r6 0 0 0 0 0 0 0 0 z H locs ls hr6 hM (lv_sub hl [2, 3, 4, 5, 6, 7, 1, 0] rfl) hq
          · have hq := tw_if hq hc
            refine lv_aload_n hx hb dmX13_skein_18 rfl (lv_at hl 0 rfl) ?_
            refine mg13_183 hx hb hT hown hK hM dmX13_skein_19 ?_
            refine lv_iload hx hb dmX13_skein_22 (lv_at hl 6 rfl) ?_
            refine lv_iconst (v := 0) hx hb dmX13_skein_24 (by decide) ?_
            refine tw_zast mX_ok hU hx hb hK hM mr_41 hq dmX13_skein_25 (fun z2 H locs hM hq => ?_)
            refine lv_iinc (v := (x7 + 1)) (lv' := [(7, .int (x7 + 1)), (0, .ref (u 0)), (1, .int x1), (2, .long w2), (4, .int x4), (5, .int x5), (6, .ref (u r6))]) hx hb dmX13_skein_26 hl (k := 6) rfl rfl (by decide) rfl (fun ls hl => ?_)
            refine lv_goto (tgt := 11) hx hb dmX13_skein_29 (by decide) ?_
            exact ih_1 x1 x4 x5 (x7 + 1) 0 0 0 0 w2 r6 0 0 0 0 0 0 0 0 z2 H locs ls hr6 hM (lv_sub hl [1, 2, 3, 4, 5, 6, 0] rfl) hq
        · intro x1 x4 x5 x7 x8 x9 x10 x11 w2 r6 r12 t0 t1 t2 t3 y0 y1 y2 z H locs ls hr6 hM hl hq
          have hq : qm_X13_skein_2 K (qd_X13_skein K d) (q_X13_skein K (qd_X13_skein K d) k) x1 x4 x5 x7 x8 x9 x10 x11 w2 r6 r12 t0 t1 t2 t3 y0 y1 y2 z = some z1 := hq
          unfold qm_X13_skein_2 at hq
          refine lv_iload hx hb dmX13_skein_38 (lv_at hl 7 rfl) ?_
          refine lv_aload hx hb dmX13_skein_40 (lv_at hl 5 rfl) ?_
          refine mg13_44 hx hb hT hown hK hM hN hr6 hq dmX13_skein_42 (fun v3 hq => ?_)
          refine lv_icmp_ge (tgt := 108) hx hb dmX13_skein_45 (by decide) (fun hc => ?_) (fun hc => ?_)
          · have hq := tw_it hq hc
            exact ih_5 x1 x4 x5 x7 x8 0 0 0 w2 r6 0 0 0 0 0 0 0 0 z H locs ls hr6 hM (lv_sub hl [0, 1, 2, 3, 4, 5, 6, 7] rfl) hq
          · have hq := tw_if hq hc
            refine lv_iload hx hb dmX13_skein_48 (lv_at hl 6 rfl) ?_
            refine lv_iconst (v := (-1)) hx hb dmX13_skein_50 (by decide) ?_
            refine lv_icmp_ne (tgt := 108) hx hb dmX13_skein_51 (by decide) (fun hc => ?_) (fun hc => ?_)
            · have hq := tw_if hq hc
              exact ih_5 x1 x4 x5 x7 x8 0 0 0 w2 r6 0 0 0 0 0 0 0 0 z H locs ls hr6 hM (lv_sub hl [0, 1, 2, 3, 4, 5, 6, 7] rfl) hq
            · have hq := tw_it hq hc
              refine lv_aload hx hb dmX13_skein_54 (lv_at hl 5 rfl) ?_
              refine mg13_23 hx hb hT hown hK hM hN hr6 dmX13_skein_56 ?_
              refine lv_iload hx hb dmX13_skein_59 (lv_at hl 7 rfl) ?_
              refine tw_iald mX_ok hx hb hK hM (mrn_4 hr6) hq dmX13_skein_61 (fun v4 hq => ?_)
              refine lv_istore (lv' := [(9, .int v4), (0, .ref (u 0)), (1, .int x1), (2, .long w2), (4, .int x4), (5, .int x5), (6, .ref (u r6)), (7, .int x7), (8, .int x8)]) hx hb dmX13_skein_62 hl (by decide) rfl (fun ls hl => ?_)
              refine lv_aload_n hx hb dmX13_skein_64 rfl (lv_at hl 1 rfl) ?_
              refine mg13_183 hx hb hT hown hK hM dmX13_skein_65 ?_
              refine lv_iload hx hb dmX13_skein_68 (lv_at hl 0 rfl) ?_
              refine tw_zald mX_ok hx hb hK hM mr_41 hq dmX13_skein_70 (fun v5 hq => ?_)
              refine lv_if_ne (tgt := 102) hx hb dmX13_skein_71 (by decide) (fun hc => ?_) (fun hc => ?_)
              · have hq := tw_if hq hc
                exact ih_4 x1 x4 x5 x7 x8 v4 0 0 w2 r6 0 0 0 0 0 0 0 0 z H locs ls hr6 hM (lv_sub hl [1, 2, 3, 4, 5, 6, 7, 8, 0] rfl) hq
              · have hq := tw_it hq hc
                refine lv_aload_n hx hb dmX13_skein_74 rfl (lv_at hl 1 rfl) ?_
                refine mg13_183 hx hb hT hown hK hM dmX13_skein_75 ?_
                refine lv_iload hx hb dmX13_skein_78 (lv_at hl 0 rfl) ?_
                refine lv_iconst (v := 1) hx hb dmX13_skein_80 (by decide) ?_
                refine tw_zast mX_ok hU hx hb hK hM mr_41 hq dmX13_skein_81 (fun z6 H locs hM hq => ?_)
                refine lv_aload hx hb dmX13_skein_82 (lv_at hl 6 rfl) ?_
                refine mg13_32 hx hb hT hown hK hM hN hr6 dmX13_skein_84 ?_
                refine lv_iload hx hb dmX13_skein_87 (lv_at hl 8 rfl) ?_
                refine tw_iald mX_ok hx hb hK hM (mrn_5 hr6) hq dmX13_skein_89 (fun v7 hq => ?_)
                refine lv_iconst (v := 1) hx hb dmX13_skein_90 (by decide) ?_
                refine lv_icmp_ne (tgt := 99) hx hb dmX13_skein_91 (by decide) (fun hc => ?_) (fun hc => ?_)
                · have hq := tw_if hq hc
                  refine lv_iconst (v := (-1)) hx hb dmX13_skein_99 (by decide) ?_
                  exact ih_3 x1 x4 x5 x7 x8 v4 0 0 w2 r6 0 (-1) 0 0 0 0 0 0 z6 H locs ls hr6 hM (lv_sub hl [1, 2, 3, 4, 5, 6, 7, 8, 0] rfl) hq
                · have hq := tw_it hq hc
                  refine lv_iload hx hb dmX13_skein_94 (lv_at hl 8 rfl) ?_
                  refine lv_goto (tgt := 100) hx hb dmX13_skein_96 (by decide) ?_
                  exact ih_3 x1 x4 x5 x7 x8 v4 0 0 w2 r6 0 x8 0 0 0 0 0 0 z6 H locs ls hr6 hM (lv_sub hl [1, 2, 3, 4, 5, 6, 7, 8, 0] rfl) hq
        · intro x1 x4 x5 x7 x8 x9 x10 x11 w2 r6 r12 t0 t1 t2 t3 y0 y1 y2 z H locs ls hr6 hM hl hq
          have hq : qm_X13_skein_3 K (qd_X13_skein K d) (q_X13_skein K (qd_X13_skein K d) k) x1 x4 x5 x7 x8 x9 x10 x11 w2 r6 r12 t0 t1 t2 t3 y0 y1 y2 z = some z1 := hq
          unfold qm_X13_skein_3 at hq
          refine lv_istore (lv' := [(7, .int t0), (0, .ref (u 0)), (1, .int x1), (2, .long w2), (4, .int x4), (5, .int x5), (6, .ref (u r6)), (8, .int x8), (9, .int x9)]) hx hb dmX13_skein_100 hl (by decide) rfl (fun ls hl => ?_)
          exact ih_4 x1 x4 x5 t0 x8 x9 0 0 w2 r6 0 0 0 0 0 0 0 0 z H locs ls hr6 hM (lv_sub hl [1, 2, 3, 4, 5, 6, 0, 7, 8] rfl) hq
        · intro x1 x4 x5 x7 x8 x9 x10 x11 w2 r6 r12 t0 t1 t2 t3 y0 y1 y2 z H locs ls hr6 hM hl hq
          have hq : qm_X13_skein_4 K (qd_X13_skein K d) (q_X13_skein K (qd_X13_skein K d) k) x1 x4 x5 x7 x8 x9 x10 x11 w2 r6 r12 t0 t1 t2 t3 y0 y1 y2 z = some z1 := hq
          unfold qm_X13_skein_4 at hq
          refine lv_iinc (v := (x8 + 1)) (lv' := [(8, .int (x8 + 1)), (0, .ref (u 0)), (1, .int x1), (2, .long w2), (4, .int x4), (5, .int x5), (6, .ref (u r6)), (7, .int x7), (9, .int x9)]) hx hb dmX13_skein_102 hl (k := 7) rfl rfl (by decide) rfl (fun ls hl => ?_)
          refine lv_goto (tgt := 38) hx hb dmX13_skein_105 (by decide) ?_
          exact ih_2 x1 x4 x5 x7 (x8 + 1) 0 0 0 w2 r6 0 0 0 0 0 0 0 0 z H locs ls hr6 hM (lv_sub hl [1, 2, 3, 4, 5, 6, 7, 0] rfl) hq
        · intro x1 x4 x5 x7 x8 x9 x10 x11 w2 r6 r12 t0 t1 t2 t3 y0 y1 y2 z H locs ls hr6 hM hl hq
          have hq : qm_X13_skein_5 K (qd_X13_skein K d) (q_X13_skein K (qd_X13_skein K d) k) x1 x4 x5 x7 x8 x9 x10 x11 w2 r6 r12 t0 t1 t2 t3 y0 y1 y2 z = some z1 := hq
          unfold qm_X13_skein_5 at hq
          refine lv_iload hx hb dmX13_skein_108 (lv_at hl 6 rfl) ?_
          refine lv_iconst (v := (-1)) hx hb dmX13_skein_110 (by decide) ?_
          refine lv_icmp_ne (tgt := 129) hx hb dmX13_skein_111 (by decide) (fun hc => ?_) (fun hc => ?_)
          · have hq := tw_if hq hc
            refine lv_iconst (v := 0) hx hb dmX13_skein_129 (by decide) ?_
            refine lv_istore (lv' := [(8, .int 0), (0, .ref (u 0)), (1, .int x1), (2, .long w2), (4, .int x4), (5, .int x5), (6, .ref (u r6)), (7, .int x7)]) hx hb dmX13_skein_130 hl (by decide) rfl (fun ls hl => ?_)
            exact ih_6 x1 x4 x5 x7 0 0 0 0 w2 r6 0 0 0 0 0 0 0 0 z H locs ls hr6 hM (lv_sub hl [1, 2, 3, 4, 5, 6, 7, 0] rfl) hq
          · have hq := tw_it hq hc
            refine lv_aload_n hx hb dmX13_skein_114 rfl (lv_at hl 0 rfl) ?_
            refine lv_aload hx hb dmX13_skein_115 (lv_at hl 5 rfl) ?_
            refine mg13_407 hx hb hT hown hK hM hN hr6 hq dmX13_skein_117 (fun v8 hq => ?_)
            refine lv_lload_n hx hb dmX13_skein_120 rfl (lv_at hl 2 rfl) ?_
            refine lv_iload hx hb dmX13_skein_121 (lv_at hl 3 rfl) ?_
            refine lv_iload hx hb dmX13_skein_123 (lv_at hl 4 rfl) ?_
            obtain ⟨z9, hcq, hq⟩ := tw_cl0 hq
            refine tw_calv hM (va_runV (As := [.int v8, .long w2, .int x4, .int x5]) (rest := []) ⟨hx, hb, hml, hown, hts⟩ (km_X13_leaf l D q u hU K v8 w2 x4 x5 z z9 hcq) (cwV 4 hts (tw_gV wM_good wq_278 wq_279 wq_280 wq_61 wq_281) rfl rfl rfl cd_X13_leaf ⟨(show (0 + 1 : Nat) ≤ 2 + (d + 1) from by omega), (show (8 + (10 + 11) + 0 : Nat) ≤ 50 + (d + 1) * 32 from by omega)⟩) (mw_preV hK hN hM mo_0 rfl) rfl rfl hl.1 rfl (lv_room (Nat.le_of_ble_eq_true rfl)) dmX13_skein_125 ⟨(Nat.le_of_ble_eq_true rfl), (Nat.le_of_ble_eq_true rfl)⟩) (fun H locs hM => ?_)
            exact mw_vret hx hb hr hlocks hM hq hQQ dmX13_skein_128
        · intro x1 x4 x5 x7 x8 x9 x10 x11 w2 r6 r12 t0 t1 t2 t3 y0 y1 y2 z H locs ls hr6 hM hl hq
          have hq : qm_X13_skein_6 K (qd_X13_skein K d) (q_X13_skein K (qd_X13_skein K d) k) x1 x4 x5 x7 x8 x9 x10 x11 w2 r6 r12 t0 t1 t2 t3 y0 y1 y2 z = some z1 := hq
          unfold qm_X13_skein_6 at hq
          refine lv_aload hx hb dmX13_skein_132 (lv_at hl 5 rfl) ?_
          refine mg13_452 hx hb hT hown hK hM hN hr6 dmX13_skein_134 ?_
          refine lv_iload hx hb dmX13_skein_137 (lv_at hl 7 rfl) ?_
          refine lv_iconst (v := 1) hx hb dmX13_skein_139 (by decide) ?_
          refine lv_iadd hx hb dmX13_skein_140 ?_
          refine tw_iald mX_ok hx hb hK hM (mrn_3 hr6) hq dmX13_skein_141 (fun v10 hq => ?_)
          refine lv_iload hx hb dmX13_skein_142 (lv_at hl 6 rfl) ?_
          refine lv_icmp_gt (tgt := 153) hx hb dmX13_skein_144 (by decide) (fun hc => ?_) (fun hc => ?_)
          · have hq := tw_it hq hc
            refine lv_aload hx hb dmX13_skein_153 (lv_at hl 5 rfl) ?_
            refine mg13_23 hx hb hT hown hK hM hN hr6 dmX13_skein_155 ?_
            refine lv_iload hx hb dmX13_skein_158 (lv_at hl 6 rfl) ?_
            refine tw_iald mX_ok hx hb hK hM (mrn_4 hr6) hq dmX13_skein_160 (fun v11 hq => ?_)
            refine lv_istore (lv' := [(9, .int v11), (0, .ref (u 0)), (1, .int x1), (2, .long w2), (4, .int x4), (5, .int x5), (6, .ref (u r6)), (7, .int x7), (8, .int x8)]) hx hb dmX13_skein_161 hl (by decide) rfl (fun ls hl => ?_)
            refine lv_iload hx hb dmX13_skein_163 (lv_at hl 7 rfl) ?_
            refine lv_iconst (v := 1) hx hb dmX13_skein_165 (by decide) ?_
            refine lv_iadd hx hb dmX13_skein_166 ?_
            refine lv_istore (lv' := [(10, .int (x7 + 1)), (9, .int v11), (0, .ref (u 0)), (1, .int x1), (2, .long w2), (4, .int x4), (5, .int x5), (6, .ref (u r6)), (7, .int x7), (8, .int x8)]) hx hb dmX13_skein_167 hl (by decide) rfl (fun ls hl => ?_)
            exact ih_7 x1 x4 x5 x7 x8 v11 (x7 + 1) 0 w2 r6 0 0 0 0 0 0 0 0 z H locs ls hr6 hM (lv_sub hl [2, 3, 4, 5, 6, 7, 8, 9, 1, 0] rfl) hq
          · have hq := tw_if hq hc
            refine lv_iinc (v := (x8 + 1)) (lv' := [(8, .int (x8 + 1)), (0, .ref (u 0)), (1, .int x1), (2, .long w2), (4, .int x4), (5, .int x5), (6, .ref (u r6)), (7, .int x7)]) hx hb dmX13_skein_147 hl (k := 7) rfl rfl (by decide) rfl (fun ls hl => ?_)
            refine lv_goto (tgt := 132) hx hb dmX13_skein_150 (by decide) ?_
            exact ih_6 x1 x4 x5 x7 (x8 + 1) 0 0 0 w2 r6 0 0 0 0 0 0 0 0 z H locs ls hr6 hM (lv_sub hl [1, 2, 3, 4, 5, 6, 7, 0] rfl) hq
        · intro x1 x4 x5 x7 x8 x9 x10 x11 w2 r6 r12 t0 t1 t2 t3 y0 y1 y2 z H locs ls hr6 hM hl hq
          have hq : qm_X13_skein_7 K (qd_X13_skein K d) (q_X13_skein K (qd_X13_skein K d) k) x1 x4 x5 x7 x8 x9 x10 x11 w2 r6 r12 t0 t1 t2 t3 y0 y1 y2 z = some z1 := hq
          unfold qm_X13_skein_7 at hq
          refine lv_aload hx hb dmX13_skein_169 (lv_at hl 5 rfl) ?_
          refine mg13_23 hx hb hT hown hK hM hN hr6 dmX13_skein_171 ?_
          refine lv_iload hx hb dmX13_skein_174 (lv_at hl 9 rfl) ?_
          refine tw_iald mX_ok hx hb hK hM (mrn_4 hr6) hq dmX13_skein_176 (fun v12 hq => ?_)
          refine lv_iload hx hb dmX13_skein_177 (lv_at hl 8 rfl) ?_
          refine lv_icmp_eq (tgt := 188) hx hb dmX13_skein_179 (by decide) (fun hc => ?_) (fun hc => ?_)
          · have hq := tw_it hq hc
            refine lv_aload hx hb dmX13_skein_188 (lv_at hl 5 rfl) ?_
            refine mg13_35 hx hb hT hown hK hM hN hr6 dmX13_skein_190 ?_
            refine lv_iload hx hb dmX13_skein_193 (lv_at hl 8 rfl) ?_
            refine tw_iald mX_ok hx hb hK hM (mrn_6 hr6) hq dmX13_skein_195 (fun v13 hq => ?_)
            refine lv_if_le (tgt := 203) hx hb dmX13_skein_196 (by decide) (fun hc => ?_) (fun hc => ?_)
            · have hq := tw_it hq hc
              refine lv_iconst (v := 0) hx hb dmX13_skein_203 (by decide) ?_
              exact ih_8 x1 x4 x5 x7 x8 x9 x10 0 w2 r6 0 0 0 0 0 0 0 0 z H locs ls hr6 hM (lv_sub hl [0, 1, 2, 3, 4, 5, 6, 7, 8, 9] rfl) hq
            · have hq := tw_if hq hc
              refine lv_iconst (v := 1) hx hb dmX13_skein_199 (by decide) ?_
              refine lv_goto (tgt := 204) hx hb dmX13_skein_200 (by decide) ?_
              exact ih_8 x1 x4 x5 x7 x8 x9 x10 0 w2 r6 0 1 0 0 0 0 0 0 z H locs ls hr6 hM (lv_sub hl [0, 1, 2, 3, 4, 5, 6, 7, 8, 9] rfl) hq
          · have hq := tw_if hq hc
            refine lv_iinc (v := (x10 + 1)) (lv' := [(10, .int (x10 + 1)), (0, .ref (u 0)), (1, .int x1), (2, .long w2), (4, .int x4), (5, .int x5), (6, .ref (u r6)), (7, .int x7), (8, .int x8), (9, .int x9)]) hx hb dmX13_skein_182 hl (k := 9) rfl rfl (by decide) rfl (fun ls hl => ?_)
            refine lv_goto (tgt := 169) hx hb dmX13_skein_185 (by decide) ?_
            exact ih_7 x1 x4 x5 x7 x8 x9 (x10 + 1) 0 w2 r6 0 0 0 0 0 0 0 0 z H locs ls hr6 hM (lv_sub hl [1, 2, 3, 4, 5, 6, 7, 8, 9, 0] rfl) hq
        · intro x1 x4 x5 x7 x8 x9 x10 x11 w2 r6 r12 t0 t1 t2 t3 y0 y1 y2 z H locs ls hr6 hM hl hq
          have hq : qm_X13_skein_8 K (qd_X13_skein K d) (q_X13_skein K (qd_X13_skein K d) k) x1 x4 x5 x7 x8 x9 x10 x11 w2 r6 r12 t0 t1 t2 t3 y0 y1 y2 z = some z1 := hq
          unfold qm_X13_skein_8 at hq
          refine lv_istore (lv' := [(11, .int t0), (0, .ref (u 0)), (1, .int x1), (2, .long w2), (4, .int x4), (5, .int x5), (6, .ref (u r6)), (7, .int x7), (8, .int x8), (9, .int x9), (10, .int x10)]) hx hb dmX13_skein_204 hl (by decide) rfl (fun ls hl => ?_)
          refine lv_aload_n hx hb dmX13_skein_206 rfl (lv_at hl 1 rfl) ?_
          refine mg13_179 hx hb hT hown hK hM dmX13_skein_207 ?_
          refine lv_iload_n hx hb dmX13_skein_210 rfl (lv_at hl 2 rfl) ?_
          refine lv_iconst (v := 1) hx hb dmX13_skein_211 (by decide) ?_
          refine lv_iadd hx hb dmX13_skein_212 ?_
          refine mw_aald hx hb hK hM hq dmX13_skein_213 (fun n14 hn14 hq => ?_)
          refine lv_astore (lv' := [(12, .ref (u n14)), (11, .int t0), (0, .ref (u 0)), (1, .int x1), (2, .long w2), (4, .int x4), (5, .int x5), (6, .ref (u r6)), (7, .int x7), (8, .int x8), (9, .int x9), (10, .int x10)]) hx hb dmX13_skein_214 hl (by decide) rfl (fun ls hl => ?_)
          refine lv_aload hx hb dmX13_skein_216 (lv_at hl 7 rfl) ?_
          refine lv_iload hx hb dmX13_skein_218 (lv_at hl 9 rfl) ?_
          refine lv_iload hx hb dmX13_skein_220 (lv_at hl 8 rfl) ?_
          refine lv_iload hx hb dmX13_skein_222 (lv_at hl 11 rfl) ?_
          refine lv_aload hx hb dmX13_skein_224 (lv_at hl 0 rfl) ?_
          obtain ⟨z15, hcq, hq⟩ := tw_cl0 hq
          refine tw_calv hM (va_runS (As := [.ref (u r6), .int x8, .int x7, .int x10, .ref (u n14)]) (rest := []) ⟨hx, hb, hml, hown, hts⟩ (km_X13_smoothIn l D q u hU K r6 x8 x7 x10 n14 hr6 hn14 z z15 hcq) (va_cwS 5 hts (tw_gS wM_good wq_160 wq_161 wq_61 wq_159) rfl rfl rfl cd_X13_smoothIn ⟨(show (1 + 1 : Nat) ≤ 2 + (d + 1) from by omega), (show (8 + (9 + 11) + 22 : Nat) ≤ 50 + (d + 1) * 32 from by omega)⟩) (mw_preS hK hN hM) rfl rfl hl.1 rfl (lv_room (Nat.le_of_ble_eq_true rfl)) dmX13_skein_226 ⟨(Nat.le_of_ble_eq_true rfl), (Nat.le_of_ble_eq_true rfl)⟩) (fun H locs hM => ?_)
          refine lv_aload_n hx hb dmX13_skein_229 rfl (lv_at hl 2 rfl) ?_
          refine lv_iload_n hx hb dmX13_skein_230 rfl (lv_at hl 3 rfl) ?_
          refine lv_iconst (v := 1) hx hb dmX13_skein_231 (by decide) ?_
          refine lv_iadd hx hb dmX13_skein_232 ?_
          refine lv_iload hx hb dmX13_skein_233 (lv_at hl 1 rfl) ?_
          refine lv_if_eq (tgt := 242) hx hb dmX13_skein_235 (by decide) (fun hc => ?_) (fun hc => ?_)
          · have hq := tw_it hq hc
            refine lv_lconst (v := 0) hx hb dmX13_skein_242 rfl ?_
            refine lv_lload_n hx hb dmX13_skein_243 rfl (lv_at hl 4 rfl) ?_
            refine lv_lsub hx hb dmX13_skein_244 ?_
            exact ih_9 x1 x4 x5 x7 x8 x9 x10 t0 w2 r6 n14 0 (x1 + 1) 0 0 (0 - w2) 0 0 z15 H locs ls hr6 hn14 hM (lv_sub hl [2, 3, 4, 5, 6, 7, 8, 9, 10, 11, 1, 0] rfl) hq
          · have hq := tw_if hq hc
            refine lv_lload_n hx hb dmX13_skein_238 rfl (lv_at hl 4 rfl) ?_
            refine lv_goto (tgt := 245) hx hb dmX13_skein_239 (by decide) ?_
            exact ih_9 x1 x4 x5 x7 x8 x9 x10 t0 w2 r6 n14 0 (x1 + 1) 0 0 w2 0 0 z15 H locs ls hr6 hn14 hM (lv_sub hl [2, 3, 4, 5, 6, 7, 8, 9, 10, 11, 1, 0] rfl) hq
        · intro x1 x4 x5 x7 x8 x9 x10 x11 w2 r6 r12 t0 t1 t2 t3 y0 y1 y2 z H locs ls hr6 hr12 hM hl hq
          have hq : qm_X13_skein_9 K (qd_X13_skein K d) (q_X13_skein K (qd_X13_skein K d) k) x1 x4 x5 x7 x8 x9 x10 x11 w2 r6 r12 t0 t1 t2 t3 y0 y1 y2 z = some z1 := hq
          unfold qm_X13_skein_9 at hq
          refine lv_aload_n hx hb dmX13_skein_245 rfl (lv_at hl 0 rfl) ?_
          refine mg13_572 hx hb hT hown hK hM hq dmX13_skein_246 (fun v16 hq => ?_)
          refine lv_if_eq (tgt := 268) hx hb dmX13_skein_249 (by decide) (fun hc => ?_) (fun hc => ?_)
          · have hq := tw_it hq hc
            refine lv_iconst (v := 0) hx hb dmX13_skein_268 (by decide) ?_
            exact ih_11 x1 x4 x5 x7 x8 x9 x10 x11 w2 r6 r12 0 0 t1 0 0 y0 0 z H locs ls hr6 hr12 hM (lv_sub hl [0, 1, 2, 3, 4, 5, 6, 7, 8, 9, 10, 11] rfl) hq
          · have hq := tw_if hq hc
            refine lv_iload hx hb dmX13_skein_252 (lv_at hl 3 rfl) ?_
            refine lv_iload hx hb dmX13_skein_254 (lv_at hl 10 rfl) ?_
            refine lv_if_eq (tgt := 263) hx hb dmX13_skein_256 (by decide) (fun hc => ?_) (fun hc => ?_)
            · have hq := tw_it hq hc
              refine lv_iconst (v := (-1)) hx hb dmX13_skein_263 (by decide) ?_
              exact ih_10 x1 x4 x5 x7 x8 x9 x10 x11 w2 r6 r12 (-1) x4 0 t1 0 0 y0 z H locs ls hr6 hr12 hM (lv_sub hl [0, 1, 2, 3, 4, 5, 6, 7, 8, 9, 10, 11] rfl) hq
            · have hq := tw_if hq hc
              refine lv_iconst (v := 1) hx hb dmX13_skein_259 (by decide) ?_
              refine lv_goto (tgt := 264) hx hb dmX13_skein_260 (by decide) ?_
              exact ih_10 x1 x4 x5 x7 x8 x9 x10 x11 w2 r6 r12 1 x4 0 t1 0 0 y0 z H locs ls hr6 hr12 hM (lv_sub hl [0, 1, 2, 3, 4, 5, 6, 7, 8, 9, 10, 11] rfl) hq
        · intro x1 x4 x5 x7 x8 x9 x10 x11 w2 r6 r12 t0 t1 t2 t3 y0 y1 y2 z H locs ls hr6 hr12 hM hl hq
          have hq : qm_X13_skein_10 K (qd_X13_skein K d) (q_X13_skein K (qd_X13_skein K d) k) x1 x4 x5 x7 x8 x9 x10 x11 w2 r6 r12 t0 t1 t2 t3 y0 y1 y2 z = some z1 := hq
          unfold qm_X13_skein_10 at hq
          refine lv_iadd hx hb dmX13_skein_264 ?_
          refine lv_goto (tgt := 269) hx hb dmX13_skein_265 (by decide) ?_
          exact ih_11 x1 x4 x5 x7 x8 x9 x10 x11 w2 r6 r12 (t1 + t0) 0 t3 0 0 y2 0 z H locs ls hr6 hr12 hM (lv_sub hl [0, 1, 2, 3, 4, 5, 6, 7, 8, 9, 10, 11] rfl) hq
        · intro x1 x4 x5 x7 x8 x9 x10 x11 w2 r6 r12 t0 t1 t2 t3 y0 y1 y2 z H locs ls hr6 hr12 hM hl hq
          have hq : qm_X13_skein_11 K (qd_X13_skein K d) (q_X13_skein K (qd_X13_skein K d) k) x1 x4 x5 x7 x8 x9 x10 x11 w2 r6 r12 t0 t1 t2 t3 y0 y1 y2 z = some z1 := hq
          unfold qm_X13_skein_11 at hq
          refine lv_iload hx hb dmX13_skein_269 (lv_at hl 4 rfl) ?_
          refine lv_iconst (v := 1) hx hb dmX13_skein_271 (by decide) ?_
          refine lv_iadd hx hb dmX13_skein_272 ?_
          obtain ⟨z17, hcq, hq⟩ := tw_cl0 hq
          refine tw_calv hM (va_runV (As := [.int t2, .long y1, .int t0, .int (x5 + 1)]) (rest := []) ⟨hx, hb, hml, hown, hts⟩ (ihd t2 y1 t0 (x5 + 1) z z17 hcq) (cwV 4 hts (tw_gV wM_good wq_284 wq_285 wq_286 wq_61 wq_287) rfl rfl rfl cd_X13_skein ⟨(show (2 + d + 1 : Nat) ≤ 2 + (d + 1) from by omega), (show (8 + (13 + 11) + (50 + d * 32) : Nat) ≤ 50 + (d + 1) * 32 from by omega)⟩) (mw_preV hK hN hM mo_0 rfl) rfl rfl hl.1 rfl (lv_room (Nat.le_of_ble_eq_true rfl)) dmX13_skein_273 ⟨(Nat.le_of_ble_eq_true rfl), (Nat.le_of_ble_eq_true rfl)⟩) (fun H locs hM => ?_)
          refine lv_aload hx hb dmX13_skein_276 (lv_at hl 11 rfl) ?_
          refine lv_aload hx hb dmX13_skein_278 (lv_at hl 5 rfl) ?_
          obtain ⟨z18, hcq, hq⟩ := tw_cl0 hq
          refine tw_calv hM (va_runV (As := [.ref (u r6)]) (rest := []) ⟨hx, hb, hml, hown, hts⟩ (km_X12_copy l D q u hU K r12 r6 hr12 hr6 z17 z18 hcq) (cwV 1 hts (tw_gV wM_good wq_226 wq_227 wq_228 wq_13 wq_23) rfl rfl rfl cd_X12_copy ⟨(show (1 + 1 : Nat) ≤ 2 + (d + 1) from by omega), (show (8 + (4 + 11) + 22 : Nat) ≤ 50 + (d + 1) * 32 from by omega)⟩) (mw_preV hK hN hM (mo_n hr12) rfl) rfl rfl hl.1 rfl (lv_room (Nat.le_of_ble_eq_true rfl)) dmX13_skein_280 ⟨(Nat.le_of_ble_eq_true rfl), (Nat.le_of_ble_eq_true rfl)⟩) (fun H locs hM => ?_)
          refine lv_aload hx hb dmX13_skein_283 (lv_at hl 11 rfl) ?_
          refine lv_iload hx hb dmX13_skein_285 (lv_at hl 8 rfl) ?_
          obtain ⟨z19, hcq, hq⟩ := tw_cl0 hq
          refine tw_calv hM (va_runS (As := [.ref (u r12), .int x9]) (rest := []) ⟨hx, hb, hml, hown, hts⟩ (km_X13_changeIn l D q u hU K r12 x9 hr12 z18 z19 hcq) (va_cwS 2 hts (tw_gS wM_good wq_156 wq_157 wq_61 wq_155) rfl rfl rfl cd_X13_changeIn ⟨(show (0 + 1 : Nat) ≤ 2 + (d + 1) from by omega), (show (8 + (3 + 11) + 0 : Nat) ≤ 50 + (d + 1) * 32 from by omega)⟩) (mw_preS hK hN hM) rfl rfl hl.1 rfl (lv_room (Nat.le_of_ble_eq_true rfl)) dmX13_skein_287 ⟨(Nat.le_of_ble_eq_true rfl), (Nat.le_of_ble_eq_true rfl)⟩) (fun H locs hM => ?_)
          refine lv_aload_n hx hb dmX13_skein_290 rfl (lv_at hl 0 rfl) ?_
          refine lv_iload_n hx hb dmX13_skein_291 rfl (lv_at hl 1 rfl) ?_
          refine lv_iconst (v := 1) hx hb dmX13_skein_292 (by decide) ?_
          refine lv_iadd hx hb dmX13_skein_293 ?_
          refine lv_lload_n hx hb dmX13_skein_294 rfl (lv_at hl 2 rfl) ?_
          refine lv_aload_n hx hb dmX13_skein_295 rfl (lv_at hl 0 rfl) ?_
          refine mg13_572 hx hb hT hown hK hM hq dmX13_skein_296 (fun v20 hq => ?_)
          refine lv_if_eq (tgt := 319) hx hb dmX13_skein_299 (by decide) (fun hc => ?_) (fun hc => ?_)
          · have hq := tw_it hq hc
            refine lv_iconst (v := 0) hx hb dmX13_skein_319 (by decide) ?_
            exact ih_13 x1 x4 x5 x7 x8 x9 x10 x11 w2 r6 r12 0 0 (x1 + 1) 0 0 w2 0 z19 H locs ls hr6 hr12 hM (lv_sub hl [0, 1, 2, 3, 4, 5, 6, 7, 8, 9, 10, 11] rfl) hq
          · have hq := tw_if hq hc
            refine lv_iload hx hb dmX13_skein_302 (lv_at hl 3 rfl) ?_
            refine lv_iload hx hb dmX13_skein_304 (lv_at hl 10 rfl) ?_
            refine lv_if_eq (tgt := 313) hx hb dmX13_skein_306 (by decide) (fun hc => ?_) (fun hc => ?_)
            · have hq := tw_it hq hc
              refine lv_bipush (v := (-2)) hx hb dmX13_skein_313 (by decide) ?_
              exact ih_12 x1 x4 x5 x7 x8 x9 x10 x11 w2 r6 r12 (-2) x4 0 (x1 + 1) 0 0 w2 z19 H locs ls hr6 hr12 hM (lv_sub hl [0, 1, 2, 3, 4, 5, 6, 7, 8, 9, 10, 11] rfl) hq
            · have hq := tw_if hq hc
              refine lv_iconst (v := 2) hx hb dmX13_skein_309 (by decide) ?_
              refine lv_goto (tgt := 315) hx hb dmX13_skein_310 (by decide) ?_
              exact ih_12 x1 x4 x5 x7 x8 x9 x10 x11 w2 r6 r12 2 x4 0 (x1 + 1) 0 0 w2 z19 H locs ls hr6 hr12 hM (lv_sub hl [0, 1, 2, 3, 4, 5, 6, 7, 8, 9, 10, 11] rfl) hq
        · intro x1 x4 x5 x7 x8 x9 x10 x11 w2 r6 r12 t0 t1 t2 t3 y0 y1 y2 z H locs ls hr6 hr12 hM hl hq
          have hq : qm_X13_skein_12 K (qd_X13_skein K d) (q_X13_skein K (qd_X13_skein K d) k) x1 x4 x5 x7 x8 x9 x10 x11 w2 r6 r12 t0 t1 t2 t3 y0 y1 y2 z = some z1 := hq
          unfold qm_X13_skein_12 at hq
          refine lv_iadd hx hb dmX13_skein_315 ?_
          refine lv_goto (tgt := 320) hx hb dmX13_skein_316 (by decide) ?_
          exact ih_13 x1 x4 x5 x7 x8 x9 x10 x11 w2 r6 r12 (t1 + t0) 0 t3 0 0 y2 0 z H locs ls hr6 hr12 hM (lv_sub hl [0, 1, 2, 3, 4, 5, 6, 7, 8, 9, 10, 11] rfl) hq
        · intro x1 x4 x5 x7 x8 x9 x10 x11 w2 r6 r12 t0 t1 t2 t3 y0 y1 y2 z H locs ls hr6 hr12 hM hl hq
          have hq : qm_X13_skein_13 K (qd_X13_skein K d) (q_X13_skein K (qd_X13_skein K d) k) x1 x4 x5 x7 x8 x9 x10 x11 w2 r6 r12 t0 t1 t2 t3 y0 y1 y2 z = some z1 := hq
          unfold qm_X13_skein_13 at hq
          refine lv_iload hx hb dmX13_skein_320 (lv_at hl 4 rfl) ?_
          obtain ⟨z21, hcq, hq⟩ := tw_cl0 hq
          refine tw_calv hM (va_runV (As := [.int t2, .long y1, .int t0, .int x5]) (rest := []) ⟨hx, hb, hml, hown, hts⟩ (ihd t2 y1 t0 x5 z z21 hcq) (cwV 4 hts (tw_gV wM_good wq_284 wq_285 wq_286 wq_61 wq_287) rfl rfl rfl cd_X13_skein ⟨(show (2 + d + 1 : Nat) ≤ 2 + (d + 1) from by omega), (show (8 + (13 + 11) + (50 + d * 32) : Nat) ≤ 50 + (d + 1) * 32 from by omega)⟩) (mw_preV hK hN hM mo_0 rfl) rfl rfl hl.1 rfl (lv_room (Nat.le_of_ble_eq_true rfl)) dmX13_skein_322 ⟨(Nat.le_of_ble_eq_true rfl), (Nat.le_of_ble_eq_true rfl)⟩) (fun H locs hM => ?_)
          exact mw_vret hx hb hr hlocks hM hq hQQ dmX13_skein_325
    exact (key K).1 x1 x4 x5 0 0 0 0 0 w2 0 0 0 0 0 0 0 0 0 z s.heap [] ls  hM (lv_sub hl [0, 1, 2, 3, 4] rfl) hq
theorem km_X13_skein (l : Launch) (D : va_G) (q : ow_Q5) (u : Nat → Nat) (hU : tw_inj mX u) (K : Nat) (x1 : Int32) (w2 : Int64) (x4 : Int32) (x5 : Int32)  (z z1 : ow_MS) (hq : qe_X13_skein K x1 w2 x4 x5 z = some z1) : Met l yX13_skein wm_X13_skein ({ frames := 18, cells := 0, slots := 0, locals := 562 } : Room) (va_Pc [.ref (u 0), .int x1, .long w2, .int x4, .int x5] (mw_pre D q u z)) (va_Qv (fun (_ : Unit) => True) (fun _ t => va_P D vwCl (tw mX q u z1) t.heap) (tw_A mX u)) 0 0 (tw_A mX u) := kd_X13_skein l D q u hU K 16 x1 w2 x4 x5 z z1 hq
theorem dmX13_conway_0 : decode cX13_conway 0 = .ok (.aload_n 0, 1) := dw_at cX13_conway_k0 (p := 0) rfl (by decide +kernel)
theorem dmX13_conway_1 : decode cX13_conway 1 = .ok (.iconst 0, 1) := dw_at cX13_conway_k0 (p := 1) rfl (by decide +kernel)
theorem dmX13_conway_2 : decode cX13_conway 2 = .ok (.putfield 1, 3) := dw_at cX13_conway_k0 (p := 2) rfl (by decide +kernel)
theorem dmX13_conway_5 : decode cX13_conway 5 = .ok (.aload_n 0, 1) := dw_at cX13_conway_k0 (p := 5) rfl (by decide +kernel)
theorem dmX13_conway_6 : decode cX13_conway 6 = .ok (.iload_n 1, 1) := dw_at cX13_conway_k0 (p := 6) rfl (by decide +kernel)
theorem dmX13_conway_7 : decode cX13_conway 7 = .ok (.invokevirtual 423, 3) := dw_at cX13_conway_k0 (p := 7) rfl (by decide +kernel)
theorem dmX13_conway_10 : decode cX13_conway 10 = .ok (.ifCond .ne 9, 3) := dw_at cX13_conway_k0 (p := 10) rfl (by decide +kernel)
theorem dmX13_conway_13 : decode cX13_conway 13 = .ok (.aload_n 0, 1) := dw_at cX13_conway_k0 (p := 13) rfl (by decide +kernel)
theorem dmX13_conway_14 : decode cX13_conway 14 = .ok (.iconst 1, 1) := dw_at cX13_conway_k0 (p := 14) rfl (by decide +kernel)
theorem dmX13_conway_15 : decode cX13_conway 15 = .ok (.invokevirtual 403, 3) := dw_at cX13_conway_k0 (p := 15) rfl (by decide +kernel)
theorem dmX13_conway_18 : decode cX13_conway 18 = .ok (.ireturn, 1) := dw_at cX13_conway_k0 (p := 18) rfl (by decide +kernel)
theorem dmX13_conway_19 : decode cX13_conway 19 = .ok (.aload_n 0, 1) := dw_at cX13_conway_k0 (p := 19) rfl (by decide +kernel)
theorem dmX13_conway_20 : decode cX13_conway 20 = .ok (.getfield 110, 3) := dw_at cX13_conway_k0 (p := 20) rfl (by decide +kernel)
theorem dmX13_conway_23 : decode cX13_conway 23 = .ok (.bipush 32, 2) := dw_at cX13_conway_k0 (p := 23) rfl (by decide +kernel)
theorem dmX13_conway_25 : decode cX13_conway 25 = .ok (.iload_n 1, 1) := dw_at cX13_conway_k1 (p := 0) rfl (by decide +kernel)
theorem dmX13_conway_26 : decode cX13_conway 26 = .ok (.imul, 1) := dw_at cX13_conway_k1 (p := 1) rfl (by decide +kernel)
theorem dmX13_conway_27 : decode cX13_conway 27 = .ok (.aload_n 0, 1) := dw_at cX13_conway_k1 (p := 2) rfl (by decide +kernel)
theorem dmX13_conway_28 : decode cX13_conway 28 = .ok (.getfield 190, 3) := dw_at cX13_conway_k1 (p := 3) rfl (by decide +kernel)
theorem dmX13_conway_31 : decode cX13_conway 31 = .ok (.iconst 0, 1) := dw_at cX13_conway_k1 (p := 6) rfl (by decide +kernel)
theorem dmX13_conway_32 : decode cX13_conway 32 = .ok (.invokestatic 445, 3) := dw_at cX13_conway_k1 (p := 7) rfl (by decide +kernel)
theorem dmX13_conway_35 : decode cX13_conway 35 = .ok (.ifCond .ne 79, 3) := dw_at cX13_conway_k1 (p := 10) rfl (by decide +kernel)
theorem dmX13_conway_38 : decode cX13_conway 38 = .ok (.iconst 0, 1) := dw_at cX13_conway_k1 (p := 13) rfl (by decide +kernel)
theorem dmX13_conway_39 : decode cX13_conway 39 = .ok (.istore_n 3, 1) := dw_at cX13_conway_k1 (p := 14) rfl (by decide +kernel)
theorem dmX13_conway_40 : decode cX13_conway 40 = .ok (.iload_n 3, 1) := dw_at cX13_conway_k1 (p := 15) rfl (by decide +kernel)
theorem dmX13_conway_41 : decode cX13_conway 41 = .ok (.bipush 40, 2) := dw_at cX13_conway_k1 (p := 16) rfl (by decide +kernel)
theorem dmX13_conway_43 : decode cX13_conway 43 = .ok (.if_icmp .ge 16, 3) := dw_at cX13_conway_k1 (p := 18) rfl (by decide +kernel)
theorem dmX13_conway_46 : decode cX13_conway 46 = .ok (.aload_n 0, 1) := dw_at cX13_conway_k1 (p := 21) rfl (by decide +kernel)
theorem dmX13_conway_47 : decode cX13_conway 47 = .ok (.getfield 186, 3) := dw_at cX13_conway_k1 (p := 22) rfl (by decide +kernel)
theorem dmX13_conway_50 : decode cX13_conway 50 = .ok (.iload_n 3, 1) := dw_at cX13_conway_k2 (p := 0) rfl (by decide +kernel)
theorem dmX13_conway_51 : decode cX13_conway 51 = .ok (.lconst 0, 1) := dw_at cX13_conway_k2 (p := 1) rfl (by decide +kernel)
theorem dmX13_conway_52 : decode cX13_conway 52 = .ok (.lastore, 1) := dw_at cX13_conway_k2 (p := 2) rfl (by decide +kernel)
theorem dmX13_conway_53 : decode cX13_conway 53 = .ok (.iinc 3 1, 3) := dw_at cX13_conway_k2 (p := 3) rfl (by decide +kernel)
theorem dmX13_conway_56 : decode cX13_conway 56 = .ok (.goto (-16), 3) := dw_at cX13_conway_k2 (p := 6) rfl (by decide +kernel)
theorem dmX13_conway_59 : decode cX13_conway 59 = .ok (.aload_n 0, 1) := dw_at cX13_conway_k2 (p := 9) rfl (by decide +kernel)
theorem dmX13_conway_60 : decode cX13_conway 60 = .ok (.iload_n 1, 1) := dw_at cX13_conway_k2 (p := 10) rfl (by decide +kernel)
theorem dmX13_conway_61 : decode cX13_conway 61 = .ok (.aload_n 0, 1) := dw_at cX13_conway_k2 (p := 11) rfl (by decide +kernel)
theorem dmX13_conway_62 : decode cX13_conway 62 = .ok (.getfield 179, 3) := dw_at cX13_conway_k2 (p := 12) rfl (by decide +kernel)
theorem dmX13_conway_65 : decode cX13_conway 65 = .ok (.iconst 0, 1) := dw_at cX13_conway_k2 (p := 15) rfl (by decide +kernel)
theorem dmX13_conway_66 : decode cX13_conway 66 = .ok (.aaload, 1) := dw_at cX13_conway_k2 (p := 16) rfl (by decide +kernel)
theorem dmX13_conway_67 : decode cX13_conway 67 = .ok (.invokevirtual 434, 3) := dw_at cX13_conway_k2 (p := 17) rfl (by decide +kernel)
theorem dmX13_conway_70 : decode cX13_conway 70 = .ok (.aload_n 0, 1) := dw_at cX13_conway_k2 (p := 20) rfl (by decide +kernel)
theorem dmX13_conway_71 : decode cX13_conway 71 = .ok (.iconst 0, 1) := dw_at cX13_conway_k2 (p := 21) rfl (by decide +kernel)
theorem dmX13_conway_72 : decode cX13_conway 72 = .ok (.putfield 572, 3) := dw_at cX13_conway_k2 (p := 22) rfl (by decide +kernel)
theorem dmX13_conway_75 : decode cX13_conway 75 = .ok (.aload_n 0, 1) := dw_at cX13_conway_k3 (p := 0) rfl (by decide +kernel)
theorem dmX13_conway_76 : decode cX13_conway 76 = .ok (.iconst 0, 1) := dw_at cX13_conway_k3 (p := 1) rfl (by decide +kernel)
theorem dmX13_conway_77 : decode cX13_conway 77 = .ok (.lconst 1, 1) := dw_at cX13_conway_k3 (p := 2) rfl (by decide +kernel)
theorem dmX13_conway_78 : decode cX13_conway 78 = .ok (.iconst 0, 1) := dw_at cX13_conway_k3 (p := 3) rfl (by decide +kernel)
theorem dmX13_conway_79 : decode cX13_conway 79 = .ok (.iconst 0, 1) := dw_at cX13_conway_k3 (p := 4) rfl (by decide +kernel)
theorem dmX13_conway_80 : decode cX13_conway 80 = .ok (.invokevirtual 575, 3) := dw_at cX13_conway_k3 (p := 5) rfl (by decide +kernel)
theorem dmX13_conway_83 : decode cX13_conway 83 = .ok (.iconst 0, 1) := dw_at cX13_conway_k3 (p := 8) rfl (by decide +kernel)
theorem dmX13_conway_84 : decode cX13_conway 84 = .ok (.istore_n 3, 1) := dw_at cX13_conway_k3 (p := 9) rfl (by decide +kernel)
theorem dmX13_conway_85 : decode cX13_conway 85 = .ok (.iload_n 3, 1) := dw_at cX13_conway_k3 (p := 10) rfl (by decide +kernel)
theorem dmX13_conway_86 : decode cX13_conway 86 = .ok (.bipush 32, 2) := dw_at cX13_conway_k3 (p := 11) rfl (by decide +kernel)
theorem dmX13_conway_88 : decode cX13_conway 88 = .ok (.if_icmp .ge 26, 3) := dw_at cX13_conway_k3 (p := 13) rfl (by decide +kernel)
theorem dmX13_conway_91 : decode cX13_conway 91 = .ok (.aload_n 0, 1) := dw_at cX13_conway_k3 (p := 16) rfl (by decide +kernel)
theorem dmX13_conway_92 : decode cX13_conway 92 = .ok (.getfield 190, 3) := dw_at cX13_conway_k3 (p := 17) rfl (by decide +kernel)
theorem dmX13_conway_95 : decode cX13_conway 95 = .ok (.iload_n 3, 1) := dw_at cX13_conway_k3 (p := 20) rfl (by decide +kernel)
theorem dmX13_conway_96 : decode cX13_conway 96 = .ok (.aload_n 0, 1) := dw_at cX13_conway_k3 (p := 21) rfl (by decide +kernel)
theorem dmX13_conway_97 : decode cX13_conway 97 = .ok (.getfield 110, 3) := dw_at cX13_conway_k3 (p := 22) rfl (by decide +kernel)
theorem dmX13_conway_100 : decode cX13_conway 100 = .ok (.bipush 32, 2) := dw_at cX13_conway_k4 (p := 0) rfl (by decide +kernel)
theorem dmX13_conway_102 : decode cX13_conway 102 = .ok (.iload_n 1, 1) := dw_at cX13_conway_k4 (p := 2) rfl (by decide +kernel)
theorem dmX13_conway_103 : decode cX13_conway 103 = .ok (.imul, 1) := dw_at cX13_conway_k4 (p := 3) rfl (by decide +kernel)
theorem dmX13_conway_104 : decode cX13_conway 104 = .ok (.iload_n 3, 1) := dw_at cX13_conway_k4 (p := 4) rfl (by decide +kernel)
theorem dmX13_conway_105 : decode cX13_conway 105 = .ok (.iadd, 1) := dw_at cX13_conway_k4 (p := 5) rfl (by decide +kernel)
theorem dmX13_conway_106 : decode cX13_conway 106 = .ok (.iaload, 1) := dw_at cX13_conway_k4 (p := 6) rfl (by decide +kernel)
theorem dmX13_conway_107 : decode cX13_conway 107 = .ok (.iastore, 1) := dw_at cX13_conway_k4 (p := 7) rfl (by decide +kernel)
theorem dmX13_conway_108 : decode cX13_conway 108 = .ok (.iinc 3 1, 3) := dw_at cX13_conway_k4 (p := 8) rfl (by decide +kernel)
theorem dmX13_conway_111 : decode cX13_conway 111 = .ok (.goto (-26), 3) := dw_at cX13_conway_k4 (p := 11) rfl (by decide +kernel)
theorem dmX13_conway_114 : decode cX13_conway 114 = .ok (.iload_n 2, 1) := dw_at cX13_conway_k4 (p := 14) rfl (by decide +kernel)
theorem dmX13_conway_115 : decode cX13_conway 115 = .ok (.ifCond .lt 9, 3) := dw_at cX13_conway_k4 (p := 15) rfl (by decide +kernel)
theorem dmX13_conway_118 : decode cX13_conway 118 = .ok (.iload_n 2, 1) := dw_at cX13_conway_k4 (p := 18) rfl (by decide +kernel)
theorem dmX13_conway_119 : decode cX13_conway 119 = .ok (.bipush 40, 2) := dw_at cX13_conway_k4 (p := 19) rfl (by decide +kernel)
theorem dmX13_conway_121 : decode cX13_conway 121 = .ok (.if_icmp .lt 7, 3) := dw_at cX13_conway_k4 (p := 21) rfl (by decide +kernel)
theorem dmX13_conway_124 : decode cX13_conway 124 = .ok (.iconst 0, 1) := dw_at cX13_conway_k5 (p := 0) rfl (by decide +kernel)
theorem dmX13_conway_125 : decode cX13_conway 125 = .ok (.goto 10, 3) := dw_at cX13_conway_k5 (p := 1) rfl (by decide +kernel)
theorem dmX13_conway_128 : decode cX13_conway 128 = .ok (.aload_n 0, 1) := dw_at cX13_conway_k5 (p := 4) rfl (by decide +kernel)
theorem dmX13_conway_129 : decode cX13_conway 129 = .ok (.getfield 186, 3) := dw_at cX13_conway_k5 (p := 5) rfl (by decide +kernel)
theorem dmX13_conway_132 : decode cX13_conway 132 = .ok (.iload_n 2, 1) := dw_at cX13_conway_k5 (p := 8) rfl (by decide +kernel)
theorem dmX13_conway_133 : decode cX13_conway 133 = .ok (.laload, 1) := dw_at cX13_conway_k5 (p := 9) rfl (by decide +kernel)
theorem dmX13_conway_134 : decode cX13_conway 134 = .ok (.l2i, 1) := dw_at cX13_conway_k5 (p := 10) rfl (by decide +kernel)
theorem dmX13_conway_135 : decode cX13_conway 135 = .ok (.ireturn, 1) := dw_at cX13_conway_k5 (p := 11) rfl (by decide +kernel)
def qm_X13_conway_0 (K : Nat) (go : Nat → Int32 → Int32 → Int32 → ow_MS → Option (Int32 × ow_MS)) (x1 : Int32) (x2 : Int32) (x3 : Int32) (z : ow_MS) : Option (Int32 × ow_MS) :=
 wrF z 1 0 fun z1 => cs1 (qe_X13_has K x1 z1) fun v3 z2 => (if v3 = 0 then cs1 (qe_X13_fails K 1 z2) fun v7 z6 => some (v7, z6)
 else cs1 (qe_X13_isSame K 12 (32 * x1) 43 0 z2) fun v5 z4 => (if v5 = 0 then go 1 x1 x2 0 z4
 else go 3 x1 x2 0 z4))
def qm_X13_conway_1 (K : Nat) (go : Nat → Int32 → Int32 → Int32 → ow_MS → Option (Int32 × ow_MS)) (x1 : Int32) (x2 : Int32) (x3 : Int32) (z : ow_MS) : Option (Int32 × ow_MS) :=
 (if 40 ≤ x3 then rdN 0 fun n8 => cs0 (qe_X13_open K x1 n8 z) fun z9 => okZ 0 (wrF z9 46 0 fun z10 => cs0 (qe_X13_skein K 0 1 0 0 z10) fun z11 => go 2 x1 x2 0 z11)
 else wrJ mX z 42 x3 0 fun z12 => go 1 x1 x2 (x3 + 1) z12)
def qm_X13_conway_2 (K : Nat) (go : Nat → Int32 → Int32 → Int32 → ow_MS → Option (Int32 × ow_MS)) (x1 : Int32) (x2 : Int32) (x3 : Int32) (z : ow_MS) : Option (Int32 × ow_MS) :=
 (if 32 ≤ x3 then go 3 x1 x2 0 z
 else rdI mX z 12 ((32 * x1) + x3) fun v13 => wrI mX z 43 x3 v13 fun z14 => go 2 x1 x2 (x3 + 1) z14)
def qm_X13_conway_3 (K : Nat) (go : Nat → Int32 → Int32 → Int32 → ow_MS → Option (Int32 × ow_MS)) (x1 : Int32) (x2 : Int32) (x3 : Int32) (z : ow_MS) : Option (Int32 × ow_MS) :=
 (if x2 < 0 then go 4 x1 x2 0 z
 else (if x2 < 40 then rdJ mX z 42 x2 fun v15 => some (v15.toInt32, z)
 else go 4 x1 x2 0 z))
def qm_X13_conway_4 (K : Nat) (go : Nat → Int32 → Int32 → Int32 → ow_MS → Option (Int32 × ow_MS)) (x1 : Int32) (x2 : Int32) (x3 : Int32) (z : ow_MS) : Option (Int32 × ow_MS) :=
 some (0, z)
def qb_X13_conway (K : Nat) (go : Nat → Int32 → Int32 → Int32 → ow_MS → Option (Int32 × ow_MS)) (L : Nat) (x1 : Int32) (x2 : Int32) (x3 : Int32) (z : ow_MS) : Option (Int32 × ow_MS) := match L with
  | 0 => qm_X13_conway_0 K go x1 x2 x3 z
  | 1 => qm_X13_conway_1 K go x1 x2 x3 z
  | 2 => qm_X13_conway_2 K go x1 x2 x3 z
  | 3 => qm_X13_conway_3 K go x1 x2 x3 z
  | 4 => qm_X13_conway_4 K go x1 x2 x3 z
  | _ => none
def q_X13_conway (K : Nat) : Nat → Nat → Int32 → Int32 → Int32 → ow_MS → Option (Int32 × ow_MS)
  | 0 => fun _ _ _ _ _ => none
  | k + 1 => qb_X13_conway K (q_X13_conway K k)
def qe_X13_conway (K : Nat) (x1 : Int32) (x2 : Int32) (z : ow_MS) : Option (Int32 × ow_MS) := q_X13_conway K K 0 x1 x2 0 z
abbrev wm_X13_conway : List Cond := .code yX13_conway cX13_conway 4 (some .int) :: wM
theorem cd_X13_conway : yX13_conway.cls = RX13 ∧ yX13_conway.cls ≠ "java/lang/invoke/MethodHandle" ∧ yX13_conway.cls ≠ "java/lang/invoke/VarHandle" ∧ (parseMethodDescriptor yX13_conway.desc).map (fun d => d.parameters.length) = some 2 := by decide +kernel
set_option maxHeartbeats 4000000 in
set_option maxRecDepth 100000 in
theorem km_X13_conway (l : Launch) (D : va_G) (q : ow_Q5) (u : Nat → Nat) (hU : tw_inj mX u) (K : Nat) (x1 : Int32) (x2 : Int32)  (z z1 : ow_MS) (r : Int32) (hq : qe_X13_conway K x1 x2 z = some (r, z1)) : Met l yX13_conway wm_X13_conway ({ frames := 19, cells := 0, slots := 0, locals := 594 } : Room) (va_Pc [.ref (u 0), .int x1, .int x2] (mw_pre D q u z)) (va_Qi (fun x (_ : Unit) => x = r) (fun _ t => va_P D vwCl (tw mX q u z1) t.heap) (tw_A mX u)) 0 0 (tw_A mX u) := by
  refine Met.ofW (cc := cX13_conway) (maxL := 4) (ret := (some .int)) (by decide) rfl ?_
  intro p e s m args below meth c s₁ B hml hv
  obtain ⟨rfl, hP, hK, hN⟩ := hv
  have hx := B.exec
  have hb := B.bytes
  have hr := B.returns
  have hts := atoms_spec (ws := wm_X13_conway) B.pre
  have hT : ∀ w ∈ wM, w.before ([.ref (u 0), .int x1, .int x2] : List Value).toArray s = true := fun w h => hts w (List.mem_cons_of_mem _ h)
  have hown : s.vm.findClass RX13 = some m.cls := findClass_of_methodNamed B.named
  have hlocks := B.notSynchronized
  have hM : tw_M D vwCl mX q s.heap u z s.heap [] := ⟨hP, va_S.rf⟩
  have hl := lv_entry ([.ref (u 0), .int x1, .int x2]) (n := 4) (Nat.le_of_ble_eq_true rfl)
  rw [lg_entry_eq]
  generalize (lg_sl ([.ref (u 0), .int x1, .int x2]) ++ List.replicate (4 - (lg_sl ([.ref (u 0), .int x1, .int x2])).length) Slot.unset).toArray = ls at hl ⊢
  have hl : lv_has ls 4 [(0, .ref (u 0)), (1, .int x1), (2, .int x2)] := hl
  refine ow_named (fun QQ hQQ => ?_)
  generalize ([.ref (u 0), .int x1, .int x2] : List Value).toArray = args at hts hT hQQ ⊢
  have key : ∀ k : Nat, (∀ (x1 : Int32) (x2 : Int32) (x3 : Int32) (z : ow_MS) (H : Heap) (locs : List Loc) (ls : Array Slot), tw_M D vwCl mX q s.heap u z H locs → lv_has ls 4 [(0, .ref (u 0)), (1, .int x1), (2, .int x2)] → q_X13_conway K k 0 x1 x2 x3 z = some (r, z1) → W p l e ({ frames := 19, cells := 0, slots := 0, locals := 594 } : Room) s m args below meth c H locs 0 0 QQ (F0 m 0 ls [])) ∧ (∀ (x1 : Int32) (x2 : Int32) (x3 : Int32) (z : ow_MS) (H : Heap) (locs : List Loc) (ls : Array Slot), tw_M D vwCl mX q s.heap u z H locs → lv_has ls 4 [(0, .ref (u 0)), (1, .int x1), (2, .int x2), (3, .int x3)] → q_X13_conway K k 1 x1 x2 x3 z = some (r, z1) → W p l e ({ frames := 19, cells := 0, slots := 0, locals := 594 } : Room) s m args below meth c H locs 0 0 QQ (F0 m 40 ls [])) ∧ (∀ (x1 : Int32) (x2 : Int32) (x3 : Int32) (z : ow_MS) (H : Heap) (locs : List Loc) (ls : Array Slot), tw_M D vwCl mX q s.heap u z H locs → lv_has ls 4 [(0, .ref (u 0)), (1, .int x1), (2, .int x2), (3, .int x3)] → q_X13_conway K k 2 x1 x2 x3 z = some (r, z1) → W p l e ({ frames := 19, cells := 0, slots := 0, locals := 594 } : Room) s m args below meth c H locs 0 0 QQ (F0 m 85 ls [])) ∧ (∀ (x1 : Int32) (x2 : Int32) (x3 : Int32) (z : ow_MS) (H : Heap) (locs : List Loc) (ls : Array Slot), tw_M D vwCl mX q s.heap u z H locs → lv_has ls 4 [(0, .ref (u 0)), (1, .int x1), (2, .int x2)] → q_X13_conway K k 3 x1 x2 x3 z = some (r, z1) → W p l e ({ frames := 19, cells := 0, slots := 0, locals := 594 } : Room) s m args below meth c H locs 0 0 QQ (F0 m 114 ls [])) ∧ (∀ (x1 : Int32) (x2 : Int32) (x3 : Int32) (z : ow_MS) (H : Heap) (locs : List Loc) (ls : Array Slot), tw_M D vwCl mX q s.heap u z H locs → lv_has ls 4 [(0, .ref (u 0)), (1, .int x1), (2, .int x2)] → q_X13_conway K k 4 x1 x2 x3 z = some (r, z1) → W p l e ({ frames := 19, cells := 0, slots := 0, locals := 594 } : Room) s m args below meth c H locs 0 0 QQ (F0 m 124 ls [])) := by
    intro k
    induction k with
    | zero => exact ⟨fun _ _ _ _ _ _ _  _ _ hq => tw_no hq, fun _ _ _ _ _ _ _  _ _ hq => tw_no hq, fun _ _ _ _ _ _ _  _ _ hq => tw_no hq, fun _ _ _ _ _ _ _  _ _ hq => tw_no hq, fun _ _ _ _ _ _ _  _ _ hq => tw_no hq⟩
    | succ k ih =>
      obtain ⟨ih_0, ih_1, ih_2, ih_3, ih_4⟩ := ih
      refine ⟨?_, ?_, ?_, ?_, ?_⟩
      · intro x1 x2 x3 z H locs ls  hM hl hq
        have hq : qm_X13_conway_0 K (q_X13_conway K k) x1 x2 x3 z = some (r, z1) := hq
        unfold qm_X13_conway_0 at hq
        refine lv_aload_n hx hb dmX13_conway_0 rfl (lv_at hl 0 rfl) ?_
        refine lv_iconst (v := 0) hx hb dmX13_conway_1 (by decide) ?_
        refine mp13_1 hx hb hT hown hK hM hU hq dmX13_conway_2 (fun z1 H locs hM hq => ?_)
        refine lv_aload_n hx hb dmX13_conway_5 rfl (lv_at hl 0 rfl) ?_
        refine lv_iload_n hx hb dmX13_conway_6 rfl (lv_at hl 1 rfl) ?_
        obtain ⟨v3, z2, hcq, hq⟩ := tw_cl1 hq
        refine tw_cali hM (va_runV (As := [.int x1]) (rest := []) ⟨hx, hb, hml, hown, hts⟩ (km_X13_has l D q u hU K x1 z1 z2 v3 hcq) (cwV 1 hts (tw_gV wM_good wq_127 wq_128 wq_129 wq_61 wq_90) rfl rfl rfl cd_X13_has ⟨(Nat.le_of_ble_eq_true rfl), (Nat.le_of_ble_eq_true rfl)⟩) (mw_preV hK hN hM mo_0 rfl) rfl rfl hl.1 rfl (lv_room (Nat.le_of_ble_eq_true rfl)) dmX13_conway_7 ⟨(Nat.le_of_ble_eq_true rfl), (Nat.le_of_ble_eq_true rfl)⟩) (fun H locs hM => ?_)
        refine lv_if_ne (tgt := 19) hx hb dmX13_conway_10 (by decide) (fun hc => ?_) (fun hc => ?_)
        · have hq := tw_if hq hc
          refine lv_aload_n hx hb dmX13_conway_19 rfl (lv_at hl 0 rfl) ?_
          refine mg13_110 hx hb hT hown hK hM dmX13_conway_20 ?_
          refine lv_bipush (v := 32) hx hb dmX13_conway_23 (by decide) ?_
          refine lv_iload_n hx hb dmX13_conway_25 rfl (lv_at hl 1 rfl) ?_
          refine lv_imul hx hb dmX13_conway_26 ?_
          refine lv_aload_n hx hb dmX13_conway_27 rfl (lv_at hl 0 rfl) ?_
          refine mg13_190 hx hb hT hown hK hM dmX13_conway_28 ?_
          refine lv_iconst (v := 0) hx hb dmX13_conway_31 (by decide) ?_
          obtain ⟨v5, z4, hcq, hq⟩ := tw_cl1 hq
          refine tw_cali hM (va_runS (As := [.ref (u 12), .int (32 * x1), .ref (u 43), .int 0]) (rest := []) ⟨hx, hb, hml, hown, hts⟩ (km_X13_isSame l D q u hU K 12 (32 * x1) 43 0 mr_12 mr_43 z2 z4 v5 hcq) (va_cwS 4 hts (tw_gS wM_good wq_149 wq_150 wq_61 wq_74) rfl rfl rfl cd_X13_isSame ⟨(Nat.le_of_ble_eq_true rfl), (Nat.le_of_ble_eq_true rfl)⟩) (mw_preS hK hN hM) rfl rfl hl.1 rfl (lv_room (Nat.le_of_ble_eq_true rfl)) dmX13_conway_32 ⟨(Nat.le_of_ble_eq_true rfl), (Nat.le_of_ble_eq_true rfl)⟩) (fun H locs hM => ?_)
          refine lv_if_ne (tgt := 114) hx hb dmX13_conway_35 (by decide) (fun hc => ?_) (fun hc => ?_)
          · have hq := tw_if hq hc
            exact ih_3 x1 x2 0 z4 H locs ls hM (lv_sub hl [0, 1, 2] rfl) hq
          · have hq := tw_it hq hc
            refine lv_iconst (v := 0) hx hb dmX13_conway_38 (by decide) ?_
            refine lv_istore_n (lv' := [(3, .int 0), (0, .ref (u 0)), (1, .int x1), (2, .int x2)]) hx hb dmX13_conway_39 rfl hl (by decide) rfl (fun ls hl => ?_)
            exact ih_1 x1 x2 0 z4 H locs ls hM (lv_sub hl [1, 2, 3, 0] rfl) hq
        · have hq := tw_it hq hc
          refine lv_aload_n hx hb dmX13_conway_13 rfl (lv_at hl 0 rfl) ?_
          refine lv_iconst (v := 1) hx hb dmX13_conway_14 (by decide) ?_
          obtain ⟨v7, z6, hcq, hq⟩ := tw_cl1 hq
          refine tw_cali hM (va_runV (As := [.int 1]) (rest := []) ⟨hx, hb, hml, hown, hts⟩ (km_X13_fails l D q u hU K 1 z2 z6 v7 hcq) (cwV 1 hts (tw_gV wM_good wq_103 wq_104 wq_105 wq_61 wq_50) rfl rfl rfl cd_X13_fails ⟨(Nat.le_of_ble_eq_true rfl), (Nat.le_of_ble_eq_true rfl)⟩) (mw_preV hK hN hM mo_0 rfl) rfl rfl hl.1 rfl (lv_room (Nat.le_of_ble_eq_true rfl)) dmX13_conway_15 ⟨(Nat.le_of_ble_eq_true rfl), (Nat.le_of_ble_eq_true rfl)⟩) (fun H locs hM => ?_)
          exact mw_iret hx hb hr hlocks hM hq hQQ dmX13_conway_18
      · intro x1 x2 x3 z H locs ls  hM hl hq
        have hq : qm_X13_conway_1 K (q_X13_conway K k) x1 x2 x3 z = some (r, z1) := hq
        unfold qm_X13_conway_1 at hq
        refine lv_iload_n hx hb dmX13_conway_40 rfl (lv_at hl 3 rfl) ?_
        refine lv_bipush (v := 40) hx hb dmX13_conway_41 (by decide) ?_
        refine lv_icmp_ge (tgt := 59) hx hb dmX13_conway_43 (by decide) (fun hc => ?_) (fun hc => ?_)
        · have hq := tw_it hq hc
          refine lv_aload_n hx hb dmX13_conway_59 rfl (lv_at hl 0 rfl) ?_
          refine lv_iload_n hx hb dmX13_conway_60 rfl (lv_at hl 1 rfl) ?_
          refine lv_aload_n hx hb dmX13_conway_61 rfl (lv_at hl 0 rfl) ?_
          refine mg13_179 hx hb hT hown hK hM dmX13_conway_62 ?_
          refine lv_iconst (v := 0) hx hb dmX13_conway_65 (by decide) ?_
          refine mw_aald hx hb hK hM hq dmX13_conway_66 (fun n8 hn8 hq => ?_)
          obtain ⟨z9, hcq, hq⟩ := tw_cl0 hq
          refine tw_calv hM (va_runV (As := [.int x1, .ref (u n8)]) (rest := []) ⟨hx, hb, hml, hown, hts⟩ (km_X13_open l D q u hU K x1 n8 hn8 z z9 hcq) (cwV 2 hts (tw_gV wM_good wq_138 wq_139 wq_140 wq_61 wq_136) rfl rfl rfl cd_X13_open ⟨(Nat.le_of_ble_eq_true rfl), (Nat.le_of_ble_eq_true rfl)⟩) (mw_preV hK hN hM mo_0 rfl) rfl rfl hl.1 rfl (lv_room (Nat.le_of_ble_eq_true rfl)) dmX13_conway_67 ⟨(Nat.le_of_ble_eq_true rfl), (Nat.le_of_ble_eq_true rfl)⟩) (fun H locs hM => ?_)
          refine lv_aload_n hx hb dmX13_conway_70 rfl (lv_at hl 0 rfl) ?_
          refine lv_iconst (v := 0) hx hb dmX13_conway_71 (by decide) ?_
          obtain ⟨hz, hq⟩ := tw_gZ hq
          refine mp13_572 hx hb hT hown hK hM hU hz hq dmX13_conway_72 (fun z10 H locs hM hq => ?_)
          refine lv_aload_n hx hb dmX13_conway_75 rfl (lv_at hl 0 rfl) ?_
          refine lv_iconst (v := 0) hx hb dmX13_conway_76 (by decide) ?_
          refine lv_lconst (v := 1) hx hb dmX13_conway_77 rfl ?_
          refine lv_iconst (v := 0) hx hb dmX13_conway_78 (by decide) ?_
          refine lv_iconst (v := 0) hx hb dmX13_conway_79 (by decide) ?_
          obtain ⟨z11, hcq, hq⟩ := tw_cl0 hq
          refine tw_calv hM (va_runV (As := [.int 0, .long 1, .int 0, .int 0]) (rest := []) ⟨hx, hb, hml, hown, hts⟩ (km_X13_skein l D q u hU K 0 1 0 0 z10 z11 hcq) (cwV 4 hts (tw_gV wM_good wq_284 wq_285 wq_286 wq_61 wq_287) rfl rfl rfl cd_X13_skein ⟨(Nat.le_of_ble_eq_true rfl), (Nat.le_of_ble_eq_true rfl)⟩) (mw_preV hK hN hM mo_0 rfl) rfl rfl hl.1 rfl (lv_room (Nat.le_of_ble_eq_true rfl)) dmX13_conway_80 ⟨(Nat.le_of_ble_eq_true rfl), (Nat.le_of_ble_eq_true rfl)⟩) (fun H locs hM => ?_)
          refine lv_iconst (v := 0) hx hb dmX13_conway_83 (by decide) ?_
          refine lv_istore_n (lv' := [(3, .int 0), (0, .ref (u 0)), (1, .int x1), (2, .int x2)]) hx hb dmX13_conway_84 rfl hl (by decide) rfl (fun ls hl => ?_)
          exact ih_2 x1 x2 0 z11 H locs ls hM (lv_sub hl [1, 2, 3, 0] rfl) hq
        · have hq := tw_if hq hc
          refine lv_aload_n hx hb dmX13_conway_46 rfl (lv_at hl 0 rfl) ?_
          refine mg13_186 hx hb hT hown hK hM dmX13_conway_47 ?_
          refine lv_iload_n hx hb dmX13_conway_50 rfl (lv_at hl 3 rfl) ?_
          refine lv_lconst (v := 0) hx hb dmX13_conway_51 rfl ?_
          refine tw_last mX_ok hU hx hb hK hM mr_42 hq dmX13_conway_52 (fun z12 H locs hM hq => ?_)
          refine lv_iinc (v := (x3 + 1)) (lv' := [(3, .int (x3 + 1)), (0, .ref (u 0)), (1, .int x1), (2, .int x2)]) hx hb dmX13_conway_53 hl (k := 3) rfl rfl (by decide) rfl (fun ls hl => ?_)
          refine lv_goto (tgt := 40) hx hb dmX13_conway_56 (by decide) ?_
          exact ih_1 x1 x2 (x3 + 1) z12 H locs ls hM (lv_sub hl [1, 2, 3, 0] rfl) hq
      · intro x1 x2 x3 z H locs ls  hM hl hq
        have hq : qm_X13_conway_2 K (q_X13_conway K k) x1 x2 x3 z = some (r, z1) := hq
        unfold qm_X13_conway_2 at hq
        refine lv_iload_n hx hb dmX13_conway_85 rfl (lv_at hl 3 rfl) ?_
        refine lv_bipush (v := 32) hx hb dmX13_conway_86 (by decide) ?_
        refine lv_icmp_ge (tgt := 114) hx hb dmX13_conway_88 (by decide) (fun hc => ?_) (fun hc => ?_)
        · have hq := tw_it hq hc
          exact ih_3 x1 x2 0 z H locs ls hM (lv_sub hl [0, 1, 2] rfl) hq
        · have hq := tw_if hq hc
          refine lv_aload_n hx hb dmX13_conway_91 rfl (lv_at hl 0 rfl) ?_
          refine mg13_190 hx hb hT hown hK hM dmX13_conway_92 ?_
          refine lv_iload_n hx hb dmX13_conway_95 rfl (lv_at hl 3 rfl) ?_
          refine lv_aload_n hx hb dmX13_conway_96 rfl (lv_at hl 0 rfl) ?_
          refine mg13_110 hx hb hT hown hK hM dmX13_conway_97 ?_
          refine lv_bipush (v := 32) hx hb dmX13_conway_100 (by decide) ?_
          refine lv_iload_n hx hb dmX13_conway_102 rfl (lv_at hl 1 rfl) ?_
          refine lv_imul hx hb dmX13_conway_103 ?_
          refine lv_iload_n hx hb dmX13_conway_104 rfl (lv_at hl 3 rfl) ?_
          refine lv_iadd hx hb dmX13_conway_105 ?_
          refine tw_iald mX_ok hx hb hK hM mr_12 hq dmX13_conway_106 (fun v13 hq => ?_)
          refine tw_iast mX_ok hU hx hb hK hM mr_43 hq dmX13_conway_107 (fun z14 H locs hM hq => ?_)
          refine lv_iinc (v := (x3 + 1)) (lv' := [(3, .int (x3 + 1)), (0, .ref (u 0)), (1, .int x1), (2, .int x2)]) hx hb dmX13_conway_108 hl (k := 3) rfl rfl (by decide) rfl (fun ls hl => ?_)
          refine lv_goto (tgt := 85) hx hb dmX13_conway_111 (by decide) ?_
          exact ih_2 x1 x2 (x3 + 1) z14 H locs ls hM (lv_sub hl [1, 2, 3, 0] rfl) hq
      · intro x1 x2 x3 z H locs ls  hM hl hq
        have hq : qm_X13_conway_3 K (q_X13_conway K k) x1 x2 x3 z = some (r, z1) := hq
        unfold qm_X13_conway_3 at hq
        refine lv_iload_n hx hb dmX13_conway_114 rfl (lv_at hl 2 rfl) ?_
        refine lv_if_lt (tgt := 124) hx hb dmX13_conway_115 (by decide) (fun hc => ?_) (fun hc => ?_)
        · have hq := tw_it hq hc
          exact ih_4 x1 x2 0 z H locs ls hM (lv_sub hl [0, 1, 2] rfl) hq
        · have hq := tw_if hq hc
          refine lv_iload_n hx hb dmX13_conway_118 rfl (lv_at hl 2 rfl) ?_
          refine lv_bipush (v := 40) hx hb dmX13_conway_119 (by decide) ?_
          refine lv_icmp_lt (tgt := 128) hx hb dmX13_conway_121 (by decide) (fun hc => ?_) (fun hc => ?_)
          · have hq := tw_it hq hc
            refine lv_aload_n hx hb dmX13_conway_128 rfl (lv_at hl 0 rfl) ?_
            refine mg13_186 hx hb hT hown hK hM dmX13_conway_129 ?_
            refine lv_iload_n hx hb dmX13_conway_132 rfl (lv_at hl 2 rfl) ?_
            refine tw_lald mX_ok hx hb hK hM mr_42 hq dmX13_conway_133 (fun v15 hq => ?_)
            refine lv_l2i hx hb dmX13_conway_134 rfl ?_
            exact mw_iret hx hb hr hlocks hM hq hQQ dmX13_conway_135
          · have hq := tw_if hq hc
            exact ih_4 x1 x2 0 z H locs ls hM (lv_sub hl [0, 1, 2] rfl) hq
      · intro x1 x2 x3 z H locs ls  hM hl hq
        have hq : qm_X13_conway_4 K (q_X13_conway K k) x1 x2 x3 z = some (r, z1) := hq
        unfold qm_X13_conway_4 at hq
        refine lv_iconst (v := 0) hx hb dmX13_conway_124 (by decide) ?_
        refine lv_goto (tgt := 135) hx hb dmX13_conway_125 (by decide) ?_
        exact mw_iret hx hb hr hlocks hM hq hQQ dmX13_conway_135
  exact (key K).1 x1 x2 0 z s.heap [] ls  hM (lv_sub hl [0, 1, 2] rfl) hq
theorem dmX13_root_0 : decode cX13_root 0 = .ok (.iload_n 1, 1) := by decide +kernel
theorem dmX13_root_1 : decode cX13_root 1 = .ok (.istore_n 2, 1) := by decide +kernel
theorem dmX13_root_2 : decode cX13_root 2 = .ok (.aload_n 0, 1) := by decide +kernel
theorem dmX13_root_3 : decode cX13_root 3 = .ok (.getfield 199, 3) := by decide +kernel
theorem dmX13_root_6 : decode cX13_root 6 = .ok (.iload_n 2, 1) := by decide +kernel
theorem dmX13_root_7 : decode cX13_root 7 = .ok (.iaload, 1) := by decide +kernel
theorem dmX13_root_8 : decode cX13_root 8 = .ok (.iload_n 2, 1) := by decide +kernel
theorem dmX13_root_9 : decode cX13_root 9 = .ok (.if_icmp .eq 13, 3) := by decide +kernel
theorem dmX13_root_12 : decode cX13_root 12 = .ok (.aload_n 0, 1) := by decide +kernel
theorem dmX13_root_13 : decode cX13_root 13 = .ok (.getfield 199, 3) := by decide +kernel
theorem dmX13_root_16 : decode cX13_root 16 = .ok (.iload_n 2, 1) := by decide +kernel
theorem dmX13_root_17 : decode cX13_root 17 = .ok (.iaload, 1) := by decide +kernel
theorem dmX13_root_18 : decode cX13_root 18 = .ok (.istore_n 2, 1) := by decide +kernel
theorem dmX13_root_19 : decode cX13_root 19 = .ok (.goto (-17), 3) := by decide +kernel
theorem dmX13_root_22 : decode cX13_root 22 = .ok (.iload_n 2, 1) := by decide +kernel
theorem dmX13_root_23 : decode cX13_root 23 = .ok (.ireturn, 1) := by decide +kernel
def qm_X13_root_0 (K : Nat) (go : Nat → Int32 → Int32 → ow_MS → Option (Int32 × ow_MS)) (x1 : Int32) (x2 : Int32) (z : ow_MS) : Option (Int32 × ow_MS) :=
 go 1 x1 x1 z
def qm_X13_root_1 (K : Nat) (go : Nat → Int32 → Int32 → ow_MS → Option (Int32 × ow_MS)) (x1 : Int32) (x2 : Int32) (z : ow_MS) : Option (Int32 × ow_MS) :=
 rdI mX z 47 x2 fun v1 => (if v1 = x2 then some (x2, z)
 else rdI mX z 47 x2 fun v2 => go 1 x1 v2 z)
def qb_X13_root (K : Nat) (go : Nat → Int32 → Int32 → ow_MS → Option (Int32 × ow_MS)) (L : Nat) (x1 : Int32) (x2 : Int32) (z : ow_MS) : Option (Int32 × ow_MS) := match L with
  | 0 => qm_X13_root_0 K go x1 x2 z
  | 1 => qm_X13_root_1 K go x1 x2 z
  | _ => none
def q_X13_root (K : Nat) : Nat → Nat → Int32 → Int32 → ow_MS → Option (Int32 × ow_MS)
  | 0 => fun _ _ _ _ => none
  | k + 1 => qb_X13_root K (q_X13_root K k)
def qe_X13_root (K : Nat) (x1 : Int32) (z : ow_MS) : Option (Int32 × ow_MS) := q_X13_root K K 0 x1 0 z
abbrev wm_X13_root : List Cond := .code yX13_root cX13_root 3 (some .int) :: wM
theorem cd_X13_root : yX13_root.cls = RX13 ∧ yX13_root.cls ≠ "java/lang/invoke/MethodHandle" ∧ yX13_root.cls ≠ "java/lang/invoke/VarHandle" ∧ (parseMethodDescriptor yX13_root.desc).map (fun d => d.parameters.length) = some 1 := by decide +kernel
set_option maxHeartbeats 4000000 in
set_option maxRecDepth 100000 in
theorem km_X13_root (l : Launch) (D : va_G) (q : ow_Q5) (u : Nat → Nat) (hU : tw_inj mX u) (K : Nat) (x1 : Int32)  (z z1 : ow_MS) (r : Int32) (hq : qe_X13_root K x1 z = some (r, z1)) : Met l yX13_root wm_X13_root ({ frames := 0, cells := 0, slots := 0, locals := 0 } : Room) (va_Pc [.ref (u 0), .int x1] (mw_pre D q u z)) (va_Qi (fun x (_ : Unit) => x = r) (fun _ t => va_P D vwCl (tw mX q u z1) t.heap) (tw_A mX u)) 0 0 (tw_A mX u) := by
  refine Met.ofW (cc := cX13_root) (maxL := 3) (ret := (some .int)) (by decide) rfl ?_
  intro p e s m args below meth c s₁ B hml hv
  obtain ⟨rfl, hP, hK, hN⟩ := hv
  have hx := B.exec
  have hb := B.bytes
  have hr := B.returns
  have hts := atoms_spec (ws := wm_X13_root) B.pre
  have hT : ∀ w ∈ wM, w.before ([.ref (u 0), .int x1] : List Value).toArray s = true := fun w h => hts w (List.mem_cons_of_mem _ h)
  have hown : s.vm.findClass RX13 = some m.cls := findClass_of_methodNamed B.named
  have hlocks := B.notSynchronized
  have hM : tw_M D vwCl mX q s.heap u z s.heap [] := ⟨hP, va_S.rf⟩
  have hl := lv_entry ([.ref (u 0), .int x1]) (n := 3) (Nat.le_of_ble_eq_true rfl)
  rw [lg_entry_eq]
  generalize (lg_sl ([.ref (u 0), .int x1]) ++ List.replicate (3 - (lg_sl ([.ref (u 0), .int x1])).length) Slot.unset).toArray = ls at hl ⊢
  have hl : lv_has ls 3 [(0, .ref (u 0)), (1, .int x1)] := hl
  refine ow_named (fun QQ hQQ => ?_)
  generalize ([.ref (u 0), .int x1] : List Value).toArray = args at hts hT hQQ ⊢
  have key : ∀ k : Nat, (∀ (x1 : Int32) (x2 : Int32) (z : ow_MS) (H : Heap) (locs : List Loc) (ls : Array Slot), tw_M D vwCl mX q s.heap u z H locs → lv_has ls 3 [(0, .ref (u 0)), (1, .int x1)] → q_X13_root K k 0 x1 x2 z = some (r, z1) → W p l e ({ frames := 0, cells := 0, slots := 0, locals := 0 } : Room) s m args below meth c H locs 0 0 QQ (F0 m 0 ls [])) ∧ (∀ (x1 : Int32) (x2 : Int32) (z : ow_MS) (H : Heap) (locs : List Loc) (ls : Array Slot), tw_M D vwCl mX q s.heap u z H locs → lv_has ls 3 [(0, .ref (u 0)), (1, .int x1), (2, .int x2)] → q_X13_root K k 1 x1 x2 z = some (r, z1) → W p l e ({ frames := 0, cells := 0, slots := 0, locals := 0 } : Room) s m args below meth c H locs 0 0 QQ (F0 m 2 ls [])) := by
    intro k
    induction k with
    | zero => exact ⟨fun _ _ _ _ _ _  _ _ hq => tw_no hq, fun _ _ _ _ _ _  _ _ hq => tw_no hq⟩
    | succ k ih =>
      obtain ⟨ih_0, ih_1⟩ := ih
      refine ⟨?_, ?_⟩
      · intro x1 x2 z H locs ls  hM hl hq
        have hq : qm_X13_root_0 K (q_X13_root K k) x1 x2 z = some (r, z1) := hq
        unfold qm_X13_root_0 at hq
        refine lv_iload_n hx hb dmX13_root_0 rfl (lv_at hl 1 rfl) ?_
        refine lv_istore_n (lv' := [(2, .int x1), (0, .ref (u 0)), (1, .int x1)]) hx hb dmX13_root_1 rfl hl (by decide) rfl (fun ls hl => ?_)
        exact ih_1 x1 x1 z H locs ls hM (lv_sub hl [1, 2, 0] rfl) hq
      · intro x1 x2 z H locs ls  hM hl hq
        have hq : qm_X13_root_1 K (q_X13_root K k) x1 x2 z = some (r, z1) := hq
        unfold qm_X13_root_1 at hq
        refine lv_aload_n hx hb dmX13_root_2 rfl (lv_at hl 0 rfl) ?_
        refine mg13_199 hx hb hT hown hK hM dmX13_root_3 ?_
        refine lv_iload_n hx hb dmX13_root_6 rfl (lv_at hl 2 rfl) ?_
        refine tw_iald mX_ok hx hb hK hM mr_47 hq dmX13_root_7 (fun v1 hq => ?_)
        refine lv_iload_n hx hb dmX13_root_8 rfl (lv_at hl 2 rfl) ?_
        refine lv_icmp_eq (tgt := 22) hx hb dmX13_root_9 (by decide) (fun hc => ?_) (fun hc => ?_)
        · have hq := tw_it hq hc
          refine lv_iload_n hx hb dmX13_root_22 rfl (lv_at hl 2 rfl) ?_
          exact mw_iret hx hb hr hlocks hM hq hQQ dmX13_root_23
        · have hq := tw_if hq hc
          refine lv_aload_n hx hb dmX13_root_12 rfl (lv_at hl 0 rfl) ?_
          refine mg13_199 hx hb hT hown hK hM dmX13_root_13 ?_
          refine lv_iload_n hx hb dmX13_root_16 rfl (lv_at hl 2 rfl) ?_
          refine tw_iald mX_ok hx hb hK hM mr_47 hq dmX13_root_17 (fun v2 hq => ?_)
          refine lv_istore_n (lv' := [(2, .int v2), (0, .ref (u 0)), (1, .int x1)]) hx hb dmX13_root_18 rfl hl (by decide) rfl (fun ls hl => ?_)
          refine lv_goto (tgt := 2) hx hb dmX13_root_19 (by decide) ?_
          exact ih_1 x1 v2 z H locs ls hM (lv_sub hl [1, 2, 0] rfl) hq
  exact (key K).1 x1 0 z s.heap [] ls  hM (lv_sub hl [0, 1] rfl) hq
theorem dmX13_unite_0 : decode cX13_unite 0 = .ok (.aload_n 0, 1) := by decide +kernel
theorem dmX13_unite_1 : decode cX13_unite 1 = .ok (.iload_n 1, 1) := by decide +kernel
theorem dmX13_unite_2 : decode cX13_unite 2 = .ok (.invokevirtual 578, 3) := by decide +kernel
theorem dmX13_unite_5 : decode cX13_unite 5 = .ok (.istore_n 3, 1) := by decide +kernel
theorem dmX13_unite_6 : decode cX13_unite 6 = .ok (.aload_n 0, 1) := by decide +kernel
theorem dmX13_unite_7 : decode cX13_unite 7 = .ok (.iload_n 2, 1) := by decide +kernel
theorem dmX13_unite_8 : decode cX13_unite 8 = .ok (.invokevirtual 578, 3) := by decide +kernel
theorem dmX13_unite_11 : decode cX13_unite 11 = .ok (.istore 4, 2) := by decide +kernel
theorem dmX13_unite_13 : decode cX13_unite 13 = .ok (.iload_n 3, 1) := by decide +kernel
theorem dmX13_unite_14 : decode cX13_unite 14 = .ok (.iload 4, 2) := by decide +kernel
theorem dmX13_unite_16 : decode cX13_unite 16 = .ok (.if_icmp .ge 14, 3) := by decide +kernel
theorem dmX13_unite_19 : decode cX13_unite 19 = .ok (.aload_n 0, 1) := by decide +kernel
theorem dmX13_unite_20 : decode cX13_unite 20 = .ok (.getfield 199, 3) := by decide +kernel
theorem dmX13_unite_23 : decode cX13_unite 23 = .ok (.iload 4, 2) := by decide +kernel
theorem dmX13_unite_25 : decode cX13_unite 25 = .ok (.iload_n 3, 1) := by decide +kernel
theorem dmX13_unite_26 : decode cX13_unite 26 = .ok (.iastore, 1) := by decide +kernel
theorem dmX13_unite_27 : decode cX13_unite 27 = .ok (.goto 11, 3) := by decide +kernel
theorem dmX13_unite_30 : decode cX13_unite 30 = .ok (.aload_n 0, 1) := by decide +kernel
theorem dmX13_unite_31 : decode cX13_unite 31 = .ok (.getfield 199, 3) := by decide +kernel
theorem dmX13_unite_34 : decode cX13_unite 34 = .ok (.iload_n 3, 1) := by decide +kernel
theorem dmX13_unite_35 : decode cX13_unite 35 = .ok (.iload 4, 2) := by decide +kernel
theorem dmX13_unite_37 : decode cX13_unite 37 = .ok (.iastore, 1) := by decide +kernel
theorem dmX13_unite_38 : decode cX13_unite 38 = .ok (.return_, 1) := by decide +kernel
def qm_X13_unite_0 (K : Nat) (x1 : Int32) (x2 : Int32) (z : ow_MS) : Option ow_MS :=
 cs1 (qe_X13_root K x1 z) fun v2 z1 => cs1 (qe_X13_root K x2 z1) fun v4 z3 => (if v4 ≤ v2 then wrI mX z3 47 v2 v4 fun z5 => some z5
 else wrI mX z3 47 v4 v2 fun z6 => some z6)
def qe_X13_unite (K : Nat) (x1 : Int32) (x2 : Int32) (z : ow_MS) : Option ow_MS := qm_X13_unite_0 K x1 x2 z
abbrev wm_X13_unite : List Cond := .code yX13_unite cX13_unite 5 none :: wM
theorem cd_X13_unite : yX13_unite.cls = RX13 ∧ yX13_unite.cls ≠ "java/lang/invoke/MethodHandle" ∧ yX13_unite.cls ≠ "java/lang/invoke/VarHandle" ∧ (parseMethodDescriptor yX13_unite.desc).map (fun d => d.parameters.length) = some 2 := by decide +kernel
set_option maxHeartbeats 4000000 in
set_option maxRecDepth 100000 in
theorem km_X13_unite (l : Launch) (D : va_G) (q : ow_Q5) (u : Nat → Nat) (hU : tw_inj mX u) (K : Nat) (x1 : Int32) (x2 : Int32)  (z z1 : ow_MS) (hq : qe_X13_unite K x1 x2 z = some z1) : Met l yX13_unite wm_X13_unite ({ frames := 1, cells := 0, slots := 0, locals := 22 } : Room) (va_Pc [.ref (u 0), .int x1, .int x2] (mw_pre D q u z)) (va_Qv (fun (_ : Unit) => True) (fun _ t => va_P D vwCl (tw mX q u z1) t.heap) (tw_A mX u)) 0 0 (tw_A mX u) := by
  refine Met.ofW (cc := cX13_unite) (maxL := 5) (ret := none) (by decide) rfl ?_
  intro p e s m args below meth c s₁ B hml hv
  obtain ⟨rfl, hP, hK, hN⟩ := hv
  have hx := B.exec
  have hb := B.bytes
  have hr := B.returns
  have hts := atoms_spec (ws := wm_X13_unite) B.pre
  have hT : ∀ w ∈ wM, w.before ([.ref (u 0), .int x1, .int x2] : List Value).toArray s = true := fun w h => hts w (List.mem_cons_of_mem _ h)
  have hown : s.vm.findClass RX13 = some m.cls := findClass_of_methodNamed B.named
  have hlocks := B.notSynchronized
  have hM : tw_M D vwCl mX q s.heap u z s.heap [] := ⟨hP, va_S.rf⟩
  have hl := lv_entry ([.ref (u 0), .int x1, .int x2]) (n := 5) (Nat.le_of_ble_eq_true rfl)
  rw [lg_entry_eq]
  generalize (lg_sl ([.ref (u 0), .int x1, .int x2]) ++ List.replicate (5 - (lg_sl ([.ref (u 0), .int x1, .int x2])).length) Slot.unset).toArray = ls at hl ⊢
  have hl : lv_has ls 5 [(0, .ref (u 0)), (1, .int x1), (2, .int x2)] := hl
  refine ow_named (fun QQ hQQ => ?_)
  generalize ([.ref (u 0), .int x1, .int x2] : List Value).toArray = args at hts hT hQQ ⊢
  have hq : qm_X13_unite_0 K x1 x2 z = some z1 := hq
  unfold qm_X13_unite_0 at hq
  suffices key : ∀ (H : Heap) (locs : List Loc), tw_M D vwCl mX q s.heap u z H locs → W p l e ({ frames := 1, cells := 0, slots := 0, locals := 22 } : Room) s m args below meth c H locs 0 0 QQ (F0 m 0 ls []) from key s.heap [] hM
  intro H locs hM
  refine lv_aload_n hx hb dmX13_unite_0 rfl (lv_at hl 0 rfl) ?_
  refine lv_iload_n hx hb dmX13_unite_1 rfl (lv_at hl 1 rfl) ?_
  obtain ⟨v2, z1, hcq, hq⟩ := tw_cl1 hq
  refine tw_cali hM (va_runV (As := [.int x1]) (rest := []) ⟨hx, hb, hml, hown, hts⟩ (km_X13_root l D q u hU K x1 z z1 v2 hcq) (cwV 1 hts (tw_gV wM_good wq_292 wq_293 wq_294 wq_61 wq_291) rfl rfl rfl cd_X13_root ⟨(Nat.le_of_ble_eq_true rfl), (Nat.le_of_ble_eq_true rfl)⟩) (mw_preV hK hN hM mo_0 rfl) rfl rfl hl.1 rfl (lv_room (Nat.le_of_ble_eq_true rfl)) dmX13_unite_2 ⟨(Nat.le_of_ble_eq_true rfl), (Nat.le_of_ble_eq_true rfl)⟩) (fun H locs hM => ?_)
  refine lv_istore_n (lv' := [(3, .int v2), (0, .ref (u 0)), (1, .int x1), (2, .int x2)]) hx hb dmX13_unite_5 rfl hl (by decide) rfl (fun ls hl => ?_)
  refine lv_aload_n hx hb dmX13_unite_6 rfl (lv_at hl 1 rfl) ?_
  refine lv_iload_n hx hb dmX13_unite_7 rfl (lv_at hl 3 rfl) ?_
  obtain ⟨v4, z3, hcq, hq⟩ := tw_cl1 hq
  refine tw_cali hM (va_runV (As := [.int x2]) (rest := []) ⟨hx, hb, hml, hown, hts⟩ (km_X13_root l D q u hU K x2 z1 z3 v4 hcq) (cwV 1 hts (tw_gV wM_good wq_292 wq_293 wq_294 wq_61 wq_291) rfl rfl rfl cd_X13_root ⟨(Nat.le_of_ble_eq_true rfl), (Nat.le_of_ble_eq_true rfl)⟩) (mw_preV hK hN hM mo_0 rfl) rfl rfl hl.1 rfl (lv_room (Nat.le_of_ble_eq_true rfl)) dmX13_unite_8 ⟨(Nat.le_of_ble_eq_true rfl), (Nat.le_of_ble_eq_true rfl)⟩) (fun H locs hM => ?_)
  refine lv_istore (lv' := [(4, .int v4), (3, .int v2), (0, .ref (u 0)), (1, .int x1), (2, .int x2)]) hx hb dmX13_unite_11 hl (by decide) rfl (fun ls hl => ?_)
  refine lv_iload_n hx hb dmX13_unite_13 rfl (lv_at hl 1 rfl) ?_
  refine lv_iload hx hb dmX13_unite_14 (lv_at hl 0 rfl) ?_
  refine lv_icmp_ge (tgt := 30) hx hb dmX13_unite_16 (by decide) (fun hc => ?_) (fun hc => ?_)
  · have hq := tw_it hq hc
    refine lv_aload_n hx hb dmX13_unite_30 rfl (lv_at hl 2 rfl) ?_
    refine mg13_199 hx hb hT hown hK hM dmX13_unite_31 ?_
    refine lv_iload_n hx hb dmX13_unite_34 rfl (lv_at hl 1 rfl) ?_
    refine lv_iload hx hb dmX13_unite_35 (lv_at hl 0 rfl) ?_
    refine tw_iast mX_ok hU hx hb hK hM mr_47 hq dmX13_unite_37 (fun z5 H locs hM hq => ?_)
    exact mw_vret hx hb hr hlocks hM hq hQQ dmX13_unite_38
  · have hq := tw_if hq hc
    refine lv_aload_n hx hb dmX13_unite_19 rfl (lv_at hl 2 rfl) ?_
    refine mg13_199 hx hb hT hown hK hM dmX13_unite_20 ?_
    refine lv_iload hx hb dmX13_unite_23 (lv_at hl 0 rfl) ?_
    refine lv_iload_n hx hb dmX13_unite_25 rfl (lv_at hl 1 rfl) ?_
    refine tw_iast mX_ok hU hx hb hK hM mr_47 hq dmX13_unite_26 (fun z6 H locs hM hq => ?_)
    refine lv_goto (tgt := 38) hx hb dmX13_unite_27 (by decide) ?_
    exact mw_vret hx hb hr hlocks hM hq hQQ dmX13_unite_38
theorem dmX13_loops_0 : decode cX13_loops 0 = .ok (.iconst 0, 1) := dw_at cX13_loops_k0 (p := 0) rfl (by decide +kernel)
theorem dmX13_loops_1 : decode cX13_loops 1 = .ok (.istore_n 3, 1) := dw_at cX13_loops_k0 (p := 1) rfl (by decide +kernel)
theorem dmX13_loops_2 : decode cX13_loops 2 = .ok (.iload_n 3, 1) := dw_at cX13_loops_k0 (p := 2) rfl (by decide +kernel)
theorem dmX13_loops_3 : decode cX13_loops 3 = .ok (.bipush 48, 2) := dw_at cX13_loops_k0 (p := 3) rfl (by decide +kernel)
theorem dmX13_loops_5 : decode cX13_loops 5 = .ok (.if_icmp .ge 16, 3) := dw_at cX13_loops_k0 (p := 5) rfl (by decide +kernel)
theorem dmX13_loops_8 : decode cX13_loops 8 = .ok (.aload_n 0, 1) := dw_at cX13_loops_k0 (p := 8) rfl (by decide +kernel)
theorem dmX13_loops_9 : decode cX13_loops 9 = .ok (.getfield 199, 3) := dw_at cX13_loops_k0 (p := 9) rfl (by decide +kernel)
theorem dmX13_loops_12 : decode cX13_loops 12 = .ok (.iload_n 3, 1) := dw_at cX13_loops_k0 (p := 12) rfl (by decide +kernel)
theorem dmX13_loops_13 : decode cX13_loops 13 = .ok (.iload_n 3, 1) := dw_at cX13_loops_k0 (p := 13) rfl (by decide +kernel)
theorem dmX13_loops_14 : decode cX13_loops 14 = .ok (.iastore, 1) := dw_at cX13_loops_k0 (p := 14) rfl (by decide +kernel)
theorem dmX13_loops_15 : decode cX13_loops 15 = .ok (.iinc 3 1, 3) := dw_at cX13_loops_k0 (p := 15) rfl (by decide +kernel)
theorem dmX13_loops_18 : decode cX13_loops 18 = .ok (.goto (-16), 3) := dw_at cX13_loops_k0 (p := 18) rfl (by decide +kernel)
theorem dmX13_loops_21 : decode cX13_loops 21 = .ok (.iconst 0, 1) := dw_at cX13_loops_k0 (p := 21) rfl (by decide +kernel)
theorem dmX13_loops_22 : decode cX13_loops 22 = .ok (.istore_n 3, 1) := dw_at cX13_loops_k0 (p := 22) rfl (by decide +kernel)
theorem dmX13_loops_23 : decode cX13_loops 23 = .ok (.iload_n 3, 1) := dw_at cX13_loops_k0 (p := 23) rfl (by decide +kernel)
theorem dmX13_loops_24 : decode cX13_loops 24 = .ok (.aload_n 1, 1) := dw_at cX13_loops_k1 (p := 0) rfl (by decide +kernel)
theorem dmX13_loops_25 : decode cX13_loops 25 = .ok (.getfield 44, 3) := dw_at cX13_loops_k1 (p := 1) rfl (by decide +kernel)
theorem dmX13_loops_28 : decode cX13_loops 28 = .ok (.if_icmp .ge 122, 3) := dw_at cX13_loops_k1 (p := 4) rfl (by decide +kernel)
theorem dmX13_loops_31 : decode cX13_loops 31 = .ok (.aload_n 1, 1) := dw_at cX13_loops_k1 (p := 7) rfl (by decide +kernel)
theorem dmX13_loops_32 : decode cX13_loops 32 = .ok (.getfield 41, 3) := dw_at cX13_loops_k1 (p := 8) rfl (by decide +kernel)
theorem dmX13_loops_35 : decode cX13_loops 35 = .ok (.iload_n 3, 1) := dw_at cX13_loops_k1 (p := 11) rfl (by decide +kernel)
theorem dmX13_loops_36 : decode cX13_loops 36 = .ok (.iaload, 1) := dw_at cX13_loops_k1 (p := 12) rfl (by decide +kernel)
theorem dmX13_loops_37 : decode cX13_loops 37 = .ok (.istore 4, 2) := dw_at cX13_loops_k1 (p := 13) rfl (by decide +kernel)
theorem dmX13_loops_39 : decode cX13_loops 39 = .ok (.aload_n 1, 1) := dw_at cX13_loops_k1 (p := 15) rfl (by decide +kernel)
theorem dmX13_loops_40 : decode cX13_loops 40 = .ok (.getfield 32, 3) := dw_at cX13_loops_k1 (p := 16) rfl (by decide +kernel)
theorem dmX13_loops_43 : decode cX13_loops 43 = .ok (.iload_n 3, 1) := dw_at cX13_loops_k1 (p := 19) rfl (by decide +kernel)
theorem dmX13_loops_44 : decode cX13_loops 44 = .ok (.iaload, 1) := dw_at cX13_loops_k1 (p := 20) rfl (by decide +kernel)
theorem dmX13_loops_45 : decode cX13_loops 45 = .ok (.ifCond .ne 99, 3) := dw_at cX13_loops_k1 (p := 21) rfl (by decide +kernel)
theorem dmX13_loops_48 : decode cX13_loops 48 = .ok (.iload_n 2, 1) := dw_at cX13_loops_k2 (p := 0) rfl (by decide +kernel)
theorem dmX13_loops_49 : decode cX13_loops 49 = .ok (.aload_n 1, 1) := dw_at cX13_loops_k2 (p := 1) rfl (by decide +kernel)
theorem dmX13_loops_50 : decode cX13_loops 50 = .ok (.getfield 23, 3) := dw_at cX13_loops_k2 (p := 2) rfl (by decide +kernel)
theorem dmX13_loops_53 : decode cX13_loops 53 = .ok (.iload_n 3, 1) := dw_at cX13_loops_k2 (p := 5) rfl (by decide +kernel)
theorem dmX13_loops_54 : decode cX13_loops 54 = .ok (.iaload, 1) := dw_at cX13_loops_k2 (p := 6) rfl (by decide +kernel)
theorem dmX13_loops_55 : decode cX13_loops 55 = .ok (.ishr, 1) := dw_at cX13_loops_k2 (p := 7) rfl (by decide +kernel)
theorem dmX13_loops_56 : decode cX13_loops 56 = .ok (.iconst 1, 1) := dw_at cX13_loops_k2 (p := 8) rfl (by decide +kernel)
theorem dmX13_loops_57 : decode cX13_loops 57 = .ok (.iand, 1) := dw_at cX13_loops_k2 (p := 9) rfl (by decide +kernel)
theorem dmX13_loops_58 : decode cX13_loops 58 = .ok (.iconst 1, 1) := dw_at cX13_loops_k2 (p := 10) rfl (by decide +kernel)
theorem dmX13_loops_59 : decode cX13_loops 59 = .ok (.if_icmp .ne 7, 3) := dw_at cX13_loops_k2 (p := 11) rfl (by decide +kernel)
theorem dmX13_loops_62 : decode cX13_loops 62 = .ok (.iconst 1, 1) := dw_at cX13_loops_k2 (p := 14) rfl (by decide +kernel)
theorem dmX13_loops_63 : decode cX13_loops 63 = .ok (.goto 4, 3) := dw_at cX13_loops_k2 (p := 15) rfl (by decide +kernel)
theorem dmX13_loops_66 : decode cX13_loops 66 = .ok (.iconst 0, 1) := dw_at cX13_loops_k2 (p := 18) rfl (by decide +kernel)
theorem dmX13_loops_67 : decode cX13_loops 67 = .ok (.istore 5, 2) := dw_at cX13_loops_k2 (p := 19) rfl (by decide +kernel)
theorem dmX13_loops_69 : decode cX13_loops 69 = .ok (.aload_n 1, 1) := dw_at cX13_loops_k2 (p := 21) rfl (by decide +kernel)
theorem dmX13_loops_70 : decode cX13_loops 70 = .ok (.getfield 35, 3) := dw_at cX13_loops_k2 (p := 22) rfl (by decide +kernel)
theorem dmX13_loops_73 : decode cX13_loops 73 = .ok (.aload_n 1, 1) := dw_at cX13_loops_k3 (p := 0) rfl (by decide +kernel)
theorem dmX13_loops_74 : decode cX13_loops 74 = .ok (.getfield 23, 3) := dw_at cX13_loops_k3 (p := 1) rfl (by decide +kernel)
theorem dmX13_loops_77 : decode cX13_loops 77 = .ok (.iload_n 3, 1) := dw_at cX13_loops_k3 (p := 4) rfl (by decide +kernel)
theorem dmX13_loops_78 : decode cX13_loops 78 = .ok (.iaload, 1) := dw_at cX13_loops_k3 (p := 5) rfl (by decide +kernel)
theorem dmX13_loops_79 : decode cX13_loops 79 = .ok (.iaload, 1) := dw_at cX13_loops_k3 (p := 6) rfl (by decide +kernel)
theorem dmX13_loops_80 : decode cX13_loops 80 = .ok (.ifCond .le 7, 3) := dw_at cX13_loops_k3 (p := 7) rfl (by decide +kernel)
theorem dmX13_loops_83 : decode cX13_loops 83 = .ok (.iconst 1, 1) := dw_at cX13_loops_k3 (p := 10) rfl (by decide +kernel)
theorem dmX13_loops_84 : decode cX13_loops 84 = .ok (.goto 4, 3) := dw_at cX13_loops_k3 (p := 11) rfl (by decide +kernel)
theorem dmX13_loops_87 : decode cX13_loops 87 = .ok (.iconst 0, 1) := dw_at cX13_loops_k3 (p := 14) rfl (by decide +kernel)
theorem dmX13_loops_88 : decode cX13_loops 88 = .ok (.iload 5, 2) := dw_at cX13_loops_k3 (p := 15) rfl (by decide +kernel)
theorem dmX13_loops_90 : decode cX13_loops 90 = .ok (.if_icmp .eq 30, 3) := dw_at cX13_loops_k3 (p := 17) rfl (by decide +kernel)
theorem dmX13_loops_93 : decode cX13_loops 93 = .ok (.aload_n 0, 1) := dw_at cX13_loops_k3 (p := 20) rfl (by decide +kernel)
theorem dmX13_loops_94 : decode cX13_loops 94 = .ok (.aload_n 1, 1) := dw_at cX13_loops_k3 (p := 21) rfl (by decide +kernel)
theorem dmX13_loops_95 : decode cX13_loops 95 = .ok (.getfield 581, 3) := dw_at cX13_loops_k3 (p := 22) rfl (by decide +kernel)
theorem dmX13_loops_98 : decode cX13_loops 98 = .ok (.iload_n 3, 1) := dw_at cX13_loops_k4 (p := 0) rfl (by decide +kernel)
theorem dmX13_loops_99 : decode cX13_loops 99 = .ok (.iaload, 1) := dw_at cX13_loops_k4 (p := 1) rfl (by decide +kernel)
theorem dmX13_loops_100 : decode cX13_loops 100 = .ok (.iload 4, 2) := dw_at cX13_loops_k4 (p := 2) rfl (by decide +kernel)
theorem dmX13_loops_102 : decode cX13_loops 102 = .ok (.invokevirtual 584, 3) := dw_at cX13_loops_k4 (p := 4) rfl (by decide +kernel)
theorem dmX13_loops_105 : decode cX13_loops 105 = .ok (.aload_n 0, 1) := dw_at cX13_loops_k4 (p := 7) rfl (by decide +kernel)
theorem dmX13_loops_106 : decode cX13_loops 106 = .ok (.aload_n 1, 1) := dw_at cX13_loops_k4 (p := 8) rfl (by decide +kernel)
theorem dmX13_loops_107 : decode cX13_loops 107 = .ok (.getfield 581, 3) := dw_at cX13_loops_k4 (p := 9) rfl (by decide +kernel)
theorem dmX13_loops_110 : decode cX13_loops 110 = .ok (.iload 4, 2) := dw_at cX13_loops_k4 (p := 12) rfl (by decide +kernel)
theorem dmX13_loops_112 : decode cX13_loops 112 = .ok (.iaload, 1) := dw_at cX13_loops_k4 (p := 14) rfl (by decide +kernel)
theorem dmX13_loops_113 : decode cX13_loops 113 = .ok (.iload_n 3, 1) := dw_at cX13_loops_k4 (p := 15) rfl (by decide +kernel)
theorem dmX13_loops_114 : decode cX13_loops 114 = .ok (.invokevirtual 584, 3) := dw_at cX13_loops_k4 (p := 16) rfl (by decide +kernel)
theorem dmX13_loops_117 : decode cX13_loops 117 = .ok (.goto 27, 3) := dw_at cX13_loops_k4 (p := 19) rfl (by decide +kernel)
theorem dmX13_loops_120 : decode cX13_loops 120 = .ok (.aload_n 0, 1) := dw_at cX13_loops_k4 (p := 22) rfl (by decide +kernel)
theorem dmX13_loops_121 : decode cX13_loops 121 = .ok (.aload_n 1, 1) := dw_at cX13_loops_k4 (p := 23) rfl (by decide +kernel)
theorem dmX13_loops_122 : decode cX13_loops 122 = .ok (.getfield 581, 3) := dw_at cX13_loops_k5 (p := 0) rfl (by decide +kernel)
theorem dmX13_loops_125 : decode cX13_loops 125 = .ok (.iload_n 3, 1) := dw_at cX13_loops_k5 (p := 3) rfl (by decide +kernel)
theorem dmX13_loops_126 : decode cX13_loops 126 = .ok (.iaload, 1) := dw_at cX13_loops_k5 (p := 4) rfl (by decide +kernel)
theorem dmX13_loops_127 : decode cX13_loops 127 = .ok (.aload_n 1, 1) := dw_at cX13_loops_k5 (p := 5) rfl (by decide +kernel)
theorem dmX13_loops_128 : decode cX13_loops 128 = .ok (.getfield 581, 3) := dw_at cX13_loops_k5 (p := 6) rfl (by decide +kernel)
theorem dmX13_loops_131 : decode cX13_loops 131 = .ok (.iload 4, 2) := dw_at cX13_loops_k5 (p := 9) rfl (by decide +kernel)
theorem dmX13_loops_133 : decode cX13_loops 133 = .ok (.iaload, 1) := dw_at cX13_loops_k5 (p := 11) rfl (by decide +kernel)
theorem dmX13_loops_134 : decode cX13_loops 134 = .ok (.invokevirtual 584, 3) := dw_at cX13_loops_k5 (p := 12) rfl (by decide +kernel)
theorem dmX13_loops_137 : decode cX13_loops 137 = .ok (.aload_n 0, 1) := dw_at cX13_loops_k5 (p := 15) rfl (by decide +kernel)
theorem dmX13_loops_138 : decode cX13_loops 138 = .ok (.iload_n 3, 1) := dw_at cX13_loops_k5 (p := 16) rfl (by decide +kernel)
theorem dmX13_loops_139 : decode cX13_loops 139 = .ok (.iload 4, 2) := dw_at cX13_loops_k5 (p := 17) rfl (by decide +kernel)
theorem dmX13_loops_141 : decode cX13_loops 141 = .ok (.invokevirtual 584, 3) := dw_at cX13_loops_k5 (p := 19) rfl (by decide +kernel)
theorem dmX13_loops_144 : decode cX13_loops 144 = .ok (.iinc 3 1, 3) := dw_at cX13_loops_k5 (p := 22) rfl (by decide +kernel)
theorem dmX13_loops_147 : decode cX13_loops 147 = .ok (.goto (-124), 3) := dw_at cX13_loops_k5 (p := 25) rfl (by decide +kernel)
theorem dmX13_loops_150 : decode cX13_loops 150 = .ok (.return_, 1) := dw_at cX13_loops_k5 (p := 28) rfl (by decide +kernel)
def qm_X13_loops_0 (K : Nat) (go : Nat → Int32 → Int32 → Int32 → Int32 → Nat → Int32 → ow_MS → Option ow_MS) (x2 : Int32) (x3 : Int32) (x4 : Int32) (x5 : Int32) (r1 : Nat) (t0 : Int32) (z : ow_MS) : Option ow_MS :=
 go 1 x2 0 0 0 r1 0 z
def qm_X13_loops_1 (K : Nat) (go : Nat → Int32 → Int32 → Int32 → Int32 → Nat → Int32 → ow_MS → Option ow_MS) (x2 : Int32) (x3 : Int32) (x4 : Int32) (x5 : Int32) (r1 : Nat) (t0 : Int32) (z : ow_MS) : Option ow_MS :=
 (if 48 ≤ x3 then go 2 x2 0 0 0 r1 0 z
 else wrI mX z 47 x3 x3 fun z1 => go 1 x2 (x3 + 1) 0 0 r1 0 z1)
def qm_X13_loops_2 (K : Nat) (go : Nat → Int32 → Int32 → Int32 → Int32 → Nat → Int32 → ow_MS → Option ow_MS) (x2 : Int32) (x3 : Int32) (x4 : Int32) (x5 : Int32) (r1 : Nat) (t0 : Int32) (z : ow_MS) : Option ow_MS :=
 rdF z (r1 + 1) fun v2 => (if v2 ≤ x3 then some z
 else rdI mX z (r1 + 7) x3 fun v3 => rdI mX z (r1 + 5) x3 fun v4 => (if v4 = 0 then rdI mX z (r1 + 4) x3 fun v5 => (if (((x2 : Int32) >>> ((v5 : Int32) &&& 31)) &&& 1) = 1 then go 3 x2 x3 v3 0 r1 1 z
 else go 3 x2 x3 v3 0 r1 0 z)
 else go 5 x2 x3 v3 0 r1 0 z))
def qm_X13_loops_3 (K : Nat) (go : Nat → Int32 → Int32 → Int32 → Int32 → Nat → Int32 → ow_MS → Option ow_MS) (x2 : Int32) (x3 : Int32) (x4 : Int32) (x5 : Int32) (r1 : Nat) (t0 : Int32) (z : ow_MS) : Option ow_MS :=
 rdI mX z (r1 + 4) x3 fun v6 => rdI mX z (r1 + 6) v6 fun v7 => (if v7 ≤ 0 then go 4 x2 x3 x4 t0 r1 0 z
 else go 4 x2 x3 x4 t0 r1 1 z)
def qm_X13_loops_4 (K : Nat) (go : Nat → Int32 → Int32 → Int32 → Int32 → Nat → Int32 → ow_MS → Option ow_MS) (x2 : Int32) (x3 : Int32) (x4 : Int32) (x5 : Int32) (r1 : Nat) (t0 : Int32) (z : ow_MS) : Option ow_MS :=
 (if t0 = x5 then rdI mX z (r1 + 10) x3 fun v8 => rdI mX z (r1 + 10) x4 fun v9 => cs0 (qe_X13_unite K v8 v9 z) fun z10 => cs0 (qe_X13_unite K x3 x4 z10) fun z11 => go 5 x2 x3 x4 0 r1 0 z11
 else rdI mX z (r1 + 10) x3 fun v12 => cs0 (qe_X13_unite K v12 x4 z) fun z13 => rdI mX z13 (r1 + 10) x4 fun v14 => cs0 (qe_X13_unite K v14 x3 z13) fun z15 => go 5 x2 x3 x4 0 r1 0 z15)
def qm_X13_loops_5 (K : Nat) (go : Nat → Int32 → Int32 → Int32 → Int32 → Nat → Int32 → ow_MS → Option ow_MS) (x2 : Int32) (x3 : Int32) (x4 : Int32) (x5 : Int32) (r1 : Nat) (t0 : Int32) (z : ow_MS) : Option ow_MS :=
 go 2 x2 (x3 + 1) 0 0 r1 0 z
def qb_X13_loops (K : Nat) (go : Nat → Int32 → Int32 → Int32 → Int32 → Nat → Int32 → ow_MS → Option ow_MS) (L : Nat) (x2 : Int32) (x3 : Int32) (x4 : Int32) (x5 : Int32) (r1 : Nat) (t0 : Int32) (z : ow_MS) : Option ow_MS := match L with
  | 0 => qm_X13_loops_0 K go x2 x3 x4 x5 r1 t0 z
  | 1 => qm_X13_loops_1 K go x2 x3 x4 x5 r1 t0 z
  | 2 => qm_X13_loops_2 K go x2 x3 x4 x5 r1 t0 z
  | 3 => qm_X13_loops_3 K go x2 x3 x4 x5 r1 t0 z
  | 4 => qm_X13_loops_4 K go x2 x3 x4 x5 r1 t0 z
  | 5 => qm_X13_loops_5 K go x2 x3 x4 x5 r1 t0 z
  | _ => none
def q_X13_loops (K : Nat) : Nat → Nat → Int32 → Int32 → Int32 → Int32 → Nat → Int32 → ow_MS → Option ow_MS
  | 0 => fun _ _ _ _ _ _ _ _ => none
  | k + 1 => qb_X13_loops K (q_X13_loops K k)
def qe_X13_loops (K : Nat) (r1 : Nat) (x2 : Int32) (z : ow_MS) : Option ow_MS := q_X13_loops K K 0 x2 0 0 0 r1 0 z
abbrev wm_X13_loops : List Cond := .code yX13_loops cX13_loops 6 none :: wM
theorem cd_X13_loops : yX13_loops.cls = RX13 ∧ yX13_loops.cls ≠ "java/lang/invoke/MethodHandle" ∧ yX13_loops.cls ≠ "java/lang/invoke/VarHandle" ∧ (parseMethodDescriptor yX13_loops.desc).map (fun d => d.parameters.length) = some 2 := by decide +kernel
set_option maxHeartbeats 4000000 in
set_option maxRecDepth 100000 in
theorem km_X13_loops (l : Launch) (D : va_G) (q : ow_Q5) (u : Nat → Nat) (hU : tw_inj mX u) (K : Nat) (r1 : Nat) (x2 : Int32) (hr1 : mw_net r1) (z z1 : ow_MS) (hq : qe_X13_loops K r1 x2 z = some z1) : Met l yX13_loops wm_X13_loops ({ frames := 2, cells := 0, slots := 0, locals := 46 } : Room) (va_Pc [.ref (u 0), .ref (u r1), .int x2] (mw_pre D q u z)) (va_Qv (fun (_ : Unit) => True) (fun _ t => va_P D vwCl (tw mX q u z1) t.heap) (tw_A mX u)) 0 0 (tw_A mX u) := by
  refine Met.ofW (cc := cX13_loops) (maxL := 6) (ret := none) (by decide) rfl ?_
  intro p e s m args below meth c s₁ B hml hv
  obtain ⟨rfl, hP, hK, hN⟩ := hv
  have hx := B.exec
  have hb := B.bytes
  have hr := B.returns
  have hts := atoms_spec (ws := wm_X13_loops) B.pre
  have hT : ∀ w ∈ wM, w.before ([.ref (u 0), .ref (u r1), .int x2] : List Value).toArray s = true := fun w h => hts w (List.mem_cons_of_mem _ h)
  have hown : s.vm.findClass RX13 = some m.cls := findClass_of_methodNamed B.named
  have hlocks := B.notSynchronized
  have hM : tw_M D vwCl mX q s.heap u z s.heap [] := ⟨hP, va_S.rf⟩
  have hl := lv_entry ([.ref (u 0), .ref (u r1), .int x2]) (n := 6) (Nat.le_of_ble_eq_true rfl)
  rw [lg_entry_eq]
  generalize (lg_sl ([.ref (u 0), .ref (u r1), .int x2]) ++ List.replicate (6 - (lg_sl ([.ref (u 0), .ref (u r1), .int x2])).length) Slot.unset).toArray = ls at hl ⊢
  have hl : lv_has ls 6 [(0, .ref (u 0)), (1, .ref (u r1)), (2, .int x2)] := hl
  refine ow_named (fun QQ hQQ => ?_)
  generalize ([.ref (u 0), .ref (u r1), .int x2] : List Value).toArray = args at hts hT hQQ ⊢
  have key : ∀ k : Nat, (∀ (x2 : Int32) (x3 : Int32) (x4 : Int32) (x5 : Int32) (r1 : Nat) (t0 : Int32) (z : ow_MS) (H : Heap) (locs : List Loc) (ls : Array Slot), mw_net r1 → tw_M D vwCl mX q s.heap u z H locs → lv_has ls 6 [(0, .ref (u 0)), (1, .ref (u r1)), (2, .int x2)] → q_X13_loops K k 0 x2 x3 x4 x5 r1 t0 z = some z1 → W p l e ({ frames := 2, cells := 0, slots := 0, locals := 46 } : Room) s m args below meth c H locs 0 0 QQ (F0 m 0 ls [])) ∧ (∀ (x2 : Int32) (x3 : Int32) (x4 : Int32) (x5 : Int32) (r1 : Nat) (t0 : Int32) (z : ow_MS) (H : Heap) (locs : List Loc) (ls : Array Slot), mw_net r1 → tw_M D vwCl mX q s.heap u z H locs → lv_has ls 6 [(0, .ref (u 0)), (1, .ref (u r1)), (2, .int x2), (3, .int x3)] → q_X13_loops K k 1 x2 x3 x4 x5 r1 t0 z = some z1 → W p l e ({ frames := 2, cells := 0, slots := 0, locals := 46 } : Room) s m args below meth c H locs 0 0 QQ (F0 m 2 ls [])) ∧ (∀ (x2 : Int32) (x3 : Int32) (x4 : Int32) (x5 : Int32) (r1 : Nat) (t0 : Int32) (z : ow_MS) (H : Heap) (locs : List Loc) (ls : Array Slot), mw_net r1 → tw_M D vwCl mX q s.heap u z H locs → lv_has ls 6 [(0, .ref (u 0)), (1, .ref (u r1)), (2, .int x2), (3, .int x3)] → q_X13_loops K k 2 x2 x3 x4 x5 r1 t0 z = some z1 → W p l e ({ frames := 2, cells := 0, slots := 0, locals := 46 } : Room) s m args below meth c H locs 0 0 QQ (F0 m 23 ls [])) ∧ (∀ (x2 : Int32) (x3 : Int32) (x4 : Int32) (x5 : Int32) (r1 : Nat) (t0 : Int32) (z : ow_MS) (H : Heap) (locs : List Loc) (ls : Array Slot), mw_net r1 → tw_M D vwCl mX q s.heap u z H locs → lv_has ls 6 [(0, .ref (u 0)), (1, .ref (u r1)), (2, .int x2), (3, .int x3), (4, .int x4)] → q_X13_loops K k 3 x2 x3 x4 x5 r1 t0 z = some z1 → W p l e ({ frames := 2, cells := 0, slots := 0, locals := 46 } : Room) s m args below meth c H locs 0 0 QQ (F0 m 67 ls [.int t0])) ∧ (∀ (x2 : Int32) (x3 : Int32) (x4 : Int32) (x5 : Int32) (r1 : Nat) (t0 : Int32) (z : ow_MS) (H : Heap) (locs : List Loc) (ls : Array Slot), mw_net r1 → tw_M D vwCl mX q s.heap u z H locs → lv_has ls 6 [(0, .ref (u 0)), (1, .ref (u r1)), (2, .int x2), (3, .int x3), (4, .int x4), (5, .int x5)] → q_X13_loops K k 4 x2 x3 x4 x5 r1 t0 z = some z1 → W p l e ({ frames := 2, cells := 0, slots := 0, locals := 46 } : Room) s m args below meth c H locs 0 0 QQ (F0 m 88 ls [.int t0])) ∧ (∀ (x2 : Int32) (x3 : Int32) (x4 : Int32) (x5 : Int32) (r1 : Nat) (t0 : Int32) (z : ow_MS) (H : Heap) (locs : List Loc) (ls : Array Slot), mw_net r1 → tw_M D vwCl mX q s.heap u z H locs → lv_has ls 6 [(0, .ref (u 0)), (1, .ref (u r1)), (2, .int x2), (3, .int x3), (4, .int x4)] → q_X13_loops K k 5 x2 x3 x4 x5 r1 t0 z = some z1 → W p l e ({ frames := 2, cells := 0, slots := 0, locals := 46 } : Room) s m args below meth c H locs 0 0 QQ (F0 m 144 ls [])) := by
    intro k
    induction k with
    | zero => exact ⟨fun _ _ _ _ _ _ _ _ _ _ _ _ _ hq => tw_no hq, fun _ _ _ _ _ _ _ _ _ _ _ _ _ hq => tw_no hq, fun _ _ _ _ _ _ _ _ _ _ _ _ _ hq => tw_no hq, fun _ _ _ _ _ _ _ _ _ _ _ _ _ hq => tw_no hq, fun _ _ _ _ _ _ _ _ _ _ _ _ _ hq => tw_no hq, fun _ _ _ _ _ _ _ _ _ _ _ _ _ hq => tw_no hq⟩
    | succ k ih =>
      obtain ⟨ih_0, ih_1, ih_2, ih_3, ih_4, ih_5⟩ := ih
      refine ⟨?_, ?_, ?_, ?_, ?_, ?_⟩
      · intro x2 x3 x4 x5 r1 t0 z H locs ls hr1 hM hl hq
        have hq : qm_X13_loops_0 K (q_X13_loops K k) x2 x3 x4 x5 r1 t0 z = some z1 := hq
        unfold qm_X13_loops_0 at hq
        refine lv_iconst (v := 0) hx hb dmX13_loops_0 (by decide) ?_
        refine lv_istore_n (lv' := [(3, .int 0), (0, .ref (u 0)), (1, .ref (u r1)), (2, .int x2)]) hx hb dmX13_loops_1 rfl hl (by decide) rfl (fun ls hl => ?_)
        exact ih_1 x2 0 0 0 r1 0 z H locs ls hr1 hM (lv_sub hl [1, 2, 3, 0] rfl) hq
      · intro x2 x3 x4 x5 r1 t0 z H locs ls hr1 hM hl hq
        have hq : qm_X13_loops_1 K (q_X13_loops K k) x2 x3 x4 x5 r1 t0 z = some z1 := hq
        unfold qm_X13_loops_1 at hq
        refine lv_iload_n hx hb dmX13_loops_2 rfl (lv_at hl 3 rfl) ?_
        refine lv_bipush (v := 48) hx hb dmX13_loops_3 (by decide) ?_
        refine lv_icmp_ge (tgt := 21) hx hb dmX13_loops_5 (by decide) (fun hc => ?_) (fun hc => ?_)
        · have hq := tw_it hq hc
          refine lv_iconst (v := 0) hx hb dmX13_loops_21 (by decide) ?_
          refine lv_istore_n (lv' := [(3, .int 0), (0, .ref (u 0)), (1, .ref (u r1)), (2, .int x2)]) hx hb dmX13_loops_22 rfl hl (by decide) rfl (fun ls hl => ?_)
          exact ih_2 x2 0 0 0 r1 0 z H locs ls hr1 hM (lv_sub hl [1, 2, 3, 0] rfl) hq
        · have hq := tw_if hq hc
          refine lv_aload_n hx hb dmX13_loops_8 rfl (lv_at hl 0 rfl) ?_
          refine mg13_199 hx hb hT hown hK hM dmX13_loops_9 ?_
          refine lv_iload_n hx hb dmX13_loops_12 rfl (lv_at hl 3 rfl) ?_
          refine lv_iload_n hx hb dmX13_loops_13 rfl (lv_at hl 3 rfl) ?_
          refine tw_iast mX_ok hU hx hb hK hM mr_47 hq dmX13_loops_14 (fun z1 H locs hM hq => ?_)
          refine lv_iinc (v := (x3 + 1)) (lv' := [(3, .int (x3 + 1)), (0, .ref (u 0)), (1, .ref (u r1)), (2, .int x2)]) hx hb dmX13_loops_15 hl (k := 3) rfl rfl (by decide) rfl (fun ls hl => ?_)
          refine lv_goto (tgt := 2) hx hb dmX13_loops_18 (by decide) ?_
          exact ih_1 x2 (x3 + 1) 0 0 r1 0 z1 H locs ls hr1 hM (lv_sub hl [1, 2, 3, 0] rfl) hq
      · intro x2 x3 x4 x5 r1 t0 z H locs ls hr1 hM hl hq
        have hq : qm_X13_loops_2 K (q_X13_loops K k) x2 x3 x4 x5 r1 t0 z = some z1 := hq
        unfold qm_X13_loops_2 at hq
        refine lv_iload_n hx hb dmX13_loops_23 rfl (lv_at hl 3 rfl) ?_
        refine lv_aload_n hx hb dmX13_loops_24 rfl (lv_at hl 1 rfl) ?_
        refine mg13_44 hx hb hT hown hK hM hN hr1 hq dmX13_loops_25 (fun v2 hq => ?_)
        refine lv_icmp_ge (tgt := 150) hx hb dmX13_loops_28 (by decide) (fun hc => ?_) (fun hc => ?_)
        · have hq := tw_it hq hc
          exact mw_vret hx hb hr hlocks hM hq hQQ dmX13_loops_150
        · have hq := tw_if hq hc
          refine lv_aload_n hx hb dmX13_loops_31 rfl (lv_at hl 1 rfl) ?_
          refine mg13_41 hx hb hT hown hK hM hN hr1 dmX13_loops_32 ?_
          refine lv_iload_n hx hb dmX13_loops_35 rfl (lv_at hl 3 rfl) ?_
          refine tw_iald mX_ok hx hb hK hM (mrn_7 hr1) hq dmX13_loops_36 (fun v3 hq => ?_)
          refine lv_istore (lv' := [(4, .int v3), (0, .ref (u 0)), (1, .ref (u r1)), (2, .int x2), (3, .int x3)]) hx hb dmX13_loops_37 hl (by decide) rfl (fun ls hl => ?_)
          refine lv_aload_n hx hb dmX13_loops_39 rfl (lv_at hl 2 rfl) ?_
          refine mg13_32 hx hb hT hown hK hM hN hr1 dmX13_loops_40 ?_
          refine lv_iload_n hx hb dmX13_loops_43 rfl (lv_at hl 4 rfl) ?_
          refine tw_iald mX_ok hx hb hK hM (mrn_5 hr1) hq dmX13_loops_44 (fun v4 hq => ?_)
          refine lv_if_ne (tgt := 144) hx hb dmX13_loops_45 (by decide) (fun hc => ?_) (fun hc => ?_)
          · have hq := tw_if hq hc
            exact ih_5 x2 x3 v3 0 r1 0 z H locs ls hr1 hM (lv_sub hl [1, 2, 3, 4, 0] rfl) hq
          · have hq := tw_it hq hc
            refine lv_iload_n hx hb dmX13_loops_48 rfl (lv_at hl 3 rfl) ?_
            refine lv_aload_n hx hb dmX13_loops_49 rfl (lv_at hl 2 rfl) ?_
            refine mg13_23 hx hb hT hown hK hM hN hr1 dmX13_loops_50 ?_
            refine lv_iload_n hx hb dmX13_loops_53 rfl (lv_at hl 4 rfl) ?_
            refine tw_iald mX_ok hx hb hK hM (mrn_4 hr1) hq dmX13_loops_54 (fun v5 hq => ?_)
            refine lv_ishr hx hb dmX13_loops_55 ?_
            refine lv_iconst (v := 1) hx hb dmX13_loops_56 (by decide) ?_
            refine lv_iand hx hb dmX13_loops_57 ?_
            refine lv_iconst (v := 1) hx hb dmX13_loops_58 (by decide) ?_
            refine lv_icmp_ne (tgt := 66) hx hb dmX13_loops_59 (by decide) (fun hc => ?_) (fun hc => ?_)
            · have hq := tw_if hq hc
              refine lv_iconst (v := 0) hx hb dmX13_loops_66 (by decide) ?_
              exact ih_3 x2 x3 v3 0 r1 0 z H locs ls hr1 hM (lv_sub hl [1, 2, 3, 4, 0] rfl) hq
            · have hq := tw_it hq hc
              refine lv_iconst (v := 1) hx hb dmX13_loops_62 (by decide) ?_
              refine lv_goto (tgt := 67) hx hb dmX13_loops_63 (by decide) ?_
              exact ih_3 x2 x3 v3 0 r1 1 z H locs ls hr1 hM (lv_sub hl [1, 2, 3, 4, 0] rfl) hq
      · intro x2 x3 x4 x5 r1 t0 z H locs ls hr1 hM hl hq
        have hq : qm_X13_loops_3 K (q_X13_loops K k) x2 x3 x4 x5 r1 t0 z = some z1 := hq
        unfold qm_X13_loops_3 at hq
        refine lv_istore (lv' := [(5, .int t0), (0, .ref (u 0)), (1, .ref (u r1)), (2, .int x2), (3, .int x3), (4, .int x4)]) hx hb dmX13_loops_67 hl (by decide) rfl (fun ls hl => ?_)
        refine lv_aload_n hx hb dmX13_loops_69 rfl (lv_at hl 2 rfl) ?_
        refine mg13_35 hx hb hT hown hK hM hN hr1 dmX13_loops_70 ?_
        refine lv_aload_n hx hb dmX13_loops_73 rfl (lv_at hl 2 rfl) ?_
        refine mg13_23 hx hb hT hown hK hM hN hr1 dmX13_loops_74 ?_
        refine lv_iload_n hx hb dmX13_loops_77 rfl (lv_at hl 4 rfl) ?_
        refine tw_iald mX_ok hx hb hK hM (mrn_4 hr1) hq dmX13_loops_78 (fun v6 hq => ?_)
        refine tw_iald mX_ok hx hb hK hM (mrn_6 hr1) hq dmX13_loops_79 (fun v7 hq => ?_)
        refine lv_if_le (tgt := 87) hx hb dmX13_loops_80 (by decide) (fun hc => ?_) (fun hc => ?_)
        · have hq := tw_it hq hc
          refine lv_iconst (v := 0) hx hb dmX13_loops_87 (by decide) ?_
          exact ih_4 x2 x3 x4 t0 r1 0 z H locs ls hr1 hM (lv_sub hl [1, 2, 3, 4, 5, 0] rfl) hq
        · have hq := tw_if hq hc
          refine lv_iconst (v := 1) hx hb dmX13_loops_83 (by decide) ?_
          refine lv_goto (tgt := 88) hx hb dmX13_loops_84 (by decide) ?_
          exact ih_4 x2 x3 x4 t0 r1 1 z H locs ls hr1 hM (lv_sub hl [1, 2, 3, 4, 5, 0] rfl) hq
      · intro x2 x3 x4 x5 r1 t0 z H locs ls hr1 hM hl hq
        have hq : qm_X13_loops_4 K (q_X13_loops K k) x2 x3 x4 x5 r1 t0 z = some z1 := hq
        unfold qm_X13_loops_4 at hq
        refine lv_iload hx hb dmX13_loops_88 (lv_at hl 5 rfl) ?_
        refine lv_icmp_eq (tgt := 120) hx hb dmX13_loops_90 (by decide) (fun hc => ?_) (fun hc => ?_)
        · have hq := tw_it hq hc
          refine lv_aload_n hx hb dmX13_loops_120 rfl (lv_at hl 0 rfl) ?_
          refine lv_aload_n hx hb dmX13_loops_121 rfl (lv_at hl 1 rfl) ?_
          refine mg13_581 hx hb hT hown hK hM hN hr1 dmX13_loops_122 ?_
          refine lv_iload_n hx hb dmX13_loops_125 rfl (lv_at hl 3 rfl) ?_
          refine tw_iald mX_ok hx hb hK hM (mrn_10 hr1) hq dmX13_loops_126 (fun v8 hq => ?_)
          refine lv_aload_n hx hb dmX13_loops_127 rfl (lv_at hl 1 rfl) ?_
          refine mg13_581 hx hb hT hown hK hM hN hr1 dmX13_loops_128 ?_
          refine lv_iload hx hb dmX13_loops_131 (lv_at hl 4 rfl) ?_
          refine tw_iald mX_ok hx hb hK hM (mrn_10 hr1) hq dmX13_loops_133 (fun v9 hq => ?_)
          obtain ⟨z10, hcq, hq⟩ := tw_cl0 hq
          refine tw_calv hM (va_runV (As := [.int v8, .int v9]) (rest := []) ⟨hx, hb, hml, hown, hts⟩ (km_X13_unite l D q u hU K v8 v9 z z10 hcq) (cwV 2 hts (tw_gV wM_good wq_296 wq_297 wq_298 wq_61 wq_295) rfl rfl rfl cd_X13_unite ⟨(Nat.le_of_ble_eq_true rfl), (Nat.le_of_ble_eq_true rfl)⟩) (mw_preV hK hN hM mo_0 rfl) rfl rfl hl.1 rfl (lv_room (Nat.le_of_ble_eq_true rfl)) dmX13_loops_134 ⟨(Nat.le_of_ble_eq_true rfl), (Nat.le_of_ble_eq_true rfl)⟩) (fun H locs hM => ?_)
          refine lv_aload_n hx hb dmX13_loops_137 rfl (lv_at hl 0 rfl) ?_
          refine lv_iload_n hx hb dmX13_loops_138 rfl (lv_at hl 3 rfl) ?_
          refine lv_iload hx hb dmX13_loops_139 (lv_at hl 4 rfl) ?_
          obtain ⟨z11, hcq, hq⟩ := tw_cl0 hq
          refine tw_calv hM (va_runV (As := [.int x3, .int x4]) (rest := []) ⟨hx, hb, hml, hown, hts⟩ (km_X13_unite l D q u hU K x3 x4 z10 z11 hcq) (cwV 2 hts (tw_gV wM_good wq_296 wq_297 wq_298 wq_61 wq_295) rfl rfl rfl cd_X13_unite ⟨(Nat.le_of_ble_eq_true rfl), (Nat.le_of_ble_eq_true rfl)⟩) (mw_preV hK hN hM mo_0 rfl) rfl rfl hl.1 rfl (lv_room (Nat.le_of_ble_eq_true rfl)) dmX13_loops_141 ⟨(Nat.le_of_ble_eq_true rfl), (Nat.le_of_ble_eq_true rfl)⟩) (fun H locs hM => ?_)
          exact ih_5 x2 x3 x4 0 r1 0 z11 H locs ls hr1 hM (lv_sub hl [0, 1, 2, 3, 4] rfl) hq
        · have hq := tw_if hq hc
          refine lv_aload_n hx hb dmX13_loops_93 rfl (lv_at hl 0 rfl) ?_
          refine lv_aload_n hx hb dmX13_loops_94 rfl (lv_at hl 1 rfl) ?_
          refine mg13_581 hx hb hT hown hK hM hN hr1 dmX13_loops_95 ?_
          refine lv_iload_n hx hb dmX13_loops_98 rfl (lv_at hl 3 rfl) ?_
          refine tw_iald mX_ok hx hb hK hM (mrn_10 hr1) hq dmX13_loops_99 (fun v12 hq => ?_)
          refine lv_iload hx hb dmX13_loops_100 (lv_at hl 4 rfl) ?_
          obtain ⟨z13, hcq, hq⟩ := tw_cl0 hq
          refine tw_calv hM (va_runV (As := [.int v12, .int x4]) (rest := []) ⟨hx, hb, hml, hown, hts⟩ (km_X13_unite l D q u hU K v12 x4 z z13 hcq) (cwV 2 hts (tw_gV wM_good wq_296 wq_297 wq_298 wq_61 wq_295) rfl rfl rfl cd_X13_unite ⟨(Nat.le_of_ble_eq_true rfl), (Nat.le_of_ble_eq_true rfl)⟩) (mw_preV hK hN hM mo_0 rfl) rfl rfl hl.1 rfl (lv_room (Nat.le_of_ble_eq_true rfl)) dmX13_loops_102 ⟨(Nat.le_of_ble_eq_true rfl), (Nat.le_of_ble_eq_true rfl)⟩) (fun H locs hM => ?_)
          refine lv_aload_n hx hb dmX13_loops_105 rfl (lv_at hl 0 rfl) ?_
          refine lv_aload_n hx hb dmX13_loops_106 rfl (lv_at hl 1 rfl) ?_
          refine mg13_581 hx hb hT hown hK hM hN hr1 dmX13_loops_107 ?_
          refine lv_iload hx hb dmX13_loops_110 (lv_at hl 4 rfl) ?_
          refine tw_iald mX_ok hx hb hK hM (mrn_10 hr1) hq dmX13_loops_112 (fun v14 hq => ?_)
          refine lv_iload_n hx hb dmX13_loops_113 rfl (lv_at hl 3 rfl) ?_
          obtain ⟨z15, hcq, hq⟩ := tw_cl0 hq
          refine tw_calv hM (va_runV (As := [.int v14, .int x3]) (rest := []) ⟨hx, hb, hml, hown, hts⟩ (km_X13_unite l D q u hU K v14 x3 z13 z15 hcq) (cwV 2 hts (tw_gV wM_good wq_296 wq_297 wq_298 wq_61 wq_295) rfl rfl rfl cd_X13_unite ⟨(Nat.le_of_ble_eq_true rfl), (Nat.le_of_ble_eq_true rfl)⟩) (mw_preV hK hN hM mo_0 rfl) rfl rfl hl.1 rfl (lv_room (Nat.le_of_ble_eq_true rfl)) dmX13_loops_114 ⟨(Nat.le_of_ble_eq_true rfl), (Nat.le_of_ble_eq_true rfl)⟩) (fun H locs hM => ?_)
          refine lv_goto (tgt := 144) hx hb dmX13_loops_117 (by decide) ?_
          exact ih_5 x2 x3 x4 0 r1 0 z15 H locs ls hr1 hM (lv_sub hl [0, 1, 2, 3, 4] rfl) hq
      · intro x2 x3 x4 x5 r1 t0 z H locs ls hr1 hM hl hq
        have hq : qm_X13_loops_5 K (q_X13_loops K k) x2 x3 x4 x5 r1 t0 z = some z1 := hq
        unfold qm_X13_loops_5 at hq
        refine lv_iinc (v := (x3 + 1)) (lv' := [(3, .int (x3 + 1)), (0, .ref (u 0)), (1, .ref (u r1)), (2, .int x2), (4, .int x4)]) hx hb dmX13_loops_144 hl (k := 3) rfl rfl (by decide) rfl (fun ls hl => ?_)
        refine lv_goto (tgt := 23) hx hb dmX13_loops_147 (by decide) ?_
        exact ih_2 x2 (x3 + 1) 0 0 r1 0 z H locs ls hr1 hM (lv_sub hl [1, 2, 3, 0] rfl) hq
  exact (key K).1 x2 0 0 0 r1 0 z s.heap [] ls hr1 hM (lv_sub hl [0, 1, 2] rfl) hq
theorem dmX13_countLoops_0 : decode cX13_countLoops 0 = .ok (.iconst 0, 1) := by decide +kernel
theorem dmX13_countLoops_1 : decode cX13_countLoops 1 = .ok (.istore_n 2, 1) := by decide +kernel
theorem dmX13_countLoops_2 : decode cX13_countLoops 2 = .ok (.iconst 0, 1) := by decide +kernel
theorem dmX13_countLoops_3 : decode cX13_countLoops 3 = .ok (.istore_n 3, 1) := by decide +kernel
theorem dmX13_countLoops_4 : decode cX13_countLoops 4 = .ok (.iload_n 3, 1) := by decide +kernel
theorem dmX13_countLoops_5 : decode cX13_countLoops 5 = .ok (.aload_n 1, 1) := by decide +kernel
theorem dmX13_countLoops_6 : decode cX13_countLoops 6 = .ok (.getfield 44, 3) := by decide +kernel
theorem dmX13_countLoops_9 : decode cX13_countLoops 9 = .ok (.if_icmp .ge 27, 3) := by decide +kernel
theorem dmX13_countLoops_12 : decode cX13_countLoops 12 = .ok (.iload_n 2, 1) := by decide +kernel
theorem dmX13_countLoops_13 : decode cX13_countLoops 13 = .ok (.aload_n 0, 1) := by decide +kernel
theorem dmX13_countLoops_14 : decode cX13_countLoops 14 = .ok (.getfield 199, 3) := by decide +kernel
theorem dmX13_countLoops_17 : decode cX13_countLoops 17 = .ok (.iload_n 3, 1) := by decide +kernel
theorem dmX13_countLoops_18 : decode cX13_countLoops 18 = .ok (.iaload, 1) := by decide +kernel
theorem dmX13_countLoops_19 : decode cX13_countLoops 19 = .ok (.iload_n 3, 1) := by decide +kernel
theorem dmX13_countLoops_20 : decode cX13_countLoops 20 = .ok (.if_icmp .ne 7, 3) := by decide +kernel
theorem dmX13_countLoops_23 : decode cX13_countLoops 23 = .ok (.iconst 1, 1) := by decide +kernel
theorem dmX13_countLoops_24 : decode cX13_countLoops 24 = .ok (.goto 4, 3) := by decide +kernel
theorem dmX13_countLoops_27 : decode cX13_countLoops 27 = .ok (.iconst 0, 1) := by decide +kernel
theorem dmX13_countLoops_28 : decode cX13_countLoops 28 = .ok (.iadd, 1) := by decide +kernel
theorem dmX13_countLoops_29 : decode cX13_countLoops 29 = .ok (.istore_n 2, 1) := by decide +kernel
theorem dmX13_countLoops_30 : decode cX13_countLoops 30 = .ok (.iinc 3 1, 3) := by decide +kernel
theorem dmX13_countLoops_33 : decode cX13_countLoops 33 = .ok (.goto (-29), 3) := by decide +kernel
theorem dmX13_countLoops_36 : decode cX13_countLoops 36 = .ok (.iload_n 2, 1) := by decide +kernel
theorem dmX13_countLoops_37 : decode cX13_countLoops 37 = .ok (.ireturn, 1) := by decide +kernel
def qm_X13_countLoops_0 (K : Nat) (go : Nat → Int32 → Int32 → Nat → Int32 → Int32 → ow_MS → Option (Int32 × ow_MS)) (x2 : Int32) (x3 : Int32) (r1 : Nat) (t0 : Int32) (t1 : Int32) (z : ow_MS) : Option (Int32 × ow_MS) :=
 go 1 0 0 r1 0 0 z
def qm_X13_countLoops_1 (K : Nat) (go : Nat → Int32 → Int32 → Nat → Int32 → Int32 → ow_MS → Option (Int32 × ow_MS)) (x2 : Int32) (x3 : Int32) (r1 : Nat) (t0 : Int32) (t1 : Int32) (z : ow_MS) : Option (Int32 × ow_MS) :=
 rdF z (r1 + 1) fun v1 => (if v1 ≤ x3 then some (x2, z)
 else rdI mX z 47 x3 fun v2 => (if v2 = x3 then go 2 x2 x3 r1 1 x2 z
 else go 2 x2 x3 r1 0 x2 z))
def qm_X13_countLoops_2 (K : Nat) (go : Nat → Int32 → Int32 → Nat → Int32 → Int32 → ow_MS → Option (Int32 × ow_MS)) (x2 : Int32) (x3 : Int32) (r1 : Nat) (t0 : Int32) (t1 : Int32) (z : ow_MS) : Option (Int32 × ow_MS) :=
 go 1 (t1 + t0) (x3 + 1) r1 0 0 z
def qb_X13_countLoops (K : Nat) (go : Nat → Int32 → Int32 → Nat → Int32 → Int32 → ow_MS → Option (Int32 × ow_MS)) (L : Nat) (x2 : Int32) (x3 : Int32) (r1 : Nat) (t0 : Int32) (t1 : Int32) (z : ow_MS) : Option (Int32 × ow_MS) := match L with
  | 0 => qm_X13_countLoops_0 K go x2 x3 r1 t0 t1 z
  | 1 => qm_X13_countLoops_1 K go x2 x3 r1 t0 t1 z
  | 2 => qm_X13_countLoops_2 K go x2 x3 r1 t0 t1 z
  | _ => none
def q_X13_countLoops (K : Nat) : Nat → Nat → Int32 → Int32 → Nat → Int32 → Int32 → ow_MS → Option (Int32 × ow_MS)
  | 0 => fun _ _ _ _ _ _ _ => none
  | k + 1 => qb_X13_countLoops K (q_X13_countLoops K k)
def qe_X13_countLoops (K : Nat) (r1 : Nat) (z : ow_MS) : Option (Int32 × ow_MS) := q_X13_countLoops K K 0 0 0 r1 0 0 z
abbrev wm_X13_countLoops : List Cond := .code yX13_countLoops cX13_countLoops 4 (some .int) :: wM
theorem cd_X13_countLoops : yX13_countLoops.cls = RX13 ∧ yX13_countLoops.cls ≠ "java/lang/invoke/MethodHandle" ∧ yX13_countLoops.cls ≠ "java/lang/invoke/VarHandle" ∧ (parseMethodDescriptor yX13_countLoops.desc).map (fun d => d.parameters.length) = some 1 := by decide +kernel
set_option maxHeartbeats 4000000 in
set_option maxRecDepth 100000 in
theorem km_X13_countLoops (l : Launch) (D : va_G) (q : ow_Q5) (u : Nat → Nat) (hU : tw_inj mX u) (K : Nat) (r1 : Nat) (hr1 : mw_net r1) (z z1 : ow_MS) (r : Int32) (hq : qe_X13_countLoops K r1 z = some (r, z1)) : Met l yX13_countLoops wm_X13_countLoops ({ frames := 0, cells := 0, slots := 0, locals := 0 } : Room) (va_Pc [.ref (u 0), .ref (u r1)] (mw_pre D q u z)) (va_Qi (fun x (_ : Unit) => x = r) (fun _ t => va_P D vwCl (tw mX q u z1) t.heap) (tw_A mX u)) 0 0 (tw_A mX u) := by
  refine Met.ofW (cc := cX13_countLoops) (maxL := 4) (ret := (some .int)) (by decide) rfl ?_
  intro p e s m args below meth c s₁ B hml hv
  obtain ⟨rfl, hP, hK, hN⟩ := hv
  have hx := B.exec
  have hb := B.bytes
  have hr := B.returns
  have hts := atoms_spec (ws := wm_X13_countLoops) B.pre
  have hT : ∀ w ∈ wM, w.before ([.ref (u 0), .ref (u r1)] : List Value).toArray s = true := fun w h => hts w (List.mem_cons_of_mem _ h)
  have hown : s.vm.findClass RX13 = some m.cls := findClass_of_methodNamed B.named
  have hlocks := B.notSynchronized
  have hM : tw_M D vwCl mX q s.heap u z s.heap [] := ⟨hP, va_S.rf⟩
  have hl := lv_entry ([.ref (u 0), .ref (u r1)]) (n := 4) (Nat.le_of_ble_eq_true rfl)
  rw [lg_entry_eq]
  generalize (lg_sl ([.ref (u 0), .ref (u r1)]) ++ List.replicate (4 - (lg_sl ([.ref (u 0), .ref (u r1)])).length) Slot.unset).toArray = ls at hl ⊢
  have hl : lv_has ls 4 [(0, .ref (u 0)), (1, .ref (u r1))] := hl
  refine ow_named (fun QQ hQQ => ?_)
  generalize ([.ref (u 0), .ref (u r1)] : List Value).toArray = args at hts hT hQQ ⊢
  have key : ∀ k : Nat, (∀ (x2 : Int32) (x3 : Int32) (r1 : Nat) (t0 : Int32) (t1 : Int32) (z : ow_MS) (H : Heap) (locs : List Loc) (ls : Array Slot), mw_net r1 → tw_M D vwCl mX q s.heap u z H locs → lv_has ls 4 [(0, .ref (u 0)), (1, .ref (u r1))] → q_X13_countLoops K k 0 x2 x3 r1 t0 t1 z = some (r, z1) → W p l e ({ frames := 0, cells := 0, slots := 0, locals := 0 } : Room) s m args below meth c H locs 0 0 QQ (F0 m 0 ls [])) ∧ (∀ (x2 : Int32) (x3 : Int32) (r1 : Nat) (t0 : Int32) (t1 : Int32) (z : ow_MS) (H : Heap) (locs : List Loc) (ls : Array Slot), mw_net r1 → tw_M D vwCl mX q s.heap u z H locs → lv_has ls 4 [(0, .ref (u 0)), (1, .ref (u r1)), (2, .int x2), (3, .int x3)] → q_X13_countLoops K k 1 x2 x3 r1 t0 t1 z = some (r, z1) → W p l e ({ frames := 0, cells := 0, slots := 0, locals := 0 } : Room) s m args below meth c H locs 0 0 QQ (F0 m 4 ls [])) ∧ (∀ (x2 : Int32) (x3 : Int32) (r1 : Nat) (t0 : Int32) (t1 : Int32) (z : ow_MS) (H : Heap) (locs : List Loc) (ls : Array Slot), mw_net r1 → tw_M D vwCl mX q s.heap u z H locs → lv_has ls 4 [(0, .ref (u 0)), (1, .ref (u r1)), (2, .int x2), (3, .int x3)] → q_X13_countLoops K k 2 x2 x3 r1 t0 t1 z = some (r, z1) → W p l e ({ frames := 0, cells := 0, slots := 0, locals := 0 } : Room) s m args below meth c H locs 0 0 QQ (F0 m 28 ls [.int t0, .int t1])) := by
    intro k
    induction k with
    | zero => exact ⟨fun _ _ _ _ _ _ _ _ _ _ _ _ hq => tw_no hq, fun _ _ _ _ _ _ _ _ _ _ _ _ hq => tw_no hq, fun _ _ _ _ _ _ _ _ _ _ _ _ hq => tw_no hq⟩
    | succ k ih =>
      obtain ⟨ih_0, ih_1, ih_2⟩ := ih
      refine ⟨?_, ?_, ?_⟩
      · intro x2 x3 r1 t0 t1 z H locs ls hr1 hM hl hq
        have hq : qm_X13_countLoops_0 K (q_X13_countLoops K k) x2 x3 r1 t0 t1 z = some (r, z1) := hq
        unfold qm_X13_countLoops_0 at hq
        refine lv_iconst (v := 0) hx hb dmX13_countLoops_0 (by decide) ?_
        refine lv_istore_n (lv' := [(2, .int 0), (0, .ref (u 0)), (1, .ref (u r1))]) hx hb dmX13_countLoops_1 rfl hl (by decide) rfl (fun ls hl => ?_)
        refine lv_iconst (v := 0) hx hb dmX13_countLoops_2 (by decide) ?_
        refine lv_istore_n (lv' := [(3, .int 0), (2, .int 0), (0, .ref (u 0)), (1, .ref (u r1))]) hx hb dmX13_countLoops_3 rfl hl (by decide) rfl (fun ls hl => ?_)
        exact ih_1 0 0 r1 0 0 z H locs ls hr1 hM (lv_sub hl [2, 3, 1, 0] rfl) hq
      · intro x2 x3 r1 t0 t1 z H locs ls hr1 hM hl hq
        have hq : qm_X13_countLoops_1 K (q_X13_countLoops K k) x2 x3 r1 t0 t1 z = some (r, z1) := hq
        unfold qm_X13_countLoops_1 at hq
        refine lv_iload_n hx hb dmX13_countLoops_4 rfl (lv_at hl 3 rfl) ?_
        refine lv_aload_n hx hb dmX13_countLoops_5 rfl (lv_at hl 1 rfl) ?_
        refine mg13_44 hx hb hT hown hK hM hN hr1 hq dmX13_countLoops_6 (fun v1 hq => ?_)
        refine lv_icmp_ge (tgt := 36) hx hb dmX13_countLoops_9 (by decide) (fun hc => ?_) (fun hc => ?_)
        · have hq := tw_it hq hc
          refine lv_iload_n hx hb dmX13_countLoops_36 rfl (lv_at hl 2 rfl) ?_
          exact mw_iret hx hb hr hlocks hM hq hQQ dmX13_countLoops_37
        · have hq := tw_if hq hc
          refine lv_iload_n hx hb dmX13_countLoops_12 rfl (lv_at hl 2 rfl) ?_
          refine lv_aload_n hx hb dmX13_countLoops_13 rfl (lv_at hl 0 rfl) ?_
          refine mg13_199 hx hb hT hown hK hM dmX13_countLoops_14 ?_
          refine lv_iload_n hx hb dmX13_countLoops_17 rfl (lv_at hl 3 rfl) ?_
          refine tw_iald mX_ok hx hb hK hM mr_47 hq dmX13_countLoops_18 (fun v2 hq => ?_)
          refine lv_iload_n hx hb dmX13_countLoops_19 rfl (lv_at hl 3 rfl) ?_
          refine lv_icmp_ne (tgt := 27) hx hb dmX13_countLoops_20 (by decide) (fun hc => ?_) (fun hc => ?_)
          · have hq := tw_if hq hc
            refine lv_iconst (v := 0) hx hb dmX13_countLoops_27 (by decide) ?_
            exact ih_2 x2 x3 r1 0 x2 z H locs ls hr1 hM (lv_sub hl [0, 1, 2, 3] rfl) hq
          · have hq := tw_it hq hc
            refine lv_iconst (v := 1) hx hb dmX13_countLoops_23 (by decide) ?_
            refine lv_goto (tgt := 28) hx hb dmX13_countLoops_24 (by decide) ?_
            exact ih_2 x2 x3 r1 1 x2 z H locs ls hr1 hM (lv_sub hl [0, 1, 2, 3] rfl) hq
      · intro x2 x3 r1 t0 t1 z H locs ls hr1 hM hl hq
        have hq : qm_X13_countLoops_2 K (q_X13_countLoops K k) x2 x3 r1 t0 t1 z = some (r, z1) := hq
        unfold qm_X13_countLoops_2 at hq
        refine lv_iadd hx hb dmX13_countLoops_28 ?_
        refine lv_istore_n (lv' := [(2, .int (t1 + t0)), (0, .ref (u 0)), (1, .ref (u r1)), (3, .int x3)]) hx hb dmX13_countLoops_29 rfl hl (by decide) rfl (fun ls hl => ?_)
        refine lv_iinc (v := (x3 + 1)) (lv' := [(3, .int (x3 + 1)), (2, .int (t1 + t0)), (0, .ref (u 0)), (1, .ref (u r1))]) hx hb dmX13_countLoops_30 hl (k := 3) rfl rfl (by decide) rfl (fun ls hl => ?_)
        refine lv_goto (tgt := 4) hx hb dmX13_countLoops_33 (by decide) ?_
        exact ih_1 (t1 + t0) (x3 + 1) r1 0 0 z H locs ls hr1 hM (lv_sub hl [2, 3, 1, 0] rfl) hq
  exact (key K).1 0 0 r1 0 0 z s.heap [] ls hr1 hM (lv_sub hl [0, 1] rfl) hq
