theorem dcX0_planCrossing_0 : decode cX0_planCrossing 0 = .ok (.aload_n 0, 1) := dw_at cX0_planCrossing_k0 (p := 0) rfl (by decide +kernel)
theorem dcX0_planCrossing_1 : decode cX0_planCrossing 1 = .ok (.getfield 9, 3) := dw_at cX0_planCrossing_k0 (p := 1) rfl (by decide +kernel)
theorem dcX0_planCrossing_4 : decode cX0_planCrossing 4 = .ok (.iconst 2, 1) := dw_at cX0_planCrossing_k0 (p := 4) rfl (by decide +kernel)
theorem dcX0_planCrossing_5 : decode cX0_planCrossing 5 = .ok (.iload_n 2, 1) := dw_at cX0_planCrossing_k0 (p := 5) rfl (by decide +kernel)
theorem dcX0_planCrossing_6 : decode cX0_planCrossing 6 = .ok (.imul, 1) := dw_at cX0_planCrossing_k0 (p := 6) rfl (by decide +kernel)
theorem dcX0_planCrossing_7 : decode cX0_planCrossing 7 = .ok (.iaload, 1) := dw_at cX0_planCrossing_k0 (p := 7) rfl (by decide +kernel)
theorem dcX0_planCrossing_8 : decode cX0_planCrossing 8 = .ok (.istore 4, 2) := dw_at cX0_planCrossing_k0 (p := 8) rfl (by decide +kernel)
theorem dcX0_planCrossing_10 : decode cX0_planCrossing 10 = .ok (.aload_n 0, 1) := dw_at cX0_planCrossing_k0 (p := 10) rfl (by decide +kernel)
theorem dcX0_planCrossing_11 : decode cX0_planCrossing 11 = .ok (.getfield 9, 3) := dw_at cX0_planCrossing_k0 (p := 11) rfl (by decide +kernel)
theorem dcX0_planCrossing_14 : decode cX0_planCrossing 14 = .ok (.aload_n 1, 1) := dw_at cX0_planCrossing_k0 (p := 14) rfl (by decide +kernel)
theorem dcX0_planCrossing_15 : decode cX0_planCrossing 15 = .ok (.getfield 100, 3) := dw_at cX0_planCrossing_k0 (p := 15) rfl (by decide +kernel)
theorem dcX0_planCrossing_18 : decode cX0_planCrossing 18 = .ok (.iconst 2, 1) := dw_at cX0_planCrossing_k0 (p := 18) rfl (by decide +kernel)
theorem dcX0_planCrossing_19 : decode cX0_planCrossing 19 = .ok (.iload_n 2, 1) := dw_at cX0_planCrossing_k0 (p := 19) rfl (by decide +kernel)
theorem dcX0_planCrossing_20 : decode cX0_planCrossing 20 = .ok (.imul, 1) := dw_at cX0_planCrossing_k0 (p := 20) rfl (by decide +kernel)
theorem dcX0_planCrossing_21 : decode cX0_planCrossing 21 = .ok (.iconst 1, 1) := dw_at cX0_planCrossing_k0 (p := 21) rfl (by decide +kernel)
theorem dcX0_planCrossing_22 : decode cX0_planCrossing 22 = .ok (.iadd, 1) := dw_at cX0_planCrossing_k0 (p := 22) rfl (by decide +kernel)
theorem dcX0_planCrossing_23 : decode cX0_planCrossing 23 = .ok (.iaload, 1) := dw_at cX0_planCrossing_k0 (p := 23) rfl (by decide +kernel)
theorem dcX0_planCrossing_24 : decode cX0_planCrossing 24 = .ok (.iaload, 1) := dw_at cX0_planCrossing_k1 (p := 0) rfl (by decide +kernel)
theorem dcX0_planCrossing_25 : decode cX0_planCrossing 25 = .ok (.istore 5, 2) := dw_at cX0_planCrossing_k1 (p := 1) rfl (by decide +kernel)
theorem dcX0_planCrossing_27 : decode cX0_planCrossing 27 = .ok (.aload_n 0, 1) := dw_at cX0_planCrossing_k1 (p := 3) rfl (by decide +kernel)
theorem dcX0_planCrossing_28 : decode cX0_planCrossing 28 = .ok (.getfield 9, 3) := dw_at cX0_planCrossing_k1 (p := 4) rfl (by decide +kernel)
theorem dcX0_planCrossing_31 : decode cX0_planCrossing 31 = .ok (.iconst 2, 1) := dw_at cX0_planCrossing_k1 (p := 7) rfl (by decide +kernel)
theorem dcX0_planCrossing_32 : decode cX0_planCrossing 32 = .ok (.iload_n 2, 1) := dw_at cX0_planCrossing_k1 (p := 8) rfl (by decide +kernel)
theorem dcX0_planCrossing_33 : decode cX0_planCrossing 33 = .ok (.imul, 1) := dw_at cX0_planCrossing_k1 (p := 9) rfl (by decide +kernel)
theorem dcX0_planCrossing_34 : decode cX0_planCrossing 34 = .ok (.iconst 1, 1) := dw_at cX0_planCrossing_k1 (p := 10) rfl (by decide +kernel)
theorem dcX0_planCrossing_35 : decode cX0_planCrossing 35 = .ok (.iadd, 1) := dw_at cX0_planCrossing_k1 (p := 11) rfl (by decide +kernel)
theorem dcX0_planCrossing_36 : decode cX0_planCrossing 36 = .ok (.iaload, 1) := dw_at cX0_planCrossing_k1 (p := 12) rfl (by decide +kernel)
theorem dcX0_planCrossing_37 : decode cX0_planCrossing 37 = .ok (.istore 6, 2) := dw_at cX0_planCrossing_k1 (p := 13) rfl (by decide +kernel)
theorem dcX0_planCrossing_39 : decode cX0_planCrossing 39 = .ok (.aload_n 1, 1) := dw_at cX0_planCrossing_k1 (p := 15) rfl (by decide +kernel)
theorem dcX0_planCrossing_40 : decode cX0_planCrossing 40 = .ok (.getfield 176, 3) := dw_at cX0_planCrossing_k1 (p := 16) rfl (by decide +kernel)
theorem dcX0_planCrossing_43 : decode cX0_planCrossing 43 = .ok (.iload_n 2, 1) := dw_at cX0_planCrossing_k1 (p := 19) rfl (by decide +kernel)
theorem dcX0_planCrossing_44 : decode cX0_planCrossing 44 = .ok (.iaload, 1) := dw_at cX0_planCrossing_k1 (p := 20) rfl (by decide +kernel)
theorem dcX0_planCrossing_45 : decode cX0_planCrossing 45 = .ok (.ifCond .le 7, 3) := dw_at cX0_planCrossing_k1 (p := 21) rfl (by decide +kernel)
theorem dcX0_planCrossing_48 : decode cX0_planCrossing 48 = .ok (.iconst 1, 1) := dw_at cX0_planCrossing_k2 (p := 0) rfl (by decide +kernel)
theorem dcX0_planCrossing_49 : decode cX0_planCrossing 49 = .ok (.goto 4, 3) := dw_at cX0_planCrossing_k2 (p := 1) rfl (by decide +kernel)
theorem dcX0_planCrossing_52 : decode cX0_planCrossing 52 = .ok (.iconst 0, 1) := dw_at cX0_planCrossing_k2 (p := 4) rfl (by decide +kernel)
theorem dcX0_planCrossing_53 : decode cX0_planCrossing 53 = .ok (.istore 7, 2) := dw_at cX0_planCrossing_k2 (p := 5) rfl (by decide +kernel)
theorem dcX0_planCrossing_55 : decode cX0_planCrossing 55 = .ok (.iload_n 3, 1) := dw_at cX0_planCrossing_k2 (p := 7) rfl (by decide +kernel)
theorem dcX0_planCrossing_56 : decode cX0_planCrossing 56 = .ok (.iload 5, 2) := dw_at cX0_planCrossing_k2 (p := 8) rfl (by decide +kernel)
theorem dcX0_planCrossing_58 : decode cX0_planCrossing 58 = .ok (.ishr, 1) := dw_at cX0_planCrossing_k2 (p := 10) rfl (by decide +kernel)
theorem dcX0_planCrossing_59 : decode cX0_planCrossing 59 = .ok (.iconst 1, 1) := dw_at cX0_planCrossing_k2 (p := 11) rfl (by decide +kernel)
theorem dcX0_planCrossing_60 : decode cX0_planCrossing 60 = .ok (.iand, 1) := dw_at cX0_planCrossing_k2 (p := 12) rfl (by decide +kernel)
theorem dcX0_planCrossing_61 : decode cX0_planCrossing 61 = .ok (.ifCond .eq 7, 3) := dw_at cX0_planCrossing_k2 (p := 13) rfl (by decide +kernel)
theorem dcX0_planCrossing_64 : decode cX0_planCrossing 64 = .ok (.iconst 1, 1) := dw_at cX0_planCrossing_k2 (p := 16) rfl (by decide +kernel)
theorem dcX0_planCrossing_65 : decode cX0_planCrossing 65 = .ok (.goto 4, 3) := dw_at cX0_planCrossing_k2 (p := 17) rfl (by decide +kernel)
theorem dcX0_planCrossing_68 : decode cX0_planCrossing 68 = .ok (.iconst 0, 1) := dw_at cX0_planCrossing_k2 (p := 20) rfl (by decide +kernel)
theorem dcX0_planCrossing_69 : decode cX0_planCrossing 69 = .ok (.istore 8, 2) := dw_at cX0_planCrossing_k2 (p := 21) rfl (by decide +kernel)
theorem dcX0_planCrossing_71 : decode cX0_planCrossing 71 = .ok (.iload_n 3, 1) := dw_at cX0_planCrossing_k2 (p := 23) rfl (by decide +kernel)
theorem dcX0_planCrossing_72 : decode cX0_planCrossing 72 = .ok (.iload 6, 2) := dw_at cX0_planCrossing_k3 (p := 0) rfl (by decide +kernel)
theorem dcX0_planCrossing_74 : decode cX0_planCrossing 74 = .ok (.ishr, 1) := dw_at cX0_planCrossing_k3 (p := 2) rfl (by decide +kernel)
theorem dcX0_planCrossing_75 : decode cX0_planCrossing 75 = .ok (.iconst 1, 1) := dw_at cX0_planCrossing_k3 (p := 3) rfl (by decide +kernel)
theorem dcX0_planCrossing_76 : decode cX0_planCrossing 76 = .ok (.iand, 1) := dw_at cX0_planCrossing_k3 (p := 4) rfl (by decide +kernel)
theorem dcX0_planCrossing_77 : decode cX0_planCrossing 77 = .ok (.ifCond .eq 7, 3) := dw_at cX0_planCrossing_k3 (p := 5) rfl (by decide +kernel)
theorem dcX0_planCrossing_80 : decode cX0_planCrossing 80 = .ok (.iconst 1, 1) := dw_at cX0_planCrossing_k3 (p := 8) rfl (by decide +kernel)
theorem dcX0_planCrossing_81 : decode cX0_planCrossing 81 = .ok (.goto 4, 3) := dw_at cX0_planCrossing_k3 (p := 9) rfl (by decide +kernel)
theorem dcX0_planCrossing_84 : decode cX0_planCrossing 84 = .ok (.iconst 0, 1) := dw_at cX0_planCrossing_k3 (p := 12) rfl (by decide +kernel)
theorem dcX0_planCrossing_85 : decode cX0_planCrossing 85 = .ok (.istore 9, 2) := dw_at cX0_planCrossing_k3 (p := 13) rfl (by decide +kernel)
theorem dcX0_planCrossing_87 : decode cX0_planCrossing 87 = .ok (.iload_n 3, 1) := dw_at cX0_planCrossing_k3 (p := 15) rfl (by decide +kernel)
theorem dcX0_planCrossing_88 : decode cX0_planCrossing 88 = .ok (.iload 4, 2) := dw_at cX0_planCrossing_k3 (p := 16) rfl (by decide +kernel)
theorem dcX0_planCrossing_90 : decode cX0_planCrossing 90 = .ok (.ishr, 1) := dw_at cX0_planCrossing_k3 (p := 18) rfl (by decide +kernel)
theorem dcX0_planCrossing_91 : decode cX0_planCrossing 91 = .ok (.iconst 1, 1) := dw_at cX0_planCrossing_k3 (p := 19) rfl (by decide +kernel)
theorem dcX0_planCrossing_92 : decode cX0_planCrossing 92 = .ok (.iand, 1) := dw_at cX0_planCrossing_k3 (p := 20) rfl (by decide +kernel)
theorem dcX0_planCrossing_93 : decode cX0_planCrossing 93 = .ok (.ifCond .eq 7, 3) := dw_at cX0_planCrossing_k3 (p := 21) rfl (by decide +kernel)
theorem dcX0_planCrossing_96 : decode cX0_planCrossing 96 = .ok (.iconst 1, 1) := dw_at cX0_planCrossing_k4 (p := 0) rfl (by decide +kernel)
theorem dcX0_planCrossing_97 : decode cX0_planCrossing 97 = .ok (.goto 4, 3) := dw_at cX0_planCrossing_k4 (p := 1) rfl (by decide +kernel)
theorem dcX0_planCrossing_100 : decode cX0_planCrossing 100 = .ok (.iconst 0, 1) := dw_at cX0_planCrossing_k4 (p := 4) rfl (by decide +kernel)
theorem dcX0_planCrossing_101 : decode cX0_planCrossing 101 = .ok (.istore 10, 2) := dw_at cX0_planCrossing_k4 (p := 5) rfl (by decide +kernel)
theorem dcX0_planCrossing_103 : decode cX0_planCrossing 103 = .ok (.iload 4, 2) := dw_at cX0_planCrossing_k4 (p := 7) rfl (by decide +kernel)
theorem dcX0_planCrossing_105 : decode cX0_planCrossing 105 = .ok (.iload 5, 2) := dw_at cX0_planCrossing_k4 (p := 9) rfl (by decide +kernel)
theorem dcX0_planCrossing_107 : decode cX0_planCrossing 107 = .ok (.if_icmp .eq 10, 3) := dw_at cX0_planCrossing_k4 (p := 11) rfl (by decide +kernel)
theorem dcX0_planCrossing_110 : decode cX0_planCrossing 110 = .ok (.iload 4, 2) := dw_at cX0_planCrossing_k4 (p := 14) rfl (by decide +kernel)
theorem dcX0_planCrossing_112 : decode cX0_planCrossing 112 = .ok (.iload 6, 2) := dw_at cX0_planCrossing_k4 (p := 16) rfl (by decide +kernel)
theorem dcX0_planCrossing_114 : decode cX0_planCrossing 114 = .ok (.if_icmp .ne 34, 3) := dw_at cX0_planCrossing_k4 (p := 18) rfl (by decide +kernel)
theorem dcX0_planCrossing_117 : decode cX0_planCrossing 117 = .ok (.iload 8, 2) := dw_at cX0_planCrossing_k4 (p := 21) rfl (by decide +kernel)
theorem dcX0_planCrossing_119 : decode cX0_planCrossing 119 = .ok (.ifCond .ne 8, 3) := dw_at cX0_planCrossing_k4 (p := 23) rfl (by decide +kernel)
theorem dcX0_planCrossing_122 : decode cX0_planCrossing 122 = .ok (.iload 9, 2) := dw_at cX0_planCrossing_k5 (p := 0) rfl (by decide +kernel)
theorem dcX0_planCrossing_124 : decode cX0_planCrossing 124 = .ok (.ifCond .eq 7, 3) := dw_at cX0_planCrossing_k5 (p := 2) rfl (by decide +kernel)
theorem dcX0_planCrossing_127 : decode cX0_planCrossing 127 = .ok (.iconst 1, 1) := dw_at cX0_planCrossing_k5 (p := 5) rfl (by decide +kernel)
theorem dcX0_planCrossing_128 : decode cX0_planCrossing 128 = .ok (.goto 4, 3) := dw_at cX0_planCrossing_k5 (p := 6) rfl (by decide +kernel)
theorem dcX0_planCrossing_131 : decode cX0_planCrossing 131 = .ok (.iconst 0, 1) := dw_at cX0_planCrossing_k5 (p := 9) rfl (by decide +kernel)
theorem dcX0_planCrossing_132 : decode cX0_planCrossing 132 = .ok (.istore 10, 2) := dw_at cX0_planCrossing_k5 (p := 10) rfl (by decide +kernel)
theorem dcX0_planCrossing_134 : decode cX0_planCrossing 134 = .ok (.iload 8, 2) := dw_at cX0_planCrossing_k5 (p := 12) rfl (by decide +kernel)
theorem dcX0_planCrossing_136 : decode cX0_planCrossing 136 = .ok (.ifCond .eq 8, 3) := dw_at cX0_planCrossing_k5 (p := 14) rfl (by decide +kernel)
theorem dcX0_planCrossing_139 : decode cX0_planCrossing 139 = .ok (.iload 5, 2) := dw_at cX0_planCrossing_k5 (p := 17) rfl (by decide +kernel)
theorem dcX0_planCrossing_141 : decode cX0_planCrossing 141 = .ok (.goto 5, 3) := dw_at cX0_planCrossing_k5 (p := 19) rfl (by decide +kernel)
theorem dcX0_planCrossing_144 : decode cX0_planCrossing 144 = .ok (.iload 6, 2) := dw_at cX0_planCrossing_k5 (p := 22) rfl (by decide +kernel)
theorem dcX0_planCrossing_146 : decode cX0_planCrossing 146 = .ok (.istore 4, 2) := dw_at cX0_planCrossing_k6 (p := 0) rfl (by decide +kernel)
theorem dcX0_planCrossing_148 : decode cX0_planCrossing 148 = .ok (.iload 10, 2) := dw_at cX0_planCrossing_k6 (p := 2) rfl (by decide +kernel)
theorem dcX0_planCrossing_150 : decode cX0_planCrossing 150 = .ok (.ifCond .eq 13, 3) := dw_at cX0_planCrossing_k6 (p := 4) rfl (by decide +kernel)
theorem dcX0_planCrossing_153 : decode cX0_planCrossing 153 = .ok (.iload 8, 2) := dw_at cX0_planCrossing_k6 (p := 7) rfl (by decide +kernel)
theorem dcX0_planCrossing_155 : decode cX0_planCrossing 155 = .ok (.ifCond .ne 10, 3) := dw_at cX0_planCrossing_k6 (p := 9) rfl (by decide +kernel)
theorem dcX0_planCrossing_158 : decode cX0_planCrossing 158 = .ok (.iload 9, 2) := dw_at cX0_planCrossing_k6 (p := 12) rfl (by decide +kernel)
theorem dcX0_planCrossing_160 : decode cX0_planCrossing 160 = .ok (.ifCond .ne 5, 3) := dw_at cX0_planCrossing_k6 (p := 14) rfl (by decide +kernel)
theorem dcX0_planCrossing_163 : decode cX0_planCrossing 163 = .ok (.iload_n 3, 1) := dw_at cX0_planCrossing_k6 (p := 17) rfl (by decide +kernel)
theorem dcX0_planCrossing_164 : decode cX0_planCrossing 164 = .ok (.ireturn, 1) := dw_at cX0_planCrossing_k6 (p := 18) rfl (by decide +kernel)
theorem dcX0_planCrossing_165 : decode cX0_planCrossing 165 = .ok (.aload_n 0, 1) := dw_at cX0_planCrossing_k6 (p := 19) rfl (by decide +kernel)
theorem dcX0_planCrossing_166 : decode cX0_planCrossing 166 = .ok (.dup, 1) := dw_at cX0_planCrossing_k6 (p := 20) rfl (by decide +kernel)
theorem dcX0_planCrossing_167 : decode cX0_planCrossing 167 = .ok (.getfield 166, 3) := dw_at cX0_planCrossing_k6 (p := 21) rfl (by decide +kernel)
theorem dcX0_planCrossing_170 : decode cX0_planCrossing 170 = .ok (.iconst 1, 1) := dw_at cX0_planCrossing_k7 (p := 0) rfl (by decide +kernel)
theorem dcX0_planCrossing_171 : decode cX0_planCrossing 171 = .ok (.iload_n 2, 1) := dw_at cX0_planCrossing_k7 (p := 1) rfl (by decide +kernel)
theorem dcX0_planCrossing_172 : decode cX0_planCrossing 172 = .ok (.ishl, 1) := dw_at cX0_planCrossing_k7 (p := 2) rfl (by decide +kernel)
theorem dcX0_planCrossing_173 : decode cX0_planCrossing 173 = .ok (.ior, 1) := dw_at cX0_planCrossing_k7 (p := 3) rfl (by decide +kernel)
theorem dcX0_planCrossing_174 : decode cX0_planCrossing 174 = .ok (.putfield 166, 3) := dw_at cX0_planCrossing_k7 (p := 4) rfl (by decide +kernel)
theorem dcX0_planCrossing_177 : decode cX0_planCrossing 177 = .ok (.iload 8, 2) := dw_at cX0_planCrossing_k7 (p := 7) rfl (by decide +kernel)
theorem dcX0_planCrossing_179 : decode cX0_planCrossing 179 = .ok (.ifCond .eq 32, 3) := dw_at cX0_planCrossing_k7 (p := 9) rfl (by decide +kernel)
theorem dcX0_planCrossing_182 : decode cX0_planCrossing 182 = .ok (.iload 9, 2) := dw_at cX0_planCrossing_k7 (p := 12) rfl (by decide +kernel)
theorem dcX0_planCrossing_184 : decode cX0_planCrossing 184 = .ok (.ifCond .eq 27, 3) := dw_at cX0_planCrossing_k7 (p := 14) rfl (by decide +kernel)
theorem dcX0_planCrossing_187 : decode cX0_planCrossing 187 = .ok (.aload_n 0, 1) := dw_at cX0_planCrossing_k7 (p := 17) rfl (by decide +kernel)
theorem dcX0_planCrossing_188 : decode cX0_planCrossing 188 = .ok (.iconst 2, 1) := dw_at cX0_planCrossing_k7 (p := 18) rfl (by decide +kernel)
theorem dcX0_planCrossing_189 : decode cX0_planCrossing 189 = .ok (.iload 6, 2) := dw_at cX0_planCrossing_k7 (p := 19) rfl (by decide +kernel)
theorem dcX0_planCrossing_191 : decode cX0_planCrossing 191 = .ok (.iload 4, 2) := dw_at cX0_planCrossing_k7 (p := 21) rfl (by decide +kernel)
theorem dcX0_planCrossing_193 : decode cX0_planCrossing 193 = .ok (.iload 5, 2) := dw_at cX0_planCrossing_k7 (p := 23) rfl (by decide +kernel)
theorem dcX0_planCrossing_195 : decode cX0_planCrossing 195 = .ok (.iload 7, 2) := dw_at cX0_planCrossing_k8 (p := 0) rfl (by decide +kernel)
theorem dcX0_planCrossing_197 : decode cX0_planCrossing 197 = .ok (.ifCond .ne 7, 3) := dw_at cX0_planCrossing_k8 (p := 2) rfl (by decide +kernel)
theorem dcX0_planCrossing_200 : decode cX0_planCrossing 200 = .ok (.iconst 1, 1) := dw_at cX0_planCrossing_k8 (p := 5) rfl (by decide +kernel)
theorem dcX0_planCrossing_201 : decode cX0_planCrossing 201 = .ok (.goto 4, 3) := dw_at cX0_planCrossing_k8 (p := 6) rfl (by decide +kernel)
theorem dcX0_planCrossing_204 : decode cX0_planCrossing 204 = .ok (.iconst 0, 1) := dw_at cX0_planCrossing_k8 (p := 9) rfl (by decide +kernel)
theorem dcX0_planCrossing_205 : decode cX0_planCrossing 205 = .ok (.invokevirtual 169, 3) := dw_at cX0_planCrossing_k8 (p := 10) rfl (by decide +kernel)
theorem dcX0_planCrossing_208 : decode cX0_planCrossing 208 = .ok (.goto 45, 3) := dw_at cX0_planCrossing_k8 (p := 13) rfl (by decide +kernel)
theorem dcX0_planCrossing_211 : decode cX0_planCrossing 211 = .ok (.iload 8, 2) := dw_at cX0_planCrossing_k8 (p := 16) rfl (by decide +kernel)
theorem dcX0_planCrossing_213 : decode cX0_planCrossing 213 = .ok (.ifCond .eq 27, 3) := dw_at cX0_planCrossing_k8 (p := 18) rfl (by decide +kernel)
theorem dcX0_planCrossing_216 : decode cX0_planCrossing 216 = .ok (.aload_n 0, 1) := dw_at cX0_planCrossing_k8 (p := 21) rfl (by decide +kernel)
theorem dcX0_planCrossing_217 : decode cX0_planCrossing 217 = .ok (.iconst 1, 1) := dw_at cX0_planCrossing_k8 (p := 22) rfl (by decide +kernel)
theorem dcX0_planCrossing_218 : decode cX0_planCrossing 218 = .ok (.iload 6, 2) := dw_at cX0_planCrossing_k8 (p := 23) rfl (by decide +kernel)
theorem dcX0_planCrossing_220 : decode cX0_planCrossing 220 = .ok (.iload 4, 2) := dw_at cX0_planCrossing_k9 (p := 0) rfl (by decide +kernel)
theorem dcX0_planCrossing_222 : decode cX0_planCrossing 222 = .ok (.iload 5, 2) := dw_at cX0_planCrossing_k9 (p := 2) rfl (by decide +kernel)
theorem dcX0_planCrossing_224 : decode cX0_planCrossing 224 = .ok (.iload 7, 2) := dw_at cX0_planCrossing_k9 (p := 4) rfl (by decide +kernel)
theorem dcX0_planCrossing_226 : decode cX0_planCrossing 226 = .ok (.ifCond .ne 7, 3) := dw_at cX0_planCrossing_k9 (p := 6) rfl (by decide +kernel)
theorem dcX0_planCrossing_229 : decode cX0_planCrossing 229 = .ok (.iconst 1, 1) := dw_at cX0_planCrossing_k9 (p := 9) rfl (by decide +kernel)
theorem dcX0_planCrossing_230 : decode cX0_planCrossing 230 = .ok (.goto 4, 3) := dw_at cX0_planCrossing_k9 (p := 10) rfl (by decide +kernel)
theorem dcX0_planCrossing_233 : decode cX0_planCrossing 233 = .ok (.iconst 0, 1) := dw_at cX0_planCrossing_k9 (p := 13) rfl (by decide +kernel)
theorem dcX0_planCrossing_234 : decode cX0_planCrossing 234 = .ok (.invokevirtual 169, 3) := dw_at cX0_planCrossing_k9 (p := 14) rfl (by decide +kernel)
theorem dcX0_planCrossing_237 : decode cX0_planCrossing 237 = .ok (.goto 16, 3) := dw_at cX0_planCrossing_k9 (p := 17) rfl (by decide +kernel)
theorem dcX0_planCrossing_240 : decode cX0_planCrossing 240 = .ok (.aload_n 0, 1) := dw_at cX0_planCrossing_k9 (p := 20) rfl (by decide +kernel)
theorem dcX0_planCrossing_241 : decode cX0_planCrossing 241 = .ok (.iconst 1, 1) := dw_at cX0_planCrossing_k9 (p := 21) rfl (by decide +kernel)
theorem dcX0_planCrossing_242 : decode cX0_planCrossing 242 = .ok (.iload 5, 2) := dw_at cX0_planCrossing_k9 (p := 22) rfl (by decide +kernel)
theorem dcX0_planCrossing_244 : decode cX0_planCrossing 244 = .ok (.iload 4, 2) := dw_at cX0_planCrossing_k10 (p := 0) rfl (by decide +kernel)
theorem dcX0_planCrossing_246 : decode cX0_planCrossing 246 = .ok (.iload 6, 2) := dw_at cX0_planCrossing_k10 (p := 2) rfl (by decide +kernel)
theorem dcX0_planCrossing_248 : decode cX0_planCrossing 248 = .ok (.iload 7, 2) := dw_at cX0_planCrossing_k10 (p := 4) rfl (by decide +kernel)
theorem dcX0_planCrossing_250 : decode cX0_planCrossing 250 = .ok (.invokevirtual 169, 3) := dw_at cX0_planCrossing_k10 (p := 6) rfl (by decide +kernel)
theorem dcX0_planCrossing_253 : decode cX0_planCrossing 253 = .ok (.iload_n 3, 1) := dw_at cX0_planCrossing_k10 (p := 9) rfl (by decide +kernel)
theorem dcX0_planCrossing_254 : decode cX0_planCrossing 254 = .ok (.iconst 1, 1) := dw_at cX0_planCrossing_k10 (p := 10) rfl (by decide +kernel)
theorem dcX0_planCrossing_255 : decode cX0_planCrossing 255 = .ok (.iload 5, 2) := dw_at cX0_planCrossing_k10 (p := 11) rfl (by decide +kernel)
theorem dcX0_planCrossing_257 : decode cX0_planCrossing 257 = .ok (.ishl, 1) := dw_at cX0_planCrossing_k10 (p := 13) rfl (by decide +kernel)
theorem dcX0_planCrossing_258 : decode cX0_planCrossing 258 = .ok (.ior, 1) := dw_at cX0_planCrossing_k10 (p := 14) rfl (by decide +kernel)
theorem dcX0_planCrossing_259 : decode cX0_planCrossing 259 = .ok (.iconst 1, 1) := dw_at cX0_planCrossing_k10 (p := 15) rfl (by decide +kernel)
theorem dcX0_planCrossing_260 : decode cX0_planCrossing 260 = .ok (.iload 6, 2) := dw_at cX0_planCrossing_k10 (p := 16) rfl (by decide +kernel)
theorem dcX0_planCrossing_262 : decode cX0_planCrossing 262 = .ok (.ishl, 1) := dw_at cX0_planCrossing_k10 (p := 18) rfl (by decide +kernel)
theorem dcX0_planCrossing_263 : decode cX0_planCrossing 263 = .ok (.ior, 1) := dw_at cX0_planCrossing_k10 (p := 19) rfl (by decide +kernel)
theorem dcX0_planCrossing_264 : decode cX0_planCrossing 264 = .ok (.ireturn, 1) := dw_at cX0_planCrossing_k10 (p := 20) rfl (by decide +kernel)
def cm_X0_planCrossing_0 (vl : Nat → Nat) (K : Nat) (go : Nat → Int32 → Int32 → Int32 → Int32 → Int32 → Int32 → Int32 → Int32 → Int32 → Nat → Nat → Int32 → Int32 → Int32 → Int32 → Int32 → ow_MS → Option (Int32 × ow_MS)) (x2 : Int32) (x3 : Int32) (x4 : Int32) (x5 : Int32) (x6 : Int32) (x7 : Int32) (x8 : Int32) (x9 : Int32) (x10 : Int32) (r0 : Nat) (r1 : Nat) (t0 : Int32) (t1 : Int32) (t2 : Int32) (t3 : Int32) (t4 : Int32) (z : ow_MS) : Option (Int32 × ow_MS) :=
 crI (cX vl) z (r0 + 1) (2 * x2) fun v1 => crI (cX vl) z (r1 + 2) ((2 * x2) + 1) fun v2 => crI (cX vl) z (r0 + 1) v2 fun v3 => crI (cX vl) z (r0 + 1) ((2 * x2) + 1) fun v4 => crI (cX vl) z (r1 + 3) x2 fun v5 => (if v5 ≤ 0 then go 1 x2 x3 v1 v3 v4 0 0 0 0 r0 r1 0 0 0 0 0 z
 else go 1 x2 x3 v1 v3 v4 0 0 0 0 r0 r1 1 0 0 0 0 z)
def cm_X0_planCrossing_1 (vl : Nat → Nat) (K : Nat) (go : Nat → Int32 → Int32 → Int32 → Int32 → Int32 → Int32 → Int32 → Int32 → Int32 → Nat → Nat → Int32 → Int32 → Int32 → Int32 → Int32 → ow_MS → Option (Int32 × ow_MS)) (x2 : Int32) (x3 : Int32) (x4 : Int32) (x5 : Int32) (x6 : Int32) (x7 : Int32) (x8 : Int32) (x9 : Int32) (x10 : Int32) (r0 : Nat) (r1 : Nat) (t0 : Int32) (t1 : Int32) (t2 : Int32) (t3 : Int32) (t4 : Int32) (z : ow_MS) : Option (Int32 × ow_MS) :=
 (if (((x3 : Int32) >>> ((x5 : Int32) &&& 31)) &&& 1) = 0 then go 2 x2 x3 x4 x5 x6 t0 0 0 0 r0 r1 0 0 0 0 0 z
 else go 2 x2 x3 x4 x5 x6 t0 0 0 0 r0 r1 1 0 0 0 0 z)
def cm_X0_planCrossing_2 (vl : Nat → Nat) (K : Nat) (go : Nat → Int32 → Int32 → Int32 → Int32 → Int32 → Int32 → Int32 → Int32 → Int32 → Nat → Nat → Int32 → Int32 → Int32 → Int32 → Int32 → ow_MS → Option (Int32 × ow_MS)) (x2 : Int32) (x3 : Int32) (x4 : Int32) (x5 : Int32) (x6 : Int32) (x7 : Int32) (x8 : Int32) (x9 : Int32) (x10 : Int32) (r0 : Nat) (r1 : Nat) (t0 : Int32) (t1 : Int32) (t2 : Int32) (t3 : Int32) (t4 : Int32) (z : ow_MS) : Option (Int32 × ow_MS) :=
 (if (((x3 : Int32) >>> ((x6 : Int32) &&& 31)) &&& 1) = 0 then go 3 x2 x3 x4 x5 x6 x7 t0 0 0 r0 r1 0 0 0 0 0 z
 else go 3 x2 x3 x4 x5 x6 x7 t0 0 0 r0 r1 1 0 0 0 0 z)
def cm_X0_planCrossing_3 (vl : Nat → Nat) (K : Nat) (go : Nat → Int32 → Int32 → Int32 → Int32 → Int32 → Int32 → Int32 → Int32 → Int32 → Nat → Nat → Int32 → Int32 → Int32 → Int32 → Int32 → ow_MS → Option (Int32 × ow_MS)) (x2 : Int32) (x3 : Int32) (x4 : Int32) (x5 : Int32) (x6 : Int32) (x7 : Int32) (x8 : Int32) (x9 : Int32) (x10 : Int32) (r0 : Nat) (r1 : Nat) (t0 : Int32) (t1 : Int32) (t2 : Int32) (t3 : Int32) (t4 : Int32) (z : ow_MS) : Option (Int32 × ow_MS) :=
 (if (((x3 : Int32) >>> ((x4 : Int32) &&& 31)) &&& 1) = 0 then go 4 x2 x3 x4 x5 x6 x7 x8 t0 0 r0 r1 0 0 0 0 0 z
 else go 4 x2 x3 x4 x5 x6 x7 x8 t0 0 r0 r1 1 0 0 0 0 z)
def cm_X0_planCrossing_4 (vl : Nat → Nat) (K : Nat) (go : Nat → Int32 → Int32 → Int32 → Int32 → Int32 → Int32 → Int32 → Int32 → Int32 → Nat → Nat → Int32 → Int32 → Int32 → Int32 → Int32 → ow_MS → Option (Int32 × ow_MS)) (x2 : Int32) (x3 : Int32) (x4 : Int32) (x5 : Int32) (x6 : Int32) (x7 : Int32) (x8 : Int32) (x9 : Int32) (x10 : Int32) (r0 : Nat) (r1 : Nat) (t0 : Int32) (t1 : Int32) (t2 : Int32) (t3 : Int32) (t4 : Int32) (z : ow_MS) : Option (Int32 × ow_MS) :=
 (if x4 = x5 then go 5 x2 x3 x4 x5 x6 x7 x8 x9 t0 r0 r1 0 0 0 0 0 z
 else (if x4 = x6 then go 5 x2 x3 x4 x5 x6 x7 x8 x9 t0 r0 r1 0 0 0 0 0 z
 else go 9 x2 x3 x4 x5 x6 x7 x8 x9 t0 r0 r1 0 0 0 0 0 z))
def cm_X0_planCrossing_5 (vl : Nat → Nat) (K : Nat) (go : Nat → Int32 → Int32 → Int32 → Int32 → Int32 → Int32 → Int32 → Int32 → Int32 → Nat → Nat → Int32 → Int32 → Int32 → Int32 → Int32 → ow_MS → Option (Int32 × ow_MS)) (x2 : Int32) (x3 : Int32) (x4 : Int32) (x5 : Int32) (x6 : Int32) (x7 : Int32) (x8 : Int32) (x9 : Int32) (x10 : Int32) (r0 : Nat) (r1 : Nat) (t0 : Int32) (t1 : Int32) (t2 : Int32) (t3 : Int32) (t4 : Int32) (z : ow_MS) : Option (Int32 × ow_MS) :=
 (if x8 = 0 then (if x9 = 0 then go 7 x2 x3 x4 x5 x6 x7 x8 x9 x10 r0 r1 0 0 0 0 0 z
 else go 6 x2 x3 x4 x5 x6 x7 x8 x9 x10 r0 r1 0 0 0 0 0 z)
 else go 6 x2 x3 x4 x5 x6 x7 x8 x9 x10 r0 r1 0 0 0 0 0 z)
def cm_X0_planCrossing_6 (vl : Nat → Nat) (K : Nat) (go : Nat → Int32 → Int32 → Int32 → Int32 → Int32 → Int32 → Int32 → Int32 → Int32 → Nat → Nat → Int32 → Int32 → Int32 → Int32 → Int32 → ow_MS → Option (Int32 × ow_MS)) (x2 : Int32) (x3 : Int32) (x4 : Int32) (x5 : Int32) (x6 : Int32) (x7 : Int32) (x8 : Int32) (x9 : Int32) (x10 : Int32) (r0 : Nat) (r1 : Nat) (t0 : Int32) (t1 : Int32) (t2 : Int32) (t3 : Int32) (t4 : Int32) (z : ow_MS) : Option (Int32 × ow_MS) :=
 go 7 x2 x3 x4 x5 x6 x7 x8 x9 x10 r0 r1 1 0 0 0 0 z
def cm_X0_planCrossing_7 (vl : Nat → Nat) (K : Nat) (go : Nat → Int32 → Int32 → Int32 → Int32 → Int32 → Int32 → Int32 → Int32 → Int32 → Nat → Nat → Int32 → Int32 → Int32 → Int32 → Int32 → ow_MS → Option (Int32 × ow_MS)) (x2 : Int32) (x3 : Int32) (x4 : Int32) (x5 : Int32) (x6 : Int32) (x7 : Int32) (x8 : Int32) (x9 : Int32) (x10 : Int32) (r0 : Nat) (r1 : Nat) (t0 : Int32) (t1 : Int32) (t2 : Int32) (t3 : Int32) (t4 : Int32) (z : ow_MS) : Option (Int32 × ow_MS) :=
 (if x8 = 0 then go 8 x2 x3 x4 x5 x6 x7 x8 x9 t0 r0 r1 x6 0 0 0 0 z
 else go 8 x2 x3 x4 x5 x6 x7 x8 x9 t0 r0 r1 x5 0 0 0 0 z)
def cm_X0_planCrossing_8 (vl : Nat → Nat) (K : Nat) (go : Nat → Int32 → Int32 → Int32 → Int32 → Int32 → Int32 → Int32 → Int32 → Int32 → Nat → Nat → Int32 → Int32 → Int32 → Int32 → Int32 → ow_MS → Option (Int32 × ow_MS)) (x2 : Int32) (x3 : Int32) (x4 : Int32) (x5 : Int32) (x6 : Int32) (x7 : Int32) (x8 : Int32) (x9 : Int32) (x10 : Int32) (r0 : Nat) (r1 : Nat) (t0 : Int32) (t1 : Int32) (t2 : Int32) (t3 : Int32) (t4 : Int32) (z : ow_MS) : Option (Int32 × ow_MS) :=
 go 9 x2 x3 t0 x5 x6 x7 x8 x9 x10 r0 r1 0 0 0 0 0 z
def cm_X0_planCrossing_9 (vl : Nat → Nat) (K : Nat) (go : Nat → Int32 → Int32 → Int32 → Int32 → Int32 → Int32 → Int32 → Int32 → Int32 → Nat → Nat → Int32 → Int32 → Int32 → Int32 → Int32 → ow_MS → Option (Int32 × ow_MS)) (x2 : Int32) (x3 : Int32) (x4 : Int32) (x5 : Int32) (x6 : Int32) (x7 : Int32) (x8 : Int32) (x9 : Int32) (x10 : Int32) (r0 : Nat) (r1 : Nat) (t0 : Int32) (t1 : Int32) (t2 : Int32) (t3 : Int32) (t4 : Int32) (z : ow_MS) : Option (Int32 × ow_MS) :=
 (if x10 = 0 then some (x3, z)
 else (if x8 = 0 then (if x9 = 0 then some (x3, z)
 else go 10 x2 x3 x4 x5 x6 x7 x8 x9 x10 r0 r1 0 0 0 0 0 z)
 else go 10 x2 x3 x4 x5 x6 x7 x8 x9 x10 r0 r1 0 0 0 0 0 z))
def cm_X0_planCrossing_10 (vl : Nat → Nat) (K : Nat) (go : Nat → Int32 → Int32 → Int32 → Int32 → Int32 → Int32 → Int32 → Int32 → Int32 → Nat → Nat → Int32 → Int32 → Int32 → Int32 → Int32 → ow_MS → Option (Int32 × ow_MS)) (x2 : Int32) (x3 : Int32) (x4 : Int32) (x5 : Int32) (x6 : Int32) (x7 : Int32) (x8 : Int32) (x9 : Int32) (x10 : Int32) (r0 : Nat) (r1 : Nat) (t0 : Int32) (t1 : Int32) (t2 : Int32) (t3 : Int32) (t4 : Int32) (z : ow_MS) : Option (Int32 × ow_MS) :=
 rdF z (r0 + 16) fun v6 => wrF z (r0 + 16) (v6 ||| ((1 : Int32) <<< ((x2 : Int32) &&& 31))) fun z7 => (if x8 = 0 then go 12 x2 x3 x4 x5 x6 x7 x8 x9 x10 r0 r1 0 0 0 0 0 z7
 else (if x9 = 0 then go 12 x2 x3 x4 x5 x6 x7 x8 x9 x10 r0 r1 0 0 0 0 0 z7
 else (if x7 = 0 then go 11 x2 x3 x4 x5 x6 x7 x8 x9 x10 r0 r1 1 x5 x4 x6 2 z7
 else go 11 x2 x3 x4 x5 x6 x7 x8 x9 x10 r0 r1 0 x5 x4 x6 2 z7)))
def cm_X0_planCrossing_11 (vl : Nat → Nat) (K : Nat) (go : Nat → Int32 → Int32 → Int32 → Int32 → Int32 → Int32 → Int32 → Int32 → Int32 → Nat → Nat → Int32 → Int32 → Int32 → Int32 → Int32 → ow_MS → Option (Int32 × ow_MS)) (x2 : Int32) (x3 : Int32) (x4 : Int32) (x5 : Int32) (x6 : Int32) (x7 : Int32) (x8 : Int32) (x9 : Int32) (x10 : Int32) (r0 : Nat) (r1 : Nat) (t0 : Int32) (t1 : Int32) (t2 : Int32) (t3 : Int32) (t4 : Int32) (z : ow_MS) : Option (Int32 × ow_MS) :=
 cs0 (ce_X0_addStep vl K r0 t4 t3 t2 t1 t0 z) fun z8 => go 14 x2 x3 x4 x5 x6 x7 x8 x9 x10 r0 r1 0 0 0 0 0 z8
def cm_X0_planCrossing_12 (vl : Nat → Nat) (K : Nat) (go : Nat → Int32 → Int32 → Int32 → Int32 → Int32 → Int32 → Int32 → Int32 → Int32 → Nat → Nat → Int32 → Int32 → Int32 → Int32 → Int32 → ow_MS → Option (Int32 × ow_MS)) (x2 : Int32) (x3 : Int32) (x4 : Int32) (x5 : Int32) (x6 : Int32) (x7 : Int32) (x8 : Int32) (x9 : Int32) (x10 : Int32) (r0 : Nat) (r1 : Nat) (t0 : Int32) (t1 : Int32) (t2 : Int32) (t3 : Int32) (t4 : Int32) (z : ow_MS) : Option (Int32 × ow_MS) :=
 (if x8 = 0 then cs0 (ce_X0_addStep vl K r0 1 x5 x4 x6 x7 z) fun z9 => go 14 x2 x3 x4 x5 x6 x7 x8 x9 x10 r0 r1 0 0 0 0 0 z9
 else (if x7 = 0 then go 13 x2 x3 x4 x5 x6 x7 x8 x9 x10 r0 r1 1 x5 x4 x6 1 z
 else go 13 x2 x3 x4 x5 x6 x7 x8 x9 x10 r0 r1 0 x5 x4 x6 1 z))
def cm_X0_planCrossing_13 (vl : Nat → Nat) (K : Nat) (go : Nat → Int32 → Int32 → Int32 → Int32 → Int32 → Int32 → Int32 → Int32 → Int32 → Nat → Nat → Int32 → Int32 → Int32 → Int32 → Int32 → ow_MS → Option (Int32 × ow_MS)) (x2 : Int32) (x3 : Int32) (x4 : Int32) (x5 : Int32) (x6 : Int32) (x7 : Int32) (x8 : Int32) (x9 : Int32) (x10 : Int32) (r0 : Nat) (r1 : Nat) (t0 : Int32) (t1 : Int32) (t2 : Int32) (t3 : Int32) (t4 : Int32) (z : ow_MS) : Option (Int32 × ow_MS) :=
 cs0 (ce_X0_addStep vl K r0 t4 t3 t2 t1 t0 z) fun z10 => go 14 x2 x3 x4 x5 x6 x7 x8 x9 x10 r0 r1 0 0 0 0 0 z10
def cm_X0_planCrossing_14 (vl : Nat → Nat) (K : Nat) (go : Nat → Int32 → Int32 → Int32 → Int32 → Int32 → Int32 → Int32 → Int32 → Int32 → Nat → Nat → Int32 → Int32 → Int32 → Int32 → Int32 → ow_MS → Option (Int32 × ow_MS)) (x2 : Int32) (x3 : Int32) (x4 : Int32) (x5 : Int32) (x6 : Int32) (x7 : Int32) (x8 : Int32) (x9 : Int32) (x10 : Int32) (r0 : Nat) (r1 : Nat) (t0 : Int32) (t1 : Int32) (t2 : Int32) (t3 : Int32) (t4 : Int32) (z : ow_MS) : Option (Int32 × ow_MS) :=
 some (((x3 ||| ((1 : Int32) <<< ((x5 : Int32) &&& 31))) ||| ((1 : Int32) <<< ((x6 : Int32) &&& 31))), z)
def cb_X0_planCrossing (vl : Nat → Nat) (K : Nat) (go : Nat → Int32 → Int32 → Int32 → Int32 → Int32 → Int32 → Int32 → Int32 → Int32 → Nat → Nat → Int32 → Int32 → Int32 → Int32 → Int32 → ow_MS → Option (Int32 × ow_MS)) (L : Nat) (x2 : Int32) (x3 : Int32) (x4 : Int32) (x5 : Int32) (x6 : Int32) (x7 : Int32) (x8 : Int32) (x9 : Int32) (x10 : Int32) (r0 : Nat) (r1 : Nat) (t0 : Int32) (t1 : Int32) (t2 : Int32) (t3 : Int32) (t4 : Int32) (z : ow_MS) : Option (Int32 × ow_MS) := match L with
  | 0 => cm_X0_planCrossing_0 vl K go x2 x3 x4 x5 x6 x7 x8 x9 x10 r0 r1 t0 t1 t2 t3 t4 z
  | 1 => cm_X0_planCrossing_1 vl K go x2 x3 x4 x5 x6 x7 x8 x9 x10 r0 r1 t0 t1 t2 t3 t4 z
  | 2 => cm_X0_planCrossing_2 vl K go x2 x3 x4 x5 x6 x7 x8 x9 x10 r0 r1 t0 t1 t2 t3 t4 z
  | 3 => cm_X0_planCrossing_3 vl K go x2 x3 x4 x5 x6 x7 x8 x9 x10 r0 r1 t0 t1 t2 t3 t4 z
  | 4 => cm_X0_planCrossing_4 vl K go x2 x3 x4 x5 x6 x7 x8 x9 x10 r0 r1 t0 t1 t2 t3 t4 z
  | 5 => cm_X0_planCrossing_5 vl K go x2 x3 x4 x5 x6 x7 x8 x9 x10 r0 r1 t0 t1 t2 t3 t4 z
  | 6 => cm_X0_planCrossing_6 vl K go x2 x3 x4 x5 x6 x7 x8 x9 x10 r0 r1 t0 t1 t2 t3 t4 z
  | 7 => cm_X0_planCrossing_7 vl K go x2 x3 x4 x5 x6 x7 x8 x9 x10 r0 r1 t0 t1 t2 t3 t4 z
  | 8 => cm_X0_planCrossing_8 vl K go x2 x3 x4 x5 x6 x7 x8 x9 x10 r0 r1 t0 t1 t2 t3 t4 z
  | 9 => cm_X0_planCrossing_9 vl K go x2 x3 x4 x5 x6 x7 x8 x9 x10 r0 r1 t0 t1 t2 t3 t4 z
  | 10 => cm_X0_planCrossing_10 vl K go x2 x3 x4 x5 x6 x7 x8 x9 x10 r0 r1 t0 t1 t2 t3 t4 z
  | 11 => cm_X0_planCrossing_11 vl K go x2 x3 x4 x5 x6 x7 x8 x9 x10 r0 r1 t0 t1 t2 t3 t4 z
  | 12 => cm_X0_planCrossing_12 vl K go x2 x3 x4 x5 x6 x7 x8 x9 x10 r0 r1 t0 t1 t2 t3 t4 z
  | 13 => cm_X0_planCrossing_13 vl K go x2 x3 x4 x5 x6 x7 x8 x9 x10 r0 r1 t0 t1 t2 t3 t4 z
  | 14 => cm_X0_planCrossing_14 vl K go x2 x3 x4 x5 x6 x7 x8 x9 x10 r0 r1 t0 t1 t2 t3 t4 z
  | _ => none
def c_X0_planCrossing (vl : Nat → Nat) (K : Nat) : Nat → Nat → Int32 → Int32 → Int32 → Int32 → Int32 → Int32 → Int32 → Int32 → Int32 → Nat → Nat → Int32 → Int32 → Int32 → Int32 → Int32 → ow_MS → Option (Int32 × ow_MS)
  | 0 => fun _ _ _ _ _ _ _ _ _ _ _ _ _ _ _ _ _ _ => none
  | k + 1 => cb_X0_planCrossing vl K (c_X0_planCrossing vl K k)
def ce_X0_planCrossing (vl : Nat → Nat) (K : Nat) (r0 : Nat) (r1 : Nat) (x2 : Int32) (x3 : Int32) (z : ow_MS) : Option (Int32 × ow_MS) := c_X0_planCrossing vl K K 0 x2 x3 0 0 0 0 0 0 0 r0 r1 0 0 0 0 0 z
abbrev wc_X0_planCrossing : List Cond := .code yX0_planCrossing cX0_planCrossing 11 (some .int) :: wC
theorem cdd_X0_planCrossing : yX0_planCrossing.cls = RX0 ∧ yX0_planCrossing.cls ≠ "java/lang/invoke/MethodHandle" ∧ yX0_planCrossing.cls ≠ "java/lang/invoke/VarHandle" ∧ (parseMethodDescriptor yX0_planCrossing.desc).map (fun d => d.parameters.length) = some 3 := by decide +kernel
set_option maxHeartbeats 4000000 in
set_option maxRecDepth 100000 in
theorem kc_X0_planCrossing (l : Launch) (D : va_G) (q : Nat → ClassId) (vl u : Nat → Nat) (hU0 : tw_inj (cX vl) u) (K : Nat) (r0 : Nat) (r1 : Nat) (x2 : Int32) (x3 : Int32) (hr0 : cw_X0 r0) (hr1 : cw_X7 r1) (z z1 : ow_MS) (r : Int32) (hq : ce_X0_planCrossing vl K r0 r1 x2 x3 z = some (r, z1)) : Met l yX0_planCrossing wc_X0_planCrossing ({ frames := 1, cells := 0, slots := 0, locals := 25 } : Room) (va_Pc [.ref (u r0), .ref (u r1), .int x2, .int x3] (cw_pre D q vl u z)) (va_Qi (fun x (_ : Unit) => x = r) (fun _ t => va_P D vwCl (uw (cX vl) q u z1) t.heap) (tw_A (cX vl) u)) 0 0 (tw_A (cX vl) u) := by
  refine Met.ofW (cc := cX0_planCrossing) (maxL := 11) (ret := (some .int)) (by decide) rfl ?_
  intro p e s m args below meth c s₁ B hml hv
  obtain ⟨rfl, hP, hK⟩ := hv
  have hx := B.exec
  have hb := B.bytes
  have hr := B.returns
  have hts := atoms_spec (ws := wc_X0_planCrossing) B.pre
  have hT : ∀ w ∈ wC, w.before ([.ref (u r0), .ref (u r1), .int x2, .int x3] : List Value).toArray s = true := fun w h => hts w (List.mem_cons_of_mem _ h)
  have hown : s.vm.findClass RX0 = some m.cls := findClass_of_methodNamed B.named
  have hlocks := B.notSynchronized
  have hU : uw_inj (cX vl) u (tw_A (cX vl) u) := ⟨hU0, fun h hh => ⟨h, hh, rfl⟩⟩
  have hM : uw_M D vwCl (cX vl) q (tw_A (cX vl) u) s.heap u z s.heap [] := ⟨hP, va_S.rf⟩
  have hl := lv_entry ([.ref (u r0), .ref (u r1), .int x2, .int x3]) (n := 11) (Nat.le_of_ble_eq_true rfl)
  rw [lg_entry_eq]
  generalize (lg_sl ([.ref (u r0), .ref (u r1), .int x2, .int x3]) ++ List.replicate (11 - (lg_sl ([.ref (u r0), .ref (u r1), .int x2, .int x3])).length) Slot.unset).toArray = ls at hl ⊢
  have hl : lv_has ls 11 [(0, .ref (u r0)), (1, .ref (u r1)), (2, .int x2), (3, .int x3)] := hl
  refine ow_named (fun QQ hQQ => ?_)
  generalize ([.ref (u r0), .ref (u r1), .int x2, .int x3] : List Value).toArray = args at hts hT hQQ ⊢
  have key : ∀ k : Nat, (∀ (x2 : Int32) (x3 : Int32) (x4 : Int32) (x5 : Int32) (x6 : Int32) (x7 : Int32) (x8 : Int32) (x9 : Int32) (x10 : Int32) (r0 : Nat) (r1 : Nat) (t0 : Int32) (t1 : Int32) (t2 : Int32) (t3 : Int32) (t4 : Int32) (z : ow_MS) (H : Heap) (locs : List Loc) (ls : Array Slot), cw_X0 r0 → cw_X7 r1 → uw_M D vwCl (cX vl) q (tw_A (cX vl) u) s.heap u z H locs → lv_has ls 11 [(0, .ref (u r0)), (1, .ref (u r1)), (2, .int x2), (3, .int x3)] → c_X0_planCrossing vl K k 0 x2 x3 x4 x5 x6 x7 x8 x9 x10 r0 r1 t0 t1 t2 t3 t4 z = some (r, z1) → W p l e ({ frames := 1, cells := 0, slots := 0, locals := 25 } : Room) s m args below meth c H locs 0 0 QQ (F0 m 0 ls [])) ∧ (∀ (x2 : Int32) (x3 : Int32) (x4 : Int32) (x5 : Int32) (x6 : Int32) (x7 : Int32) (x8 : Int32) (x9 : Int32) (x10 : Int32) (r0 : Nat) (r1 : Nat) (t0 : Int32) (t1 : Int32) (t2 : Int32) (t3 : Int32) (t4 : Int32) (z : ow_MS) (H : Heap) (locs : List Loc) (ls : Array Slot), cw_X0 r0 → cw_X7 r1 → uw_M D vwCl (cX vl) q (tw_A (cX vl) u) s.heap u z H locs → lv_has ls 11 [(0, .ref (u r0)), (1, .ref (u r1)), (2, .int x2), (3, .int x3), (4, .int x4), (5, .int x5), (6, .int x6)] → c_X0_planCrossing vl K k 1 x2 x3 x4 x5 x6 x7 x8 x9 x10 r0 r1 t0 t1 t2 t3 t4 z = some (r, z1) → W p l e ({ frames := 1, cells := 0, slots := 0, locals := 25 } : Room) s m args below meth c H locs 0 0 QQ (F0 m 53 ls [.int t0])) ∧ (∀ (x2 : Int32) (x3 : Int32) (x4 : Int32) (x5 : Int32) (x6 : Int32) (x7 : Int32) (x8 : Int32) (x9 : Int32) (x10 : Int32) (r0 : Nat) (r1 : Nat) (t0 : Int32) (t1 : Int32) (t2 : Int32) (t3 : Int32) (t4 : Int32) (z : ow_MS) (H : Heap) (locs : List Loc) (ls : Array Slot), cw_X0 r0 → cw_X7 r1 → uw_M D vwCl (cX vl) q (tw_A (cX vl) u) s.heap u z H locs → lv_has ls 11 [(0, .ref (u r0)), (1, .ref (u r1)), (2, .int x2), (3, .int x3), (4, .int x4), (5, .int x5), (6, .int x6), (7, .int x7)] → c_X0_planCrossing vl K k 2 x2 x3 x4 x5 x6 x7 x8 x9 x10 r0 r1 t0 t1 t2 t3 t4 z = some (r, z1) → W p l e ({ frames := 1, cells := 0, slots := 0, locals := 25 } : Room) s m args below meth c H locs 0 0 QQ (F0 m 69 ls [.int t0])) ∧ (∀ (x2 : Int32) (x3 : Int32) (x4 : Int32) (x5 : Int32) (x6 : Int32) (x7 : Int32) (x8 : Int32) (x9 : Int32) (x10 : Int32) (r0 : Nat) (r1 : Nat) (t0 : Int32) (t1 : Int32) (t2 : Int32) (t3 : Int32) (t4 : Int32) (z : ow_MS) (H : Heap) (locs : List Loc) (ls : Array Slot), cw_X0 r0 → cw_X7 r1 → uw_M D vwCl (cX vl) q (tw_A (cX vl) u) s.heap u z H locs → lv_has ls 11 [(0, .ref (u r0)), (1, .ref (u r1)), (2, .int x2), (3, .int x3), (4, .int x4), (5, .int x5), (6, .int x6), (7, .int x7), (8, .int x8)] → c_X0_planCrossing vl K k 3 x2 x3 x4 x5 x6 x7 x8 x9 x10 r0 r1 t0 t1 t2 t3 t4 z = some (r, z1) → W p l e ({ frames := 1, cells := 0, slots := 0, locals := 25 } : Room) s m args below meth c H locs 0 0 QQ (F0 m 85 ls [.int t0])) ∧ (∀ (x2 : Int32) (x3 : Int32) (x4 : Int32) (x5 : Int32) (x6 : Int32) (x7 : Int32) (x8 : Int32) (x9 : Int32) (x10 : Int32) (r0 : Nat) (r1 : Nat) (t0 : Int32) (t1 : Int32) (t2 : Int32) (t3 : Int32) (t4 : Int32) (z : ow_MS) (H : Heap) (locs : List Loc) (ls : Array Slot), cw_X0 r0 → cw_X7 r1 → uw_M D vwCl (cX vl) q (tw_A (cX vl) u) s.heap u z H locs → lv_has ls 11 [(0, .ref (u r0)), (1, .ref (u r1)), (2, .int x2), (3, .int x3), (4, .int x4), (5, .int x5), (6, .int x6), (7, .int x7), (8, .int x8), (9, .int x9)] → c_X0_planCrossing vl K k 4 x2 x3 x4 x5 x6 x7 x8 x9 x10 r0 r1 t0 t1 t2 t3 t4 z = some (r, z1) → W p l e ({ frames := 1, cells := 0, slots := 0, locals := 25 } : Room) s m args below meth c H locs 0 0 QQ (F0 m 101 ls [.int t0])) ∧ (∀ (x2 : Int32) (x3 : Int32) (x4 : Int32) (x5 : Int32) (x6 : Int32) (x7 : Int32) (x8 : Int32) (x9 : Int32) (x10 : Int32) (r0 : Nat) (r1 : Nat) (t0 : Int32) (t1 : Int32) (t2 : Int32) (t3 : Int32) (t4 : Int32) (z : ow_MS) (H : Heap) (locs : List Loc) (ls : Array Slot), cw_X0 r0 → cw_X7 r1 → uw_M D vwCl (cX vl) q (tw_A (cX vl) u) s.heap u z H locs → lv_has ls 11 [(0, .ref (u r0)), (1, .ref (u r1)), (2, .int x2), (3, .int x3), (4, .int x4), (5, .int x5), (6, .int x6), (7, .int x7), (8, .int x8), (9, .int x9), (10, .int x10)] → c_X0_planCrossing vl K k 5 x2 x3 x4 x5 x6 x7 x8 x9 x10 r0 r1 t0 t1 t2 t3 t4 z = some (r, z1) → W p l e ({ frames := 1, cells := 0, slots := 0, locals := 25 } : Room) s m args below meth c H locs 0 0 QQ (F0 m 117 ls [])) ∧ (∀ (x2 : Int32) (x3 : Int32) (x4 : Int32) (x5 : Int32) (x6 : Int32) (x7 : Int32) (x8 : Int32) (x9 : Int32) (x10 : Int32) (r0 : Nat) (r1 : Nat) (t0 : Int32) (t1 : Int32) (t2 : Int32) (t3 : Int32) (t4 : Int32) (z : ow_MS) (H : Heap) (locs : List Loc) (ls : Array Slot), cw_X0 r0 → cw_X7 r1 → uw_M D vwCl (cX vl) q (tw_A (cX vl) u) s.heap u z H locs → lv_has ls 11 [(0, .ref (u r0)), (1, .ref (u r1)), (2, .int x2), (3, .int x3), (4, .int x4), (5, .int x5), (6, .int x6), (7, .int x7), (8, .int x8), (9, .int x9), (10, .int x10)] → c_X0_planCrossing vl K k 6 x2 x3 x4 x5 x6 x7 x8 x9 x10 r0 r1 t0 t1 t2 t3 t4 z = some (r, z1) → W p l e ({ frames := 1, cells := 0, slots := 0, locals := 25 } : Room) s m args below meth c H locs 0 0 QQ (F0 m 127 ls [])) ∧ (∀ (x2 : Int32) (x3 : Int32) (x4 : Int32) (x5 : Int32) (x6 : Int32) (x7 : Int32) (x8 : Int32) (x9 : Int32) (x10 : Int32) (r0 : Nat) (r1 : Nat) (t0 : Int32) (t1 : Int32) (t2 : Int32) (t3 : Int32) (t4 : Int32) (z : ow_MS) (H : Heap) (locs : List Loc) (ls : Array Slot), cw_X0 r0 → cw_X7 r1 → uw_M D vwCl (cX vl) q (tw_A (cX vl) u) s.heap u z H locs → lv_has ls 11 [(0, .ref (u r0)), (1, .ref (u r1)), (2, .int x2), (3, .int x3), (4, .int x4), (5, .int x5), (6, .int x6), (7, .int x7), (8, .int x8), (9, .int x9), (10, .int x10)] → c_X0_planCrossing vl K k 7 x2 x3 x4 x5 x6 x7 x8 x9 x10 r0 r1 t0 t1 t2 t3 t4 z = some (r, z1) → W p l e ({ frames := 1, cells := 0, slots := 0, locals := 25 } : Room) s m args below meth c H locs 0 0 QQ (F0 m 132 ls [.int t0])) ∧ (∀ (x2 : Int32) (x3 : Int32) (x4 : Int32) (x5 : Int32) (x6 : Int32) (x7 : Int32) (x8 : Int32) (x9 : Int32) (x10 : Int32) (r0 : Nat) (r1 : Nat) (t0 : Int32) (t1 : Int32) (t2 : Int32) (t3 : Int32) (t4 : Int32) (z : ow_MS) (H : Heap) (locs : List Loc) (ls : Array Slot), cw_X0 r0 → cw_X7 r1 → uw_M D vwCl (cX vl) q (tw_A (cX vl) u) s.heap u z H locs → lv_has ls 11 [(0, .ref (u r0)), (1, .ref (u r1)), (2, .int x2), (3, .int x3), (4, .int x4), (5, .int x5), (6, .int x6), (7, .int x7), (8, .int x8), (9, .int x9), (10, .int x10)] → c_X0_planCrossing vl K k 8 x2 x3 x4 x5 x6 x7 x8 x9 x10 r0 r1 t0 t1 t2 t3 t4 z = some (r, z1) → W p l e ({ frames := 1, cells := 0, slots := 0, locals := 25 } : Room) s m args below meth c H locs 0 0 QQ (F0 m 146 ls [.int t0])) ∧ (∀ (x2 : Int32) (x3 : Int32) (x4 : Int32) (x5 : Int32) (x6 : Int32) (x7 : Int32) (x8 : Int32) (x9 : Int32) (x10 : Int32) (r0 : Nat) (r1 : Nat) (t0 : Int32) (t1 : Int32) (t2 : Int32) (t3 : Int32) (t4 : Int32) (z : ow_MS) (H : Heap) (locs : List Loc) (ls : Array Slot), cw_X0 r0 → cw_X7 r1 → uw_M D vwCl (cX vl) q (tw_A (cX vl) u) s.heap u z H locs → lv_has ls 11 [(0, .ref (u r0)), (1, .ref (u r1)), (2, .int x2), (3, .int x3), (4, .int x4), (5, .int x5), (6, .int x6), (7, .int x7), (8, .int x8), (9, .int x9), (10, .int x10)] → c_X0_planCrossing vl K k 9 x2 x3 x4 x5 x6 x7 x8 x9 x10 r0 r1 t0 t1 t2 t3 t4 z = some (r, z1) → W p l e ({ frames := 1, cells := 0, slots := 0, locals := 25 } : Room) s m args below meth c H locs 0 0 QQ (F0 m 148 ls [])) ∧ (∀ (x2 : Int32) (x3 : Int32) (x4 : Int32) (x5 : Int32) (x6 : Int32) (x7 : Int32) (x8 : Int32) (x9 : Int32) (x10 : Int32) (r0 : Nat) (r1 : Nat) (t0 : Int32) (t1 : Int32) (t2 : Int32) (t3 : Int32) (t4 : Int32) (z : ow_MS) (H : Heap) (locs : List Loc) (ls : Array Slot), cw_X0 r0 → cw_X7 r1 → uw_M D vwCl (cX vl) q (tw_A (cX vl) u) s.heap u z H locs → lv_has ls 11 [(0, .ref (u r0)), (1, .ref (u r1)), (2, .int x2), (3, .int x3), (4, .int x4), (5, .int x5), (6, .int x6), (7, .int x7), (8, .int x8), (9, .int x9), (10, .int x10)] → c_X0_planCrossing vl K k 10 x2 x3 x4 x5 x6 x7 x8 x9 x10 r0 r1 t0 t1 t2 t3 t4 z = some (r, z1) → W p l e ({ frames := 1, cells := 0, slots := 0, locals := 25 } : Room) s m args below meth c H locs 0 0 QQ (F0 m 165 ls [])) ∧ (∀ (x2 : Int32) (x3 : Int32) (x4 : Int32) (x5 : Int32) (x6 : Int32) (x7 : Int32) (x8 : Int32) (x9 : Int32) (x10 : Int32) (r0 : Nat) (r1 : Nat) (t0 : Int32) (t1 : Int32) (t2 : Int32) (t3 : Int32) (t4 : Int32) (z : ow_MS) (H : Heap) (locs : List Loc) (ls : Array Slot), cw_X0 r0 → cw_X7 r1 → uw_M D vwCl (cX vl) q (tw_A (cX vl) u) s.heap u z H locs → lv_has ls 11 [(0, .ref (u r0)), (1, .ref (u r1)), (2, .int x2), (3, .int x3), (4, .int x4), (5, .int x5), (6, .int x6), (7, .int x7), (8, .int x8), (9, .int x9), (10, .int x10)] → c_X0_planCrossing vl K k 11 x2 x3 x4 x5 x6 x7 x8 x9 x10 r0 r1 t0 t1 t2 t3 t4 z = some (r, z1) → W p l e ({ frames := 1, cells := 0, slots := 0, locals := 25 } : Room) s m args below meth c H locs 0 0 QQ (F0 m 205 ls [.int t0, .int t1, .int t2, .int t3, .int t4, .ref (u r0)])) ∧ (∀ (x2 : Int32) (x3 : Int32) (x4 : Int32) (x5 : Int32) (x6 : Int32) (x7 : Int32) (x8 : Int32) (x9 : Int32) (x10 : Int32) (r0 : Nat) (r1 : Nat) (t0 : Int32) (t1 : Int32) (t2 : Int32) (t3 : Int32) (t4 : Int32) (z : ow_MS) (H : Heap) (locs : List Loc) (ls : Array Slot), cw_X0 r0 → cw_X7 r1 → uw_M D vwCl (cX vl) q (tw_A (cX vl) u) s.heap u z H locs → lv_has ls 11 [(0, .ref (u r0)), (1, .ref (u r1)), (2, .int x2), (3, .int x3), (4, .int x4), (5, .int x5), (6, .int x6), (7, .int x7), (8, .int x8), (9, .int x9), (10, .int x10)] → c_X0_planCrossing vl K k 12 x2 x3 x4 x5 x6 x7 x8 x9 x10 r0 r1 t0 t1 t2 t3 t4 z = some (r, z1) → W p l e ({ frames := 1, cells := 0, slots := 0, locals := 25 } : Room) s m args below meth c H locs 0 0 QQ (F0 m 211 ls [])) ∧ (∀ (x2 : Int32) (x3 : Int32) (x4 : Int32) (x5 : Int32) (x6 : Int32) (x7 : Int32) (x8 : Int32) (x9 : Int32) (x10 : Int32) (r0 : Nat) (r1 : Nat) (t0 : Int32) (t1 : Int32) (t2 : Int32) (t3 : Int32) (t4 : Int32) (z : ow_MS) (H : Heap) (locs : List Loc) (ls : Array Slot), cw_X0 r0 → cw_X7 r1 → uw_M D vwCl (cX vl) q (tw_A (cX vl) u) s.heap u z H locs → lv_has ls 11 [(0, .ref (u r0)), (1, .ref (u r1)), (2, .int x2), (3, .int x3), (4, .int x4), (5, .int x5), (6, .int x6), (7, .int x7), (8, .int x8), (9, .int x9), (10, .int x10)] → c_X0_planCrossing vl K k 13 x2 x3 x4 x5 x6 x7 x8 x9 x10 r0 r1 t0 t1 t2 t3 t4 z = some (r, z1) → W p l e ({ frames := 1, cells := 0, slots := 0, locals := 25 } : Room) s m args below meth c H locs 0 0 QQ (F0 m 234 ls [.int t0, .int t1, .int t2, .int t3, .int t4, .ref (u r0)])) ∧ (∀ (x2 : Int32) (x3 : Int32) (x4 : Int32) (x5 : Int32) (x6 : Int32) (x7 : Int32) (x8 : Int32) (x9 : Int32) (x10 : Int32) (r0 : Nat) (r1 : Nat) (t0 : Int32) (t1 : Int32) (t2 : Int32) (t3 : Int32) (t4 : Int32) (z : ow_MS) (H : Heap) (locs : List Loc) (ls : Array Slot), cw_X0 r0 → cw_X7 r1 → uw_M D vwCl (cX vl) q (tw_A (cX vl) u) s.heap u z H locs → lv_has ls 11 [(0, .ref (u r0)), (1, .ref (u r1)), (2, .int x2), (3, .int x3), (4, .int x4), (5, .int x5), (6, .int x6), (7, .int x7), (8, .int x8), (9, .int x9), (10, .int x10)] → c_X0_planCrossing vl K k 14 x2 x3 x4 x5 x6 x7 x8 x9 x10 r0 r1 t0 t1 t2 t3 t4 z = some (r, z1) → W p l e ({ frames := 1, cells := 0, slots := 0, locals := 25 } : Room) s m args below meth c H locs 0 0 QQ (F0 m 253 ls [])) := by
    intro k
    induction k with
    | zero => exact ⟨fun _ _ _ _ _ _ _ _ _ _ _ _ _ _ _ _ _ _ _ _ _ _ _ _ hq => cw_no hq, fun _ _ _ _ _ _ _ _ _ _ _ _ _ _ _ _ _ _ _ _ _ _ _ _ hq => cw_no hq, fun _ _ _ _ _ _ _ _ _ _ _ _ _ _ _ _ _ _ _ _ _ _ _ _ hq => cw_no hq, fun _ _ _ _ _ _ _ _ _ _ _ _ _ _ _ _ _ _ _ _ _ _ _ _ hq => cw_no hq, fun _ _ _ _ _ _ _ _ _ _ _ _ _ _ _ _ _ _ _ _ _ _ _ _ hq => cw_no hq, fun _ _ _ _ _ _ _ _ _ _ _ _ _ _ _ _ _ _ _ _ _ _ _ _ hq => cw_no hq, fun _ _ _ _ _ _ _ _ _ _ _ _ _ _ _ _ _ _ _ _ _ _ _ _ hq => cw_no hq, fun _ _ _ _ _ _ _ _ _ _ _ _ _ _ _ _ _ _ _ _ _ _ _ _ hq => cw_no hq, fun _ _ _ _ _ _ _ _ _ _ _ _ _ _ _ _ _ _ _ _ _ _ _ _ hq => cw_no hq, fun _ _ _ _ _ _ _ _ _ _ _ _ _ _ _ _ _ _ _ _ _ _ _ _ hq => cw_no hq, fun _ _ _ _ _ _ _ _ _ _ _ _ _ _ _ _ _ _ _ _ _ _ _ _ hq => cw_no hq, fun _ _ _ _ _ _ _ _ _ _ _ _ _ _ _ _ _ _ _ _ _ _ _ _ hq => cw_no hq, fun _ _ _ _ _ _ _ _ _ _ _ _ _ _ _ _ _ _ _ _ _ _ _ _ hq => cw_no hq, fun _ _ _ _ _ _ _ _ _ _ _ _ _ _ _ _ _ _ _ _ _ _ _ _ hq => cw_no hq, fun _ _ _ _ _ _ _ _ _ _ _ _ _ _ _ _ _ _ _ _ _ _ _ _ hq => cw_no hq⟩
    | succ k ih =>
      obtain ⟨ih_0, ih_1, ih_2, ih_3, ih_4, ih_5, ih_6, ih_7, ih_8, ih_9, ih_10, ih_11, ih_12, ih_13, ih_14⟩ := ih
      refine ⟨?_, ?_, ?_, ?_, ?_, ?_, ?_, ?_, ?_, ?_, ?_, ?_, ?_, ?_, ?_⟩
      · intro x2 x3 x4 x5 x6 x7 x8 x9 x10 r0 r1 t0 t1 t2 t3 t4 z H locs ls hr0 hr1 hM hl hq
        have hq : cm_X0_planCrossing_0 vl K (c_X0_planCrossing vl K k) x2 x3 x4 x5 x6 x7 x8 x9 x10 r0 r1 t0 t1 t2 t3 t4 z = some (r, z1) := hq
        unfold cm_X0_planCrossing_0 at hq
        refine lv_aload_n hx hb dcX0_planCrossing_0 rfl (lv_at hl 0 rfl) ?_
        refine vgX0_9 hx hb hT hown hK hM hr0 dcX0_planCrossing_1 ?_
        refine lv_iconst (v := 2) hx hb dcX0_planCrossing_4 (by decide) ?_
        refine lv_iload_n hx hb dcX0_planCrossing_5 rfl (lv_at hl 2 rfl) ?_
        refine lv_imul hx hb dcX0_planCrossing_6 ?_
        refine uw_iald cX_ok hx hb hK hM (cr_X0_0 hr0) hq dcX0_planCrossing_7 (fun v1 hq => ?_)
        refine lv_istore (lv' := [(4, .int v1), (0, .ref (u r0)), (1, .ref (u r1)), (2, .int x2), (3, .int x3)]) hx hb dcX0_planCrossing_8 hl (by decide) rfl (fun ls hl => ?_)
        refine lv_aload_n hx hb dcX0_planCrossing_10 rfl (lv_at hl 1 rfl) ?_
        refine vgX0_9 hx hb hT hown hK hM hr0 dcX0_planCrossing_11 ?_
        refine lv_aload_n hx hb dcX0_planCrossing_14 rfl (lv_at hl 2 rfl) ?_
        refine vgX0_100 hx hb hT hown hK hM hr1 dcX0_planCrossing_15 ?_
        refine lv_iconst (v := 2) hx hb dcX0_planCrossing_18 (by decide) ?_
        refine lv_iload_n hx hb dcX0_planCrossing_19 rfl (lv_at hl 3 rfl) ?_
        refine lv_imul hx hb dcX0_planCrossing_20 ?_
        refine lv_iconst (v := 1) hx hb dcX0_planCrossing_21 (by decide) ?_
        refine lv_iadd hx hb dcX0_planCrossing_22 ?_
        refine uw_iald cX_ok hx hb hK hM (cr_X7_1 hr1) hq dcX0_planCrossing_23 (fun v2 hq => ?_)
        refine uw_iald cX_ok hx hb hK hM (cr_X0_0 hr0) hq dcX0_planCrossing_24 (fun v3 hq => ?_)
        refine lv_istore (lv' := [(5, .int v3), (4, .int v1), (0, .ref (u r0)), (1, .ref (u r1)), (2, .int x2), (3, .int x3)]) hx hb dcX0_planCrossing_25 hl (by decide) rfl (fun ls hl => ?_)
        refine lv_aload_n hx hb dcX0_planCrossing_27 rfl (lv_at hl 2 rfl) ?_
        refine vgX0_9 hx hb hT hown hK hM hr0 dcX0_planCrossing_28 ?_
        refine lv_iconst (v := 2) hx hb dcX0_planCrossing_31 (by decide) ?_
        refine lv_iload_n hx hb dcX0_planCrossing_32 rfl (lv_at hl 4 rfl) ?_
        refine lv_imul hx hb dcX0_planCrossing_33 ?_
        refine lv_iconst (v := 1) hx hb dcX0_planCrossing_34 (by decide) ?_
        refine lv_iadd hx hb dcX0_planCrossing_35 ?_
        refine uw_iald cX_ok hx hb hK hM (cr_X0_0 hr0) hq dcX0_planCrossing_36 (fun v4 hq => ?_)
        refine lv_istore (lv' := [(6, .int v4), (5, .int v3), (4, .int v1), (0, .ref (u r0)), (1, .ref (u r1)), (2, .int x2), (3, .int x3)]) hx hb dcX0_planCrossing_37 hl (by decide) rfl (fun ls hl => ?_)
        refine lv_aload_n hx hb dcX0_planCrossing_39 rfl (lv_at hl 4 rfl) ?_
        refine vgX0_176 hx hb hT hown hK hM hr1 dcX0_planCrossing_40 ?_
        refine lv_iload_n hx hb dcX0_planCrossing_43 rfl (lv_at hl 5 rfl) ?_
        refine uw_iald cX_ok hx hb hK hM (cr_X7_2 hr1) hq dcX0_planCrossing_44 (fun v5 hq => ?_)
        refine lv_if_le (tgt := 52) hx hb dcX0_planCrossing_45 (by decide) (fun hc => ?_) (fun hc => ?_)
        · have hq := tw_it hq hc
          refine lv_iconst (v := 0) hx hb dcX0_planCrossing_52 (by decide) ?_
          exact ih_1 x2 x3 v1 v3 v4 0 0 0 0 r0 r1 0 0 0 0 0 z H locs ls hr0 hr1 hM (lv_sub hl [3, 4, 5, 6, 2, 1, 0] rfl) hq
        · have hq := tw_if hq hc
          refine lv_iconst (v := 1) hx hb dcX0_planCrossing_48 (by decide) ?_
          refine lv_goto (tgt := 53) hx hb dcX0_planCrossing_49 (by decide) ?_
          exact ih_1 x2 x3 v1 v3 v4 0 0 0 0 r0 r1 1 0 0 0 0 z H locs ls hr0 hr1 hM (lv_sub hl [3, 4, 5, 6, 2, 1, 0] rfl) hq
      · intro x2 x3 x4 x5 x6 x7 x8 x9 x10 r0 r1 t0 t1 t2 t3 t4 z H locs ls hr0 hr1 hM hl hq
        have hq : cm_X0_planCrossing_1 vl K (c_X0_planCrossing vl K k) x2 x3 x4 x5 x6 x7 x8 x9 x10 r0 r1 t0 t1 t2 t3 t4 z = some (r, z1) := hq
        unfold cm_X0_planCrossing_1 at hq
        refine lv_istore (lv' := [(7, .int t0), (0, .ref (u r0)), (1, .ref (u r1)), (2, .int x2), (3, .int x3), (4, .int x4), (5, .int x5), (6, .int x6)]) hx hb dcX0_planCrossing_53 hl (by decide) rfl (fun ls hl => ?_)
        refine lv_iload_n hx hb dcX0_planCrossing_55 rfl (lv_at hl 4 rfl) ?_
        refine lv_iload hx hb dcX0_planCrossing_56 (lv_at hl 6 rfl) ?_
        refine lv_ishr hx hb dcX0_planCrossing_58 ?_
        refine lv_iconst (v := 1) hx hb dcX0_planCrossing_59 (by decide) ?_
        refine lv_iand hx hb dcX0_planCrossing_60 ?_
        refine lv_if_eq (tgt := 68) hx hb dcX0_planCrossing_61 (by decide) (fun hc => ?_) (fun hc => ?_)
        · have hq := tw_it hq hc
          refine lv_iconst (v := 0) hx hb dcX0_planCrossing_68 (by decide) ?_
          exact ih_2 x2 x3 x4 x5 x6 t0 0 0 0 r0 r1 0 0 0 0 0 z H locs ls hr0 hr1 hM (lv_sub hl [1, 2, 3, 4, 5, 6, 7, 0] rfl) hq
        · have hq := tw_if hq hc
          refine lv_iconst (v := 1) hx hb dcX0_planCrossing_64 (by decide) ?_
          refine lv_goto (tgt := 69) hx hb dcX0_planCrossing_65 (by decide) ?_
          exact ih_2 x2 x3 x4 x5 x6 t0 0 0 0 r0 r1 1 0 0 0 0 z H locs ls hr0 hr1 hM (lv_sub hl [1, 2, 3, 4, 5, 6, 7, 0] rfl) hq
      · intro x2 x3 x4 x5 x6 x7 x8 x9 x10 r0 r1 t0 t1 t2 t3 t4 z H locs ls hr0 hr1 hM hl hq
        have hq : cm_X0_planCrossing_2 vl K (c_X0_planCrossing vl K k) x2 x3 x4 x5 x6 x7 x8 x9 x10 r0 r1 t0 t1 t2 t3 t4 z = some (r, z1) := hq
        unfold cm_X0_planCrossing_2 at hq
        refine lv_istore (lv' := [(8, .int t0), (0, .ref (u r0)), (1, .ref (u r1)), (2, .int x2), (3, .int x3), (4, .int x4), (5, .int x5), (6, .int x6), (7, .int x7)]) hx hb dcX0_planCrossing_69 hl (by decide) rfl (fun ls hl => ?_)
        refine lv_iload_n hx hb dcX0_planCrossing_71 rfl (lv_at hl 4 rfl) ?_
        refine lv_iload hx hb dcX0_planCrossing_72 (lv_at hl 7 rfl) ?_
        refine lv_ishr hx hb dcX0_planCrossing_74 ?_
        refine lv_iconst (v := 1) hx hb dcX0_planCrossing_75 (by decide) ?_
        refine lv_iand hx hb dcX0_planCrossing_76 ?_
        refine lv_if_eq (tgt := 84) hx hb dcX0_planCrossing_77 (by decide) (fun hc => ?_) (fun hc => ?_)
        · have hq := tw_it hq hc
          refine lv_iconst (v := 0) hx hb dcX0_planCrossing_84 (by decide) ?_
          exact ih_3 x2 x3 x4 x5 x6 x7 t0 0 0 r0 r1 0 0 0 0 0 z H locs ls hr0 hr1 hM (lv_sub hl [1, 2, 3, 4, 5, 6, 7, 8, 0] rfl) hq
        · have hq := tw_if hq hc
          refine lv_iconst (v := 1) hx hb dcX0_planCrossing_80 (by decide) ?_
          refine lv_goto (tgt := 85) hx hb dcX0_planCrossing_81 (by decide) ?_
          exact ih_3 x2 x3 x4 x5 x6 x7 t0 0 0 r0 r1 1 0 0 0 0 z H locs ls hr0 hr1 hM (lv_sub hl [1, 2, 3, 4, 5, 6, 7, 8, 0] rfl) hq
      · intro x2 x3 x4 x5 x6 x7 x8 x9 x10 r0 r1 t0 t1 t2 t3 t4 z H locs ls hr0 hr1 hM hl hq
        have hq : cm_X0_planCrossing_3 vl K (c_X0_planCrossing vl K k) x2 x3 x4 x5 x6 x7 x8 x9 x10 r0 r1 t0 t1 t2 t3 t4 z = some (r, z1) := hq
        unfold cm_X0_planCrossing_3 at hq
        refine lv_istore (lv' := [(9, .int t0), (0, .ref (u r0)), (1, .ref (u r1)), (2, .int x2), (3, .int x3), (4, .int x4), (5, .int x5), (6, .int x6), (7, .int x7), (8, .int x8)]) hx hb dcX0_planCrossing_85 hl (by decide) rfl (fun ls hl => ?_)
        refine lv_iload_n hx hb dcX0_planCrossing_87 rfl (lv_at hl 4 rfl) ?_
        refine lv_iload hx hb dcX0_planCrossing_88 (lv_at hl 5 rfl) ?_
        refine lv_ishr hx hb dcX0_planCrossing_90 ?_
        refine lv_iconst (v := 1) hx hb dcX0_planCrossing_91 (by decide) ?_
        refine lv_iand hx hb dcX0_planCrossing_92 ?_
        refine lv_if_eq (tgt := 100) hx hb dcX0_planCrossing_93 (by decide) (fun hc => ?_) (fun hc => ?_)
        · have hq := tw_it hq hc
          refine lv_iconst (v := 0) hx hb dcX0_planCrossing_100 (by decide) ?_
          exact ih_4 x2 x3 x4 x5 x6 x7 x8 t0 0 r0 r1 0 0 0 0 0 z H locs ls hr0 hr1 hM (lv_sub hl [1, 2, 3, 4, 5, 6, 7, 8, 9, 0] rfl) hq
        · have hq := tw_if hq hc
          refine lv_iconst (v := 1) hx hb dcX0_planCrossing_96 (by decide) ?_
          refine lv_goto (tgt := 101) hx hb dcX0_planCrossing_97 (by decide) ?_
          exact ih_4 x2 x3 x4 x5 x6 x7 x8 t0 0 r0 r1 1 0 0 0 0 z H locs ls hr0 hr1 hM (lv_sub hl [1, 2, 3, 4, 5, 6, 7, 8, 9, 0] rfl) hq
      · intro x2 x3 x4 x5 x6 x7 x8 x9 x10 r0 r1 t0 t1 t2 t3 t4 z H locs ls hr0 hr1 hM hl hq
        have hq : cm_X0_planCrossing_4 vl K (c_X0_planCrossing vl K k) x2 x3 x4 x5 x6 x7 x8 x9 x10 r0 r1 t0 t1 t2 t3 t4 z = some (r, z1) := hq
        unfold cm_X0_planCrossing_4 at hq
        refine lv_istore (lv' := [(10, .int t0), (0, .ref (u r0)), (1, .ref (u r1)), (2, .int x2), (3, .int x3), (4, .int x4), (5, .int x5), (6, .int x6), (7, .int x7), (8, .int x8), (9, .int x9)]) hx hb dcX0_planCrossing_101 hl (by decide) rfl (fun ls hl => ?_)
        refine lv_iload hx hb dcX0_planCrossing_103 (lv_at hl 5 rfl) ?_
        refine lv_iload hx hb dcX0_planCrossing_105 (lv_at hl 6 rfl) ?_
        refine lv_icmp_eq (tgt := 117) hx hb dcX0_planCrossing_107 (by decide) (fun hc => ?_) (fun hc => ?_)
        · have hq := tw_it hq hc
          exact ih_5 x2 x3 x4 x5 x6 x7 x8 x9 t0 r0 r1 0 0 0 0 0 z H locs ls hr0 hr1 hM (lv_sub hl [1, 2, 3, 4, 5, 6, 7, 8, 9, 10, 0] rfl) hq
        · have hq := tw_if hq hc
          refine lv_iload hx hb dcX0_planCrossing_110 (lv_at hl 5 rfl) ?_
          refine lv_iload hx hb dcX0_planCrossing_112 (lv_at hl 7 rfl) ?_
          refine lv_icmp_ne (tgt := 148) hx hb dcX0_planCrossing_114 (by decide) (fun hc => ?_) (fun hc => ?_)
          · have hq := tw_if hq hc
            exact ih_9 x2 x3 x4 x5 x6 x7 x8 x9 t0 r0 r1 0 0 0 0 0 z H locs ls hr0 hr1 hM (lv_sub hl [1, 2, 3, 4, 5, 6, 7, 8, 9, 10, 0] rfl) hq
          · have hq := tw_it hq hc
            exact ih_5 x2 x3 x4 x5 x6 x7 x8 x9 t0 r0 r1 0 0 0 0 0 z H locs ls hr0 hr1 hM (lv_sub hl [1, 2, 3, 4, 5, 6, 7, 8, 9, 10, 0] rfl) hq
      · intro x2 x3 x4 x5 x6 x7 x8 x9 x10 r0 r1 t0 t1 t2 t3 t4 z H locs ls hr0 hr1 hM hl hq
        have hq : cm_X0_planCrossing_5 vl K (c_X0_planCrossing vl K k) x2 x3 x4 x5 x6 x7 x8 x9 x10 r0 r1 t0 t1 t2 t3 t4 z = some (r, z1) := hq
        unfold cm_X0_planCrossing_5 at hq
        refine lv_iload hx hb dcX0_planCrossing_117 (lv_at hl 8 rfl) ?_
        refine lv_if_ne (tgt := 127) hx hb dcX0_planCrossing_119 (by decide) (fun hc => ?_) (fun hc => ?_)
        · have hq := tw_if hq hc
          exact ih_6 x2 x3 x4 x5 x6 x7 x8 x9 x10 r0 r1 0 0 0 0 0 z H locs ls hr0 hr1 hM (lv_sub hl [0, 1, 2, 3, 4, 5, 6, 7, 8, 9, 10] rfl) hq
        · have hq := tw_it hq hc
          refine lv_iload hx hb dcX0_planCrossing_122 (lv_at hl 9 rfl) ?_
          refine lv_if_eq (tgt := 131) hx hb dcX0_planCrossing_124 (by decide) (fun hc => ?_) (fun hc => ?_)
          · have hq := tw_it hq hc
            refine lv_iconst (v := 0) hx hb dcX0_planCrossing_131 (by decide) ?_
            exact ih_7 x2 x3 x4 x5 x6 x7 x8 x9 x10 r0 r1 0 0 0 0 0 z H locs ls hr0 hr1 hM (lv_sub hl [0, 1, 2, 3, 4, 5, 6, 7, 8, 9, 10] rfl) hq
          · have hq := tw_if hq hc
            exact ih_6 x2 x3 x4 x5 x6 x7 x8 x9 x10 r0 r1 0 0 0 0 0 z H locs ls hr0 hr1 hM (lv_sub hl [0, 1, 2, 3, 4, 5, 6, 7, 8, 9, 10] rfl) hq
      · intro x2 x3 x4 x5 x6 x7 x8 x9 x10 r0 r1 t0 t1 t2 t3 t4 z H locs ls hr0 hr1 hM hl hq
        have hq : cm_X0_planCrossing_6 vl K (c_X0_planCrossing vl K k) x2 x3 x4 x5 x6 x7 x8 x9 x10 r0 r1 t0 t1 t2 t3 t4 z = some (r, z1) := hq
        unfold cm_X0_planCrossing_6 at hq
        refine lv_iconst (v := 1) hx hb dcX0_planCrossing_127 (by decide) ?_
        refine lv_goto (tgt := 132) hx hb dcX0_planCrossing_128 (by decide) ?_
        exact ih_7 x2 x3 x4 x5 x6 x7 x8 x9 x10 r0 r1 1 0 0 0 0 z H locs ls hr0 hr1 hM (lv_sub hl [0, 1, 2, 3, 4, 5, 6, 7, 8, 9, 10] rfl) hq
      · intro x2 x3 x4 x5 x6 x7 x8 x9 x10 r0 r1 t0 t1 t2 t3 t4 z H locs ls hr0 hr1 hM hl hq
        have hq : cm_X0_planCrossing_7 vl K (c_X0_planCrossing vl K k) x2 x3 x4 x5 x6 x7 x8 x9 x10 r0 r1 t0 t1 t2 t3 t4 z = some (r, z1) := hq
        unfold cm_X0_planCrossing_7 at hq
        refine lv_istore (lv' := [(10, .int t0), (0, .ref (u r0)), (1, .ref (u r1)), (2, .int x2), (3, .int x3), (4, .int x4), (5, .int x5), (6, .int x6), (7, .int x7), (8, .int x8), (9, .int x9)]) hx hb dcX0_planCrossing_132 hl (by decide) rfl (fun ls hl => ?_)
        refine lv_iload hx hb dcX0_planCrossing_134 (lv_at hl 9 rfl) ?_
        refine lv_if_eq (tgt := 144) hx hb dcX0_planCrossing_136 (by decide) (fun hc => ?_) (fun hc => ?_)
        · have hq := tw_it hq hc
          refine lv_iload hx hb dcX0_planCrossing_144 (lv_at hl 7 rfl) ?_
          exact ih_8 x2 x3 x4 x5 x6 x7 x8 x9 t0 r0 r1 x6 0 0 0 0 z H locs ls hr0 hr1 hM (lv_sub hl [1, 2, 3, 4, 5, 6, 7, 8, 9, 10, 0] rfl) hq
        · have hq := tw_if hq hc
          refine lv_iload hx hb dcX0_planCrossing_139 (lv_at hl 6 rfl) ?_
          refine lv_goto (tgt := 146) hx hb dcX0_planCrossing_141 (by decide) ?_
          exact ih_8 x2 x3 x4 x5 x6 x7 x8 x9 t0 r0 r1 x5 0 0 0 0 z H locs ls hr0 hr1 hM (lv_sub hl [1, 2, 3, 4, 5, 6, 7, 8, 9, 10, 0] rfl) hq
      · intro x2 x3 x4 x5 x6 x7 x8 x9 x10 r0 r1 t0 t1 t2 t3 t4 z H locs ls hr0 hr1 hM hl hq
        have hq : cm_X0_planCrossing_8 vl K (c_X0_planCrossing vl K k) x2 x3 x4 x5 x6 x7 x8 x9 x10 r0 r1 t0 t1 t2 t3 t4 z = some (r, z1) := hq
        unfold cm_X0_planCrossing_8 at hq
        refine lv_istore (lv' := [(4, .int t0), (0, .ref (u r0)), (1, .ref (u r1)), (2, .int x2), (3, .int x3), (5, .int x5), (6, .int x6), (7, .int x7), (8, .int x8), (9, .int x9), (10, .int x10)]) hx hb dcX0_planCrossing_146 hl (by decide) rfl (fun ls hl => ?_)
        exact ih_9 x2 x3 t0 x5 x6 x7 x8 x9 x10 r0 r1 0 0 0 0 0 z H locs ls hr0 hr1 hM (lv_sub hl [1, 2, 3, 4, 0, 5, 6, 7, 8, 9, 10] rfl) hq
      · intro x2 x3 x4 x5 x6 x7 x8 x9 x10 r0 r1 t0 t1 t2 t3 t4 z H locs ls hr0 hr1 hM hl hq
        have hq : cm_X0_planCrossing_9 vl K (c_X0_planCrossing vl K k) x2 x3 x4 x5 x6 x7 x8 x9 x10 r0 r1 t0 t1 t2 t3 t4 z = some (r, z1) := hq
        unfold cm_X0_planCrossing_9 at hq
        refine lv_iload hx hb dcX0_planCrossing_148 (lv_at hl 10 rfl) ?_
        refine lv_if_eq (tgt := 163) hx hb dcX0_planCrossing_150 (by decide) (fun hc => ?_) (fun hc => ?_)
        · have hq := tw_it hq hc
          refine lv_iload_n hx hb dcX0_planCrossing_163 rfl (lv_at hl 3 rfl) ?_
          exact cw_iret hx hb hr hlocks hM hq hQQ dcX0_planCrossing_164
        · have hq := tw_if hq hc
          refine lv_iload hx hb dcX0_planCrossing_153 (lv_at hl 8 rfl) ?_
          refine lv_if_ne (tgt := 165) hx hb dcX0_planCrossing_155 (by decide) (fun hc => ?_) (fun hc => ?_)
          · have hq := tw_if hq hc
            exact ih_10 x2 x3 x4 x5 x6 x7 x8 x9 x10 r0 r1 0 0 0 0 0 z H locs ls hr0 hr1 hM (lv_sub hl [0, 1, 2, 3, 4, 5, 6, 7, 8, 9, 10] rfl) hq
          · have hq := tw_it hq hc
            refine lv_iload hx hb dcX0_planCrossing_158 (lv_at hl 9 rfl) ?_
            refine lv_if_ne (tgt := 165) hx hb dcX0_planCrossing_160 (by decide) (fun hc => ?_) (fun hc => ?_)
            · have hq := tw_if hq hc
              exact ih_10 x2 x3 x4 x5 x6 x7 x8 x9 x10 r0 r1 0 0 0 0 0 z H locs ls hr0 hr1 hM (lv_sub hl [0, 1, 2, 3, 4, 5, 6, 7, 8, 9, 10] rfl) hq
            · have hq := tw_it hq hc
              refine lv_iload_n hx hb dcX0_planCrossing_163 rfl (lv_at hl 3 rfl) ?_
              exact cw_iret hx hb hr hlocks hM hq hQQ dcX0_planCrossing_164
      · intro x2 x3 x4 x5 x6 x7 x8 x9 x10 r0 r1 t0 t1 t2 t3 t4 z H locs ls hr0 hr1 hM hl hq
        have hq : cm_X0_planCrossing_10 vl K (c_X0_planCrossing vl K k) x2 x3 x4 x5 x6 x7 x8 x9 x10 r0 r1 t0 t1 t2 t3 t4 z = some (r, z1) := hq
        unfold cm_X0_planCrossing_10 at hq
        refine lv_aload_n hx hb dcX0_planCrossing_165 rfl (lv_at hl 0 rfl) ?_
        refine lv_dup hx hb dcX0_planCrossing_166 rfl ?_
        refine vgX0_166 hx hb hT hown hK hM hr0 hq dcX0_planCrossing_167 (fun v6 hq => ?_)
        refine lv_iconst (v := 1) hx hb dcX0_planCrossing_170 (by decide) ?_
        refine lv_iload_n hx hb dcX0_planCrossing_171 rfl (lv_at hl 2 rfl) ?_
        refine lv_ishl hx hb dcX0_planCrossing_172 ?_
        refine lv_ior hx hb dcX0_planCrossing_173 ?_
        refine vpX0_166 hx hb hT hown hK hM hU hr0 hq dcX0_planCrossing_174 (fun z7 H locs hM hq => ?_)
        refine lv_iload hx hb dcX0_planCrossing_177 (lv_at hl 8 rfl) ?_
        refine lv_if_eq (tgt := 211) hx hb dcX0_planCrossing_179 (by decide) (fun hc => ?_) (fun hc => ?_)
        · have hq := tw_it hq hc
          exact ih_12 x2 x3 x4 x5 x6 x7 x8 x9 x10 r0 r1 0 0 0 0 0 z7 H locs ls hr0 hr1 hM (lv_sub hl [0, 1, 2, 3, 4, 5, 6, 7, 8, 9, 10] rfl) hq
        · have hq := tw_if hq hc
          refine lv_iload hx hb dcX0_planCrossing_182 (lv_at hl 9 rfl) ?_
          refine lv_if_eq (tgt := 211) hx hb dcX0_planCrossing_184 (by decide) (fun hc => ?_) (fun hc => ?_)
          · have hq := tw_it hq hc
            exact ih_12 x2 x3 x4 x5 x6 x7 x8 x9 x10 r0 r1 0 0 0 0 0 z7 H locs ls hr0 hr1 hM (lv_sub hl [0, 1, 2, 3, 4, 5, 6, 7, 8, 9, 10] rfl) hq
          · have hq := tw_if hq hc
            refine lv_aload_n hx hb dcX0_planCrossing_187 rfl (lv_at hl 0 rfl) ?_
            refine lv_iconst (v := 2) hx hb dcX0_planCrossing_188 (by decide) ?_
            refine lv_iload hx hb dcX0_planCrossing_189 (lv_at hl 6 rfl) ?_
            refine lv_iload hx hb dcX0_planCrossing_191 (lv_at hl 4 rfl) ?_
            refine lv_iload hx hb dcX0_planCrossing_193 (lv_at hl 5 rfl) ?_
            refine lv_iload hx hb dcX0_planCrossing_195 (lv_at hl 7 rfl) ?_
            refine lv_if_ne (tgt := 204) hx hb dcX0_planCrossing_197 (by decide) (fun hc => ?_) (fun hc => ?_)
            · have hq := tw_if hq hc
              refine lv_iconst (v := 0) hx hb dcX0_planCrossing_204 (by decide) ?_
              exact ih_11 x2 x3 x4 x5 x6 x7 x8 x9 x10 r0 r1 0 x5 x4 x6 2 z7 H locs ls hr0 hr1 hM (lv_sub hl [0, 1, 2, 3, 4, 5, 6, 7, 8, 9, 10] rfl) hq
            · have hq := tw_it hq hc
              refine lv_iconst (v := 1) hx hb dcX0_planCrossing_200 (by decide) ?_
              refine lv_goto (tgt := 205) hx hb dcX0_planCrossing_201 (by decide) ?_
              exact ih_11 x2 x3 x4 x5 x6 x7 x8 x9 x10 r0 r1 1 x5 x4 x6 2 z7 H locs ls hr0 hr1 hM (lv_sub hl [0, 1, 2, 3, 4, 5, 6, 7, 8, 9, 10] rfl) hq
      · intro x2 x3 x4 x5 x6 x7 x8 x9 x10 r0 r1 t0 t1 t2 t3 t4 z H locs ls hr0 hr1 hM hl hq
        have hq : cm_X0_planCrossing_11 vl K (c_X0_planCrossing vl K k) x2 x3 x4 x5 x6 x7 x8 x9 x10 r0 r1 t0 t1 t2 t3 t4 z = some (r, z1) := hq
        unfold cm_X0_planCrossing_11 at hq
        obtain ⟨z8, hcq, hq⟩ := tw_cl0 hq
        refine uw_calv hU hM (va_runV (As := [.int t4, .int t3, .int t2, .int t1, .int t0]) (rest := []) ⟨hx, hb, hml, hown, hts⟩ (kc_X0_addStep l D q vl u hU.1 K r0 t4 t3 t2 t1 t0 hr0 z z8 hcq) (cwV 5 hts (tw_gV wC_good xq_96 xq_97 xq_98 xq_24 xq_99) rfl rfl rfl cdd_X0_addStep ⟨(Nat.le_of_ble_eq_true rfl), (Nat.le_of_ble_eq_true rfl)⟩) (cw_preV hK hM (co_X0 hr0) rfl) rfl rfl hl.1 rfl (lv_room (Nat.le_of_ble_eq_true rfl)) dcX0_planCrossing_205 ⟨(Nat.le_of_ble_eq_true rfl), (Nat.le_of_ble_eq_true rfl)⟩) (fun H locs hM => ?_)
        refine lv_goto (tgt := 253) hx hb dcX0_planCrossing_208 (by decide) ?_
        exact ih_14 x2 x3 x4 x5 x6 x7 x8 x9 x10 r0 r1 0 0 0 0 0 z8 H locs ls hr0 hr1 hM (lv_sub hl [0, 1, 2, 3, 4, 5, 6, 7, 8, 9, 10] rfl) hq
      · intro x2 x3 x4 x5 x6 x7 x8 x9 x10 r0 r1 t0 t1 t2 t3 t4 z H locs ls hr0 hr1 hM hl hq
        have hq : cm_X0_planCrossing_12 vl K (c_X0_planCrossing vl K k) x2 x3 x4 x5 x6 x7 x8 x9 x10 r0 r1 t0 t1 t2 t3 t4 z = some (r, z1) := hq
        unfold cm_X0_planCrossing_12 at hq
        refine lv_iload hx hb dcX0_planCrossing_211 (lv_at hl 8 rfl) ?_
        refine lv_if_eq (tgt := 240) hx hb dcX0_planCrossing_213 (by decide) (fun hc => ?_) (fun hc => ?_)
        · have hq := tw_it hq hc
          refine lv_aload_n hx hb dcX0_planCrossing_240 rfl (lv_at hl 0 rfl) ?_
          refine lv_iconst (v := 1) hx hb dcX0_planCrossing_241 (by decide) ?_
          refine lv_iload hx hb dcX0_planCrossing_242 (lv_at hl 5 rfl) ?_
          refine lv_iload hx hb dcX0_planCrossing_244 (lv_at hl 4 rfl) ?_
          refine lv_iload hx hb dcX0_planCrossing_246 (lv_at hl 6 rfl) ?_
          refine lv_iload hx hb dcX0_planCrossing_248 (lv_at hl 7 rfl) ?_
          obtain ⟨z9, hcq, hq⟩ := tw_cl0 hq
          refine uw_calv hU hM (va_runV (As := [.int 1, .int x5, .int x4, .int x6, .int x7]) (rest := []) ⟨hx, hb, hml, hown, hts⟩ (kc_X0_addStep l D q vl u hU.1 K r0 1 x5 x4 x6 x7 hr0 z z9 hcq) (cwV 5 hts (tw_gV wC_good xq_96 xq_97 xq_98 xq_24 xq_99) rfl rfl rfl cdd_X0_addStep ⟨(Nat.le_of_ble_eq_true rfl), (Nat.le_of_ble_eq_true rfl)⟩) (cw_preV hK hM (co_X0 hr0) rfl) rfl rfl hl.1 rfl (lv_room (Nat.le_of_ble_eq_true rfl)) dcX0_planCrossing_250 ⟨(Nat.le_of_ble_eq_true rfl), (Nat.le_of_ble_eq_true rfl)⟩) (fun H locs hM => ?_)
          exact ih_14 x2 x3 x4 x5 x6 x7 x8 x9 x10 r0 r1 0 0 0 0 0 z9 H locs ls hr0 hr1 hM (lv_sub hl [0, 1, 2, 3, 4, 5, 6, 7, 8, 9, 10] rfl) hq
        · have hq := tw_if hq hc
          refine lv_aload_n hx hb dcX0_planCrossing_216 rfl (lv_at hl 0 rfl) ?_
          refine lv_iconst (v := 1) hx hb dcX0_planCrossing_217 (by decide) ?_
          refine lv_iload hx hb dcX0_planCrossing_218 (lv_at hl 6 rfl) ?_
          refine lv_iload hx hb dcX0_planCrossing_220 (lv_at hl 4 rfl) ?_
          refine lv_iload hx hb dcX0_planCrossing_222 (lv_at hl 5 rfl) ?_
          refine lv_iload hx hb dcX0_planCrossing_224 (lv_at hl 7 rfl) ?_
          refine lv_if_ne (tgt := 233) hx hb dcX0_planCrossing_226 (by decide) (fun hc => ?_) (fun hc => ?_)
          · have hq := tw_if hq hc
            refine lv_iconst (v := 0) hx hb dcX0_planCrossing_233 (by decide) ?_
            exact ih_13 x2 x3 x4 x5 x6 x7 x8 x9 x10 r0 r1 0 x5 x4 x6 1 z H locs ls hr0 hr1 hM (lv_sub hl [0, 1, 2, 3, 4, 5, 6, 7, 8, 9, 10] rfl) hq
          · have hq := tw_it hq hc
            refine lv_iconst (v := 1) hx hb dcX0_planCrossing_229 (by decide) ?_
            refine lv_goto (tgt := 234) hx hb dcX0_planCrossing_230 (by decide) ?_
            exact ih_13 x2 x3 x4 x5 x6 x7 x8 x9 x10 r0 r1 1 x5 x4 x6 1 z H locs ls hr0 hr1 hM (lv_sub hl [0, 1, 2, 3, 4, 5, 6, 7, 8, 9, 10] rfl) hq
      · intro x2 x3 x4 x5 x6 x7 x8 x9 x10 r0 r1 t0 t1 t2 t3 t4 z H locs ls hr0 hr1 hM hl hq
        have hq : cm_X0_planCrossing_13 vl K (c_X0_planCrossing vl K k) x2 x3 x4 x5 x6 x7 x8 x9 x10 r0 r1 t0 t1 t2 t3 t4 z = some (r, z1) := hq
        unfold cm_X0_planCrossing_13 at hq
        obtain ⟨z10, hcq, hq⟩ := tw_cl0 hq
        refine uw_calv hU hM (va_runV (As := [.int t4, .int t3, .int t2, .int t1, .int t0]) (rest := []) ⟨hx, hb, hml, hown, hts⟩ (kc_X0_addStep l D q vl u hU.1 K r0 t4 t3 t2 t1 t0 hr0 z z10 hcq) (cwV 5 hts (tw_gV wC_good xq_96 xq_97 xq_98 xq_24 xq_99) rfl rfl rfl cdd_X0_addStep ⟨(Nat.le_of_ble_eq_true rfl), (Nat.le_of_ble_eq_true rfl)⟩) (cw_preV hK hM (co_X0 hr0) rfl) rfl rfl hl.1 rfl (lv_room (Nat.le_of_ble_eq_true rfl)) dcX0_planCrossing_234 ⟨(Nat.le_of_ble_eq_true rfl), (Nat.le_of_ble_eq_true rfl)⟩) (fun H locs hM => ?_)
        refine lv_goto (tgt := 253) hx hb dcX0_planCrossing_237 (by decide) ?_
        exact ih_14 x2 x3 x4 x5 x6 x7 x8 x9 x10 r0 r1 0 0 0 0 0 z10 H locs ls hr0 hr1 hM (lv_sub hl [0, 1, 2, 3, 4, 5, 6, 7, 8, 9, 10] rfl) hq
      · intro x2 x3 x4 x5 x6 x7 x8 x9 x10 r0 r1 t0 t1 t2 t3 t4 z H locs ls hr0 hr1 hM hl hq
        have hq : cm_X0_planCrossing_14 vl K (c_X0_planCrossing vl K k) x2 x3 x4 x5 x6 x7 x8 x9 x10 r0 r1 t0 t1 t2 t3 t4 z = some (r, z1) := hq
        unfold cm_X0_planCrossing_14 at hq
        refine lv_iload_n hx hb dcX0_planCrossing_253 rfl (lv_at hl 3 rfl) ?_
        refine lv_iconst (v := 1) hx hb dcX0_planCrossing_254 (by decide) ?_
        refine lv_iload hx hb dcX0_planCrossing_255 (lv_at hl 5 rfl) ?_
        refine lv_ishl hx hb dcX0_planCrossing_257 ?_
        refine lv_ior hx hb dcX0_planCrossing_258 ?_
        refine lv_iconst (v := 1) hx hb dcX0_planCrossing_259 (by decide) ?_
        refine lv_iload hx hb dcX0_planCrossing_260 (lv_at hl 6 rfl) ?_
        refine lv_ishl hx hb dcX0_planCrossing_262 ?_
        refine lv_ior hx hb dcX0_planCrossing_263 ?_
        exact cw_iret hx hb hr hlocks hM hq hQQ dcX0_planCrossing_264
  exact (key K).1 x2 x3 0 0 0 0 0 0 0 r0 r1 0 0 0 0 0 z s.heap [] ls hr0 hr1 hM (lv_sub hl [0, 1, 2, 3] rfl) hq
theorem dcX0_planFrom_0 : decode cX0_planFrom 0 = .ok (.iconst 0, 1) := dw_at cX0_planFrom_k0 (p := 0) rfl (by decide +kernel)
theorem dcX0_planFrom_1 : decode cX0_planFrom 1 = .ok (.istore 4, 2) := dw_at cX0_planFrom_k0 (p := 1) rfl (by decide +kernel)
theorem dcX0_planFrom_3 : decode cX0_planFrom 3 = .ok (.aload_n 0, 1) := dw_at cX0_planFrom_k0 (p := 3) rfl (by decide +kernel)
theorem dcX0_planFrom_4 : decode cX0_planFrom 4 = .ok (.iconst 0, 1) := dw_at cX0_planFrom_k0 (p := 4) rfl (by decide +kernel)
theorem dcX0_planFrom_5 : decode cX0_planFrom 5 = .ok (.putfield 163, 3) := dw_at cX0_planFrom_k0 (p := 5) rfl (by decide +kernel)
theorem dcX0_planFrom_8 : decode cX0_planFrom 8 = .ok (.aload_n 0, 1) := dw_at cX0_planFrom_k0 (p := 8) rfl (by decide +kernel)
theorem dcX0_planFrom_9 : decode cX0_planFrom 9 = .ok (.iconst 0, 1) := dw_at cX0_planFrom_k0 (p := 9) rfl (by decide +kernel)
theorem dcX0_planFrom_10 : decode cX0_planFrom 10 = .ok (.putfield 166, 3) := dw_at cX0_planFrom_k0 (p := 10) rfl (by decide +kernel)
theorem dcX0_planFrom_13 : decode cX0_planFrom 13 = .ok (.iconst 0, 1) := dw_at cX0_planFrom_k0 (p := 13) rfl (by decide +kernel)
theorem dcX0_planFrom_14 : decode cX0_planFrom 14 = .ok (.istore 5, 2) := dw_at cX0_planFrom_k0 (p := 14) rfl (by decide +kernel)
theorem dcX0_planFrom_16 : decode cX0_planFrom 16 = .ok (.iload 5, 2) := dw_at cX0_planFrom_k0 (p := 16) rfl (by decide +kernel)
theorem dcX0_planFrom_18 : decode cX0_planFrom 18 = .ok (.aload_n 0, 1) := dw_at cX0_planFrom_k0 (p := 18) rfl (by decide +kernel)
theorem dcX0_planFrom_19 : decode cX0_planFrom 19 = .ok (.getfield 82, 3) := dw_at cX0_planFrom_k0 (p := 19) rfl (by decide +kernel)
theorem dcX0_planFrom_22 : decode cX0_planFrom 22 = .ok (.if_icmp .ge 141, 3) := dw_at cX0_planFrom_k0 (p := 22) rfl (by decide +kernel)
theorem dcX0_planFrom_25 : decode cX0_planFrom 25 = .ok (.iload_n 3, 1) := dw_at cX0_planFrom_k1 (p := 0) rfl (by decide +kernel)
theorem dcX0_planFrom_26 : decode cX0_planFrom 26 = .ok (.iload 5, 2) := dw_at cX0_planFrom_k1 (p := 1) rfl (by decide +kernel)
theorem dcX0_planFrom_28 : decode cX0_planFrom 28 = .ok (.ishr, 1) := dw_at cX0_planFrom_k1 (p := 3) rfl (by decide +kernel)
theorem dcX0_planFrom_29 : decode cX0_planFrom 29 = .ok (.iconst 1, 1) := dw_at cX0_planFrom_k1 (p := 4) rfl (by decide +kernel)
theorem dcX0_planFrom_30 : decode cX0_planFrom 30 = .ok (.iand, 1) := dw_at cX0_planFrom_k1 (p := 5) rfl (by decide +kernel)
theorem dcX0_planFrom_31 : decode cX0_planFrom 31 = .ok (.ifCond .eq 126, 3) := dw_at cX0_planFrom_k1 (p := 6) rfl (by decide +kernel)
theorem dcX0_planFrom_34 : decode cX0_planFrom 34 = .ok (.iload 4, 2) := dw_at cX0_planFrom_k1 (p := 9) rfl (by decide +kernel)
theorem dcX0_planFrom_36 : decode cX0_planFrom 36 = .ok (.iload 5, 2) := dw_at cX0_planFrom_k1 (p := 11) rfl (by decide +kernel)
theorem dcX0_planFrom_38 : decode cX0_planFrom 38 = .ok (.ishr, 1) := dw_at cX0_planFrom_k1 (p := 13) rfl (by decide +kernel)
theorem dcX0_planFrom_39 : decode cX0_planFrom 39 = .ok (.iconst 1, 1) := dw_at cX0_planFrom_k1 (p := 14) rfl (by decide +kernel)
theorem dcX0_planFrom_40 : decode cX0_planFrom 40 = .ok (.iand, 1) := dw_at cX0_planFrom_k1 (p := 15) rfl (by decide +kernel)
theorem dcX0_planFrom_41 : decode cX0_planFrom 41 = .ok (.ifCond .eq 6, 3) := dw_at cX0_planFrom_k1 (p := 16) rfl (by decide +kernel)
theorem dcX0_planFrom_44 : decode cX0_planFrom 44 = .ok (.goto 113, 3) := dw_at cX0_planFrom_k1 (p := 19) rfl (by decide +kernel)
theorem dcX0_planFrom_47 : decode cX0_planFrom 47 = .ok (.aload_n 0, 1) := dw_at cX0_planFrom_k1 (p := 22) rfl (by decide +kernel)
theorem dcX0_planFrom_48 : decode cX0_planFrom 48 = .ok (.iconst 0, 1) := dw_at cX0_planFrom_k1 (p := 23) rfl (by decide +kernel)
theorem dcX0_planFrom_49 : decode cX0_planFrom 49 = .ok (.iload 5, 2) := dw_at cX0_planFrom_k2 (p := 0) rfl (by decide +kernel)
theorem dcX0_planFrom_51 : decode cX0_planFrom 51 = .ok (.iload 5, 2) := dw_at cX0_planFrom_k2 (p := 2) rfl (by decide +kernel)
theorem dcX0_planFrom_53 : decode cX0_planFrom 53 = .ok (.iload 5, 2) := dw_at cX0_planFrom_k2 (p := 4) rfl (by decide +kernel)
theorem dcX0_planFrom_55 : decode cX0_planFrom 55 = .ok (.iconst 0, 1) := dw_at cX0_planFrom_k2 (p := 6) rfl (by decide +kernel)
theorem dcX0_planFrom_56 : decode cX0_planFrom 56 = .ok (.invokevirtual 169, 3) := dw_at cX0_planFrom_k2 (p := 7) rfl (by decide +kernel)
theorem dcX0_planFrom_59 : decode cX0_planFrom 59 = .ok (.iload 4, 2) := dw_at cX0_planFrom_k2 (p := 10) rfl (by decide +kernel)
theorem dcX0_planFrom_61 : decode cX0_planFrom 61 = .ok (.iconst 1, 1) := dw_at cX0_planFrom_k2 (p := 12) rfl (by decide +kernel)
theorem dcX0_planFrom_62 : decode cX0_planFrom 62 = .ok (.iload 5, 2) := dw_at cX0_planFrom_k2 (p := 13) rfl (by decide +kernel)
theorem dcX0_planFrom_64 : decode cX0_planFrom 64 = .ok (.ishl, 1) := dw_at cX0_planFrom_k2 (p := 15) rfl (by decide +kernel)
theorem dcX0_planFrom_65 : decode cX0_planFrom 65 = .ok (.ior, 1) := dw_at cX0_planFrom_k2 (p := 16) rfl (by decide +kernel)
theorem dcX0_planFrom_66 : decode cX0_planFrom 66 = .ok (.istore 4, 2) := dw_at cX0_planFrom_k2 (p := 17) rfl (by decide +kernel)
theorem dcX0_planFrom_68 : decode cX0_planFrom 68 = .ok (.iconst 0, 1) := dw_at cX0_planFrom_k2 (p := 19) rfl (by decide +kernel)
theorem dcX0_planFrom_69 : decode cX0_planFrom 69 = .ok (.istore 6, 2) := dw_at cX0_planFrom_k2 (p := 20) rfl (by decide +kernel)
theorem dcX0_planFrom_71 : decode cX0_planFrom 71 = .ok (.iload 6, 2) := dw_at cX0_planFrom_k2 (p := 22) rfl (by decide +kernel)
theorem dcX0_planFrom_73 : decode cX0_planFrom 73 = .ok (.bipush 12, 2) := dw_at cX0_planFrom_k3 (p := 0) rfl (by decide +kernel)
theorem dcX0_planFrom_75 : decode cX0_planFrom 75 = .ok (.if_icmp .ge 82, 3) := dw_at cX0_planFrom_k3 (p := 2) rfl (by decide +kernel)
theorem dcX0_planFrom_78 : decode cX0_planFrom 78 = .ok (.iload 4, 2) := dw_at cX0_planFrom_k3 (p := 5) rfl (by decide +kernel)
theorem dcX0_planFrom_80 : decode cX0_planFrom 80 = .ok (.istore 7, 2) := dw_at cX0_planFrom_k3 (p := 7) rfl (by decide +kernel)
theorem dcX0_planFrom_82 : decode cX0_planFrom 82 = .ok (.iconst 0, 1) := dw_at cX0_planFrom_k3 (p := 9) rfl (by decide +kernel)
theorem dcX0_planFrom_83 : decode cX0_planFrom 83 = .ok (.istore 8, 2) := dw_at cX0_planFrom_k3 (p := 10) rfl (by decide +kernel)
theorem dcX0_planFrom_85 : decode cX0_planFrom 85 = .ok (.iload 8, 2) := dw_at cX0_planFrom_k3 (p := 12) rfl (by decide +kernel)
theorem dcX0_planFrom_87 : decode cX0_planFrom 87 = .ok (.aload_n 1, 1) := dw_at cX0_planFrom_k3 (p := 14) rfl (by decide +kernel)
theorem dcX0_planFrom_88 : decode cX0_planFrom 88 = .ok (.getfield 70, 3) := dw_at cX0_planFrom_k3 (p := 15) rfl (by decide +kernel)
theorem dcX0_planFrom_91 : decode cX0_planFrom 91 = .ok (.if_icmp .ge 45, 3) := dw_at cX0_planFrom_k3 (p := 18) rfl (by decide +kernel)
theorem dcX0_planFrom_94 : decode cX0_planFrom 94 = .ok (.aload_n 1, 1) := dw_at cX0_planFrom_k3 (p := 21) rfl (by decide +kernel)
theorem dcX0_planFrom_95 : decode cX0_planFrom 95 = .ok (.getfield 150, 3) := dw_at cX0_planFrom_k3 (p := 22) rfl (by decide +kernel)
theorem dcX0_planFrom_98 : decode cX0_planFrom 98 = .ok (.iconst 2, 1) := dw_at cX0_planFrom_k4 (p := 0) rfl (by decide +kernel)
theorem dcX0_planFrom_99 : decode cX0_planFrom 99 = .ok (.iload 8, 2) := dw_at cX0_planFrom_k4 (p := 1) rfl (by decide +kernel)
theorem dcX0_planFrom_101 : decode cX0_planFrom 101 = .ok (.imul, 1) := dw_at cX0_planFrom_k4 (p := 3) rfl (by decide +kernel)
theorem dcX0_planFrom_102 : decode cX0_planFrom 102 = .ok (.iaload, 1) := dw_at cX0_planFrom_k4 (p := 4) rfl (by decide +kernel)
theorem dcX0_planFrom_103 : decode cX0_planFrom 103 = .ok (.iload_n 2, 1) := dw_at cX0_planFrom_k4 (p := 5) rfl (by decide +kernel)
theorem dcX0_planFrom_104 : decode cX0_planFrom 104 = .ok (.if_icmp .ne 26, 3) := dw_at cX0_planFrom_k4 (p := 6) rfl (by decide +kernel)
theorem dcX0_planFrom_107 : decode cX0_planFrom 107 = .ok (.aload_n 0, 1) := dw_at cX0_planFrom_k4 (p := 9) rfl (by decide +kernel)
theorem dcX0_planFrom_108 : decode cX0_planFrom 108 = .ok (.getfield 166, 3) := dw_at cX0_planFrom_k4 (p := 10) rfl (by decide +kernel)
theorem dcX0_planFrom_111 : decode cX0_planFrom 111 = .ok (.iload 8, 2) := dw_at cX0_planFrom_k4 (p := 13) rfl (by decide +kernel)
theorem dcX0_planFrom_113 : decode cX0_planFrom 113 = .ok (.ishr, 1) := dw_at cX0_planFrom_k4 (p := 15) rfl (by decide +kernel)
theorem dcX0_planFrom_114 : decode cX0_planFrom 114 = .ok (.iconst 1, 1) := dw_at cX0_planFrom_k4 (p := 16) rfl (by decide +kernel)
theorem dcX0_planFrom_115 : decode cX0_planFrom 115 = .ok (.iand, 1) := dw_at cX0_planFrom_k4 (p := 17) rfl (by decide +kernel)
theorem dcX0_planFrom_116 : decode cX0_planFrom 116 = .ok (.ifCond .ne 14, 3) := dw_at cX0_planFrom_k4 (p := 18) rfl (by decide +kernel)
theorem dcX0_planFrom_119 : decode cX0_planFrom 119 = .ok (.aload_n 0, 1) := dw_at cX0_planFrom_k4 (p := 21) rfl (by decide +kernel)
theorem dcX0_planFrom_120 : decode cX0_planFrom 120 = .ok (.aload_n 1, 1) := dw_at cX0_planFrom_k4 (p := 22) rfl (by decide +kernel)
theorem dcX0_planFrom_121 : decode cX0_planFrom 121 = .ok (.iload 8, 2) := dw_at cX0_planFrom_k4 (p := 23) rfl (by decide +kernel)
theorem dcX0_planFrom_123 : decode cX0_planFrom 123 = .ok (.iload 4, 2) := dw_at cX0_planFrom_k5 (p := 0) rfl (by decide +kernel)
theorem dcX0_planFrom_125 : decode cX0_planFrom 125 = .ok (.invokevirtual 173, 3) := dw_at cX0_planFrom_k5 (p := 2) rfl (by decide +kernel)
theorem dcX0_planFrom_128 : decode cX0_planFrom 128 = .ok (.istore 4, 2) := dw_at cX0_planFrom_k5 (p := 5) rfl (by decide +kernel)
theorem dcX0_planFrom_130 : decode cX0_planFrom 130 = .ok (.iinc 8 1, 3) := dw_at cX0_planFrom_k5 (p := 7) rfl (by decide +kernel)
theorem dcX0_planFrom_133 : decode cX0_planFrom 133 = .ok (.goto (-48), 3) := dw_at cX0_planFrom_k5 (p := 10) rfl (by decide +kernel)
theorem dcX0_planFrom_136 : decode cX0_planFrom 136 = .ok (.iload 4, 2) := dw_at cX0_planFrom_k5 (p := 13) rfl (by decide +kernel)
theorem dcX0_planFrom_138 : decode cX0_planFrom 138 = .ok (.iload 7, 2) := dw_at cX0_planFrom_k5 (p := 15) rfl (by decide +kernel)
theorem dcX0_planFrom_140 : decode cX0_planFrom 140 = .ok (.if_icmp .ne 11, 3) := dw_at cX0_planFrom_k5 (p := 17) rfl (by decide +kernel)
theorem dcX0_planFrom_143 : decode cX0_planFrom 143 = .ok (.iload 6, 2) := dw_at cX0_planFrom_k5 (p := 20) rfl (by decide +kernel)
theorem dcX0_planFrom_145 : decode cX0_planFrom 145 = .ok (.ifCond .le 6, 3) := dw_at cX0_planFrom_k5 (p := 22) rfl (by decide +kernel)
theorem dcX0_planFrom_148 : decode cX0_planFrom 148 = .ok (.goto 9, 3) := dw_at cX0_planFrom_k6 (p := 0) rfl (by decide +kernel)
theorem dcX0_planFrom_151 : decode cX0_planFrom 151 = .ok (.iinc 6 1, 3) := dw_at cX0_planFrom_k6 (p := 3) rfl (by decide +kernel)
theorem dcX0_planFrom_154 : decode cX0_planFrom 154 = .ok (.goto (-83), 3) := dw_at cX0_planFrom_k6 (p := 6) rfl (by decide +kernel)
theorem dcX0_planFrom_157 : decode cX0_planFrom 157 = .ok (.iinc 5 1, 3) := dw_at cX0_planFrom_k6 (p := 9) rfl (by decide +kernel)
theorem dcX0_planFrom_160 : decode cX0_planFrom 160 = .ok (.goto (-144), 3) := dw_at cX0_planFrom_k6 (p := 12) rfl (by decide +kernel)
theorem dcX0_planFrom_163 : decode cX0_planFrom 163 = .ok (.iload 4, 2) := dw_at cX0_planFrom_k6 (p := 15) rfl (by decide +kernel)
theorem dcX0_planFrom_165 : decode cX0_planFrom 165 = .ok (.ireturn, 1) := dw_at cX0_planFrom_k6 (p := 17) rfl (by decide +kernel)
def cm_X0_planFrom_0 (vl : Nat → Nat) (K : Nat) (go : Nat → Int32 → Int32 → Int32 → Int32 → Int32 → Int32 → Int32 → Nat → Nat → ow_MS → Option (Int32 × ow_MS)) (x2 : Int32) (x3 : Int32) (x4 : Int32) (x5 : Int32) (x6 : Int32) (x7 : Int32) (x8 : Int32) (r0 : Nat) (r1 : Nat) (z : ow_MS) : Option (Int32 × ow_MS) :=
 wrF z (r0 + 10) 0 fun z1 => wrF z1 (r0 + 16) 0 fun z2 => go 1 x2 x3 0 0 0 0 0 r0 r1 z2
def cm_X0_planFrom_1 (vl : Nat → Nat) (K : Nat) (go : Nat → Int32 → Int32 → Int32 → Int32 → Int32 → Int32 → Int32 → Nat → Nat → ow_MS → Option (Int32 × ow_MS)) (x2 : Int32) (x3 : Int32) (x4 : Int32) (x5 : Int32) (x6 : Int32) (x7 : Int32) (x8 : Int32) (r0 : Nat) (r1 : Nat) (z : ow_MS) : Option (Int32 × ow_MS) :=
 rdF z (r0 + 2) fun v3 => (if v3 ≤ x5 then some (x4, z)
 else (if (((x3 : Int32) >>> ((x5 : Int32) &&& 31)) &&& 1) = 0 then go 6 x2 x3 x4 x5 0 0 0 r0 r1 z
 else (if (((x4 : Int32) >>> ((x5 : Int32) &&& 31)) &&& 1) = 0 then cs0 (ce_X0_addStep vl K r0 0 x5 x5 x5 0 z) fun z4 => go 2 x2 x3 (x4 ||| ((1 : Int32) <<< ((x5 : Int32) &&& 31))) x5 0 0 0 r0 r1 z4
 else go 6 x2 x3 x4 x5 0 0 0 r0 r1 z)))
def cm_X0_planFrom_2 (vl : Nat → Nat) (K : Nat) (go : Nat → Int32 → Int32 → Int32 → Int32 → Int32 → Int32 → Int32 → Nat → Nat → ow_MS → Option (Int32 × ow_MS)) (x2 : Int32) (x3 : Int32) (x4 : Int32) (x5 : Int32) (x6 : Int32) (x7 : Int32) (x8 : Int32) (r0 : Nat) (r1 : Nat) (z : ow_MS) : Option (Int32 × ow_MS) :=
 (if 12 ≤ x6 then go 6 x2 x3 x4 x5 0 0 0 r0 r1 z
 else go 3 x2 x3 x4 x5 x6 x4 0 r0 r1 z)
def cm_X0_planFrom_3 (vl : Nat → Nat) (K : Nat) (go : Nat → Int32 → Int32 → Int32 → Int32 → Int32 → Int32 → Int32 → Nat → Nat → ow_MS → Option (Int32 × ow_MS)) (x2 : Int32) (x3 : Int32) (x4 : Int32) (x5 : Int32) (x6 : Int32) (x7 : Int32) (x8 : Int32) (r0 : Nat) (r1 : Nat) (z : ow_MS) : Option (Int32 × ow_MS) :=
 rdF z (r1 + 8) fun v5 => (if v5 ≤ x8 then (if x4 = x7 then (if x6 ≤ 0 then go 5 x2 x3 x4 x5 x6 x7 x8 r0 r1 z
 else go 6 x2 x3 x4 x5 0 0 0 r0 r1 z)
 else go 5 x2 x3 x4 x5 x6 x7 x8 r0 r1 z)
 else crI (cX vl) z (r1 + 6) (2 * x8) fun v6 => (if v6 = x2 then rdF z (r0 + 16) fun v7 => (if (((v7 : Int32) >>> ((x8 : Int32) &&& 31)) &&& 1) = 0 then cs1 (ce_X0_planCrossing vl K r0 r1 x8 x4 z) fun v9 z8 => go 4 x2 x3 v9 x5 x6 x7 x8 r0 r1 z8
 else go 4 x2 x3 x4 x5 x6 x7 x8 r0 r1 z)
 else go 4 x2 x3 x4 x5 x6 x7 x8 r0 r1 z))
def cm_X0_planFrom_4 (vl : Nat → Nat) (K : Nat) (go : Nat → Int32 → Int32 → Int32 → Int32 → Int32 → Int32 → Int32 → Nat → Nat → ow_MS → Option (Int32 × ow_MS)) (x2 : Int32) (x3 : Int32) (x4 : Int32) (x5 : Int32) (x6 : Int32) (x7 : Int32) (x8 : Int32) (r0 : Nat) (r1 : Nat) (z : ow_MS) : Option (Int32 × ow_MS) :=
 go 3 x2 x3 x4 x5 x6 x7 (x8 + 1) r0 r1 z
def cm_X0_planFrom_5 (vl : Nat → Nat) (K : Nat) (go : Nat → Int32 → Int32 → Int32 → Int32 → Int32 → Int32 → Int32 → Nat → Nat → ow_MS → Option (Int32 × ow_MS)) (x2 : Int32) (x3 : Int32) (x4 : Int32) (x5 : Int32) (x6 : Int32) (x7 : Int32) (x8 : Int32) (r0 : Nat) (r1 : Nat) (z : ow_MS) : Option (Int32 × ow_MS) :=
 go 2 x2 x3 x4 x5 (x6 + 1) 0 0 r0 r1 z
def cm_X0_planFrom_6 (vl : Nat → Nat) (K : Nat) (go : Nat → Int32 → Int32 → Int32 → Int32 → Int32 → Int32 → Int32 → Nat → Nat → ow_MS → Option (Int32 × ow_MS)) (x2 : Int32) (x3 : Int32) (x4 : Int32) (x5 : Int32) (x6 : Int32) (x7 : Int32) (x8 : Int32) (r0 : Nat) (r1 : Nat) (z : ow_MS) : Option (Int32 × ow_MS) :=
 go 1 x2 x3 x4 (x5 + 1) 0 0 0 r0 r1 z
def cb_X0_planFrom (vl : Nat → Nat) (K : Nat) (go : Nat → Int32 → Int32 → Int32 → Int32 → Int32 → Int32 → Int32 → Nat → Nat → ow_MS → Option (Int32 × ow_MS)) (L : Nat) (x2 : Int32) (x3 : Int32) (x4 : Int32) (x5 : Int32) (x6 : Int32) (x7 : Int32) (x8 : Int32) (r0 : Nat) (r1 : Nat) (z : ow_MS) : Option (Int32 × ow_MS) := match L with
  | 0 => cm_X0_planFrom_0 vl K go x2 x3 x4 x5 x6 x7 x8 r0 r1 z
  | 1 => cm_X0_planFrom_1 vl K go x2 x3 x4 x5 x6 x7 x8 r0 r1 z
  | 2 => cm_X0_planFrom_2 vl K go x2 x3 x4 x5 x6 x7 x8 r0 r1 z
  | 3 => cm_X0_planFrom_3 vl K go x2 x3 x4 x5 x6 x7 x8 r0 r1 z
  | 4 => cm_X0_planFrom_4 vl K go x2 x3 x4 x5 x6 x7 x8 r0 r1 z
  | 5 => cm_X0_planFrom_5 vl K go x2 x3 x4 x5 x6 x7 x8 r0 r1 z
  | 6 => cm_X0_planFrom_6 vl K go x2 x3 x4 x5 x6 x7 x8 r0 r1 z
  | _ => none
def c_X0_planFrom (vl : Nat → Nat) (K : Nat) : Nat → Nat → Int32 → Int32 → Int32 → Int32 → Int32 → Int32 → Int32 → Nat → Nat → ow_MS → Option (Int32 × ow_MS)
  | 0 => fun _ _ _ _ _ _ _ _ _ _ _ => none
  | k + 1 => cb_X0_planFrom vl K (c_X0_planFrom vl K k)
def ce_X0_planFrom (vl : Nat → Nat) (K : Nat) (r0 : Nat) (r1 : Nat) (x2 : Int32) (x3 : Int32) (z : ow_MS) : Option (Int32 × ow_MS) := c_X0_planFrom vl K K 0 x2 x3 0 0 0 0 0 r0 r1 z
abbrev wc_X0_planFrom : List Cond := .code yX0_planFrom cX0_planFrom 9 (some .int) :: wC
theorem cdd_X0_planFrom : yX0_planFrom.cls = RX0 ∧ yX0_planFrom.cls ≠ "java/lang/invoke/MethodHandle" ∧ yX0_planFrom.cls ≠ "java/lang/invoke/VarHandle" ∧ (parseMethodDescriptor yX0_planFrom.desc).map (fun d => d.parameters.length) = some 3 := by decide +kernel
set_option maxHeartbeats 4000000 in
set_option maxRecDepth 100000 in
theorem kc_X0_planFrom (l : Launch) (D : va_G) (q : Nat → ClassId) (vl u : Nat → Nat) (hU0 : tw_inj (cX vl) u) (K : Nat) (r0 : Nat) (r1 : Nat) (x2 : Int32) (x3 : Int32) (hr0 : cw_X0 r0) (hr1 : cw_X7 r1) (z z1 : ow_MS) (r : Int32) (hq : ce_X0_planFrom vl K r0 r1 x2 x3 z = some (r, z1)) : Met l yX0_planFrom wc_X0_planFrom ({ frames := 2, cells := 0, slots := 0, locals := 55 } : Room) (va_Pc [.ref (u r0), .ref (u r1), .int x2, .int x3] (cw_pre D q vl u z)) (va_Qi (fun x (_ : Unit) => x = r) (fun _ t => va_P D vwCl (uw (cX vl) q u z1) t.heap) (tw_A (cX vl) u)) 0 0 (tw_A (cX vl) u) := by
  refine Met.ofW (cc := cX0_planFrom) (maxL := 9) (ret := (some .int)) (by decide) rfl ?_
  intro p e s m args below meth c s₁ B hml hv
  obtain ⟨rfl, hP, hK⟩ := hv
  have hx := B.exec
  have hb := B.bytes
  have hr := B.returns
  have hts := atoms_spec (ws := wc_X0_planFrom) B.pre
  have hT : ∀ w ∈ wC, w.before ([.ref (u r0), .ref (u r1), .int x2, .int x3] : List Value).toArray s = true := fun w h => hts w (List.mem_cons_of_mem _ h)
  have hown : s.vm.findClass RX0 = some m.cls := findClass_of_methodNamed B.named
  have hlocks := B.notSynchronized
  have hU : uw_inj (cX vl) u (tw_A (cX vl) u) := ⟨hU0, fun h hh => ⟨h, hh, rfl⟩⟩
  have hM : uw_M D vwCl (cX vl) q (tw_A (cX vl) u) s.heap u z s.heap [] := ⟨hP, va_S.rf⟩
  have hl := lv_entry ([.ref (u r0), .ref (u r1), .int x2, .int x3]) (n := 9) (Nat.le_of_ble_eq_true rfl)
  rw [lg_entry_eq]
  generalize (lg_sl ([.ref (u r0), .ref (u r1), .int x2, .int x3]) ++ List.replicate (9 - (lg_sl ([.ref (u r0), .ref (u r1), .int x2, .int x3])).length) Slot.unset).toArray = ls at hl ⊢
  have hl : lv_has ls 9 [(0, .ref (u r0)), (1, .ref (u r1)), (2, .int x2), (3, .int x3)] := hl
  refine ow_named (fun QQ hQQ => ?_)
  generalize ([.ref (u r0), .ref (u r1), .int x2, .int x3] : List Value).toArray = args at hts hT hQQ ⊢
  have key : ∀ k : Nat, (∀ (x2 : Int32) (x3 : Int32) (x4 : Int32) (x5 : Int32) (x6 : Int32) (x7 : Int32) (x8 : Int32) (r0 : Nat) (r1 : Nat) (z : ow_MS) (H : Heap) (locs : List Loc) (ls : Array Slot), cw_X0 r0 → cw_X7 r1 → uw_M D vwCl (cX vl) q (tw_A (cX vl) u) s.heap u z H locs → lv_has ls 9 [(0, .ref (u r0)), (1, .ref (u r1)), (2, .int x2), (3, .int x3)] → c_X0_planFrom vl K k 0 x2 x3 x4 x5 x6 x7 x8 r0 r1 z = some (r, z1) → W p l e ({ frames := 2, cells := 0, slots := 0, locals := 55 } : Room) s m args below meth c H locs 0 0 QQ (F0 m 0 ls [])) ∧ (∀ (x2 : Int32) (x3 : Int32) (x4 : Int32) (x5 : Int32) (x6 : Int32) (x7 : Int32) (x8 : Int32) (r0 : Nat) (r1 : Nat) (z : ow_MS) (H : Heap) (locs : List Loc) (ls : Array Slot), cw_X0 r0 → cw_X7 r1 → uw_M D vwCl (cX vl) q (tw_A (cX vl) u) s.heap u z H locs → lv_has ls 9 [(0, .ref (u r0)), (1, .ref (u r1)), (2, .int x2), (3, .int x3), (4, .int x4), (5, .int x5)] → c_X0_planFrom vl K k 1 x2 x3 x4 x5 x6 x7 x8 r0 r1 z = some (r, z1) → W p l e ({ frames := 2, cells := 0, slots := 0, locals := 55 } : Room) s m args below meth c H locs 0 0 QQ (F0 m 16 ls [])) ∧ (∀ (x2 : Int32) (x3 : Int32) (x4 : Int32) (x5 : Int32) (x6 : Int32) (x7 : Int32) (x8 : Int32) (r0 : Nat) (r1 : Nat) (z : ow_MS) (H : Heap) (locs : List Loc) (ls : Array Slot), cw_X0 r0 → cw_X7 r1 → uw_M D vwCl (cX vl) q (tw_A (cX vl) u) s.heap u z H locs → lv_has ls 9 [(0, .ref (u r0)), (1, .ref (u r1)), (2, .int x2), (3, .int x3), (4, .int x4), (5, .int x5), (6, .int x6)] → c_X0_planFrom vl K k 2 x2 x3 x4 x5 x6 x7 x8 r0 r1 z = some (r, z1) → W p l e ({ frames := 2, cells := 0, slots := 0, locals := 55 } : Room) s m args below meth c H locs 0 0 QQ (F0 m 71 ls [])) ∧ (∀ (x2 : Int32) (x3 : Int32) (x4 : Int32) (x5 : Int32) (x6 : Int32) (x7 : Int32) (x8 : Int32) (r0 : Nat) (r1 : Nat) (z : ow_MS) (H : Heap) (locs : List Loc) (ls : Array Slot), cw_X0 r0 → cw_X7 r1 → uw_M D vwCl (cX vl) q (tw_A (cX vl) u) s.heap u z H locs → lv_has ls 9 [(0, .ref (u r0)), (1, .ref (u r1)), (2, .int x2), (3, .int x3), (4, .int x4), (5, .int x5), (6, .int x6), (7, .int x7), (8, .int x8)] → c_X0_planFrom vl K k 3 x2 x3 x4 x5 x6 x7 x8 r0 r1 z = some (r, z1) → W p l e ({ frames := 2, cells := 0, slots := 0, locals := 55 } : Room) s m args below meth c H locs 0 0 QQ (F0 m 85 ls [])) ∧ (∀ (x2 : Int32) (x3 : Int32) (x4 : Int32) (x5 : Int32) (x6 : Int32) (x7 : Int32) (x8 : Int32) (r0 : Nat) (r1 : Nat) (z : ow_MS) (H : Heap) (locs : List Loc) (ls : Array Slot), cw_X0 r0 → cw_X7 r1 → uw_M D vwCl (cX vl) q (tw_A (cX vl) u) s.heap u z H locs → lv_has ls 9 [(0, .ref (u r0)), (1, .ref (u r1)), (2, .int x2), (3, .int x3), (4, .int x4), (5, .int x5), (6, .int x6), (7, .int x7), (8, .int x8)] → c_X0_planFrom vl K k 4 x2 x3 x4 x5 x6 x7 x8 r0 r1 z = some (r, z1) → W p l e ({ frames := 2, cells := 0, slots := 0, locals := 55 } : Room) s m args below meth c H locs 0 0 QQ (F0 m 130 ls [])) ∧ (∀ (x2 : Int32) (x3 : Int32) (x4 : Int32) (x5 : Int32) (x6 : Int32) (x7 : Int32) (x8 : Int32) (r0 : Nat) (r1 : Nat) (z : ow_MS) (H : Heap) (locs : List Loc) (ls : Array Slot), cw_X0 r0 → cw_X7 r1 → uw_M D vwCl (cX vl) q (tw_A (cX vl) u) s.heap u z H locs → lv_has ls 9 [(0, .ref (u r0)), (1, .ref (u r1)), (2, .int x2), (3, .int x3), (4, .int x4), (5, .int x5), (6, .int x6), (7, .int x7), (8, .int x8)] → c_X0_planFrom vl K k 5 x2 x3 x4 x5 x6 x7 x8 r0 r1 z = some (r, z1) → W p l e ({ frames := 2, cells := 0, slots := 0, locals := 55 } : Room) s m args below meth c H locs 0 0 QQ (F0 m 151 ls [])) ∧ (∀ (x2 : Int32) (x3 : Int32) (x4 : Int32) (x5 : Int32) (x6 : Int32) (x7 : Int32) (x8 : Int32) (r0 : Nat) (r1 : Nat) (z : ow_MS) (H : Heap) (locs : List Loc) (ls : Array Slot), cw_X0 r0 → cw_X7 r1 → uw_M D vwCl (cX vl) q (tw_A (cX vl) u) s.heap u z H locs → lv_has ls 9 [(0, .ref (u r0)), (1, .ref (u r1)), (2, .int x2), (3, .int x3), (4, .int x4), (5, .int x5)] → c_X0_planFrom vl K k 6 x2 x3 x4 x5 x6 x7 x8 r0 r1 z = some (r, z1) → W p l e ({ frames := 2, cells := 0, slots := 0, locals := 55 } : Room) s m args below meth c H locs 0 0 QQ (F0 m 157 ls [])) := by
    intro k
    induction k with
    | zero => exact ⟨fun _ _ _ _ _ _ _ _ _ _ _ _ _ _ _ _ _ hq => cw_no hq, fun _ _ _ _ _ _ _ _ _ _ _ _ _ _ _ _ _ hq => cw_no hq, fun _ _ _ _ _ _ _ _ _ _ _ _ _ _ _ _ _ hq => cw_no hq, fun _ _ _ _ _ _ _ _ _ _ _ _ _ _ _ _ _ hq => cw_no hq, fun _ _ _ _ _ _ _ _ _ _ _ _ _ _ _ _ _ hq => cw_no hq, fun _ _ _ _ _ _ _ _ _ _ _ _ _ _ _ _ _ hq => cw_no hq, fun _ _ _ _ _ _ _ _ _ _ _ _ _ _ _ _ _ hq => cw_no hq⟩
    | succ k ih =>
      obtain ⟨ih_0, ih_1, ih_2, ih_3, ih_4, ih_5, ih_6⟩ := ih
      refine ⟨?_, ?_, ?_, ?_, ?_, ?_, ?_⟩
      · intro x2 x3 x4 x5 x6 x7 x8 r0 r1 z H locs ls hr0 hr1 hM hl hq
        have hq : cm_X0_planFrom_0 vl K (c_X0_planFrom vl K k) x2 x3 x4 x5 x6 x7 x8 r0 r1 z = some (r, z1) := hq
        unfold cm_X0_planFrom_0 at hq
        refine lv_iconst (v := 0) hx hb dcX0_planFrom_0 (by decide) ?_
        refine lv_istore (lv' := [(4, .int 0), (0, .ref (u r0)), (1, .ref (u r1)), (2, .int x2), (3, .int x3)]) hx hb dcX0_planFrom_1 hl (by decide) rfl (fun ls hl => ?_)
        refine lv_aload_n hx hb dcX0_planFrom_3 rfl (lv_at hl 1 rfl) ?_
        refine lv_iconst (v := 0) hx hb dcX0_planFrom_4 (by decide) ?_
        refine vpX0_163 hx hb hT hown hK hM hU hr0 hq dcX0_planFrom_5 (fun z1 H locs hM hq => ?_)
        refine lv_aload_n hx hb dcX0_planFrom_8 rfl (lv_at hl 1 rfl) ?_
        refine lv_iconst (v := 0) hx hb dcX0_planFrom_9 (by decide) ?_
        refine vpX0_166 hx hb hT hown hK hM hU hr0 hq dcX0_planFrom_10 (fun z2 H locs hM hq => ?_)
        refine lv_iconst (v := 0) hx hb dcX0_planFrom_13 (by decide) ?_
        refine lv_istore (lv' := [(5, .int 0), (4, .int 0), (0, .ref (u r0)), (1, .ref (u r1)), (2, .int x2), (3, .int x3)]) hx hb dcX0_planFrom_14 hl (by decide) rfl (fun ls hl => ?_)
        exact ih_1 x2 x3 0 0 0 0 0 r0 r1 z2 H locs ls hr0 hr1 hM (lv_sub hl [2, 3, 4, 5, 1, 0] rfl) hq
      · intro x2 x3 x4 x5 x6 x7 x8 r0 r1 z H locs ls hr0 hr1 hM hl hq
        have hq : cm_X0_planFrom_1 vl K (c_X0_planFrom vl K k) x2 x3 x4 x5 x6 x7 x8 r0 r1 z = some (r, z1) := hq
        unfold cm_X0_planFrom_1 at hq
        refine lv_iload hx hb dcX0_planFrom_16 (lv_at hl 5 rfl) ?_
        refine lv_aload_n hx hb dcX0_planFrom_18 rfl (lv_at hl 0 rfl) ?_
        refine vgX0_82 hx hb hT hown hK hM hr0 hq dcX0_planFrom_19 (fun v3 hq => ?_)
        refine lv_icmp_ge (tgt := 163) hx hb dcX0_planFrom_22 (by decide) (fun hc => ?_) (fun hc => ?_)
        · have hq := tw_it hq hc
          refine lv_iload hx hb dcX0_planFrom_163 (lv_at hl 4 rfl) ?_
          exact cw_iret hx hb hr hlocks hM hq hQQ dcX0_planFrom_165
        · have hq := tw_if hq hc
          refine lv_iload_n hx hb dcX0_planFrom_25 rfl (lv_at hl 3 rfl) ?_
          refine lv_iload hx hb dcX0_planFrom_26 (lv_at hl 5 rfl) ?_
          refine lv_ishr hx hb dcX0_planFrom_28 ?_
          refine lv_iconst (v := 1) hx hb dcX0_planFrom_29 (by decide) ?_
          refine lv_iand hx hb dcX0_planFrom_30 ?_
          refine lv_if_eq (tgt := 157) hx hb dcX0_planFrom_31 (by decide) (fun hc => ?_) (fun hc => ?_)
          · have hq := tw_it hq hc
            exact ih_6 x2 x3 x4 x5 0 0 0 r0 r1 z H locs ls hr0 hr1 hM (lv_sub hl [0, 1, 2, 3, 4, 5] rfl) hq
          · have hq := tw_if hq hc
            refine lv_iload hx hb dcX0_planFrom_34 (lv_at hl 4 rfl) ?_
            refine lv_iload hx hb dcX0_planFrom_36 (lv_at hl 5 rfl) ?_
            refine lv_ishr hx hb dcX0_planFrom_38 ?_
            refine lv_iconst (v := 1) hx hb dcX0_planFrom_39 (by decide) ?_
            refine lv_iand hx hb dcX0_planFrom_40 ?_
            refine lv_if_eq (tgt := 47) hx hb dcX0_planFrom_41 (by decide) (fun hc => ?_) (fun hc => ?_)
            · have hq := tw_it hq hc
              refine lv_aload_n hx hb dcX0_planFrom_47 rfl (lv_at hl 0 rfl) ?_
              refine lv_iconst (v := 0) hx hb dcX0_planFrom_48 (by decide) ?_
              refine lv_iload hx hb dcX0_planFrom_49 (lv_at hl 5 rfl) ?_
              refine lv_iload hx hb dcX0_planFrom_51 (lv_at hl 5 rfl) ?_
              refine lv_iload hx hb dcX0_planFrom_53 (lv_at hl 5 rfl) ?_
              refine lv_iconst (v := 0) hx hb dcX0_planFrom_55 (by decide) ?_
              obtain ⟨z4, hcq, hq⟩ := tw_cl0 hq
              refine uw_calv hU hM (va_runV (As := [.int 0, .int x5, .int x5, .int x5, .int 0]) (rest := []) ⟨hx, hb, hml, hown, hts⟩ (kc_X0_addStep l D q vl u hU.1 K r0 0 x5 x5 x5 0 hr0 z z4 hcq) (cwV 5 hts (tw_gV wC_good xq_96 xq_97 xq_98 xq_24 xq_99) rfl rfl rfl cdd_X0_addStep ⟨(Nat.le_of_ble_eq_true rfl), (Nat.le_of_ble_eq_true rfl)⟩) (cw_preV hK hM (co_X0 hr0) rfl) rfl rfl hl.1 rfl (lv_room (Nat.le_of_ble_eq_true rfl)) dcX0_planFrom_56 ⟨(Nat.le_of_ble_eq_true rfl), (Nat.le_of_ble_eq_true rfl)⟩) (fun H locs hM => ?_)
              refine lv_iload hx hb dcX0_planFrom_59 (lv_at hl 4 rfl) ?_
              refine lv_iconst (v := 1) hx hb dcX0_planFrom_61 (by decide) ?_
              refine lv_iload hx hb dcX0_planFrom_62 (lv_at hl 5 rfl) ?_
              refine lv_ishl hx hb dcX0_planFrom_64 ?_
              refine lv_ior hx hb dcX0_planFrom_65 ?_
              refine lv_istore (lv' := [(4, .int (x4 ||| ((1 : Int32) <<< ((x5 : Int32) &&& 31)))), (0, .ref (u r0)), (1, .ref (u r1)), (2, .int x2), (3, .int x3), (5, .int x5)]) hx hb dcX0_planFrom_66 hl (by decide) rfl (fun ls hl => ?_)
              refine lv_iconst (v := 0) hx hb dcX0_planFrom_68 (by decide) ?_
              refine lv_istore (lv' := [(6, .int 0), (4, .int (x4 ||| ((1 : Int32) <<< ((x5 : Int32) &&& 31)))), (0, .ref (u r0)), (1, .ref (u r1)), (2, .int x2), (3, .int x3), (5, .int x5)]) hx hb dcX0_planFrom_69 hl (by decide) rfl (fun ls hl => ?_)
              exact ih_2 x2 x3 (x4 ||| ((1 : Int32) <<< ((x5 : Int32) &&& 31))) x5 0 0 0 r0 r1 z4 H locs ls hr0 hr1 hM (lv_sub hl [2, 3, 4, 5, 1, 6, 0] rfl) hq
            · have hq := tw_if hq hc
              refine lv_goto (tgt := 157) hx hb dcX0_planFrom_44 (by decide) ?_
              exact ih_6 x2 x3 x4 x5 0 0 0 r0 r1 z H locs ls hr0 hr1 hM (lv_sub hl [0, 1, 2, 3, 4, 5] rfl) hq
      · intro x2 x3 x4 x5 x6 x7 x8 r0 r1 z H locs ls hr0 hr1 hM hl hq
        have hq : cm_X0_planFrom_2 vl K (c_X0_planFrom vl K k) x2 x3 x4 x5 x6 x7 x8 r0 r1 z = some (r, z1) := hq
        unfold cm_X0_planFrom_2 at hq
        refine lv_iload hx hb dcX0_planFrom_71 (lv_at hl 6 rfl) ?_
        refine lv_bipush (v := 12) hx hb dcX0_planFrom_73 (by decide) ?_
        refine lv_icmp_ge (tgt := 157) hx hb dcX0_planFrom_75 (by decide) (fun hc => ?_) (fun hc => ?_)
        · have hq := tw_it hq hc
          exact ih_6 x2 x3 x4 x5 0 0 0 r0 r1 z H locs ls hr0 hr1 hM (lv_sub hl [0, 1, 2, 3, 4, 5] rfl) hq
        · have hq := tw_if hq hc
          refine lv_iload hx hb dcX0_planFrom_78 (lv_at hl 4 rfl) ?_
          refine lv_istore (lv' := [(7, .int x4), (0, .ref (u r0)), (1, .ref (u r1)), (2, .int x2), (3, .int x3), (4, .int x4), (5, .int x5), (6, .int x6)]) hx hb dcX0_planFrom_80 hl (by decide) rfl (fun ls hl => ?_)
          refine lv_iconst (v := 0) hx hb dcX0_planFrom_82 (by decide) ?_
          refine lv_istore (lv' := [(8, .int 0), (7, .int x4), (0, .ref (u r0)), (1, .ref (u r1)), (2, .int x2), (3, .int x3), (4, .int x4), (5, .int x5), (6, .int x6)]) hx hb dcX0_planFrom_83 hl (by decide) rfl (fun ls hl => ?_)
          exact ih_3 x2 x3 x4 x5 x6 x4 0 r0 r1 z H locs ls hr0 hr1 hM (lv_sub hl [2, 3, 4, 5, 6, 7, 8, 1, 0] rfl) hq
      · intro x2 x3 x4 x5 x6 x7 x8 r0 r1 z H locs ls hr0 hr1 hM hl hq
        have hq : cm_X0_planFrom_3 vl K (c_X0_planFrom vl K k) x2 x3 x4 x5 x6 x7 x8 r0 r1 z = some (r, z1) := hq
        unfold cm_X0_planFrom_3 at hq
        refine lv_iload hx hb dcX0_planFrom_85 (lv_at hl 8 rfl) ?_
        refine lv_aload_n hx hb dcX0_planFrom_87 rfl (lv_at hl 1 rfl) ?_
        refine vgX0_70 hx hb hT hown hK hM hr1 hq dcX0_planFrom_88 (fun v5 hq => ?_)
        refine lv_icmp_ge (tgt := 136) hx hb dcX0_planFrom_91 (by decide) (fun hc => ?_) (fun hc => ?_)
        · have hq := tw_it hq hc
          refine lv_iload hx hb dcX0_planFrom_136 (lv_at hl 4 rfl) ?_
          refine lv_iload hx hb dcX0_planFrom_138 (lv_at hl 7 rfl) ?_
          refine lv_icmp_ne (tgt := 151) hx hb dcX0_planFrom_140 (by decide) (fun hc => ?_) (fun hc => ?_)
          · have hq := tw_if hq hc
            exact ih_5 x2 x3 x4 x5 x6 x7 x8 r0 r1 z H locs ls hr0 hr1 hM (lv_sub hl [0, 1, 2, 3, 4, 5, 6, 7, 8] rfl) hq
          · have hq := tw_it hq hc
            refine lv_iload hx hb dcX0_planFrom_143 (lv_at hl 6 rfl) ?_
            refine lv_if_le (tgt := 151) hx hb dcX0_planFrom_145 (by decide) (fun hc => ?_) (fun hc => ?_)
            · have hq := tw_it hq hc
              exact ih_5 x2 x3 x4 x5 x6 x7 x8 r0 r1 z H locs ls hr0 hr1 hM (lv_sub hl [0, 1, 2, 3, 4, 5, 6, 7, 8] rfl) hq
            · have hq := tw_if hq hc
              refine lv_goto (tgt := 157) hx hb dcX0_planFrom_148 (by decide) ?_
              exact ih_6 x2 x3 x4 x5 0 0 0 r0 r1 z H locs ls hr0 hr1 hM (lv_sub hl [0, 1, 2, 3, 4, 5] rfl) hq
        · have hq := tw_if hq hc
          refine lv_aload_n hx hb dcX0_planFrom_94 rfl (lv_at hl 1 rfl) ?_
          refine vgX0_150 hx hb hT hown hK hM hr1 dcX0_planFrom_95 ?_
          refine lv_iconst (v := 2) hx hb dcX0_planFrom_98 (by decide) ?_
          refine lv_iload hx hb dcX0_planFrom_99 (lv_at hl 8 rfl) ?_
          refine lv_imul hx hb dcX0_planFrom_101 ?_
          refine uw_iald cX_ok hx hb hK hM (cr_X7_5 hr1) hq dcX0_planFrom_102 (fun v6 hq => ?_)
          refine lv_iload_n hx hb dcX0_planFrom_103 rfl (lv_at hl 2 rfl) ?_
          refine lv_icmp_ne (tgt := 130) hx hb dcX0_planFrom_104 (by decide) (fun hc => ?_) (fun hc => ?_)
          · have hq := tw_if hq hc
            exact ih_4 x2 x3 x4 x5 x6 x7 x8 r0 r1 z H locs ls hr0 hr1 hM (lv_sub hl [0, 1, 2, 3, 4, 5, 6, 7, 8] rfl) hq
          · have hq := tw_it hq hc
            refine lv_aload_n hx hb dcX0_planFrom_107 rfl (lv_at hl 0 rfl) ?_
            refine vgX0_166 hx hb hT hown hK hM hr0 hq dcX0_planFrom_108 (fun v7 hq => ?_)
            refine lv_iload hx hb dcX0_planFrom_111 (lv_at hl 8 rfl) ?_
            refine lv_ishr hx hb dcX0_planFrom_113 ?_
            refine lv_iconst (v := 1) hx hb dcX0_planFrom_114 (by decide) ?_
            refine lv_iand hx hb dcX0_planFrom_115 ?_
            refine lv_if_ne (tgt := 130) hx hb dcX0_planFrom_116 (by decide) (fun hc => ?_) (fun hc => ?_)
            · have hq := tw_if hq hc
              exact ih_4 x2 x3 x4 x5 x6 x7 x8 r0 r1 z H locs ls hr0 hr1 hM (lv_sub hl [0, 1, 2, 3, 4, 5, 6, 7, 8] rfl) hq
            · have hq := tw_it hq hc
              refine lv_aload_n hx hb dcX0_planFrom_119 rfl (lv_at hl 0 rfl) ?_
              refine lv_aload_n hx hb dcX0_planFrom_120 rfl (lv_at hl 1 rfl) ?_
              refine lv_iload hx hb dcX0_planFrom_121 (lv_at hl 8 rfl) ?_
              refine lv_iload hx hb dcX0_planFrom_123 (lv_at hl 4 rfl) ?_
              obtain ⟨v9, z8, hcq, hq⟩ := tw_cl1 hq
              refine uw_cali hU hM (va_runV (As := [.ref (u r1), .int x8, .int x4]) (rest := []) ⟨hx, hb, hml, hown, hts⟩ (kc_X0_planCrossing l D q vl u hU.1 K r0 r1 x8 x4 hr0 hr1 z z8 v9 hcq) (cwV 3 hts (tw_gV wC_good xq_105 xq_106 xq_107 xq_24 xq_108) rfl rfl rfl cdd_X0_planCrossing ⟨(Nat.le_of_ble_eq_true rfl), (Nat.le_of_ble_eq_true rfl)⟩) (cw_preV hK hM (co_X0 hr0) rfl) rfl rfl hl.1 rfl (lv_room (Nat.le_of_ble_eq_true rfl)) dcX0_planFrom_125 ⟨(Nat.le_of_ble_eq_true rfl), (Nat.le_of_ble_eq_true rfl)⟩) (fun H locs hM => ?_)
              refine lv_istore (lv' := [(4, .int v9), (0, .ref (u r0)), (1, .ref (u r1)), (2, .int x2), (3, .int x3), (5, .int x5), (6, .int x6), (7, .int x7), (8, .int x8)]) hx hb dcX0_planFrom_128 hl (by decide) rfl (fun ls hl => ?_)
              exact ih_4 x2 x3 v9 x5 x6 x7 x8 r0 r1 z8 H locs ls hr0 hr1 hM (lv_sub hl [1, 2, 3, 4, 0, 5, 6, 7, 8] rfl) hq
      · intro x2 x3 x4 x5 x6 x7 x8 r0 r1 z H locs ls hr0 hr1 hM hl hq
        have hq : cm_X0_planFrom_4 vl K (c_X0_planFrom vl K k) x2 x3 x4 x5 x6 x7 x8 r0 r1 z = some (r, z1) := hq
        unfold cm_X0_planFrom_4 at hq
        refine lv_iinc (v := (x8 + 1)) (lv' := [(8, .int (x8 + 1)), (0, .ref (u r0)), (1, .ref (u r1)), (2, .int x2), (3, .int x3), (4, .int x4), (5, .int x5), (6, .int x6), (7, .int x7)]) hx hb dcX0_planFrom_130 hl (k := 8) rfl rfl (by decide) rfl (fun ls hl => ?_)
        refine lv_goto (tgt := 85) hx hb dcX0_planFrom_133 (by decide) ?_
        exact ih_3 x2 x3 x4 x5 x6 x7 (x8 + 1) r0 r1 z H locs ls hr0 hr1 hM (lv_sub hl [1, 2, 3, 4, 5, 6, 7, 8, 0] rfl) hq
      · intro x2 x3 x4 x5 x6 x7 x8 r0 r1 z H locs ls hr0 hr1 hM hl hq
        have hq : cm_X0_planFrom_5 vl K (c_X0_planFrom vl K k) x2 x3 x4 x5 x6 x7 x8 r0 r1 z = some (r, z1) := hq
        unfold cm_X0_planFrom_5 at hq
        refine lv_iinc (v := (x6 + 1)) (lv' := [(6, .int (x6 + 1)), (0, .ref (u r0)), (1, .ref (u r1)), (2, .int x2), (3, .int x3), (4, .int x4), (5, .int x5), (7, .int x7), (8, .int x8)]) hx hb dcX0_planFrom_151 hl (k := 6) rfl rfl (by decide) rfl (fun ls hl => ?_)
        refine lv_goto (tgt := 71) hx hb dcX0_planFrom_154 (by decide) ?_
        exact ih_2 x2 x3 x4 x5 (x6 + 1) 0 0 r0 r1 z H locs ls hr0 hr1 hM (lv_sub hl [1, 2, 3, 4, 5, 6, 0] rfl) hq
      · intro x2 x3 x4 x5 x6 x7 x8 r0 r1 z H locs ls hr0 hr1 hM hl hq
        have hq : cm_X0_planFrom_6 vl K (c_X0_planFrom vl K k) x2 x3 x4 x5 x6 x7 x8 r0 r1 z = some (r, z1) := hq
        unfold cm_X0_planFrom_6 at hq
        refine lv_iinc (v := (x5 + 1)) (lv' := [(5, .int (x5 + 1)), (0, .ref (u r0)), (1, .ref (u r1)), (2, .int x2), (3, .int x3), (4, .int x4)]) hx hb dcX0_planFrom_157 hl (k := 5) rfl rfl (by decide) rfl (fun ls hl => ?_)
        refine lv_goto (tgt := 16) hx hb dcX0_planFrom_160 (by decide) ?_
        exact ih_1 x2 x3 x4 (x5 + 1) 0 0 0 r0 r1 z H locs ls hr0 hr1 hM (lv_sub hl [1, 2, 3, 4, 5, 0] rfl) hq
  exact (key K).1 x2 x3 0 0 0 0 0 r0 r1 z s.heap [] ls hr0 hr1 hM (lv_sub hl [0, 1, 2, 3] rfl) hq
theorem dcX0_planPart_0 : decode cX0_planPart 0 = .ok (.iconst 0, 1) := dw_at cX0_planPart_k0 (p := 0) rfl (by decide +kernel)
theorem dcX0_planPart_1 : decode cX0_planPart 1 = .ok (.istore_n 3, 1) := dw_at cX0_planPart_k0 (p := 1) rfl (by decide +kernel)
theorem dcX0_planPart_2 : decode cX0_planPart 2 = .ok (.iconst 0, 1) := dw_at cX0_planPart_k0 (p := 2) rfl (by decide +kernel)
theorem dcX0_planPart_3 : decode cX0_planPart 3 = .ok (.istore 4, 2) := dw_at cX0_planPart_k0 (p := 3) rfl (by decide +kernel)
theorem dcX0_planPart_5 : decode cX0_planPart 5 = .ok (.iload 4, 2) := dw_at cX0_planPart_k0 (p := 5) rfl (by decide +kernel)
theorem dcX0_planPart_7 : decode cX0_planPart 7 = .ok (.iconst 2, 1) := dw_at cX0_planPart_k0 (p := 7) rfl (by decide +kernel)
theorem dcX0_planPart_8 : decode cX0_planPart 8 = .ok (.aload_n 1, 1) := dw_at cX0_planPart_k0 (p := 8) rfl (by decide +kernel)
theorem dcX0_planPart_9 : decode cX0_planPart 9 = .ok (.getfield 70, 3) := dw_at cX0_planPart_k0 (p := 9) rfl (by decide +kernel)
theorem dcX0_planPart_12 : decode cX0_planPart 12 = .ok (.imul, 1) := dw_at cX0_planPart_k0 (p := 12) rfl (by decide +kernel)
theorem dcX0_planPart_13 : decode cX0_planPart 13 = .ok (.if_icmp .ge 32, 3) := dw_at cX0_planPart_k0 (p := 13) rfl (by decide +kernel)
theorem dcX0_planPart_16 : decode cX0_planPart 16 = .ok (.aload_n 1, 1) := dw_at cX0_planPart_k0 (p := 16) rfl (by decide +kernel)
theorem dcX0_planPart_17 : decode cX0_planPart 17 = .ok (.getfield 150, 3) := dw_at cX0_planPart_k0 (p := 17) rfl (by decide +kernel)
theorem dcX0_planPart_20 : decode cX0_planPart 20 = .ok (.iload 4, 2) := dw_at cX0_planPart_k0 (p := 20) rfl (by decide +kernel)
theorem dcX0_planPart_22 : decode cX0_planPart 22 = .ok (.iaload, 1) := dw_at cX0_planPart_k0 (p := 22) rfl (by decide +kernel)
theorem dcX0_planPart_23 : decode cX0_planPart 23 = .ok (.iload_n 2, 1) := dw_at cX0_planPart_k0 (p := 23) rfl (by decide +kernel)
theorem dcX0_planPart_24 : decode cX0_planPart 24 = .ok (.if_icmp .ne 15, 3) := dw_at cX0_planPart_k1 (p := 0) rfl (by decide +kernel)
theorem dcX0_planPart_27 : decode cX0_planPart 27 = .ok (.iload_n 3, 1) := dw_at cX0_planPart_k1 (p := 3) rfl (by decide +kernel)
theorem dcX0_planPart_28 : decode cX0_planPart 28 = .ok (.iconst 1, 1) := dw_at cX0_planPart_k1 (p := 4) rfl (by decide +kernel)
theorem dcX0_planPart_29 : decode cX0_planPart 29 = .ok (.aload_n 0, 1) := dw_at cX0_planPart_k1 (p := 5) rfl (by decide +kernel)
theorem dcX0_planPart_30 : decode cX0_planPart 30 = .ok (.getfield 9, 3) := dw_at cX0_planPart_k1 (p := 6) rfl (by decide +kernel)
theorem dcX0_planPart_33 : decode cX0_planPart 33 = .ok (.iload 4, 2) := dw_at cX0_planPart_k1 (p := 9) rfl (by decide +kernel)
theorem dcX0_planPart_35 : decode cX0_planPart 35 = .ok (.iaload, 1) := dw_at cX0_planPart_k1 (p := 11) rfl (by decide +kernel)
theorem dcX0_planPart_36 : decode cX0_planPart 36 = .ok (.ishl, 1) := dw_at cX0_planPart_k1 (p := 12) rfl (by decide +kernel)
theorem dcX0_planPart_37 : decode cX0_planPart 37 = .ok (.ior, 1) := dw_at cX0_planPart_k1 (p := 13) rfl (by decide +kernel)
theorem dcX0_planPart_38 : decode cX0_planPart 38 = .ok (.istore_n 3, 1) := dw_at cX0_planPart_k1 (p := 14) rfl (by decide +kernel)
theorem dcX0_planPart_39 : decode cX0_planPart 39 = .ok (.iinc 4 1, 3) := dw_at cX0_planPart_k1 (p := 15) rfl (by decide +kernel)
theorem dcX0_planPart_42 : decode cX0_planPart 42 = .ok (.goto (-37), 3) := dw_at cX0_planPart_k1 (p := 18) rfl (by decide +kernel)
theorem dcX0_planPart_45 : decode cX0_planPart 45 = .ok (.iconst 1, 1) := dw_at cX0_planPart_k1 (p := 21) rfl (by decide +kernel)
theorem dcX0_planPart_46 : decode cX0_planPart 46 = .ok (.istore 4, 2) := dw_at cX0_planPart_k1 (p := 22) rfl (by decide +kernel)
theorem dcX0_planPart_48 : decode cX0_planPart 48 = .ok (.iload 4, 2) := dw_at cX0_planPart_k2 (p := 0) rfl (by decide +kernel)
theorem dcX0_planPart_50 : decode cX0_planPart 50 = .ok (.aload_n 0, 1) := dw_at cX0_planPart_k2 (p := 2) rfl (by decide +kernel)
theorem dcX0_planPart_51 : decode cX0_planPart 51 = .ok (.getfield 82, 3) := dw_at cX0_planPart_k2 (p := 3) rfl (by decide +kernel)
theorem dcX0_planPart_54 : decode cX0_planPart 54 = .ok (.if_icmp .gt 56, 3) := dw_at cX0_planPart_k2 (p := 6) rfl (by decide +kernel)
theorem dcX0_planPart_57 : decode cX0_planPart 57 = .ok (.iconst 1, 1) := dw_at cX0_planPart_k2 (p := 9) rfl (by decide +kernel)
theorem dcX0_planPart_58 : decode cX0_planPart 58 = .ok (.istore 5, 2) := dw_at cX0_planPart_k2 (p := 10) rfl (by decide +kernel)
theorem dcX0_planPart_60 : decode cX0_planPart 60 = .ok (.iload 5, 2) := dw_at cX0_planPart_k2 (p := 12) rfl (by decide +kernel)
theorem dcX0_planPart_62 : decode cX0_planPart 62 = .ok (.iload_n 3, 1) := dw_at cX0_planPart_k2 (p := 14) rfl (by decide +kernel)
theorem dcX0_planPart_63 : decode cX0_planPart 63 = .ok (.if_icmp .gt 41, 3) := dw_at cX0_planPart_k2 (p := 15) rfl (by decide +kernel)
theorem dcX0_planPart_66 : decode cX0_planPart 66 = .ok (.iload 5, 2) := dw_at cX0_planPart_k2 (p := 18) rfl (by decide +kernel)
theorem dcX0_planPart_68 : decode cX0_planPart 68 = .ok (.iload_n 3, 1) := dw_at cX0_planPart_k2 (p := 20) rfl (by decide +kernel)
theorem dcX0_planPart_69 : decode cX0_planPart 69 = .ok (.iconst (-1), 1) := dw_at cX0_planPart_k2 (p := 21) rfl (by decide +kernel)
theorem dcX0_planPart_70 : decode cX0_planPart 70 = .ok (.ixor, 1) := dw_at cX0_planPart_k2 (p := 22) rfl (by decide +kernel)
theorem dcX0_planPart_71 : decode cX0_planPart 71 = .ok (.iand, 1) := dw_at cX0_planPart_k2 (p := 23) rfl (by decide +kernel)
theorem dcX0_planPart_72 : decode cX0_planPart 72 = .ok (.ifCond .ne 26, 3) := dw_at cX0_planPart_k3 (p := 0) rfl (by decide +kernel)
theorem dcX0_planPart_75 : decode cX0_planPart 75 = .ok (.iload 5, 2) := dw_at cX0_planPart_k3 (p := 3) rfl (by decide +kernel)
theorem dcX0_planPart_77 : decode cX0_planPart 77 = .ok (.invokestatic 153, 3) := dw_at cX0_planPart_k3 (p := 5) rfl (by decide +kernel)
theorem dcX0_planPart_80 : decode cX0_planPart 80 = .ok (.iload 4, 2) := dw_at cX0_planPart_k3 (p := 8) rfl (by decide +kernel)
theorem dcX0_planPart_82 : decode cX0_planPart 82 = .ok (.if_icmp .ne 16, 3) := dw_at cX0_planPart_k3 (p := 10) rfl (by decide +kernel)
theorem dcX0_planPart_85 : decode cX0_planPart 85 = .ok (.aload_n 0, 1) := dw_at cX0_planPart_k3 (p := 13) rfl (by decide +kernel)
theorem dcX0_planPart_86 : decode cX0_planPart 86 = .ok (.aload_n 1, 1) := dw_at cX0_planPart_k3 (p := 14) rfl (by decide +kernel)
theorem dcX0_planPart_87 : decode cX0_planPart 87 = .ok (.iload_n 2, 1) := dw_at cX0_planPart_k3 (p := 15) rfl (by decide +kernel)
theorem dcX0_planPart_88 : decode cX0_planPart 88 = .ok (.iload 5, 2) := dw_at cX0_planPart_k3 (p := 16) rfl (by decide +kernel)
theorem dcX0_planPart_90 : decode cX0_planPart 90 = .ok (.invokevirtual 159, 3) := dw_at cX0_planPart_k3 (p := 18) rfl (by decide +kernel)
theorem dcX0_planPart_93 : decode cX0_planPart 93 = .ok (.iload_n 3, 1) := dw_at cX0_planPart_k3 (p := 21) rfl (by decide +kernel)
theorem dcX0_planPart_94 : decode cX0_planPart 94 = .ok (.if_icmp .ne 4, 3) := dw_at cX0_planPart_k3 (p := 22) rfl (by decide +kernel)
theorem dcX0_planPart_97 : decode cX0_planPart 97 = .ok (.return_, 1) := dw_at cX0_planPart_k4 (p := 0) rfl (by decide +kernel)
theorem dcX0_planPart_98 : decode cX0_planPart 98 = .ok (.iinc 5 1, 3) := dw_at cX0_planPart_k4 (p := 1) rfl (by decide +kernel)
theorem dcX0_planPart_101 : decode cX0_planPart 101 = .ok (.goto (-41), 3) := dw_at cX0_planPart_k4 (p := 4) rfl (by decide +kernel)
theorem dcX0_planPart_104 : decode cX0_planPart 104 = .ok (.iinc 4 1, 3) := dw_at cX0_planPart_k4 (p := 7) rfl (by decide +kernel)
theorem dcX0_planPart_107 : decode cX0_planPart 107 = .ok (.goto (-59), 3) := dw_at cX0_planPart_k4 (p := 10) rfl (by decide +kernel)
theorem dcX0_planPart_110 : decode cX0_planPart 110 = .ok (.return_, 1) := dw_at cX0_planPart_k4 (p := 13) rfl (by decide +kernel)
def cm_X0_planPart_0 (vl : Nat → Nat) (K : Nat) (go : Nat → Int32 → Int32 → Int32 → Int32 → Nat → Nat → ow_MS → Option ow_MS) (x2 : Int32) (x3 : Int32) (x4 : Int32) (x5 : Int32) (r0 : Nat) (r1 : Nat) (z : ow_MS) : Option ow_MS :=
 go 1 x2 0 0 0 r0 r1 z
def cm_X0_planPart_1 (vl : Nat → Nat) (K : Nat) (go : Nat → Int32 → Int32 → Int32 → Int32 → Nat → Nat → ow_MS → Option ow_MS) (x2 : Int32) (x3 : Int32) (x4 : Int32) (x5 : Int32) (r0 : Nat) (r1 : Nat) (z : ow_MS) : Option ow_MS :=
 rdF z (r1 + 8) fun v1 => (if (2 * v1) ≤ x4 then go 3 x2 x3 1 0 r0 r1 z
 else crI (cX vl) z (r1 + 6) x4 fun v2 => (if v2 = x2 then crI (cX vl) z (r0 + 1) x4 fun v3 => go 2 x2 (x3 ||| ((1 : Int32) <<< ((v3 : Int32) &&& 31))) x4 0 r0 r1 z
 else go 2 x2 x3 x4 0 r0 r1 z))
def cm_X0_planPart_2 (vl : Nat → Nat) (K : Nat) (go : Nat → Int32 → Int32 → Int32 → Int32 → Nat → Nat → ow_MS → Option ow_MS) (x2 : Int32) (x3 : Int32) (x4 : Int32) (x5 : Int32) (r0 : Nat) (r1 : Nat) (z : ow_MS) : Option ow_MS :=
 go 1 x2 x3 (x4 + 1) 0 r0 r1 z
def cm_X0_planPart_3 (vl : Nat → Nat) (K : Nat) (go : Nat → Int32 → Int32 → Int32 → Int32 → Nat → Nat → ow_MS → Option ow_MS) (x2 : Int32) (x3 : Int32) (x4 : Int32) (x5 : Int32) (r0 : Nat) (r1 : Nat) (z : ow_MS) : Option ow_MS :=
 rdF z (r0 + 2) fun v4 => (if v4 < x4 then some z
 else go 4 x2 x3 x4 1 r0 r1 z)
def cm_X0_planPart_4 (vl : Nat → Nat) (K : Nat) (go : Nat → Int32 → Int32 → Int32 → Int32 → Nat → Nat → ow_MS → Option ow_MS) (x2 : Int32) (x3 : Int32) (x4 : Int32) (x5 : Int32) (r0 : Nat) (r1 : Nat) (z : ow_MS) : Option ow_MS :=
 (if x3 < x5 then go 3 x2 x3 (x4 + 1) 0 r0 r1 z
 else (if (x5 &&& (x3 ^^^ (-1))) = 0 then (if (ow_bc x5) = x4 then cs1 (ce_X0_planFrom vl K r0 r1 x2 x5 z) fun v7 z6 => (if v7 = x3 then some z6
 else go 5 x2 x3 x4 x5 r0 r1 z6)
 else go 5 x2 x3 x4 x5 r0 r1 z)
 else go 5 x2 x3 x4 x5 r0 r1 z))
def cm_X0_planPart_5 (vl : Nat → Nat) (K : Nat) (go : Nat → Int32 → Int32 → Int32 → Int32 → Nat → Nat → ow_MS → Option ow_MS) (x2 : Int32) (x3 : Int32) (x4 : Int32) (x5 : Int32) (r0 : Nat) (r1 : Nat) (z : ow_MS) : Option ow_MS :=
 go 4 x2 x3 x4 (x5 + 1) r0 r1 z
def cb_X0_planPart (vl : Nat → Nat) (K : Nat) (go : Nat → Int32 → Int32 → Int32 → Int32 → Nat → Nat → ow_MS → Option ow_MS) (L : Nat) (x2 : Int32) (x3 : Int32) (x4 : Int32) (x5 : Int32) (r0 : Nat) (r1 : Nat) (z : ow_MS) : Option ow_MS := match L with
  | 0 => cm_X0_planPart_0 vl K go x2 x3 x4 x5 r0 r1 z
  | 1 => cm_X0_planPart_1 vl K go x2 x3 x4 x5 r0 r1 z
  | 2 => cm_X0_planPart_2 vl K go x2 x3 x4 x5 r0 r1 z
  | 3 => cm_X0_planPart_3 vl K go x2 x3 x4 x5 r0 r1 z
  | 4 => cm_X0_planPart_4 vl K go x2 x3 x4 x5 r0 r1 z
  | 5 => cm_X0_planPart_5 vl K go x2 x3 x4 x5 r0 r1 z
  | _ => none
def c_X0_planPart (vl : Nat → Nat) (K : Nat) : Nat → Nat → Int32 → Int32 → Int32 → Int32 → Nat → Nat → ow_MS → Option ow_MS
  | 0 => fun _ _ _ _ _ _ _ _ => none
  | k + 1 => cb_X0_planPart vl K (c_X0_planPart vl K k)
def ce_X0_planPart (vl : Nat → Nat) (K : Nat) (r0 : Nat) (r1 : Nat) (x2 : Int32) (z : ow_MS) : Option ow_MS := c_X0_planPart vl K K 0 x2 0 0 0 r0 r1 z
abbrev wc_X0_planPart : List Cond := .code yX0_planPart cX0_planPart 6 none :: wC
theorem cdd_X0_planPart : yX0_planPart.cls = RX0 ∧ yX0_planPart.cls ≠ "java/lang/invoke/MethodHandle" ∧ yX0_planPart.cls ≠ "java/lang/invoke/VarHandle" ∧ (parseMethodDescriptor yX0_planPart.desc).map (fun d => d.parameters.length) = some 2 := by decide +kernel
set_option maxHeartbeats 4000000 in
set_option maxRecDepth 100000 in
theorem kc_X0_planPart (l : Launch) (D : va_G) (q : Nat → ClassId) (vl u : Nat → Nat) (hU0 : tw_inj (cX vl) u) (K : Nat) (r0 : Nat) (r1 : Nat) (x2 : Int32) (hr0 : cw_X0 r0) (hr1 : cw_X7 r1) (z z1 : ow_MS) (hq : ce_X0_planPart vl K r0 r1 x2 z = some z1) : Met l yX0_planPart wc_X0_planPart ({ frames := 3, cells := 0, slots := 0, locals := 83 } : Room) (va_Pc [.ref (u r0), .ref (u r1), .int x2] (cw_pre D q vl u z)) (va_Qv (fun (_ : Unit) => True) (fun _ t => va_P D vwCl (uw (cX vl) q u z1) t.heap) (tw_A (cX vl) u)) 0 0 (tw_A (cX vl) u) := by
  refine Met.ofW (cc := cX0_planPart) (maxL := 6) (ret := none) (by decide) rfl ?_
  intro p e s m args below meth c s₁ B hml hv
  obtain ⟨rfl, hP, hK⟩ := hv
  have hx := B.exec
  have hb := B.bytes
  have hr := B.returns
  have hts := atoms_spec (ws := wc_X0_planPart) B.pre
  have hT : ∀ w ∈ wC, w.before ([.ref (u r0), .ref (u r1), .int x2] : List Value).toArray s = true := fun w h => hts w (List.mem_cons_of_mem _ h)
  have hown : s.vm.findClass RX0 = some m.cls := findClass_of_methodNamed B.named
  have hlocks := B.notSynchronized
  have hU : uw_inj (cX vl) u (tw_A (cX vl) u) := ⟨hU0, fun h hh => ⟨h, hh, rfl⟩⟩
  have hM : uw_M D vwCl (cX vl) q (tw_A (cX vl) u) s.heap u z s.heap [] := ⟨hP, va_S.rf⟩
  have hl := lv_entry ([.ref (u r0), .ref (u r1), .int x2]) (n := 6) (Nat.le_of_ble_eq_true rfl)
  rw [lg_entry_eq]
  generalize (lg_sl ([.ref (u r0), .ref (u r1), .int x2]) ++ List.replicate (6 - (lg_sl ([.ref (u r0), .ref (u r1), .int x2])).length) Slot.unset).toArray = ls at hl ⊢
  have hl : lv_has ls 6 [(0, .ref (u r0)), (1, .ref (u r1)), (2, .int x2)] := hl
  refine ow_named (fun QQ hQQ => ?_)
  generalize ([.ref (u r0), .ref (u r1), .int x2] : List Value).toArray = args at hts hT hQQ ⊢
  have key : ∀ k : Nat, (∀ (x2 : Int32) (x3 : Int32) (x4 : Int32) (x5 : Int32) (r0 : Nat) (r1 : Nat) (z : ow_MS) (H : Heap) (locs : List Loc) (ls : Array Slot), cw_X0 r0 → cw_X7 r1 → uw_M D vwCl (cX vl) q (tw_A (cX vl) u) s.heap u z H locs → lv_has ls 6 [(0, .ref (u r0)), (1, .ref (u r1)), (2, .int x2)] → c_X0_planPart vl K k 0 x2 x3 x4 x5 r0 r1 z = some z1 → W p l e ({ frames := 3, cells := 0, slots := 0, locals := 83 } : Room) s m args below meth c H locs 0 0 QQ (F0 m 0 ls [])) ∧ (∀ (x2 : Int32) (x3 : Int32) (x4 : Int32) (x5 : Int32) (r0 : Nat) (r1 : Nat) (z : ow_MS) (H : Heap) (locs : List Loc) (ls : Array Slot), cw_X0 r0 → cw_X7 r1 → uw_M D vwCl (cX vl) q (tw_A (cX vl) u) s.heap u z H locs → lv_has ls 6 [(0, .ref (u r0)), (1, .ref (u r1)), (2, .int x2), (3, .int x3), (4, .int x4)] → c_X0_planPart vl K k 1 x2 x3 x4 x5 r0 r1 z = some z1 → W p l e ({ frames := 3, cells := 0, slots := 0, locals := 83 } : Room) s m args below meth c H locs 0 0 QQ (F0 m 5 ls [])) ∧ (∀ (x2 : Int32) (x3 : Int32) (x4 : Int32) (x5 : Int32) (r0 : Nat) (r1 : Nat) (z : ow_MS) (H : Heap) (locs : List Loc) (ls : Array Slot), cw_X0 r0 → cw_X7 r1 → uw_M D vwCl (cX vl) q (tw_A (cX vl) u) s.heap u z H locs → lv_has ls 6 [(0, .ref (u r0)), (1, .ref (u r1)), (2, .int x2), (3, .int x3), (4, .int x4)] → c_X0_planPart vl K k 2 x2 x3 x4 x5 r0 r1 z = some z1 → W p l e ({ frames := 3, cells := 0, slots := 0, locals := 83 } : Room) s m args below meth c H locs 0 0 QQ (F0 m 39 ls [])) ∧ (∀ (x2 : Int32) (x3 : Int32) (x4 : Int32) (x5 : Int32) (r0 : Nat) (r1 : Nat) (z : ow_MS) (H : Heap) (locs : List Loc) (ls : Array Slot), cw_X0 r0 → cw_X7 r1 → uw_M D vwCl (cX vl) q (tw_A (cX vl) u) s.heap u z H locs → lv_has ls 6 [(0, .ref (u r0)), (1, .ref (u r1)), (2, .int x2), (3, .int x3), (4, .int x4)] → c_X0_planPart vl K k 3 x2 x3 x4 x5 r0 r1 z = some z1 → W p l e ({ frames := 3, cells := 0, slots := 0, locals := 83 } : Room) s m args below meth c H locs 0 0 QQ (F0 m 48 ls [])) ∧ (∀ (x2 : Int32) (x3 : Int32) (x4 : Int32) (x5 : Int32) (r0 : Nat) (r1 : Nat) (z : ow_MS) (H : Heap) (locs : List Loc) (ls : Array Slot), cw_X0 r0 → cw_X7 r1 → uw_M D vwCl (cX vl) q (tw_A (cX vl) u) s.heap u z H locs → lv_has ls 6 [(0, .ref (u r0)), (1, .ref (u r1)), (2, .int x2), (3, .int x3), (4, .int x4), (5, .int x5)] → c_X0_planPart vl K k 4 x2 x3 x4 x5 r0 r1 z = some z1 → W p l e ({ frames := 3, cells := 0, slots := 0, locals := 83 } : Room) s m args below meth c H locs 0 0 QQ (F0 m 60 ls [])) ∧ (∀ (x2 : Int32) (x3 : Int32) (x4 : Int32) (x5 : Int32) (r0 : Nat) (r1 : Nat) (z : ow_MS) (H : Heap) (locs : List Loc) (ls : Array Slot), cw_X0 r0 → cw_X7 r1 → uw_M D vwCl (cX vl) q (tw_A (cX vl) u) s.heap u z H locs → lv_has ls 6 [(0, .ref (u r0)), (1, .ref (u r1)), (2, .int x2), (3, .int x3), (4, .int x4), (5, .int x5)] → c_X0_planPart vl K k 5 x2 x3 x4 x5 r0 r1 z = some z1 → W p l e ({ frames := 3, cells := 0, slots := 0, locals := 83 } : Room) s m args below meth c H locs 0 0 QQ (F0 m 98 ls [])) := by
    intro k
    induction k with
    | zero => exact ⟨fun _ _ _ _ _ _ _ _ _ _ _ _ _ _ hq => cw_no hq, fun _ _ _ _ _ _ _ _ _ _ _ _ _ _ hq => cw_no hq, fun _ _ _ _ _ _ _ _ _ _ _ _ _ _ hq => cw_no hq, fun _ _ _ _ _ _ _ _ _ _ _ _ _ _ hq => cw_no hq, fun _ _ _ _ _ _ _ _ _ _ _ _ _ _ hq => cw_no hq, fun _ _ _ _ _ _ _ _ _ _ _ _ _ _ hq => cw_no hq⟩
    | succ k ih =>
      obtain ⟨ih_0, ih_1, ih_2, ih_3, ih_4, ih_5⟩ := ih
      refine ⟨?_, ?_, ?_, ?_, ?_, ?_⟩
      · intro x2 x3 x4 x5 r0 r1 z H locs ls hr0 hr1 hM hl hq
        have hq : cm_X0_planPart_0 vl K (c_X0_planPart vl K k) x2 x3 x4 x5 r0 r1 z = some z1 := hq
        unfold cm_X0_planPart_0 at hq
        refine lv_iconst (v := 0) hx hb dcX0_planPart_0 (by decide) ?_
        refine lv_istore_n (lv' := [(3, .int 0), (0, .ref (u r0)), (1, .ref (u r1)), (2, .int x2)]) hx hb dcX0_planPart_1 rfl hl (by decide) rfl (fun ls hl => ?_)
        refine lv_iconst (v := 0) hx hb dcX0_planPart_2 (by decide) ?_
        refine lv_istore (lv' := [(4, .int 0), (3, .int 0), (0, .ref (u r0)), (1, .ref (u r1)), (2, .int x2)]) hx hb dcX0_planPart_3 hl (by decide) rfl (fun ls hl => ?_)
        exact ih_1 x2 0 0 0 r0 r1 z H locs ls hr0 hr1 hM (lv_sub hl [2, 3, 4, 1, 0] rfl) hq
      · intro x2 x3 x4 x5 r0 r1 z H locs ls hr0 hr1 hM hl hq
        have hq : cm_X0_planPart_1 vl K (c_X0_planPart vl K k) x2 x3 x4 x5 r0 r1 z = some z1 := hq
        unfold cm_X0_planPart_1 at hq
        refine lv_iload hx hb dcX0_planPart_5 (lv_at hl 4 rfl) ?_
        refine lv_iconst (v := 2) hx hb dcX0_planPart_7 (by decide) ?_
        refine lv_aload_n hx hb dcX0_planPart_8 rfl (lv_at hl 1 rfl) ?_
        refine vgX0_70 hx hb hT hown hK hM hr1 hq dcX0_planPart_9 (fun v1 hq => ?_)
        refine lv_imul hx hb dcX0_planPart_12 ?_
        refine lv_icmp_ge (tgt := 45) hx hb dcX0_planPart_13 (by decide) (fun hc => ?_) (fun hc => ?_)
        · have hq := tw_it hq hc
          refine lv_iconst (v := 1) hx hb dcX0_planPart_45 (by decide) ?_
          refine lv_istore (lv' := [(4, .int 1), (0, .ref (u r0)), (1, .ref (u r1)), (2, .int x2), (3, .int x3)]) hx hb dcX0_planPart_46 hl (by decide) rfl (fun ls hl => ?_)
          exact ih_3 x2 x3 1 0 r0 r1 z H locs ls hr0 hr1 hM (lv_sub hl [1, 2, 3, 4, 0] rfl) hq
        · have hq := tw_if hq hc
          refine lv_aload_n hx hb dcX0_planPart_16 rfl (lv_at hl 1 rfl) ?_
          refine vgX0_150 hx hb hT hown hK hM hr1 dcX0_planPart_17 ?_
          refine lv_iload hx hb dcX0_planPart_20 (lv_at hl 4 rfl) ?_
          refine uw_iald cX_ok hx hb hK hM (cr_X7_5 hr1) hq dcX0_planPart_22 (fun v2 hq => ?_)
          refine lv_iload_n hx hb dcX0_planPart_23 rfl (lv_at hl 2 rfl) ?_
          refine lv_icmp_ne (tgt := 39) hx hb dcX0_planPart_24 (by decide) (fun hc => ?_) (fun hc => ?_)
          · have hq := tw_if hq hc
            exact ih_2 x2 x3 x4 0 r0 r1 z H locs ls hr0 hr1 hM (lv_sub hl [0, 1, 2, 3, 4] rfl) hq
          · have hq := tw_it hq hc
            refine lv_iload_n hx hb dcX0_planPart_27 rfl (lv_at hl 3 rfl) ?_
            refine lv_iconst (v := 1) hx hb dcX0_planPart_28 (by decide) ?_
            refine lv_aload_n hx hb dcX0_planPart_29 rfl (lv_at hl 0 rfl) ?_
            refine vgX0_9 hx hb hT hown hK hM hr0 dcX0_planPart_30 ?_
            refine lv_iload hx hb dcX0_planPart_33 (lv_at hl 4 rfl) ?_
            refine uw_iald cX_ok hx hb hK hM (cr_X0_0 hr0) hq dcX0_planPart_35 (fun v3 hq => ?_)
            refine lv_ishl hx hb dcX0_planPart_36 ?_
            refine lv_ior hx hb dcX0_planPart_37 ?_
            refine lv_istore_n (lv' := [(3, .int (x3 ||| ((1 : Int32) <<< ((v3 : Int32) &&& 31)))), (0, .ref (u r0)), (1, .ref (u r1)), (2, .int x2), (4, .int x4)]) hx hb dcX0_planPart_38 rfl hl (by decide) rfl (fun ls hl => ?_)
            exact ih_2 x2 (x3 ||| ((1 : Int32) <<< ((v3 : Int32) &&& 31))) x4 0 r0 r1 z H locs ls hr0 hr1 hM (lv_sub hl [1, 2, 3, 0, 4] rfl) hq
      · intro x2 x3 x4 x5 r0 r1 z H locs ls hr0 hr1 hM hl hq
        have hq : cm_X0_planPart_2 vl K (c_X0_planPart vl K k) x2 x3 x4 x5 r0 r1 z = some z1 := hq
        unfold cm_X0_planPart_2 at hq
        refine lv_iinc (v := (x4 + 1)) (lv' := [(4, .int (x4 + 1)), (0, .ref (u r0)), (1, .ref (u r1)), (2, .int x2), (3, .int x3)]) hx hb dcX0_planPart_39 hl (k := 4) rfl rfl (by decide) rfl (fun ls hl => ?_)
        refine lv_goto (tgt := 5) hx hb dcX0_planPart_42 (by decide) ?_
        exact ih_1 x2 x3 (x4 + 1) 0 r0 r1 z H locs ls hr0 hr1 hM (lv_sub hl [1, 2, 3, 4, 0] rfl) hq
      · intro x2 x3 x4 x5 r0 r1 z H locs ls hr0 hr1 hM hl hq
        have hq : cm_X0_planPart_3 vl K (c_X0_planPart vl K k) x2 x3 x4 x5 r0 r1 z = some z1 := hq
        unfold cm_X0_planPart_3 at hq
        refine lv_iload hx hb dcX0_planPart_48 (lv_at hl 4 rfl) ?_
        refine lv_aload_n hx hb dcX0_planPart_50 rfl (lv_at hl 0 rfl) ?_
        refine vgX0_82 hx hb hT hown hK hM hr0 hq dcX0_planPart_51 (fun v4 hq => ?_)
        refine lv_icmp_gt (tgt := 110) hx hb dcX0_planPart_54 (by decide) (fun hc => ?_) (fun hc => ?_)
        · have hq := tw_it hq hc
          exact cw_vret hx hb hr hlocks hM hq hQQ dcX0_planPart_110
        · have hq := tw_if hq hc
          refine lv_iconst (v := 1) hx hb dcX0_planPart_57 (by decide) ?_
          refine lv_istore (lv' := [(5, .int 1), (0, .ref (u r0)), (1, .ref (u r1)), (2, .int x2), (3, .int x3), (4, .int x4)]) hx hb dcX0_planPart_58 hl (by decide) rfl (fun ls hl => ?_)
          exact ih_4 x2 x3 x4 1 r0 r1 z H locs ls hr0 hr1 hM (lv_sub hl [1, 2, 3, 4, 5, 0] rfl) hq
      · intro x2 x3 x4 x5 r0 r1 z H locs ls hr0 hr1 hM hl hq
        have hq : cm_X0_planPart_4 vl K (c_X0_planPart vl K k) x2 x3 x4 x5 r0 r1 z = some z1 := hq
        unfold cm_X0_planPart_4 at hq
        refine lv_iload hx hb dcX0_planPart_60 (lv_at hl 5 rfl) ?_
        refine lv_iload_n hx hb dcX0_planPart_62 rfl (lv_at hl 3 rfl) ?_
        refine lv_icmp_gt (tgt := 104) hx hb dcX0_planPart_63 (by decide) (fun hc => ?_) (fun hc => ?_)
        · have hq := tw_it hq hc
          refine lv_iinc (v := (x4 + 1)) (lv' := [(4, .int (x4 + 1)), (0, .ref (u r0)), (1, .ref (u r1)), (2, .int x2), (3, .int x3), (5, .int x5)]) hx hb dcX0_planPart_104 hl (k := 4) rfl rfl (by decide) rfl (fun ls hl => ?_)
          refine lv_goto (tgt := 48) hx hb dcX0_planPart_107 (by decide) ?_
          exact ih_3 x2 x3 (x4 + 1) 0 r0 r1 z H locs ls hr0 hr1 hM (lv_sub hl [1, 2, 3, 4, 0] rfl) hq
        · have hq := tw_if hq hc
          refine lv_iload hx hb dcX0_planPart_66 (lv_at hl 5 rfl) ?_
          refine lv_iload_n hx hb dcX0_planPart_68 rfl (lv_at hl 3 rfl) ?_
          refine lv_iconst (v := (-1)) hx hb dcX0_planPart_69 (by decide) ?_
          refine lv_ixor hx hb dcX0_planPart_70 ?_
          refine lv_iand hx hb dcX0_planPart_71 ?_
          refine lv_if_ne (tgt := 98) hx hb dcX0_planPart_72 (by decide) (fun hc => ?_) (fun hc => ?_)
          · have hq := tw_if hq hc
            exact ih_5 x2 x3 x4 x5 r0 r1 z H locs ls hr0 hr1 hM (lv_sub hl [0, 1, 2, 3, 4, 5] rfl) hq
          · have hq := tw_it hq hc
            refine lv_iload hx hb dcX0_planPart_75 (lv_at hl 5 rfl) ?_
            refine cw_pure hM (va_runS (As := [.int x5]) (rest := []) ⟨hx, hb, hml, hown, hts⟩ (k_J6_bitCount_0f7a4 l x5) (va_cwS 1 hts (cw_gbc xq_83) rfl rfl rfl (by decide +kernel) ⟨(Nat.le_of_ble_eq_true rfl), (Nat.le_of_ble_eq_true rfl)⟩) ⟨fun a U g mk q => q, fun U hU hW => ⟨rfl, trivial⟩⟩ rfl rfl hl.1 rfl (lv_room (Nat.le_of_ble_eq_true rfl)) dcX0_planPart_77 ⟨(Nat.le_of_ble_eq_true rfl), (Nat.le_of_ble_eq_true rfl)⟩) (fun H locs hM => ?_)
            refine lv_iload hx hb dcX0_planPart_80 (lv_at hl 4 rfl) ?_
            refine lv_icmp_ne (tgt := 98) hx hb dcX0_planPart_82 (by decide) (fun hc => ?_) (fun hc => ?_)
            · have hq := tw_if hq hc
              exact ih_5 x2 x3 x4 x5 r0 r1 z H locs ls hr0 hr1 hM (lv_sub hl [0, 1, 2, 3, 4, 5] rfl) hq
            · have hq := tw_it hq hc
              refine lv_aload_n hx hb dcX0_planPart_85 rfl (lv_at hl 0 rfl) ?_
              refine lv_aload_n hx hb dcX0_planPart_86 rfl (lv_at hl 1 rfl) ?_
              refine lv_iload_n hx hb dcX0_planPart_87 rfl (lv_at hl 2 rfl) ?_
              refine lv_iload hx hb dcX0_planPart_88 (lv_at hl 5 rfl) ?_
              obtain ⟨v7, z6, hcq, hq⟩ := tw_cl1 hq
              refine uw_cali hU hM (va_runV (As := [.ref (u r1), .int x2, .int x5]) (rest := []) ⟨hx, hb, hml, hown, hts⟩ (kc_X0_planFrom l D q vl u hU.1 K r0 r1 x2 x5 hr0 hr1 z z6 v7 hcq) (cwV 3 hts (tw_gV wC_good xq_90 xq_91 xq_92 xq_24 xq_93) rfl rfl rfl cdd_X0_planFrom ⟨(Nat.le_of_ble_eq_true rfl), (Nat.le_of_ble_eq_true rfl)⟩) (cw_preV hK hM (co_X0 hr0) rfl) rfl rfl hl.1 rfl (lv_room (Nat.le_of_ble_eq_true rfl)) dcX0_planPart_90 ⟨(Nat.le_of_ble_eq_true rfl), (Nat.le_of_ble_eq_true rfl)⟩) (fun H locs hM => ?_)
              refine lv_iload_n hx hb dcX0_planPart_93 rfl (lv_at hl 3 rfl) ?_
              refine lv_icmp_ne (tgt := 98) hx hb dcX0_planPart_94 (by decide) (fun hc => ?_) (fun hc => ?_)
              · have hq := tw_if hq hc
                exact ih_5 x2 x3 x4 x5 r0 r1 z6 H locs ls hr0 hr1 hM (lv_sub hl [0, 1, 2, 3, 4, 5] rfl) hq
              · have hq := tw_it hq hc
                exact cw_vret hx hb hr hlocks hM hq hQQ dcX0_planPart_97
      · intro x2 x3 x4 x5 r0 r1 z H locs ls hr0 hr1 hM hl hq
        have hq : cm_X0_planPart_5 vl K (c_X0_planPart vl K k) x2 x3 x4 x5 r0 r1 z = some z1 := hq
        unfold cm_X0_planPart_5 at hq
        refine lv_iinc (v := (x5 + 1)) (lv' := [(5, .int (x5 + 1)), (0, .ref (u r0)), (1, .ref (u r1)), (2, .int x2), (3, .int x3), (4, .int x4)]) hx hb dcX0_planPart_98 hl (k := 5) rfl rfl (by decide) rfl (fun ls hl => ?_)
        refine lv_goto (tgt := 60) hx hb dcX0_planPart_101 (by decide) ?_
        exact ih_4 x2 x3 x4 (x5 + 1) r0 r1 z H locs ls hr0 hr1 hM (lv_sub hl [1, 2, 3, 4, 5, 0] rfl) hq
  exact (key K).1 x2 0 0 0 r0 r1 z s.heap [] ls hr0 hr1 hM (lv_sub hl [0, 1, 2] rfl) hq
theorem dcX7_markParts_0 : decode cX7_markParts 0 = .ok (.iconst 2, 1) := dw_at cX7_markParts_k0 (p := 0) rfl (by decide +kernel)
theorem dcX7_markParts_1 : decode cX7_markParts 1 = .ok (.aload_n 0, 1) := dw_at cX7_markParts_k0 (p := 1) rfl (by decide +kernel)
theorem dcX7_markParts_2 : decode cX7_markParts 2 = .ok (.getfield 39, 3) := dw_at cX7_markParts_k0 (p := 2) rfl (by decide +kernel)
theorem dcX7_markParts_5 : decode cX7_markParts 5 = .ok (.imul, 1) := dw_at cX7_markParts_k0 (p := 5) rfl (by decide +kernel)
theorem dcX7_markParts_6 : decode cX7_markParts 6 = .ok (.istore_n 1, 1) := dw_at cX7_markParts_k0 (p := 6) rfl (by decide +kernel)
theorem dcX7_markParts_7 : decode cX7_markParts 7 = .ok (.aload_n 0, 1) := dw_at cX7_markParts_k0 (p := 7) rfl (by decide +kernel)
theorem dcX7_markParts_8 : decode cX7_markParts 8 = .ok (.getfield 27, 3) := dw_at cX7_markParts_k0 (p := 8) rfl (by decide +kernel)
theorem dcX7_markParts_11 : decode cX7_markParts 11 = .ok (.iconst 0, 1) := dw_at cX7_markParts_k0 (p := 11) rfl (by decide +kernel)
theorem dcX7_markParts_12 : decode cX7_markParts 12 = .ok (.iload_n 1, 1) := dw_at cX7_markParts_k0 (p := 12) rfl (by decide +kernel)
theorem dcX7_markParts_13 : decode cX7_markParts 13 = .ok (.iconst (-1), 1) := dw_at cX7_markParts_k0 (p := 13) rfl (by decide +kernel)
theorem dcX7_markParts_14 : decode cX7_markParts 14 = .ok (.invokestatic 84, 3) := dw_at cX7_markParts_k0 (p := 14) rfl (by decide +kernel)
theorem dcX7_markParts_17 : decode cX7_markParts 17 = .ok (.aload_n 0, 1) := dw_at cX7_markParts_k0 (p := 17) rfl (by decide +kernel)
theorem dcX7_markParts_18 : decode cX7_markParts 18 = .ok (.iconst 0, 1) := dw_at cX7_markParts_k0 (p := 18) rfl (by decide +kernel)
theorem dcX7_markParts_19 : decode cX7_markParts 19 = .ok (.putfield 90, 3) := dw_at cX7_markParts_k0 (p := 19) rfl (by decide +kernel)
theorem dcX7_markParts_22 : decode cX7_markParts 22 = .ok (.iconst 0, 1) := dw_at cX7_markParts_k0 (p := 22) rfl (by decide +kernel)
theorem dcX7_markParts_23 : decode cX7_markParts 23 = .ok (.istore_n 2, 1) := dw_at cX7_markParts_k0 (p := 23) rfl (by decide +kernel)
theorem dcX7_markParts_24 : decode cX7_markParts 24 = .ok (.iload_n 2, 1) := dw_at cX7_markParts_k1 (p := 0) rfl (by decide +kernel)
theorem dcX7_markParts_25 : decode cX7_markParts 25 = .ok (.iload_n 1, 1) := dw_at cX7_markParts_k1 (p := 1) rfl (by decide +kernel)
theorem dcX7_markParts_26 : decode cX7_markParts 26 = .ok (.if_icmp .ge 163, 3) := dw_at cX7_markParts_k1 (p := 2) rfl (by decide +kernel)
theorem dcX7_markParts_29 : decode cX7_markParts 29 = .ok (.aload_n 0, 1) := dw_at cX7_markParts_k1 (p := 5) rfl (by decide +kernel)
theorem dcX7_markParts_30 : decode cX7_markParts 30 = .ok (.getfield 27, 3) := dw_at cX7_markParts_k1 (p := 6) rfl (by decide +kernel)
theorem dcX7_markParts_33 : decode cX7_markParts 33 = .ok (.iload_n 2, 1) := dw_at cX7_markParts_k1 (p := 9) rfl (by decide +kernel)
theorem dcX7_markParts_34 : decode cX7_markParts 34 = .ok (.iaload, 1) := dw_at cX7_markParts_k1 (p := 10) rfl (by decide +kernel)
theorem dcX7_markParts_35 : decode cX7_markParts 35 = .ok (.iconst (-1), 1) := dw_at cX7_markParts_k1 (p := 11) rfl (by decide +kernel)
theorem dcX7_markParts_36 : decode cX7_markParts 36 = .ok (.if_icmp .eq 6, 3) := dw_at cX7_markParts_k1 (p := 12) rfl (by decide +kernel)
theorem dcX7_markParts_39 : decode cX7_markParts 39 = .ok (.goto 144, 3) := dw_at cX7_markParts_k1 (p := 15) rfl (by decide +kernel)
theorem dcX7_markParts_42 : decode cX7_markParts 42 = .ok (.iconst 1, 1) := dw_at cX7_markParts_k1 (p := 18) rfl (by decide +kernel)
theorem dcX7_markParts_43 : decode cX7_markParts 43 = .ok (.istore_n 3, 1) := dw_at cX7_markParts_k1 (p := 19) rfl (by decide +kernel)
theorem dcX7_markParts_44 : decode cX7_markParts 44 = .ok (.aload_n 0, 1) := dw_at cX7_markParts_k1 (p := 20) rfl (by decide +kernel)
theorem dcX7_markParts_45 : decode cX7_markParts 45 = .ok (.getfield 30, 3) := dw_at cX7_markParts_k1 (p := 21) rfl (by decide +kernel)
theorem dcX7_markParts_48 : decode cX7_markParts 48 = .ok (.iconst 0, 1) := dw_at cX7_markParts_k2 (p := 0) rfl (by decide +kernel)
theorem dcX7_markParts_49 : decode cX7_markParts 49 = .ok (.iload_n 2, 1) := dw_at cX7_markParts_k2 (p := 1) rfl (by decide +kernel)
theorem dcX7_markParts_50 : decode cX7_markParts 50 = .ok (.iastore, 1) := dw_at cX7_markParts_k2 (p := 2) rfl (by decide +kernel)
theorem dcX7_markParts_51 : decode cX7_markParts 51 = .ok (.aload_n 0, 1) := dw_at cX7_markParts_k2 (p := 3) rfl (by decide +kernel)
theorem dcX7_markParts_52 : decode cX7_markParts 52 = .ok (.getfield 27, 3) := dw_at cX7_markParts_k2 (p := 4) rfl (by decide +kernel)
theorem dcX7_markParts_55 : decode cX7_markParts 55 = .ok (.iload_n 2, 1) := dw_at cX7_markParts_k2 (p := 7) rfl (by decide +kernel)
theorem dcX7_markParts_56 : decode cX7_markParts 56 = .ok (.aload_n 0, 1) := dw_at cX7_markParts_k2 (p := 8) rfl (by decide +kernel)
theorem dcX7_markParts_57 : decode cX7_markParts 57 = .ok (.getfield 90, 3) := dw_at cX7_markParts_k2 (p := 9) rfl (by decide +kernel)
theorem dcX7_markParts_60 : decode cX7_markParts 60 = .ok (.iastore, 1) := dw_at cX7_markParts_k2 (p := 12) rfl (by decide +kernel)
theorem dcX7_markParts_61 : decode cX7_markParts 61 = .ok (.iconst 0, 1) := dw_at cX7_markParts_k2 (p := 13) rfl (by decide +kernel)
theorem dcX7_markParts_62 : decode cX7_markParts 62 = .ok (.istore 4, 2) := dw_at cX7_markParts_k2 (p := 14) rfl (by decide +kernel)
theorem dcX7_markParts_64 : decode cX7_markParts 64 = .ok (.iload 4, 2) := dw_at cX7_markParts_k2 (p := 16) rfl (by decide +kernel)
theorem dcX7_markParts_66 : decode cX7_markParts 66 = .ok (.iload_n 3, 1) := dw_at cX7_markParts_k2 (p := 18) rfl (by decide +kernel)
theorem dcX7_markParts_67 : decode cX7_markParts 67 = .ok (.if_icmp .ge 106, 3) := dw_at cX7_markParts_k2 (p := 19) rfl (by decide +kernel)
theorem dcX7_markParts_70 : decode cX7_markParts 70 = .ok (.iload 4, 2) := dw_at cX7_markParts_k2 (p := 22) rfl (by decide +kernel)
theorem dcX7_markParts_72 : decode cX7_markParts 72 = .ok (.iload_n 1, 1) := dw_at cX7_markParts_k3 (p := 0) rfl (by decide +kernel)
theorem dcX7_markParts_73 : decode cX7_markParts 73 = .ok (.if_icmp .ge 100, 3) := dw_at cX7_markParts_k3 (p := 1) rfl (by decide +kernel)
theorem dcX7_markParts_76 : decode cX7_markParts 76 = .ok (.aload_n 0, 1) := dw_at cX7_markParts_k3 (p := 4) rfl (by decide +kernel)
theorem dcX7_markParts_77 : decode cX7_markParts 77 = .ok (.getfield 9, 3) := dw_at cX7_markParts_k3 (p := 5) rfl (by decide +kernel)
theorem dcX7_markParts_80 : decode cX7_markParts 80 = .ok (.aload_n 0, 1) := dw_at cX7_markParts_k3 (p := 8) rfl (by decide +kernel)
theorem dcX7_markParts_81 : decode cX7_markParts 81 = .ok (.getfield 30, 3) := dw_at cX7_markParts_k3 (p := 9) rfl (by decide +kernel)
theorem dcX7_markParts_84 : decode cX7_markParts 84 = .ok (.iload 4, 2) := dw_at cX7_markParts_k3 (p := 12) rfl (by decide +kernel)
theorem dcX7_markParts_86 : decode cX7_markParts 86 = .ok (.iaload, 1) := dw_at cX7_markParts_k3 (p := 14) rfl (by decide +kernel)
theorem dcX7_markParts_87 : decode cX7_markParts 87 = .ok (.iaload, 1) := dw_at cX7_markParts_k3 (p := 15) rfl (by decide +kernel)
theorem dcX7_markParts_88 : decode cX7_markParts 88 = .ok (.istore 5, 2) := dw_at cX7_markParts_k3 (p := 16) rfl (by decide +kernel)
theorem dcX7_markParts_90 : decode cX7_markParts 90 = .ok (.aload_n 0, 1) := dw_at cX7_markParts_k3 (p := 18) rfl (by decide +kernel)
theorem dcX7_markParts_91 : decode cX7_markParts 91 = .ok (.getfield 30, 3) := dw_at cX7_markParts_k3 (p := 19) rfl (by decide +kernel)
theorem dcX7_markParts_94 : decode cX7_markParts 94 = .ok (.iload 4, 2) := dw_at cX7_markParts_k3 (p := 22) rfl (by decide +kernel)
theorem dcX7_markParts_96 : decode cX7_markParts 96 = .ok (.iaload, 1) := dw_at cX7_markParts_k4 (p := 0) rfl (by decide +kernel)
theorem dcX7_markParts_97 : decode cX7_markParts 97 = .ok (.iconst 1, 1) := dw_at cX7_markParts_k4 (p := 1) rfl (by decide +kernel)
theorem dcX7_markParts_98 : decode cX7_markParts 98 = .ok (.ixor, 1) := dw_at cX7_markParts_k4 (p := 2) rfl (by decide +kernel)
theorem dcX7_markParts_99 : decode cX7_markParts 99 = .ok (.istore 6, 2) := dw_at cX7_markParts_k4 (p := 3) rfl (by decide +kernel)
theorem dcX7_markParts_101 : decode cX7_markParts 101 = .ok (.aload_n 0, 1) := dw_at cX7_markParts_k4 (p := 5) rfl (by decide +kernel)
theorem dcX7_markParts_102 : decode cX7_markParts 102 = .ok (.getfield 27, 3) := dw_at cX7_markParts_k4 (p := 6) rfl (by decide +kernel)
theorem dcX7_markParts_105 : decode cX7_markParts 105 = .ok (.iload 5, 2) := dw_at cX7_markParts_k4 (p := 9) rfl (by decide +kernel)
theorem dcX7_markParts_107 : decode cX7_markParts 107 = .ok (.iaload, 1) := dw_at cX7_markParts_k4 (p := 11) rfl (by decide +kernel)
theorem dcX7_markParts_108 : decode cX7_markParts 108 = .ok (.iconst (-1), 1) := dw_at cX7_markParts_k4 (p := 12) rfl (by decide +kernel)
theorem dcX7_markParts_109 : decode cX7_markParts 109 = .ok (.if_icmp .ne 25, 3) := dw_at cX7_markParts_k4 (p := 13) rfl (by decide +kernel)
theorem dcX7_markParts_112 : decode cX7_markParts 112 = .ok (.aload_n 0, 1) := dw_at cX7_markParts_k4 (p := 16) rfl (by decide +kernel)
theorem dcX7_markParts_113 : decode cX7_markParts 113 = .ok (.getfield 27, 3) := dw_at cX7_markParts_k4 (p := 17) rfl (by decide +kernel)
theorem dcX7_markParts_116 : decode cX7_markParts 116 = .ok (.iload 5, 2) := dw_at cX7_markParts_k4 (p := 20) rfl (by decide +kernel)
theorem dcX7_markParts_118 : decode cX7_markParts 118 = .ok (.aload_n 0, 1) := dw_at cX7_markParts_k4 (p := 22) rfl (by decide +kernel)
theorem dcX7_markParts_119 : decode cX7_markParts 119 = .ok (.getfield 90, 3) := dw_at cX7_markParts_k4 (p := 23) rfl (by decide +kernel)
theorem dcX7_markParts_122 : decode cX7_markParts 122 = .ok (.iastore, 1) := dw_at cX7_markParts_k5 (p := 0) rfl (by decide +kernel)
theorem dcX7_markParts_123 : decode cX7_markParts 123 = .ok (.aload_n 0, 1) := dw_at cX7_markParts_k5 (p := 1) rfl (by decide +kernel)
theorem dcX7_markParts_124 : decode cX7_markParts 124 = .ok (.getfield 30, 3) := dw_at cX7_markParts_k5 (p := 2) rfl (by decide +kernel)
theorem dcX7_markParts_127 : decode cX7_markParts 127 = .ok (.iload_n 3, 1) := dw_at cX7_markParts_k5 (p := 5) rfl (by decide +kernel)
theorem dcX7_markParts_128 : decode cX7_markParts 128 = .ok (.iload 5, 2) := dw_at cX7_markParts_k5 (p := 6) rfl (by decide +kernel)
theorem dcX7_markParts_130 : decode cX7_markParts 130 = .ok (.iastore, 1) := dw_at cX7_markParts_k5 (p := 8) rfl (by decide +kernel)
theorem dcX7_markParts_131 : decode cX7_markParts 131 = .ok (.iinc 3 1, 3) := dw_at cX7_markParts_k5 (p := 9) rfl (by decide +kernel)
theorem dcX7_markParts_134 : decode cX7_markParts 134 = .ok (.aload_n 0, 1) := dw_at cX7_markParts_k5 (p := 12) rfl (by decide +kernel)
theorem dcX7_markParts_135 : decode cX7_markParts 135 = .ok (.getfield 27, 3) := dw_at cX7_markParts_k5 (p := 13) rfl (by decide +kernel)
theorem dcX7_markParts_138 : decode cX7_markParts 138 = .ok (.iload 6, 2) := dw_at cX7_markParts_k5 (p := 16) rfl (by decide +kernel)
theorem dcX7_markParts_140 : decode cX7_markParts 140 = .ok (.iaload, 1) := dw_at cX7_markParts_k5 (p := 18) rfl (by decide +kernel)
theorem dcX7_markParts_141 : decode cX7_markParts 141 = .ok (.iconst (-1), 1) := dw_at cX7_markParts_k5 (p := 19) rfl (by decide +kernel)
theorem dcX7_markParts_142 : decode cX7_markParts 142 = .ok (.if_icmp .ne 25, 3) := dw_at cX7_markParts_k5 (p := 20) rfl (by decide +kernel)
theorem dcX7_markParts_145 : decode cX7_markParts 145 = .ok (.aload_n 0, 1) := dw_at cX7_markParts_k5 (p := 23) rfl (by decide +kernel)
theorem dcX7_markParts_146 : decode cX7_markParts 146 = .ok (.getfield 27, 3) := dw_at cX7_markParts_k6 (p := 0) rfl (by decide +kernel)
theorem dcX7_markParts_149 : decode cX7_markParts 149 = .ok (.iload 6, 2) := dw_at cX7_markParts_k6 (p := 3) rfl (by decide +kernel)
theorem dcX7_markParts_151 : decode cX7_markParts 151 = .ok (.aload_n 0, 1) := dw_at cX7_markParts_k6 (p := 5) rfl (by decide +kernel)
theorem dcX7_markParts_152 : decode cX7_markParts 152 = .ok (.getfield 90, 3) := dw_at cX7_markParts_k6 (p := 6) rfl (by decide +kernel)
theorem dcX7_markParts_155 : decode cX7_markParts 155 = .ok (.iastore, 1) := dw_at cX7_markParts_k6 (p := 9) rfl (by decide +kernel)
theorem dcX7_markParts_156 : decode cX7_markParts 156 = .ok (.aload_n 0, 1) := dw_at cX7_markParts_k6 (p := 10) rfl (by decide +kernel)
theorem dcX7_markParts_157 : decode cX7_markParts 157 = .ok (.getfield 30, 3) := dw_at cX7_markParts_k6 (p := 11) rfl (by decide +kernel)
theorem dcX7_markParts_160 : decode cX7_markParts 160 = .ok (.iload_n 3, 1) := dw_at cX7_markParts_k6 (p := 14) rfl (by decide +kernel)
theorem dcX7_markParts_161 : decode cX7_markParts 161 = .ok (.iload 6, 2) := dw_at cX7_markParts_k6 (p := 15) rfl (by decide +kernel)
theorem dcX7_markParts_163 : decode cX7_markParts 163 = .ok (.iastore, 1) := dw_at cX7_markParts_k6 (p := 17) rfl (by decide +kernel)
theorem dcX7_markParts_164 : decode cX7_markParts 164 = .ok (.iinc 3 1, 3) := dw_at cX7_markParts_k6 (p := 18) rfl (by decide +kernel)
theorem dcX7_markParts_167 : decode cX7_markParts 167 = .ok (.iinc 4 1, 3) := dw_at cX7_markParts_k6 (p := 21) rfl (by decide +kernel)
theorem dcX7_markParts_170 : decode cX7_markParts 170 = .ok (.goto (-106), 3) := dw_at cX7_markParts_k7 (p := 0) rfl (by decide +kernel)
theorem dcX7_markParts_173 : decode cX7_markParts 173 = .ok (.aload_n 0, 1) := dw_at cX7_markParts_k7 (p := 3) rfl (by decide +kernel)
theorem dcX7_markParts_174 : decode cX7_markParts 174 = .ok (.dup, 1) := dw_at cX7_markParts_k7 (p := 4) rfl (by decide +kernel)
theorem dcX7_markParts_175 : decode cX7_markParts 175 = .ok (.getfield 90, 3) := dw_at cX7_markParts_k7 (p := 5) rfl (by decide +kernel)
theorem dcX7_markParts_178 : decode cX7_markParts 178 = .ok (.iconst 1, 1) := dw_at cX7_markParts_k7 (p := 8) rfl (by decide +kernel)
theorem dcX7_markParts_179 : decode cX7_markParts 179 = .ok (.iadd, 1) := dw_at cX7_markParts_k7 (p := 9) rfl (by decide +kernel)
theorem dcX7_markParts_180 : decode cX7_markParts 180 = .ok (.putfield 90, 3) := dw_at cX7_markParts_k7 (p := 10) rfl (by decide +kernel)
theorem dcX7_markParts_183 : decode cX7_markParts 183 = .ok (.iinc 2 1, 3) := dw_at cX7_markParts_k7 (p := 13) rfl (by decide +kernel)
theorem dcX7_markParts_186 : decode cX7_markParts 186 = .ok (.goto (-162), 3) := dw_at cX7_markParts_k7 (p := 16) rfl (by decide +kernel)
theorem dcX7_markParts_189 : decode cX7_markParts 189 = .ok (.return_, 1) := dw_at cX7_markParts_k7 (p := 19) rfl (by decide +kernel)
def cm_X7_markParts_0 (vl : Nat → Nat) (K : Nat) (go : Nat → Int32 → Int32 → Int32 → Int32 → Int32 → Int32 → Nat → ow_MS → Option ow_MS) (x1 : Int32) (x2 : Int32) (x3 : Int32) (x4 : Int32) (x5 : Int32) (x6 : Int32) (r0 : Nat) (z : ow_MS) : Option ow_MS :=
 rdF z (r0 + 8) fun v1 => cs0 (ce_J7_fill_fda19 vl K (r0 + 6) 0 (2 * v1) (-1) z) fun z2 => wrF z2 (r0 + 11) 0 fun z3 => go 1 (2 * v1) 0 0 0 0 0 r0 z3
def cm_X7_markParts_1 (vl : Nat → Nat) (K : Nat) (go : Nat → Int32 → Int32 → Int32 → Int32 → Int32 → Int32 → Nat → ow_MS → Option ow_MS) (x1 : Int32) (x2 : Int32) (x3 : Int32) (x4 : Int32) (x5 : Int32) (x6 : Int32) (r0 : Nat) (z : ow_MS) : Option ow_MS :=
 (if x1 ≤ x2 then some z
 else crI (cX vl) z (r0 + 6) x2 fun v4 => (if v4 = (-1) then ctI (cX vl) z (r0 + 7) 0 x2 fun z5 => rdF z5 (r0 + 11) fun v6 => ctI (cX vl) z5 (r0 + 6) x2 v6 fun z7 => go 2 x1 x2 1 0 0 0 r0 z7
 else go 6 x1 x2 0 0 0 0 r0 z))
def cm_X7_markParts_2 (vl : Nat → Nat) (K : Nat) (go : Nat → Int32 → Int32 → Int32 → Int32 → Int32 → Int32 → Nat → ow_MS → Option ow_MS) (x1 : Int32) (x2 : Int32) (x3 : Int32) (x4 : Int32) (x5 : Int32) (x6 : Int32) (r0 : Nat) (z : ow_MS) : Option ow_MS :=
 (if x3 ≤ x4 then go 5 x1 x2 x3 x4 0 0 r0 z
 else (if x1 ≤ x4 then go 5 x1 x2 x3 x4 0 0 r0 z
 else crI (cX vl) z (r0 + 7) x4 fun v8 => crI (cX vl) z (r0 + 1) v8 fun v9 => crI (cX vl) z (r0 + 7) x4 fun v10 => crI (cX vl) z (r0 + 6) v9 fun v11 => (if v11 = (-1) then rdF z (r0 + 11) fun v12 => ctI (cX vl) z (r0 + 6) v9 v12 fun z13 => ctI (cX vl) z13 (r0 + 7) x3 v9 fun z14 => go 3 x1 x2 (x3 + 1) x4 v9 (v10 ^^^ 1) r0 z14
 else go 3 x1 x2 x3 x4 v9 (v10 ^^^ 1) r0 z)))
def cm_X7_markParts_3 (vl : Nat → Nat) (K : Nat) (go : Nat → Int32 → Int32 → Int32 → Int32 → Int32 → Int32 → Nat → ow_MS → Option ow_MS) (x1 : Int32) (x2 : Int32) (x3 : Int32) (x4 : Int32) (x5 : Int32) (x6 : Int32) (r0 : Nat) (z : ow_MS) : Option ow_MS :=
 crI (cX vl) z (r0 + 6) x6 fun v15 => (if v15 = (-1) then rdF z (r0 + 11) fun v16 => ctI (cX vl) z (r0 + 6) x6 v16 fun z17 => ctI (cX vl) z17 (r0 + 7) x3 x6 fun z18 => go 4 x1 x2 (x3 + 1) x4 x5 x6 r0 z18
 else go 4 x1 x2 x3 x4 x5 x6 r0 z)
def cm_X7_markParts_4 (vl : Nat → Nat) (K : Nat) (go : Nat → Int32 → Int32 → Int32 → Int32 → Int32 → Int32 → Nat → ow_MS → Option ow_MS) (x1 : Int32) (x2 : Int32) (x3 : Int32) (x4 : Int32) (x5 : Int32) (x6 : Int32) (r0 : Nat) (z : ow_MS) : Option ow_MS :=
 go 2 x1 x2 x3 (x4 + 1) 0 0 r0 z
def cm_X7_markParts_5 (vl : Nat → Nat) (K : Nat) (go : Nat → Int32 → Int32 → Int32 → Int32 → Int32 → Int32 → Nat → ow_MS → Option ow_MS) (x1 : Int32) (x2 : Int32) (x3 : Int32) (x4 : Int32) (x5 : Int32) (x6 : Int32) (r0 : Nat) (z : ow_MS) : Option ow_MS :=
 rdF z (r0 + 11) fun v19 => wrF z (r0 + 11) (v19 + 1) fun z20 => go 6 x1 x2 0 0 0 0 r0 z20
def cm_X7_markParts_6 (vl : Nat → Nat) (K : Nat) (go : Nat → Int32 → Int32 → Int32 → Int32 → Int32 → Int32 → Nat → ow_MS → Option ow_MS) (x1 : Int32) (x2 : Int32) (x3 : Int32) (x4 : Int32) (x5 : Int32) (x6 : Int32) (r0 : Nat) (z : ow_MS) : Option ow_MS :=
 go 1 x1 (x2 + 1) 0 0 0 0 r0 z
def cb_X7_markParts (vl : Nat → Nat) (K : Nat) (go : Nat → Int32 → Int32 → Int32 → Int32 → Int32 → Int32 → Nat → ow_MS → Option ow_MS) (L : Nat) (x1 : Int32) (x2 : Int32) (x3 : Int32) (x4 : Int32) (x5 : Int32) (x6 : Int32) (r0 : Nat) (z : ow_MS) : Option ow_MS := match L with
  | 0 => cm_X7_markParts_0 vl K go x1 x2 x3 x4 x5 x6 r0 z
  | 1 => cm_X7_markParts_1 vl K go x1 x2 x3 x4 x5 x6 r0 z
  | 2 => cm_X7_markParts_2 vl K go x1 x2 x3 x4 x5 x6 r0 z
  | 3 => cm_X7_markParts_3 vl K go x1 x2 x3 x4 x5 x6 r0 z
  | 4 => cm_X7_markParts_4 vl K go x1 x2 x3 x4 x5 x6 r0 z
  | 5 => cm_X7_markParts_5 vl K go x1 x2 x3 x4 x5 x6 r0 z
  | 6 => cm_X7_markParts_6 vl K go x1 x2 x3 x4 x5 x6 r0 z
  | _ => none
def c_X7_markParts (vl : Nat → Nat) (K : Nat) : Nat → Nat → Int32 → Int32 → Int32 → Int32 → Int32 → Int32 → Nat → ow_MS → Option ow_MS
  | 0 => fun _ _ _ _ _ _ _ _ _ => none
  | k + 1 => cb_X7_markParts vl K (c_X7_markParts vl K k)
def ce_X7_markParts (vl : Nat → Nat) (K : Nat) (r0 : Nat) (z : ow_MS) : Option ow_MS := c_X7_markParts vl K K 0 0 0 0 0 0 0 r0 z
abbrev wc_X7_markParts : List Cond := .code yX7_markParts cX7_markParts 7 none :: wC
theorem cdd_X7_markParts : yX7_markParts.cls = RX7 ∧ yX7_markParts.cls ≠ "java/lang/invoke/MethodHandle" ∧ yX7_markParts.cls ≠ "java/lang/invoke/VarHandle" ∧ (parseMethodDescriptor yX7_markParts.desc).map (fun d => d.parameters.length) = some 0 := by decide +kernel
set_option maxHeartbeats 4000000 in
set_option maxRecDepth 100000 in
theorem kc_X7_markParts (l : Launch) (D : va_G) (q : Nat → ClassId) (vl u : Nat → Nat) (hU0 : tw_inj (cX vl) u) (K : Nat) (r0 : Nat) (hr0 : cw_X7 r0) (z z1 : ow_MS) (hq : ce_X7_markParts vl K r0 z = some z1) : Met l yX7_markParts wc_X7_markParts ({ frames := 2, cells := 0, slots := 0, locals := 46 } : Room) (va_Pc [.ref (u r0)] (cw_pre D q vl u z)) (va_Qv (fun (_ : Unit) => True) (fun _ t => va_P D vwCl (uw (cX vl) q u z1) t.heap) (tw_A (cX vl) u)) 0 0 (tw_A (cX vl) u) := by
  refine Met.ofW (cc := cX7_markParts) (maxL := 7) (ret := none) (by decide) rfl ?_
  intro p e s m args below meth c s₁ B hml hv
  obtain ⟨rfl, hP, hK⟩ := hv
  have hx := B.exec
  have hb := B.bytes
  have hr := B.returns
  have hts := atoms_spec (ws := wc_X7_markParts) B.pre
  have hT : ∀ w ∈ wC, w.before ([.ref (u r0)] : List Value).toArray s = true := fun w h => hts w (List.mem_cons_of_mem _ h)
  have hown : s.vm.findClass RX7 = some m.cls := findClass_of_methodNamed B.named
  have hlocks := B.notSynchronized
  have hU : uw_inj (cX vl) u (tw_A (cX vl) u) := ⟨hU0, fun h hh => ⟨h, hh, rfl⟩⟩
  have hM : uw_M D vwCl (cX vl) q (tw_A (cX vl) u) s.heap u z s.heap [] := ⟨hP, va_S.rf⟩
  have hl := lv_entry ([.ref (u r0)]) (n := 7) (Nat.le_of_ble_eq_true rfl)
  rw [lg_entry_eq]
  generalize (lg_sl ([.ref (u r0)]) ++ List.replicate (7 - (lg_sl ([.ref (u r0)])).length) Slot.unset).toArray = ls at hl ⊢
  have hl : lv_has ls 7 [(0, .ref (u r0))] := hl
  refine ow_named (fun QQ hQQ => ?_)
  generalize ([.ref (u r0)] : List Value).toArray = args at hts hT hQQ ⊢
  have key : ∀ k : Nat, (∀ (x1 : Int32) (x2 : Int32) (x3 : Int32) (x4 : Int32) (x5 : Int32) (x6 : Int32) (r0 : Nat) (z : ow_MS) (H : Heap) (locs : List Loc) (ls : Array Slot), cw_X7 r0 → uw_M D vwCl (cX vl) q (tw_A (cX vl) u) s.heap u z H locs → lv_has ls 7 [(0, .ref (u r0))] → c_X7_markParts vl K k 0 x1 x2 x3 x4 x5 x6 r0 z = some z1 → W p l e ({ frames := 2, cells := 0, slots := 0, locals := 46 } : Room) s m args below meth c H locs 0 0 QQ (F0 m 0 ls [])) ∧ (∀ (x1 : Int32) (x2 : Int32) (x3 : Int32) (x4 : Int32) (x5 : Int32) (x6 : Int32) (r0 : Nat) (z : ow_MS) (H : Heap) (locs : List Loc) (ls : Array Slot), cw_X7 r0 → uw_M D vwCl (cX vl) q (tw_A (cX vl) u) s.heap u z H locs → lv_has ls 7 [(0, .ref (u r0)), (1, .int x1), (2, .int x2)] → c_X7_markParts vl K k 1 x1 x2 x3 x4 x5 x6 r0 z = some z1 → W p l e ({ frames := 2, cells := 0, slots := 0, locals := 46 } : Room) s m args below meth c H locs 0 0 QQ (F0 m 24 ls [])) ∧ (∀ (x1 : Int32) (x2 : Int32) (x3 : Int32) (x4 : Int32) (x5 : Int32) (x6 : Int32) (r0 : Nat) (z : ow_MS) (H : Heap) (locs : List Loc) (ls : Array Slot), cw_X7 r0 → uw_M D vwCl (cX vl) q (tw_A (cX vl) u) s.heap u z H locs → lv_has ls 7 [(0, .ref (u r0)), (1, .int x1), (2, .int x2), (3, .int x3), (4, .int x4)] → c_X7_markParts vl K k 2 x1 x2 x3 x4 x5 x6 r0 z = some z1 → W p l e ({ frames := 2, cells := 0, slots := 0, locals := 46 } : Room) s m args below meth c H locs 0 0 QQ (F0 m 64 ls [])) ∧ (∀ (x1 : Int32) (x2 : Int32) (x3 : Int32) (x4 : Int32) (x5 : Int32) (x6 : Int32) (r0 : Nat) (z : ow_MS) (H : Heap) (locs : List Loc) (ls : Array Slot), cw_X7 r0 → uw_M D vwCl (cX vl) q (tw_A (cX vl) u) s.heap u z H locs → lv_has ls 7 [(0, .ref (u r0)), (1, .int x1), (2, .int x2), (3, .int x3), (4, .int x4), (5, .int x5), (6, .int x6)] → c_X7_markParts vl K k 3 x1 x2 x3 x4 x5 x6 r0 z = some z1 → W p l e ({ frames := 2, cells := 0, slots := 0, locals := 46 } : Room) s m args below meth c H locs 0 0 QQ (F0 m 134 ls [])) ∧ (∀ (x1 : Int32) (x2 : Int32) (x3 : Int32) (x4 : Int32) (x5 : Int32) (x6 : Int32) (r0 : Nat) (z : ow_MS) (H : Heap) (locs : List Loc) (ls : Array Slot), cw_X7 r0 → uw_M D vwCl (cX vl) q (tw_A (cX vl) u) s.heap u z H locs → lv_has ls 7 [(0, .ref (u r0)), (1, .int x1), (2, .int x2), (3, .int x3), (4, .int x4), (5, .int x5), (6, .int x6)] → c_X7_markParts vl K k 4 x1 x2 x3 x4 x5 x6 r0 z = some z1 → W p l e ({ frames := 2, cells := 0, slots := 0, locals := 46 } : Room) s m args below meth c H locs 0 0 QQ (F0 m 167 ls [])) ∧ (∀ (x1 : Int32) (x2 : Int32) (x3 : Int32) (x4 : Int32) (x5 : Int32) (x6 : Int32) (r0 : Nat) (z : ow_MS) (H : Heap) (locs : List Loc) (ls : Array Slot), cw_X7 r0 → uw_M D vwCl (cX vl) q (tw_A (cX vl) u) s.heap u z H locs → lv_has ls 7 [(0, .ref (u r0)), (1, .int x1), (2, .int x2), (3, .int x3), (4, .int x4)] → c_X7_markParts vl K k 5 x1 x2 x3 x4 x5 x6 r0 z = some z1 → W p l e ({ frames := 2, cells := 0, slots := 0, locals := 46 } : Room) s m args below meth c H locs 0 0 QQ (F0 m 173 ls [])) ∧ (∀ (x1 : Int32) (x2 : Int32) (x3 : Int32) (x4 : Int32) (x5 : Int32) (x6 : Int32) (r0 : Nat) (z : ow_MS) (H : Heap) (locs : List Loc) (ls : Array Slot), cw_X7 r0 → uw_M D vwCl (cX vl) q (tw_A (cX vl) u) s.heap u z H locs → lv_has ls 7 [(0, .ref (u r0)), (1, .int x1), (2, .int x2)] → c_X7_markParts vl K k 6 x1 x2 x3 x4 x5 x6 r0 z = some z1 → W p l e ({ frames := 2, cells := 0, slots := 0, locals := 46 } : Room) s m args below meth c H locs 0 0 QQ (F0 m 183 ls [])) := by
    intro k
    induction k with
    | zero => exact ⟨fun _ _ _ _ _ _ _ _ _ _ _ _ _ _ hq => cw_no hq, fun _ _ _ _ _ _ _ _ _ _ _ _ _ _ hq => cw_no hq, fun _ _ _ _ _ _ _ _ _ _ _ _ _ _ hq => cw_no hq, fun _ _ _ _ _ _ _ _ _ _ _ _ _ _ hq => cw_no hq, fun _ _ _ _ _ _ _ _ _ _ _ _ _ _ hq => cw_no hq, fun _ _ _ _ _ _ _ _ _ _ _ _ _ _ hq => cw_no hq, fun _ _ _ _ _ _ _ _ _ _ _ _ _ _ hq => cw_no hq⟩
    | succ k ih =>
      obtain ⟨ih_0, ih_1, ih_2, ih_3, ih_4, ih_5, ih_6⟩ := ih
      refine ⟨?_, ?_, ?_, ?_, ?_, ?_, ?_⟩
      · intro x1 x2 x3 x4 x5 x6 r0 z H locs ls hr0 hM hl hq
        have hq : cm_X7_markParts_0 vl K (c_X7_markParts vl K k) x1 x2 x3 x4 x5 x6 r0 z = some z1 := hq
        unfold cm_X7_markParts_0 at hq
        refine lv_iconst (v := 2) hx hb dcX7_markParts_0 (by decide) ?_
        refine lv_aload_n hx hb dcX7_markParts_1 rfl (lv_at hl 0 rfl) ?_
        refine vgX7_39 hx hb hT hown hK hM hr0 hq dcX7_markParts_2 (fun v1 hq => ?_)
        refine lv_imul hx hb dcX7_markParts_5 ?_
        refine lv_istore_n (lv' := [(1, .int (2 * v1)), (0, .ref (u r0))]) hx hb dcX7_markParts_6 rfl hl (by decide) rfl (fun ls hl => ?_)
        refine lv_aload_n hx hb dcX7_markParts_7 rfl (lv_at hl 1 rfl) ?_
        refine vgX7_27 hx hb hT hown hK hM hr0 dcX7_markParts_8 ?_
        refine lv_iconst (v := 0) hx hb dcX7_markParts_11 (by decide) ?_
        refine lv_iload_n hx hb dcX7_markParts_12 rfl (lv_at hl 0 rfl) ?_
        refine lv_iconst (v := (-1)) hx hb dcX7_markParts_13 (by decide) ?_
        obtain ⟨z2, hcq, hq⟩ := tw_cl0 hq
        refine uw_calv hU hM (va_runS (As := [.ref (u (r0 + 6)), .int 0, .int (2 * v1), .int (-1)]) (rest := []) ⟨hx, hb, hml, hown, hts⟩ (kc_J7_fill_fda19 l D q vl u hU.1 K (r0 + 6) 0 (2 * v1) (-1) (cr_X7_5 hr0) z z2 hcq) (va_cwS 4 hts (tw_gS wC_good xq_61 xq_62 xq_9 xq_63) rfl rfl rfl cdd_J7_fill_fda19 ⟨(Nat.le_of_ble_eq_true rfl), (Nat.le_of_ble_eq_true rfl)⟩) (cw_preS hK hM) rfl rfl hl.1 rfl (lv_room (Nat.le_of_ble_eq_true rfl)) dcX7_markParts_14 ⟨(Nat.le_of_ble_eq_true rfl), (Nat.le_of_ble_eq_true rfl)⟩) (fun H locs hM => ?_)
        refine lv_aload_n hx hb dcX7_markParts_17 rfl (lv_at hl 1 rfl) ?_
        refine lv_iconst (v := 0) hx hb dcX7_markParts_18 (by decide) ?_
        refine vpX7_90 hx hb hT hown hK hM hU hr0 hq dcX7_markParts_19 (fun z3 H locs hM hq => ?_)
        refine lv_iconst (v := 0) hx hb dcX7_markParts_22 (by decide) ?_
        refine lv_istore_n (lv' := [(2, .int 0), (1, .int (2 * v1)), (0, .ref (u r0))]) hx hb dcX7_markParts_23 rfl hl (by decide) rfl (fun ls hl => ?_)
        exact ih_1 (2 * v1) 0 0 0 0 0 r0 z3 H locs ls hr0 hM (lv_sub hl [2, 1, 0] rfl) hq
      · intro x1 x2 x3 x4 x5 x6 r0 z H locs ls hr0 hM hl hq
        have hq : cm_X7_markParts_1 vl K (c_X7_markParts vl K k) x1 x2 x3 x4 x5 x6 r0 z = some z1 := hq
        unfold cm_X7_markParts_1 at hq
        refine lv_iload_n hx hb dcX7_markParts_24 rfl (lv_at hl 2 rfl) ?_
        refine lv_iload_n hx hb dcX7_markParts_25 rfl (lv_at hl 1 rfl) ?_
        refine lv_icmp_ge (tgt := 189) hx hb dcX7_markParts_26 (by decide) (fun hc => ?_) (fun hc => ?_)
        · have hq := tw_it hq hc
          exact cw_vret hx hb hr hlocks hM hq hQQ dcX7_markParts_189
        · have hq := tw_if hq hc
          refine lv_aload_n hx hb dcX7_markParts_29 rfl (lv_at hl 0 rfl) ?_
          refine vgX7_27 hx hb hT hown hK hM hr0 dcX7_markParts_30 ?_
          refine lv_iload_n hx hb dcX7_markParts_33 rfl (lv_at hl 2 rfl) ?_
          refine uw_iald cX_ok hx hb hK hM (cr_X7_5 hr0) hq dcX7_markParts_34 (fun v4 hq => ?_)
          refine lv_iconst (v := (-1)) hx hb dcX7_markParts_35 (by decide) ?_
          refine lv_icmp_eq (tgt := 42) hx hb dcX7_markParts_36 (by decide) (fun hc => ?_) (fun hc => ?_)
          · have hq := tw_it hq hc
            refine lv_iconst (v := 1) hx hb dcX7_markParts_42 (by decide) ?_
            refine lv_istore_n (lv' := [(3, .int 1), (0, .ref (u r0)), (1, .int x1), (2, .int x2)]) hx hb dcX7_markParts_43 rfl hl (by decide) rfl (fun ls hl => ?_)
            refine lv_aload_n hx hb dcX7_markParts_44 rfl (lv_at hl 1 rfl) ?_
            refine vgX7_30 hx hb hT hown hK hM hr0 dcX7_markParts_45 ?_
            refine lv_iconst (v := 0) hx hb dcX7_markParts_48 (by decide) ?_
            refine lv_iload_n hx hb dcX7_markParts_49 rfl (lv_at hl 3 rfl) ?_
            refine uw_iast cX_ok hU hx hb hK hM (cr_X7_6 hr0) hq dcX7_markParts_50 (fun z5 H locs hM hq => ?_)
            refine lv_aload_n hx hb dcX7_markParts_51 rfl (lv_at hl 1 rfl) ?_
            refine vgX7_27 hx hb hT hown hK hM hr0 dcX7_markParts_52 ?_
            refine lv_iload_n hx hb dcX7_markParts_55 rfl (lv_at hl 3 rfl) ?_
            refine lv_aload_n hx hb dcX7_markParts_56 rfl (lv_at hl 1 rfl) ?_
            refine vgX7_90 hx hb hT hown hK hM hr0 hq dcX7_markParts_57 (fun v6 hq => ?_)
            refine uw_iast cX_ok hU hx hb hK hM (cr_X7_5 hr0) hq dcX7_markParts_60 (fun z7 H locs hM hq => ?_)
            refine lv_iconst (v := 0) hx hb dcX7_markParts_61 (by decide) ?_
            refine lv_istore (lv' := [(4, .int 0), (3, .int 1), (0, .ref (u r0)), (1, .int x1), (2, .int x2)]) hx hb dcX7_markParts_62 hl (by decide) rfl (fun ls hl => ?_)
            exact ih_2 x1 x2 1 0 0 0 r0 z7 H locs ls hr0 hM (lv_sub hl [2, 3, 4, 1, 0] rfl) hq
          · have hq := tw_if hq hc
            refine lv_goto (tgt := 183) hx hb dcX7_markParts_39 (by decide) ?_
            exact ih_6 x1 x2 0 0 0 0 r0 z H locs ls hr0 hM (lv_sub hl [0, 1, 2] rfl) hq
      · intro x1 x2 x3 x4 x5 x6 r0 z H locs ls hr0 hM hl hq
        have hq : cm_X7_markParts_2 vl K (c_X7_markParts vl K k) x1 x2 x3 x4 x5 x6 r0 z = some z1 := hq
        unfold cm_X7_markParts_2 at hq
        refine lv_iload hx hb dcX7_markParts_64 (lv_at hl 4 rfl) ?_
        refine lv_iload_n hx hb dcX7_markParts_66 rfl (lv_at hl 3 rfl) ?_
        refine lv_icmp_ge (tgt := 173) hx hb dcX7_markParts_67 (by decide) (fun hc => ?_) (fun hc => ?_)
        · have hq := tw_it hq hc
          exact ih_5 x1 x2 x3 x4 0 0 r0 z H locs ls hr0 hM (lv_sub hl [0, 1, 2, 3, 4] rfl) hq
        · have hq := tw_if hq hc
          refine lv_iload hx hb dcX7_markParts_70 (lv_at hl 4 rfl) ?_
          refine lv_iload_n hx hb dcX7_markParts_72 rfl (lv_at hl 1 rfl) ?_
          refine lv_icmp_ge (tgt := 173) hx hb dcX7_markParts_73 (by decide) (fun hc => ?_) (fun hc => ?_)
          · have hq := tw_it hq hc
            exact ih_5 x1 x2 x3 x4 0 0 r0 z H locs ls hr0 hM (lv_sub hl [0, 1, 2, 3, 4] rfl) hq
          · have hq := tw_if hq hc
            refine lv_aload_n hx hb dcX7_markParts_76 rfl (lv_at hl 0 rfl) ?_
            refine vgX7_9 hx hb hT hown hK hM hr0 dcX7_markParts_77 ?_
            refine lv_aload_n hx hb dcX7_markParts_80 rfl (lv_at hl 0 rfl) ?_
            refine vgX7_30 hx hb hT hown hK hM hr0 dcX7_markParts_81 ?_
            refine lv_iload hx hb dcX7_markParts_84 (lv_at hl 4 rfl) ?_
            refine uw_iald cX_ok hx hb hK hM (cr_X7_6 hr0) hq dcX7_markParts_86 (fun v8 hq => ?_)
            refine uw_iald cX_ok hx hb hK hM (cr_X7_0 hr0) hq dcX7_markParts_87 (fun v9 hq => ?_)
            refine lv_istore (lv' := [(5, .int v9), (0, .ref (u r0)), (1, .int x1), (2, .int x2), (3, .int x3), (4, .int x4)]) hx hb dcX7_markParts_88 hl (by decide) rfl (fun ls hl => ?_)
            refine lv_aload_n hx hb dcX7_markParts_90 rfl (lv_at hl 1 rfl) ?_
            refine vgX7_30 hx hb hT hown hK hM hr0 dcX7_markParts_91 ?_
            refine lv_iload hx hb dcX7_markParts_94 (lv_at hl 5 rfl) ?_
            refine uw_iald cX_ok hx hb hK hM (cr_X7_6 hr0) hq dcX7_markParts_96 (fun v10 hq => ?_)
            refine lv_iconst (v := 1) hx hb dcX7_markParts_97 (by decide) ?_
            refine lv_ixor hx hb dcX7_markParts_98 ?_
            refine lv_istore (lv' := [(6, .int (v10 ^^^ 1)), (5, .int v9), (0, .ref (u r0)), (1, .int x1), (2, .int x2), (3, .int x3), (4, .int x4)]) hx hb dcX7_markParts_99 hl (by decide) rfl (fun ls hl => ?_)
            refine lv_aload_n hx hb dcX7_markParts_101 rfl (lv_at hl 2 rfl) ?_
            refine vgX7_27 hx hb hT hown hK hM hr0 dcX7_markParts_102 ?_
            refine lv_iload hx hb dcX7_markParts_105 (lv_at hl 1 rfl) ?_
            refine uw_iald cX_ok hx hb hK hM (cr_X7_5 hr0) hq dcX7_markParts_107 (fun v11 hq => ?_)
            refine lv_iconst (v := (-1)) hx hb dcX7_markParts_108 (by decide) ?_
            refine lv_icmp_ne (tgt := 134) hx hb dcX7_markParts_109 (by decide) (fun hc => ?_) (fun hc => ?_)
            · have hq := tw_if hq hc
              exact ih_3 x1 x2 x3 x4 v9 (v10 ^^^ 1) r0 z H locs ls hr0 hM (lv_sub hl [2, 3, 4, 5, 6, 1, 0] rfl) hq
            · have hq := tw_it hq hc
              refine lv_aload_n hx hb dcX7_markParts_112 rfl (lv_at hl 2 rfl) ?_
              refine vgX7_27 hx hb hT hown hK hM hr0 dcX7_markParts_113 ?_
              refine lv_iload hx hb dcX7_markParts_116 (lv_at hl 1 rfl) ?_
              refine lv_aload_n hx hb dcX7_markParts_118 rfl (lv_at hl 2 rfl) ?_
              refine vgX7_90 hx hb hT hown hK hM hr0 hq dcX7_markParts_119 (fun v12 hq => ?_)
              refine uw_iast cX_ok hU hx hb hK hM (cr_X7_5 hr0) hq dcX7_markParts_122 (fun z13 H locs hM hq => ?_)
              refine lv_aload_n hx hb dcX7_markParts_123 rfl (lv_at hl 2 rfl) ?_
              refine vgX7_30 hx hb hT hown hK hM hr0 dcX7_markParts_124 ?_
              refine lv_iload_n hx hb dcX7_markParts_127 rfl (lv_at hl 5 rfl) ?_
              refine lv_iload hx hb dcX7_markParts_128 (lv_at hl 1 rfl) ?_
              refine uw_iast cX_ok hU hx hb hK hM (cr_X7_6 hr0) hq dcX7_markParts_130 (fun z14 H locs hM hq => ?_)
              refine lv_iinc (v := (x3 + 1)) (lv' := [(3, .int (x3 + 1)), (6, .int (v10 ^^^ 1)), (5, .int v9), (0, .ref (u r0)), (1, .int x1), (2, .int x2), (4, .int x4)]) hx hb dcX7_markParts_131 hl (k := 5) rfl rfl (by decide) rfl (fun ls hl => ?_)
              exact ih_3 x1 x2 (x3 + 1) x4 v9 (v10 ^^^ 1) r0 z14 H locs ls hr0 hM (lv_sub hl [3, 4, 5, 0, 6, 2, 1] rfl) hq
      · intro x1 x2 x3 x4 x5 x6 r0 z H locs ls hr0 hM hl hq
        have hq : cm_X7_markParts_3 vl K (c_X7_markParts vl K k) x1 x2 x3 x4 x5 x6 r0 z = some z1 := hq
        unfold cm_X7_markParts_3 at hq
        refine lv_aload_n hx hb dcX7_markParts_134 rfl (lv_at hl 0 rfl) ?_
        refine vgX7_27 hx hb hT hown hK hM hr0 dcX7_markParts_135 ?_
        refine lv_iload hx hb dcX7_markParts_138 (lv_at hl 6 rfl) ?_
        refine uw_iald cX_ok hx hb hK hM (cr_X7_5 hr0) hq dcX7_markParts_140 (fun v15 hq => ?_)
        refine lv_iconst (v := (-1)) hx hb dcX7_markParts_141 (by decide) ?_
        refine lv_icmp_ne (tgt := 167) hx hb dcX7_markParts_142 (by decide) (fun hc => ?_) (fun hc => ?_)
        · have hq := tw_if hq hc
          exact ih_4 x1 x2 x3 x4 x5 x6 r0 z H locs ls hr0 hM (lv_sub hl [0, 1, 2, 3, 4, 5, 6] rfl) hq
        · have hq := tw_it hq hc
          refine lv_aload_n hx hb dcX7_markParts_145 rfl (lv_at hl 0 rfl) ?_
          refine vgX7_27 hx hb hT hown hK hM hr0 dcX7_markParts_146 ?_
          refine lv_iload hx hb dcX7_markParts_149 (lv_at hl 6 rfl) ?_
          refine lv_aload_n hx hb dcX7_markParts_151 rfl (lv_at hl 0 rfl) ?_
          refine vgX7_90 hx hb hT hown hK hM hr0 hq dcX7_markParts_152 (fun v16 hq => ?_)
          refine uw_iast cX_ok hU hx hb hK hM (cr_X7_5 hr0) hq dcX7_markParts_155 (fun z17 H locs hM hq => ?_)
          refine lv_aload_n hx hb dcX7_markParts_156 rfl (lv_at hl 0 rfl) ?_
          refine vgX7_30 hx hb hT hown hK hM hr0 dcX7_markParts_157 ?_
          refine lv_iload_n hx hb dcX7_markParts_160 rfl (lv_at hl 3 rfl) ?_
          refine lv_iload hx hb dcX7_markParts_161 (lv_at hl 6 rfl) ?_
          refine uw_iast cX_ok hU hx hb hK hM (cr_X7_6 hr0) hq dcX7_markParts_163 (fun z18 H locs hM hq => ?_)
          refine lv_iinc (v := (x3 + 1)) (lv' := [(3, .int (x3 + 1)), (0, .ref (u r0)), (1, .int x1), (2, .int x2), (4, .int x4), (5, .int x5), (6, .int x6)]) hx hb dcX7_markParts_164 hl (k := 3) rfl rfl (by decide) rfl (fun ls hl => ?_)
          exact ih_4 x1 x2 (x3 + 1) x4 x5 x6 r0 z18 H locs ls hr0 hM (lv_sub hl [1, 2, 3, 0, 4, 5, 6] rfl) hq
      · intro x1 x2 x3 x4 x5 x6 r0 z H locs ls hr0 hM hl hq
        have hq : cm_X7_markParts_4 vl K (c_X7_markParts vl K k) x1 x2 x3 x4 x5 x6 r0 z = some z1 := hq
        unfold cm_X7_markParts_4 at hq
        refine lv_iinc (v := (x4 + 1)) (lv' := [(4, .int (x4 + 1)), (0, .ref (u r0)), (1, .int x1), (2, .int x2), (3, .int x3), (5, .int x5), (6, .int x6)]) hx hb dcX7_markParts_167 hl (k := 4) rfl rfl (by decide) rfl (fun ls hl => ?_)
        refine lv_goto (tgt := 64) hx hb dcX7_markParts_170 (by decide) ?_
        exact ih_2 x1 x2 x3 (x4 + 1) 0 0 r0 z H locs ls hr0 hM (lv_sub hl [1, 2, 3, 4, 0] rfl) hq
      · intro x1 x2 x3 x4 x5 x6 r0 z H locs ls hr0 hM hl hq
        have hq : cm_X7_markParts_5 vl K (c_X7_markParts vl K k) x1 x2 x3 x4 x5 x6 r0 z = some z1 := hq
        unfold cm_X7_markParts_5 at hq
        refine lv_aload_n hx hb dcX7_markParts_173 rfl (lv_at hl 0 rfl) ?_
        refine lv_dup hx hb dcX7_markParts_174 rfl ?_
        refine vgX7_90 hx hb hT hown hK hM hr0 hq dcX7_markParts_175 (fun v19 hq => ?_)
        refine lv_iconst (v := 1) hx hb dcX7_markParts_178 (by decide) ?_
        refine lv_iadd hx hb dcX7_markParts_179 ?_
        refine vpX7_90 hx hb hT hown hK hM hU hr0 hq dcX7_markParts_180 (fun z20 H locs hM hq => ?_)
        exact ih_6 x1 x2 0 0 0 0 r0 z20 H locs ls hr0 hM (lv_sub hl [0, 1, 2] rfl) hq
      · intro x1 x2 x3 x4 x5 x6 r0 z H locs ls hr0 hM hl hq
        have hq : cm_X7_markParts_6 vl K (c_X7_markParts vl K k) x1 x2 x3 x4 x5 x6 r0 z = some z1 := hq
        unfold cm_X7_markParts_6 at hq
        refine lv_iinc (v := (x2 + 1)) (lv' := [(2, .int (x2 + 1)), (0, .ref (u r0)), (1, .int x1)]) hx hb dcX7_markParts_183 hl (k := 2) rfl rfl (by decide) rfl (fun ls hl => ?_)
        refine lv_goto (tgt := 24) hx hb dcX7_markParts_186 (by decide) ?_
        exact ih_1 x1 (x2 + 1) 0 0 0 0 r0 z H locs ls hr0 hM (lv_sub hl [1, 2, 0] rfl) hq
  exact (key K).1 0 0 0 0 0 0 r0 z s.heap [] ls hr0 hM (lv_sub hl [0] rfl) hq
theorem dcX0_countMaps_0 : decode cX0_countMaps 0 = .ok (.iload_n 2, 1) := dw_at cX0_countMaps_k0 (p := 0) rfl (by decide +kernel)
theorem dcX0_countMaps_1 : decode cX0_countMaps 1 = .ok (.iconst 4, 1) := dw_at cX0_countMaps_k0 (p := 1) rfl (by decide +kernel)
theorem dcX0_countMaps_2 : decode cX0_countMaps 2 = .ok (.if_icmp .ne 8, 3) := dw_at cX0_countMaps_k0 (p := 2) rfl (by decide +kernel)
theorem dcX0_countMaps_5 : decode cX0_countMaps 5 = .ok (.bipush 24, 2) := dw_at cX0_countMaps_k0 (p := 5) rfl (by decide +kernel)
theorem dcX0_countMaps_7 : decode cX0_countMaps 7 = .ok (.goto 14, 3) := dw_at cX0_countMaps_k0 (p := 7) rfl (by decide +kernel)
theorem dcX0_countMaps_10 : decode cX0_countMaps 10 = .ok (.iload_n 2, 1) := dw_at cX0_countMaps_k0 (p := 10) rfl (by decide +kernel)
theorem dcX0_countMaps_11 : decode cX0_countMaps 11 = .ok (.iconst 3, 1) := dw_at cX0_countMaps_k0 (p := 11) rfl (by decide +kernel)
theorem dcX0_countMaps_12 : decode cX0_countMaps 12 = .ok (.if_icmp .ne 8, 3) := dw_at cX0_countMaps_k0 (p := 12) rfl (by decide +kernel)
theorem dcX0_countMaps_15 : decode cX0_countMaps 15 = .ok (.bipush 6, 2) := dw_at cX0_countMaps_k0 (p := 15) rfl (by decide +kernel)
theorem dcX0_countMaps_17 : decode cX0_countMaps 17 = .ok (.goto 4, 3) := dw_at cX0_countMaps_k0 (p := 17) rfl (by decide +kernel)
theorem dcX0_countMaps_20 : decode cX0_countMaps 20 = .ok (.iload_n 2, 1) := dw_at cX0_countMaps_k0 (p := 20) rfl (by decide +kernel)
theorem dcX0_countMaps_21 : decode cX0_countMaps 21 = .ok (.istore_n 3, 1) := dw_at cX0_countMaps_k0 (p := 21) rfl (by decide +kernel)
theorem dcX0_countMaps_22 : decode cX0_countMaps 22 = .ok (.aload_n 0, 1) := dw_at cX0_countMaps_k0 (p := 22) rfl (by decide +kernel)
theorem dcX0_countMaps_23 : decode cX0_countMaps 23 = .ok (.aload_n 1, 1) := dw_at cX0_countMaps_k0 (p := 23) rfl (by decide +kernel)
theorem dcX0_countMaps_24 : decode cX0_countMaps 24 = .ok (.invokevirtual 91, 3) := dw_at cX0_countMaps_k1 (p := 0) rfl (by decide +kernel)
theorem dcX0_countMaps_27 : decode cX0_countMaps 27 = .ok (.aload_n 1, 1) := dw_at cX0_countMaps_k1 (p := 3) rfl (by decide +kernel)
theorem dcX0_countMaps_28 : decode cX0_countMaps 28 = .ok (.invokevirtual 129, 3) := dw_at cX0_countMaps_k1 (p := 4) rfl (by decide +kernel)
theorem dcX0_countMaps_31 : decode cX0_countMaps 31 = .ok (.aload_n 0, 1) := dw_at cX0_countMaps_k1 (p := 7) rfl (by decide +kernel)
theorem dcX0_countMaps_32 : decode cX0_countMaps 32 = .ok (.iload_n 3, 1) := dw_at cX0_countMaps_k1 (p := 8) rfl (by decide +kernel)
theorem dcX0_countMaps_33 : decode cX0_countMaps 33 = .ok (.invokevirtual 132, 3) := dw_at cX0_countMaps_k1 (p := 9) rfl (by decide +kernel)
theorem dcX0_countMaps_36 : decode cX0_countMaps 36 = .ok (.lconst 1, 1) := dw_at cX0_countMaps_k1 (p := 12) rfl (by decide +kernel)
theorem dcX0_countMaps_37 : decode cX0_countMaps 37 = .ok (.lstore 4, 2) := dw_at cX0_countMaps_k1 (p := 13) rfl (by decide +kernel)
theorem dcX0_countMaps_39 : decode cX0_countMaps 39 = .ok (.iconst 0, 1) := dw_at cX0_countMaps_k1 (p := 15) rfl (by decide +kernel)
theorem dcX0_countMaps_40 : decode cX0_countMaps 40 = .ok (.istore 6, 2) := dw_at cX0_countMaps_k1 (p := 16) rfl (by decide +kernel)
theorem dcX0_countMaps_42 : decode cX0_countMaps 42 = .ok (.iload 6, 2) := dw_at cX0_countMaps_k1 (p := 18) rfl (by decide +kernel)
theorem dcX0_countMaps_44 : decode cX0_countMaps 44 = .ok (.aload_n 1, 1) := dw_at cX0_countMaps_k1 (p := 20) rfl (by decide +kernel)
theorem dcX0_countMaps_45 : decode cX0_countMaps 45 = .ok (.getfield 88, 3) := dw_at cX0_countMaps_k1 (p := 21) rfl (by decide +kernel)
theorem dcX0_countMaps_48 : decode cX0_countMaps 48 = .ok (.if_icmp .ge 16, 3) := dw_at cX0_countMaps_k2 (p := 0) rfl (by decide +kernel)
theorem dcX0_countMaps_51 : decode cX0_countMaps 51 = .ok (.lload 4, 2) := dw_at cX0_countMaps_k2 (p := 3) rfl (by decide +kernel)
theorem dcX0_countMaps_53 : decode cX0_countMaps 53 = .ok (.iload_n 3, 1) := dw_at cX0_countMaps_k2 (p := 5) rfl (by decide +kernel)
theorem dcX0_countMaps_54 : decode cX0_countMaps 54 = .ok (.i2l, 1) := dw_at cX0_countMaps_k2 (p := 6) rfl (by decide +kernel)
theorem dcX0_countMaps_55 : decode cX0_countMaps 55 = .ok (.lmul, 1) := dw_at cX0_countMaps_k2 (p := 7) rfl (by decide +kernel)
theorem dcX0_countMaps_56 : decode cX0_countMaps 56 = .ok (.lstore 4, 2) := dw_at cX0_countMaps_k2 (p := 8) rfl (by decide +kernel)
theorem dcX0_countMaps_58 : decode cX0_countMaps 58 = .ok (.iinc 6 1, 3) := dw_at cX0_countMaps_k2 (p := 10) rfl (by decide +kernel)
theorem dcX0_countMaps_61 : decode cX0_countMaps 61 = .ok (.goto (-19), 3) := dw_at cX0_countMaps_k2 (p := 13) rfl (by decide +kernel)
theorem dcX0_countMaps_64 : decode cX0_countMaps 64 = .ok (.iconst 0, 1) := dw_at cX0_countMaps_k2 (p := 16) rfl (by decide +kernel)
theorem dcX0_countMaps_65 : decode cX0_countMaps 65 = .ok (.istore 6, 2) := dw_at cX0_countMaps_k2 (p := 17) rfl (by decide +kernel)
theorem dcX0_countMaps_67 : decode cX0_countMaps 67 = .ok (.iload 6, 2) := dw_at cX0_countMaps_k2 (p := 19) rfl (by decide +kernel)
theorem dcX0_countMaps_69 : decode cX0_countMaps 69 = .ok (.aload_n 1, 1) := dw_at cX0_countMaps_k2 (p := 21) rfl (by decide +kernel)
theorem dcX0_countMaps_70 : decode cX0_countMaps 70 = .ok (.getfield 136, 3) := dw_at cX0_countMaps_k2 (p := 22) rfl (by decide +kernel)
theorem dcX0_countMaps_73 : decode cX0_countMaps 73 = .ok (.if_icmp .ge 28, 3) := dw_at cX0_countMaps_k3 (p := 0) rfl (by decide +kernel)
theorem dcX0_countMaps_76 : decode cX0_countMaps 76 = .ok (.aload_n 0, 1) := dw_at cX0_countMaps_k3 (p := 3) rfl (by decide +kernel)
theorem dcX0_countMaps_77 : decode cX0_countMaps 77 = .ok (.aload_n 1, 1) := dw_at cX0_countMaps_k3 (p := 4) rfl (by decide +kernel)
theorem dcX0_countMaps_78 : decode cX0_countMaps 78 = .ok (.iload 6, 2) := dw_at cX0_countMaps_k3 (p := 5) rfl (by decide +kernel)
theorem dcX0_countMaps_80 : decode cX0_countMaps 80 = .ok (.invokevirtual 139, 3) := dw_at cX0_countMaps_k3 (p := 7) rfl (by decide +kernel)
theorem dcX0_countMaps_83 : decode cX0_countMaps 83 = .ok (.lload 4, 2) := dw_at cX0_countMaps_k3 (p := 10) rfl (by decide +kernel)
theorem dcX0_countMaps_85 : decode cX0_countMaps 85 = .ok (.aload_n 0, 1) := dw_at cX0_countMaps_k3 (p := 12) rfl (by decide +kernel)
theorem dcX0_countMaps_86 : decode cX0_countMaps 86 = .ok (.iconst 0, 1) := dw_at cX0_countMaps_k3 (p := 13) rfl (by decide +kernel)
theorem dcX0_countMaps_87 : decode cX0_countMaps 87 = .ok (.iconst 0, 1) := dw_at cX0_countMaps_k3 (p := 14) rfl (by decide +kernel)
theorem dcX0_countMaps_88 : decode cX0_countMaps 88 = .ok (.iload_n 3, 1) := dw_at cX0_countMaps_k3 (p := 15) rfl (by decide +kernel)
theorem dcX0_countMaps_89 : decode cX0_countMaps 89 = .ok (.invokevirtual 143, 3) := dw_at cX0_countMaps_k3 (p := 16) rfl (by decide +kernel)
theorem dcX0_countMaps_92 : decode cX0_countMaps 92 = .ok (.lmul, 1) := dw_at cX0_countMaps_k3 (p := 19) rfl (by decide +kernel)
theorem dcX0_countMaps_93 : decode cX0_countMaps 93 = .ok (.lstore 4, 2) := dw_at cX0_countMaps_k3 (p := 20) rfl (by decide +kernel)
theorem dcX0_countMaps_95 : decode cX0_countMaps 95 = .ok (.iinc 6 1, 3) := dw_at cX0_countMaps_k3 (p := 22) rfl (by decide +kernel)
theorem dcX0_countMaps_98 : decode cX0_countMaps 98 = .ok (.goto (-31), 3) := dw_at cX0_countMaps_k3 (p := 25) rfl (by decide +kernel)
theorem dcX0_countMaps_101 : decode cX0_countMaps 101 = .ok (.lload 4, 2) := dw_at cX0_countMaps_k3 (p := 28) rfl (by decide +kernel)
theorem dcX0_countMaps_103 : decode cX0_countMaps 103 = .ok (.lreturn, 1) := dw_at cX0_countMaps_k3 (p := 30) rfl (by decide +kernel)
def cm_X0_countMaps_0 (vl : Nat → Nat) (K : Nat) (go : Nat → Int32 → Int32 → Int32 → Int64 → Nat → Nat → Int32 → ow_MS → Option (Int64 × ow_MS)) (x2 : Int32) (x3 : Int32) (x6 : Int32) (w4 : Int64) (r0 : Nat) (r1 : Nat) (t0 : Int32) (z : ow_MS) : Option (Int64 × ow_MS) :=
 (if x2 = 4 then go 1 x2 0 0 0 r0 r1 24 z
 else (if x2 = 3 then go 1 x2 0 0 0 r0 r1 6 z
 else go 1 x2 0 0 0 r0 r1 x2 z))
def cm_X0_countMaps_1 (vl : Nat → Nat) (K : Nat) (go : Nat → Int32 → Int32 → Int32 → Int64 → Nat → Nat → Int32 → ow_MS → Option (Int64 × ow_MS)) (x2 : Int32) (x3 : Int32) (x6 : Int32) (w4 : Int64) (r0 : Nat) (r1 : Nat) (t0 : Int32) (z : ow_MS) : Option (Int64 × ow_MS) :=
 cs0 (ce_X0_markArcs vl K r0 r1 z) fun z1 => cs0 (ce_X7_markParts vl K r1 z1) fun z2 => cs0 (ce_X0_findClasses vl K r0 t0 z2) fun z3 => go 2 x2 t0 0 1 r0 r1 0 z3
def cm_X0_countMaps_2 (vl : Nat → Nat) (K : Nat) (go : Nat → Int32 → Int32 → Int32 → Int64 → Nat → Nat → Int32 → ow_MS → Option (Int64 × ow_MS)) (x2 : Int32) (x3 : Int32) (x6 : Int32) (w4 : Int64) (r0 : Nat) (r1 : Nat) (t0 : Int32) (z : ow_MS) : Option (Int64 × ow_MS) :=
 rdF z (r1 + 9) fun v4 => (if v4 ≤ x6 then go 3 x2 x3 0 w4 r0 r1 0 z
 else go 2 x2 x3 (x6 + 1) (w4 * x3.toInt64) r0 r1 0 z)
def cm_X0_countMaps_3 (vl : Nat → Nat) (K : Nat) (go : Nat → Int32 → Int32 → Int32 → Int64 → Nat → Nat → Int32 → ow_MS → Option (Int64 × ow_MS)) (x2 : Int32) (x3 : Int32) (x6 : Int32) (w4 : Int64) (r0 : Nat) (r1 : Nat) (t0 : Int32) (z : ow_MS) : Option (Int64 × ow_MS) :=
 rdF z (r1 + 11) fun v5 => (if v5 ≤ x6 then some (w4, z)
 else cs0 (ce_X0_planPart vl K r0 r1 x6 z) fun z6 => cs1 (ce_X0_countFrom vl K r0 0 0 x3 z6) fun v8 z7 => go 3 x2 x3 (x6 + 1) (w4 * v8) r0 r1 0 z7)
def cb_X0_countMaps (vl : Nat → Nat) (K : Nat) (go : Nat → Int32 → Int32 → Int32 → Int64 → Nat → Nat → Int32 → ow_MS → Option (Int64 × ow_MS)) (L : Nat) (x2 : Int32) (x3 : Int32) (x6 : Int32) (w4 : Int64) (r0 : Nat) (r1 : Nat) (t0 : Int32) (z : ow_MS) : Option (Int64 × ow_MS) := match L with
  | 0 => cm_X0_countMaps_0 vl K go x2 x3 x6 w4 r0 r1 t0 z
  | 1 => cm_X0_countMaps_1 vl K go x2 x3 x6 w4 r0 r1 t0 z
  | 2 => cm_X0_countMaps_2 vl K go x2 x3 x6 w4 r0 r1 t0 z
  | 3 => cm_X0_countMaps_3 vl K go x2 x3 x6 w4 r0 r1 t0 z
  | _ => none
def c_X0_countMaps (vl : Nat → Nat) (K : Nat) : Nat → Nat → Int32 → Int32 → Int32 → Int64 → Nat → Nat → Int32 → ow_MS → Option (Int64 × ow_MS)
  | 0 => fun _ _ _ _ _ _ _ _ _ => none
  | k + 1 => cb_X0_countMaps vl K (c_X0_countMaps vl K k)
def ce_X0_countMaps (vl : Nat → Nat) (K : Nat) (r0 : Nat) (r1 : Nat) (x2 : Int32) (z : ow_MS) : Option (Int64 × ow_MS) := c_X0_countMaps vl K K 0 x2 0 0 0 r0 r1 0 z
abbrev wc_X0_countMaps : List Cond := .code yX0_countMaps cX0_countMaps 7 (some .long) :: wC
theorem cdd_X0_countMaps : yX0_countMaps.cls = RX0 ∧ yX0_countMaps.cls ≠ "java/lang/invoke/MethodHandle" ∧ yX0_countMaps.cls ≠ "java/lang/invoke/VarHandle" ∧ (parseMethodDescriptor yX0_countMaps.desc).map (fun d => d.parameters.length) = some 2 := by decide +kernel
set_option maxHeartbeats 4000000 in
set_option maxRecDepth 100000 in
theorem kc_X0_countMaps (l : Launch) (D : va_G) (q : Nat → ClassId) (vl u : Nat → Nat) (hU0 : tw_inj (cX vl) u) (K : Nat) (r0 : Nat) (r1 : Nat) (x2 : Int32) (hr0 : cw_X0 r0) (hr1 : cw_X7 r1) (z z1 : ow_MS) (r : Int64) (hq : ce_X0_countMaps vl K r0 r1 x2 z = some (r, z1)) : Met l yX0_countMaps wc_X0_countMaps ({ frames := 22, cells := 0, slots := 0, locals := 616 } : Room) (va_Pc [.ref (u r0), .ref (u r1), .int x2] (cw_pre D q vl u z)) (va_Ql (fun x (_ : Unit) => x = r) (fun _ t => va_P D vwCl (uw (cX vl) q u z1) t.heap) (tw_A (cX vl) u)) 0 0 (tw_A (cX vl) u) := by
  refine Met.ofW (cc := cX0_countMaps) (maxL := 7) (ret := (some .long)) (by decide) rfl ?_
  intro p e s m args below meth c s₁ B hml hv
  obtain ⟨rfl, hP, hK⟩ := hv
  have hx := B.exec
  have hb := B.bytes
  have hr := B.returns
  have hts := atoms_spec (ws := wc_X0_countMaps) B.pre
  have hT : ∀ w ∈ wC, w.before ([.ref (u r0), .ref (u r1), .int x2] : List Value).toArray s = true := fun w h => hts w (List.mem_cons_of_mem _ h)
  have hown : s.vm.findClass RX0 = some m.cls := findClass_of_methodNamed B.named
  have hlocks := B.notSynchronized
  have hU : uw_inj (cX vl) u (tw_A (cX vl) u) := ⟨hU0, fun h hh => ⟨h, hh, rfl⟩⟩
  have hM : uw_M D vwCl (cX vl) q (tw_A (cX vl) u) s.heap u z s.heap [] := ⟨hP, va_S.rf⟩
  have hl := lv_entry ([.ref (u r0), .ref (u r1), .int x2]) (n := 7) (Nat.le_of_ble_eq_true rfl)
  rw [lg_entry_eq]
  generalize (lg_sl ([.ref (u r0), .ref (u r1), .int x2]) ++ List.replicate (7 - (lg_sl ([.ref (u r0), .ref (u r1), .int x2])).length) Slot.unset).toArray = ls at hl ⊢
  have hl : lv_has ls 7 [(0, .ref (u r0)), (1, .ref (u r1)), (2, .int x2)] := hl
  refine ow_named (fun QQ hQQ => ?_)
  generalize ([.ref (u r0), .ref (u r1), .int x2] : List Value).toArray = args at hts hT hQQ ⊢
  have key : ∀ k : Nat, (∀ (x2 : Int32) (x3 : Int32) (x6 : Int32) (w4 : Int64) (r0 : Nat) (r1 : Nat) (t0 : Int32) (z : ow_MS) (H : Heap) (locs : List Loc) (ls : Array Slot), cw_X0 r0 → cw_X7 r1 → uw_M D vwCl (cX vl) q (tw_A (cX vl) u) s.heap u z H locs → lv_has ls 7 [(0, .ref (u r0)), (1, .ref (u r1)), (2, .int x2)] → c_X0_countMaps vl K k 0 x2 x3 x6 w4 r0 r1 t0 z = some (r, z1) → W p l e ({ frames := 22, cells := 0, slots := 0, locals := 616 } : Room) s m args below meth c H locs 0 0 QQ (F0 m 0 ls [])) ∧ (∀ (x2 : Int32) (x3 : Int32) (x6 : Int32) (w4 : Int64) (r0 : Nat) (r1 : Nat) (t0 : Int32) (z : ow_MS) (H : Heap) (locs : List Loc) (ls : Array Slot), cw_X0 r0 → cw_X7 r1 → uw_M D vwCl (cX vl) q (tw_A (cX vl) u) s.heap u z H locs → lv_has ls 7 [(0, .ref (u r0)), (1, .ref (u r1)), (2, .int x2)] → c_X0_countMaps vl K k 1 x2 x3 x6 w4 r0 r1 t0 z = some (r, z1) → W p l e ({ frames := 22, cells := 0, slots := 0, locals := 616 } : Room) s m args below meth c H locs 0 0 QQ (F0 m 21 ls [.int t0])) ∧ (∀ (x2 : Int32) (x3 : Int32) (x6 : Int32) (w4 : Int64) (r0 : Nat) (r1 : Nat) (t0 : Int32) (z : ow_MS) (H : Heap) (locs : List Loc) (ls : Array Slot), cw_X0 r0 → cw_X7 r1 → uw_M D vwCl (cX vl) q (tw_A (cX vl) u) s.heap u z H locs → lv_has ls 7 [(0, .ref (u r0)), (1, .ref (u r1)), (2, .int x2), (3, .int x3), (4, .long w4), (6, .int x6)] → c_X0_countMaps vl K k 2 x2 x3 x6 w4 r0 r1 t0 z = some (r, z1) → W p l e ({ frames := 22, cells := 0, slots := 0, locals := 616 } : Room) s m args below meth c H locs 0 0 QQ (F0 m 42 ls [])) ∧ (∀ (x2 : Int32) (x3 : Int32) (x6 : Int32) (w4 : Int64) (r0 : Nat) (r1 : Nat) (t0 : Int32) (z : ow_MS) (H : Heap) (locs : List Loc) (ls : Array Slot), cw_X0 r0 → cw_X7 r1 → uw_M D vwCl (cX vl) q (tw_A (cX vl) u) s.heap u z H locs → lv_has ls 7 [(0, .ref (u r0)), (1, .ref (u r1)), (2, .int x2), (3, .int x3), (4, .long w4), (6, .int x6)] → c_X0_countMaps vl K k 3 x2 x3 x6 w4 r0 r1 t0 z = some (r, z1) → W p l e ({ frames := 22, cells := 0, slots := 0, locals := 616 } : Room) s m args below meth c H locs 0 0 QQ (F0 m 67 ls [])) := by
    intro k
    induction k with
    | zero => exact ⟨fun _ _ _ _ _ _ _ _ _ _ _ _ _ _ _ hq => cw_no hq, fun _ _ _ _ _ _ _ _ _ _ _ _ _ _ _ hq => cw_no hq, fun _ _ _ _ _ _ _ _ _ _ _ _ _ _ _ hq => cw_no hq, fun _ _ _ _ _ _ _ _ _ _ _ _ _ _ _ hq => cw_no hq⟩
    | succ k ih =>
      obtain ⟨ih_0, ih_1, ih_2, ih_3⟩ := ih
      refine ⟨?_, ?_, ?_, ?_⟩
      · intro x2 x3 x6 w4 r0 r1 t0 z H locs ls hr0 hr1 hM hl hq
        have hq : cm_X0_countMaps_0 vl K (c_X0_countMaps vl K k) x2 x3 x6 w4 r0 r1 t0 z = some (r, z1) := hq
        unfold cm_X0_countMaps_0 at hq
        refine lv_iload_n hx hb dcX0_countMaps_0 rfl (lv_at hl 2 rfl) ?_
        refine lv_iconst (v := 4) hx hb dcX0_countMaps_1 (by decide) ?_
        refine lv_icmp_ne (tgt := 10) hx hb dcX0_countMaps_2 (by decide) (fun hc => ?_) (fun hc => ?_)
        · have hq := tw_if hq hc
          refine lv_iload_n hx hb dcX0_countMaps_10 rfl (lv_at hl 2 rfl) ?_
          refine lv_iconst (v := 3) hx hb dcX0_countMaps_11 (by decide) ?_
          refine lv_icmp_ne (tgt := 20) hx hb dcX0_countMaps_12 (by decide) (fun hc => ?_) (fun hc => ?_)
          · have hq := tw_if hq hc
            refine lv_iload_n hx hb dcX0_countMaps_20 rfl (lv_at hl 2 rfl) ?_
            exact ih_1 x2 0 0 0 r0 r1 x2 z H locs ls hr0 hr1 hM (lv_sub hl [0, 1, 2] rfl) hq
          · have hq := tw_it hq hc
            refine lv_bipush (v := 6) hx hb dcX0_countMaps_15 (by decide) ?_
            refine lv_goto (tgt := 21) hx hb dcX0_countMaps_17 (by decide) ?_
            exact ih_1 x2 0 0 0 r0 r1 6 z H locs ls hr0 hr1 hM (lv_sub hl [0, 1, 2] rfl) hq
        · have hq := tw_it hq hc
          refine lv_bipush (v := 24) hx hb dcX0_countMaps_5 (by decide) ?_
          refine lv_goto (tgt := 21) hx hb dcX0_countMaps_7 (by decide) ?_
          exact ih_1 x2 0 0 0 r0 r1 24 z H locs ls hr0 hr1 hM (lv_sub hl [0, 1, 2] rfl) hq
      · intro x2 x3 x6 w4 r0 r1 t0 z H locs ls hr0 hr1 hM hl hq
        have hq : cm_X0_countMaps_1 vl K (c_X0_countMaps vl K k) x2 x3 x6 w4 r0 r1 t0 z = some (r, z1) := hq
        unfold cm_X0_countMaps_1 at hq
        refine lv_istore_n (lv' := [(3, .int t0), (0, .ref (u r0)), (1, .ref (u r1)), (2, .int x2)]) hx hb dcX0_countMaps_21 rfl hl (by decide) rfl (fun ls hl => ?_)
        refine lv_aload_n hx hb dcX0_countMaps_22 rfl (lv_at hl 1 rfl) ?_
        refine lv_aload_n hx hb dcX0_countMaps_23 rfl (lv_at hl 2 rfl) ?_
        obtain ⟨z1, hcq, hq⟩ := tw_cl0 hq
        refine uw_calv hU hM (va_runV (As := [.ref (u r1)]) (rest := []) ⟨hx, hb, hml, hown, hts⟩ (kc_X0_markArcs l D q vl u hU.1 K r0 r1 hr0 hr1 z z1 hcq) (cwV 1 hts (tw_gV wC_good xq_21 xq_22 xq_23 xq_24 xq_11) rfl rfl rfl cdd_X0_markArcs ⟨(Nat.le_of_ble_eq_true rfl), (Nat.le_of_ble_eq_true rfl)⟩) (cw_preV hK hM (co_X0 hr0) rfl) rfl rfl hl.1 rfl (lv_room (Nat.le_of_ble_eq_true rfl)) dcX0_countMaps_24 ⟨(Nat.le_of_ble_eq_true rfl), (Nat.le_of_ble_eq_true rfl)⟩) (fun H locs hM => ?_)
        refine lv_aload_n hx hb dcX0_countMaps_27 rfl (lv_at hl 2 rfl) ?_
        obtain ⟨z2, hcq, hq⟩ := tw_cl0 hq
        refine uw_calv hU hM (va_runV (As := []) (rest := []) ⟨hx, hb, hml, hown, hts⟩ (kc_X7_markParts l D q vl u hU.1 K r1 hr1 z1 z2 hcq) (cwV 0 hts (tw_gV wC_good xq_51 xq_52 xq_53 xq_54 xq_55) rfl rfl rfl cdd_X7_markParts ⟨(Nat.le_of_ble_eq_true rfl), (Nat.le_of_ble_eq_true rfl)⟩) (cw_preV hK hM (co_X7 hr1) rfl) rfl rfl hl.1 rfl (lv_room (Nat.le_of_ble_eq_true rfl)) dcX0_countMaps_28 ⟨(Nat.le_of_ble_eq_true rfl), (Nat.le_of_ble_eq_true rfl)⟩) (fun H locs hM => ?_)
        refine lv_aload_n hx hb dcX0_countMaps_31 rfl (lv_at hl 1 rfl) ?_
        refine lv_iload_n hx hb dcX0_countMaps_32 rfl (lv_at hl 0 rfl) ?_
        obtain ⟨z3, hcq, hq⟩ := tw_cl0 hq
        refine uw_calv hU hM (va_runV (As := [.int t0]) (rest := []) ⟨hx, hb, hml, hown, hts⟩ (kc_X0_findClasses l D q vl u hU.1 K r0 t0 hr0 z2 z3 hcq) (cwV 1 hts (tw_gV wC_good xq_69 xq_70 xq_71 xq_24 xq_72) rfl rfl rfl cdd_X0_findClasses ⟨(Nat.le_of_ble_eq_true rfl), (Nat.le_of_ble_eq_true rfl)⟩) (cw_preV hK hM (co_X0 hr0) rfl) rfl rfl hl.1 rfl (lv_room (Nat.le_of_ble_eq_true rfl)) dcX0_countMaps_33 ⟨(Nat.le_of_ble_eq_true rfl), (Nat.le_of_ble_eq_true rfl)⟩) (fun H locs hM => ?_)
        refine lv_lconst (v := 1) hx hb dcX0_countMaps_36 rfl ?_
        refine lv_lstore (lv' := [(4, .long 1), (3, .int t0), (0, .ref (u r0)), (1, .ref (u r1)), (2, .int x2)]) hx hb dcX0_countMaps_37 hl (by decide) rfl (fun ls hl => ?_)
        refine lv_iconst (v := 0) hx hb dcX0_countMaps_39 (by decide) ?_
        refine lv_istore (lv' := [(6, .int 0), (4, .long 1), (3, .int t0), (0, .ref (u r0)), (1, .ref (u r1)), (2, .int x2)]) hx hb dcX0_countMaps_40 hl (by decide) rfl (fun ls hl => ?_)
        exact ih_2 x2 t0 0 1 r0 r1 0 z3 H locs ls hr0 hr1 hM (lv_sub hl [3, 4, 5, 2, 1, 0] rfl) hq
      · intro x2 x3 x6 w4 r0 r1 t0 z H locs ls hr0 hr1 hM hl hq
        have hq : cm_X0_countMaps_2 vl K (c_X0_countMaps vl K k) x2 x3 x6 w4 r0 r1 t0 z = some (r, z1) := hq
        unfold cm_X0_countMaps_2 at hq
        refine lv_iload hx hb dcX0_countMaps_42 (lv_at hl 5 rfl) ?_
        refine lv_aload_n hx hb dcX0_countMaps_44 rfl (lv_at hl 1 rfl) ?_
        refine vgX0_88 hx hb hT hown hK hM hr1 hq dcX0_countMaps_45 (fun v4 hq => ?_)
        refine lv_icmp_ge (tgt := 64) hx hb dcX0_countMaps_48 (by decide) (fun hc => ?_) (fun hc => ?_)
        · have hq := tw_it hq hc
          refine lv_iconst (v := 0) hx hb dcX0_countMaps_64 (by decide) ?_
          refine lv_istore (lv' := [(6, .int 0), (0, .ref (u r0)), (1, .ref (u r1)), (2, .int x2), (3, .int x3), (4, .long w4)]) hx hb dcX0_countMaps_65 hl (by decide) rfl (fun ls hl => ?_)
          exact ih_3 x2 x3 0 w4 r0 r1 0 z H locs ls hr0 hr1 hM (lv_sub hl [1, 2, 3, 4, 5, 0] rfl) hq
        · have hq := tw_if hq hc
          refine lv_lload hx hb dcX0_countMaps_51 (lv_at hl 4 rfl) ?_
          refine lv_iload_n hx hb dcX0_countMaps_53 rfl (lv_at hl 3 rfl) ?_
          refine lv_i2l hx hb dcX0_countMaps_54 rfl ?_
          refine lv_lmul hx hb dcX0_countMaps_55 ?_
          refine lv_lstore (lv' := [(4, .long (w4 * x3.toInt64)), (0, .ref (u r0)), (1, .ref (u r1)), (2, .int x2), (3, .int x3), (6, .int x6)]) hx hb dcX0_countMaps_56 hl (by decide) rfl (fun ls hl => ?_)
          refine lv_iinc (v := (x6 + 1)) (lv' := [(6, .int (x6 + 1)), (4, .long (w4 * x3.toInt64)), (0, .ref (u r0)), (1, .ref (u r1)), (2, .int x2), (3, .int x3)]) hx hb dcX0_countMaps_58 hl (k := 5) rfl rfl (by decide) rfl (fun ls hl => ?_)
          refine lv_goto (tgt := 42) hx hb dcX0_countMaps_61 (by decide) ?_
          exact ih_2 x2 x3 (x6 + 1) (w4 * x3.toInt64) r0 r1 0 z H locs ls hr0 hr1 hM (lv_sub hl [2, 3, 4, 5, 1, 0] rfl) hq
      · intro x2 x3 x6 w4 r0 r1 t0 z H locs ls hr0 hr1 hM hl hq
        have hq : cm_X0_countMaps_3 vl K (c_X0_countMaps vl K k) x2 x3 x6 w4 r0 r1 t0 z = some (r, z1) := hq
        unfold cm_X0_countMaps_3 at hq
        refine lv_iload hx hb dcX0_countMaps_67 (lv_at hl 5 rfl) ?_
        refine lv_aload_n hx hb dcX0_countMaps_69 rfl (lv_at hl 1 rfl) ?_
        refine vgX0_136 hx hb hT hown hK hM hr1 hq dcX0_countMaps_70 (fun v5 hq => ?_)
        refine lv_icmp_ge (tgt := 101) hx hb dcX0_countMaps_73 (by decide) (fun hc => ?_) (fun hc => ?_)
        · have hq := tw_it hq hc
          refine lv_lload hx hb dcX0_countMaps_101 (lv_at hl 4 rfl) ?_
          exact cw_lret hx hb hr hlocks hM hq hQQ dcX0_countMaps_103
        · have hq := tw_if hq hc
          refine lv_aload_n hx hb dcX0_countMaps_76 rfl (lv_at hl 0 rfl) ?_
          refine lv_aload_n hx hb dcX0_countMaps_77 rfl (lv_at hl 1 rfl) ?_
          refine lv_iload hx hb dcX0_countMaps_78 (lv_at hl 5 rfl) ?_
          obtain ⟨z6, hcq, hq⟩ := tw_cl0 hq
          refine uw_calv hU hM (va_runV (As := [.ref (u r1), .int x6]) (rest := []) ⟨hx, hb, hml, hown, hts⟩ (kc_X0_planPart l D q vl u hU.1 K r0 r1 x6 hr0 hr1 z z6 hcq) (cwV 2 hts (tw_gV wC_good xq_78 xq_79 xq_80 xq_24 xq_81) rfl rfl rfl cdd_X0_planPart ⟨(Nat.le_of_ble_eq_true rfl), (Nat.le_of_ble_eq_true rfl)⟩) (cw_preV hK hM (co_X0 hr0) rfl) rfl rfl hl.1 rfl (lv_room (Nat.le_of_ble_eq_true rfl)) dcX0_countMaps_80 ⟨(Nat.le_of_ble_eq_true rfl), (Nat.le_of_ble_eq_true rfl)⟩) (fun H locs hM => ?_)
          refine lv_lload hx hb dcX0_countMaps_83 (lv_at hl 4 rfl) ?_
          refine lv_aload_n hx hb dcX0_countMaps_85 rfl (lv_at hl 0 rfl) ?_
          refine lv_iconst (v := 0) hx hb dcX0_countMaps_86 (by decide) ?_
          refine lv_iconst (v := 0) hx hb dcX0_countMaps_87 (by decide) ?_
          refine lv_iload_n hx hb dcX0_countMaps_88 rfl (lv_at hl 3 rfl) ?_
          obtain ⟨v8, z7, hcq, hq⟩ := tw_cl1 hq
          refine uw_call hU hM (va_runV (As := [.int 0, .int 0, .int x3]) (rest := [.long w4]) ⟨hx, hb, hml, hown, hts⟩ (kc_X0_countFrom l D q vl u hU.1 K r0 0 0 x3 hr0 z6 z7 v8 hcq) (cwV 3 hts (tw_gV wC_good xq_110 xq_111 xq_112 xq_24 xq_113) rfl rfl rfl cdd_X0_countFrom ⟨(Nat.le_of_ble_eq_true rfl), (Nat.le_of_ble_eq_true rfl)⟩) (cw_preV hK hM (co_X0 hr0) rfl) rfl rfl hl.1 rfl (lv_room (Nat.le_of_ble_eq_true rfl)) dcX0_countMaps_89 ⟨(Nat.le_of_ble_eq_true rfl), (Nat.le_of_ble_eq_true rfl)⟩) (fun H locs hM => ?_)
          refine lv_lmul hx hb dcX0_countMaps_92 ?_
          refine lv_lstore (lv' := [(4, .long (w4 * v8)), (0, .ref (u r0)), (1, .ref (u r1)), (2, .int x2), (3, .int x3), (6, .int x6)]) hx hb dcX0_countMaps_93 hl (by decide) rfl (fun ls hl => ?_)
          refine lv_iinc (v := (x6 + 1)) (lv' := [(6, .int (x6 + 1)), (4, .long (w4 * v8)), (0, .ref (u r0)), (1, .ref (u r1)), (2, .int x2), (3, .int x3)]) hx hb dcX0_countMaps_95 hl (k := 5) rfl rfl (by decide) rfl (fun ls hl => ?_)
          refine lv_goto (tgt := 67) hx hb dcX0_countMaps_98 (by decide) ?_
          exact ih_3 x2 x3 (x6 + 1) (w4 * v8) r0 r1 0 z7 H locs ls hr0 hr1 hM (lv_sub hl [2, 3, 4, 5, 1, 0] rfl) hq
  exact (key K).1 x2 0 0 0 r0 r1 0 z s.heap [] ls hr0 hr1 hM (lv_sub hl [0, 1, 2] rfl) hq
theorem dcX1_addCircle_0 : decode cX1_addCircle 0 = .ok (.iconst 0, 1) := dw_at cX1_addCircle_k0 (p := 0) rfl (by decide +kernel)
theorem dcX1_addCircle_1 : decode cX1_addCircle 1 = .ok (.istore_n 1, 1) := dw_at cX1_addCircle_k0 (p := 1) rfl (by decide +kernel)
theorem dcX1_addCircle_2 : decode cX1_addCircle 2 = .ok (.iload_n 1, 1) := dw_at cX1_addCircle_k0 (p := 2) rfl (by decide +kernel)
theorem dcX1_addCircle_3 : decode cX1_addCircle 3 = .ok (.bipush 8, 2) := dw_at cX1_addCircle_k0 (p := 3) rfl (by decide +kernel)
theorem dcX1_addCircle_5 : decode cX1_addCircle 5 = .ok (.if_icmp .gt 85, 3) := dw_at cX1_addCircle_k0 (p := 5) rfl (by decide +kernel)
theorem dcX1_addCircle_8 : decode cX1_addCircle 8 = .ok (.iload_n 1, 1) := dw_at cX1_addCircle_k0 (p := 8) rfl (by decide +kernel)
theorem dcX1_addCircle_9 : decode cX1_addCircle 9 = .ok (.bipush 56, 2) := dw_at cX1_addCircle_k0 (p := 9) rfl (by decide +kernel)
theorem dcX1_addCircle_11 : decode cX1_addCircle 11 = .ok (.imul, 1) := dw_at cX1_addCircle_k0 (p := 11) rfl (by decide +kernel)
theorem dcX1_addCircle_12 : decode cX1_addCircle 12 = .ok (.istore_n 2, 1) := dw_at cX1_addCircle_k0 (p := 12) rfl (by decide +kernel)
theorem dcX1_addCircle_13 : decode cX1_addCircle 13 = .ok (.iconst 0, 1) := dw_at cX1_addCircle_k0 (p := 13) rfl (by decide +kernel)
theorem dcX1_addCircle_14 : decode cX1_addCircle 14 = .ok (.istore_n 3, 1) := dw_at cX1_addCircle_k0 (p := 14) rfl (by decide +kernel)
theorem dcX1_addCircle_15 : decode cX1_addCircle 15 = .ok (.iconst 0, 1) := dw_at cX1_addCircle_k0 (p := 15) rfl (by decide +kernel)
theorem dcX1_addCircle_16 : decode cX1_addCircle 16 = .ok (.istore 4, 2) := dw_at cX1_addCircle_k0 (p := 16) rfl (by decide +kernel)
theorem dcX1_addCircle_18 : decode cX1_addCircle 18 = .ok (.iload 4, 2) := dw_at cX1_addCircle_k0 (p := 18) rfl (by decide +kernel)
theorem dcX1_addCircle_20 : decode cX1_addCircle 20 = .ok (.bipush 56, 2) := dw_at cX1_addCircle_k0 (p := 20) rfl (by decide +kernel)
theorem dcX1_addCircle_22 : decode cX1_addCircle 22 = .ok (.if_icmp .ge 62, 3) := dw_at cX1_addCircle_k0 (p := 22) rfl (by decide +kernel)
theorem dcX1_addCircle_25 : decode cX1_addCircle 25 = .ok (.aload_n 0, 1) := dw_at cX1_addCircle_k1 (p := 0) rfl (by decide +kernel)
theorem dcX1_addCircle_26 : decode cX1_addCircle 26 = .ok (.getfield 64, 3) := dw_at cX1_addCircle_k1 (p := 1) rfl (by decide +kernel)
theorem dcX1_addCircle_29 : decode cX1_addCircle 29 = .ok (.iload_n 2, 1) := dw_at cX1_addCircle_k1 (p := 4) rfl (by decide +kernel)
theorem dcX1_addCircle_30 : decode cX1_addCircle 30 = .ok (.iload 4, 2) := dw_at cX1_addCircle_k1 (p := 5) rfl (by decide +kernel)
theorem dcX1_addCircle_32 : decode cX1_addCircle 32 = .ok (.iadd, 1) := dw_at cX1_addCircle_k1 (p := 7) rfl (by decide +kernel)
theorem dcX1_addCircle_33 : decode cX1_addCircle 33 = .ok (.iaload, 1) := dw_at cX1_addCircle_k1 (p := 8) rfl (by decide +kernel)
theorem dcX1_addCircle_34 : decode cX1_addCircle 34 = .ok (.istore 5, 2) := dw_at cX1_addCircle_k1 (p := 9) rfl (by decide +kernel)
theorem dcX1_addCircle_36 : decode cX1_addCircle 36 = .ok (.iload 4, 2) := dw_at cX1_addCircle_k1 (p := 11) rfl (by decide +kernel)
theorem dcX1_addCircle_38 : decode cX1_addCircle 38 = .ok (.iconst 1, 1) := dw_at cX1_addCircle_k1 (p := 13) rfl (by decide +kernel)
theorem dcX1_addCircle_39 : decode cX1_addCircle 39 = .ok (.iadd, 1) := dw_at cX1_addCircle_k1 (p := 14) rfl (by decide +kernel)
theorem dcX1_addCircle_40 : decode cX1_addCircle 40 = .ok (.bipush 56, 2) := dw_at cX1_addCircle_k1 (p := 15) rfl (by decide +kernel)
theorem dcX1_addCircle_42 : decode cX1_addCircle 42 = .ok (.if_icmp .ge 17, 3) := dw_at cX1_addCircle_k1 (p := 17) rfl (by decide +kernel)
theorem dcX1_addCircle_45 : decode cX1_addCircle 45 = .ok (.aload_n 0, 1) := dw_at cX1_addCircle_k1 (p := 20) rfl (by decide +kernel)
theorem dcX1_addCircle_46 : decode cX1_addCircle 46 = .ok (.getfield 64, 3) := dw_at cX1_addCircle_k1 (p := 21) rfl (by decide +kernel)
theorem dcX1_addCircle_49 : decode cX1_addCircle 49 = .ok (.iload_n 2, 1) := dw_at cX1_addCircle_k2 (p := 0) rfl (by decide +kernel)
theorem dcX1_addCircle_50 : decode cX1_addCircle 50 = .ok (.iload 4, 2) := dw_at cX1_addCircle_k2 (p := 1) rfl (by decide +kernel)
theorem dcX1_addCircle_52 : decode cX1_addCircle 52 = .ok (.iadd, 1) := dw_at cX1_addCircle_k2 (p := 3) rfl (by decide +kernel)
theorem dcX1_addCircle_53 : decode cX1_addCircle 53 = .ok (.iconst 1, 1) := dw_at cX1_addCircle_k2 (p := 4) rfl (by decide +kernel)
theorem dcX1_addCircle_54 : decode cX1_addCircle 54 = .ok (.iadd, 1) := dw_at cX1_addCircle_k2 (p := 5) rfl (by decide +kernel)
theorem dcX1_addCircle_55 : decode cX1_addCircle 55 = .ok (.iaload, 1) := dw_at cX1_addCircle_k2 (p := 6) rfl (by decide +kernel)
theorem dcX1_addCircle_56 : decode cX1_addCircle 56 = .ok (.goto 4, 3) := dw_at cX1_addCircle_k2 (p := 7) rfl (by decide +kernel)
theorem dcX1_addCircle_59 : decode cX1_addCircle 59 = .ok (.iconst 0, 1) := dw_at cX1_addCircle_k2 (p := 10) rfl (by decide +kernel)
theorem dcX1_addCircle_60 : decode cX1_addCircle 60 = .ok (.istore 6, 2) := dw_at cX1_addCircle_k2 (p := 11) rfl (by decide +kernel)
theorem dcX1_addCircle_62 : decode cX1_addCircle 62 = .ok (.aload_n 0, 1) := dw_at cX1_addCircle_k2 (p := 13) rfl (by decide +kernel)
theorem dcX1_addCircle_63 : decode cX1_addCircle 63 = .ok (.getfield 64, 3) := dw_at cX1_addCircle_k2 (p := 14) rfl (by decide +kernel)
theorem dcX1_addCircle_66 : decode cX1_addCircle 66 = .ok (.iload_n 2, 1) := dw_at cX1_addCircle_k2 (p := 17) rfl (by decide +kernel)
theorem dcX1_addCircle_67 : decode cX1_addCircle 67 = .ok (.iload 4, 2) := dw_at cX1_addCircle_k2 (p := 18) rfl (by decide +kernel)
theorem dcX1_addCircle_69 : decode cX1_addCircle 69 = .ok (.iadd, 1) := dw_at cX1_addCircle_k2 (p := 20) rfl (by decide +kernel)
theorem dcX1_addCircle_70 : decode cX1_addCircle 70 = .ok (.iload_n 3, 1) := dw_at cX1_addCircle_k2 (p := 21) rfl (by decide +kernel)
theorem dcX1_addCircle_71 : decode cX1_addCircle 71 = .ok (.iload 6, 2) := dw_at cX1_addCircle_k2 (p := 22) rfl (by decide +kernel)
theorem dcX1_addCircle_73 : decode cX1_addCircle 73 = .ok (.iadd, 1) := dw_at cX1_addCircle_k3 (p := 0) rfl (by decide +kernel)
theorem dcX1_addCircle_74 : decode cX1_addCircle 74 = .ok (.iastore, 1) := dw_at cX1_addCircle_k3 (p := 1) rfl (by decide +kernel)
theorem dcX1_addCircle_75 : decode cX1_addCircle 75 = .ok (.iload 5, 2) := dw_at cX1_addCircle_k3 (p := 2) rfl (by decide +kernel)
theorem dcX1_addCircle_77 : decode cX1_addCircle 77 = .ok (.istore_n 3, 1) := dw_at cX1_addCircle_k3 (p := 4) rfl (by decide +kernel)
theorem dcX1_addCircle_78 : decode cX1_addCircle 78 = .ok (.iinc 4 1, 3) := dw_at cX1_addCircle_k3 (p := 5) rfl (by decide +kernel)
theorem dcX1_addCircle_81 : decode cX1_addCircle 81 = .ok (.goto (-63), 3) := dw_at cX1_addCircle_k3 (p := 8) rfl (by decide +kernel)
theorem dcX1_addCircle_84 : decode cX1_addCircle 84 = .ok (.iinc 1 1, 3) := dw_at cX1_addCircle_k3 (p := 11) rfl (by decide +kernel)
theorem dcX1_addCircle_87 : decode cX1_addCircle 87 = .ok (.goto (-85), 3) := dw_at cX1_addCircle_k3 (p := 14) rfl (by decide +kernel)
theorem dcX1_addCircle_90 : decode cX1_addCircle 90 = .ok (.return_, 1) := dw_at cX1_addCircle_k3 (p := 17) rfl (by decide +kernel)
def cm_X1_addCircle_0 (vl : Nat → Nat) (K : Nat) (go : Nat → Int32 → Int32 → Int32 → Int32 → Int32 → Nat → Int32 → ow_MS → Option ow_MS) (x1 : Int32) (x2 : Int32) (x3 : Int32) (x4 : Int32) (x5 : Int32) (r0 : Nat) (t0 : Int32) (z : ow_MS) : Option ow_MS :=
 go 1 0 0 0 0 0 r0 0 z
def cm_X1_addCircle_1 (vl : Nat → Nat) (K : Nat) (go : Nat → Int32 → Int32 → Int32 → Int32 → Int32 → Nat → Int32 → ow_MS → Option ow_MS) (x1 : Int32) (x2 : Int32) (x3 : Int32) (x4 : Int32) (x5 : Int32) (r0 : Nat) (t0 : Int32) (z : ow_MS) : Option ow_MS :=
 (if 8 < x1 then some z
 else go 2 x1 (x1 * 56) 0 0 0 r0 0 z)
def cm_X1_addCircle_2 (vl : Nat → Nat) (K : Nat) (go : Nat → Int32 → Int32 → Int32 → Int32 → Int32 → Nat → Int32 → ow_MS → Option ow_MS) (x1 : Int32) (x2 : Int32) (x3 : Int32) (x4 : Int32) (x5 : Int32) (r0 : Nat) (t0 : Int32) (z : ow_MS) : Option ow_MS :=
 (if 56 ≤ x4 then go 1 (x1 + 1) 0 0 0 0 r0 0 z
 else crI (cX vl) z (r0 + 18) (x2 + x4) fun v1 => (if 56 ≤ (x4 + 1) then go 3 x1 x2 x3 x4 v1 r0 0 z
 else crI (cX vl) z (r0 + 18) ((x2 + x4) + 1) fun v2 => go 3 x1 x2 x3 x4 v1 r0 v2 z))
def cm_X1_addCircle_3 (vl : Nat → Nat) (K : Nat) (go : Nat → Int32 → Int32 → Int32 → Int32 → Int32 → Nat → Int32 → ow_MS → Option ow_MS) (x1 : Int32) (x2 : Int32) (x3 : Int32) (x4 : Int32) (x5 : Int32) (r0 : Nat) (t0 : Int32) (z : ow_MS) : Option ow_MS :=
 ctI (cX vl) z (r0 + 18) (x2 + x4) (x3 + t0) fun z3 => go 2 x1 x2 x5 (x4 + 1) 0 r0 0 z3
def cb_X1_addCircle (vl : Nat → Nat) (K : Nat) (go : Nat → Int32 → Int32 → Int32 → Int32 → Int32 → Nat → Int32 → ow_MS → Option ow_MS) (L : Nat) (x1 : Int32) (x2 : Int32) (x3 : Int32) (x4 : Int32) (x5 : Int32) (r0 : Nat) (t0 : Int32) (z : ow_MS) : Option ow_MS := match L with
  | 0 => cm_X1_addCircle_0 vl K go x1 x2 x3 x4 x5 r0 t0 z
  | 1 => cm_X1_addCircle_1 vl K go x1 x2 x3 x4 x5 r0 t0 z
  | 2 => cm_X1_addCircle_2 vl K go x1 x2 x3 x4 x5 r0 t0 z
  | 3 => cm_X1_addCircle_3 vl K go x1 x2 x3 x4 x5 r0 t0 z
  | _ => none
def c_X1_addCircle (vl : Nat → Nat) (K : Nat) : Nat → Nat → Int32 → Int32 → Int32 → Int32 → Int32 → Nat → Int32 → ow_MS → Option ow_MS
  | 0 => fun _ _ _ _ _ _ _ _ _ => none
  | k + 1 => cb_X1_addCircle vl K (c_X1_addCircle vl K k)
def ce_X1_addCircle (vl : Nat → Nat) (K : Nat) (r0 : Nat) (z : ow_MS) : Option ow_MS := c_X1_addCircle vl K K 0 0 0 0 0 0 r0 0 z
abbrev wc_X1_addCircle : List Cond := .code yX1_addCircle cX1_addCircle 7 none :: wC
theorem cdd_X1_addCircle : yX1_addCircle.cls = RX1 ∧ yX1_addCircle.cls ≠ "java/lang/invoke/MethodHandle" ∧ yX1_addCircle.cls ≠ "java/lang/invoke/VarHandle" ∧ (parseMethodDescriptor yX1_addCircle.desc).map (fun d => d.parameters.length) = some 0 := by decide +kernel
set_option maxHeartbeats 4000000 in
set_option maxRecDepth 100000 in
theorem kc_X1_addCircle (l : Launch) (D : va_G) (q : Nat → ClassId) (vl u : Nat → Nat) (hU0 : tw_inj (cX vl) u) (K : Nat) (r0 : Nat) (hr0 : cw_X1 r0) (z z1 : ow_MS) (hq : ce_X1_addCircle vl K r0 z = some z1) : Met l yX1_addCircle wc_X1_addCircle ({ frames := 0, cells := 0, slots := 0, locals := 0 } : Room) (va_Pc [.ref (u r0)] (cw_pre D q vl u z)) (va_Qv (fun (_ : Unit) => True) (fun _ t => va_P D vwCl (uw (cX vl) q u z1) t.heap) (tw_A (cX vl) u)) 0 0 (tw_A (cX vl) u) := by
  refine Met.ofW (cc := cX1_addCircle) (maxL := 7) (ret := none) (by decide) rfl ?_
  intro p e s m args below meth c s₁ B hml hv
  obtain ⟨rfl, hP, hK⟩ := hv
  have hx := B.exec
  have hb := B.bytes
  have hr := B.returns
  have hts := atoms_spec (ws := wc_X1_addCircle) B.pre
  have hT : ∀ w ∈ wC, w.before ([.ref (u r0)] : List Value).toArray s = true := fun w h => hts w (List.mem_cons_of_mem _ h)
  have hown : s.vm.findClass RX1 = some m.cls := findClass_of_methodNamed B.named
  have hlocks := B.notSynchronized
  have hU : uw_inj (cX vl) u (tw_A (cX vl) u) := ⟨hU0, fun h hh => ⟨h, hh, rfl⟩⟩
  have hM : uw_M D vwCl (cX vl) q (tw_A (cX vl) u) s.heap u z s.heap [] := ⟨hP, va_S.rf⟩
  have hl := lv_entry ([.ref (u r0)]) (n := 7) (Nat.le_of_ble_eq_true rfl)
  rw [lg_entry_eq]
  generalize (lg_sl ([.ref (u r0)]) ++ List.replicate (7 - (lg_sl ([.ref (u r0)])).length) Slot.unset).toArray = ls at hl ⊢
  have hl : lv_has ls 7 [(0, .ref (u r0))] := hl
  refine ow_named (fun QQ hQQ => ?_)
  generalize ([.ref (u r0)] : List Value).toArray = args at hts hT hQQ ⊢
  have key : ∀ k : Nat, (∀ (x1 : Int32) (x2 : Int32) (x3 : Int32) (x4 : Int32) (x5 : Int32) (r0 : Nat) (t0 : Int32) (z : ow_MS) (H : Heap) (locs : List Loc) (ls : Array Slot), cw_X1 r0 → uw_M D vwCl (cX vl) q (tw_A (cX vl) u) s.heap u z H locs → lv_has ls 7 [(0, .ref (u r0))] → c_X1_addCircle vl K k 0 x1 x2 x3 x4 x5 r0 t0 z = some z1 → W p l e ({ frames := 0, cells := 0, slots := 0, locals := 0 } : Room) s m args below meth c H locs 0 0 QQ (F0 m 0 ls [])) ∧ (∀ (x1 : Int32) (x2 : Int32) (x3 : Int32) (x4 : Int32) (x5 : Int32) (r0 : Nat) (t0 : Int32) (z : ow_MS) (H : Heap) (locs : List Loc) (ls : Array Slot), cw_X1 r0 → uw_M D vwCl (cX vl) q (tw_A (cX vl) u) s.heap u z H locs → lv_has ls 7 [(0, .ref (u r0)), (1, .int x1)] → c_X1_addCircle vl K k 1 x1 x2 x3 x4 x5 r0 t0 z = some z1 → W p l e ({ frames := 0, cells := 0, slots := 0, locals := 0 } : Room) s m args below meth c H locs 0 0 QQ (F0 m 2 ls [])) ∧ (∀ (x1 : Int32) (x2 : Int32) (x3 : Int32) (x4 : Int32) (x5 : Int32) (r0 : Nat) (t0 : Int32) (z : ow_MS) (H : Heap) (locs : List Loc) (ls : Array Slot), cw_X1 r0 → uw_M D vwCl (cX vl) q (tw_A (cX vl) u) s.heap u z H locs → lv_has ls 7 [(0, .ref (u r0)), (1, .int x1), (2, .int x2), (3, .int x3), (4, .int x4)] → c_X1_addCircle vl K k 2 x1 x2 x3 x4 x5 r0 t0 z = some z1 → W p l e ({ frames := 0, cells := 0, slots := 0, locals := 0 } : Room) s m args below meth c H locs 0 0 QQ (F0 m 18 ls [])) ∧ (∀ (x1 : Int32) (x2 : Int32) (x3 : Int32) (x4 : Int32) (x5 : Int32) (r0 : Nat) (t0 : Int32) (z : ow_MS) (H : Heap) (locs : List Loc) (ls : Array Slot), cw_X1 r0 → uw_M D vwCl (cX vl) q (tw_A (cX vl) u) s.heap u z H locs → lv_has ls 7 [(0, .ref (u r0)), (1, .int x1), (2, .int x2), (3, .int x3), (4, .int x4), (5, .int x5)] → c_X1_addCircle vl K k 3 x1 x2 x3 x4 x5 r0 t0 z = some z1 → W p l e ({ frames := 0, cells := 0, slots := 0, locals := 0 } : Room) s m args below meth c H locs 0 0 QQ (F0 m 60 ls [.int t0])) := by
    intro k
    induction k with
    | zero => exact ⟨fun _ _ _ _ _ _ _ _ _ _ _ _ _ _ hq => cw_no hq, fun _ _ _ _ _ _ _ _ _ _ _ _ _ _ hq => cw_no hq, fun _ _ _ _ _ _ _ _ _ _ _ _ _ _ hq => cw_no hq, fun _ _ _ _ _ _ _ _ _ _ _ _ _ _ hq => cw_no hq⟩
    | succ k ih =>
      obtain ⟨ih_0, ih_1, ih_2, ih_3⟩ := ih
      refine ⟨?_, ?_, ?_, ?_⟩
      · intro x1 x2 x3 x4 x5 r0 t0 z H locs ls hr0 hM hl hq
        have hq : cm_X1_addCircle_0 vl K (c_X1_addCircle vl K k) x1 x2 x3 x4 x5 r0 t0 z = some z1 := hq
        unfold cm_X1_addCircle_0 at hq
        refine lv_iconst (v := 0) hx hb dcX1_addCircle_0 (by decide) ?_
        refine lv_istore_n (lv' := [(1, .int 0), (0, .ref (u r0))]) hx hb dcX1_addCircle_1 rfl hl (by decide) rfl (fun ls hl => ?_)
        exact ih_1 0 0 0 0 0 r0 0 z H locs ls hr0 hM (lv_sub hl [1, 0] rfl) hq
      · intro x1 x2 x3 x4 x5 r0 t0 z H locs ls hr0 hM hl hq
        have hq : cm_X1_addCircle_1 vl K (c_X1_addCircle vl K k) x1 x2 x3 x4 x5 r0 t0 z = some z1 := hq
        unfold cm_X1_addCircle_1 at hq
        refine lv_iload_n hx hb dcX1_addCircle_2 rfl (lv_at hl 1 rfl) ?_
        refine lv_bipush (v := 8) hx hb dcX1_addCircle_3 (by decide) ?_
        refine lv_icmp_gt (tgt := 90) hx hb dcX1_addCircle_5 (by decide) (fun hc => ?_) (fun hc => ?_)
        · have hq := tw_it hq hc
          exact cw_vret hx hb hr hlocks hM hq hQQ dcX1_addCircle_90
        · have hq := tw_if hq hc
          refine lv_iload_n hx hb dcX1_addCircle_8 rfl (lv_at hl 1 rfl) ?_
          refine lv_bipush (v := 56) hx hb dcX1_addCircle_9 (by decide) ?_
          refine lv_imul hx hb dcX1_addCircle_11 ?_
          refine lv_istore_n (lv' := [(2, .int (x1 * 56)), (0, .ref (u r0)), (1, .int x1)]) hx hb dcX1_addCircle_12 rfl hl (by decide) rfl (fun ls hl => ?_)
          refine lv_iconst (v := 0) hx hb dcX1_addCircle_13 (by decide) ?_
          refine lv_istore_n (lv' := [(3, .int 0), (2, .int (x1 * 56)), (0, .ref (u r0)), (1, .int x1)]) hx hb dcX1_addCircle_14 rfl hl (by decide) rfl (fun ls hl => ?_)
          refine lv_iconst (v := 0) hx hb dcX1_addCircle_15 (by decide) ?_
          refine lv_istore (lv' := [(4, .int 0), (3, .int 0), (2, .int (x1 * 56)), (0, .ref (u r0)), (1, .int x1)]) hx hb dcX1_addCircle_16 hl (by decide) rfl (fun ls hl => ?_)
          exact ih_2 x1 (x1 * 56) 0 0 0 r0 0 z H locs ls hr0 hM (lv_sub hl [3, 4, 2, 1, 0] rfl) hq
      · intro x1 x2 x3 x4 x5 r0 t0 z H locs ls hr0 hM hl hq
        have hq : cm_X1_addCircle_2 vl K (c_X1_addCircle vl K k) x1 x2 x3 x4 x5 r0 t0 z = some z1 := hq
        unfold cm_X1_addCircle_2 at hq
        refine lv_iload hx hb dcX1_addCircle_18 (lv_at hl 4 rfl) ?_
        refine lv_bipush (v := 56) hx hb dcX1_addCircle_20 (by decide) ?_
        refine lv_icmp_ge (tgt := 84) hx hb dcX1_addCircle_22 (by decide) (fun hc => ?_) (fun hc => ?_)
        · have hq := tw_it hq hc
          refine lv_iinc (v := (x1 + 1)) (lv' := [(1, .int (x1 + 1)), (0, .ref (u r0)), (2, .int x2), (3, .int x3), (4, .int x4)]) hx hb dcX1_addCircle_84 hl (k := 1) rfl rfl (by decide) rfl (fun ls hl => ?_)
          refine lv_goto (tgt := 2) hx hb dcX1_addCircle_87 (by decide) ?_
          exact ih_1 (x1 + 1) 0 0 0 0 r0 0 z H locs ls hr0 hM (lv_sub hl [1, 0] rfl) hq
        · have hq := tw_if hq hc
          refine lv_aload_n hx hb dcX1_addCircle_25 rfl (lv_at hl 0 rfl) ?_
          refine vgX1_64 hx hb hT hown hK hM hr0 dcX1_addCircle_26 ?_
          refine lv_iload_n hx hb dcX1_addCircle_29 rfl (lv_at hl 2 rfl) ?_
          refine lv_iload hx hb dcX1_addCircle_30 (lv_at hl 4 rfl) ?_
          refine lv_iadd hx hb dcX1_addCircle_32 ?_
          refine uw_iald cX_ok hx hb hK hM (cr_X1_17 hr0) hq dcX1_addCircle_33 (fun v1 hq => ?_)
          refine lv_istore (lv' := [(5, .int v1), (0, .ref (u r0)), (1, .int x1), (2, .int x2), (3, .int x3), (4, .int x4)]) hx hb dcX1_addCircle_34 hl (by decide) rfl (fun ls hl => ?_)
          refine lv_iload hx hb dcX1_addCircle_36 (lv_at hl 5 rfl) ?_
          refine lv_iconst (v := 1) hx hb dcX1_addCircle_38 (by decide) ?_
          refine lv_iadd hx hb dcX1_addCircle_39 ?_
          refine lv_bipush (v := 56) hx hb dcX1_addCircle_40 (by decide) ?_
          refine lv_icmp_ge (tgt := 59) hx hb dcX1_addCircle_42 (by decide) (fun hc => ?_) (fun hc => ?_)
          · have hq := tw_it hq hc
            refine lv_iconst (v := 0) hx hb dcX1_addCircle_59 (by decide) ?_
            exact ih_3 x1 x2 x3 x4 v1 r0 0 z H locs ls hr0 hM (lv_sub hl [1, 2, 3, 4, 5, 0] rfl) hq
          · have hq := tw_if hq hc
            refine lv_aload_n hx hb dcX1_addCircle_45 rfl (lv_at hl 1 rfl) ?_
            refine vgX1_64 hx hb hT hown hK hM hr0 dcX1_addCircle_46 ?_
            refine lv_iload_n hx hb dcX1_addCircle_49 rfl (lv_at hl 3 rfl) ?_
            refine lv_iload hx hb dcX1_addCircle_50 (lv_at hl 5 rfl) ?_
            refine lv_iadd hx hb dcX1_addCircle_52 ?_
            refine lv_iconst (v := 1) hx hb dcX1_addCircle_53 (by decide) ?_
            refine lv_iadd hx hb dcX1_addCircle_54 ?_
            refine uw_iald cX_ok hx hb hK hM (cr_X1_17 hr0) hq dcX1_addCircle_55 (fun v2 hq => ?_)
            refine lv_goto (tgt := 60) hx hb dcX1_addCircle_56 (by decide) ?_
            exact ih_3 x1 x2 x3 x4 v1 r0 v2 z H locs ls hr0 hM (lv_sub hl [1, 2, 3, 4, 5, 0] rfl) hq
      · intro x1 x2 x3 x4 x5 r0 t0 z H locs ls hr0 hM hl hq
        have hq : cm_X1_addCircle_3 vl K (c_X1_addCircle vl K k) x1 x2 x3 x4 x5 r0 t0 z = some z1 := hq
        unfold cm_X1_addCircle_3 at hq
        refine lv_istore (lv' := [(6, .int t0), (0, .ref (u r0)), (1, .int x1), (2, .int x2), (3, .int x3), (4, .int x4), (5, .int x5)]) hx hb dcX1_addCircle_60 hl (by decide) rfl (fun ls hl => ?_)
        refine lv_aload_n hx hb dcX1_addCircle_62 rfl (lv_at hl 1 rfl) ?_
        refine vgX1_64 hx hb hT hown hK hM hr0 dcX1_addCircle_63 ?_
        refine lv_iload_n hx hb dcX1_addCircle_66 rfl (lv_at hl 3 rfl) ?_
        refine lv_iload hx hb dcX1_addCircle_67 (lv_at hl 5 rfl) ?_
        refine lv_iadd hx hb dcX1_addCircle_69 ?_
        refine lv_iload_n hx hb dcX1_addCircle_70 rfl (lv_at hl 4 rfl) ?_
        refine lv_iload hx hb dcX1_addCircle_71 (lv_at hl 0 rfl) ?_
        refine lv_iadd hx hb dcX1_addCircle_73 ?_
        refine uw_iast cX_ok hU hx hb hK hM (cr_X1_17 hr0) hq dcX1_addCircle_74 (fun z3 H locs hM hq => ?_)
        refine lv_iload hx hb dcX1_addCircle_75 (lv_at hl 6 rfl) ?_
        refine lv_istore_n (lv' := [(3, .int x5), (6, .int t0), (0, .ref (u r0)), (1, .int x1), (2, .int x2), (4, .int x4), (5, .int x5)]) hx hb dcX1_addCircle_77 rfl hl (by decide) rfl (fun ls hl => ?_)
        refine lv_iinc (v := (x4 + 1)) (lv' := [(4, .int (x4 + 1)), (3, .int x5), (6, .int t0), (0, .ref (u r0)), (1, .int x1), (2, .int x2), (5, .int x5)]) hx hb dcX1_addCircle_78 hl (k := 5) rfl rfl (by decide) rfl (fun ls hl => ?_)
        refine lv_goto (tgt := 18) hx hb dcX1_addCircle_81 (by decide) ?_
        exact ih_2 x1 x2 x5 (x4 + 1) 0 r0 0 z3 H locs ls hr0 hM (lv_sub hl [3, 4, 5, 1, 0] rfl) hq
  exact (key K).1 0 0 0 0 0 r0 0 z s.heap [] ls hr0 hM (lv_sub hl [0] rfl) hq
theorem dcX1_goRound_0 : decode cX1_goRound 0 = .ok (.iload_n 2, 1) := dw_at cX1_goRound_k0 (p := 0) rfl (by decide +kernel)
theorem dcX1_goRound_1 : decode cX1_goRound 1 = .ok (.istore 4, 2) := dw_at cX1_goRound_k0 (p := 1) rfl (by decide +kernel)
theorem dcX1_goRound_3 : decode cX1_goRound 3 = .ok (.iconst 1, 1) := dw_at cX1_goRound_k0 (p := 3) rfl (by decide +kernel)
theorem dcX1_goRound_4 : decode cX1_goRound 4 = .ok (.istore 5, 2) := dw_at cX1_goRound_k0 (p := 4) rfl (by decide +kernel)
theorem dcX1_goRound_6 : decode cX1_goRound 6 = .ok (.iconst 0, 1) := dw_at cX1_goRound_k0 (p := 6) rfl (by decide +kernel)
theorem dcX1_goRound_7 : decode cX1_goRound 7 = .ok (.istore 6, 2) := dw_at cX1_goRound_k0 (p := 7) rfl (by decide +kernel)
theorem dcX1_goRound_9 : decode cX1_goRound 9 = .ok (.iload 6, 2) := dw_at cX1_goRound_k0 (p := 9) rfl (by decide +kernel)
theorem dcX1_goRound_11 : decode cX1_goRound 11 = .ok (.bipush 16, 2) := dw_at cX1_goRound_k0 (p := 11) rfl (by decide +kernel)
theorem dcX1_goRound_13 : decode cX1_goRound 13 = .ok (.if_icmp .ge 147, 3) := dw_at cX1_goRound_k0 (p := 13) rfl (by decide +kernel)
theorem dcX1_goRound_16 : decode cX1_goRound 16 = .ok (.aload_n 0, 1) := dw_at cX1_goRound_k0 (p := 16) rfl (by decide +kernel)
theorem dcX1_goRound_17 : decode cX1_goRound 17 = .ok (.getfield 18, 3) := dw_at cX1_goRound_k0 (p := 17) rfl (by decide +kernel)
theorem dcX1_goRound_20 : decode cX1_goRound 20 = .ok (.iload_n 1, 1) := dw_at cX1_goRound_k0 (p := 20) rfl (by decide +kernel)
theorem dcX1_goRound_21 : decode cX1_goRound 21 = .ok (.bipush 16, 2) := dw_at cX1_goRound_k0 (p := 21) rfl (by decide +kernel)
theorem dcX1_goRound_23 : decode cX1_goRound 23 = .ok (.imul, 1) := dw_at cX1_goRound_k0 (p := 23) rfl (by decide +kernel)
theorem dcX1_goRound_24 : decode cX1_goRound 24 = .ok (.iload 4, 2) := dw_at cX1_goRound_k1 (p := 0) rfl (by decide +kernel)
theorem dcX1_goRound_26 : decode cX1_goRound 26 = .ok (.iadd, 1) := dw_at cX1_goRound_k1 (p := 2) rfl (by decide +kernel)
theorem dcX1_goRound_27 : decode cX1_goRound 27 = .ok (.baload, 1) := dw_at cX1_goRound_k1 (p := 3) rfl (by decide +kernel)
theorem dcX1_goRound_28 : decode cX1_goRound 28 = .ok (.iconst (-1), 1) := dw_at cX1_goRound_k1 (p := 4) rfl (by decide +kernel)
theorem dcX1_goRound_29 : decode cX1_goRound 29 = .ok (.if_icmp .ne 131, 3) := dw_at cX1_goRound_k1 (p := 5) rfl (by decide +kernel)
theorem dcX1_goRound_32 : decode cX1_goRound 32 = .ok (.aload_n 0, 1) := dw_at cX1_goRound_k1 (p := 8) rfl (by decide +kernel)
theorem dcX1_goRound_33 : decode cX1_goRound 33 = .ok (.getfield 18, 3) := dw_at cX1_goRound_k1 (p := 9) rfl (by decide +kernel)
theorem dcX1_goRound_36 : decode cX1_goRound 36 = .ok (.iload_n 1, 1) := dw_at cX1_goRound_k1 (p := 12) rfl (by decide +kernel)
theorem dcX1_goRound_37 : decode cX1_goRound 37 = .ok (.bipush 16, 2) := dw_at cX1_goRound_k1 (p := 13) rfl (by decide +kernel)
theorem dcX1_goRound_39 : decode cX1_goRound 39 = .ok (.imul, 1) := dw_at cX1_goRound_k1 (p := 15) rfl (by decide +kernel)
theorem dcX1_goRound_40 : decode cX1_goRound 40 = .ok (.iload 4, 2) := dw_at cX1_goRound_k1 (p := 16) rfl (by decide +kernel)
theorem dcX1_goRound_42 : decode cX1_goRound 42 = .ok (.iadd, 1) := dw_at cX1_goRound_k1 (p := 18) rfl (by decide +kernel)
theorem dcX1_goRound_43 : decode cX1_goRound 43 = .ok (.iload_n 3, 1) := dw_at cX1_goRound_k1 (p := 19) rfl (by decide +kernel)
theorem dcX1_goRound_44 : decode cX1_goRound 44 = .ok (.i2b, 1) := dw_at cX1_goRound_k1 (p := 20) rfl (by decide +kernel)
theorem dcX1_goRound_45 : decode cX1_goRound 45 = .ok (.bastore, 1) := dw_at cX1_goRound_k1 (p := 21) rfl (by decide +kernel)
theorem dcX1_goRound_46 : decode cX1_goRound 46 = .ok (.iload 5, 2) := dw_at cX1_goRound_k1 (p := 22) rfl (by decide +kernel)
theorem dcX1_goRound_48 : decode cX1_goRound 48 = .ok (.ifCond .eq 16, 3) := dw_at cX1_goRound_k2 (p := 0) rfl (by decide +kernel)
theorem dcX1_goRound_51 : decode cX1_goRound 51 = .ok (.aload_n 0, 1) := dw_at cX1_goRound_k2 (p := 3) rfl (by decide +kernel)
theorem dcX1_goRound_52 : decode cX1_goRound 52 = .ok (.getfield 12, 3) := dw_at cX1_goRound_k2 (p := 4) rfl (by decide +kernel)
theorem dcX1_goRound_55 : decode cX1_goRound 55 = .ok (.getfield 145, 3) := dw_at cX1_goRound_k2 (p := 7) rfl (by decide +kernel)
theorem dcX1_goRound_58 : decode cX1_goRound 58 = .ok (.iload 4, 2) := dw_at cX1_goRound_k2 (p := 10) rfl (by decide +kernel)
theorem dcX1_goRound_60 : decode cX1_goRound 60 = .ok (.iaload, 1) := dw_at cX1_goRound_k2 (p := 12) rfl (by decide +kernel)
theorem dcX1_goRound_61 : decode cX1_goRound 61 = .ok (.goto 5, 3) := dw_at cX1_goRound_k2 (p := 13) rfl (by decide +kernel)
theorem dcX1_goRound_64 : decode cX1_goRound 64 = .ok (.iload 4, 2) := dw_at cX1_goRound_k2 (p := 16) rfl (by decide +kernel)
theorem dcX1_goRound_66 : decode cX1_goRound 66 = .ok (.istore 7, 2) := dw_at cX1_goRound_k2 (p := 18) rfl (by decide +kernel)
theorem dcX1_goRound_68 : decode cX1_goRound 68 = .ok (.aload_n 0, 1) := dw_at cX1_goRound_k2 (p := 20) rfl (by decide +kernel)
theorem dcX1_goRound_69 : decode cX1_goRound 69 = .ok (.getfield 12, 3) := dw_at cX1_goRound_k2 (p := 21) rfl (by decide +kernel)
theorem dcX1_goRound_72 : decode cX1_goRound 72 = .ok (.getfield 148, 3) := dw_at cX1_goRound_k3 (p := 0) rfl (by decide +kernel)
theorem dcX1_goRound_75 : decode cX1_goRound 75 = .ok (.iload 7, 2) := dw_at cX1_goRound_k3 (p := 3) rfl (by decide +kernel)
theorem dcX1_goRound_77 : decode cX1_goRound 77 = .ok (.iconst 1, 1) := dw_at cX1_goRound_k3 (p := 5) rfl (by decide +kernel)
theorem dcX1_goRound_78 : decode cX1_goRound 78 = .ok (.ishr, 1) := dw_at cX1_goRound_k3 (p := 6) rfl (by decide +kernel)
theorem dcX1_goRound_79 : decode cX1_goRound 79 = .ok (.iaload, 1) := dw_at cX1_goRound_k3 (p := 7) rfl (by decide +kernel)
theorem dcX1_goRound_80 : decode cX1_goRound 80 = .ok (.ifCond .le 7, 3) := dw_at cX1_goRound_k3 (p := 8) rfl (by decide +kernel)
theorem dcX1_goRound_83 : decode cX1_goRound 83 = .ok (.iconst 1, 1) := dw_at cX1_goRound_k3 (p := 11) rfl (by decide +kernel)
theorem dcX1_goRound_84 : decode cX1_goRound 84 = .ok (.goto 4, 3) := dw_at cX1_goRound_k3 (p := 12) rfl (by decide +kernel)
theorem dcX1_goRound_87 : decode cX1_goRound 87 = .ok (.iconst 0, 1) := dw_at cX1_goRound_k3 (p := 15) rfl (by decide +kernel)
theorem dcX1_goRound_88 : decode cX1_goRound 88 = .ok (.iload_n 1, 1) := dw_at cX1_goRound_k3 (p := 16) rfl (by decide +kernel)
theorem dcX1_goRound_89 : decode cX1_goRound 89 = .ok (.iload 7, 2) := dw_at cX1_goRound_k3 (p := 17) rfl (by decide +kernel)
theorem dcX1_goRound_91 : decode cX1_goRound 91 = .ok (.iconst 1, 1) := dw_at cX1_goRound_k3 (p := 19) rfl (by decide +kernel)
theorem dcX1_goRound_92 : decode cX1_goRound 92 = .ok (.ishr, 1) := dw_at cX1_goRound_k3 (p := 20) rfl (by decide +kernel)
theorem dcX1_goRound_93 : decode cX1_goRound 93 = .ok (.ishr, 1) := dw_at cX1_goRound_k3 (p := 21) rfl (by decide +kernel)
theorem dcX1_goRound_94 : decode cX1_goRound 94 = .ok (.iconst 1, 1) := dw_at cX1_goRound_k3 (p := 22) rfl (by decide +kernel)
theorem dcX1_goRound_95 : decode cX1_goRound 95 = .ok (.iand, 1) := dw_at cX1_goRound_k3 (p := 23) rfl (by decide +kernel)
theorem dcX1_goRound_96 : decode cX1_goRound 96 = .ok (.ifCond .ne 7, 3) := dw_at cX1_goRound_k4 (p := 0) rfl (by decide +kernel)
theorem dcX1_goRound_99 : decode cX1_goRound 99 = .ok (.iconst 1, 1) := dw_at cX1_goRound_k4 (p := 3) rfl (by decide +kernel)
theorem dcX1_goRound_100 : decode cX1_goRound 100 = .ok (.goto 4, 3) := dw_at cX1_goRound_k4 (p := 4) rfl (by decide +kernel)
theorem dcX1_goRound_103 : decode cX1_goRound 103 = .ok (.iconst 0, 1) := dw_at cX1_goRound_k4 (p := 7) rfl (by decide +kernel)
theorem dcX1_goRound_104 : decode cX1_goRound 104 = .ok (.if_icmp .ne 7, 3) := dw_at cX1_goRound_k4 (p := 8) rfl (by decide +kernel)
theorem dcX1_goRound_107 : decode cX1_goRound 107 = .ok (.iconst 1, 1) := dw_at cX1_goRound_k4 (p := 11) rfl (by decide +kernel)
theorem dcX1_goRound_108 : decode cX1_goRound 108 = .ok (.goto 4, 3) := dw_at cX1_goRound_k4 (p := 12) rfl (by decide +kernel)
theorem dcX1_goRound_111 : decode cX1_goRound 111 = .ok (.iconst 0, 1) := dw_at cX1_goRound_k4 (p := 15) rfl (by decide +kernel)
theorem dcX1_goRound_112 : decode cX1_goRound 112 = .ok (.istore 8, 2) := dw_at cX1_goRound_k4 (p := 16) rfl (by decide +kernel)
theorem dcX1_goRound_114 : decode cX1_goRound 114 = .ok (.iload 8, 2) := dw_at cX1_goRound_k4 (p := 18) rfl (by decide +kernel)
theorem dcX1_goRound_116 : decode cX1_goRound 116 = .ok (.iload 5, 2) := dw_at cX1_goRound_k4 (p := 20) rfl (by decide +kernel)
theorem dcX1_goRound_118 : decode cX1_goRound 118 = .ok (.if_icmp .ne 7, 3) := dw_at cX1_goRound_k4 (p := 22) rfl (by decide +kernel)
theorem dcX1_goRound_121 : decode cX1_goRound 121 = .ok (.iconst 1, 1) := dw_at cX1_goRound_k5 (p := 0) rfl (by decide +kernel)
theorem dcX1_goRound_122 : decode cX1_goRound 122 = .ok (.goto 4, 3) := dw_at cX1_goRound_k5 (p := 1) rfl (by decide +kernel)
theorem dcX1_goRound_125 : decode cX1_goRound 125 = .ok (.iconst 0, 1) := dw_at cX1_goRound_k5 (p := 4) rfl (by decide +kernel)
theorem dcX1_goRound_126 : decode cX1_goRound 126 = .ok (.istore 5, 2) := dw_at cX1_goRound_k5 (p := 5) rfl (by decide +kernel)
theorem dcX1_goRound_128 : decode cX1_goRound 128 = .ok (.iload 5, 2) := dw_at cX1_goRound_k5 (p := 7) rfl (by decide +kernel)
theorem dcX1_goRound_130 : decode cX1_goRound 130 = .ok (.ifCond .eq 10, 3) := dw_at cX1_goRound_k5 (p := 9) rfl (by decide +kernel)
theorem dcX1_goRound_133 : decode cX1_goRound 133 = .ok (.iload 7, 2) := dw_at cX1_goRound_k5 (p := 12) rfl (by decide +kernel)
theorem dcX1_goRound_135 : decode cX1_goRound 135 = .ok (.iconst 1, 1) := dw_at cX1_goRound_k5 (p := 14) rfl (by decide +kernel)
theorem dcX1_goRound_136 : decode cX1_goRound 136 = .ok (.ixor, 1) := dw_at cX1_goRound_k5 (p := 15) rfl (by decide +kernel)
theorem dcX1_goRound_137 : decode cX1_goRound 137 = .ok (.goto 15, 3) := dw_at cX1_goRound_k5 (p := 16) rfl (by decide +kernel)
theorem dcX1_goRound_140 : decode cX1_goRound 140 = .ok (.aload_n 0, 1) := dw_at cX1_goRound_k5 (p := 19) rfl (by decide +kernel)
theorem dcX1_goRound_141 : decode cX1_goRound 141 = .ok (.getfield 12, 3) := dw_at cX1_goRound_k5 (p := 20) rfl (by decide +kernel)
theorem dcX1_goRound_144 : decode cX1_goRound 144 = .ok (.getfield 151, 3) := dw_at cX1_goRound_k5 (p := 23) rfl (by decide +kernel)
theorem dcX1_goRound_147 : decode cX1_goRound 147 = .ok (.iload 7, 2) := dw_at cX1_goRound_k6 (p := 0) rfl (by decide +kernel)
theorem dcX1_goRound_149 : decode cX1_goRound 149 = .ok (.iconst 1, 1) := dw_at cX1_goRound_k6 (p := 2) rfl (by decide +kernel)
theorem dcX1_goRound_150 : decode cX1_goRound 150 = .ok (.ixor, 1) := dw_at cX1_goRound_k6 (p := 3) rfl (by decide +kernel)
theorem dcX1_goRound_151 : decode cX1_goRound 151 = .ok (.iaload, 1) := dw_at cX1_goRound_k6 (p := 4) rfl (by decide +kernel)
theorem dcX1_goRound_152 : decode cX1_goRound 152 = .ok (.istore 4, 2) := dw_at cX1_goRound_k6 (p := 5) rfl (by decide +kernel)
theorem dcX1_goRound_154 : decode cX1_goRound 154 = .ok (.iinc 6 1, 3) := dw_at cX1_goRound_k6 (p := 7) rfl (by decide +kernel)
theorem dcX1_goRound_157 : decode cX1_goRound 157 = .ok (.goto (-148), 3) := dw_at cX1_goRound_k6 (p := 10) rfl (by decide +kernel)
theorem dcX1_goRound_160 : decode cX1_goRound 160 = .ok (.return_, 1) := dw_at cX1_goRound_k6 (p := 13) rfl (by decide +kernel)
def cm_X1_goRound_0 (vl : Nat → Nat) (K : Nat) (go : Nat → Int32 → Int32 → Int32 → Int32 → Int32 → Int32 → Int32 → Int32 → Nat → Int32 → Int32 → ow_MS → Option ow_MS) (x1 : Int32) (x2 : Int32) (x3 : Int32) (x4 : Int32) (x5 : Int32) (x6 : Int32) (x7 : Int32) (x8 : Int32) (r0 : Nat) (t0 : Int32) (t1 : Int32) (z : ow_MS) : Option ow_MS :=
 go 1 x1 x2 x3 x2 1 0 0 0 r0 0 0 z
def cm_X1_goRound_1 (vl : Nat → Nat) (K : Nat) (go : Nat → Int32 → Int32 → Int32 → Int32 → Int32 → Int32 → Int32 → Int32 → Nat → Int32 → Int32 → ow_MS → Option ow_MS) (x1 : Int32) (x2 : Int32) (x3 : Int32) (x4 : Int32) (x5 : Int32) (x6 : Int32) (x7 : Int32) (x8 : Int32) (r0 : Nat) (t0 : Int32) (t1 : Int32) (z : ow_MS) : Option ow_MS :=
 (if 16 ≤ x6 then some z
 else crI (cX vl) z (r0 + 2) ((x1 * 16) + x4) fun v1 => (if v1 = (-1) then ctB (cX vl) z (r0 + 2) ((x1 * 16) + x4) x3.toInt8.toInt32 fun z2 => (if x5 = 0 then go 2 x1 x2 x3 x4 x5 x6 0 0 r0 x4 0 z2
 else crI (cX vl) z2 ((r0 + 1000) + 1) x4 fun v3 => go 2 x1 x2 x3 x4 x5 x6 0 0 r0 v3 0 z2)
 else some z))
def cm_X1_goRound_2 (vl : Nat → Nat) (K : Nat) (go : Nat → Int32 → Int32 → Int32 → Int32 → Int32 → Int32 → Int32 → Int32 → Nat → Int32 → Int32 → ow_MS → Option ow_MS) (x1 : Int32) (x2 : Int32) (x3 : Int32) (x4 : Int32) (x5 : Int32) (x6 : Int32) (x7 : Int32) (x8 : Int32) (r0 : Nat) (t0 : Int32) (t1 : Int32) (z : ow_MS) : Option ow_MS :=
 crI (cX vl) z ((r0 + 1000) + 3) ((t0 : Int32) >>> ((1 : Int32) &&& 31)) fun v4 => (if v4 ≤ 0 then go 3 x1 x2 x3 x4 x5 x6 t0 0 r0 0 0 z
 else go 3 x1 x2 x3 x4 x5 x6 t0 0 r0 1 0 z)
def cm_X1_goRound_3 (vl : Nat → Nat) (K : Nat) (go : Nat → Int32 → Int32 → Int32 → Int32 → Int32 → Int32 → Int32 → Int32 → Nat → Int32 → Int32 → ow_MS → Option ow_MS) (x1 : Int32) (x2 : Int32) (x3 : Int32) (x4 : Int32) (x5 : Int32) (x6 : Int32) (x7 : Int32) (x8 : Int32) (r0 : Nat) (t0 : Int32) (t1 : Int32) (z : ow_MS) : Option ow_MS :=
 (if (((x1 : Int32) >>> ((((x7 : Int32) >>> ((1 : Int32) &&& 31)) : Int32) &&& 31)) &&& 1) = 0 then go 4 x1 x2 x3 x4 x5 x6 x7 0 r0 1 t0 z
 else go 4 x1 x2 x3 x4 x5 x6 x7 0 r0 0 t0 z)
def cm_X1_goRound_4 (vl : Nat → Nat) (K : Nat) (go : Nat → Int32 → Int32 → Int32 → Int32 → Int32 → Int32 → Int32 → Int32 → Nat → Int32 → Int32 → ow_MS → Option ow_MS) (x1 : Int32) (x2 : Int32) (x3 : Int32) (x4 : Int32) (x5 : Int32) (x6 : Int32) (x7 : Int32) (x8 : Int32) (r0 : Nat) (t0 : Int32) (t1 : Int32) (z : ow_MS) : Option ow_MS :=
 (if t1 = t0 then go 5 x1 x2 x3 x4 x5 x6 x7 0 r0 1 0 z
 else go 5 x1 x2 x3 x4 x5 x6 x7 0 r0 0 0 z)
def cm_X1_goRound_5 (vl : Nat → Nat) (K : Nat) (go : Nat → Int32 → Int32 → Int32 → Int32 → Int32 → Int32 → Int32 → Int32 → Nat → Int32 → Int32 → ow_MS → Option ow_MS) (x1 : Int32) (x2 : Int32) (x3 : Int32) (x4 : Int32) (x5 : Int32) (x6 : Int32) (x7 : Int32) (x8 : Int32) (r0 : Nat) (t0 : Int32) (t1 : Int32) (z : ow_MS) : Option ow_MS :=
 (if t0 = x5 then go 6 x1 x2 x3 x4 x5 x6 x7 t0 r0 1 0 z
 else go 6 x1 x2 x3 x4 x5 x6 x7 t0 r0 0 0 z)
def cm_X1_goRound_6 (vl : Nat → Nat) (K : Nat) (go : Nat → Int32 → Int32 → Int32 → Int32 → Int32 → Int32 → Int32 → Int32 → Nat → Int32 → Int32 → ow_MS → Option ow_MS) (x1 : Int32) (x2 : Int32) (x3 : Int32) (x4 : Int32) (x5 : Int32) (x6 : Int32) (x7 : Int32) (x8 : Int32) (r0 : Nat) (t0 : Int32) (t1 : Int32) (z : ow_MS) : Option ow_MS :=
 (if t0 = 0 then crI (cX vl) z ((r0 + 1000) + 2) (x7 ^^^ 1) fun v5 => go 7 x1 x2 x3 x4 t0 x6 x7 x8 r0 v5 0 z
 else go 7 x1 x2 x3 x4 t0 x6 x7 x8 r0 (x7 ^^^ 1) 0 z)
def cm_X1_goRound_7 (vl : Nat → Nat) (K : Nat) (go : Nat → Int32 → Int32 → Int32 → Int32 → Int32 → Int32 → Int32 → Int32 → Nat → Int32 → Int32 → ow_MS → Option ow_MS) (x1 : Int32) (x2 : Int32) (x3 : Int32) (x4 : Int32) (x5 : Int32) (x6 : Int32) (x7 : Int32) (x8 : Int32) (r0 : Nat) (t0 : Int32) (t1 : Int32) (z : ow_MS) : Option ow_MS :=
 go 1 x1 x2 x3 t0 x5 (x6 + 1) 0 0 r0 0 0 z
def cb_X1_goRound (vl : Nat → Nat) (K : Nat) (go : Nat → Int32 → Int32 → Int32 → Int32 → Int32 → Int32 → Int32 → Int32 → Nat → Int32 → Int32 → ow_MS → Option ow_MS) (L : Nat) (x1 : Int32) (x2 : Int32) (x3 : Int32) (x4 : Int32) (x5 : Int32) (x6 : Int32) (x7 : Int32) (x8 : Int32) (r0 : Nat) (t0 : Int32) (t1 : Int32) (z : ow_MS) : Option ow_MS := match L with
  | 0 => cm_X1_goRound_0 vl K go x1 x2 x3 x4 x5 x6 x7 x8 r0 t0 t1 z
  | 1 => cm_X1_goRound_1 vl K go x1 x2 x3 x4 x5 x6 x7 x8 r0 t0 t1 z
  | 2 => cm_X1_goRound_2 vl K go x1 x2 x3 x4 x5 x6 x7 x8 r0 t0 t1 z
  | 3 => cm_X1_goRound_3 vl K go x1 x2 x3 x4 x5 x6 x7 x8 r0 t0 t1 z
  | 4 => cm_X1_goRound_4 vl K go x1 x2 x3 x4 x5 x6 x7 x8 r0 t0 t1 z
  | 5 => cm_X1_goRound_5 vl K go x1 x2 x3 x4 x5 x6 x7 x8 r0 t0 t1 z
  | 6 => cm_X1_goRound_6 vl K go x1 x2 x3 x4 x5 x6 x7 x8 r0 t0 t1 z
  | 7 => cm_X1_goRound_7 vl K go x1 x2 x3 x4 x5 x6 x7 x8 r0 t0 t1 z
  | _ => none
def c_X1_goRound (vl : Nat → Nat) (K : Nat) : Nat → Nat → Int32 → Int32 → Int32 → Int32 → Int32 → Int32 → Int32 → Int32 → Nat → Int32 → Int32 → ow_MS → Option ow_MS
  | 0 => fun _ _ _ _ _ _ _ _ _ _ _ _ _ => none
  | k + 1 => cb_X1_goRound vl K (c_X1_goRound vl K k)
def ce_X1_goRound (vl : Nat → Nat) (K : Nat) (r0 : Nat) (x1 : Int32) (x2 : Int32) (x3 : Int32) (z : ow_MS) : Option ow_MS := c_X1_goRound vl K K 0 x1 x2 x3 0 0 0 0 0 r0 0 0 z
abbrev wc_X1_goRound : List Cond := .code yX1_goRound cX1_goRound 9 none :: wC
theorem cdd_X1_goRound : yX1_goRound.cls = RX1 ∧ yX1_goRound.cls ≠ "java/lang/invoke/MethodHandle" ∧ yX1_goRound.cls ≠ "java/lang/invoke/VarHandle" ∧ (parseMethodDescriptor yX1_goRound.desc).map (fun d => d.parameters.length) = some 3 := by decide +kernel
set_option maxHeartbeats 4000000 in
set_option maxRecDepth 100000 in
theorem kc_X1_goRound (l : Launch) (D : va_G) (q : Nat → ClassId) (vl u : Nat → Nat) (hU0 : tw_inj (cX vl) u) (K : Nat) (r0 : Nat) (x1 : Int32) (x2 : Int32) (x3 : Int32) (hr0 : cw_X1 r0) (z z1 : ow_MS) (hq : ce_X1_goRound vl K r0 x1 x2 x3 z = some z1) : Met l yX1_goRound wc_X1_goRound ({ frames := 0, cells := 0, slots := 0, locals := 0 } : Room) (va_Pc [.ref (u r0), .int x1, .int x2, .int x3] (cw_pre D q vl u z)) (va_Qv (fun (_ : Unit) => True) (fun _ t => va_P D vwCl (uw (cX vl) q u z1) t.heap) (tw_A (cX vl) u)) 0 0 (tw_A (cX vl) u) := by
  refine Met.ofW (cc := cX1_goRound) (maxL := 9) (ret := none) (by decide) rfl ?_
  intro p e s m args below meth c s₁ B hml hv
  obtain ⟨rfl, hP, hK⟩ := hv
  have hx := B.exec
  have hb := B.bytes
  have hr := B.returns
  have hts := atoms_spec (ws := wc_X1_goRound) B.pre
  have hT : ∀ w ∈ wC, w.before ([.ref (u r0), .int x1, .int x2, .int x3] : List Value).toArray s = true := fun w h => hts w (List.mem_cons_of_mem _ h)
  have hown : s.vm.findClass RX1 = some m.cls := findClass_of_methodNamed B.named
  have hlocks := B.notSynchronized
  have hU : uw_inj (cX vl) u (tw_A (cX vl) u) := ⟨hU0, fun h hh => ⟨h, hh, rfl⟩⟩
  have hM : uw_M D vwCl (cX vl) q (tw_A (cX vl) u) s.heap u z s.heap [] := ⟨hP, va_S.rf⟩
  have hl := lv_entry ([.ref (u r0), .int x1, .int x2, .int x3]) (n := 9) (Nat.le_of_ble_eq_true rfl)
  rw [lg_entry_eq]
  generalize (lg_sl ([.ref (u r0), .int x1, .int x2, .int x3]) ++ List.replicate (9 - (lg_sl ([.ref (u r0), .int x1, .int x2, .int x3])).length) Slot.unset).toArray = ls at hl ⊢
  have hl : lv_has ls 9 [(0, .ref (u r0)), (1, .int x1), (2, .int x2), (3, .int x3)] := hl
  refine ow_named (fun QQ hQQ => ?_)
  generalize ([.ref (u r0), .int x1, .int x2, .int x3] : List Value).toArray = args at hts hT hQQ ⊢
  have key : ∀ k : Nat, (∀ (x1 : Int32) (x2 : Int32) (x3 : Int32) (x4 : Int32) (x5 : Int32) (x6 : Int32) (x7 : Int32) (x8 : Int32) (r0 : Nat) (t0 : Int32) (t1 : Int32) (z : ow_MS) (H : Heap) (locs : List Loc) (ls : Array Slot), cw_X1 r0 → uw_M D vwCl (cX vl) q (tw_A (cX vl) u) s.heap u z H locs → lv_has ls 9 [(0, .ref (u r0)), (1, .int x1), (2, .int x2), (3, .int x3)] → c_X1_goRound vl K k 0 x1 x2 x3 x4 x5 x6 x7 x8 r0 t0 t1 z = some z1 → W p l e ({ frames := 0, cells := 0, slots := 0, locals := 0 } : Room) s m args below meth c H locs 0 0 QQ (F0 m 0 ls [])) ∧ (∀ (x1 : Int32) (x2 : Int32) (x3 : Int32) (x4 : Int32) (x5 : Int32) (x6 : Int32) (x7 : Int32) (x8 : Int32) (r0 : Nat) (t0 : Int32) (t1 : Int32) (z : ow_MS) (H : Heap) (locs : List Loc) (ls : Array Slot), cw_X1 r0 → uw_M D vwCl (cX vl) q (tw_A (cX vl) u) s.heap u z H locs → lv_has ls 9 [(0, .ref (u r0)), (1, .int x1), (2, .int x2), (3, .int x3), (4, .int x4), (5, .int x5), (6, .int x6)] → c_X1_goRound vl K k 1 x1 x2 x3 x4 x5 x6 x7 x8 r0 t0 t1 z = some z1 → W p l e ({ frames := 0, cells := 0, slots := 0, locals := 0 } : Room) s m args below meth c H locs 0 0 QQ (F0 m 9 ls [])) ∧ (∀ (x1 : Int32) (x2 : Int32) (x3 : Int32) (x4 : Int32) (x5 : Int32) (x6 : Int32) (x7 : Int32) (x8 : Int32) (r0 : Nat) (t0 : Int32) (t1 : Int32) (z : ow_MS) (H : Heap) (locs : List Loc) (ls : Array Slot), cw_X1 r0 → uw_M D vwCl (cX vl) q (tw_A (cX vl) u) s.heap u z H locs → lv_has ls 9 [(0, .ref (u r0)), (1, .int x1), (2, .int x2), (3, .int x3), (4, .int x4), (5, .int x5), (6, .int x6)] → c_X1_goRound vl K k 2 x1 x2 x3 x4 x5 x6 x7 x8 r0 t0 t1 z = some z1 → W p l e ({ frames := 0, cells := 0, slots := 0, locals := 0 } : Room) s m args below meth c H locs 0 0 QQ (F0 m 66 ls [.int t0])) ∧ (∀ (x1 : Int32) (x2 : Int32) (x3 : Int32) (x4 : Int32) (x5 : Int32) (x6 : Int32) (x7 : Int32) (x8 : Int32) (r0 : Nat) (t0 : Int32) (t1 : Int32) (z : ow_MS) (H : Heap) (locs : List Loc) (ls : Array Slot), cw_X1 r0 → uw_M D vwCl (cX vl) q (tw_A (cX vl) u) s.heap u z H locs → lv_has ls 9 [(0, .ref (u r0)), (1, .int x1), (2, .int x2), (3, .int x3), (4, .int x4), (5, .int x5), (6, .int x6), (7, .int x7)] → c_X1_goRound vl K k 3 x1 x2 x3 x4 x5 x6 x7 x8 r0 t0 t1 z = some z1 → W p l e ({ frames := 0, cells := 0, slots := 0, locals := 0 } : Room) s m args below meth c H locs 0 0 QQ (F0 m 88 ls [.int t0])) ∧ (∀ (x1 : Int32) (x2 : Int32) (x3 : Int32) (x4 : Int32) (x5 : Int32) (x6 : Int32) (x7 : Int32) (x8 : Int32) (r0 : Nat) (t0 : Int32) (t1 : Int32) (z : ow_MS) (H : Heap) (locs : List Loc) (ls : Array Slot), cw_X1 r0 → uw_M D vwCl (cX vl) q (tw_A (cX vl) u) s.heap u z H locs → lv_has ls 9 [(0, .ref (u r0)), (1, .int x1), (2, .int x2), (3, .int x3), (4, .int x4), (5, .int x5), (6, .int x6), (7, .int x7)] → c_X1_goRound vl K k 4 x1 x2 x3 x4 x5 x6 x7 x8 r0 t0 t1 z = some z1 → W p l e ({ frames := 0, cells := 0, slots := 0, locals := 0 } : Room) s m args below meth c H locs 0 0 QQ (F0 m 104 ls [.int t0, .int t1])) ∧ (∀ (x1 : Int32) (x2 : Int32) (x3 : Int32) (x4 : Int32) (x5 : Int32) (x6 : Int32) (x7 : Int32) (x8 : Int32) (r0 : Nat) (t0 : Int32) (t1 : Int32) (z : ow_MS) (H : Heap) (locs : List Loc) (ls : Array Slot), cw_X1 r0 → uw_M D vwCl (cX vl) q (tw_A (cX vl) u) s.heap u z H locs → lv_has ls 9 [(0, .ref (u r0)), (1, .int x1), (2, .int x2), (3, .int x3), (4, .int x4), (5, .int x5), (6, .int x6), (7, .int x7)] → c_X1_goRound vl K k 5 x1 x2 x3 x4 x5 x6 x7 x8 r0 t0 t1 z = some z1 → W p l e ({ frames := 0, cells := 0, slots := 0, locals := 0 } : Room) s m args below meth c H locs 0 0 QQ (F0 m 112 ls [.int t0])) ∧ (∀ (x1 : Int32) (x2 : Int32) (x3 : Int32) (x4 : Int32) (x5 : Int32) (x6 : Int32) (x7 : Int32) (x8 : Int32) (r0 : Nat) (t0 : Int32) (t1 : Int32) (z : ow_MS) (H : Heap) (locs : List Loc) (ls : Array Slot), cw_X1 r0 → uw_M D vwCl (cX vl) q (tw_A (cX vl) u) s.heap u z H locs → lv_has ls 9 [(0, .ref (u r0)), (1, .int x1), (2, .int x2), (3, .int x3), (4, .int x4), (5, .int x5), (6, .int x6), (7, .int x7), (8, .int x8)] → c_X1_goRound vl K k 6 x1 x2 x3 x4 x5 x6 x7 x8 r0 t0 t1 z = some z1 → W p l e ({ frames := 0, cells := 0, slots := 0, locals := 0 } : Room) s m args below meth c H locs 0 0 QQ (F0 m 126 ls [.int t0])) ∧ (∀ (x1 : Int32) (x2 : Int32) (x3 : Int32) (x4 : Int32) (x5 : Int32) (x6 : Int32) (x7 : Int32) (x8 : Int32) (r0 : Nat) (t0 : Int32) (t1 : Int32) (z : ow_MS) (H : Heap) (locs : List Loc) (ls : Array Slot), cw_X1 r0 → uw_M D vwCl (cX vl) q (tw_A (cX vl) u) s.heap u z H locs → lv_has ls 9 [(0, .ref (u r0)), (1, .int x1), (2, .int x2), (3, .int x3), (4, .int x4), (5, .int x5), (6, .int x6), (7, .int x7), (8, .int x8)] → c_X1_goRound vl K k 7 x1 x2 x3 x4 x5 x6 x7 x8 r0 t0 t1 z = some z1 → W p l e ({ frames := 0, cells := 0, slots := 0, locals := 0 } : Room) s m args below meth c H locs 0 0 QQ (F0 m 152 ls [.int t0])) := by
    intro k
    induction k with
    | zero => exact ⟨fun _ _ _ _ _ _ _ _ _ _ _ _ _ _ _ _ _ _ hq => cw_no hq, fun _ _ _ _ _ _ _ _ _ _ _ _ _ _ _ _ _ _ hq => cw_no hq, fun _ _ _ _ _ _ _ _ _ _ _ _ _ _ _ _ _ _ hq => cw_no hq, fun _ _ _ _ _ _ _ _ _ _ _ _ _ _ _ _ _ _ hq => cw_no hq, fun _ _ _ _ _ _ _ _ _ _ _ _ _ _ _ _ _ _ hq => cw_no hq, fun _ _ _ _ _ _ _ _ _ _ _ _ _ _ _ _ _ _ hq => cw_no hq, fun _ _ _ _ _ _ _ _ _ _ _ _ _ _ _ _ _ _ hq => cw_no hq, fun _ _ _ _ _ _ _ _ _ _ _ _ _ _ _ _ _ _ hq => cw_no hq⟩
    | succ k ih =>
      obtain ⟨ih_0, ih_1, ih_2, ih_3, ih_4, ih_5, ih_6, ih_7⟩ := ih
      refine ⟨?_, ?_, ?_, ?_, ?_, ?_, ?_, ?_⟩
      · intro x1 x2 x3 x4 x5 x6 x7 x8 r0 t0 t1 z H locs ls hr0 hM hl hq
        have hq : cm_X1_goRound_0 vl K (c_X1_goRound vl K k) x1 x2 x3 x4 x5 x6 x7 x8 r0 t0 t1 z = some z1 := hq
        unfold cm_X1_goRound_0 at hq
        refine lv_iload_n hx hb dcX1_goRound_0 rfl (lv_at hl 2 rfl) ?_
        refine lv_istore (lv' := [(4, .int x2), (0, .ref (u r0)), (1, .int x1), (2, .int x2), (3, .int x3)]) hx hb dcX1_goRound_1 hl (by decide) rfl (fun ls hl => ?_)
        refine lv_iconst (v := 1) hx hb dcX1_goRound_3 (by decide) ?_
        refine lv_istore (lv' := [(5, .int 1), (4, .int x2), (0, .ref (u r0)), (1, .int x1), (2, .int x2), (3, .int x3)]) hx hb dcX1_goRound_4 hl (by decide) rfl (fun ls hl => ?_)
        refine lv_iconst (v := 0) hx hb dcX1_goRound_6 (by decide) ?_
        refine lv_istore (lv' := [(6, .int 0), (5, .int 1), (4, .int x2), (0, .ref (u r0)), (1, .int x1), (2, .int x2), (3, .int x3)]) hx hb dcX1_goRound_7 hl (by decide) rfl (fun ls hl => ?_)
        exact ih_1 x1 x2 x3 x2 1 0 0 0 r0 0 0 z H locs ls hr0 hM (lv_sub hl [3, 4, 5, 6, 2, 1, 0] rfl) hq
      · intro x1 x2 x3 x4 x5 x6 x7 x8 r0 t0 t1 z H locs ls hr0 hM hl hq
        have hq : cm_X1_goRound_1 vl K (c_X1_goRound vl K k) x1 x2 x3 x4 x5 x6 x7 x8 r0 t0 t1 z = some z1 := hq
        unfold cm_X1_goRound_1 at hq
        refine lv_iload hx hb dcX1_goRound_9 (lv_at hl 6 rfl) ?_
        refine lv_bipush (v := 16) hx hb dcX1_goRound_11 (by decide) ?_
        refine lv_icmp_ge (tgt := 160) hx hb dcX1_goRound_13 (by decide) (fun hc => ?_) (fun hc => ?_)
        · have hq := tw_it hq hc
          exact cw_vret hx hb hr hlocks hM hq hQQ dcX1_goRound_160
        · have hq := tw_if hq hc
          refine lv_aload_n hx hb dcX1_goRound_16 rfl (lv_at hl 0 rfl) ?_
          refine vgX1_18 hx hb hT hown hK hM hr0 dcX1_goRound_17 ?_
          refine lv_iload_n hx hb dcX1_goRound_20 rfl (lv_at hl 1 rfl) ?_
          refine lv_bipush (v := 16) hx hb dcX1_goRound_21 (by decide) ?_
          refine lv_imul hx hb dcX1_goRound_23 ?_
          refine lv_iload hx hb dcX1_goRound_24 (lv_at hl 4 rfl) ?_
          refine lv_iadd hx hb dcX1_goRound_26 ?_
          refine uw_bald cX_ok hx hb hK hM (cr_X1_1 hr0) hq dcX1_goRound_27 (fun v1 hq => ?_)
          refine lv_iconst (v := (-1)) hx hb dcX1_goRound_28 (by decide) ?_
          refine lv_icmp_ne (tgt := 160) hx hb dcX1_goRound_29 (by decide) (fun hc => ?_) (fun hc => ?_)
          · have hq := tw_if hq hc
            exact cw_vret hx hb hr hlocks hM hq hQQ dcX1_goRound_160
          · have hq := tw_it hq hc
            refine lv_aload_n hx hb dcX1_goRound_32 rfl (lv_at hl 0 rfl) ?_
            refine vgX1_18 hx hb hT hown hK hM hr0 dcX1_goRound_33 ?_
            refine lv_iload_n hx hb dcX1_goRound_36 rfl (lv_at hl 1 rfl) ?_
            refine lv_bipush (v := 16) hx hb dcX1_goRound_37 (by decide) ?_
            refine lv_imul hx hb dcX1_goRound_39 ?_
            refine lv_iload hx hb dcX1_goRound_40 (lv_at hl 4 rfl) ?_
            refine lv_iadd hx hb dcX1_goRound_42 ?_
            refine lv_iload_n hx hb dcX1_goRound_43 rfl (lv_at hl 3 rfl) ?_
            refine lv_i2b hx hb dcX1_goRound_44 rfl ?_
            refine uw_bast cX_ok hU hx hb hK hM (cr_X1_1 hr0) hq dcX1_goRound_45 (fun z2 H locs hM hq => ?_)
            refine lv_iload hx hb dcX1_goRound_46 (lv_at hl 5 rfl) ?_
            refine lv_if_eq (tgt := 64) hx hb dcX1_goRound_48 (by decide) (fun hc => ?_) (fun hc => ?_)
            · have hq := tw_it hq hc
              refine lv_iload hx hb dcX1_goRound_64 (lv_at hl 4 rfl) ?_
              exact ih_2 x1 x2 x3 x4 x5 x6 0 0 r0 x4 0 z2 H locs ls hr0 hM (lv_sub hl [0, 1, 2, 3, 4, 5, 6] rfl) hq
            · have hq := tw_if hq hc
              refine lv_aload_n hx hb dcX1_goRound_51 rfl (lv_at hl 0 rfl) ?_
              refine vgX1_12 hx hb hT hown hK hM hr0 dcX1_goRound_52 ?_
              refine vgX1_145 hx hb hT hown hK hM (cs_X1_0 hr0) dcX1_goRound_55 ?_
              refine lv_iload hx hb dcX1_goRound_58 (lv_at hl 4 rfl) ?_
              refine uw_iald cX_ok hx hb hK hM (cr_X7_0 (cs_X1_0 hr0)) hq dcX1_goRound_60 (fun v3 hq => ?_)
              refine lv_goto (tgt := 66) hx hb dcX1_goRound_61 (by decide) ?_
              exact ih_2 x1 x2 x3 x4 x5 x6 0 0 r0 v3 0 z2 H locs ls hr0 hM (lv_sub hl [0, 1, 2, 3, 4, 5, 6] rfl) hq
      · intro x1 x2 x3 x4 x5 x6 x7 x8 r0 t0 t1 z H locs ls hr0 hM hl hq
        have hq : cm_X1_goRound_2 vl K (c_X1_goRound vl K k) x1 x2 x3 x4 x5 x6 x7 x8 r0 t0 t1 z = some z1 := hq
        unfold cm_X1_goRound_2 at hq
        refine lv_istore (lv' := [(7, .int t0), (0, .ref (u r0)), (1, .int x1), (2, .int x2), (3, .int x3), (4, .int x4), (5, .int x5), (6, .int x6)]) hx hb dcX1_goRound_66 hl (by decide) rfl (fun ls hl => ?_)
        refine lv_aload_n hx hb dcX1_goRound_68 rfl (lv_at hl 1 rfl) ?_
        refine vgX1_12 hx hb hT hown hK hM hr0 dcX1_goRound_69 ?_
        refine vgX1_148 hx hb hT hown hK hM (cs_X1_0 hr0) dcX1_goRound_72 ?_
        refine lv_iload hx hb dcX1_goRound_75 (lv_at hl 0 rfl) ?_
        refine lv_iconst (v := 1) hx hb dcX1_goRound_77 (by decide) ?_
        refine lv_ishr hx hb dcX1_goRound_78 ?_
        refine uw_iald cX_ok hx hb hK hM (cr_X7_2 (cs_X1_0 hr0)) hq dcX1_goRound_79 (fun v4 hq => ?_)
        refine lv_if_le (tgt := 87) hx hb dcX1_goRound_80 (by decide) (fun hc => ?_) (fun hc => ?_)
        · have hq := tw_it hq hc
          refine lv_iconst (v := 0) hx hb dcX1_goRound_87 (by decide) ?_
          exact ih_3 x1 x2 x3 x4 x5 x6 t0 0 r0 0 0 z H locs ls hr0 hM (lv_sub hl [1, 2, 3, 4, 5, 6, 7, 0] rfl) hq
        · have hq := tw_if hq hc
          refine lv_iconst (v := 1) hx hb dcX1_goRound_83 (by decide) ?_
          refine lv_goto (tgt := 88) hx hb dcX1_goRound_84 (by decide) ?_
          exact ih_3 x1 x2 x3 x4 x5 x6 t0 0 r0 1 0 z H locs ls hr0 hM (lv_sub hl [1, 2, 3, 4, 5, 6, 7, 0] rfl) hq
      · intro x1 x2 x3 x4 x5 x6 x7 x8 r0 t0 t1 z H locs ls hr0 hM hl hq
        have hq : cm_X1_goRound_3 vl K (c_X1_goRound vl K k) x1 x2 x3 x4 x5 x6 x7 x8 r0 t0 t1 z = some z1 := hq
        unfold cm_X1_goRound_3 at hq
        refine lv_iload_n hx hb dcX1_goRound_88 rfl (lv_at hl 1 rfl) ?_
        refine lv_iload hx hb dcX1_goRound_89 (lv_at hl 7 rfl) ?_
        refine lv_iconst (v := 1) hx hb dcX1_goRound_91 (by decide) ?_
        refine lv_ishr hx hb dcX1_goRound_92 ?_
        refine lv_ishr hx hb dcX1_goRound_93 ?_
        refine lv_iconst (v := 1) hx hb dcX1_goRound_94 (by decide) ?_
        refine lv_iand hx hb dcX1_goRound_95 ?_
        refine lv_if_ne (tgt := 103) hx hb dcX1_goRound_96 (by decide) (fun hc => ?_) (fun hc => ?_)
        · have hq := tw_if hq hc
          refine lv_iconst (v := 0) hx hb dcX1_goRound_103 (by decide) ?_
          exact ih_4 x1 x2 x3 x4 x5 x6 x7 0 r0 0 t0 z H locs ls hr0 hM (lv_sub hl [0, 1, 2, 3, 4, 5, 6, 7] rfl) hq
        · have hq := tw_it hq hc
          refine lv_iconst (v := 1) hx hb dcX1_goRound_99 (by decide) ?_
          refine lv_goto (tgt := 104) hx hb dcX1_goRound_100 (by decide) ?_
          exact ih_4 x1 x2 x3 x4 x5 x6 x7 0 r0 1 t0 z H locs ls hr0 hM (lv_sub hl [0, 1, 2, 3, 4, 5, 6, 7] rfl) hq
      · intro x1 x2 x3 x4 x5 x6 x7 x8 r0 t0 t1 z H locs ls hr0 hM hl hq
        have hq : cm_X1_goRound_4 vl K (c_X1_goRound vl K k) x1 x2 x3 x4 x5 x6 x7 x8 r0 t0 t1 z = some z1 := hq
        unfold cm_X1_goRound_4 at hq
        refine lv_icmp_ne (tgt := 111) hx hb dcX1_goRound_104 (by decide) (fun hc => ?_) (fun hc => ?_)
        · have hq := tw_if hq hc
          refine lv_iconst (v := 0) hx hb dcX1_goRound_111 (by decide) ?_
          exact ih_5 x1 x2 x3 x4 x5 x6 x7 0 r0 0 0 z H locs ls hr0 hM (lv_sub hl [0, 1, 2, 3, 4, 5, 6, 7] rfl) hq
        · have hq := tw_it hq hc
          refine lv_iconst (v := 1) hx hb dcX1_goRound_107 (by decide) ?_
          refine lv_goto (tgt := 112) hx hb dcX1_goRound_108 (by decide) ?_
          exact ih_5 x1 x2 x3 x4 x5 x6 x7 0 r0 1 0 z H locs ls hr0 hM (lv_sub hl [0, 1, 2, 3, 4, 5, 6, 7] rfl) hq
      · intro x1 x2 x3 x4 x5 x6 x7 x8 r0 t0 t1 z H locs ls hr0 hM hl hq
        have hq : cm_X1_goRound_5 vl K (c_X1_goRound vl K k) x1 x2 x3 x4 x5 x6 x7 x8 r0 t0 t1 z = some z1 := hq
        unfold cm_X1_goRound_5 at hq
        refine lv_istore (lv' := [(8, .int t0), (0, .ref (u r0)), (1, .int x1), (2, .int x2), (3, .int x3), (4, .int x4), (5, .int x5), (6, .int x6), (7, .int x7)]) hx hb dcX1_goRound_112 hl (by decide) rfl (fun ls hl => ?_)
        refine lv_iload hx hb dcX1_goRound_114 (lv_at hl 0 rfl) ?_
        refine lv_iload hx hb dcX1_goRound_116 (lv_at hl 6 rfl) ?_
        refine lv_icmp_ne (tgt := 125) hx hb dcX1_goRound_118 (by decide) (fun hc => ?_) (fun hc => ?_)
        · have hq := tw_if hq hc
          refine lv_iconst (v := 0) hx hb dcX1_goRound_125 (by decide) ?_
          exact ih_6 x1 x2 x3 x4 x5 x6 x7 t0 r0 0 0 z H locs ls hr0 hM (lv_sub hl [1, 2, 3, 4, 5, 6, 7, 8, 0] rfl) hq
        · have hq := tw_it hq hc
          refine lv_iconst (v := 1) hx hb dcX1_goRound_121 (by decide) ?_
          refine lv_goto (tgt := 126) hx hb dcX1_goRound_122 (by decide) ?_
          exact ih_6 x1 x2 x3 x4 x5 x6 x7 t0 r0 1 0 z H locs ls hr0 hM (lv_sub hl [1, 2, 3, 4, 5, 6, 7, 8, 0] rfl) hq
      · intro x1 x2 x3 x4 x5 x6 x7 x8 r0 t0 t1 z H locs ls hr0 hM hl hq
        have hq : cm_X1_goRound_6 vl K (c_X1_goRound vl K k) x1 x2 x3 x4 x5 x6 x7 x8 r0 t0 t1 z = some z1 := hq
        unfold cm_X1_goRound_6 at hq
        refine lv_istore (lv' := [(5, .int t0), (0, .ref (u r0)), (1, .int x1), (2, .int x2), (3, .int x3), (4, .int x4), (6, .int x6), (7, .int x7), (8, .int x8)]) hx hb dcX1_goRound_126 hl (by decide) rfl (fun ls hl => ?_)
        refine lv_iload hx hb dcX1_goRound_128 (lv_at hl 0 rfl) ?_
        refine lv_if_eq (tgt := 140) hx hb dcX1_goRound_130 (by decide) (fun hc => ?_) (fun hc => ?_)
        · have hq := tw_it hq hc
          refine lv_aload_n hx hb dcX1_goRound_140 rfl (lv_at hl 1 rfl) ?_
          refine vgX1_12 hx hb hT hown hK hM hr0 dcX1_goRound_141 ?_
          refine vgX1_151 hx hb hT hown hK hM (cs_X1_0 hr0) dcX1_goRound_144 ?_
          refine lv_iload hx hb dcX1_goRound_147 (lv_at hl 7 rfl) ?_
          refine lv_iconst (v := 1) hx hb dcX1_goRound_149 (by decide) ?_
          refine lv_ixor hx hb dcX1_goRound_150 ?_
          refine uw_iald cX_ok hx hb hK hM (cr_X7_1 (cs_X1_0 hr0)) hq dcX1_goRound_151 (fun v5 hq => ?_)
          exact ih_7 x1 x2 x3 x4 t0 x6 x7 x8 r0 v5 0 z H locs ls hr0 hM (lv_sub hl [1, 2, 3, 4, 5, 0, 6, 7, 8] rfl) hq
        · have hq := tw_if hq hc
          refine lv_iload hx hb dcX1_goRound_133 (lv_at hl 7 rfl) ?_
          refine lv_iconst (v := 1) hx hb dcX1_goRound_135 (by decide) ?_
          refine lv_ixor hx hb dcX1_goRound_136 ?_
          refine lv_goto (tgt := 152) hx hb dcX1_goRound_137 (by decide) ?_
          exact ih_7 x1 x2 x3 x4 t0 x6 x7 x8 r0 (x7 ^^^ 1) 0 z H locs ls hr0 hM (lv_sub hl [1, 2, 3, 4, 5, 0, 6, 7, 8] rfl) hq
      · intro x1 x2 x3 x4 x5 x6 x7 x8 r0 t0 t1 z H locs ls hr0 hM hl hq
        have hq : cm_X1_goRound_7 vl K (c_X1_goRound vl K k) x1 x2 x3 x4 x5 x6 x7 x8 r0 t0 t1 z = some z1 := hq
        unfold cm_X1_goRound_7 at hq
        refine lv_istore (lv' := [(4, .int t0), (0, .ref (u r0)), (1, .int x1), (2, .int x2), (3, .int x3), (5, .int x5), (6, .int x6), (7, .int x7), (8, .int x8)]) hx hb dcX1_goRound_152 hl (by decide) rfl (fun ls hl => ?_)
        refine lv_iinc (v := (x6 + 1)) (lv' := [(6, .int (x6 + 1)), (4, .int t0), (0, .ref (u r0)), (1, .int x1), (2, .int x2), (3, .int x3), (5, .int x5), (7, .int x7), (8, .int x8)]) hx hb dcX1_goRound_154 hl (k := 6) rfl rfl (by decide) rfl (fun ls hl => ?_)
        refine lv_goto (tgt := 9) hx hb dcX1_goRound_157 (by decide) ?_
        exact ih_1 x1 x2 x3 t0 x5 (x6 + 1) 0 0 r0 0 0 z H locs ls hr0 hM (lv_sub hl [2, 3, 4, 5, 1, 6, 0] rfl) hq
  exact (key K).1 x1 x2 x3 0 0 0 0 0 r0 0 0 z s.heap [] ls hr0 hM (lv_sub hl [0, 1, 2, 3] rfl) hq
theorem dcX1_markLoops_0 : decode cX1_markLoops 0 = .ok (.iconst 2, 1) := dw_at cX1_markLoops_k0 (p := 0) rfl (by decide +kernel)
theorem dcX1_markLoops_1 : decode cX1_markLoops 1 = .ok (.aload_n 0, 1) := dw_at cX1_markLoops_k0 (p := 1) rfl (by decide +kernel)
theorem dcX1_markLoops_2 : decode cX1_markLoops 2 = .ok (.getfield 12, 3) := dw_at cX1_markLoops_k0 (p := 2) rfl (by decide +kernel)
theorem dcX1_markLoops_5 : decode cX1_markLoops 5 = .ok (.getfield 90, 3) := dw_at cX1_markLoops_k0 (p := 5) rfl (by decide +kernel)
theorem dcX1_markLoops_8 : decode cX1_markLoops 8 = .ok (.imul, 1) := dw_at cX1_markLoops_k0 (p := 8) rfl (by decide +kernel)
theorem dcX1_markLoops_9 : decode cX1_markLoops 9 = .ok (.istore_n 1, 1) := dw_at cX1_markLoops_k0 (p := 9) rfl (by decide +kernel)
theorem dcX1_markLoops_10 : decode cX1_markLoops 10 = .ok (.iconst 0, 1) := dw_at cX1_markLoops_k0 (p := 10) rfl (by decide +kernel)
theorem dcX1_markLoops_11 : decode cX1_markLoops 11 = .ok (.istore_n 2, 1) := dw_at cX1_markLoops_k0 (p := 11) rfl (by decide +kernel)
theorem dcX1_markLoops_12 : decode cX1_markLoops 12 = .ok (.iload_n 2, 1) := dw_at cX1_markLoops_k0 (p := 12) rfl (by decide +kernel)
theorem dcX1_markLoops_13 : decode cX1_markLoops 13 = .ok (.iconst 1, 1) := dw_at cX1_markLoops_k0 (p := 13) rfl (by decide +kernel)
theorem dcX1_markLoops_14 : decode cX1_markLoops 14 = .ok (.aload_n 0, 1) := dw_at cX1_markLoops_k0 (p := 14) rfl (by decide +kernel)
theorem dcX1_markLoops_15 : decode cX1_markLoops 15 = .ok (.getfield 12, 3) := dw_at cX1_markLoops_k0 (p := 15) rfl (by decide +kernel)
theorem dcX1_markLoops_18 : decode cX1_markLoops 18 = .ok (.getfield 90, 3) := dw_at cX1_markLoops_k0 (p := 18) rfl (by decide +kernel)
theorem dcX1_markLoops_21 : decode cX1_markLoops 21 = .ok (.ishl, 1) := dw_at cX1_markLoops_k0 (p := 21) rfl (by decide +kernel)
theorem dcX1_markLoops_22 : decode cX1_markLoops 22 = .ok (.if_icmp .ge 92, 3) := dw_at cX1_markLoops_k0 (p := 22) rfl (by decide +kernel)
theorem dcX1_markLoops_25 : decode cX1_markLoops 25 = .ok (.iconst 0, 1) := dw_at cX1_markLoops_k1 (p := 0) rfl (by decide +kernel)
theorem dcX1_markLoops_26 : decode cX1_markLoops 26 = .ok (.istore_n 3, 1) := dw_at cX1_markLoops_k1 (p := 1) rfl (by decide +kernel)
theorem dcX1_markLoops_27 : decode cX1_markLoops 27 = .ok (.aload_n 0, 1) := dw_at cX1_markLoops_k1 (p := 2) rfl (by decide +kernel)
theorem dcX1_markLoops_28 : decode cX1_markLoops 28 = .ok (.getfield 18, 3) := dw_at cX1_markLoops_k1 (p := 3) rfl (by decide +kernel)
theorem dcX1_markLoops_31 : decode cX1_markLoops 31 = .ok (.iload_n 2, 1) := dw_at cX1_markLoops_k1 (p := 6) rfl (by decide +kernel)
theorem dcX1_markLoops_32 : decode cX1_markLoops 32 = .ok (.bipush 16, 2) := dw_at cX1_markLoops_k1 (p := 7) rfl (by decide +kernel)
theorem dcX1_markLoops_34 : decode cX1_markLoops 34 = .ok (.imul, 1) := dw_at cX1_markLoops_k1 (p := 9) rfl (by decide +kernel)
theorem dcX1_markLoops_35 : decode cX1_markLoops 35 = .ok (.iload_n 2, 1) := dw_at cX1_markLoops_k1 (p := 10) rfl (by decide +kernel)
theorem dcX1_markLoops_36 : decode cX1_markLoops 36 = .ok (.bipush 16, 2) := dw_at cX1_markLoops_k1 (p := 11) rfl (by decide +kernel)
theorem dcX1_markLoops_38 : decode cX1_markLoops 38 = .ok (.imul, 1) := dw_at cX1_markLoops_k1 (p := 13) rfl (by decide +kernel)
theorem dcX1_markLoops_39 : decode cX1_markLoops 39 = .ok (.iload_n 1, 1) := dw_at cX1_markLoops_k1 (p := 14) rfl (by decide +kernel)
theorem dcX1_markLoops_40 : decode cX1_markLoops 40 = .ok (.iadd, 1) := dw_at cX1_markLoops_k1 (p := 15) rfl (by decide +kernel)
theorem dcX1_markLoops_41 : decode cX1_markLoops 41 = .ok (.iconst (-1), 1) := dw_at cX1_markLoops_k1 (p := 16) rfl (by decide +kernel)
theorem dcX1_markLoops_42 : decode cX1_markLoops 42 = .ok (.invokestatic 138, 3) := dw_at cX1_markLoops_k1 (p := 17) rfl (by decide +kernel)
theorem dcX1_markLoops_45 : decode cX1_markLoops 45 = .ok (.iconst 0, 1) := dw_at cX1_markLoops_k1 (p := 20) rfl (by decide +kernel)
theorem dcX1_markLoops_46 : decode cX1_markLoops 46 = .ok (.istore 4, 2) := dw_at cX1_markLoops_k1 (p := 21) rfl (by decide +kernel)
theorem dcX1_markLoops_48 : decode cX1_markLoops 48 = .ok (.iload 4, 2) := dw_at cX1_markLoops_k1 (p := 23) rfl (by decide +kernel)
theorem dcX1_markLoops_50 : decode cX1_markLoops 50 = .ok (.iload_n 1, 1) := dw_at cX1_markLoops_k2 (p := 0) rfl (by decide +kernel)
theorem dcX1_markLoops_51 : decode cX1_markLoops 51 = .ok (.if_icmp .ge 50, 3) := dw_at cX1_markLoops_k2 (p := 1) rfl (by decide +kernel)
theorem dcX1_markLoops_54 : decode cX1_markLoops 54 = .ok (.aload_n 0, 1) := dw_at cX1_markLoops_k2 (p := 4) rfl (by decide +kernel)
theorem dcX1_markLoops_55 : decode cX1_markLoops 55 = .ok (.getfield 18, 3) := dw_at cX1_markLoops_k2 (p := 5) rfl (by decide +kernel)
theorem dcX1_markLoops_58 : decode cX1_markLoops 58 = .ok (.iload_n 2, 1) := dw_at cX1_markLoops_k2 (p := 8) rfl (by decide +kernel)
theorem dcX1_markLoops_59 : decode cX1_markLoops 59 = .ok (.bipush 16, 2) := dw_at cX1_markLoops_k2 (p := 9) rfl (by decide +kernel)
theorem dcX1_markLoops_61 : decode cX1_markLoops 61 = .ok (.imul, 1) := dw_at cX1_markLoops_k2 (p := 11) rfl (by decide +kernel)
theorem dcX1_markLoops_62 : decode cX1_markLoops 62 = .ok (.iload 4, 2) := dw_at cX1_markLoops_k2 (p := 12) rfl (by decide +kernel)
theorem dcX1_markLoops_64 : decode cX1_markLoops 64 = .ok (.iadd, 1) := dw_at cX1_markLoops_k2 (p := 14) rfl (by decide +kernel)
theorem dcX1_markLoops_65 : decode cX1_markLoops 65 = .ok (.baload, 1) := dw_at cX1_markLoops_k2 (p := 15) rfl (by decide +kernel)
theorem dcX1_markLoops_66 : decode cX1_markLoops 66 = .ok (.iconst (-1), 1) := dw_at cX1_markLoops_k2 (p := 16) rfl (by decide +kernel)
theorem dcX1_markLoops_67 : decode cX1_markLoops 67 = .ok (.if_icmp .ne 28, 3) := dw_at cX1_markLoops_k2 (p := 17) rfl (by decide +kernel)
theorem dcX1_markLoops_70 : decode cX1_markLoops 70 = .ok (.aload_n 0, 1) := dw_at cX1_markLoops_k2 (p := 20) rfl (by decide +kernel)
theorem dcX1_markLoops_71 : decode cX1_markLoops 71 = .ok (.getfield 26, 3) := dw_at cX1_markLoops_k2 (p := 21) rfl (by decide +kernel)
theorem dcX1_markLoops_74 : decode cX1_markLoops 74 = .ok (.iload_n 2, 1) := dw_at cX1_markLoops_k3 (p := 0) rfl (by decide +kernel)
theorem dcX1_markLoops_75 : decode cX1_markLoops 75 = .ok (.bipush 10, 2) := dw_at cX1_markLoops_k3 (p := 1) rfl (by decide +kernel)
theorem dcX1_markLoops_77 : decode cX1_markLoops 77 = .ok (.imul, 1) := dw_at cX1_markLoops_k3 (p := 3) rfl (by decide +kernel)
theorem dcX1_markLoops_78 : decode cX1_markLoops 78 = .ok (.iload_n 3, 1) := dw_at cX1_markLoops_k3 (p := 4) rfl (by decide +kernel)
theorem dcX1_markLoops_79 : decode cX1_markLoops 79 = .ok (.iadd, 1) := dw_at cX1_markLoops_k3 (p := 5) rfl (by decide +kernel)
theorem dcX1_markLoops_80 : decode cX1_markLoops 80 = .ok (.iload 4, 2) := dw_at cX1_markLoops_k3 (p := 6) rfl (by decide +kernel)
theorem dcX1_markLoops_82 : decode cX1_markLoops 82 = .ok (.i2b, 1) := dw_at cX1_markLoops_k3 (p := 8) rfl (by decide +kernel)
theorem dcX1_markLoops_83 : decode cX1_markLoops 83 = .ok (.bastore, 1) := dw_at cX1_markLoops_k3 (p := 9) rfl (by decide +kernel)
theorem dcX1_markLoops_84 : decode cX1_markLoops 84 = .ok (.aload_n 0, 1) := dw_at cX1_markLoops_k3 (p := 10) rfl (by decide +kernel)
theorem dcX1_markLoops_85 : decode cX1_markLoops 85 = .ok (.iload_n 2, 1) := dw_at cX1_markLoops_k3 (p := 11) rfl (by decide +kernel)
theorem dcX1_markLoops_86 : decode cX1_markLoops 86 = .ok (.iload 4, 2) := dw_at cX1_markLoops_k3 (p := 12) rfl (by decide +kernel)
theorem dcX1_markLoops_88 : decode cX1_markLoops 88 = .ok (.iload_n 3, 1) := dw_at cX1_markLoops_k3 (p := 14) rfl (by decide +kernel)
theorem dcX1_markLoops_89 : decode cX1_markLoops 89 = .ok (.invokevirtual 141, 3) := dw_at cX1_markLoops_k3 (p := 15) rfl (by decide +kernel)
theorem dcX1_markLoops_92 : decode cX1_markLoops 92 = .ok (.iinc 3 1, 3) := dw_at cX1_markLoops_k3 (p := 18) rfl (by decide +kernel)
theorem dcX1_markLoops_95 : decode cX1_markLoops 95 = .ok (.iinc 4 1, 3) := dw_at cX1_markLoops_k3 (p := 21) rfl (by decide +kernel)
theorem dcX1_markLoops_98 : decode cX1_markLoops 98 = .ok (.goto (-50), 3) := dw_at cX1_markLoops_k4 (p := 0) rfl (by decide +kernel)
theorem dcX1_markLoops_101 : decode cX1_markLoops 101 = .ok (.aload_n 0, 1) := dw_at cX1_markLoops_k4 (p := 3) rfl (by decide +kernel)
theorem dcX1_markLoops_102 : decode cX1_markLoops 102 = .ok (.getfield 22, 3) := dw_at cX1_markLoops_k4 (p := 4) rfl (by decide +kernel)
theorem dcX1_markLoops_105 : decode cX1_markLoops 105 = .ok (.iload_n 2, 1) := dw_at cX1_markLoops_k4 (p := 7) rfl (by decide +kernel)
theorem dcX1_markLoops_106 : decode cX1_markLoops 106 = .ok (.iload_n 3, 1) := dw_at cX1_markLoops_k4 (p := 8) rfl (by decide +kernel)
theorem dcX1_markLoops_107 : decode cX1_markLoops 107 = .ok (.iastore, 1) := dw_at cX1_markLoops_k4 (p := 9) rfl (by decide +kernel)
theorem dcX1_markLoops_108 : decode cX1_markLoops 108 = .ok (.iinc 2 1, 3) := dw_at cX1_markLoops_k4 (p := 10) rfl (by decide +kernel)
theorem dcX1_markLoops_111 : decode cX1_markLoops 111 = .ok (.goto (-99), 3) := dw_at cX1_markLoops_k4 (p := 13) rfl (by decide +kernel)
theorem dcX1_markLoops_114 : decode cX1_markLoops 114 = .ok (.return_, 1) := dw_at cX1_markLoops_k4 (p := 16) rfl (by decide +kernel)
def cm_X1_markLoops_0 (vl : Nat → Nat) (K : Nat) (go : Nat → Int32 → Int32 → Int32 → Int32 → Nat → ow_MS → Option ow_MS) (x1 : Int32) (x2 : Int32) (x3 : Int32) (x4 : Int32) (r0 : Nat) (z : ow_MS) : Option ow_MS :=
 rdF z ((r0 + 1000) + 8) fun v1 => go 1 (2 * v1) 0 0 0 r0 z
def cm_X1_markLoops_1 (vl : Nat → Nat) (K : Nat) (go : Nat → Int32 → Int32 → Int32 → Int32 → Nat → ow_MS → Option ow_MS) (x1 : Int32) (x2 : Int32) (x3 : Int32) (x4 : Int32) (r0 : Nat) (z : ow_MS) : Option ow_MS :=
 rdF z ((r0 + 1000) + 8) fun v2 => (if ((1 : Int32) <<< ((v2 : Int32) &&& 31)) ≤ x2 then some z
 else cs0 (ce_J7_fill_eb02e vl K (r0 + 2) (x2 * 16) ((x2 * 16) + x1) (-1) z) fun z3 => go 2 x1 x2 0 0 r0 z3)
def cm_X1_markLoops_2 (vl : Nat → Nat) (K : Nat) (go : Nat → Int32 → Int32 → Int32 → Int32 → Nat → ow_MS → Option ow_MS) (x1 : Int32) (x2 : Int32) (x3 : Int32) (x4 : Int32) (r0 : Nat) (z : ow_MS) : Option ow_MS :=
 (if x1 ≤ x4 then ctI (cX vl) z (r0 + 3) x2 x3 fun z4 => go 1 x1 (x2 + 1) 0 0 r0 z4
 else crI (cX vl) z (r0 + 2) ((x2 * 16) + x4) fun v5 => (if v5 = (-1) then ctB (cX vl) z (r0 + 4) ((x2 * 10) + x3) x4.toInt8.toInt32 fun z6 => cs0 (ce_X1_goRound vl K r0 x2 x4 x3 z6) fun z7 => go 3 x1 x2 (x3 + 1) x4 r0 z7
 else go 3 x1 x2 x3 x4 r0 z))
def cm_X1_markLoops_3 (vl : Nat → Nat) (K : Nat) (go : Nat → Int32 → Int32 → Int32 → Int32 → Nat → ow_MS → Option ow_MS) (x1 : Int32) (x2 : Int32) (x3 : Int32) (x4 : Int32) (r0 : Nat) (z : ow_MS) : Option ow_MS :=
 go 2 x1 x2 x3 (x4 + 1) r0 z
def cb_X1_markLoops (vl : Nat → Nat) (K : Nat) (go : Nat → Int32 → Int32 → Int32 → Int32 → Nat → ow_MS → Option ow_MS) (L : Nat) (x1 : Int32) (x2 : Int32) (x3 : Int32) (x4 : Int32) (r0 : Nat) (z : ow_MS) : Option ow_MS := match L with
  | 0 => cm_X1_markLoops_0 vl K go x1 x2 x3 x4 r0 z
  | 1 => cm_X1_markLoops_1 vl K go x1 x2 x3 x4 r0 z
  | 2 => cm_X1_markLoops_2 vl K go x1 x2 x3 x4 r0 z
  | 3 => cm_X1_markLoops_3 vl K go x1 x2 x3 x4 r0 z
  | _ => none
def c_X1_markLoops (vl : Nat → Nat) (K : Nat) : Nat → Nat → Int32 → Int32 → Int32 → Int32 → Nat → ow_MS → Option ow_MS
  | 0 => fun _ _ _ _ _ _ _ => none
  | k + 1 => cb_X1_markLoops vl K (c_X1_markLoops vl K k)
def ce_X1_markLoops (vl : Nat → Nat) (K : Nat) (r0 : Nat) (z : ow_MS) : Option ow_MS := c_X1_markLoops vl K K 0 0 0 0 0 r0 z
abbrev wc_X1_markLoops : List Cond := .code yX1_markLoops cX1_markLoops 5 none :: wC
theorem cdd_X1_markLoops : yX1_markLoops.cls = RX1 ∧ yX1_markLoops.cls ≠ "java/lang/invoke/MethodHandle" ∧ yX1_markLoops.cls ≠ "java/lang/invoke/VarHandle" ∧ (parseMethodDescriptor yX1_markLoops.desc).map (fun d => d.parameters.length) = some 0 := by decide +kernel
set_option maxHeartbeats 4000000 in
set_option maxRecDepth 100000 in
theorem kc_X1_markLoops (l : Launch) (D : va_G) (q : Nat → ClassId) (vl u : Nat → Nat) (hU0 : tw_inj (cX vl) u) (K : Nat) (r0 : Nat) (hr0 : cw_X1 r0) (z z1 : ow_MS) (hq : ce_X1_markLoops vl K r0 z = some z1) : Met l yX1_markLoops wc_X1_markLoops ({ frames := 2, cells := 0, slots := 0, locals := 46 } : Room) (va_Pc [.ref (u r0)] (cw_pre D q vl u z)) (va_Qv (fun (_ : Unit) => True) (fun _ t => va_P D vwCl (uw (cX vl) q u z1) t.heap) (tw_A (cX vl) u)) 0 0 (tw_A (cX vl) u) := by
  refine Met.ofW (cc := cX1_markLoops) (maxL := 5) (ret := none) (by decide) rfl ?_
  intro p e s m args below meth c s₁ B hml hv
  obtain ⟨rfl, hP, hK⟩ := hv
  have hx := B.exec
  have hb := B.bytes
  have hr := B.returns
  have hts := atoms_spec (ws := wc_X1_markLoops) B.pre
  have hT : ∀ w ∈ wC, w.before ([.ref (u r0)] : List Value).toArray s = true := fun w h => hts w (List.mem_cons_of_mem _ h)
  have hown : s.vm.findClass RX1 = some m.cls := findClass_of_methodNamed B.named
  have hlocks := B.notSynchronized
  have hU : uw_inj (cX vl) u (tw_A (cX vl) u) := ⟨hU0, fun h hh => ⟨h, hh, rfl⟩⟩
  have hM : uw_M D vwCl (cX vl) q (tw_A (cX vl) u) s.heap u z s.heap [] := ⟨hP, va_S.rf⟩
  have hl := lv_entry ([.ref (u r0)]) (n := 5) (Nat.le_of_ble_eq_true rfl)
  rw [lg_entry_eq]
  generalize (lg_sl ([.ref (u r0)]) ++ List.replicate (5 - (lg_sl ([.ref (u r0)])).length) Slot.unset).toArray = ls at hl ⊢
  have hl : lv_has ls 5 [(0, .ref (u r0))] := hl
  refine ow_named (fun QQ hQQ => ?_)
  generalize ([.ref (u r0)] : List Value).toArray = args at hts hT hQQ ⊢
  have key : ∀ k : Nat, (∀ (x1 : Int32) (x2 : Int32) (x3 : Int32) (x4 : Int32) (r0 : Nat) (z : ow_MS) (H : Heap) (locs : List Loc) (ls : Array Slot), cw_X1 r0 → uw_M D vwCl (cX vl) q (tw_A (cX vl) u) s.heap u z H locs → lv_has ls 5 [(0, .ref (u r0))] → c_X1_markLoops vl K k 0 x1 x2 x3 x4 r0 z = some z1 → W p l e ({ frames := 2, cells := 0, slots := 0, locals := 46 } : Room) s m args below meth c H locs 0 0 QQ (F0 m 0 ls [])) ∧ (∀ (x1 : Int32) (x2 : Int32) (x3 : Int32) (x4 : Int32) (r0 : Nat) (z : ow_MS) (H : Heap) (locs : List Loc) (ls : Array Slot), cw_X1 r0 → uw_M D vwCl (cX vl) q (tw_A (cX vl) u) s.heap u z H locs → lv_has ls 5 [(0, .ref (u r0)), (1, .int x1), (2, .int x2)] → c_X1_markLoops vl K k 1 x1 x2 x3 x4 r0 z = some z1 → W p l e ({ frames := 2, cells := 0, slots := 0, locals := 46 } : Room) s m args below meth c H locs 0 0 QQ (F0 m 12 ls [])) ∧ (∀ (x1 : Int32) (x2 : Int32) (x3 : Int32) (x4 : Int32) (r0 : Nat) (z : ow_MS) (H : Heap) (locs : List Loc) (ls : Array Slot), cw_X1 r0 → uw_M D vwCl (cX vl) q (tw_A (cX vl) u) s.heap u z H locs → lv_has ls 5 [(0, .ref (u r0)), (1, .int x1), (2, .int x2), (3, .int x3), (4, .int x4)] → c_X1_markLoops vl K k 2 x1 x2 x3 x4 r0 z = some z1 → W p l e ({ frames := 2, cells := 0, slots := 0, locals := 46 } : Room) s m args below meth c H locs 0 0 QQ (F0 m 48 ls [])) ∧ (∀ (x1 : Int32) (x2 : Int32) (x3 : Int32) (x4 : Int32) (r0 : Nat) (z : ow_MS) (H : Heap) (locs : List Loc) (ls : Array Slot), cw_X1 r0 → uw_M D vwCl (cX vl) q (tw_A (cX vl) u) s.heap u z H locs → lv_has ls 5 [(0, .ref (u r0)), (1, .int x1), (2, .int x2), (3, .int x3), (4, .int x4)] → c_X1_markLoops vl K k 3 x1 x2 x3 x4 r0 z = some z1 → W p l e ({ frames := 2, cells := 0, slots := 0, locals := 46 } : Room) s m args below meth c H locs 0 0 QQ (F0 m 95 ls [])) := by
    intro k
    induction k with
    | zero => exact ⟨fun _ _ _ _ _ _ _ _ _ _ _ _ hq => cw_no hq, fun _ _ _ _ _ _ _ _ _ _ _ _ hq => cw_no hq, fun _ _ _ _ _ _ _ _ _ _ _ _ hq => cw_no hq, fun _ _ _ _ _ _ _ _ _ _ _ _ hq => cw_no hq⟩
    | succ k ih =>
      obtain ⟨ih_0, ih_1, ih_2, ih_3⟩ := ih
      refine ⟨?_, ?_, ?_, ?_⟩
      · intro x1 x2 x3 x4 r0 z H locs ls hr0 hM hl hq
        have hq : cm_X1_markLoops_0 vl K (c_X1_markLoops vl K k) x1 x2 x3 x4 r0 z = some z1 := hq
        unfold cm_X1_markLoops_0 at hq
        refine lv_iconst (v := 2) hx hb dcX1_markLoops_0 (by decide) ?_
        refine lv_aload_n hx hb dcX1_markLoops_1 rfl (lv_at hl 0 rfl) ?_
        refine vgX1_12 hx hb hT hown hK hM hr0 dcX1_markLoops_2 ?_
        refine vgX1_90 hx hb hT hown hK hM (cs_X1_0 hr0) hq dcX1_markLoops_5 (fun v1 hq => ?_)
        refine lv_imul hx hb dcX1_markLoops_8 ?_
        refine lv_istore_n (lv' := [(1, .int (2 * v1)), (0, .ref (u r0))]) hx hb dcX1_markLoops_9 rfl hl (by decide) rfl (fun ls hl => ?_)
        refine lv_iconst (v := 0) hx hb dcX1_markLoops_10 (by decide) ?_
        refine lv_istore_n (lv' := [(2, .int 0), (1, .int (2 * v1)), (0, .ref (u r0))]) hx hb dcX1_markLoops_11 rfl hl (by decide) rfl (fun ls hl => ?_)
        exact ih_1 (2 * v1) 0 0 0 r0 z H locs ls hr0 hM (lv_sub hl [2, 1, 0] rfl) hq
      · intro x1 x2 x3 x4 r0 z H locs ls hr0 hM hl hq
        have hq : cm_X1_markLoops_1 vl K (c_X1_markLoops vl K k) x1 x2 x3 x4 r0 z = some z1 := hq
        unfold cm_X1_markLoops_1 at hq
        refine lv_iload_n hx hb dcX1_markLoops_12 rfl (lv_at hl 2 rfl) ?_
        refine lv_iconst (v := 1) hx hb dcX1_markLoops_13 (by decide) ?_
        refine lv_aload_n hx hb dcX1_markLoops_14 rfl (lv_at hl 0 rfl) ?_
        refine vgX1_12 hx hb hT hown hK hM hr0 dcX1_markLoops_15 ?_
        refine vgX1_90 hx hb hT hown hK hM (cs_X1_0 hr0) hq dcX1_markLoops_18 (fun v2 hq => ?_)
        refine lv_ishl hx hb dcX1_markLoops_21 ?_
        refine lv_icmp_ge (tgt := 114) hx hb dcX1_markLoops_22 (by decide) (fun hc => ?_) (fun hc => ?_)
        · have hq := tw_it hq hc
          exact cw_vret hx hb hr hlocks hM hq hQQ dcX1_markLoops_114
        · have hq := tw_if hq hc
          refine lv_iconst (v := 0) hx hb dcX1_markLoops_25 (by decide) ?_
          refine lv_istore_n (lv' := [(3, .int 0), (0, .ref (u r0)), (1, .int x1), (2, .int x2)]) hx hb dcX1_markLoops_26 rfl hl (by decide) rfl (fun ls hl => ?_)
          refine lv_aload_n hx hb dcX1_markLoops_27 rfl (lv_at hl 1 rfl) ?_
          refine vgX1_18 hx hb hT hown hK hM hr0 dcX1_markLoops_28 ?_
          refine lv_iload_n hx hb dcX1_markLoops_31 rfl (lv_at hl 3 rfl) ?_
          refine lv_bipush (v := 16) hx hb dcX1_markLoops_32 (by decide) ?_
          refine lv_imul hx hb dcX1_markLoops_34 ?_
          refine lv_iload_n hx hb dcX1_markLoops_35 rfl (lv_at hl 3 rfl) ?_
          refine lv_bipush (v := 16) hx hb dcX1_markLoops_36 (by decide) ?_
          refine lv_imul hx hb dcX1_markLoops_38 ?_
          refine lv_iload_n hx hb dcX1_markLoops_39 rfl (lv_at hl 2 rfl) ?_
          refine lv_iadd hx hb dcX1_markLoops_40 ?_
          refine lv_iconst (v := (-1)) hx hb dcX1_markLoops_41 (by decide) ?_
          obtain ⟨z3, hcq, hq⟩ := tw_cl0 hq
          refine uw_calv hU hM (va_runS (As := [.ref (u (r0 + 2)), .int (x2 * 16), .int ((x2 * 16) + x1), .int (-1)]) (rest := []) ⟨hx, hb, hml, hown, hts⟩ (kc_J7_fill_eb02e l D q vl u hU.1 K (r0 + 2) (x2 * 16) ((x2 * 16) + x1) (-1) (cr_X1_1 hr0) z z3 hcq) (va_cwS 4 hts (tw_gS wC_good xq_183 xq_184 xq_9 xq_185) rfl rfl rfl cdd_J7_fill_eb02e ⟨(Nat.le_of_ble_eq_true rfl), (Nat.le_of_ble_eq_true rfl)⟩) (cw_preS hK hM) rfl rfl hl.1 rfl (lv_room (Nat.le_of_ble_eq_true rfl)) dcX1_markLoops_42 ⟨(Nat.le_of_ble_eq_true rfl), (Nat.le_of_ble_eq_true rfl)⟩) (fun H locs hM => ?_)
          refine lv_iconst (v := 0) hx hb dcX1_markLoops_45 (by decide) ?_
          refine lv_istore (lv' := [(4, .int 0), (3, .int 0), (0, .ref (u r0)), (1, .int x1), (2, .int x2)]) hx hb dcX1_markLoops_46 hl (by decide) rfl (fun ls hl => ?_)
          exact ih_2 x1 x2 0 0 r0 z3 H locs ls hr0 hM (lv_sub hl [2, 3, 4, 1, 0] rfl) hq
      · intro x1 x2 x3 x4 r0 z H locs ls hr0 hM hl hq
        have hq : cm_X1_markLoops_2 vl K (c_X1_markLoops vl K k) x1 x2 x3 x4 r0 z = some z1 := hq
        unfold cm_X1_markLoops_2 at hq
        refine lv_iload hx hb dcX1_markLoops_48 (lv_at hl 4 rfl) ?_
        refine lv_iload_n hx hb dcX1_markLoops_50 rfl (lv_at hl 1 rfl) ?_
        refine lv_icmp_ge (tgt := 101) hx hb dcX1_markLoops_51 (by decide) (fun hc => ?_) (fun hc => ?_)
        · have hq := tw_it hq hc
          refine lv_aload_n hx hb dcX1_markLoops_101 rfl (lv_at hl 0 rfl) ?_
          refine vgX1_22 hx hb hT hown hK hM hr0 dcX1_markLoops_102 ?_
          refine lv_iload_n hx hb dcX1_markLoops_105 rfl (lv_at hl 2 rfl) ?_
          refine lv_iload_n hx hb dcX1_markLoops_106 rfl (lv_at hl 3 rfl) ?_
          refine uw_iast cX_ok hU hx hb hK hM (cr_X1_2 hr0) hq dcX1_markLoops_107 (fun z4 H locs hM hq => ?_)
          refine lv_iinc (v := (x2 + 1)) (lv' := [(2, .int (x2 + 1)), (0, .ref (u r0)), (1, .int x1), (3, .int x3), (4, .int x4)]) hx hb dcX1_markLoops_108 hl (k := 2) rfl rfl (by decide) rfl (fun ls hl => ?_)
          refine lv_goto (tgt := 12) hx hb dcX1_markLoops_111 (by decide) ?_
          exact ih_1 x1 (x2 + 1) 0 0 r0 z4 H locs ls hr0 hM (lv_sub hl [1, 2, 0] rfl) hq
        · have hq := tw_if hq hc
          refine lv_aload_n hx hb dcX1_markLoops_54 rfl (lv_at hl 0 rfl) ?_
          refine vgX1_18 hx hb hT hown hK hM hr0 dcX1_markLoops_55 ?_
          refine lv_iload_n hx hb dcX1_markLoops_58 rfl (lv_at hl 2 rfl) ?_
          refine lv_bipush (v := 16) hx hb dcX1_markLoops_59 (by decide) ?_
          refine lv_imul hx hb dcX1_markLoops_61 ?_
          refine lv_iload hx hb dcX1_markLoops_62 (lv_at hl 4 rfl) ?_
          refine lv_iadd hx hb dcX1_markLoops_64 ?_
          refine uw_bald cX_ok hx hb hK hM (cr_X1_1 hr0) hq dcX1_markLoops_65 (fun v5 hq => ?_)
          refine lv_iconst (v := (-1)) hx hb dcX1_markLoops_66 (by decide) ?_
          refine lv_icmp_ne (tgt := 95) hx hb dcX1_markLoops_67 (by decide) (fun hc => ?_) (fun hc => ?_)
          · have hq := tw_if hq hc
            exact ih_3 x1 x2 x3 x4 r0 z H locs ls hr0 hM (lv_sub hl [0, 1, 2, 3, 4] rfl) hq
          · have hq := tw_it hq hc
            refine lv_aload_n hx hb dcX1_markLoops_70 rfl (lv_at hl 0 rfl) ?_
            refine vgX1_26 hx hb hT hown hK hM hr0 dcX1_markLoops_71 ?_
            refine lv_iload_n hx hb dcX1_markLoops_74 rfl (lv_at hl 2 rfl) ?_
            refine lv_bipush (v := 10) hx hb dcX1_markLoops_75 (by decide) ?_
            refine lv_imul hx hb dcX1_markLoops_77 ?_
            refine lv_iload_n hx hb dcX1_markLoops_78 rfl (lv_at hl 3 rfl) ?_
            refine lv_iadd hx hb dcX1_markLoops_79 ?_
            refine lv_iload hx hb dcX1_markLoops_80 (lv_at hl 4 rfl) ?_
            refine lv_i2b hx hb dcX1_markLoops_82 rfl ?_
            refine uw_bast cX_ok hU hx hb hK hM (cr_X1_3 hr0) hq dcX1_markLoops_83 (fun z6 H locs hM hq => ?_)
            refine lv_aload_n hx hb dcX1_markLoops_84 rfl (lv_at hl 0 rfl) ?_
            refine lv_iload_n hx hb dcX1_markLoops_85 rfl (lv_at hl 2 rfl) ?_
            refine lv_iload hx hb dcX1_markLoops_86 (lv_at hl 4 rfl) ?_
            refine lv_iload_n hx hb dcX1_markLoops_88 rfl (lv_at hl 3 rfl) ?_
            obtain ⟨z7, hcq, hq⟩ := tw_cl0 hq
            refine uw_calv hU hM (va_runV (As := [.int x2, .int x4, .int x3]) (rest := []) ⟨hx, hb, hml, hown, hts⟩ (kc_X1_goRound l D q vl u hU.1 K r0 x2 x4 x3 hr0 z6 z7 hcq) (cwV 3 hts (tw_gV wC_good xq_186 xq_187 xq_188 xq_138 xq_189) rfl rfl rfl cdd_X1_goRound ⟨(Nat.le_of_ble_eq_true rfl), (Nat.le_of_ble_eq_true rfl)⟩) (cw_preV hK hM (co_X1 hr0) rfl) rfl rfl hl.1 rfl (lv_room (Nat.le_of_ble_eq_true rfl)) dcX1_markLoops_89 ⟨(Nat.le_of_ble_eq_true rfl), (Nat.le_of_ble_eq_true rfl)⟩) (fun H locs hM => ?_)
            refine lv_iinc (v := (x3 + 1)) (lv' := [(3, .int (x3 + 1)), (0, .ref (u r0)), (1, .int x1), (2, .int x2), (4, .int x4)]) hx hb dcX1_markLoops_92 hl (k := 3) rfl rfl (by decide) rfl (fun ls hl => ?_)
            exact ih_3 x1 x2 (x3 + 1) x4 r0 z7 H locs ls hr0 hM (lv_sub hl [1, 2, 3, 0, 4] rfl) hq
      · intro x1 x2 x3 x4 r0 z H locs ls hr0 hM hl hq
        have hq : cm_X1_markLoops_3 vl K (c_X1_markLoops vl K k) x1 x2 x3 x4 r0 z = some z1 := hq
        unfold cm_X1_markLoops_3 at hq
        refine lv_iinc (v := (x4 + 1)) (lv' := [(4, .int (x4 + 1)), (0, .ref (u r0)), (1, .int x1), (2, .int x2), (3, .int x3)]) hx hb dcX1_markLoops_95 hl (k := 4) rfl rfl (by decide) rfl (fun ls hl => ?_)
        refine lv_goto (tgt := 48) hx hb dcX1_markLoops_98 (by decide) ?_
        exact ih_2 x1 x2 x3 (x4 + 1) r0 z H locs ls hr0 hM (lv_sub hl [1, 2, 3, 4, 0] rfl) hq
  exact (key K).1 0 0 0 0 r0 z s.heap [] ls hr0 hM (lv_sub hl [0] rfl) hq
theorem dcX1_reciprocal_0 : decode cX1_reciprocal 0 = .ok (.iconst 1, 1) := dw_at cX1_reciprocal_k0 (p := 0) rfl (by decide +kernel)
theorem dcX1_reciprocal_1 : decode cX1_reciprocal 1 = .ok (.istore_n 2, 1) := dw_at cX1_reciprocal_k0 (p := 1) rfl (by decide +kernel)
theorem dcX1_reciprocal_2 : decode cX1_reciprocal 2 = .ok (.iload_n 1, 1) := dw_at cX1_reciprocal_k0 (p := 2) rfl (by decide +kernel)
theorem dcX1_reciprocal_3 : decode cX1_reciprocal 3 = .ok (.istore_n 3, 1) := dw_at cX1_reciprocal_k0 (p := 3) rfl (by decide +kernel)
theorem dcX1_reciprocal_4 : decode cX1_reciprocal 4 = .ok (.aload_n 0, 1) := dw_at cX1_reciprocal_k0 (p := 4) rfl (by decide +kernel)
theorem dcX1_reciprocal_5 : decode cX1_reciprocal 5 = .ok (.getfield 80, 3) := dw_at cX1_reciprocal_k0 (p := 5) rfl (by decide +kernel)
theorem dcX1_reciprocal_8 : decode cX1_reciprocal 8 = .ok (.iconst 2, 1) := dw_at cX1_reciprocal_k0 (p := 8) rfl (by decide +kernel)
theorem dcX1_reciprocal_9 : decode cX1_reciprocal 9 = .ok (.isub, 1) := dw_at cX1_reciprocal_k0 (p := 9) rfl (by decide +kernel)
theorem dcX1_reciprocal_10 : decode cX1_reciprocal 10 = .ok (.istore 4, 2) := dw_at cX1_reciprocal_k0 (p := 10) rfl (by decide +kernel)
theorem dcX1_reciprocal_12 : decode cX1_reciprocal 12 = .ok (.iload 4, 2) := dw_at cX1_reciprocal_k0 (p := 12) rfl (by decide +kernel)
theorem dcX1_reciprocal_14 : decode cX1_reciprocal 14 = .ok (.ifCond .le 42, 3) := dw_at cX1_reciprocal_k0 (p := 14) rfl (by decide +kernel)
theorem dcX1_reciprocal_17 : decode cX1_reciprocal 17 = .ok (.iload 4, 2) := dw_at cX1_reciprocal_k0 (p := 17) rfl (by decide +kernel)
theorem dcX1_reciprocal_19 : decode cX1_reciprocal 19 = .ok (.iconst 1, 1) := dw_at cX1_reciprocal_k0 (p := 19) rfl (by decide +kernel)
theorem dcX1_reciprocal_20 : decode cX1_reciprocal 20 = .ok (.iand, 1) := dw_at cX1_reciprocal_k0 (p := 20) rfl (by decide +kernel)
theorem dcX1_reciprocal_21 : decode cX1_reciprocal 21 = .ok (.iconst 1, 1) := dw_at cX1_reciprocal_k0 (p := 21) rfl (by decide +kernel)
theorem dcX1_reciprocal_22 : decode cX1_reciprocal 22 = .ok (.if_icmp .ne 14, 3) := dw_at cX1_reciprocal_k0 (p := 22) rfl (by decide +kernel)
theorem dcX1_reciprocal_25 : decode cX1_reciprocal 25 = .ok (.iload_n 2, 1) := dw_at cX1_reciprocal_k1 (p := 0) rfl (by decide +kernel)
theorem dcX1_reciprocal_26 : decode cX1_reciprocal 26 = .ok (.iload_n 3, 1) := dw_at cX1_reciprocal_k1 (p := 1) rfl (by decide +kernel)
theorem dcX1_reciprocal_27 : decode cX1_reciprocal 27 = .ok (.imul, 1) := dw_at cX1_reciprocal_k1 (p := 2) rfl (by decide +kernel)
theorem dcX1_reciprocal_28 : decode cX1_reciprocal 28 = .ok (.aload_n 0, 1) := dw_at cX1_reciprocal_k1 (p := 3) rfl (by decide +kernel)
theorem dcX1_reciprocal_29 : decode cX1_reciprocal 29 = .ok (.getfield 80, 3) := dw_at cX1_reciprocal_k1 (p := 4) rfl (by decide +kernel)
theorem dcX1_reciprocal_32 : decode cX1_reciprocal 32 = .ok (.irem, 1) := dw_at cX1_reciprocal_k1 (p := 7) rfl (by decide +kernel)
theorem dcX1_reciprocal_33 : decode cX1_reciprocal 33 = .ok (.goto 4, 3) := dw_at cX1_reciprocal_k1 (p := 8) rfl (by decide +kernel)
theorem dcX1_reciprocal_36 : decode cX1_reciprocal 36 = .ok (.iload_n 2, 1) := dw_at cX1_reciprocal_k1 (p := 11) rfl (by decide +kernel)
theorem dcX1_reciprocal_37 : decode cX1_reciprocal 37 = .ok (.istore_n 2, 1) := dw_at cX1_reciprocal_k1 (p := 12) rfl (by decide +kernel)
theorem dcX1_reciprocal_38 : decode cX1_reciprocal 38 = .ok (.iload_n 3, 1) := dw_at cX1_reciprocal_k1 (p := 13) rfl (by decide +kernel)
theorem dcX1_reciprocal_39 : decode cX1_reciprocal 39 = .ok (.iload_n 3, 1) := dw_at cX1_reciprocal_k1 (p := 14) rfl (by decide +kernel)
theorem dcX1_reciprocal_40 : decode cX1_reciprocal 40 = .ok (.imul, 1) := dw_at cX1_reciprocal_k1 (p := 15) rfl (by decide +kernel)
theorem dcX1_reciprocal_41 : decode cX1_reciprocal 41 = .ok (.aload_n 0, 1) := dw_at cX1_reciprocal_k1 (p := 16) rfl (by decide +kernel)
theorem dcX1_reciprocal_42 : decode cX1_reciprocal 42 = .ok (.getfield 80, 3) := dw_at cX1_reciprocal_k1 (p := 17) rfl (by decide +kernel)
theorem dcX1_reciprocal_45 : decode cX1_reciprocal 45 = .ok (.irem, 1) := dw_at cX1_reciprocal_k1 (p := 20) rfl (by decide +kernel)
theorem dcX1_reciprocal_46 : decode cX1_reciprocal 46 = .ok (.istore_n 3, 1) := dw_at cX1_reciprocal_k1 (p := 21) rfl (by decide +kernel)
theorem dcX1_reciprocal_47 : decode cX1_reciprocal 47 = .ok (.iload 4, 2) := dw_at cX1_reciprocal_k1 (p := 22) rfl (by decide +kernel)
theorem dcX1_reciprocal_49 : decode cX1_reciprocal 49 = .ok (.iconst 1, 1) := dw_at cX1_reciprocal_k2 (p := 0) rfl (by decide +kernel)
theorem dcX1_reciprocal_50 : decode cX1_reciprocal 50 = .ok (.ishr, 1) := dw_at cX1_reciprocal_k2 (p := 1) rfl (by decide +kernel)
theorem dcX1_reciprocal_51 : decode cX1_reciprocal 51 = .ok (.istore 4, 2) := dw_at cX1_reciprocal_k2 (p := 2) rfl (by decide +kernel)
theorem dcX1_reciprocal_53 : decode cX1_reciprocal 53 = .ok (.goto (-41), 3) := dw_at cX1_reciprocal_k2 (p := 4) rfl (by decide +kernel)
theorem dcX1_reciprocal_56 : decode cX1_reciprocal 56 = .ok (.iload_n 2, 1) := dw_at cX1_reciprocal_k2 (p := 7) rfl (by decide +kernel)
theorem dcX1_reciprocal_57 : decode cX1_reciprocal 57 = .ok (.ireturn, 1) := dw_at cX1_reciprocal_k2 (p := 8) rfl (by decide +kernel)
def cm_X1_reciprocal_0 (vl : Nat → Nat) (K : Nat) (go : Nat → Int32 → Int32 → Int32 → Int32 → Nat → Int32 → ow_MS → Option (Int32 × ow_MS)) (x1 : Int32) (x2 : Int32) (x3 : Int32) (x4 : Int32) (r0 : Nat) (t0 : Int32) (z : ow_MS) : Option (Int32 × ow_MS) :=
 rdF z (r0 + 10) fun v1 => go 1 x1 1 x1 (v1 - 2) r0 0 z
def cm_X1_reciprocal_1 (vl : Nat → Nat) (K : Nat) (go : Nat → Int32 → Int32 → Int32 → Int32 → Nat → Int32 → ow_MS → Option (Int32 × ow_MS)) (x1 : Int32) (x2 : Int32) (x3 : Int32) (x4 : Int32) (r0 : Nat) (t0 : Int32) (z : ow_MS) : Option (Int32 × ow_MS) :=
 (if x4 ≤ 0 then some (x2, z)
 else (if (x4 &&& 1) = 1 then rdF z (r0 + 10) fun v2 => nzI v2 (go 2 x1 x2 x3 x4 r0 ((x2 * x3) - (x2 * x3) / v2 * v2) z)
 else go 2 x1 x2 x3 x4 r0 x2 z))
def cm_X1_reciprocal_2 (vl : Nat → Nat) (K : Nat) (go : Nat → Int32 → Int32 → Int32 → Int32 → Nat → Int32 → ow_MS → Option (Int32 × ow_MS)) (x1 : Int32) (x2 : Int32) (x3 : Int32) (x4 : Int32) (r0 : Nat) (t0 : Int32) (z : ow_MS) : Option (Int32 × ow_MS) :=
 rdF z (r0 + 10) fun v3 => nzI v3 (go 1 x1 t0 ((x3 * x3) - (x3 * x3) / v3 * v3) ((x4 : Int32) >>> ((1 : Int32) &&& 31)) r0 0 z)
def cb_X1_reciprocal (vl : Nat → Nat) (K : Nat) (go : Nat → Int32 → Int32 → Int32 → Int32 → Nat → Int32 → ow_MS → Option (Int32 × ow_MS)) (L : Nat) (x1 : Int32) (x2 : Int32) (x3 : Int32) (x4 : Int32) (r0 : Nat) (t0 : Int32) (z : ow_MS) : Option (Int32 × ow_MS) := match L with
  | 0 => cm_X1_reciprocal_0 vl K go x1 x2 x3 x4 r0 t0 z
  | 1 => cm_X1_reciprocal_1 vl K go x1 x2 x3 x4 r0 t0 z
  | 2 => cm_X1_reciprocal_2 vl K go x1 x2 x3 x4 r0 t0 z
  | _ => none
def c_X1_reciprocal (vl : Nat → Nat) (K : Nat) : Nat → Nat → Int32 → Int32 → Int32 → Int32 → Nat → Int32 → ow_MS → Option (Int32 × ow_MS)
  | 0 => fun _ _ _ _ _ _ _ _ => none
  | k + 1 => cb_X1_reciprocal vl K (c_X1_reciprocal vl K k)
def ce_X1_reciprocal (vl : Nat → Nat) (K : Nat) (r0 : Nat) (x1 : Int32) (z : ow_MS) : Option (Int32 × ow_MS) := c_X1_reciprocal vl K K 0 x1 0 0 0 r0 0 z
abbrev wc_X1_reciprocal : List Cond := .code yX1_reciprocal cX1_reciprocal 5 (some .int) :: wC
theorem cdd_X1_reciprocal : yX1_reciprocal.cls = RX1 ∧ yX1_reciprocal.cls ≠ "java/lang/invoke/MethodHandle" ∧ yX1_reciprocal.cls ≠ "java/lang/invoke/VarHandle" ∧ (parseMethodDescriptor yX1_reciprocal.desc).map (fun d => d.parameters.length) = some 1 := by decide +kernel
set_option maxHeartbeats 4000000 in
set_option maxRecDepth 100000 in
theorem kc_X1_reciprocal (l : Launch) (D : va_G) (q : Nat → ClassId) (vl u : Nat → Nat) (hU0 : tw_inj (cX vl) u) (K : Nat) (r0 : Nat) (x1 : Int32) (hr0 : cw_X1 r0) (z z1 : ow_MS) (r : Int32) (hq : ce_X1_reciprocal vl K r0 x1 z = some (r, z1)) : Met l yX1_reciprocal wc_X1_reciprocal ({ frames := 0, cells := 0, slots := 0, locals := 0 } : Room) (va_Pc [.ref (u r0), .int x1] (cw_pre D q vl u z)) (va_Qi (fun x (_ : Unit) => x = r) (fun _ t => va_P D vwCl (uw (cX vl) q u z1) t.heap) (tw_A (cX vl) u)) 0 0 (tw_A (cX vl) u) := by
  refine Met.ofW (cc := cX1_reciprocal) (maxL := 5) (ret := (some .int)) (by decide) rfl ?_
  intro p e s m args below meth c s₁ B hml hv
  obtain ⟨rfl, hP, hK⟩ := hv
  have hx := B.exec
  have hb := B.bytes
  have hr := B.returns
  have hts := atoms_spec (ws := wc_X1_reciprocal) B.pre
  have hT : ∀ w ∈ wC, w.before ([.ref (u r0), .int x1] : List Value).toArray s = true := fun w h => hts w (List.mem_cons_of_mem _ h)
  have hown : s.vm.findClass RX1 = some m.cls := findClass_of_methodNamed B.named
  have hlocks := B.notSynchronized
  have hU : uw_inj (cX vl) u (tw_A (cX vl) u) := ⟨hU0, fun h hh => ⟨h, hh, rfl⟩⟩
  have hM : uw_M D vwCl (cX vl) q (tw_A (cX vl) u) s.heap u z s.heap [] := ⟨hP, va_S.rf⟩
  have hl := lv_entry ([.ref (u r0), .int x1]) (n := 5) (Nat.le_of_ble_eq_true rfl)
  rw [lg_entry_eq]
  generalize (lg_sl ([.ref (u r0), .int x1]) ++ List.replicate (5 - (lg_sl ([.ref (u r0), .int x1])).length) Slot.unset).toArray = ls at hl ⊢
  have hl : lv_has ls 5 [(0, .ref (u r0)), (1, .int x1)] := hl
  refine ow_named (fun QQ hQQ => ?_)
  generalize ([.ref (u r0), .int x1] : List Value).toArray = args at hts hT hQQ ⊢
  have key : ∀ k : Nat, (∀ (x1 : Int32) (x2 : Int32) (x3 : Int32) (x4 : Int32) (r0 : Nat) (t0 : Int32) (z : ow_MS) (H : Heap) (locs : List Loc) (ls : Array Slot), cw_X1 r0 → uw_M D vwCl (cX vl) q (tw_A (cX vl) u) s.heap u z H locs → lv_has ls 5 [(0, .ref (u r0)), (1, .int x1)] → c_X1_reciprocal vl K k 0 x1 x2 x3 x4 r0 t0 z = some (r, z1) → W p l e ({ frames := 0, cells := 0, slots := 0, locals := 0 } : Room) s m args below meth c H locs 0 0 QQ (F0 m 0 ls [])) ∧ (∀ (x1 : Int32) (x2 : Int32) (x3 : Int32) (x4 : Int32) (r0 : Nat) (t0 : Int32) (z : ow_MS) (H : Heap) (locs : List Loc) (ls : Array Slot), cw_X1 r0 → uw_M D vwCl (cX vl) q (tw_A (cX vl) u) s.heap u z H locs → lv_has ls 5 [(0, .ref (u r0)), (1, .int x1), (2, .int x2), (3, .int x3), (4, .int x4)] → c_X1_reciprocal vl K k 1 x1 x2 x3 x4 r0 t0 z = some (r, z1) → W p l e ({ frames := 0, cells := 0, slots := 0, locals := 0 } : Room) s m args below meth c H locs 0 0 QQ (F0 m 12 ls [])) ∧ (∀ (x1 : Int32) (x2 : Int32) (x3 : Int32) (x4 : Int32) (r0 : Nat) (t0 : Int32) (z : ow_MS) (H : Heap) (locs : List Loc) (ls : Array Slot), cw_X1 r0 → uw_M D vwCl (cX vl) q (tw_A (cX vl) u) s.heap u z H locs → lv_has ls 5 [(0, .ref (u r0)), (1, .int x1), (2, .int x2), (3, .int x3), (4, .int x4)] → c_X1_reciprocal vl K k 2 x1 x2 x3 x4 r0 t0 z = some (r, z1) → W p l e ({ frames := 0, cells := 0, slots := 0, locals := 0 } : Room) s m args below meth c H locs 0 0 QQ (F0 m 37 ls [.int t0])) := by
    intro k
    induction k with
    | zero => exact ⟨fun _ _ _ _ _ _ _ _ _ _ _ _ _ hq => cw_no hq, fun _ _ _ _ _ _ _ _ _ _ _ _ _ hq => cw_no hq, fun _ _ _ _ _ _ _ _ _ _ _ _ _ hq => cw_no hq⟩
    | succ k ih =>
      obtain ⟨ih_0, ih_1, ih_2⟩ := ih
      refine ⟨?_, ?_, ?_⟩
      · intro x1 x2 x3 x4 r0 t0 z H locs ls hr0 hM hl hq
        have hq : cm_X1_reciprocal_0 vl K (c_X1_reciprocal vl K k) x1 x2 x3 x4 r0 t0 z = some (r, z1) := hq
        unfold cm_X1_reciprocal_0 at hq
        refine lv_iconst (v := 1) hx hb dcX1_reciprocal_0 (by decide) ?_
        refine lv_istore_n (lv' := [(2, .int 1), (0, .ref (u r0)), (1, .int x1)]) hx hb dcX1_reciprocal_1 rfl hl (by decide) rfl (fun ls hl => ?_)
        refine lv_iload_n hx hb dcX1_reciprocal_2 rfl (lv_at hl 2 rfl) ?_
        refine lv_istore_n (lv' := [(3, .int x1), (2, .int 1), (0, .ref (u r0)), (1, .int x1)]) hx hb dcX1_reciprocal_3 rfl hl (by decide) rfl (fun ls hl => ?_)
        refine lv_aload_n hx hb dcX1_reciprocal_4 rfl (lv_at hl 2 rfl) ?_
        refine vgX1_80 hx hb hT hown hK hM hr0 hq dcX1_reciprocal_5 (fun v1 hq => ?_)
        refine lv_iconst (v := 2) hx hb dcX1_reciprocal_8 (by decide) ?_
        refine lv_isub hx hb dcX1_reciprocal_9 ?_
        refine lv_istore (lv' := [(4, .int (v1 - 2)), (3, .int x1), (2, .int 1), (0, .ref (u r0)), (1, .int x1)]) hx hb dcX1_reciprocal_10 hl (by decide) rfl (fun ls hl => ?_)
        exact ih_1 x1 1 x1 (v1 - 2) r0 0 z H locs ls hr0 hM (lv_sub hl [3, 4, 2, 1, 0] rfl) hq
      · intro x1 x2 x3 x4 r0 t0 z H locs ls hr0 hM hl hq
        have hq : cm_X1_reciprocal_1 vl K (c_X1_reciprocal vl K k) x1 x2 x3 x4 r0 t0 z = some (r, z1) := hq
        unfold cm_X1_reciprocal_1 at hq
        refine lv_iload hx hb dcX1_reciprocal_12 (lv_at hl 4 rfl) ?_
        refine lv_if_le (tgt := 56) hx hb dcX1_reciprocal_14 (by decide) (fun hc => ?_) (fun hc => ?_)
        · have hq := tw_it hq hc
          refine lv_iload_n hx hb dcX1_reciprocal_56 rfl (lv_at hl 2 rfl) ?_
          exact cw_iret hx hb hr hlocks hM hq hQQ dcX1_reciprocal_57
        · have hq := tw_if hq hc
          refine lv_iload hx hb dcX1_reciprocal_17 (lv_at hl 4 rfl) ?_
          refine lv_iconst (v := 1) hx hb dcX1_reciprocal_19 (by decide) ?_
          refine lv_iand hx hb dcX1_reciprocal_20 ?_
          refine lv_iconst (v := 1) hx hb dcX1_reciprocal_21 (by decide) ?_
          refine lv_icmp_ne (tgt := 36) hx hb dcX1_reciprocal_22 (by decide) (fun hc => ?_) (fun hc => ?_)
          · have hq := tw_if hq hc
            refine lv_iload_n hx hb dcX1_reciprocal_36 rfl (lv_at hl 2 rfl) ?_
            exact ih_2 x1 x2 x3 x4 r0 x2 z H locs ls hr0 hM (lv_sub hl [0, 1, 2, 3, 4] rfl) hq
          · have hq := tw_it hq hc
            refine lv_iload_n hx hb dcX1_reciprocal_25 rfl (lv_at hl 2 rfl) ?_
            refine lv_iload_n hx hb dcX1_reciprocal_26 rfl (lv_at hl 3 rfl) ?_
            refine lv_imul hx hb dcX1_reciprocal_27 ?_
            refine lv_aload_n hx hb dcX1_reciprocal_28 rfl (lv_at hl 0 rfl) ?_
            refine vgX1_80 hx hb hT hown hK hM hr0 hq dcX1_reciprocal_29 (fun v2 hq => ?_)
            obtain ⟨hz, hq⟩ := tw_nzI hq
            refine lv_irem hx hb dcX1_reciprocal_32 hz ?_
            refine lv_goto (tgt := 37) hx hb dcX1_reciprocal_33 (by decide) ?_
            exact ih_2 x1 x2 x3 x4 r0 ((x2 * x3) - (x2 * x3) / v2 * v2) z H locs ls hr0 hM (lv_sub hl [0, 1, 2, 3, 4] rfl) hq
      · intro x1 x2 x3 x4 r0 t0 z H locs ls hr0 hM hl hq
        have hq : cm_X1_reciprocal_2 vl K (c_X1_reciprocal vl K k) x1 x2 x3 x4 r0 t0 z = some (r, z1) := hq
        unfold cm_X1_reciprocal_2 at hq
        refine lv_istore_n (lv' := [(2, .int t0), (0, .ref (u r0)), (1, .int x1), (3, .int x3), (4, .int x4)]) hx hb dcX1_reciprocal_37 rfl hl (by decide) rfl (fun ls hl => ?_)
        refine lv_iload_n hx hb dcX1_reciprocal_38 rfl (lv_at hl 3 rfl) ?_
        refine lv_iload_n hx hb dcX1_reciprocal_39 rfl (lv_at hl 3 rfl) ?_
        refine lv_imul hx hb dcX1_reciprocal_40 ?_
        refine lv_aload_n hx hb dcX1_reciprocal_41 rfl (lv_at hl 1 rfl) ?_
        refine vgX1_80 hx hb hT hown hK hM hr0 hq dcX1_reciprocal_42 (fun v3 hq => ?_)
        obtain ⟨hz, hq⟩ := tw_nzI hq
        refine lv_irem hx hb dcX1_reciprocal_45 hz ?_
        refine lv_istore_n (lv' := [(3, .int ((x3 * x3) - (x3 * x3) / v3 * v3)), (2, .int t0), (0, .ref (u r0)), (1, .int x1), (4, .int x4)]) hx hb dcX1_reciprocal_46 rfl hl (by decide) rfl (fun ls hl => ?_)
        refine lv_iload hx hb dcX1_reciprocal_47 (lv_at hl 4 rfl) ?_
        refine lv_iconst (v := 1) hx hb dcX1_reciprocal_49 (by decide) ?_
        refine lv_ishr hx hb dcX1_reciprocal_50 ?_
        refine lv_istore (lv' := [(4, .int ((x4 : Int32) >>> ((1 : Int32) &&& 31))), (3, .int ((x3 * x3) - (x3 * x3) / v3 * v3)), (2, .int t0), (0, .ref (u r0)), (1, .int x1)]) hx hb dcX1_reciprocal_51 hl (by decide) rfl (fun ls hl => ?_)
        refine lv_goto (tgt := 12) hx hb dcX1_reciprocal_53 (by decide) ?_
        exact ih_1 x1 t0 ((x3 * x3) - (x3 * x3) / v3 * v3) ((x4 : Int32) >>> ((1 : Int32) &&& 31)) r0 0 z H locs ls hr0 hM (lv_sub hl [3, 4, 2, 1, 0] rfl) hq
  exact (key K).1 x1 0 0 0 r0 0 z s.heap [] ls hr0 hM (lv_sub hl [0, 1] rfl) hq
theorem dcX1_addTo_0 : decode cX1_addTo 0 = .ok (.aload_n 0, 1) := by decide +kernel
theorem dcX1_addTo_1 : decode cX1_addTo 1 = .ok (.getfield 40, 3) := by decide +kernel
theorem dcX1_addTo_4 : decode cX1_addTo 4 = .ok (.iload_n 1, 1) := by decide +kernel
theorem dcX1_addTo_5 : decode cX1_addTo 5 = .ok (.iaload, 1) := by decide +kernel
theorem dcX1_addTo_6 : decode cX1_addTo 6 = .ok (.aload_n 0, 1) := by decide +kernel
theorem dcX1_addTo_7 : decode cX1_addTo 7 = .ok (.getfield 29, 3) := by decide +kernel
theorem dcX1_addTo_10 : decode cX1_addTo 10 = .ok (.iload_n 2, 1) := by decide +kernel
theorem dcX1_addTo_11 : decode cX1_addTo 11 = .ok (.iaload, 1) := by decide +kernel
theorem dcX1_addTo_12 : decode cX1_addTo 12 = .ok (.iadd, 1) := by decide +kernel
theorem dcX1_addTo_13 : decode cX1_addTo 13 = .ok (.istore 4, 2) := by decide +kernel
theorem dcX1_addTo_15 : decode cX1_addTo 15 = .ok (.aload_n 0, 1) := by decide +kernel
theorem dcX1_addTo_16 : decode cX1_addTo 16 = .ok (.getfield 46, 3) := by decide +kernel
theorem dcX1_addTo_19 : decode cX1_addTo 19 = .ok (.iload 4, 2) := by decide +kernel
theorem dcX1_addTo_21 : decode cX1_addTo 21 = .ok (.aload_n 0, 1) := by decide +kernel
theorem dcX1_addTo_22 : decode cX1_addTo 22 = .ok (.getfield 46, 3) := by decide +kernel
theorem dcX1_addTo_25 : decode cX1_addTo 25 = .ok (.iload 4, 2) := by decide +kernel
theorem dcX1_addTo_27 : decode cX1_addTo 27 = .ok (.iaload, 1) := by decide +kernel
theorem dcX1_addTo_28 : decode cX1_addTo 28 = .ok (.iload_n 3, 1) := by decide +kernel
theorem dcX1_addTo_29 : decode cX1_addTo 29 = .ok (.iadd, 1) := by decide +kernel
theorem dcX1_addTo_30 : decode cX1_addTo 30 = .ok (.aload_n 0, 1) := by decide +kernel
theorem dcX1_addTo_31 : decode cX1_addTo 31 = .ok (.getfield 80, 3) := by decide +kernel
theorem dcX1_addTo_34 : decode cX1_addTo 34 = .ok (.irem, 1) := by decide +kernel
theorem dcX1_addTo_35 : decode cX1_addTo 35 = .ok (.iastore, 1) := by decide +kernel
theorem dcX1_addTo_36 : decode cX1_addTo 36 = .ok (.return_, 1) := by decide +kernel
def cm_X1_addTo_0 (vl : Nat → Nat) (K : Nat) (x1 : Int32) (x2 : Int32) (x3 : Int32) (r0 : Nat) (z : ow_MS) : Option ow_MS :=
 crI (cX vl) z (r0 + 8) x1 fun v1 => crI (cX vl) z (r0 + 5) x2 fun v2 => crI (cX vl) z (r0 + 11) (v1 + v2) fun v3 => rdF z (r0 + 10) fun v4 => nzI v4 (ctI (cX vl) z (r0 + 11) (v1 + v2) ((v3 + x3) - (v3 + x3) / v4 * v4) fun z5 => some z5)
def ce_X1_addTo (vl : Nat → Nat) (K : Nat) (r0 : Nat) (x1 : Int32) (x2 : Int32) (x3 : Int32) (z : ow_MS) : Option ow_MS := cm_X1_addTo_0 vl K x1 x2 x3 r0 z
abbrev wc_X1_addTo : List Cond := .code yX1_addTo cX1_addTo 5 none :: wC
theorem cdd_X1_addTo : yX1_addTo.cls = RX1 ∧ yX1_addTo.cls ≠ "java/lang/invoke/MethodHandle" ∧ yX1_addTo.cls ≠ "java/lang/invoke/VarHandle" ∧ (parseMethodDescriptor yX1_addTo.desc).map (fun d => d.parameters.length) = some 3 := by decide +kernel
set_option maxHeartbeats 4000000 in
set_option maxRecDepth 100000 in
theorem kc_X1_addTo (l : Launch) (D : va_G) (q : Nat → ClassId) (vl u : Nat → Nat) (hU0 : tw_inj (cX vl) u) (K : Nat) (r0 : Nat) (x1 : Int32) (x2 : Int32) (x3 : Int32) (hr0 : cw_X1 r0) (z z1 : ow_MS) (hq : ce_X1_addTo vl K r0 x1 x2 x3 z = some z1) : Met l yX1_addTo wc_X1_addTo ({ frames := 0, cells := 0, slots := 0, locals := 0 } : Room) (va_Pc [.ref (u r0), .int x1, .int x2, .int x3] (cw_pre D q vl u z)) (va_Qv (fun (_ : Unit) => True) (fun _ t => va_P D vwCl (uw (cX vl) q u z1) t.heap) (tw_A (cX vl) u)) 0 0 (tw_A (cX vl) u) := by
  refine Met.ofW (cc := cX1_addTo) (maxL := 5) (ret := none) (by decide) rfl ?_
  intro p e s m args below meth c s₁ B hml hv
  obtain ⟨rfl, hP, hK⟩ := hv
  have hx := B.exec
  have hb := B.bytes
  have hr := B.returns
  have hts := atoms_spec (ws := wc_X1_addTo) B.pre
  have hT : ∀ w ∈ wC, w.before ([.ref (u r0), .int x1, .int x2, .int x3] : List Value).toArray s = true := fun w h => hts w (List.mem_cons_of_mem _ h)
  have hown : s.vm.findClass RX1 = some m.cls := findClass_of_methodNamed B.named
  have hlocks := B.notSynchronized
  have hU : uw_inj (cX vl) u (tw_A (cX vl) u) := ⟨hU0, fun h hh => ⟨h, hh, rfl⟩⟩
  have hM : uw_M D vwCl (cX vl) q (tw_A (cX vl) u) s.heap u z s.heap [] := ⟨hP, va_S.rf⟩
  have hl := lv_entry ([.ref (u r0), .int x1, .int x2, .int x3]) (n := 5) (Nat.le_of_ble_eq_true rfl)
  rw [lg_entry_eq]
  generalize (lg_sl ([.ref (u r0), .int x1, .int x2, .int x3]) ++ List.replicate (5 - (lg_sl ([.ref (u r0), .int x1, .int x2, .int x3])).length) Slot.unset).toArray = ls at hl ⊢
  have hl : lv_has ls 5 [(0, .ref (u r0)), (1, .int x1), (2, .int x2), (3, .int x3)] := hl
  refine ow_named (fun QQ hQQ => ?_)
  generalize ([.ref (u r0), .int x1, .int x2, .int x3] : List Value).toArray = args at hts hT hQQ ⊢
  have hq : cm_X1_addTo_0 vl K x1 x2 x3 r0 z = some z1 := hq
  unfold cm_X1_addTo_0 at hq
  suffices key : ∀ (H : Heap) (locs : List Loc), uw_M D vwCl (cX vl) q (tw_A (cX vl) u) s.heap u z H locs → W p l e ({ frames := 0, cells := 0, slots := 0, locals := 0 } : Room) s m args below meth c H locs 0 0 QQ (F0 m 0 ls []) from key s.heap [] hM
  intro H locs hM
  refine lv_aload_n hx hb dcX1_addTo_0 rfl (lv_at hl 0 rfl) ?_
  refine vgX1_40 hx hb hT hown hK hM hr0 dcX1_addTo_1 ?_
  refine lv_iload_n hx hb dcX1_addTo_4 rfl (lv_at hl 1 rfl) ?_
  refine uw_iald cX_ok hx hb hK hM (cr_X1_7 hr0) hq dcX1_addTo_5 (fun v1 hq => ?_)
  refine lv_aload_n hx hb dcX1_addTo_6 rfl (lv_at hl 0 rfl) ?_
  refine vgX1_29 hx hb hT hown hK hM hr0 dcX1_addTo_7 ?_
  refine lv_iload_n hx hb dcX1_addTo_10 rfl (lv_at hl 2 rfl) ?_
  refine uw_iald cX_ok hx hb hK hM (cr_X1_4 hr0) hq dcX1_addTo_11 (fun v2 hq => ?_)
  refine lv_iadd hx hb dcX1_addTo_12 ?_
  refine lv_istore (lv' := [(4, .int (v1 + v2)), (0, .ref (u r0)), (1, .int x1), (2, .int x2), (3, .int x3)]) hx hb dcX1_addTo_13 hl (by decide) rfl (fun ls hl => ?_)
  refine lv_aload_n hx hb dcX1_addTo_15 rfl (lv_at hl 1 rfl) ?_
  refine vgX1_46 hx hb hT hown hK hM hr0 dcX1_addTo_16 ?_
  refine lv_iload hx hb dcX1_addTo_19 (lv_at hl 0 rfl) ?_
  refine lv_aload_n hx hb dcX1_addTo_21 rfl (lv_at hl 1 rfl) ?_
  refine vgX1_46 hx hb hT hown hK hM hr0 dcX1_addTo_22 ?_
  refine lv_iload hx hb dcX1_addTo_25 (lv_at hl 0 rfl) ?_
  refine uw_iald cX_ok hx hb hK hM (cr_X1_10 hr0) hq dcX1_addTo_27 (fun v3 hq => ?_)
  refine lv_iload_n hx hb dcX1_addTo_28 rfl (lv_at hl 4 rfl) ?_
  refine lv_iadd hx hb dcX1_addTo_29 ?_
  refine lv_aload_n hx hb dcX1_addTo_30 rfl (lv_at hl 1 rfl) ?_
  refine vgX1_80 hx hb hT hown hK hM hr0 hq dcX1_addTo_31 (fun v4 hq => ?_)
  obtain ⟨hz, hq⟩ := tw_nzI hq
  refine lv_irem hx hb dcX1_addTo_34 hz ?_
  refine uw_iast cX_ok hU hx hb hK hM (cr_X1_10 hr0) hq dcX1_addTo_35 (fun z5 H locs hM hq => ?_)
  exact cw_vret hx hb hr hlocks hM hq hQQ dcX1_addTo_36
theorem dcX1_carry_0 : decode cX1_carry 0 = .ok (.iconst 0, 1) := dw_at cX1_carry_k0 (p := 0) rfl (by decide +kernel)
theorem dcX1_carry_1 : decode cX1_carry 1 = .ok (.istore 6, 2) := dw_at cX1_carry_k0 (p := 1) rfl (by decide +kernel)
theorem dcX1_carry_3 : decode cX1_carry 3 = .ok (.iconst 0, 1) := dw_at cX1_carry_k0 (p := 3) rfl (by decide +kernel)
theorem dcX1_carry_4 : decode cX1_carry 4 = .ok (.istore 7, 2) := dw_at cX1_carry_k0 (p := 4) rfl (by decide +kernel)
theorem dcX1_carry_6 : decode cX1_carry 6 = .ok (.iload 7, 2) := dw_at cX1_carry_k0 (p := 6) rfl (by decide +kernel)
theorem dcX1_carry_8 : decode cX1_carry 8 = .ok (.aload_n 0, 1) := dw_at cX1_carry_k0 (p := 8) rfl (by decide +kernel)
theorem dcX1_carry_9 : decode cX1_carry 9 = .ok (.getfield 22, 3) := dw_at cX1_carry_k0 (p := 9) rfl (by decide +kernel)
theorem dcX1_carry_12 : decode cX1_carry 12 = .ok (.iload_n 3, 1) := dw_at cX1_carry_k0 (p := 12) rfl (by decide +kernel)
theorem dcX1_carry_13 : decode cX1_carry 13 = .ok (.iaload, 1) := dw_at cX1_carry_k0 (p := 13) rfl (by decide +kernel)
theorem dcX1_carry_14 : decode cX1_carry 14 = .ok (.if_icmp .ge 61, 3) := dw_at cX1_carry_k0 (p := 14) rfl (by decide +kernel)
theorem dcX1_carry_17 : decode cX1_carry 17 = .ok (.iload 7, 2) := dw_at cX1_carry_k0 (p := 17) rfl (by decide +kernel)
theorem dcX1_carry_19 : decode cX1_carry 19 = .ok (.iload 4, 2) := dw_at cX1_carry_k0 (p := 19) rfl (by decide +kernel)
theorem dcX1_carry_21 : decode cX1_carry 21 = .ok (.if_icmp .eq 48, 3) := dw_at cX1_carry_k0 (p := 21) rfl (by decide +kernel)
theorem dcX1_carry_24 : decode cX1_carry 24 = .ok (.iload 7, 2) := dw_at cX1_carry_k1 (p := 0) rfl (by decide +kernel)
theorem dcX1_carry_26 : decode cX1_carry 26 = .ok (.iload 5, 2) := dw_at cX1_carry_k1 (p := 2) rfl (by decide +kernel)
theorem dcX1_carry_28 : decode cX1_carry 28 = .ok (.if_icmp .eq 41, 3) := dw_at cX1_carry_k1 (p := 4) rfl (by decide +kernel)
theorem dcX1_carry_31 : decode cX1_carry 31 = .ok (.aload_n 0, 1) := dw_at cX1_carry_k1 (p := 7) rfl (by decide +kernel)
theorem dcX1_carry_32 : decode cX1_carry 32 = .ok (.getfield 18, 3) := dw_at cX1_carry_k1 (p := 8) rfl (by decide +kernel)
theorem dcX1_carry_35 : decode cX1_carry 35 = .ok (.iload_n 1, 1) := dw_at cX1_carry_k1 (p := 11) rfl (by decide +kernel)
theorem dcX1_carry_36 : decode cX1_carry 36 = .ok (.bipush 16, 2) := dw_at cX1_carry_k1 (p := 12) rfl (by decide +kernel)
theorem dcX1_carry_38 : decode cX1_carry 38 = .ok (.imul, 1) := dw_at cX1_carry_k1 (p := 14) rfl (by decide +kernel)
theorem dcX1_carry_39 : decode cX1_carry 39 = .ok (.aload_n 0, 1) := dw_at cX1_carry_k1 (p := 15) rfl (by decide +kernel)
theorem dcX1_carry_40 : decode cX1_carry 40 = .ok (.getfield 26, 3) := dw_at cX1_carry_k1 (p := 16) rfl (by decide +kernel)
theorem dcX1_carry_43 : decode cX1_carry 43 = .ok (.iload_n 3, 1) := dw_at cX1_carry_k1 (p := 19) rfl (by decide +kernel)
theorem dcX1_carry_44 : decode cX1_carry 44 = .ok (.bipush 10, 2) := dw_at cX1_carry_k1 (p := 20) rfl (by decide +kernel)
theorem dcX1_carry_46 : decode cX1_carry 46 = .ok (.imul, 1) := dw_at cX1_carry_k1 (p := 22) rfl (by decide +kernel)
theorem dcX1_carry_47 : decode cX1_carry 47 = .ok (.iload 7, 2) := dw_at cX1_carry_k1 (p := 23) rfl (by decide +kernel)
theorem dcX1_carry_49 : decode cX1_carry 49 = .ok (.iadd, 1) := dw_at cX1_carry_k2 (p := 0) rfl (by decide +kernel)
theorem dcX1_carry_50 : decode cX1_carry 50 = .ok (.baload, 1) := dw_at cX1_carry_k2 (p := 1) rfl (by decide +kernel)
theorem dcX1_carry_51 : decode cX1_carry 51 = .ok (.iadd, 1) := dw_at cX1_carry_k2 (p := 2) rfl (by decide +kernel)
theorem dcX1_carry_52 : decode cX1_carry 52 = .ok (.baload, 1) := dw_at cX1_carry_k2 (p := 3) rfl (by decide +kernel)
theorem dcX1_carry_53 : decode cX1_carry 53 = .ok (.istore 8, 2) := dw_at cX1_carry_k2 (p := 4) rfl (by decide +kernel)
theorem dcX1_carry_55 : decode cX1_carry 55 = .ok (.iload 6, 2) := dw_at cX1_carry_k2 (p := 6) rfl (by decide +kernel)
theorem dcX1_carry_57 : decode cX1_carry 57 = .ok (.iload_n 2, 1) := dw_at cX1_carry_k2 (p := 8) rfl (by decide +kernel)
theorem dcX1_carry_58 : decode cX1_carry 58 = .ok (.iload 8, 2) := dw_at cX1_carry_k2 (p := 9) rfl (by decide +kernel)
theorem dcX1_carry_60 : decode cX1_carry 60 = .ok (.ishr, 1) := dw_at cX1_carry_k2 (p := 11) rfl (by decide +kernel)
theorem dcX1_carry_61 : decode cX1_carry 61 = .ok (.iconst 1, 1) := dw_at cX1_carry_k2 (p := 12) rfl (by decide +kernel)
theorem dcX1_carry_62 : decode cX1_carry 62 = .ok (.iand, 1) := dw_at cX1_carry_k2 (p := 13) rfl (by decide +kernel)
theorem dcX1_carry_63 : decode cX1_carry 63 = .ok (.iload 7, 2) := dw_at cX1_carry_k2 (p := 14) rfl (by decide +kernel)
theorem dcX1_carry_65 : decode cX1_carry 65 = .ok (.ishl, 1) := dw_at cX1_carry_k2 (p := 16) rfl (by decide +kernel)
theorem dcX1_carry_66 : decode cX1_carry 66 = .ok (.ior, 1) := dw_at cX1_carry_k2 (p := 17) rfl (by decide +kernel)
theorem dcX1_carry_67 : decode cX1_carry 67 = .ok (.istore 6, 2) := dw_at cX1_carry_k2 (p := 18) rfl (by decide +kernel)
theorem dcX1_carry_69 : decode cX1_carry 69 = .ok (.iinc 7 1, 3) := dw_at cX1_carry_k2 (p := 20) rfl (by decide +kernel)
theorem dcX1_carry_72 : decode cX1_carry 72 = .ok (.goto (-66), 3) := dw_at cX1_carry_k2 (p := 23) rfl (by decide +kernel)
theorem dcX1_carry_75 : decode cX1_carry 75 = .ok (.iload 6, 2) := dw_at cX1_carry_k2 (p := 26) rfl (by decide +kernel)
theorem dcX1_carry_77 : decode cX1_carry 77 = .ok (.ireturn, 1) := dw_at cX1_carry_k2 (p := 28) rfl (by decide +kernel)
def cm_X1_carry_0 (vl : Nat → Nat) (K : Nat) (go : Nat → Int32 → Int32 → Int32 → Int32 → Int32 → Int32 → Int32 → Nat → ow_MS → Option (Int32 × ow_MS)) (x1 : Int32) (x2 : Int32) (x3 : Int32) (x4 : Int32) (x5 : Int32) (x6 : Int32) (x7 : Int32) (r0 : Nat) (z : ow_MS) : Option (Int32 × ow_MS) :=
 go 1 x1 x2 x3 x4 x5 0 0 r0 z
def cm_X1_carry_1 (vl : Nat → Nat) (K : Nat) (go : Nat → Int32 → Int32 → Int32 → Int32 → Int32 → Int32 → Int32 → Nat → ow_MS → Option (Int32 × ow_MS)) (x1 : Int32) (x2 : Int32) (x3 : Int32) (x4 : Int32) (x5 : Int32) (x6 : Int32) (x7 : Int32) (r0 : Nat) (z : ow_MS) : Option (Int32 × ow_MS) :=
 crI (cX vl) z (r0 + 3) x3 fun v1 => (if v1 ≤ x7 then some (x6, z)
 else (if x7 = x4 then go 2 x1 x2 x3 x4 x5 x6 x7 r0 z
 else (if x7 = x5 then go 2 x1 x2 x3 x4 x5 x6 x7 r0 z
 else crI (cX vl) z (r0 + 4) ((x3 * 10) + x7) fun v2 => crI (cX vl) z (r0 + 2) ((x1 * 16) + v2) fun v3 => go 2 x1 x2 x3 x4 x5 (x6 ||| (((((x2 : Int32) >>> ((v3 : Int32) &&& 31)) &&& 1) : Int32) <<< ((x7 : Int32) &&& 31))) x7 r0 z)))
def cm_X1_carry_2 (vl : Nat → Nat) (K : Nat) (go : Nat → Int32 → Int32 → Int32 → Int32 → Int32 → Int32 → Int32 → Nat → ow_MS → Option (Int32 × ow_MS)) (x1 : Int32) (x2 : Int32) (x3 : Int32) (x4 : Int32) (x5 : Int32) (x6 : Int32) (x7 : Int32) (r0 : Nat) (z : ow_MS) : Option (Int32 × ow_MS) :=
 go 1 x1 x2 x3 x4 x5 x6 (x7 + 1) r0 z
def cb_X1_carry (vl : Nat → Nat) (K : Nat) (go : Nat → Int32 → Int32 → Int32 → Int32 → Int32 → Int32 → Int32 → Nat → ow_MS → Option (Int32 × ow_MS)) (L : Nat) (x1 : Int32) (x2 : Int32) (x3 : Int32) (x4 : Int32) (x5 : Int32) (x6 : Int32) (x7 : Int32) (r0 : Nat) (z : ow_MS) : Option (Int32 × ow_MS) := match L with
  | 0 => cm_X1_carry_0 vl K go x1 x2 x3 x4 x5 x6 x7 r0 z
  | 1 => cm_X1_carry_1 vl K go x1 x2 x3 x4 x5 x6 x7 r0 z
  | 2 => cm_X1_carry_2 vl K go x1 x2 x3 x4 x5 x6 x7 r0 z
  | _ => none
def c_X1_carry (vl : Nat → Nat) (K : Nat) : Nat → Nat → Int32 → Int32 → Int32 → Int32 → Int32 → Int32 → Int32 → Nat → ow_MS → Option (Int32 × ow_MS)
  | 0 => fun _ _ _ _ _ _ _ _ _ _ => none
  | k + 1 => cb_X1_carry vl K (c_X1_carry vl K k)
def ce_X1_carry (vl : Nat → Nat) (K : Nat) (r0 : Nat) (x1 : Int32) (x2 : Int32) (x3 : Int32) (x4 : Int32) (x5 : Int32) (z : ow_MS) : Option (Int32 × ow_MS) := c_X1_carry vl K K 0 x1 x2 x3 x4 x5 0 0 r0 z
abbrev wc_X1_carry : List Cond := .code yX1_carry cX1_carry 9 (some .int) :: wC
theorem cdd_X1_carry : yX1_carry.cls = RX1 ∧ yX1_carry.cls ≠ "java/lang/invoke/MethodHandle" ∧ yX1_carry.cls ≠ "java/lang/invoke/VarHandle" ∧ (parseMethodDescriptor yX1_carry.desc).map (fun d => d.parameters.length) = some 5 := by decide +kernel
set_option maxHeartbeats 4000000 in
set_option maxRecDepth 100000 in
theorem kc_X1_carry (l : Launch) (D : va_G) (q : Nat → ClassId) (vl u : Nat → Nat) (hU0 : tw_inj (cX vl) u) (K : Nat) (r0 : Nat) (x1 : Int32) (x2 : Int32) (x3 : Int32) (x4 : Int32) (x5 : Int32) (hr0 : cw_X1 r0) (z z1 : ow_MS) (r : Int32) (hq : ce_X1_carry vl K r0 x1 x2 x3 x4 x5 z = some (r, z1)) : Met l yX1_carry wc_X1_carry ({ frames := 0, cells := 0, slots := 0, locals := 0 } : Room) (va_Pc [.ref (u r0), .int x1, .int x2, .int x3, .int x4, .int x5] (cw_pre D q vl u z)) (va_Qi (fun x (_ : Unit) => x = r) (fun _ t => va_P D vwCl (uw (cX vl) q u z1) t.heap) (tw_A (cX vl) u)) 0 0 (tw_A (cX vl) u) := by
  refine Met.ofW (cc := cX1_carry) (maxL := 9) (ret := (some .int)) (by decide) rfl ?_
  intro p e s m args below meth c s₁ B hml hv
  obtain ⟨rfl, hP, hK⟩ := hv
  have hx := B.exec
  have hb := B.bytes
  have hr := B.returns
  have hts := atoms_spec (ws := wc_X1_carry) B.pre
  have hT : ∀ w ∈ wC, w.before ([.ref (u r0), .int x1, .int x2, .int x3, .int x4, .int x5] : List Value).toArray s = true := fun w h => hts w (List.mem_cons_of_mem _ h)
  have hown : s.vm.findClass RX1 = some m.cls := findClass_of_methodNamed B.named
  have hlocks := B.notSynchronized
  have hU : uw_inj (cX vl) u (tw_A (cX vl) u) := ⟨hU0, fun h hh => ⟨h, hh, rfl⟩⟩
  have hM : uw_M D vwCl (cX vl) q (tw_A (cX vl) u) s.heap u z s.heap [] := ⟨hP, va_S.rf⟩
  have hl := lv_entry ([.ref (u r0), .int x1, .int x2, .int x3, .int x4, .int x5]) (n := 9) (Nat.le_of_ble_eq_true rfl)
  rw [lg_entry_eq]
  generalize (lg_sl ([.ref (u r0), .int x1, .int x2, .int x3, .int x4, .int x5]) ++ List.replicate (9 - (lg_sl ([.ref (u r0), .int x1, .int x2, .int x3, .int x4, .int x5])).length) Slot.unset).toArray = ls at hl ⊢
  have hl : lv_has ls 9 [(0, .ref (u r0)), (1, .int x1), (2, .int x2), (3, .int x3), (4, .int x4), (5, .int x5)] := hl
  refine ow_named (fun QQ hQQ => ?_)
  generalize ([.ref (u r0), .int x1, .int x2, .int x3, .int x4, .int x5] : List Value).toArray = args at hts hT hQQ ⊢
  have key : ∀ k : Nat, (∀ (x1 : Int32) (x2 : Int32) (x3 : Int32) (x4 : Int32) (x5 : Int32) (x6 : Int32) (x7 : Int32) (r0 : Nat) (z : ow_MS) (H : Heap) (locs : List Loc) (ls : Array Slot), cw_X1 r0 → uw_M D vwCl (cX vl) q (tw_A (cX vl) u) s.heap u z H locs → lv_has ls 9 [(0, .ref (u r0)), (1, .int x1), (2, .int x2), (3, .int x3), (4, .int x4), (5, .int x5)] → c_X1_carry vl K k 0 x1 x2 x3 x4 x5 x6 x7 r0 z = some (r, z1) → W p l e ({ frames := 0, cells := 0, slots := 0, locals := 0 } : Room) s m args below meth c H locs 0 0 QQ (F0 m 0 ls [])) ∧ (∀ (x1 : Int32) (x2 : Int32) (x3 : Int32) (x4 : Int32) (x5 : Int32) (x6 : Int32) (x7 : Int32) (r0 : Nat) (z : ow_MS) (H : Heap) (locs : List Loc) (ls : Array Slot), cw_X1 r0 → uw_M D vwCl (cX vl) q (tw_A (cX vl) u) s.heap u z H locs → lv_has ls 9 [(0, .ref (u r0)), (1, .int x1), (2, .int x2), (3, .int x3), (4, .int x4), (5, .int x5), (6, .int x6), (7, .int x7)] → c_X1_carry vl K k 1 x1 x2 x3 x4 x5 x6 x7 r0 z = some (r, z1) → W p l e ({ frames := 0, cells := 0, slots := 0, locals := 0 } : Room) s m args below meth c H locs 0 0 QQ (F0 m 6 ls [])) ∧ (∀ (x1 : Int32) (x2 : Int32) (x3 : Int32) (x4 : Int32) (x5 : Int32) (x6 : Int32) (x7 : Int32) (r0 : Nat) (z : ow_MS) (H : Heap) (locs : List Loc) (ls : Array Slot), cw_X1 r0 → uw_M D vwCl (cX vl) q (tw_A (cX vl) u) s.heap u z H locs → lv_has ls 9 [(0, .ref (u r0)), (1, .int x1), (2, .int x2), (3, .int x3), (4, .int x4), (5, .int x5), (6, .int x6), (7, .int x7)] → c_X1_carry vl K k 2 x1 x2 x3 x4 x5 x6 x7 r0 z = some (r, z1) → W p l e ({ frames := 0, cells := 0, slots := 0, locals := 0 } : Room) s m args below meth c H locs 0 0 QQ (F0 m 69 ls [])) := by
    intro k
    induction k with
    | zero => exact ⟨fun _ _ _ _ _ _ _ _ _ _ _ _ _ _ _ hq => cw_no hq, fun _ _ _ _ _ _ _ _ _ _ _ _ _ _ _ hq => cw_no hq, fun _ _ _ _ _ _ _ _ _ _ _ _ _ _ _ hq => cw_no hq⟩
    | succ k ih =>
      obtain ⟨ih_0, ih_1, ih_2⟩ := ih
      refine ⟨?_, ?_, ?_⟩
      · intro x1 x2 x3 x4 x5 x6 x7 r0 z H locs ls hr0 hM hl hq
        have hq : cm_X1_carry_0 vl K (c_X1_carry vl K k) x1 x2 x3 x4 x5 x6 x7 r0 z = some (r, z1) := hq
        unfold cm_X1_carry_0 at hq
        refine lv_iconst (v := 0) hx hb dcX1_carry_0 (by decide) ?_
        refine lv_istore (lv' := [(6, .int 0), (0, .ref (u r0)), (1, .int x1), (2, .int x2), (3, .int x3), (4, .int x4), (5, .int x5)]) hx hb dcX1_carry_1 hl (by decide) rfl (fun ls hl => ?_)
        refine lv_iconst (v := 0) hx hb dcX1_carry_3 (by decide) ?_
        refine lv_istore (lv' := [(7, .int 0), (6, .int 0), (0, .ref (u r0)), (1, .int x1), (2, .int x2), (3, .int x3), (4, .int x4), (5, .int x5)]) hx hb dcX1_carry_4 hl (by decide) rfl (fun ls hl => ?_)
        exact ih_1 x1 x2 x3 x4 x5 0 0 r0 z H locs ls hr0 hM (lv_sub hl [2, 3, 4, 5, 6, 7, 1, 0] rfl) hq
      · intro x1 x2 x3 x4 x5 x6 x7 r0 z H locs ls hr0 hM hl hq
        have hq : cm_X1_carry_1 vl K (c_X1_carry vl K k) x1 x2 x3 x4 x5 x6 x7 r0 z = some (r, z1) := hq
        unfold cm_X1_carry_1 at hq
        refine lv_iload hx hb dcX1_carry_6 (lv_at hl 7 rfl) ?_
        refine lv_aload_n hx hb dcX1_carry_8 rfl (lv_at hl 0 rfl) ?_
        refine vgX1_22 hx hb hT hown hK hM hr0 dcX1_carry_9 ?_
        refine lv_iload_n hx hb dcX1_carry_12 rfl (lv_at hl 3 rfl) ?_
        refine uw_iald cX_ok hx hb hK hM (cr_X1_2 hr0) hq dcX1_carry_13 (fun v1 hq => ?_)
        refine lv_icmp_ge (tgt := 75) hx hb dcX1_carry_14 (by decide) (fun hc => ?_) (fun hc => ?_)
        · have hq := tw_it hq hc
          refine lv_iload hx hb dcX1_carry_75 (lv_at hl 6 rfl) ?_
          exact cw_iret hx hb hr hlocks hM hq hQQ dcX1_carry_77
        · have hq := tw_if hq hc
          refine lv_iload hx hb dcX1_carry_17 (lv_at hl 7 rfl) ?_
          refine lv_iload hx hb dcX1_carry_19 (lv_at hl 4 rfl) ?_
          refine lv_icmp_eq (tgt := 69) hx hb dcX1_carry_21 (by decide) (fun hc => ?_) (fun hc => ?_)
          · have hq := tw_it hq hc
            exact ih_2 x1 x2 x3 x4 x5 x6 x7 r0 z H locs ls hr0 hM (lv_sub hl [0, 1, 2, 3, 4, 5, 6, 7] rfl) hq
          · have hq := tw_if hq hc
            refine lv_iload hx hb dcX1_carry_24 (lv_at hl 7 rfl) ?_
            refine lv_iload hx hb dcX1_carry_26 (lv_at hl 5 rfl) ?_
            refine lv_icmp_eq (tgt := 69) hx hb dcX1_carry_28 (by decide) (fun hc => ?_) (fun hc => ?_)
            · have hq := tw_it hq hc
              exact ih_2 x1 x2 x3 x4 x5 x6 x7 r0 z H locs ls hr0 hM (lv_sub hl [0, 1, 2, 3, 4, 5, 6, 7] rfl) hq
            · have hq := tw_if hq hc
              refine lv_aload_n hx hb dcX1_carry_31 rfl (lv_at hl 0 rfl) ?_
              refine vgX1_18 hx hb hT hown hK hM hr0 dcX1_carry_32 ?_
              refine lv_iload_n hx hb dcX1_carry_35 rfl (lv_at hl 1 rfl) ?_
              refine lv_bipush (v := 16) hx hb dcX1_carry_36 (by decide) ?_
              refine lv_imul hx hb dcX1_carry_38 ?_
              refine lv_aload_n hx hb dcX1_carry_39 rfl (lv_at hl 0 rfl) ?_
              refine vgX1_26 hx hb hT hown hK hM hr0 dcX1_carry_40 ?_
              refine lv_iload_n hx hb dcX1_carry_43 rfl (lv_at hl 3 rfl) ?_
              refine lv_bipush (v := 10) hx hb dcX1_carry_44 (by decide) ?_
              refine lv_imul hx hb dcX1_carry_46 ?_
              refine lv_iload hx hb dcX1_carry_47 (lv_at hl 7 rfl) ?_
              refine lv_iadd hx hb dcX1_carry_49 ?_
              refine uw_bald cX_ok hx hb hK hM (cr_X1_3 hr0) hq dcX1_carry_50 (fun v2 hq => ?_)
              refine lv_iadd hx hb dcX1_carry_51 ?_
              refine uw_bald cX_ok hx hb hK hM (cr_X1_1 hr0) hq dcX1_carry_52 (fun v3 hq => ?_)
              refine lv_istore (lv' := [(8, .int v3), (0, .ref (u r0)), (1, .int x1), (2, .int x2), (3, .int x3), (4, .int x4), (5, .int x5), (6, .int x6), (7, .int x7)]) hx hb dcX1_carry_53 hl (by decide) rfl (fun ls hl => ?_)
              refine lv_iload hx hb dcX1_carry_55 (lv_at hl 7 rfl) ?_
              refine lv_iload_n hx hb dcX1_carry_57 rfl (lv_at hl 3 rfl) ?_
              refine lv_iload hx hb dcX1_carry_58 (lv_at hl 0 rfl) ?_
              refine lv_ishr hx hb dcX1_carry_60 ?_
              refine lv_iconst (v := 1) hx hb dcX1_carry_61 (by decide) ?_
              refine lv_iand hx hb dcX1_carry_62 ?_
              refine lv_iload hx hb dcX1_carry_63 (lv_at hl 8 rfl) ?_
              refine lv_ishl hx hb dcX1_carry_65 ?_
              refine lv_ior hx hb dcX1_carry_66 ?_
              refine lv_istore (lv' := [(6, .int (x6 ||| (((((x2 : Int32) >>> ((v3 : Int32) &&& 31)) &&& 1) : Int32) <<< ((x7 : Int32) &&& 31)))), (8, .int v3), (0, .ref (u r0)), (1, .int x1), (2, .int x2), (3, .int x3), (4, .int x4), (5, .int x5), (7, .int x7)]) hx hb dcX1_carry_67 hl (by decide) rfl (fun ls hl => ?_)
              exact ih_2 x1 x2 x3 x4 x5 (x6 ||| (((((x2 : Int32) >>> ((v3 : Int32) &&& 31)) &&& 1) : Int32) <<< ((x7 : Int32) &&& 31))) x7 r0 z H locs ls hr0 hM (lv_sub hl [2, 3, 4, 5, 6, 7, 0, 8] rfl) hq
      · intro x1 x2 x3 x4 x5 x6 x7 r0 z H locs ls hr0 hM hl hq
        have hq : cm_X1_carry_2 vl K (c_X1_carry vl K k) x1 x2 x3 x4 x5 x6 x7 r0 z = some (r, z1) := hq
        unfold cm_X1_carry_2 at hq
        refine lv_iinc (v := (x7 + 1)) (lv' := [(7, .int (x7 + 1)), (0, .ref (u r0)), (1, .int x1), (2, .int x2), (3, .int x3), (4, .int x4), (5, .int x5), (6, .int x6)]) hx hb dcX1_carry_69 hl (k := 7) rfl rfl (by decide) rfl (fun ls hl => ?_)
        refine lv_goto (tgt := 6) hx hb dcX1_carry_72 (by decide) ?_
        exact ih_1 x1 x2 x3 x4 x5 x6 (x7 + 1) r0 z H locs ls hr0 hM (lv_sub hl [1, 2, 3, 4, 5, 6, 7, 0] rfl) hq
  exact (key K).1 x1 x2 x3 x4 x5 0 0 r0 z s.heap [] ls hr0 hM (lv_sub hl [0, 1, 2, 3, 4, 5] rfl) hq
theorem dcX1_otherLoop_0 : decode cX1_otherLoop 0 = .ok (.iload_n 1, 1) := dw_at cX1_otherLoop_k0 (p := 0) rfl (by decide +kernel)
theorem dcX1_otherLoop_1 : decode cX1_otherLoop 1 = .ok (.bipush 16, 2) := dw_at cX1_otherLoop_k0 (p := 1) rfl (by decide +kernel)
theorem dcX1_otherLoop_3 : decode cX1_otherLoop 3 = .ok (.imul, 1) := dw_at cX1_otherLoop_k0 (p := 3) rfl (by decide +kernel)
theorem dcX1_otherLoop_4 : decode cX1_otherLoop 4 = .ok (.istore_n 3, 1) := dw_at cX1_otherLoop_k0 (p := 4) rfl (by decide +kernel)
theorem dcX1_otherLoop_5 : decode cX1_otherLoop 5 = .ok (.aload_n 0, 1) := dw_at cX1_otherLoop_k0 (p := 5) rfl (by decide +kernel)
theorem dcX1_otherLoop_6 : decode cX1_otherLoop 6 = .ok (.getfield 18, 3) := dw_at cX1_otherLoop_k0 (p := 6) rfl (by decide +kernel)
theorem dcX1_otherLoop_9 : decode cX1_otherLoop 9 = .ok (.iload_n 3, 1) := dw_at cX1_otherLoop_k0 (p := 9) rfl (by decide +kernel)
theorem dcX1_otherLoop_10 : decode cX1_otherLoop 10 = .ok (.iconst 2, 1) := dw_at cX1_otherLoop_k0 (p := 10) rfl (by decide +kernel)
theorem dcX1_otherLoop_11 : decode cX1_otherLoop 11 = .ok (.iload_n 2, 1) := dw_at cX1_otherLoop_k0 (p := 11) rfl (by decide +kernel)
theorem dcX1_otherLoop_12 : decode cX1_otherLoop 12 = .ok (.imul, 1) := dw_at cX1_otherLoop_k0 (p := 12) rfl (by decide +kernel)
theorem dcX1_otherLoop_13 : decode cX1_otherLoop 13 = .ok (.iadd, 1) := dw_at cX1_otherLoop_k0 (p := 13) rfl (by decide +kernel)
theorem dcX1_otherLoop_14 : decode cX1_otherLoop 14 = .ok (.baload, 1) := dw_at cX1_otherLoop_k0 (p := 14) rfl (by decide +kernel)
theorem dcX1_otherLoop_15 : decode cX1_otherLoop 15 = .ok (.istore 4, 2) := dw_at cX1_otherLoop_k0 (p := 15) rfl (by decide +kernel)
theorem dcX1_otherLoop_17 : decode cX1_otherLoop 17 = .ok (.aload_n 0, 1) := dw_at cX1_otherLoop_k0 (p := 17) rfl (by decide +kernel)
theorem dcX1_otherLoop_18 : decode cX1_otherLoop 18 = .ok (.getfield 18, 3) := dw_at cX1_otherLoop_k0 (p := 18) rfl (by decide +kernel)
theorem dcX1_otherLoop_21 : decode cX1_otherLoop 21 = .ok (.iload_n 3, 1) := dw_at cX1_otherLoop_k0 (p := 21) rfl (by decide +kernel)
theorem dcX1_otherLoop_22 : decode cX1_otherLoop 22 = .ok (.iconst 2, 1) := dw_at cX1_otherLoop_k0 (p := 22) rfl (by decide +kernel)
theorem dcX1_otherLoop_23 : decode cX1_otherLoop 23 = .ok (.iload_n 2, 1) := dw_at cX1_otherLoop_k0 (p := 23) rfl (by decide +kernel)
theorem dcX1_otherLoop_24 : decode cX1_otherLoop 24 = .ok (.imul, 1) := dw_at cX1_otherLoop_k1 (p := 0) rfl (by decide +kernel)
theorem dcX1_otherLoop_25 : decode cX1_otherLoop 25 = .ok (.iadd, 1) := dw_at cX1_otherLoop_k1 (p := 1) rfl (by decide +kernel)
theorem dcX1_otherLoop_26 : decode cX1_otherLoop 26 = .ok (.iconst 1, 1) := dw_at cX1_otherLoop_k1 (p := 2) rfl (by decide +kernel)
theorem dcX1_otherLoop_27 : decode cX1_otherLoop 27 = .ok (.iadd, 1) := dw_at cX1_otherLoop_k1 (p := 3) rfl (by decide +kernel)
theorem dcX1_otherLoop_28 : decode cX1_otherLoop 28 = .ok (.baload, 1) := dw_at cX1_otherLoop_k1 (p := 4) rfl (by decide +kernel)
theorem dcX1_otherLoop_29 : decode cX1_otherLoop 29 = .ok (.istore 5, 2) := dw_at cX1_otherLoop_k1 (p := 5) rfl (by decide +kernel)
theorem dcX1_otherLoop_31 : decode cX1_otherLoop 31 = .ok (.aload_n 0, 1) := dw_at cX1_otherLoop_k1 (p := 7) rfl (by decide +kernel)
theorem dcX1_otherLoop_32 : decode cX1_otherLoop 32 = .ok (.getfield 18, 3) := dw_at cX1_otherLoop_k1 (p := 8) rfl (by decide +kernel)
theorem dcX1_otherLoop_35 : decode cX1_otherLoop 35 = .ok (.iload_n 3, 1) := dw_at cX1_otherLoop_k1 (p := 11) rfl (by decide +kernel)
theorem dcX1_otherLoop_36 : decode cX1_otherLoop 36 = .ok (.aload_n 0, 1) := dw_at cX1_otherLoop_k1 (p := 12) rfl (by decide +kernel)
theorem dcX1_otherLoop_37 : decode cX1_otherLoop 37 = .ok (.getfield 12, 3) := dw_at cX1_otherLoop_k1 (p := 13) rfl (by decide +kernel)
theorem dcX1_otherLoop_40 : decode cX1_otherLoop 40 = .ok (.getfield 151, 3) := dw_at cX1_otherLoop_k1 (p := 16) rfl (by decide +kernel)
theorem dcX1_otherLoop_43 : decode cX1_otherLoop 43 = .ok (.iconst 2, 1) := dw_at cX1_otherLoop_k1 (p := 19) rfl (by decide +kernel)
theorem dcX1_otherLoop_44 : decode cX1_otherLoop 44 = .ok (.iload_n 2, 1) := dw_at cX1_otherLoop_k1 (p := 20) rfl (by decide +kernel)
theorem dcX1_otherLoop_45 : decode cX1_otherLoop 45 = .ok (.imul, 1) := dw_at cX1_otherLoop_k1 (p := 21) rfl (by decide +kernel)
theorem dcX1_otherLoop_46 : decode cX1_otherLoop 46 = .ok (.iaload, 1) := dw_at cX1_otherLoop_k1 (p := 22) rfl (by decide +kernel)
theorem dcX1_otherLoop_47 : decode cX1_otherLoop 47 = .ok (.iadd, 1) := dw_at cX1_otherLoop_k1 (p := 23) rfl (by decide +kernel)
theorem dcX1_otherLoop_48 : decode cX1_otherLoop 48 = .ok (.baload, 1) := dw_at cX1_otherLoop_k2 (p := 0) rfl (by decide +kernel)
theorem dcX1_otherLoop_49 : decode cX1_otherLoop 49 = .ok (.istore 6, 2) := dw_at cX1_otherLoop_k2 (p := 1) rfl (by decide +kernel)
theorem dcX1_otherLoop_51 : decode cX1_otherLoop 51 = .ok (.aload_n 0, 1) := dw_at cX1_otherLoop_k2 (p := 3) rfl (by decide +kernel)
theorem dcX1_otherLoop_52 : decode cX1_otherLoop 52 = .ok (.getfield 18, 3) := dw_at cX1_otherLoop_k2 (p := 4) rfl (by decide +kernel)
theorem dcX1_otherLoop_55 : decode cX1_otherLoop 55 = .ok (.iload_n 3, 1) := dw_at cX1_otherLoop_k2 (p := 7) rfl (by decide +kernel)
theorem dcX1_otherLoop_56 : decode cX1_otherLoop 56 = .ok (.aload_n 0, 1) := dw_at cX1_otherLoop_k2 (p := 8) rfl (by decide +kernel)
theorem dcX1_otherLoop_57 : decode cX1_otherLoop 57 = .ok (.getfield 12, 3) := dw_at cX1_otherLoop_k2 (p := 9) rfl (by decide +kernel)
theorem dcX1_otherLoop_60 : decode cX1_otherLoop 60 = .ok (.getfield 151, 3) := dw_at cX1_otherLoop_k2 (p := 12) rfl (by decide +kernel)
theorem dcX1_otherLoop_63 : decode cX1_otherLoop 63 = .ok (.iconst 2, 1) := dw_at cX1_otherLoop_k2 (p := 15) rfl (by decide +kernel)
theorem dcX1_otherLoop_64 : decode cX1_otherLoop 64 = .ok (.iload_n 2, 1) := dw_at cX1_otherLoop_k2 (p := 16) rfl (by decide +kernel)
theorem dcX1_otherLoop_65 : decode cX1_otherLoop 65 = .ok (.imul, 1) := dw_at cX1_otherLoop_k2 (p := 17) rfl (by decide +kernel)
theorem dcX1_otherLoop_66 : decode cX1_otherLoop 66 = .ok (.iconst 1, 1) := dw_at cX1_otherLoop_k2 (p := 18) rfl (by decide +kernel)
theorem dcX1_otherLoop_67 : decode cX1_otherLoop 67 = .ok (.iadd, 1) := dw_at cX1_otherLoop_k2 (p := 19) rfl (by decide +kernel)
theorem dcX1_otherLoop_68 : decode cX1_otherLoop 68 = .ok (.iaload, 1) := dw_at cX1_otherLoop_k2 (p := 20) rfl (by decide +kernel)
theorem dcX1_otherLoop_69 : decode cX1_otherLoop 69 = .ok (.iadd, 1) := dw_at cX1_otherLoop_k2 (p := 21) rfl (by decide +kernel)
theorem dcX1_otherLoop_70 : decode cX1_otherLoop 70 = .ok (.baload, 1) := dw_at cX1_otherLoop_k2 (p := 22) rfl (by decide +kernel)
theorem dcX1_otherLoop_71 : decode cX1_otherLoop 71 = .ok (.istore 7, 2) := dw_at cX1_otherLoop_k2 (p := 23) rfl (by decide +kernel)
theorem dcX1_otherLoop_73 : decode cX1_otherLoop 73 = .ok (.iload 5, 2) := dw_at cX1_otherLoop_k3 (p := 0) rfl (by decide +kernel)
theorem dcX1_otherLoop_75 : decode cX1_otherLoop 75 = .ok (.iload 4, 2) := dw_at cX1_otherLoop_k3 (p := 2) rfl (by decide +kernel)
theorem dcX1_otherLoop_77 : decode cX1_otherLoop 77 = .ok (.if_icmp .eq 8, 3) := dw_at cX1_otherLoop_k3 (p := 4) rfl (by decide +kernel)
theorem dcX1_otherLoop_80 : decode cX1_otherLoop 80 = .ok (.iload 5, 2) := dw_at cX1_otherLoop_k3 (p := 7) rfl (by decide +kernel)
theorem dcX1_otherLoop_82 : decode cX1_otherLoop 82 = .ok (.goto 17, 3) := dw_at cX1_otherLoop_k3 (p := 9) rfl (by decide +kernel)
theorem dcX1_otherLoop_85 : decode cX1_otherLoop 85 = .ok (.iload 6, 2) := dw_at cX1_otherLoop_k3 (p := 12) rfl (by decide +kernel)
theorem dcX1_otherLoop_87 : decode cX1_otherLoop 87 = .ok (.iload 4, 2) := dw_at cX1_otherLoop_k3 (p := 14) rfl (by decide +kernel)
theorem dcX1_otherLoop_89 : decode cX1_otherLoop 89 = .ok (.if_icmp .eq 8, 3) := dw_at cX1_otherLoop_k3 (p := 16) rfl (by decide +kernel)
theorem dcX1_otherLoop_92 : decode cX1_otherLoop 92 = .ok (.iload 6, 2) := dw_at cX1_otherLoop_k3 (p := 19) rfl (by decide +kernel)
theorem dcX1_otherLoop_94 : decode cX1_otherLoop 94 = .ok (.goto 5, 3) := dw_at cX1_otherLoop_k3 (p := 21) rfl (by decide +kernel)
theorem dcX1_otherLoop_97 : decode cX1_otherLoop 97 = .ok (.iload 7, 2) := dw_at cX1_otherLoop_k3 (p := 24) rfl (by decide +kernel)
theorem dcX1_otherLoop_99 : decode cX1_otherLoop 99 = .ok (.ireturn, 1) := dw_at cX1_otherLoop_k3 (p := 26) rfl (by decide +kernel)
def cm_X1_otherLoop_0 (vl : Nat → Nat) (K : Nat) (x1 : Int32) (x2 : Int32) (r0 : Nat) (z : ow_MS) : Option (Int32 × ow_MS) :=
 crI (cX vl) z (r0 + 2) ((x1 * 16) + (2 * x2)) fun v1 => crI (cX vl) z (r0 + 2) (((x1 * 16) + (2 * x2)) + 1) fun v2 => crI (cX vl) z ((r0 + 1000) + 2) (2 * x2) fun v3 => crI (cX vl) z (r0 + 2) ((x1 * 16) + v3) fun v4 => crI (cX vl) z ((r0 + 1000) + 2) ((2 * x2) + 1) fun v5 => crI (cX vl) z (r0 + 2) ((x1 * 16) + v5) fun v6 => (if v2 = v1 then (if v4 = v1 then some (v6, z)
 else some (v4, z))
 else some (v2, z))
def ce_X1_otherLoop (vl : Nat → Nat) (K : Nat) (r0 : Nat) (x1 : Int32) (x2 : Int32) (z : ow_MS) : Option (Int32 × ow_MS) := cm_X1_otherLoop_0 vl K x1 x2 r0 z
abbrev wc_X1_otherLoop : List Cond := .code yX1_otherLoop cX1_otherLoop 8 (some .int) :: wC
theorem cdd_X1_otherLoop : yX1_otherLoop.cls = RX1 ∧ yX1_otherLoop.cls ≠ "java/lang/invoke/MethodHandle" ∧ yX1_otherLoop.cls ≠ "java/lang/invoke/VarHandle" ∧ (parseMethodDescriptor yX1_otherLoop.desc).map (fun d => d.parameters.length) = some 2 := by decide +kernel
set_option maxHeartbeats 4000000 in
set_option maxRecDepth 100000 in
theorem kc_X1_otherLoop (l : Launch) (D : va_G) (q : Nat → ClassId) (vl u : Nat → Nat) (hU0 : tw_inj (cX vl) u) (K : Nat) (r0 : Nat) (x1 : Int32) (x2 : Int32) (hr0 : cw_X1 r0) (z z1 : ow_MS) (r : Int32) (hq : ce_X1_otherLoop vl K r0 x1 x2 z = some (r, z1)) : Met l yX1_otherLoop wc_X1_otherLoop ({ frames := 0, cells := 0, slots := 0, locals := 0 } : Room) (va_Pc [.ref (u r0), .int x1, .int x2] (cw_pre D q vl u z)) (va_Qi (fun x (_ : Unit) => x = r) (fun _ t => va_P D vwCl (uw (cX vl) q u z1) t.heap) (tw_A (cX vl) u)) 0 0 (tw_A (cX vl) u) := by
  refine Met.ofW (cc := cX1_otherLoop) (maxL := 8) (ret := (some .int)) (by decide) rfl ?_
  intro p e s m args below meth c s₁ B hml hv
  obtain ⟨rfl, hP, hK⟩ := hv
  have hx := B.exec
  have hb := B.bytes
  have hr := B.returns
  have hts := atoms_spec (ws := wc_X1_otherLoop) B.pre
  have hT : ∀ w ∈ wC, w.before ([.ref (u r0), .int x1, .int x2] : List Value).toArray s = true := fun w h => hts w (List.mem_cons_of_mem _ h)
  have hown : s.vm.findClass RX1 = some m.cls := findClass_of_methodNamed B.named
  have hlocks := B.notSynchronized
  have hU : uw_inj (cX vl) u (tw_A (cX vl) u) := ⟨hU0, fun h hh => ⟨h, hh, rfl⟩⟩
  have hM : uw_M D vwCl (cX vl) q (tw_A (cX vl) u) s.heap u z s.heap [] := ⟨hP, va_S.rf⟩
  have hl := lv_entry ([.ref (u r0), .int x1, .int x2]) (n := 8) (Nat.le_of_ble_eq_true rfl)
  rw [lg_entry_eq]
  generalize (lg_sl ([.ref (u r0), .int x1, .int x2]) ++ List.replicate (8 - (lg_sl ([.ref (u r0), .int x1, .int x2])).length) Slot.unset).toArray = ls at hl ⊢
  have hl : lv_has ls 8 [(0, .ref (u r0)), (1, .int x1), (2, .int x2)] := hl
  refine ow_named (fun QQ hQQ => ?_)
  generalize ([.ref (u r0), .int x1, .int x2] : List Value).toArray = args at hts hT hQQ ⊢
  have hq : cm_X1_otherLoop_0 vl K x1 x2 r0 z = some (r, z1) := hq
  unfold cm_X1_otherLoop_0 at hq
  suffices key : ∀ (H : Heap) (locs : List Loc), uw_M D vwCl (cX vl) q (tw_A (cX vl) u) s.heap u z H locs → W p l e ({ frames := 0, cells := 0, slots := 0, locals := 0 } : Room) s m args below meth c H locs 0 0 QQ (F0 m 0 ls []) from key s.heap [] hM
  intro H locs hM
  refine lv_iload_n hx hb dcX1_otherLoop_0 rfl (lv_at hl 1 rfl) ?_
  refine lv_bipush (v := 16) hx hb dcX1_otherLoop_1 (by decide) ?_
  refine lv_imul hx hb dcX1_otherLoop_3 ?_
  refine lv_istore_n (lv' := [(3, .int (x1 * 16)), (0, .ref (u r0)), (1, .int x1), (2, .int x2)]) hx hb dcX1_otherLoop_4 rfl hl (by decide) rfl (fun ls hl => ?_)
  refine lv_aload_n hx hb dcX1_otherLoop_5 rfl (lv_at hl 1 rfl) ?_
  refine vgX1_18 hx hb hT hown hK hM hr0 dcX1_otherLoop_6 ?_
  refine lv_iload_n hx hb dcX1_otherLoop_9 rfl (lv_at hl 0 rfl) ?_
  refine lv_iconst (v := 2) hx hb dcX1_otherLoop_10 (by decide) ?_
  refine lv_iload_n hx hb dcX1_otherLoop_11 rfl (lv_at hl 3 rfl) ?_
  refine lv_imul hx hb dcX1_otherLoop_12 ?_
  refine lv_iadd hx hb dcX1_otherLoop_13 ?_
  refine uw_bald cX_ok hx hb hK hM (cr_X1_1 hr0) hq dcX1_otherLoop_14 (fun v1 hq => ?_)
  refine lv_istore (lv' := [(4, .int v1), (3, .int (x1 * 16)), (0, .ref (u r0)), (1, .int x1), (2, .int x2)]) hx hb dcX1_otherLoop_15 hl (by decide) rfl (fun ls hl => ?_)
  refine lv_aload_n hx hb dcX1_otherLoop_17 rfl (lv_at hl 2 rfl) ?_
  refine vgX1_18 hx hb hT hown hK hM hr0 dcX1_otherLoop_18 ?_
  refine lv_iload_n hx hb dcX1_otherLoop_21 rfl (lv_at hl 1 rfl) ?_
  refine lv_iconst (v := 2) hx hb dcX1_otherLoop_22 (by decide) ?_
  refine lv_iload_n hx hb dcX1_otherLoop_23 rfl (lv_at hl 4 rfl) ?_
  refine lv_imul hx hb dcX1_otherLoop_24 ?_
  refine lv_iadd hx hb dcX1_otherLoop_25 ?_
  refine lv_iconst (v := 1) hx hb dcX1_otherLoop_26 (by decide) ?_
  refine lv_iadd hx hb dcX1_otherLoop_27 ?_
  refine uw_bald cX_ok hx hb hK hM (cr_X1_1 hr0) hq dcX1_otherLoop_28 (fun v2 hq => ?_)
  refine lv_istore (lv' := [(5, .int v2), (4, .int v1), (3, .int (x1 * 16)), (0, .ref (u r0)), (1, .int x1), (2, .int x2)]) hx hb dcX1_otherLoop_29 hl (by decide) rfl (fun ls hl => ?_)
  refine lv_aload_n hx hb dcX1_otherLoop_31 rfl (lv_at hl 3 rfl) ?_
  refine vgX1_18 hx hb hT hown hK hM hr0 dcX1_otherLoop_32 ?_
  refine lv_iload_n hx hb dcX1_otherLoop_35 rfl (lv_at hl 2 rfl) ?_
  refine lv_aload_n hx hb dcX1_otherLoop_36 rfl (lv_at hl 3 rfl) ?_
  refine vgX1_12 hx hb hT hown hK hM hr0 dcX1_otherLoop_37 ?_
  refine vgX1_151 hx hb hT hown hK hM (cs_X1_0 hr0) dcX1_otherLoop_40 ?_
  refine lv_iconst (v := 2) hx hb dcX1_otherLoop_43 (by decide) ?_
  refine lv_iload_n hx hb dcX1_otherLoop_44 rfl (lv_at hl 5 rfl) ?_
  refine lv_imul hx hb dcX1_otherLoop_45 ?_
  refine uw_iald cX_ok hx hb hK hM (cr_X7_1 (cs_X1_0 hr0)) hq dcX1_otherLoop_46 (fun v3 hq => ?_)
  refine lv_iadd hx hb dcX1_otherLoop_47 ?_
  refine uw_bald cX_ok hx hb hK hM (cr_X1_1 hr0) hq dcX1_otherLoop_48 (fun v4 hq => ?_)
  refine lv_istore (lv' := [(6, .int v4), (5, .int v2), (4, .int v1), (3, .int (x1 * 16)), (0, .ref (u r0)), (1, .int x1), (2, .int x2)]) hx hb dcX1_otherLoop_49 hl (by decide) rfl (fun ls hl => ?_)
  refine lv_aload_n hx hb dcX1_otherLoop_51 rfl (lv_at hl 4 rfl) ?_
  refine vgX1_18 hx hb hT hown hK hM hr0 dcX1_otherLoop_52 ?_
  refine lv_iload_n hx hb dcX1_otherLoop_55 rfl (lv_at hl 3 rfl) ?_
  refine lv_aload_n hx hb dcX1_otherLoop_56 rfl (lv_at hl 4 rfl) ?_
  refine vgX1_12 hx hb hT hown hK hM hr0 dcX1_otherLoop_57 ?_
  refine vgX1_151 hx hb hT hown hK hM (cs_X1_0 hr0) dcX1_otherLoop_60 ?_
  refine lv_iconst (v := 2) hx hb dcX1_otherLoop_63 (by decide) ?_
  refine lv_iload_n hx hb dcX1_otherLoop_64 rfl (lv_at hl 6 rfl) ?_
  refine lv_imul hx hb dcX1_otherLoop_65 ?_
  refine lv_iconst (v := 1) hx hb dcX1_otherLoop_66 (by decide) ?_
  refine lv_iadd hx hb dcX1_otherLoop_67 ?_
  refine uw_iald cX_ok hx hb hK hM (cr_X7_1 (cs_X1_0 hr0)) hq dcX1_otherLoop_68 (fun v5 hq => ?_)
  refine lv_iadd hx hb dcX1_otherLoop_69 ?_
  refine uw_bald cX_ok hx hb hK hM (cr_X1_1 hr0) hq dcX1_otherLoop_70 (fun v6 hq => ?_)
  refine lv_istore (lv' := [(7, .int v6), (6, .int v4), (5, .int v2), (4, .int v1), (3, .int (x1 * 16)), (0, .ref (u r0)), (1, .int x1), (2, .int x2)]) hx hb dcX1_otherLoop_71 hl (by decide) rfl (fun ls hl => ?_)
  refine lv_iload hx hb dcX1_otherLoop_73 (lv_at hl 2 rfl) ?_
  refine lv_iload hx hb dcX1_otherLoop_75 (lv_at hl 3 rfl) ?_
  refine lv_icmp_eq (tgt := 85) hx hb dcX1_otherLoop_77 (by decide) (fun hc => ?_) (fun hc => ?_)
  · have hq := tw_it hq hc
    refine lv_iload hx hb dcX1_otherLoop_85 (lv_at hl 1 rfl) ?_
    refine lv_iload hx hb dcX1_otherLoop_87 (lv_at hl 3 rfl) ?_
    refine lv_icmp_eq (tgt := 97) hx hb dcX1_otherLoop_89 (by decide) (fun hc => ?_) (fun hc => ?_)
    · have hq := tw_it hq hc
      refine lv_iload hx hb dcX1_otherLoop_97 (lv_at hl 0 rfl) ?_
      exact cw_iret hx hb hr hlocks hM hq hQQ dcX1_otherLoop_99
    · have hq := tw_if hq hc
      refine lv_iload hx hb dcX1_otherLoop_92 (lv_at hl 1 rfl) ?_
      refine lv_goto (tgt := 99) hx hb dcX1_otherLoop_94 (by decide) ?_
      exact cw_iret hx hb hr hlocks hM hq hQQ dcX1_otherLoop_99
  · have hq := tw_if hq hc
    refine lv_iload hx hb dcX1_otherLoop_80 (lv_at hl 2 rfl) ?_
    refine lv_goto (tgt := 99) hx hb dcX1_otherLoop_82 (by decide) ?_
    exact cw_iret hx hb hr hlocks hM hq hQQ dcX1_otherLoop_99
theorem dcX1_writeImage_0 : decode cX1_writeImage 0 = .ok (.iconst 0, 1) := dw_at cX1_writeImage_k0 (p := 0) rfl (by decide +kernel)
theorem dcX1_writeImage_1 : decode cX1_writeImage 1 = .ok (.istore_n 3, 1) := dw_at cX1_writeImage_k0 (p := 1) rfl (by decide +kernel)
theorem dcX1_writeImage_2 : decode cX1_writeImage 2 = .ok (.iload_n 3, 1) := dw_at cX1_writeImage_k0 (p := 2) rfl (by decide +kernel)
theorem dcX1_writeImage_3 : decode cX1_writeImage 3 = .ok (.aload_n 0, 1) := dw_at cX1_writeImage_k0 (p := 3) rfl (by decide +kernel)
theorem dcX1_writeImage_4 : decode cX1_writeImage 4 = .ok (.getfield 12, 3) := dw_at cX1_writeImage_k0 (p := 4) rfl (by decide +kernel)
theorem dcX1_writeImage_7 : decode cX1_writeImage 7 = .ok (.getfield 90, 3) := dw_at cX1_writeImage_k0 (p := 7) rfl (by decide +kernel)
theorem dcX1_writeImage_10 : decode cX1_writeImage 10 = .ok (.if_icmp .ge 246, 3) := dw_at cX1_writeImage_k0 (p := 10) rfl (by decide +kernel)
theorem dcX1_writeImage_13 : decode cX1_writeImage 13 = .ok (.iload_n 1, 1) := dw_at cX1_writeImage_k0 (p := 13) rfl (by decide +kernel)
theorem dcX1_writeImage_14 : decode cX1_writeImage 14 = .ok (.iload_n 3, 1) := dw_at cX1_writeImage_k0 (p := 14) rfl (by decide +kernel)
theorem dcX1_writeImage_15 : decode cX1_writeImage 15 = .ok (.ishr, 1) := dw_at cX1_writeImage_k0 (p := 15) rfl (by decide +kernel)
theorem dcX1_writeImage_16 : decode cX1_writeImage 16 = .ok (.iconst 1, 1) := dw_at cX1_writeImage_k0 (p := 16) rfl (by decide +kernel)
theorem dcX1_writeImage_17 : decode cX1_writeImage 17 = .ok (.iand, 1) := dw_at cX1_writeImage_k0 (p := 17) rfl (by decide +kernel)
theorem dcX1_writeImage_18 : decode cX1_writeImage 18 = .ok (.ifCond .eq 6, 3) := dw_at cX1_writeImage_k0 (p := 18) rfl (by decide +kernel)
theorem dcX1_writeImage_21 : decode cX1_writeImage 21 = .ok (.goto 229, 3) := dw_at cX1_writeImage_k0 (p := 21) rfl (by decide +kernel)
theorem dcX1_writeImage_24 : decode cX1_writeImage 24 = .ok (.iload_n 1, 1) := dw_at cX1_writeImage_k1 (p := 0) rfl (by decide +kernel)
theorem dcX1_writeImage_25 : decode cX1_writeImage 25 = .ok (.iconst 1, 1) := dw_at cX1_writeImage_k1 (p := 1) rfl (by decide +kernel)
theorem dcX1_writeImage_26 : decode cX1_writeImage 26 = .ok (.iload_n 3, 1) := dw_at cX1_writeImage_k1 (p := 2) rfl (by decide +kernel)
theorem dcX1_writeImage_27 : decode cX1_writeImage 27 = .ok (.ishl, 1) := dw_at cX1_writeImage_k1 (p := 3) rfl (by decide +kernel)
theorem dcX1_writeImage_28 : decode cX1_writeImage 28 = .ok (.ior, 1) := dw_at cX1_writeImage_k1 (p := 4) rfl (by decide +kernel)
theorem dcX1_writeImage_29 : decode cX1_writeImage 29 = .ok (.istore 4, 2) := dw_at cX1_writeImage_k1 (p := 5) rfl (by decide +kernel)
theorem dcX1_writeImage_31 : decode cX1_writeImage 31 = .ok (.aload_n 0, 1) := dw_at cX1_writeImage_k1 (p := 7) rfl (by decide +kernel)
theorem dcX1_writeImage_32 : decode cX1_writeImage 32 = .ok (.getfield 18, 3) := dw_at cX1_writeImage_k1 (p := 8) rfl (by decide +kernel)
theorem dcX1_writeImage_35 : decode cX1_writeImage 35 = .ok (.iload_n 1, 1) := dw_at cX1_writeImage_k1 (p := 11) rfl (by decide +kernel)
theorem dcX1_writeImage_36 : decode cX1_writeImage 36 = .ok (.bipush 16, 2) := dw_at cX1_writeImage_k1 (p := 12) rfl (by decide +kernel)
theorem dcX1_writeImage_38 : decode cX1_writeImage 38 = .ok (.imul, 1) := dw_at cX1_writeImage_k1 (p := 14) rfl (by decide +kernel)
theorem dcX1_writeImage_39 : decode cX1_writeImage 39 = .ok (.iconst 2, 1) := dw_at cX1_writeImage_k1 (p := 15) rfl (by decide +kernel)
theorem dcX1_writeImage_40 : decode cX1_writeImage 40 = .ok (.iload_n 3, 1) := dw_at cX1_writeImage_k1 (p := 16) rfl (by decide +kernel)
theorem dcX1_writeImage_41 : decode cX1_writeImage 41 = .ok (.imul, 1) := dw_at cX1_writeImage_k1 (p := 17) rfl (by decide +kernel)
theorem dcX1_writeImage_42 : decode cX1_writeImage 42 = .ok (.iadd, 1) := dw_at cX1_writeImage_k1 (p := 18) rfl (by decide +kernel)
theorem dcX1_writeImage_43 : decode cX1_writeImage 43 = .ok (.baload, 1) := dw_at cX1_writeImage_k1 (p := 19) rfl (by decide +kernel)
theorem dcX1_writeImage_44 : decode cX1_writeImage 44 = .ok (.istore 5, 2) := dw_at cX1_writeImage_k1 (p := 20) rfl (by decide +kernel)
theorem dcX1_writeImage_46 : decode cX1_writeImage 46 = .ok (.aload_n 0, 1) := dw_at cX1_writeImage_k1 (p := 22) rfl (by decide +kernel)
theorem dcX1_writeImage_47 : decode cX1_writeImage 47 = .ok (.iload_n 1, 1) := dw_at cX1_writeImage_k1 (p := 23) rfl (by decide +kernel)
theorem dcX1_writeImage_48 : decode cX1_writeImage 48 = .ok (.iload_n 3, 1) := dw_at cX1_writeImage_k2 (p := 0) rfl (by decide +kernel)
theorem dcX1_writeImage_49 : decode cX1_writeImage 49 = .ok (.invokevirtual 176, 3) := dw_at cX1_writeImage_k2 (p := 1) rfl (by decide +kernel)
theorem dcX1_writeImage_52 : decode cX1_writeImage 52 = .ok (.istore 6, 2) := dw_at cX1_writeImage_k2 (p := 4) rfl (by decide +kernel)
theorem dcX1_writeImage_54 : decode cX1_writeImage 54 = .ok (.aload_n 0, 1) := dw_at cX1_writeImage_k2 (p := 6) rfl (by decide +kernel)
theorem dcX1_writeImage_55 : decode cX1_writeImage 55 = .ok (.getfield 18, 3) := dw_at cX1_writeImage_k2 (p := 7) rfl (by decide +kernel)
theorem dcX1_writeImage_58 : decode cX1_writeImage 58 = .ok (.iload 4, 2) := dw_at cX1_writeImage_k2 (p := 10) rfl (by decide +kernel)
theorem dcX1_writeImage_60 : decode cX1_writeImage 60 = .ok (.bipush 16, 2) := dw_at cX1_writeImage_k2 (p := 12) rfl (by decide +kernel)
theorem dcX1_writeImage_62 : decode cX1_writeImage 62 = .ok (.imul, 1) := dw_at cX1_writeImage_k2 (p := 14) rfl (by decide +kernel)
theorem dcX1_writeImage_63 : decode cX1_writeImage 63 = .ok (.iconst 2, 1) := dw_at cX1_writeImage_k2 (p := 15) rfl (by decide +kernel)
theorem dcX1_writeImage_64 : decode cX1_writeImage 64 = .ok (.iload_n 3, 1) := dw_at cX1_writeImage_k2 (p := 16) rfl (by decide +kernel)
theorem dcX1_writeImage_65 : decode cX1_writeImage 65 = .ok (.imul, 1) := dw_at cX1_writeImage_k2 (p := 17) rfl (by decide +kernel)
theorem dcX1_writeImage_66 : decode cX1_writeImage 66 = .ok (.iadd, 1) := dw_at cX1_writeImage_k2 (p := 18) rfl (by decide +kernel)
theorem dcX1_writeImage_67 : decode cX1_writeImage 67 = .ok (.baload, 1) := dw_at cX1_writeImage_k2 (p := 19) rfl (by decide +kernel)
theorem dcX1_writeImage_68 : decode cX1_writeImage 68 = .ok (.istore 7, 2) := dw_at cX1_writeImage_k2 (p := 20) rfl (by decide +kernel)
theorem dcX1_writeImage_70 : decode cX1_writeImage 70 = .ok (.aload_n 0, 1) := dw_at cX1_writeImage_k2 (p := 22) rfl (by decide +kernel)
theorem dcX1_writeImage_71 : decode cX1_writeImage 71 = .ok (.iload 4, 2) := dw_at cX1_writeImage_k2 (p := 23) rfl (by decide +kernel)
theorem dcX1_writeImage_73 : decode cX1_writeImage 73 = .ok (.iload_n 3, 1) := dw_at cX1_writeImage_k3 (p := 0) rfl (by decide +kernel)
theorem dcX1_writeImage_74 : decode cX1_writeImage 74 = .ok (.invokevirtual 176, 3) := dw_at cX1_writeImage_k3 (p := 1) rfl (by decide +kernel)
theorem dcX1_writeImage_77 : decode cX1_writeImage 77 = .ok (.istore 8, 2) := dw_at cX1_writeImage_k3 (p := 4) rfl (by decide +kernel)
theorem dcX1_writeImage_79 : decode cX1_writeImage 79 = .ok (.aload_n 0, 1) := dw_at cX1_writeImage_k3 (p := 6) rfl (by decide +kernel)
theorem dcX1_writeImage_80 : decode cX1_writeImage 80 = .ok (.iload_n 1, 1) := dw_at cX1_writeImage_k3 (p := 7) rfl (by decide +kernel)
theorem dcX1_writeImage_81 : decode cX1_writeImage 81 = .ok (.iload_n 2, 1) := dw_at cX1_writeImage_k3 (p := 8) rfl (by decide +kernel)
theorem dcX1_writeImage_82 : decode cX1_writeImage 82 = .ok (.iload 4, 2) := dw_at cX1_writeImage_k3 (p := 9) rfl (by decide +kernel)
theorem dcX1_writeImage_84 : decode cX1_writeImage 84 = .ok (.iload 7, 2) := dw_at cX1_writeImage_k3 (p := 11) rfl (by decide +kernel)
theorem dcX1_writeImage_86 : decode cX1_writeImage 86 = .ok (.iload 8, 2) := dw_at cX1_writeImage_k3 (p := 13) rfl (by decide +kernel)
theorem dcX1_writeImage_88 : decode cX1_writeImage 88 = .ok (.invokevirtual 180, 3) := dw_at cX1_writeImage_k3 (p := 15) rfl (by decide +kernel)
theorem dcX1_writeImage_91 : decode cX1_writeImage 91 = .ok (.istore 9, 2) := dw_at cX1_writeImage_k3 (p := 18) rfl (by decide +kernel)
theorem dcX1_writeImage_93 : decode cX1_writeImage 93 = .ok (.iload_n 1, 1) := dw_at cX1_writeImage_k3 (p := 20) rfl (by decide +kernel)
theorem dcX1_writeImage_94 : decode cX1_writeImage 94 = .ok (.iconst 1, 1) := dw_at cX1_writeImage_k3 (p := 21) rfl (by decide +kernel)
theorem dcX1_writeImage_95 : decode cX1_writeImage 95 = .ok (.iload_n 3, 1) := dw_at cX1_writeImage_k3 (p := 22) rfl (by decide +kernel)
theorem dcX1_writeImage_96 : decode cX1_writeImage 96 = .ok (.ishl, 1) := dw_at cX1_writeImage_k3 (p := 23) rfl (by decide +kernel)
theorem dcX1_writeImage_97 : decode cX1_writeImage 97 = .ok (.iconst 1, 1) := dw_at cX1_writeImage_k4 (p := 0) rfl (by decide +kernel)
theorem dcX1_writeImage_98 : decode cX1_writeImage 98 = .ok (.isub, 1) := dw_at cX1_writeImage_k4 (p := 1) rfl (by decide +kernel)
theorem dcX1_writeImage_99 : decode cX1_writeImage 99 = .ok (.iand, 1) := dw_at cX1_writeImage_k4 (p := 2) rfl (by decide +kernel)
theorem dcX1_writeImage_100 : decode cX1_writeImage 100 = .ok (.invokestatic 67, 3) := dw_at cX1_writeImage_k4 (p := 3) rfl (by decide +kernel)
theorem dcX1_writeImage_103 : decode cX1_writeImage 103 = .ok (.iconst 1, 1) := dw_at cX1_writeImage_k4 (p := 6) rfl (by decide +kernel)
theorem dcX1_writeImage_104 : decode cX1_writeImage 104 = .ok (.iand, 1) := dw_at cX1_writeImage_k4 (p := 7) rfl (by decide +kernel)
theorem dcX1_writeImage_105 : decode cX1_writeImage 105 = .ok (.ifCond .ne 7, 3) := dw_at cX1_writeImage_k4 (p := 8) rfl (by decide +kernel)
theorem dcX1_writeImage_108 : decode cX1_writeImage 108 = .ok (.iconst 1, 1) := dw_at cX1_writeImage_k4 (p := 11) rfl (by decide +kernel)
theorem dcX1_writeImage_109 : decode cX1_writeImage 109 = .ok (.goto 9, 3) := dw_at cX1_writeImage_k4 (p := 12) rfl (by decide +kernel)
theorem dcX1_writeImage_112 : decode cX1_writeImage 112 = .ok (.aload_n 0, 1) := dw_at cX1_writeImage_k4 (p := 15) rfl (by decide +kernel)
theorem dcX1_writeImage_113 : decode cX1_writeImage 113 = .ok (.getfield 80, 3) := dw_at cX1_writeImage_k4 (p := 16) rfl (by decide +kernel)
theorem dcX1_writeImage_116 : decode cX1_writeImage 116 = .ok (.iconst 1, 1) := dw_at cX1_writeImage_k4 (p := 19) rfl (by decide +kernel)
theorem dcX1_writeImage_117 : decode cX1_writeImage 117 = .ok (.isub, 1) := dw_at cX1_writeImage_k4 (p := 20) rfl (by decide +kernel)
theorem dcX1_writeImage_118 : decode cX1_writeImage 118 = .ok (.istore 10, 2) := dw_at cX1_writeImage_k4 (p := 21) rfl (by decide +kernel)
theorem dcX1_writeImage_120 : decode cX1_writeImage 120 = .ok (.iload_n 2, 1) := dw_at cX1_writeImage_k4 (p := 23) rfl (by decide +kernel)
theorem dcX1_writeImage_121 : decode cX1_writeImage 121 = .ok (.iload 5, 2) := dw_at cX1_writeImage_k5 (p := 0) rfl (by decide +kernel)
theorem dcX1_writeImage_123 : decode cX1_writeImage 123 = .ok (.ishr, 1) := dw_at cX1_writeImage_k5 (p := 2) rfl (by decide +kernel)
theorem dcX1_writeImage_124 : decode cX1_writeImage 124 = .ok (.iconst 1, 1) := dw_at cX1_writeImage_k5 (p := 3) rfl (by decide +kernel)
theorem dcX1_writeImage_125 : decode cX1_writeImage 125 = .ok (.iand, 1) := dw_at cX1_writeImage_k5 (p := 4) rfl (by decide +kernel)
theorem dcX1_writeImage_126 : decode cX1_writeImage 126 = .ok (.ifCond .eq 7, 3) := dw_at cX1_writeImage_k5 (p := 5) rfl (by decide +kernel)
theorem dcX1_writeImage_129 : decode cX1_writeImage 129 = .ok (.iconst 1, 1) := dw_at cX1_writeImage_k5 (p := 8) rfl (by decide +kernel)
theorem dcX1_writeImage_130 : decode cX1_writeImage 130 = .ok (.goto 4, 3) := dw_at cX1_writeImage_k5 (p := 9) rfl (by decide +kernel)
theorem dcX1_writeImage_133 : decode cX1_writeImage 133 = .ok (.iconst 0, 1) := dw_at cX1_writeImage_k5 (p := 12) rfl (by decide +kernel)
theorem dcX1_writeImage_134 : decode cX1_writeImage 134 = .ok (.istore 11, 2) := dw_at cX1_writeImage_k5 (p := 13) rfl (by decide +kernel)
theorem dcX1_writeImage_136 : decode cX1_writeImage 136 = .ok (.iload_n 2, 1) := dw_at cX1_writeImage_k5 (p := 15) rfl (by decide +kernel)
theorem dcX1_writeImage_137 : decode cX1_writeImage 137 = .ok (.iload 6, 2) := dw_at cX1_writeImage_k5 (p := 16) rfl (by decide +kernel)
theorem dcX1_writeImage_139 : decode cX1_writeImage 139 = .ok (.ishr, 1) := dw_at cX1_writeImage_k5 (p := 18) rfl (by decide +kernel)
theorem dcX1_writeImage_140 : decode cX1_writeImage 140 = .ok (.iconst 1, 1) := dw_at cX1_writeImage_k5 (p := 19) rfl (by decide +kernel)
theorem dcX1_writeImage_141 : decode cX1_writeImage 141 = .ok (.iand, 1) := dw_at cX1_writeImage_k5 (p := 20) rfl (by decide +kernel)
theorem dcX1_writeImage_142 : decode cX1_writeImage 142 = .ok (.ifCond .eq 7, 3) := dw_at cX1_writeImage_k5 (p := 21) rfl (by decide +kernel)
theorem dcX1_writeImage_145 : decode cX1_writeImage 145 = .ok (.iconst 1, 1) := dw_at cX1_writeImage_k6 (p := 0) rfl (by decide +kernel)
theorem dcX1_writeImage_146 : decode cX1_writeImage 146 = .ok (.goto 4, 3) := dw_at cX1_writeImage_k6 (p := 1) rfl (by decide +kernel)
theorem dcX1_writeImage_149 : decode cX1_writeImage 149 = .ok (.iconst 0, 1) := dw_at cX1_writeImage_k6 (p := 4) rfl (by decide +kernel)
theorem dcX1_writeImage_150 : decode cX1_writeImage 150 = .ok (.istore 12, 2) := dw_at cX1_writeImage_k6 (p := 5) rfl (by decide +kernel)
theorem dcX1_writeImage_152 : decode cX1_writeImage 152 = .ok (.iload 5, 2) := dw_at cX1_writeImage_k6 (p := 7) rfl (by decide +kernel)
theorem dcX1_writeImage_154 : decode cX1_writeImage 154 = .ok (.iload 6, 2) := dw_at cX1_writeImage_k6 (p := 9) rfl (by decide +kernel)
theorem dcX1_writeImage_156 : decode cX1_writeImage 156 = .ok (.if_icmp .eq 46, 3) := dw_at cX1_writeImage_k6 (p := 11) rfl (by decide +kernel)
theorem dcX1_writeImage_159 : decode cX1_writeImage 159 = .ok (.iload 11, 2) := dw_at cX1_writeImage_k6 (p := 14) rfl (by decide +kernel)
theorem dcX1_writeImage_161 : decode cX1_writeImage 161 = .ok (.ifCond .ne 8, 3) := dw_at cX1_writeImage_k6 (p := 16) rfl (by decide +kernel)
theorem dcX1_writeImage_164 : decode cX1_writeImage 164 = .ok (.iload 12, 2) := dw_at cX1_writeImage_k6 (p := 19) rfl (by decide +kernel)
theorem dcX1_writeImage_166 : decode cX1_writeImage 166 = .ok (.ifCond .eq 84, 3) := dw_at cX1_writeImage_k6 (p := 21) rfl (by decide +kernel)
theorem dcX1_writeImage_169 : decode cX1_writeImage 169 = .ok (.aload_n 0, 1) := dw_at cX1_writeImage_k7 (p := 0) rfl (by decide +kernel)
theorem dcX1_writeImage_170 : decode cX1_writeImage 170 = .ok (.iload 4, 2) := dw_at cX1_writeImage_k7 (p := 1) rfl (by decide +kernel)
theorem dcX1_writeImage_172 : decode cX1_writeImage 172 = .ok (.iload 11, 2) := dw_at cX1_writeImage_k7 (p := 3) rfl (by decide +kernel)
theorem dcX1_writeImage_174 : decode cX1_writeImage 174 = .ok (.ifCond .eq 18, 3) := dw_at cX1_writeImage_k7 (p := 5) rfl (by decide +kernel)
theorem dcX1_writeImage_177 : decode cX1_writeImage 177 = .ok (.iload 12, 2) := dw_at cX1_writeImage_k7 (p := 8) rfl (by decide +kernel)
theorem dcX1_writeImage_179 : decode cX1_writeImage 179 = .ok (.ifCond .eq 13, 3) := dw_at cX1_writeImage_k7 (p := 10) rfl (by decide +kernel)
theorem dcX1_writeImage_182 : decode cX1_writeImage 182 = .ok (.iload 9, 2) := dw_at cX1_writeImage_k7 (p := 13) rfl (by decide +kernel)
theorem dcX1_writeImage_184 : decode cX1_writeImage 184 = .ok (.iconst 1, 1) := dw_at cX1_writeImage_k7 (p := 15) rfl (by decide +kernel)
theorem dcX1_writeImage_185 : decode cX1_writeImage 185 = .ok (.iload 7, 2) := dw_at cX1_writeImage_k7 (p := 16) rfl (by decide +kernel)
theorem dcX1_writeImage_187 : decode cX1_writeImage 187 = .ok (.ishl, 1) := dw_at cX1_writeImage_k7 (p := 18) rfl (by decide +kernel)
theorem dcX1_writeImage_188 : decode cX1_writeImage 188 = .ok (.ior, 1) := dw_at cX1_writeImage_k7 (p := 19) rfl (by decide +kernel)
theorem dcX1_writeImage_189 : decode cX1_writeImage 189 = .ok (.goto 5, 3) := dw_at cX1_writeImage_k7 (p := 20) rfl (by decide +kernel)
theorem dcX1_writeImage_192 : decode cX1_writeImage 192 = .ok (.iload 9, 2) := dw_at cX1_writeImage_k7 (p := 23) rfl (by decide +kernel)
theorem dcX1_writeImage_194 : decode cX1_writeImage 194 = .ok (.iload 10, 2) := dw_at cX1_writeImage_k8 (p := 0) rfl (by decide +kernel)
theorem dcX1_writeImage_196 : decode cX1_writeImage 196 = .ok (.invokevirtual 184, 3) := dw_at cX1_writeImage_k8 (p := 2) rfl (by decide +kernel)
theorem dcX1_writeImage_199 : decode cX1_writeImage 199 = .ok (.goto 51, 3) := dw_at cX1_writeImage_k8 (p := 5) rfl (by decide +kernel)
theorem dcX1_writeImage_202 : decode cX1_writeImage 202 = .ok (.iload 11, 2) := dw_at cX1_writeImage_k8 (p := 8) rfl (by decide +kernel)
theorem dcX1_writeImage_204 : decode cX1_writeImage 204 = .ok (.ifCond .eq 36, 3) := dw_at cX1_writeImage_k8 (p := 10) rfl (by decide +kernel)
theorem dcX1_writeImage_207 : decode cX1_writeImage 207 = .ok (.aload_n 0, 1) := dw_at cX1_writeImage_k8 (p := 13) rfl (by decide +kernel)
theorem dcX1_writeImage_208 : decode cX1_writeImage 208 = .ok (.iload 4, 2) := dw_at cX1_writeImage_k8 (p := 14) rfl (by decide +kernel)
theorem dcX1_writeImage_210 : decode cX1_writeImage 210 = .ok (.iload 9, 2) := dw_at cX1_writeImage_k8 (p := 16) rfl (by decide +kernel)
theorem dcX1_writeImage_212 : decode cX1_writeImage 212 = .ok (.iconst 1, 1) := dw_at cX1_writeImage_k8 (p := 18) rfl (by decide +kernel)
theorem dcX1_writeImage_213 : decode cX1_writeImage 213 = .ok (.iload 7, 2) := dw_at cX1_writeImage_k8 (p := 19) rfl (by decide +kernel)
theorem dcX1_writeImage_215 : decode cX1_writeImage 215 = .ok (.ishl, 1) := dw_at cX1_writeImage_k8 (p := 21) rfl (by decide +kernel)
theorem dcX1_writeImage_216 : decode cX1_writeImage 216 = .ok (.ior, 1) := dw_at cX1_writeImage_k8 (p := 22) rfl (by decide +kernel)
theorem dcX1_writeImage_217 : decode cX1_writeImage 217 = .ok (.iload 10, 2) := dw_at cX1_writeImage_k8 (p := 23) rfl (by decide +kernel)
theorem dcX1_writeImage_219 : decode cX1_writeImage 219 = .ok (.invokevirtual 184, 3) := dw_at cX1_writeImage_k9 (p := 0) rfl (by decide +kernel)
theorem dcX1_writeImage_222 : decode cX1_writeImage 222 = .ok (.aload_n 0, 1) := dw_at cX1_writeImage_k9 (p := 3) rfl (by decide +kernel)
theorem dcX1_writeImage_223 : decode cX1_writeImage 223 = .ok (.iload 4, 2) := dw_at cX1_writeImage_k9 (p := 4) rfl (by decide +kernel)
theorem dcX1_writeImage_225 : decode cX1_writeImage 225 = .ok (.iload 9, 2) := dw_at cX1_writeImage_k9 (p := 6) rfl (by decide +kernel)
theorem dcX1_writeImage_227 : decode cX1_writeImage 227 = .ok (.iconst 1, 1) := dw_at cX1_writeImage_k9 (p := 8) rfl (by decide +kernel)
theorem dcX1_writeImage_228 : decode cX1_writeImage 228 = .ok (.iload 8, 2) := dw_at cX1_writeImage_k9 (p := 9) rfl (by decide +kernel)
theorem dcX1_writeImage_230 : decode cX1_writeImage 230 = .ok (.ishl, 1) := dw_at cX1_writeImage_k9 (p := 11) rfl (by decide +kernel)
theorem dcX1_writeImage_231 : decode cX1_writeImage 231 = .ok (.ior, 1) := dw_at cX1_writeImage_k9 (p := 12) rfl (by decide +kernel)
theorem dcX1_writeImage_232 : decode cX1_writeImage 232 = .ok (.iload 10, 2) := dw_at cX1_writeImage_k9 (p := 13) rfl (by decide +kernel)
theorem dcX1_writeImage_234 : decode cX1_writeImage 234 = .ok (.invokevirtual 184, 3) := dw_at cX1_writeImage_k9 (p := 15) rfl (by decide +kernel)
theorem dcX1_writeImage_237 : decode cX1_writeImage 237 = .ok (.goto 13, 3) := dw_at cX1_writeImage_k9 (p := 18) rfl (by decide +kernel)
theorem dcX1_writeImage_240 : decode cX1_writeImage 240 = .ok (.aload_n 0, 1) := dw_at cX1_writeImage_k9 (p := 21) rfl (by decide +kernel)
theorem dcX1_writeImage_241 : decode cX1_writeImage 241 = .ok (.iload 4, 2) := dw_at cX1_writeImage_k9 (p := 22) rfl (by decide +kernel)
theorem dcX1_writeImage_243 : decode cX1_writeImage 243 = .ok (.iload 9, 2) := dw_at cX1_writeImage_k10 (p := 0) rfl (by decide +kernel)
theorem dcX1_writeImage_245 : decode cX1_writeImage 245 = .ok (.iload 10, 2) := dw_at cX1_writeImage_k10 (p := 2) rfl (by decide +kernel)
theorem dcX1_writeImage_247 : decode cX1_writeImage 247 = .ok (.invokevirtual 184, 3) := dw_at cX1_writeImage_k10 (p := 4) rfl (by decide +kernel)
theorem dcX1_writeImage_250 : decode cX1_writeImage 250 = .ok (.iinc 3 1, 3) := dw_at cX1_writeImage_k10 (p := 7) rfl (by decide +kernel)
theorem dcX1_writeImage_253 : decode cX1_writeImage 253 = .ok (.goto (-251), 3) := dw_at cX1_writeImage_k10 (p := 10) rfl (by decide +kernel)
theorem dcX1_writeImage_256 : decode cX1_writeImage 256 = .ok (.return_, 1) := dw_at cX1_writeImage_k10 (p := 13) rfl (by decide +kernel)
def cm_X1_writeImage_0 (vl : Nat → Nat) (K : Nat) (go : Nat → Int32 → Int32 → Int32 → Int32 → Int32 → Int32 → Int32 → Int32 → Int32 → Int32 → Int32 → Int32 → Nat → Int32 → Int32 → ow_MS → Option ow_MS) (x1 : Int32) (x2 : Int32) (x3 : Int32) (x4 : Int32) (x5 : Int32) (x6 : Int32) (x7 : Int32) (x8 : Int32) (x9 : Int32) (x10 : Int32) (x11 : Int32) (x12 : Int32) (r0 : Nat) (t0 : Int32) (t1 : Int32) (z : ow_MS) : Option ow_MS :=
 go 1 x1 x2 0 0 0 0 0 0 0 0 0 0 r0 0 0 z
def cm_X1_writeImage_1 (vl : Nat → Nat) (K : Nat) (go : Nat → Int32 → Int32 → Int32 → Int32 → Int32 → Int32 → Int32 → Int32 → Int32 → Int32 → Int32 → Int32 → Nat → Int32 → Int32 → ow_MS → Option ow_MS) (x1 : Int32) (x2 : Int32) (x3 : Int32) (x4 : Int32) (x5 : Int32) (x6 : Int32) (x7 : Int32) (x8 : Int32) (x9 : Int32) (x10 : Int32) (x11 : Int32) (x12 : Int32) (r0 : Nat) (t0 : Int32) (t1 : Int32) (z : ow_MS) : Option ow_MS :=
 rdF z ((r0 + 1000) + 8) fun v1 => (if v1 ≤ x3 then some z
 else (if (((x1 : Int32) >>> ((x3 : Int32) &&& 31)) &&& 1) = 0 then crI (cX vl) z (r0 + 2) ((x1 * 16) + (2 * x3)) fun v2 => cs1 (ce_X1_otherLoop vl K r0 x1 x3 z) fun v4 z3 => crI (cX vl) z3 (r0 + 2) (((x1 ||| ((1 : Int32) <<< ((x3 : Int32) &&& 31))) * 16) + (2 * x3)) fun v5 => cs1 (ce_X1_otherLoop vl K r0 (x1 ||| ((1 : Int32) <<< ((x3 : Int32) &&& 31))) x3 z3) fun v7 z6 => cs1 (ce_X1_carry vl K r0 x1 x2 (x1 ||| ((1 : Int32) <<< ((x3 : Int32) &&& 31))) v5 v7 z6) fun v9 z8 => (if ((ow_bc (x1 &&& (((1 : Int32) <<< ((x3 : Int32) &&& 31)) - 1))) &&& 1) = 0 then go 2 x1 x2 x3 (x1 ||| ((1 : Int32) <<< ((x3 : Int32) &&& 31))) v2 v4 v5 v7 v9 0 0 0 r0 1 0 z8
 else rdF z8 (r0 + 10) fun v11 => go 2 x1 x2 x3 (x1 ||| ((1 : Int32) <<< ((x3 : Int32) &&& 31))) v2 v4 v5 v7 v9 0 0 0 r0 (v11 - 1) 0 z8)
 else go 8 x1 x2 x3 0 0 0 0 0 0 0 0 0 r0 0 0 z))
def cm_X1_writeImage_2 (vl : Nat → Nat) (K : Nat) (go : Nat → Int32 → Int32 → Int32 → Int32 → Int32 → Int32 → Int32 → Int32 → Int32 → Int32 → Int32 → Int32 → Nat → Int32 → Int32 → ow_MS → Option ow_MS) (x1 : Int32) (x2 : Int32) (x3 : Int32) (x4 : Int32) (x5 : Int32) (x6 : Int32) (x7 : Int32) (x8 : Int32) (x9 : Int32) (x10 : Int32) (x11 : Int32) (x12 : Int32) (r0 : Nat) (t0 : Int32) (t1 : Int32) (z : ow_MS) : Option ow_MS :=
 (if (((x2 : Int32) >>> ((x5 : Int32) &&& 31)) &&& 1) = 0 then go 3 x1 x2 x3 x4 x5 x6 x7 x8 x9 t0 0 0 r0 0 0 z
 else go 3 x1 x2 x3 x4 x5 x6 x7 x8 x9 t0 0 0 r0 1 0 z)
def cm_X1_writeImage_3 (vl : Nat → Nat) (K : Nat) (go : Nat → Int32 → Int32 → Int32 → Int32 → Int32 → Int32 → Int32 → Int32 → Int32 → Int32 → Int32 → Int32 → Nat → Int32 → Int32 → ow_MS → Option ow_MS) (x1 : Int32) (x2 : Int32) (x3 : Int32) (x4 : Int32) (x5 : Int32) (x6 : Int32) (x7 : Int32) (x8 : Int32) (x9 : Int32) (x10 : Int32) (x11 : Int32) (x12 : Int32) (r0 : Nat) (t0 : Int32) (t1 : Int32) (z : ow_MS) : Option ow_MS :=
 (if (((x2 : Int32) >>> ((x6 : Int32) &&& 31)) &&& 1) = 0 then go 4 x1 x2 x3 x4 x5 x6 x7 x8 x9 x10 t0 0 r0 0 0 z
 else go 4 x1 x2 x3 x4 x5 x6 x7 x8 x9 x10 t0 0 r0 1 0 z)
def cm_X1_writeImage_4 (vl : Nat → Nat) (K : Nat) (go : Nat → Int32 → Int32 → Int32 → Int32 → Int32 → Int32 → Int32 → Int32 → Int32 → Int32 → Int32 → Int32 → Nat → Int32 → Int32 → ow_MS → Option ow_MS) (x1 : Int32) (x2 : Int32) (x3 : Int32) (x4 : Int32) (x5 : Int32) (x6 : Int32) (x7 : Int32) (x8 : Int32) (x9 : Int32) (x10 : Int32) (x11 : Int32) (x12 : Int32) (r0 : Nat) (t0 : Int32) (t1 : Int32) (z : ow_MS) : Option ow_MS :=
 (if x5 = x6 then (if x11 = 0 then cs0 (ce_X1_addTo vl K r0 x4 x9 x10 z) fun z12 => go 8 x1 x2 x3 0 0 0 0 0 0 0 0 0 r0 0 0 z12
 else cs0 (ce_X1_addTo vl K r0 x4 (x9 ||| ((1 : Int32) <<< ((x7 : Int32) &&& 31))) x10 z) fun z13 => cs0 (ce_X1_addTo vl K r0 x4 (x9 ||| ((1 : Int32) <<< ((x8 : Int32) &&& 31))) x10 z13) fun z14 => go 8 x1 x2 x3 0 0 0 0 0 0 0 0 0 r0 0 0 z14)
 else (if x11 = 0 then (if t0 = 0 then go 8 x1 x2 x3 0 0 0 0 0 0 0 0 0 r0 0 0 z
 else go 5 x1 x2 x3 x4 x5 x6 x7 x8 x9 x10 x11 t0 r0 0 0 z)
 else go 5 x1 x2 x3 x4 x5 x6 x7 x8 x9 x10 x11 t0 r0 0 0 z))
def cm_X1_writeImage_5 (vl : Nat → Nat) (K : Nat) (go : Nat → Int32 → Int32 → Int32 → Int32 → Int32 → Int32 → Int32 → Int32 → Int32 → Int32 → Int32 → Int32 → Nat → Int32 → Int32 → ow_MS → Option ow_MS) (x1 : Int32) (x2 : Int32) (x3 : Int32) (x4 : Int32) (x5 : Int32) (x6 : Int32) (x7 : Int32) (x8 : Int32) (x9 : Int32) (x10 : Int32) (x11 : Int32) (x12 : Int32) (r0 : Nat) (t0 : Int32) (t1 : Int32) (z : ow_MS) : Option ow_MS :=
 (if x11 = 0 then go 6 x1 x2 x3 x4 x5 x6 x7 x8 x9 x10 x11 x12 r0 x4 0 z
 else (if x12 = 0 then go 6 x1 x2 x3 x4 x5 x6 x7 x8 x9 x10 x11 x12 r0 x4 0 z
 else go 7 x1 x2 x3 x4 x5 x6 x7 x8 x9 x10 x11 x12 r0 (x9 ||| ((1 : Int32) <<< ((x7 : Int32) &&& 31))) x4 z))
def cm_X1_writeImage_6 (vl : Nat → Nat) (K : Nat) (go : Nat → Int32 → Int32 → Int32 → Int32 → Int32 → Int32 → Int32 → Int32 → Int32 → Int32 → Int32 → Int32 → Nat → Int32 → Int32 → ow_MS → Option ow_MS) (x1 : Int32) (x2 : Int32) (x3 : Int32) (x4 : Int32) (x5 : Int32) (x6 : Int32) (x7 : Int32) (x8 : Int32) (x9 : Int32) (x10 : Int32) (x11 : Int32) (x12 : Int32) (r0 : Nat) (t0 : Int32) (t1 : Int32) (z : ow_MS) : Option ow_MS :=
 go 7 x1 x2 x3 x4 x5 x6 x7 x8 x9 x10 x11 x12 r0 x9 t0 z
def cm_X1_writeImage_7 (vl : Nat → Nat) (K : Nat) (go : Nat → Int32 → Int32 → Int32 → Int32 → Int32 → Int32 → Int32 → Int32 → Int32 → Int32 → Int32 → Int32 → Nat → Int32 → Int32 → ow_MS → Option ow_MS) (x1 : Int32) (x2 : Int32) (x3 : Int32) (x4 : Int32) (x5 : Int32) (x6 : Int32) (x7 : Int32) (x8 : Int32) (x9 : Int32) (x10 : Int32) (x11 : Int32) (x12 : Int32) (r0 : Nat) (t0 : Int32) (t1 : Int32) (z : ow_MS) : Option ow_MS :=
 cs0 (ce_X1_addTo vl K r0 t1 t0 x10 z) fun z15 => go 8 x1 x2 x3 0 0 0 0 0 0 0 0 0 r0 0 0 z15
def cm_X1_writeImage_8 (vl : Nat → Nat) (K : Nat) (go : Nat → Int32 → Int32 → Int32 → Int32 → Int32 → Int32 → Int32 → Int32 → Int32 → Int32 → Int32 → Int32 → Nat → Int32 → Int32 → ow_MS → Option ow_MS) (x1 : Int32) (x2 : Int32) (x3 : Int32) (x4 : Int32) (x5 : Int32) (x6 : Int32) (x7 : Int32) (x8 : Int32) (x9 : Int32) (x10 : Int32) (x11 : Int32) (x12 : Int32) (r0 : Nat) (t0 : Int32) (t1 : Int32) (z : ow_MS) : Option ow_MS :=
 go 1 x1 x2 (x3 + 1) 0 0 0 0 0 0 0 0 0 r0 0 0 z
def cb_X1_writeImage (vl : Nat → Nat) (K : Nat) (go : Nat → Int32 → Int32 → Int32 → Int32 → Int32 → Int32 → Int32 → Int32 → Int32 → Int32 → Int32 → Int32 → Nat → Int32 → Int32 → ow_MS → Option ow_MS) (L : Nat) (x1 : Int32) (x2 : Int32) (x3 : Int32) (x4 : Int32) (x5 : Int32) (x6 : Int32) (x7 : Int32) (x8 : Int32) (x9 : Int32) (x10 : Int32) (x11 : Int32) (x12 : Int32) (r0 : Nat) (t0 : Int32) (t1 : Int32) (z : ow_MS) : Option ow_MS := match L with
  | 0 => cm_X1_writeImage_0 vl K go x1 x2 x3 x4 x5 x6 x7 x8 x9 x10 x11 x12 r0 t0 t1 z
  | 1 => cm_X1_writeImage_1 vl K go x1 x2 x3 x4 x5 x6 x7 x8 x9 x10 x11 x12 r0 t0 t1 z
  | 2 => cm_X1_writeImage_2 vl K go x1 x2 x3 x4 x5 x6 x7 x8 x9 x10 x11 x12 r0 t0 t1 z
  | 3 => cm_X1_writeImage_3 vl K go x1 x2 x3 x4 x5 x6 x7 x8 x9 x10 x11 x12 r0 t0 t1 z
  | 4 => cm_X1_writeImage_4 vl K go x1 x2 x3 x4 x5 x6 x7 x8 x9 x10 x11 x12 r0 t0 t1 z
  | 5 => cm_X1_writeImage_5 vl K go x1 x2 x3 x4 x5 x6 x7 x8 x9 x10 x11 x12 r0 t0 t1 z
  | 6 => cm_X1_writeImage_6 vl K go x1 x2 x3 x4 x5 x6 x7 x8 x9 x10 x11 x12 r0 t0 t1 z
  | 7 => cm_X1_writeImage_7 vl K go x1 x2 x3 x4 x5 x6 x7 x8 x9 x10 x11 x12 r0 t0 t1 z
  | 8 => cm_X1_writeImage_8 vl K go x1 x2 x3 x4 x5 x6 x7 x8 x9 x10 x11 x12 r0 t0 t1 z
  | _ => none
def c_X1_writeImage (vl : Nat → Nat) (K : Nat) : Nat → Nat → Int32 → Int32 → Int32 → Int32 → Int32 → Int32 → Int32 → Int32 → Int32 → Int32 → Int32 → Int32 → Nat → Int32 → Int32 → ow_MS → Option ow_MS
  | 0 => fun _ _ _ _ _ _ _ _ _ _ _ _ _ _ _ _ _ => none
  | k + 1 => cb_X1_writeImage vl K (c_X1_writeImage vl K k)
def ce_X1_writeImage (vl : Nat → Nat) (K : Nat) (r0 : Nat) (x1 : Int32) (x2 : Int32) (z : ow_MS) : Option ow_MS := c_X1_writeImage vl K K 0 x1 x2 0 0 0 0 0 0 0 0 0 0 r0 0 0 z
abbrev wc_X1_writeImage : List Cond := .code yX1_writeImage cX1_writeImage 13 none :: wC
theorem cdd_X1_writeImage : yX1_writeImage.cls = RX1 ∧ yX1_writeImage.cls ≠ "java/lang/invoke/MethodHandle" ∧ yX1_writeImage.cls ≠ "java/lang/invoke/VarHandle" ∧ (parseMethodDescriptor yX1_writeImage.desc).map (fun d => d.parameters.length) = some 2 := by decide +kernel
set_option maxHeartbeats 4000000 in
set_option maxRecDepth 100000 in
theorem kc_X1_writeImage (l : Launch) (D : va_G) (q : Nat → ClassId) (vl u : Nat → Nat) (hU0 : tw_inj (cX vl) u) (K : Nat) (r0 : Nat) (x1 : Int32) (x2 : Int32) (hr0 : cw_X1 r0) (z z1 : ow_MS) (hq : ce_X1_writeImage vl K r0 x1 x2 z = some z1) : Met l yX1_writeImage wc_X1_writeImage ({ frames := 1, cells := 0, slots := 0, locals := 28 } : Room) (va_Pc [.ref (u r0), .int x1, .int x2] (cw_pre D q vl u z)) (va_Qv (fun (_ : Unit) => True) (fun _ t => va_P D vwCl (uw (cX vl) q u z1) t.heap) (tw_A (cX vl) u)) 0 0 (tw_A (cX vl) u) := by
  refine Met.ofW (cc := cX1_writeImage) (maxL := 13) (ret := none) (by decide) rfl ?_
  intro p e s m args below meth c s₁ B hml hv
  obtain ⟨rfl, hP, hK⟩ := hv
  have hx := B.exec
  have hb := B.bytes
  have hr := B.returns
  have hts := atoms_spec (ws := wc_X1_writeImage) B.pre
  have hT : ∀ w ∈ wC, w.before ([.ref (u r0), .int x1, .int x2] : List Value).toArray s = true := fun w h => hts w (List.mem_cons_of_mem _ h)
  have hown : s.vm.findClass RX1 = some m.cls := findClass_of_methodNamed B.named
  have hlocks := B.notSynchronized
  have hU : uw_inj (cX vl) u (tw_A (cX vl) u) := ⟨hU0, fun h hh => ⟨h, hh, rfl⟩⟩
  have hM : uw_M D vwCl (cX vl) q (tw_A (cX vl) u) s.heap u z s.heap [] := ⟨hP, va_S.rf⟩
  have hl := lv_entry ([.ref (u r0), .int x1, .int x2]) (n := 13) (Nat.le_of_ble_eq_true rfl)
  rw [lg_entry_eq]
  generalize (lg_sl ([.ref (u r0), .int x1, .int x2]) ++ List.replicate (13 - (lg_sl ([.ref (u r0), .int x1, .int x2])).length) Slot.unset).toArray = ls at hl ⊢
  have hl : lv_has ls 13 [(0, .ref (u r0)), (1, .int x1), (2, .int x2)] := hl
  refine ow_named (fun QQ hQQ => ?_)
  generalize ([.ref (u r0), .int x1, .int x2] : List Value).toArray = args at hts hT hQQ ⊢
  have key : ∀ k : Nat, (∀ (x1 : Int32) (x2 : Int32) (x3 : Int32) (x4 : Int32) (x5 : Int32) (x6 : Int32) (x7 : Int32) (x8 : Int32) (x9 : Int32) (x10 : Int32) (x11 : Int32) (x12 : Int32) (r0 : Nat) (t0 : Int32) (t1 : Int32) (z : ow_MS) (H : Heap) (locs : List Loc) (ls : Array Slot), cw_X1 r0 → uw_M D vwCl (cX vl) q (tw_A (cX vl) u) s.heap u z H locs → lv_has ls 13 [(0, .ref (u r0)), (1, .int x1), (2, .int x2)] → c_X1_writeImage vl K k 0 x1 x2 x3 x4 x5 x6 x7 x8 x9 x10 x11 x12 r0 t0 t1 z = some z1 → W p l e ({ frames := 1, cells := 0, slots := 0, locals := 28 } : Room) s m args below meth c H locs 0 0 QQ (F0 m 0 ls [])) ∧ (∀ (x1 : Int32) (x2 : Int32) (x3 : Int32) (x4 : Int32) (x5 : Int32) (x6 : Int32) (x7 : Int32) (x8 : Int32) (x9 : Int32) (x10 : Int32) (x11 : Int32) (x12 : Int32) (r0 : Nat) (t0 : Int32) (t1 : Int32) (z : ow_MS) (H : Heap) (locs : List Loc) (ls : Array Slot), cw_X1 r0 → uw_M D vwCl (cX vl) q (tw_A (cX vl) u) s.heap u z H locs → lv_has ls 13 [(0, .ref (u r0)), (1, .int x1), (2, .int x2), (3, .int x3)] → c_X1_writeImage vl K k 1 x1 x2 x3 x4 x5 x6 x7 x8 x9 x10 x11 x12 r0 t0 t1 z = some z1 → W p l e ({ frames := 1, cells := 0, slots := 0, locals := 28 } : Room) s m args below meth c H locs 0 0 QQ (F0 m 2 ls [])) ∧ (∀ (x1 : Int32) (x2 : Int32) (x3 : Int32) (x4 : Int32) (x5 : Int32) (x6 : Int32) (x7 : Int32) (x8 : Int32) (x9 : Int32) (x10 : Int32) (x11 : Int32) (x12 : Int32) (r0 : Nat) (t0 : Int32) (t1 : Int32) (z : ow_MS) (H : Heap) (locs : List Loc) (ls : Array Slot), cw_X1 r0 → uw_M D vwCl (cX vl) q (tw_A (cX vl) u) s.heap u z H locs → lv_has ls 13 [(0, .ref (u r0)), (1, .int x1), (2, .int x2), (3, .int x3), (4, .int x4), (5, .int x5), (6, .int x6), (7, .int x7), (8, .int x8), (9, .int x9)] → c_X1_writeImage vl K k 2 x1 x2 x3 x4 x5 x6 x7 x8 x9 x10 x11 x12 r0 t0 t1 z = some z1 → W p l e ({ frames := 1, cells := 0, slots := 0, locals := 28 } : Room) s m args below meth c H locs 0 0 QQ (F0 m 118 ls [.int t0])) ∧ (∀ (x1 : Int32) (x2 : Int32) (x3 : Int32) (x4 : Int32) (x5 : Int32) (x6 : Int32) (x7 : Int32) (x8 : Int32) (x9 : Int32) (x10 : Int32) (x11 : Int32) (x12 : Int32) (r0 : Nat) (t0 : Int32) (t1 : Int32) (z : ow_MS) (H : Heap) (locs : List Loc) (ls : Array Slot), cw_X1 r0 → uw_M D vwCl (cX vl) q (tw_A (cX vl) u) s.heap u z H locs → lv_has ls 13 [(0, .ref (u r0)), (1, .int x1), (2, .int x2), (3, .int x3), (4, .int x4), (5, .int x5), (6, .int x6), (7, .int x7), (8, .int x8), (9, .int x9), (10, .int x10)] → c_X1_writeImage vl K k 3 x1 x2 x3 x4 x5 x6 x7 x8 x9 x10 x11 x12 r0 t0 t1 z = some z1 → W p l e ({ frames := 1, cells := 0, slots := 0, locals := 28 } : Room) s m args below meth c H locs 0 0 QQ (F0 m 134 ls [.int t0])) ∧ (∀ (x1 : Int32) (x2 : Int32) (x3 : Int32) (x4 : Int32) (x5 : Int32) (x6 : Int32) (x7 : Int32) (x8 : Int32) (x9 : Int32) (x10 : Int32) (x11 : Int32) (x12 : Int32) (r0 : Nat) (t0 : Int32) (t1 : Int32) (z : ow_MS) (H : Heap) (locs : List Loc) (ls : Array Slot), cw_X1 r0 → uw_M D vwCl (cX vl) q (tw_A (cX vl) u) s.heap u z H locs → lv_has ls 13 [(0, .ref (u r0)), (1, .int x1), (2, .int x2), (3, .int x3), (4, .int x4), (5, .int x5), (6, .int x6), (7, .int x7), (8, .int x8), (9, .int x9), (10, .int x10), (11, .int x11)] → c_X1_writeImage vl K k 4 x1 x2 x3 x4 x5 x6 x7 x8 x9 x10 x11 x12 r0 t0 t1 z = some z1 → W p l e ({ frames := 1, cells := 0, slots := 0, locals := 28 } : Room) s m args below meth c H locs 0 0 QQ (F0 m 150 ls [.int t0])) ∧ (∀ (x1 : Int32) (x2 : Int32) (x3 : Int32) (x4 : Int32) (x5 : Int32) (x6 : Int32) (x7 : Int32) (x8 : Int32) (x9 : Int32) (x10 : Int32) (x11 : Int32) (x12 : Int32) (r0 : Nat) (t0 : Int32) (t1 : Int32) (z : ow_MS) (H : Heap) (locs : List Loc) (ls : Array Slot), cw_X1 r0 → uw_M D vwCl (cX vl) q (tw_A (cX vl) u) s.heap u z H locs → lv_has ls 13 [(0, .ref (u r0)), (1, .int x1), (2, .int x2), (3, .int x3), (4, .int x4), (5, .int x5), (6, .int x6), (7, .int x7), (8, .int x8), (9, .int x9), (10, .int x10), (11, .int x11), (12, .int x12)] → c_X1_writeImage vl K k 5 x1 x2 x3 x4 x5 x6 x7 x8 x9 x10 x11 x12 r0 t0 t1 z = some z1 → W p l e ({ frames := 1, cells := 0, slots := 0, locals := 28 } : Room) s m args below meth c H locs 0 0 QQ (F0 m 169 ls [])) ∧ (∀ (x1 : Int32) (x2 : Int32) (x3 : Int32) (x4 : Int32) (x5 : Int32) (x6 : Int32) (x7 : Int32) (x8 : Int32) (x9 : Int32) (x10 : Int32) (x11 : Int32) (x12 : Int32) (r0 : Nat) (t0 : Int32) (t1 : Int32) (z : ow_MS) (H : Heap) (locs : List Loc) (ls : Array Slot), cw_X1 r0 → uw_M D vwCl (cX vl) q (tw_A (cX vl) u) s.heap u z H locs → lv_has ls 13 [(0, .ref (u r0)), (1, .int x1), (2, .int x2), (3, .int x3), (4, .int x4), (5, .int x5), (6, .int x6), (7, .int x7), (8, .int x8), (9, .int x9), (10, .int x10), (11, .int x11), (12, .int x12)] → c_X1_writeImage vl K k 6 x1 x2 x3 x4 x5 x6 x7 x8 x9 x10 x11 x12 r0 t0 t1 z = some z1 → W p l e ({ frames := 1, cells := 0, slots := 0, locals := 28 } : Room) s m args below meth c H locs 0 0 QQ (F0 m 192 ls [.int t0, .ref (u r0)])) ∧ (∀ (x1 : Int32) (x2 : Int32) (x3 : Int32) (x4 : Int32) (x5 : Int32) (x6 : Int32) (x7 : Int32) (x8 : Int32) (x9 : Int32) (x10 : Int32) (x11 : Int32) (x12 : Int32) (r0 : Nat) (t0 : Int32) (t1 : Int32) (z : ow_MS) (H : Heap) (locs : List Loc) (ls : Array Slot), cw_X1 r0 → uw_M D vwCl (cX vl) q (tw_A (cX vl) u) s.heap u z H locs → lv_has ls 13 [(0, .ref (u r0)), (1, .int x1), (2, .int x2), (3, .int x3), (4, .int x4), (5, .int x5), (6, .int x6), (7, .int x7), (8, .int x8), (9, .int x9), (10, .int x10), (11, .int x11), (12, .int x12)] → c_X1_writeImage vl K k 7 x1 x2 x3 x4 x5 x6 x7 x8 x9 x10 x11 x12 r0 t0 t1 z = some z1 → W p l e ({ frames := 1, cells := 0, slots := 0, locals := 28 } : Room) s m args below meth c H locs 0 0 QQ (F0 m 194 ls [.int t0, .int t1, .ref (u r0)])) ∧ (∀ (x1 : Int32) (x2 : Int32) (x3 : Int32) (x4 : Int32) (x5 : Int32) (x6 : Int32) (x7 : Int32) (x8 : Int32) (x9 : Int32) (x10 : Int32) (x11 : Int32) (x12 : Int32) (r0 : Nat) (t0 : Int32) (t1 : Int32) (z : ow_MS) (H : Heap) (locs : List Loc) (ls : Array Slot), cw_X1 r0 → uw_M D vwCl (cX vl) q (tw_A (cX vl) u) s.heap u z H locs → lv_has ls 13 [(0, .ref (u r0)), (1, .int x1), (2, .int x2), (3, .int x3)] → c_X1_writeImage vl K k 8 x1 x2 x3 x4 x5 x6 x7 x8 x9 x10 x11 x12 r0 t0 t1 z = some z1 → W p l e ({ frames := 1, cells := 0, slots := 0, locals := 28 } : Room) s m args below meth c H locs 0 0 QQ (F0 m 250 ls [])) := by
    intro k
    induction k with
    | zero => exact ⟨fun _ _ _ _ _ _ _ _ _ _ _ _ _ _ _ _ _ _ _ _ _ _ hq => cw_no hq, fun _ _ _ _ _ _ _ _ _ _ _ _ _ _ _ _ _ _ _ _ _ _ hq => cw_no hq, fun _ _ _ _ _ _ _ _ _ _ _ _ _ _ _ _ _ _ _ _ _ _ hq => cw_no hq, fun _ _ _ _ _ _ _ _ _ _ _ _ _ _ _ _ _ _ _ _ _ _ hq => cw_no hq, fun _ _ _ _ _ _ _ _ _ _ _ _ _ _ _ _ _ _ _ _ _ _ hq => cw_no hq, fun _ _ _ _ _ _ _ _ _ _ _ _ _ _ _ _ _ _ _ _ _ _ hq => cw_no hq, fun _ _ _ _ _ _ _ _ _ _ _ _ _ _ _ _ _ _ _ _ _ _ hq => cw_no hq, fun _ _ _ _ _ _ _ _ _ _ _ _ _ _ _ _ _ _ _ _ _ _ hq => cw_no hq, fun _ _ _ _ _ _ _ _ _ _ _ _ _ _ _ _ _ _ _ _ _ _ hq => cw_no hq⟩
    | succ k ih =>
      obtain ⟨ih_0, ih_1, ih_2, ih_3, ih_4, ih_5, ih_6, ih_7, ih_8⟩ := ih
      refine ⟨?_, ?_, ?_, ?_, ?_, ?_, ?_, ?_, ?_⟩
      · intro x1 x2 x3 x4 x5 x6 x7 x8 x9 x10 x11 x12 r0 t0 t1 z H locs ls hr0 hM hl hq
        have hq : cm_X1_writeImage_0 vl K (c_X1_writeImage vl K k) x1 x2 x3 x4 x5 x6 x7 x8 x9 x10 x11 x12 r0 t0 t1 z = some z1 := hq
        unfold cm_X1_writeImage_0 at hq
        refine lv_iconst (v := 0) hx hb dcX1_writeImage_0 (by decide) ?_
        refine lv_istore_n (lv' := [(3, .int 0), (0, .ref (u r0)), (1, .int x1), (2, .int x2)]) hx hb dcX1_writeImage_1 rfl hl (by decide) rfl (fun ls hl => ?_)
        exact ih_1 x1 x2 0 0 0 0 0 0 0 0 0 0 r0 0 0 z H locs ls hr0 hM (lv_sub hl [1, 2, 3, 0] rfl) hq
      · intro x1 x2 x3 x4 x5 x6 x7 x8 x9 x10 x11 x12 r0 t0 t1 z H locs ls hr0 hM hl hq
        have hq : cm_X1_writeImage_1 vl K (c_X1_writeImage vl K k) x1 x2 x3 x4 x5 x6 x7 x8 x9 x10 x11 x12 r0 t0 t1 z = some z1 := hq
        unfold cm_X1_writeImage_1 at hq
        refine lv_iload_n hx hb dcX1_writeImage_2 rfl (lv_at hl 3 rfl) ?_
        refine lv_aload_n hx hb dcX1_writeImage_3 rfl (lv_at hl 0 rfl) ?_
        refine vgX1_12 hx hb hT hown hK hM hr0 dcX1_writeImage_4 ?_
        refine vgX1_90 hx hb hT hown hK hM (cs_X1_0 hr0) hq dcX1_writeImage_7 (fun v1 hq => ?_)
        refine lv_icmp_ge (tgt := 256) hx hb dcX1_writeImage_10 (by decide) (fun hc => ?_) (fun hc => ?_)
        · have hq := tw_it hq hc
          exact cw_vret hx hb hr hlocks hM hq hQQ dcX1_writeImage_256
        · have hq := tw_if hq hc
          refine lv_iload_n hx hb dcX1_writeImage_13 rfl (lv_at hl 1 rfl) ?_
          refine lv_iload_n hx hb dcX1_writeImage_14 rfl (lv_at hl 3 rfl) ?_
          refine lv_ishr hx hb dcX1_writeImage_15 ?_
          refine lv_iconst (v := 1) hx hb dcX1_writeImage_16 (by decide) ?_
          refine lv_iand hx hb dcX1_writeImage_17 ?_
          refine lv_if_eq (tgt := 24) hx hb dcX1_writeImage_18 (by decide) (fun hc => ?_) (fun hc => ?_)
          · have hq := tw_it hq hc
            refine lv_iload_n hx hb dcX1_writeImage_24 rfl (lv_at hl 1 rfl) ?_
            refine lv_iconst (v := 1) hx hb dcX1_writeImage_25 (by decide) ?_
            refine lv_iload_n hx hb dcX1_writeImage_26 rfl (lv_at hl 3 rfl) ?_
            refine lv_ishl hx hb dcX1_writeImage_27 ?_
            refine lv_ior hx hb dcX1_writeImage_28 ?_
            refine lv_istore (lv' := [(4, .int (x1 ||| ((1 : Int32) <<< ((x3 : Int32) &&& 31)))), (0, .ref (u r0)), (1, .int x1), (2, .int x2), (3, .int x3)]) hx hb dcX1_writeImage_29 hl (by decide) rfl (fun ls hl => ?_)
            refine lv_aload_n hx hb dcX1_writeImage_31 rfl (lv_at hl 1 rfl) ?_
            refine vgX1_18 hx hb hT hown hK hM hr0 dcX1_writeImage_32 ?_
            refine lv_iload_n hx hb dcX1_writeImage_35 rfl (lv_at hl 2 rfl) ?_
            refine lv_bipush (v := 16) hx hb dcX1_writeImage_36 (by decide) ?_
            refine lv_imul hx hb dcX1_writeImage_38 ?_
            refine lv_iconst (v := 2) hx hb dcX1_writeImage_39 (by decide) ?_
            refine lv_iload_n hx hb dcX1_writeImage_40 rfl (lv_at hl 4 rfl) ?_
            refine lv_imul hx hb dcX1_writeImage_41 ?_
            refine lv_iadd hx hb dcX1_writeImage_42 ?_
            refine uw_bald cX_ok hx hb hK hM (cr_X1_1 hr0) hq dcX1_writeImage_43 (fun v2 hq => ?_)
            refine lv_istore (lv' := [(5, .int v2), (4, .int (x1 ||| ((1 : Int32) <<< ((x3 : Int32) &&& 31)))), (0, .ref (u r0)), (1, .int x1), (2, .int x2), (3, .int x3)]) hx hb dcX1_writeImage_44 hl (by decide) rfl (fun ls hl => ?_)
            refine lv_aload_n hx hb dcX1_writeImage_46 rfl (lv_at hl 2 rfl) ?_
            refine lv_iload_n hx hb dcX1_writeImage_47 rfl (lv_at hl 3 rfl) ?_
            refine lv_iload_n hx hb dcX1_writeImage_48 rfl (lv_at hl 5 rfl) ?_
            obtain ⟨v4, z3, hcq, hq⟩ := tw_cl1 hq
            refine uw_cali hU hM (va_runV (As := [.int x1, .int x3]) (rest := []) ⟨hx, hb, hml, hown, hts⟩ (kc_X1_otherLoop l D q vl u hU.1 K r0 x1 x3 hr0 z z3 v4 hcq) (cwV 2 hts (tw_gV wC_good xq_226 xq_227 xq_228 xq_138 xq_229) rfl rfl rfl cdd_X1_otherLoop ⟨(Nat.le_of_ble_eq_true rfl), (Nat.le_of_ble_eq_true rfl)⟩) (cw_preV hK hM (co_X1 hr0) rfl) rfl rfl hl.1 rfl (lv_room (Nat.le_of_ble_eq_true rfl)) dcX1_writeImage_49 ⟨(Nat.le_of_ble_eq_true rfl), (Nat.le_of_ble_eq_true rfl)⟩) (fun H locs hM => ?_)
            refine lv_istore (lv' := [(6, .int v4), (5, .int v2), (4, .int (x1 ||| ((1 : Int32) <<< ((x3 : Int32) &&& 31)))), (0, .ref (u r0)), (1, .int x1), (2, .int x2), (3, .int x3)]) hx hb dcX1_writeImage_52 hl (by decide) rfl (fun ls hl => ?_)
            refine lv_aload_n hx hb dcX1_writeImage_54 rfl (lv_at hl 3 rfl) ?_
            refine vgX1_18 hx hb hT hown hK hM hr0 dcX1_writeImage_55 ?_
            refine lv_iload hx hb dcX1_writeImage_58 (lv_at hl 2 rfl) ?_
            refine lv_bipush (v := 16) hx hb dcX1_writeImage_60 (by decide) ?_
            refine lv_imul hx hb dcX1_writeImage_62 ?_
            refine lv_iconst (v := 2) hx hb dcX1_writeImage_63 (by decide) ?_
            refine lv_iload_n hx hb dcX1_writeImage_64 rfl (lv_at hl 6 rfl) ?_
            refine lv_imul hx hb dcX1_writeImage_65 ?_
            refine lv_iadd hx hb dcX1_writeImage_66 ?_
            refine uw_bald cX_ok hx hb hK hM (cr_X1_1 hr0) hq dcX1_writeImage_67 (fun v5 hq => ?_)
            refine lv_istore (lv' := [(7, .int v5), (6, .int v4), (5, .int v2), (4, .int (x1 ||| ((1 : Int32) <<< ((x3 : Int32) &&& 31)))), (0, .ref (u r0)), (1, .int x1), (2, .int x2), (3, .int x3)]) hx hb dcX1_writeImage_68 hl (by decide) rfl (fun ls hl => ?_)
            refine lv_aload_n hx hb dcX1_writeImage_70 rfl (lv_at hl 4 rfl) ?_
            refine lv_iload hx hb dcX1_writeImage_71 (lv_at hl 3 rfl) ?_
            refine lv_iload_n hx hb dcX1_writeImage_73 rfl (lv_at hl 7 rfl) ?_
            obtain ⟨v7, z6, hcq, hq⟩ := tw_cl1 hq
            refine uw_cali hU hM (va_runV (As := [.int (x1 ||| ((1 : Int32) <<< ((x3 : Int32) &&& 31))), .int x3]) (rest := []) ⟨hx, hb, hml, hown, hts⟩ (kc_X1_otherLoop l D q vl u hU.1 K r0 (x1 ||| ((1 : Int32) <<< ((x3 : Int32) &&& 31))) x3 hr0 z3 z6 v7 hcq) (cwV 2 hts (tw_gV wC_good xq_226 xq_227 xq_228 xq_138 xq_229) rfl rfl rfl cdd_X1_otherLoop ⟨(Nat.le_of_ble_eq_true rfl), (Nat.le_of_ble_eq_true rfl)⟩) (cw_preV hK hM (co_X1 hr0) rfl) rfl rfl hl.1 rfl (lv_room (Nat.le_of_ble_eq_true rfl)) dcX1_writeImage_74 ⟨(Nat.le_of_ble_eq_true rfl), (Nat.le_of_ble_eq_true rfl)⟩) (fun H locs hM => ?_)
            refine lv_istore (lv' := [(8, .int v7), (7, .int v5), (6, .int v4), (5, .int v2), (4, .int (x1 ||| ((1 : Int32) <<< ((x3 : Int32) &&& 31)))), (0, .ref (u r0)), (1, .int x1), (2, .int x2), (3, .int x3)]) hx hb dcX1_writeImage_77 hl (by decide) rfl (fun ls hl => ?_)
            refine lv_aload_n hx hb dcX1_writeImage_79 rfl (lv_at hl 5 rfl) ?_
            refine lv_iload_n hx hb dcX1_writeImage_80 rfl (lv_at hl 6 rfl) ?_
            refine lv_iload_n hx hb dcX1_writeImage_81 rfl (lv_at hl 7 rfl) ?_
            refine lv_iload hx hb dcX1_writeImage_82 (lv_at hl 4 rfl) ?_
            refine lv_iload hx hb dcX1_writeImage_84 (lv_at hl 1 rfl) ?_
            refine lv_iload hx hb dcX1_writeImage_86 (lv_at hl 0 rfl) ?_
            obtain ⟨v9, z8, hcq, hq⟩ := tw_cl1 hq
            refine uw_cali hU hM (va_runV (As := [.int x1, .int x2, .int (x1 ||| ((1 : Int32) <<< ((x3 : Int32) &&& 31))), .int v5, .int v7]) (rest := []) ⟨hx, hb, hml, hown, hts⟩ (kc_X1_carry l D q vl u hU.1 K r0 x1 x2 (x1 ||| ((1 : Int32) <<< ((x3 : Int32) &&& 31))) v5 v7 hr0 z6 z8 v9 hcq) (cwV 5 hts (tw_gV wC_good xq_230 xq_231 xq_232 xq_138 xq_233) rfl rfl rfl cdd_X1_carry ⟨(Nat.le_of_ble_eq_true rfl), (Nat.le_of_ble_eq_true rfl)⟩) (cw_preV hK hM (co_X1 hr0) rfl) rfl rfl hl.1 rfl (lv_room (Nat.le_of_ble_eq_true rfl)) dcX1_writeImage_88 ⟨(Nat.le_of_ble_eq_true rfl), (Nat.le_of_ble_eq_true rfl)⟩) (fun H locs hM => ?_)
            refine lv_istore (lv' := [(9, .int v9), (8, .int v7), (7, .int v5), (6, .int v4), (5, .int v2), (4, .int (x1 ||| ((1 : Int32) <<< ((x3 : Int32) &&& 31)))), (0, .ref (u r0)), (1, .int x1), (2, .int x2), (3, .int x3)]) hx hb dcX1_writeImage_91 hl (by decide) rfl (fun ls hl => ?_)
            refine lv_iload_n hx hb dcX1_writeImage_93 rfl (lv_at hl 7 rfl) ?_
            refine lv_iconst (v := 1) hx hb dcX1_writeImage_94 (by decide) ?_
            refine lv_iload_n hx hb dcX1_writeImage_95 rfl (lv_at hl 9 rfl) ?_
            refine lv_ishl hx hb dcX1_writeImage_96 ?_
            refine lv_iconst (v := 1) hx hb dcX1_writeImage_97 (by decide) ?_
            refine lv_isub hx hb dcX1_writeImage_98 ?_
            refine lv_iand hx hb dcX1_writeImage_99 ?_
            refine cw_pure hM (va_runS (As := [.int (x1 &&& (((1 : Int32) <<< ((x3 : Int32) &&& 31)) - 1))]) (rest := []) ⟨hx, hb, hml, hown, hts⟩ (k_J6_bitCount_0f7a4 l (x1 &&& (((1 : Int32) <<< ((x3 : Int32) &&& 31)) - 1))) (va_cwS 1 hts (cw_gbc xq_208) rfl rfl rfl (by decide +kernel) ⟨(Nat.le_of_ble_eq_true rfl), (Nat.le_of_ble_eq_true rfl)⟩) ⟨fun a U g mk q => q, fun U hU hW => ⟨rfl, trivial⟩⟩ rfl rfl hl.1 rfl (lv_room (Nat.le_of_ble_eq_true rfl)) dcX1_writeImage_100 ⟨(Nat.le_of_ble_eq_true rfl), (Nat.le_of_ble_eq_true rfl)⟩) (fun H locs hM => ?_)
            refine lv_iconst (v := 1) hx hb dcX1_writeImage_103 (by decide) ?_
            refine lv_iand hx hb dcX1_writeImage_104 ?_
            refine lv_if_ne (tgt := 112) hx hb dcX1_writeImage_105 (by decide) (fun hc => ?_) (fun hc => ?_)
            · have hq := tw_if hq hc
              refine lv_aload_n hx hb dcX1_writeImage_112 rfl (lv_at hl 6 rfl) ?_
              refine vgX1_80 hx hb hT hown hK hM hr0 hq dcX1_writeImage_113 (fun v11 hq => ?_)
              refine lv_iconst (v := 1) hx hb dcX1_writeImage_116 (by decide) ?_
              refine lv_isub hx hb dcX1_writeImage_117 ?_
              exact ih_2 x1 x2 x3 (x1 ||| ((1 : Int32) <<< ((x3 : Int32) &&& 31))) v2 v4 v5 v7 v9 0 0 0 r0 (v11 - 1) 0 z8 H locs ls hr0 hM (lv_sub hl [6, 7, 8, 9, 5, 4, 3, 2, 1, 0] rfl) hq
            · have hq := tw_it hq hc
              refine lv_iconst (v := 1) hx hb dcX1_writeImage_108 (by decide) ?_
              refine lv_goto (tgt := 118) hx hb dcX1_writeImage_109 (by decide) ?_
              exact ih_2 x1 x2 x3 (x1 ||| ((1 : Int32) <<< ((x3 : Int32) &&& 31))) v2 v4 v5 v7 v9 0 0 0 r0 1 0 z8 H locs ls hr0 hM (lv_sub hl [6, 7, 8, 9, 5, 4, 3, 2, 1, 0] rfl) hq
          · have hq := tw_if hq hc
            refine lv_goto (tgt := 250) hx hb dcX1_writeImage_21 (by decide) ?_
            exact ih_8 x1 x2 x3 0 0 0 0 0 0 0 0 0 r0 0 0 z H locs ls hr0 hM (lv_sub hl [0, 1, 2, 3] rfl) hq
      · intro x1 x2 x3 x4 x5 x6 x7 x8 x9 x10 x11 x12 r0 t0 t1 z H locs ls hr0 hM hl hq
        have hq : cm_X1_writeImage_2 vl K (c_X1_writeImage vl K k) x1 x2 x3 x4 x5 x6 x7 x8 x9 x10 x11 x12 r0 t0 t1 z = some z1 := hq
        unfold cm_X1_writeImage_2 at hq
        refine lv_istore (lv' := [(10, .int t0), (0, .ref (u r0)), (1, .int x1), (2, .int x2), (3, .int x3), (4, .int x4), (5, .int x5), (6, .int x6), (7, .int x7), (8, .int x8), (9, .int x9)]) hx hb dcX1_writeImage_118 hl (by decide) rfl (fun ls hl => ?_)
        refine lv_iload_n hx hb dcX1_writeImage_120 rfl (lv_at hl 3 rfl) ?_
        refine lv_iload hx hb dcX1_writeImage_121 (lv_at hl 6 rfl) ?_
        refine lv_ishr hx hb dcX1_writeImage_123 ?_
        refine lv_iconst (v := 1) hx hb dcX1_writeImage_124 (by decide) ?_
        refine lv_iand hx hb dcX1_writeImage_125 ?_
        refine lv_if_eq (tgt := 133) hx hb dcX1_writeImage_126 (by decide) (fun hc => ?_) (fun hc => ?_)
        · have hq := tw_it hq hc
          refine lv_iconst (v := 0) hx hb dcX1_writeImage_133 (by decide) ?_
          exact ih_3 x1 x2 x3 x4 x5 x6 x7 x8 x9 t0 0 0 r0 0 0 z H locs ls hr0 hM (lv_sub hl [1, 2, 3, 4, 5, 6, 7, 8, 9, 10, 0] rfl) hq
        · have hq := tw_if hq hc
          refine lv_iconst (v := 1) hx hb dcX1_writeImage_129 (by decide) ?_
          refine lv_goto (tgt := 134) hx hb dcX1_writeImage_130 (by decide) ?_
          exact ih_3 x1 x2 x3 x4 x5 x6 x7 x8 x9 t0 0 0 r0 1 0 z H locs ls hr0 hM (lv_sub hl [1, 2, 3, 4, 5, 6, 7, 8, 9, 10, 0] rfl) hq
      · intro x1 x2 x3 x4 x5 x6 x7 x8 x9 x10 x11 x12 r0 t0 t1 z H locs ls hr0 hM hl hq
        have hq : cm_X1_writeImage_3 vl K (c_X1_writeImage vl K k) x1 x2 x3 x4 x5 x6 x7 x8 x9 x10 x11 x12 r0 t0 t1 z = some z1 := hq
        unfold cm_X1_writeImage_3 at hq
        refine lv_istore (lv' := [(11, .int t0), (0, .ref (u r0)), (1, .int x1), (2, .int x2), (3, .int x3), (4, .int x4), (5, .int x5), (6, .int x6), (7, .int x7), (8, .int x8), (9, .int x9), (10, .int x10)]) hx hb dcX1_writeImage_134 hl (by decide) rfl (fun ls hl => ?_)
        refine lv_iload_n hx hb dcX1_writeImage_136 rfl (lv_at hl 3 rfl) ?_
        refine lv_iload hx hb dcX1_writeImage_137 (lv_at hl 7 rfl) ?_
        refine lv_ishr hx hb dcX1_writeImage_139 ?_
        refine lv_iconst (v := 1) hx hb dcX1_writeImage_140 (by decide) ?_
        refine lv_iand hx hb dcX1_writeImage_141 ?_
        refine lv_if_eq (tgt := 149) hx hb dcX1_writeImage_142 (by decide) (fun hc => ?_) (fun hc => ?_)
        · have hq := tw_it hq hc
          refine lv_iconst (v := 0) hx hb dcX1_writeImage_149 (by decide) ?_
          exact ih_4 x1 x2 x3 x4 x5 x6 x7 x8 x9 x10 t0 0 r0 0 0 z H locs ls hr0 hM (lv_sub hl [1, 2, 3, 4, 5, 6, 7, 8, 9, 10, 11, 0] rfl) hq
        · have hq := tw_if hq hc
          refine lv_iconst (v := 1) hx hb dcX1_writeImage_145 (by decide) ?_
          refine lv_goto (tgt := 150) hx hb dcX1_writeImage_146 (by decide) ?_
          exact ih_4 x1 x2 x3 x4 x5 x6 x7 x8 x9 x10 t0 0 r0 1 0 z H locs ls hr0 hM (lv_sub hl [1, 2, 3, 4, 5, 6, 7, 8, 9, 10, 11, 0] rfl) hq
      · intro x1 x2 x3 x4 x5 x6 x7 x8 x9 x10 x11 x12 r0 t0 t1 z H locs ls hr0 hM hl hq
        have hq : cm_X1_writeImage_4 vl K (c_X1_writeImage vl K k) x1 x2 x3 x4 x5 x6 x7 x8 x9 x10 x11 x12 r0 t0 t1 z = some z1 := hq
        unfold cm_X1_writeImage_4 at hq
        refine lv_istore (lv' := [(12, .int t0), (0, .ref (u r0)), (1, .int x1), (2, .int x2), (3, .int x3), (4, .int x4), (5, .int x5), (6, .int x6), (7, .int x7), (8, .int x8), (9, .int x9), (10, .int x10), (11, .int x11)]) hx hb dcX1_writeImage_150 hl (by decide) rfl (fun ls hl => ?_)
        refine lv_iload hx hb dcX1_writeImage_152 (lv_at hl 6 rfl) ?_
        refine lv_iload hx hb dcX1_writeImage_154 (lv_at hl 7 rfl) ?_
        refine lv_icmp_eq (tgt := 202) hx hb dcX1_writeImage_156 (by decide) (fun hc => ?_) (fun hc => ?_)
        · have hq := tw_it hq hc
          refine lv_iload hx hb dcX1_writeImage_202 (lv_at hl 12 rfl) ?_
          refine lv_if_eq (tgt := 240) hx hb dcX1_writeImage_204 (by decide) (fun hc => ?_) (fun hc => ?_)
          · have hq := tw_it hq hc
            refine lv_aload_n hx hb dcX1_writeImage_240 rfl (lv_at hl 1 rfl) ?_
            refine lv_iload hx hb dcX1_writeImage_241 (lv_at hl 5 rfl) ?_
            refine lv_iload hx hb dcX1_writeImage_243 (lv_at hl 10 rfl) ?_
            refine lv_iload hx hb dcX1_writeImage_245 (lv_at hl 11 rfl) ?_
            obtain ⟨z12, hcq, hq⟩ := tw_cl0 hq
            refine uw_calv hU hM (va_runV (As := [.int x4, .int x9, .int x10]) (rest := []) ⟨hx, hb, hml, hown, hts⟩ (kc_X1_addTo l D q vl u hU.1 K r0 x4 x9 x10 hr0 z z12 hcq) (cwV 3 hts (tw_gV wC_good xq_234 xq_235 xq_236 xq_138 xq_237) rfl rfl rfl cdd_X1_addTo ⟨(Nat.le_of_ble_eq_true rfl), (Nat.le_of_ble_eq_true rfl)⟩) (cw_preV hK hM (co_X1 hr0) rfl) rfl rfl hl.1 rfl (lv_room (Nat.le_of_ble_eq_true rfl)) dcX1_writeImage_247 ⟨(Nat.le_of_ble_eq_true rfl), (Nat.le_of_ble_eq_true rfl)⟩) (fun H locs hM => ?_)
            exact ih_8 x1 x2 x3 0 0 0 0 0 0 0 0 0 r0 0 0 z12 H locs ls hr0 hM (lv_sub hl [1, 2, 3, 4] rfl) hq
          · have hq := tw_if hq hc
            refine lv_aload_n hx hb dcX1_writeImage_207 rfl (lv_at hl 1 rfl) ?_
            refine lv_iload hx hb dcX1_writeImage_208 (lv_at hl 5 rfl) ?_
            refine lv_iload hx hb dcX1_writeImage_210 (lv_at hl 10 rfl) ?_
            refine lv_iconst (v := 1) hx hb dcX1_writeImage_212 (by decide) ?_
            refine lv_iload hx hb dcX1_writeImage_213 (lv_at hl 8 rfl) ?_
            refine lv_ishl hx hb dcX1_writeImage_215 ?_
            refine lv_ior hx hb dcX1_writeImage_216 ?_
            refine lv_iload hx hb dcX1_writeImage_217 (lv_at hl 11 rfl) ?_
            obtain ⟨z13, hcq, hq⟩ := tw_cl0 hq
            refine uw_calv hU hM (va_runV (As := [.int x4, .int (x9 ||| ((1 : Int32) <<< ((x7 : Int32) &&& 31))), .int x10]) (rest := []) ⟨hx, hb, hml, hown, hts⟩ (kc_X1_addTo l D q vl u hU.1 K r0 x4 (x9 ||| ((1 : Int32) <<< ((x7 : Int32) &&& 31))) x10 hr0 z z13 hcq) (cwV 3 hts (tw_gV wC_good xq_234 xq_235 xq_236 xq_138 xq_237) rfl rfl rfl cdd_X1_addTo ⟨(Nat.le_of_ble_eq_true rfl), (Nat.le_of_ble_eq_true rfl)⟩) (cw_preV hK hM (co_X1 hr0) rfl) rfl rfl hl.1 rfl (lv_room (Nat.le_of_ble_eq_true rfl)) dcX1_writeImage_219 ⟨(Nat.le_of_ble_eq_true rfl), (Nat.le_of_ble_eq_true rfl)⟩) (fun H locs hM => ?_)
            refine lv_aload_n hx hb dcX1_writeImage_222 rfl (lv_at hl 1 rfl) ?_
            refine lv_iload hx hb dcX1_writeImage_223 (lv_at hl 5 rfl) ?_
            refine lv_iload hx hb dcX1_writeImage_225 (lv_at hl 10 rfl) ?_
            refine lv_iconst (v := 1) hx hb dcX1_writeImage_227 (by decide) ?_
            refine lv_iload hx hb dcX1_writeImage_228 (lv_at hl 9 rfl) ?_
            refine lv_ishl hx hb dcX1_writeImage_230 ?_
            refine lv_ior hx hb dcX1_writeImage_231 ?_
            refine lv_iload hx hb dcX1_writeImage_232 (lv_at hl 11 rfl) ?_
            obtain ⟨z14, hcq, hq⟩ := tw_cl0 hq
            refine uw_calv hU hM (va_runV (As := [.int x4, .int (x9 ||| ((1 : Int32) <<< ((x8 : Int32) &&& 31))), .int x10]) (rest := []) ⟨hx, hb, hml, hown, hts⟩ (kc_X1_addTo l D q vl u hU.1 K r0 x4 (x9 ||| ((1 : Int32) <<< ((x8 : Int32) &&& 31))) x10 hr0 z13 z14 hcq) (cwV 3 hts (tw_gV wC_good xq_234 xq_235 xq_236 xq_138 xq_237) rfl rfl rfl cdd_X1_addTo ⟨(Nat.le_of_ble_eq_true rfl), (Nat.le_of_ble_eq_true rfl)⟩) (cw_preV hK hM (co_X1 hr0) rfl) rfl rfl hl.1 rfl (lv_room (Nat.le_of_ble_eq_true rfl)) dcX1_writeImage_234 ⟨(Nat.le_of_ble_eq_true rfl), (Nat.le_of_ble_eq_true rfl)⟩) (fun H locs hM => ?_)
            refine lv_goto (tgt := 250) hx hb dcX1_writeImage_237 (by decide) ?_
            exact ih_8 x1 x2 x3 0 0 0 0 0 0 0 0 0 r0 0 0 z14 H locs ls hr0 hM (lv_sub hl [1, 2, 3, 4] rfl) hq
        · have hq := tw_if hq hc
          refine lv_iload hx hb dcX1_writeImage_159 (lv_at hl 12 rfl) ?_
          refine lv_if_ne (tgt := 169) hx hb dcX1_writeImage_161 (by decide) (fun hc => ?_) (fun hc => ?_)
          · have hq := tw_if hq hc
            exact ih_5 x1 x2 x3 x4 x5 x6 x7 x8 x9 x10 x11 t0 r0 0 0 z H locs ls hr0 hM (lv_sub hl [1, 2, 3, 4, 5, 6, 7, 8, 9, 10, 11, 12, 0] rfl) hq
          · have hq := tw_it hq hc
            refine lv_iload hx hb dcX1_writeImage_164 (lv_at hl 0 rfl) ?_
            refine lv_if_eq (tgt := 250) hx hb dcX1_writeImage_166 (by decide) (fun hc => ?_) (fun hc => ?_)
            · have hq := tw_it hq hc
              exact ih_8 x1 x2 x3 0 0 0 0 0 0 0 0 0 r0 0 0 z H locs ls hr0 hM (lv_sub hl [1, 2, 3, 4] rfl) hq
            · have hq := tw_if hq hc
              exact ih_5 x1 x2 x3 x4 x5 x6 x7 x8 x9 x10 x11 t0 r0 0 0 z H locs ls hr0 hM (lv_sub hl [1, 2, 3, 4, 5, 6, 7, 8, 9, 10, 11, 12, 0] rfl) hq
      · intro x1 x2 x3 x4 x5 x6 x7 x8 x9 x10 x11 x12 r0 t0 t1 z H locs ls hr0 hM hl hq
        have hq : cm_X1_writeImage_5 vl K (c_X1_writeImage vl K k) x1 x2 x3 x4 x5 x6 x7 x8 x9 x10 x11 x12 r0 t0 t1 z = some z1 := hq
        unfold cm_X1_writeImage_5 at hq
        refine lv_aload_n hx hb dcX1_writeImage_169 rfl (lv_at hl 0 rfl) ?_
        refine lv_iload hx hb dcX1_writeImage_170 (lv_at hl 4 rfl) ?_
        refine lv_iload hx hb dcX1_writeImage_172 (lv_at hl 11 rfl) ?_
        refine lv_if_eq (tgt := 192) hx hb dcX1_writeImage_174 (by decide) (fun hc => ?_) (fun hc => ?_)
        · have hq := tw_it hq hc
          exact ih_6 x1 x2 x3 x4 x5 x6 x7 x8 x9 x10 x11 x12 r0 x4 0 z H locs ls hr0 hM (lv_sub hl [0, 1, 2, 3, 4, 5, 6, 7, 8, 9, 10, 11, 12] rfl) hq
        · have hq := tw_if hq hc
          refine lv_iload hx hb dcX1_writeImage_177 (lv_at hl 12 rfl) ?_
          refine lv_if_eq (tgt := 192) hx hb dcX1_writeImage_179 (by decide) (fun hc => ?_) (fun hc => ?_)
          · have hq := tw_it hq hc
            exact ih_6 x1 x2 x3 x4 x5 x6 x7 x8 x9 x10 x11 x12 r0 x4 0 z H locs ls hr0 hM (lv_sub hl [0, 1, 2, 3, 4, 5, 6, 7, 8, 9, 10, 11, 12] rfl) hq
          · have hq := tw_if hq hc
            refine lv_iload hx hb dcX1_writeImage_182 (lv_at hl 9 rfl) ?_
            refine lv_iconst (v := 1) hx hb dcX1_writeImage_184 (by decide) ?_
            refine lv_iload hx hb dcX1_writeImage_185 (lv_at hl 7 rfl) ?_
            refine lv_ishl hx hb dcX1_writeImage_187 ?_
            refine lv_ior hx hb dcX1_writeImage_188 ?_
            refine lv_goto (tgt := 194) hx hb dcX1_writeImage_189 (by decide) ?_
            exact ih_7 x1 x2 x3 x4 x5 x6 x7 x8 x9 x10 x11 x12 r0 (x9 ||| ((1 : Int32) <<< ((x7 : Int32) &&& 31))) x4 z H locs ls hr0 hM (lv_sub hl [0, 1, 2, 3, 4, 5, 6, 7, 8, 9, 10, 11, 12] rfl) hq
      · intro x1 x2 x3 x4 x5 x6 x7 x8 x9 x10 x11 x12 r0 t0 t1 z H locs ls hr0 hM hl hq
        have hq : cm_X1_writeImage_6 vl K (c_X1_writeImage vl K k) x1 x2 x3 x4 x5 x6 x7 x8 x9 x10 x11 x12 r0 t0 t1 z = some z1 := hq
        unfold cm_X1_writeImage_6 at hq
        refine lv_iload hx hb dcX1_writeImage_192 (lv_at hl 9 rfl) ?_
        exact ih_7 x1 x2 x3 x4 x5 x6 x7 x8 x9 x10 x11 x12 r0 x9 t0 z H locs ls hr0 hM (lv_sub hl [0, 1, 2, 3, 4, 5, 6, 7, 8, 9, 10, 11, 12] rfl) hq
      · intro x1 x2 x3 x4 x5 x6 x7 x8 x9 x10 x11 x12 r0 t0 t1 z H locs ls hr0 hM hl hq
        have hq : cm_X1_writeImage_7 vl K (c_X1_writeImage vl K k) x1 x2 x3 x4 x5 x6 x7 x8 x9 x10 x11 x12 r0 t0 t1 z = some z1 := hq
        unfold cm_X1_writeImage_7 at hq
        refine lv_iload hx hb dcX1_writeImage_194 (lv_at hl 10 rfl) ?_
        obtain ⟨z15, hcq, hq⟩ := tw_cl0 hq
        refine uw_calv hU hM (va_runV (As := [.int t1, .int t0, .int x10]) (rest := []) ⟨hx, hb, hml, hown, hts⟩ (kc_X1_addTo l D q vl u hU.1 K r0 t1 t0 x10 hr0 z z15 hcq) (cwV 3 hts (tw_gV wC_good xq_234 xq_235 xq_236 xq_138 xq_237) rfl rfl rfl cdd_X1_addTo ⟨(Nat.le_of_ble_eq_true rfl), (Nat.le_of_ble_eq_true rfl)⟩) (cw_preV hK hM (co_X1 hr0) rfl) rfl rfl hl.1 rfl (lv_room (Nat.le_of_ble_eq_true rfl)) dcX1_writeImage_196 ⟨(Nat.le_of_ble_eq_true rfl), (Nat.le_of_ble_eq_true rfl)⟩) (fun H locs hM => ?_)
        refine lv_goto (tgt := 250) hx hb dcX1_writeImage_199 (by decide) ?_
        exact ih_8 x1 x2 x3 0 0 0 0 0 0 0 0 0 r0 0 0 z15 H locs ls hr0 hM (lv_sub hl [0, 1, 2, 3] rfl) hq
      · intro x1 x2 x3 x4 x5 x6 x7 x8 x9 x10 x11 x12 r0 t0 t1 z H locs ls hr0 hM hl hq
        have hq : cm_X1_writeImage_8 vl K (c_X1_writeImage vl K k) x1 x2 x3 x4 x5 x6 x7 x8 x9 x10 x11 x12 r0 t0 t1 z = some z1 := hq
        unfold cm_X1_writeImage_8 at hq
        refine lv_iinc (v := (x3 + 1)) (lv' := [(3, .int (x3 + 1)), (0, .ref (u r0)), (1, .int x1), (2, .int x2)]) hx hb dcX1_writeImage_250 hl (k := 3) rfl rfl (by decide) rfl (fun ls hl => ?_)
        refine lv_goto (tgt := 2) hx hb dcX1_writeImage_253 (by decide) ?_
        exact ih_1 x1 x2 (x3 + 1) 0 0 0 0 0 0 0 0 0 r0 0 0 z H locs ls hr0 hM (lv_sub hl [1, 2, 3, 0] rfl) hq
  exact (key K).1 x1 x2 0 0 0 0 0 0 0 0 0 0 r0 0 0 z s.heap [] ls hr0 hM (lv_sub hl [0, 1, 2] rfl) hq
theorem dcX6_isBeside_0 : decode cX6_isBeside 0 = .ok (.aload_n 0, 1) := by decide +kernel
theorem dcX6_isBeside_1 : decode cX6_isBeside 1 = .ok (.getfield 116, 3) := by decide +kernel
theorem dcX6_isBeside_4 : decode cX6_isBeside 4 = .ok (.iload_n 1, 1) := by decide +kernel
theorem dcX6_isBeside_5 : decode cX6_isBeside 5 = .ok (.iaload, 1) := by decide +kernel
theorem dcX6_isBeside_6 : decode cX6_isBeside 6 = .ok (.iload_n 2, 1) := by decide +kernel
theorem dcX6_isBeside_7 : decode cX6_isBeside 7 = .ok (.if_icmp .eq 13, 3) := by decide +kernel
theorem dcX6_isBeside_10 : decode cX6_isBeside 10 = .ok (.aload_n 0, 1) := by decide +kernel
theorem dcX6_isBeside_11 : decode cX6_isBeside 11 = .ok (.getfield 116, 3) := by decide +kernel
theorem dcX6_isBeside_14 : decode cX6_isBeside 14 = .ok (.iload_n 2, 1) := by decide +kernel
theorem dcX6_isBeside_15 : decode cX6_isBeside 15 = .ok (.iaload, 1) := by decide +kernel
theorem dcX6_isBeside_16 : decode cX6_isBeside 16 = .ok (.iload_n 1, 1) := by decide +kernel
theorem dcX6_isBeside_17 : decode cX6_isBeside 17 = .ok (.if_icmp .ne 7, 3) := by decide +kernel
theorem dcX6_isBeside_20 : decode cX6_isBeside 20 = .ok (.iconst 1, 1) := by decide +kernel
theorem dcX6_isBeside_21 : decode cX6_isBeside 21 = .ok (.goto 4, 3) := by decide +kernel
theorem dcX6_isBeside_24 : decode cX6_isBeside 24 = .ok (.iconst 0, 1) := by decide +kernel
theorem dcX6_isBeside_25 : decode cX6_isBeside 25 = .ok (.ireturn, 1) := by decide +kernel
def cm_X6_isBeside_0 (vl : Nat → Nat) (K : Nat) (go : Nat → Int32 → Int32 → Nat → ow_MS → Option (Int32 × ow_MS)) (x1 : Int32) (x2 : Int32) (r0 : Nat) (z : ow_MS) : Option (Int32 × ow_MS) :=
 crI (cX vl) z (r0 + 1) x1 fun v1 => (if v1 = x2 then go 1 x1 x2 r0 z
 else crI (cX vl) z (r0 + 1) x2 fun v2 => (if v2 = x1 then go 1 x1 x2 r0 z
 else okZ 0 (some (0, z))))
def cm_X6_isBeside_1 (vl : Nat → Nat) (K : Nat) (go : Nat → Int32 → Int32 → Nat → ow_MS → Option (Int32 × ow_MS)) (x1 : Int32) (x2 : Int32) (r0 : Nat) (z : ow_MS) : Option (Int32 × ow_MS) :=
 okZ 1 (some (1, z))
def cb_X6_isBeside (vl : Nat → Nat) (K : Nat) (go : Nat → Int32 → Int32 → Nat → ow_MS → Option (Int32 × ow_MS)) (L : Nat) (x1 : Int32) (x2 : Int32) (r0 : Nat) (z : ow_MS) : Option (Int32 × ow_MS) := match L with
  | 0 => cm_X6_isBeside_0 vl K go x1 x2 r0 z
  | 1 => cm_X6_isBeside_1 vl K go x1 x2 r0 z
  | _ => none
def c_X6_isBeside (vl : Nat → Nat) (K : Nat) : Nat → Nat → Int32 → Int32 → Nat → ow_MS → Option (Int32 × ow_MS)
  | 0 => fun _ _ _ _ _ => none
  | k + 1 => cb_X6_isBeside vl K (c_X6_isBeside vl K k)
def ce_X6_isBeside (vl : Nat → Nat) (K : Nat) (r0 : Nat) (x1 : Int32) (x2 : Int32) (z : ow_MS) : Option (Int32 × ow_MS) := c_X6_isBeside vl K K 0 x1 x2 r0 z
abbrev wc_X6_isBeside : List Cond := .code yX6_isBeside cX6_isBeside 3 (some .boolean) :: wC
theorem cdd_X6_isBeside : yX6_isBeside.cls ≠ "java/lang/invoke/MethodHandle" ∧ yX6_isBeside.cls ≠ "java/lang/invoke/VarHandle" ∧ (parseMethodDescriptor yX6_isBeside.desc).map (fun d => d.parameters.length) = some 3 := by decide +kernel
set_option maxHeartbeats 4000000 in
set_option maxRecDepth 100000 in
theorem kc_X6_isBeside (l : Launch) (D : va_G) (q : Nat → ClassId) (vl u : Nat → Nat) (hU0 : tw_inj (cX vl) u) (K : Nat) (r0 : Nat) (x1 : Int32) (x2 : Int32) (hr0 : cw_X7 r0) (z z1 : ow_MS) (r : Int32) (hq : ce_X6_isBeside vl K r0 x1 x2 z = some (r, z1)) : Met l yX6_isBeside wc_X6_isBeside ({ frames := 0, cells := 0, slots := 0, locals := 0 } : Room) (va_Pc [.ref (u r0), .int x1, .int x2] (cw_pre D q vl u z)) (va_Qi (fun x (_ : Unit) => x = r) (fun _ t => va_P D vwCl (uw (cX vl) q u z1) t.heap) (tw_A (cX vl) u)) 0 0 (tw_A (cX vl) u) := by
  refine Met.ofW (cc := cX6_isBeside) (maxL := 3) (ret := (some .boolean)) (by decide) rfl ?_
  intro p e s m args below meth c s₁ B hml hv
  obtain ⟨rfl, hP, hK⟩ := hv
  have hx := B.exec
  have hb := B.bytes
  have hr := B.returns
  have hts := atoms_spec (ws := wc_X6_isBeside) B.pre
  have hT : ∀ w ∈ wC, w.before ([.ref (u r0), .int x1, .int x2] : List Value).toArray s = true := fun w h => hts w (List.mem_cons_of_mem _ h)
  have hown : s.vm.findClass RX6 = some m.cls := findClass_of_methodNamed B.named
  have hlocks := B.notSynchronized
  have hU : uw_inj (cX vl) u (tw_A (cX vl) u) := ⟨hU0, fun h hh => ⟨h, hh, rfl⟩⟩
  have hM : uw_M D vwCl (cX vl) q (tw_A (cX vl) u) s.heap u z s.heap [] := ⟨hP, va_S.rf⟩
  have hl := lv_entry ([.ref (u r0), .int x1, .int x2]) (n := 3) (Nat.le_of_ble_eq_true rfl)
  rw [lg_entry_eq]
  generalize (lg_sl ([.ref (u r0), .int x1, .int x2]) ++ List.replicate (3 - (lg_sl ([.ref (u r0), .int x1, .int x2])).length) Slot.unset).toArray = ls at hl ⊢
  have hl : lv_has ls 3 [(0, .ref (u r0)), (1, .int x1), (2, .int x2)] := hl
  refine ow_named (fun QQ hQQ => ?_)
  generalize ([.ref (u r0), .int x1, .int x2] : List Value).toArray = args at hts hT hQQ ⊢
  have key : ∀ k : Nat, (∀ (x1 : Int32) (x2 : Int32) (r0 : Nat) (z : ow_MS) (H : Heap) (locs : List Loc) (ls : Array Slot), cw_X7 r0 → uw_M D vwCl (cX vl) q (tw_A (cX vl) u) s.heap u z H locs → lv_has ls 3 [(0, .ref (u r0)), (1, .int x1), (2, .int x2)] → c_X6_isBeside vl K k 0 x1 x2 r0 z = some (r, z1) → W p l e ({ frames := 0, cells := 0, slots := 0, locals := 0 } : Room) s m args below meth c H locs 0 0 QQ (F0 m 0 ls [])) ∧ (∀ (x1 : Int32) (x2 : Int32) (r0 : Nat) (z : ow_MS) (H : Heap) (locs : List Loc) (ls : Array Slot), cw_X7 r0 → uw_M D vwCl (cX vl) q (tw_A (cX vl) u) s.heap u z H locs → lv_has ls 3 [(0, .ref (u r0)), (1, .int x1), (2, .int x2)] → c_X6_isBeside vl K k 1 x1 x2 r0 z = some (r, z1) → W p l e ({ frames := 0, cells := 0, slots := 0, locals := 0 } : Room) s m args below meth c H locs 0 0 QQ (F0 m 20 ls [])) := by
    intro k
    induction k with
    | zero => exact ⟨fun _ _ _ _ _ _ _ _ _ _ hq => cw_no hq, fun _ _ _ _ _ _ _ _ _ _ hq => cw_no hq⟩
    | succ k ih =>
      obtain ⟨ih_0, ih_1⟩ := ih
      refine ⟨?_, ?_⟩
      · intro x1 x2 r0 z H locs ls hr0 hM hl hq
        have hq : cm_X6_isBeside_0 vl K (c_X6_isBeside vl K k) x1 x2 r0 z = some (r, z1) := hq
        unfold cm_X6_isBeside_0 at hq
        refine lv_aload_n hx hb dcX6_isBeside_0 rfl (lv_at hl 0 rfl) ?_
        refine vgX6_116 hx hb hT hown hK hM hr0 dcX6_isBeside_1 ?_
        refine lv_iload_n hx hb dcX6_isBeside_4 rfl (lv_at hl 1 rfl) ?_
        refine uw_iald cX_ok hx hb hK hM (cr_X7_0 hr0) hq dcX6_isBeside_5 (fun v1 hq => ?_)
        refine lv_iload_n hx hb dcX6_isBeside_6 rfl (lv_at hl 2 rfl) ?_
        refine lv_icmp_eq (tgt := 20) hx hb dcX6_isBeside_7 (by decide) (fun hc => ?_) (fun hc => ?_)
        · have hq := tw_it hq hc
          exact ih_1 x1 x2 r0 z H locs ls hr0 hM (lv_sub hl [0, 1, 2] rfl) hq
        · have hq := tw_if hq hc
          refine lv_aload_n hx hb dcX6_isBeside_10 rfl (lv_at hl 0 rfl) ?_
          refine vgX6_116 hx hb hT hown hK hM hr0 dcX6_isBeside_11 ?_
          refine lv_iload_n hx hb dcX6_isBeside_14 rfl (lv_at hl 2 rfl) ?_
          refine uw_iald cX_ok hx hb hK hM (cr_X7_0 hr0) hq dcX6_isBeside_15 (fun v2 hq => ?_)
          refine lv_iload_n hx hb dcX6_isBeside_16 rfl (lv_at hl 1 rfl) ?_
          refine lv_icmp_ne (tgt := 24) hx hb dcX6_isBeside_17 (by decide) (fun hc => ?_) (fun hc => ?_)
          · have hq := tw_if hq hc
            refine lv_iconst (v := 0) hx hb dcX6_isBeside_24 (by decide) ?_
            obtain ⟨hz, hq⟩ := tw_gZ hq
            exact cw_zret hx hb hr hlocks hM hz hq hQQ dcX6_isBeside_25
          · have hq := tw_it hq hc
            exact ih_1 x1 x2 r0 z H locs ls hr0 hM (lv_sub hl [0, 1, 2] rfl) hq
      · intro x1 x2 r0 z H locs ls hr0 hM hl hq
        have hq : cm_X6_isBeside_1 vl K (c_X6_isBeside vl K k) x1 x2 r0 z = some (r, z1) := hq
        unfold cm_X6_isBeside_1 at hq
        refine lv_iconst (v := 1) hx hb dcX6_isBeside_20 (by decide) ?_
        refine lv_goto (tgt := 25) hx hb dcX6_isBeside_21 (by decide) ?_
        obtain ⟨hz, hq⟩ := tw_gZ hq
        exact cw_zret hx hb hr hlocks hM hz hq hQQ dcX6_isBeside_25
  exact (key K).1 x1 x2 r0 z s.heap [] ls hr0 hM (lv_sub hl [0, 1, 2] rfl) hq
theorem dcX6_isLoop_0 : decode cX6_isLoop 0 = .ok (.aload_n 0, 1) := by decide +kernel
theorem dcX6_isLoop_1 : decode cX6_isLoop 1 = .ok (.iconst 2, 1) := by decide +kernel
theorem dcX6_isLoop_2 : decode cX6_isLoop 2 = .ok (.iload_n 1, 1) := by decide +kernel
theorem dcX6_isLoop_3 : decode cX6_isLoop 3 = .ok (.imul, 1) := by decide +kernel
theorem dcX6_isLoop_4 : decode cX6_isLoop 4 = .ok (.iconst 2, 1) := by decide +kernel
theorem dcX6_isLoop_5 : decode cX6_isLoop 5 = .ok (.iload_n 1, 1) := by decide +kernel
theorem dcX6_isLoop_6 : decode cX6_isLoop 6 = .ok (.imul, 1) := by decide +kernel
theorem dcX6_isLoop_7 : decode cX6_isLoop 7 = .ok (.iconst 1, 1) := by decide +kernel
theorem dcX6_isLoop_8 : decode cX6_isLoop 8 = .ok (.iadd, 1) := by decide +kernel
theorem dcX6_isLoop_9 : decode cX6_isLoop 9 = .ok (.invokestatic 112, 3) := by decide +kernel
theorem dcX6_isLoop_12 : decode cX6_isLoop 12 = .ok (.ireturn, 1) := by decide +kernel
def cm_X6_isLoop_0 (vl : Nat → Nat) (K : Nat) (x1 : Int32) (r0 : Nat) (z : ow_MS) : Option (Int32 × ow_MS) :=
 cs1 (ce_X6_isBeside vl K r0 (2 * x1) ((2 * x1) + 1) z) fun v2 z1 => okZ v2 (some (v2, z1))
def ce_X6_isLoop (vl : Nat → Nat) (K : Nat) (r0 : Nat) (x1 : Int32) (z : ow_MS) : Option (Int32 × ow_MS) := cm_X6_isLoop_0 vl K x1 r0 z
abbrev wc_X6_isLoop : List Cond := .code yX6_isLoop cX6_isLoop 2 (some .boolean) :: wC
theorem cdd_X6_isLoop : yX6_isLoop.cls ≠ "java/lang/invoke/MethodHandle" ∧ yX6_isLoop.cls ≠ "java/lang/invoke/VarHandle" ∧ (parseMethodDescriptor yX6_isLoop.desc).map (fun d => d.parameters.length) = some 2 := by decide +kernel
set_option maxHeartbeats 4000000 in
set_option maxRecDepth 100000 in
theorem kc_X6_isLoop (l : Launch) (D : va_G) (q : Nat → ClassId) (vl u : Nat → Nat) (hU0 : tw_inj (cX vl) u) (K : Nat) (r0 : Nat) (x1 : Int32) (hr0 : cw_X7 r0) (z z1 : ow_MS) (r : Int32) (hq : ce_X6_isLoop vl K r0 x1 z = some (r, z1)) : Met l yX6_isLoop wc_X6_isLoop ({ frames := 1, cells := 0, slots := 0, locals := 22 } : Room) (va_Pc [.ref (u r0), .int x1] (cw_pre D q vl u z)) (va_Qi (fun x (_ : Unit) => x = r) (fun _ t => va_P D vwCl (uw (cX vl) q u z1) t.heap) (tw_A (cX vl) u)) 0 0 (tw_A (cX vl) u) := by
  refine Met.ofW (cc := cX6_isLoop) (maxL := 2) (ret := (some .boolean)) (by decide) rfl ?_
  intro p e s m args below meth c s₁ B hml hv
  obtain ⟨rfl, hP, hK⟩ := hv
  have hx := B.exec
  have hb := B.bytes
  have hr := B.returns
  have hts := atoms_spec (ws := wc_X6_isLoop) B.pre
  have hT : ∀ w ∈ wC, w.before ([.ref (u r0), .int x1] : List Value).toArray s = true := fun w h => hts w (List.mem_cons_of_mem _ h)
  have hown : s.vm.findClass RX6 = some m.cls := findClass_of_methodNamed B.named
  have hlocks := B.notSynchronized
  have hU : uw_inj (cX vl) u (tw_A (cX vl) u) := ⟨hU0, fun h hh => ⟨h, hh, rfl⟩⟩
  have hM : uw_M D vwCl (cX vl) q (tw_A (cX vl) u) s.heap u z s.heap [] := ⟨hP, va_S.rf⟩
  have hl := lv_entry ([.ref (u r0), .int x1]) (n := 2) (Nat.le_of_ble_eq_true rfl)
  rw [lg_entry_eq]
  generalize (lg_sl ([.ref (u r0), .int x1]) ++ List.replicate (2 - (lg_sl ([.ref (u r0), .int x1])).length) Slot.unset).toArray = ls at hl ⊢
  have hl : lv_has ls 2 [(0, .ref (u r0)), (1, .int x1)] := hl
  refine ow_named (fun QQ hQQ => ?_)
  generalize ([.ref (u r0), .int x1] : List Value).toArray = args at hts hT hQQ ⊢
  have hq : cm_X6_isLoop_0 vl K x1 r0 z = some (r, z1) := hq
  unfold cm_X6_isLoop_0 at hq
  suffices key : ∀ (H : Heap) (locs : List Loc), uw_M D vwCl (cX vl) q (tw_A (cX vl) u) s.heap u z H locs → W p l e ({ frames := 1, cells := 0, slots := 0, locals := 22 } : Room) s m args below meth c H locs 0 0 QQ (F0 m 0 ls []) from key s.heap [] hM
  intro H locs hM
  refine lv_aload_n hx hb dcX6_isLoop_0 rfl (lv_at hl 0 rfl) ?_
  refine lv_iconst (v := 2) hx hb dcX6_isLoop_1 (by decide) ?_
  refine lv_iload_n hx hb dcX6_isLoop_2 rfl (lv_at hl 1 rfl) ?_
  refine lv_imul hx hb dcX6_isLoop_3 ?_
  refine lv_iconst (v := 2) hx hb dcX6_isLoop_4 (by decide) ?_
  refine lv_iload_n hx hb dcX6_isLoop_5 rfl (lv_at hl 1 rfl) ?_
  refine lv_imul hx hb dcX6_isLoop_6 ?_
  refine lv_iconst (v := 1) hx hb dcX6_isLoop_7 (by decide) ?_
  refine lv_iadd hx hb dcX6_isLoop_8 ?_
  obtain ⟨v2, z1, hcq, hq⟩ := tw_cl1 hq
  refine uw_cali hU hM (va_runS (As := [.ref (u r0), .int (2 * x1), .int ((2 * x1) + 1)]) (rest := []) ⟨hx, hb, hml, hown, hts⟩ (kc_X6_isBeside l D q vl u hU.1 K r0 (2 * x1) ((2 * x1) + 1) hr0 z z1 v2 hcq) (va_cwS 3 hts (tw_gS wC_good xq_148 xq_149 xq_146 xq_150) rfl rfl rfl cdd_X6_isBeside ⟨(Nat.le_of_ble_eq_true rfl), (Nat.le_of_ble_eq_true rfl)⟩) (cw_preS hK hM) rfl rfl hl.1 rfl (lv_room (Nat.le_of_ble_eq_true rfl)) dcX6_isLoop_9 ⟨(Nat.le_of_ble_eq_true rfl), (Nat.le_of_ble_eq_true rfl)⟩) (fun H locs hM => ?_)
  obtain ⟨hz, hq⟩ := tw_gZ hq
  exact cw_zret hx hb hr hlocks hM hz hq hQQ dcX6_isLoop_12
theorem dcX6_isPair_0 : decode cX6_isPair 0 = .ok (.aload_n 0, 1) := dw_at cX6_isPair_k0 (p := 0) rfl (by decide +kernel)
theorem dcX6_isPair_1 : decode cX6_isPair 1 = .ok (.getfield 123, 3) := dw_at cX6_isPair_k0 (p := 1) rfl (by decide +kernel)
theorem dcX6_isPair_4 : decode cX6_isPair 4 = .ok (.iload_n 1, 1) := dw_at cX6_isPair_k0 (p := 4) rfl (by decide +kernel)
theorem dcX6_isPair_5 : decode cX6_isPair 5 = .ok (.iaload, 1) := dw_at cX6_isPair_k0 (p := 5) rfl (by decide +kernel)
theorem dcX6_isPair_6 : decode cX6_isPair 6 = .ok (.aload_n 0, 1) := dw_at cX6_isPair_k0 (p := 6) rfl (by decide +kernel)
theorem dcX6_isPair_7 : decode cX6_isPair 7 = .ok (.getfield 123, 3) := dw_at cX6_isPair_k0 (p := 7) rfl (by decide +kernel)
theorem dcX6_isPair_10 : decode cX6_isPair 10 = .ok (.iload_n 2, 1) := dw_at cX6_isPair_k0 (p := 10) rfl (by decide +kernel)
theorem dcX6_isPair_11 : decode cX6_isPair 11 = .ok (.iaload, 1) := dw_at cX6_isPair_k0 (p := 11) rfl (by decide +kernel)
theorem dcX6_isPair_12 : decode cX6_isPair 12 = .ok (.if_icmp .eq 37, 3) := dw_at cX6_isPair_k0 (p := 12) rfl (by decide +kernel)
theorem dcX6_isPair_15 : decode cX6_isPair 15 = .ok (.aload_n 0, 1) := dw_at cX6_isPair_k0 (p := 15) rfl (by decide +kernel)
theorem dcX6_isPair_16 : decode cX6_isPair 16 = .ok (.iconst 2, 1) := dw_at cX6_isPair_k0 (p := 16) rfl (by decide +kernel)
theorem dcX6_isPair_17 : decode cX6_isPair 17 = .ok (.iload_n 1, 1) := dw_at cX6_isPair_k0 (p := 17) rfl (by decide +kernel)
theorem dcX6_isPair_18 : decode cX6_isPair 18 = .ok (.imul, 1) := dw_at cX6_isPair_k0 (p := 18) rfl (by decide +kernel)
theorem dcX6_isPair_19 : decode cX6_isPair 19 = .ok (.iconst 2, 1) := dw_at cX6_isPair_k0 (p := 19) rfl (by decide +kernel)
theorem dcX6_isPair_20 : decode cX6_isPair 20 = .ok (.iload_n 2, 1) := dw_at cX6_isPair_k0 (p := 20) rfl (by decide +kernel)
theorem dcX6_isPair_21 : decode cX6_isPair 21 = .ok (.imul, 1) := dw_at cX6_isPair_k0 (p := 21) rfl (by decide +kernel)
theorem dcX6_isPair_22 : decode cX6_isPair 22 = .ok (.invokestatic 112, 3) := dw_at cX6_isPair_k0 (p := 22) rfl (by decide +kernel)
theorem dcX6_isPair_25 : decode cX6_isPair 25 = .ok (.ifCond .eq 24, 3) := dw_at cX6_isPair_k1 (p := 0) rfl (by decide +kernel)
theorem dcX6_isPair_28 : decode cX6_isPair 28 = .ok (.aload_n 0, 1) := dw_at cX6_isPair_k1 (p := 3) rfl (by decide +kernel)
theorem dcX6_isPair_29 : decode cX6_isPair 29 = .ok (.iconst 2, 1) := dw_at cX6_isPair_k1 (p := 4) rfl (by decide +kernel)
theorem dcX6_isPair_30 : decode cX6_isPair 30 = .ok (.iload_n 1, 1) := dw_at cX6_isPair_k1 (p := 5) rfl (by decide +kernel)
theorem dcX6_isPair_31 : decode cX6_isPair 31 = .ok (.imul, 1) := dw_at cX6_isPair_k1 (p := 6) rfl (by decide +kernel)
theorem dcX6_isPair_32 : decode cX6_isPair 32 = .ok (.iconst 1, 1) := dw_at cX6_isPair_k1 (p := 7) rfl (by decide +kernel)
theorem dcX6_isPair_33 : decode cX6_isPair 33 = .ok (.iadd, 1) := dw_at cX6_isPair_k1 (p := 8) rfl (by decide +kernel)
theorem dcX6_isPair_34 : decode cX6_isPair 34 = .ok (.iconst 2, 1) := dw_at cX6_isPair_k1 (p := 9) rfl (by decide +kernel)
theorem dcX6_isPair_35 : decode cX6_isPair 35 = .ok (.iload_n 2, 1) := dw_at cX6_isPair_k1 (p := 10) rfl (by decide +kernel)
theorem dcX6_isPair_36 : decode cX6_isPair 36 = .ok (.imul, 1) := dw_at cX6_isPair_k1 (p := 11) rfl (by decide +kernel)
theorem dcX6_isPair_37 : decode cX6_isPair 37 = .ok (.iconst 1, 1) := dw_at cX6_isPair_k1 (p := 12) rfl (by decide +kernel)
theorem dcX6_isPair_38 : decode cX6_isPair 38 = .ok (.iadd, 1) := dw_at cX6_isPair_k1 (p := 13) rfl (by decide +kernel)
theorem dcX6_isPair_39 : decode cX6_isPair 39 = .ok (.invokestatic 112, 3) := dw_at cX6_isPair_k1 (p := 14) rfl (by decide +kernel)
theorem dcX6_isPair_42 : decode cX6_isPair 42 = .ok (.ifCond .eq 7, 3) := dw_at cX6_isPair_k1 (p := 17) rfl (by decide +kernel)
theorem dcX6_isPair_45 : decode cX6_isPair 45 = .ok (.iconst 1, 1) := dw_at cX6_isPair_k1 (p := 20) rfl (by decide +kernel)
theorem dcX6_isPair_46 : decode cX6_isPair 46 = .ok (.goto 4, 3) := dw_at cX6_isPair_k1 (p := 21) rfl (by decide +kernel)
theorem dcX6_isPair_49 : decode cX6_isPair 49 = .ok (.iconst 0, 1) := dw_at cX6_isPair_k1 (p := 24) rfl (by decide +kernel)
theorem dcX6_isPair_50 : decode cX6_isPair 50 = .ok (.ireturn, 1) := dw_at cX6_isPair_k1 (p := 25) rfl (by decide +kernel)
def cm_X6_isPair_0 (vl : Nat → Nat) (K : Nat) (x1 : Int32) (x2 : Int32) (r0 : Nat) (z : ow_MS) : Option (Int32 × ow_MS) :=
 crI (cX vl) z (r0 + 3) x1 fun v1 => crI (cX vl) z (r0 + 3) x2 fun v2 => (if v1 = v2 then okZ 0 (some (0, z))
 else cs1 (ce_X6_isBeside vl K r0 (2 * x1) (2 * x2) z) fun v4 z3 => (if v4 = 0 then okZ 0 (some (0, z3))
 else cs1 (ce_X6_isBeside vl K r0 ((2 * x1) + 1) ((2 * x2) + 1) z3) fun v6 z5 => (if v6 = 0 then okZ 0 (some (0, z5))
 else okZ 1 (some (1, z5)))))
def ce_X6_isPair (vl : Nat → Nat) (K : Nat) (r0 : Nat) (x1 : Int32) (x2 : Int32) (z : ow_MS) : Option (Int32 × ow_MS) := cm_X6_isPair_0 vl K x1 x2 r0 z
abbrev wc_X6_isPair : List Cond := .code yX6_isPair cX6_isPair 3 (some .boolean) :: wC
theorem cdd_X6_isPair : yX6_isPair.cls ≠ "java/lang/invoke/MethodHandle" ∧ yX6_isPair.cls ≠ "java/lang/invoke/VarHandle" ∧ (parseMethodDescriptor yX6_isPair.desc).map (fun d => d.parameters.length) = some 3 := by decide +kernel
set_option maxHeartbeats 4000000 in
set_option maxRecDepth 100000 in
theorem kc_X6_isPair (l : Launch) (D : va_G) (q : Nat → ClassId) (vl u : Nat → Nat) (hU0 : tw_inj (cX vl) u) (K : Nat) (r0 : Nat) (x1 : Int32) (x2 : Int32) (hr0 : cw_X7 r0) (z z1 : ow_MS) (r : Int32) (hq : ce_X6_isPair vl K r0 x1 x2 z = some (r, z1)) : Met l yX6_isPair wc_X6_isPair ({ frames := 1, cells := 0, slots := 0, locals := 22 } : Room) (va_Pc [.ref (u r0), .int x1, .int x2] (cw_pre D q vl u z)) (va_Qi (fun x (_ : Unit) => x = r) (fun _ t => va_P D vwCl (uw (cX vl) q u z1) t.heap) (tw_A (cX vl) u)) 0 0 (tw_A (cX vl) u) := by
  refine Met.ofW (cc := cX6_isPair) (maxL := 3) (ret := (some .boolean)) (by decide) rfl ?_
  intro p e s m args below meth c s₁ B hml hv
  obtain ⟨rfl, hP, hK⟩ := hv
  have hx := B.exec
  have hb := B.bytes
  have hr := B.returns
  have hts := atoms_spec (ws := wc_X6_isPair) B.pre
  have hT : ∀ w ∈ wC, w.before ([.ref (u r0), .int x1, .int x2] : List Value).toArray s = true := fun w h => hts w (List.mem_cons_of_mem _ h)
  have hown : s.vm.findClass RX6 = some m.cls := findClass_of_methodNamed B.named
  have hlocks := B.notSynchronized
  have hU : uw_inj (cX vl) u (tw_A (cX vl) u) := ⟨hU0, fun h hh => ⟨h, hh, rfl⟩⟩
  have hM : uw_M D vwCl (cX vl) q (tw_A (cX vl) u) s.heap u z s.heap [] := ⟨hP, va_S.rf⟩
  have hl := lv_entry ([.ref (u r0), .int x1, .int x2]) (n := 3) (Nat.le_of_ble_eq_true rfl)
  rw [lg_entry_eq]
  generalize (lg_sl ([.ref (u r0), .int x1, .int x2]) ++ List.replicate (3 - (lg_sl ([.ref (u r0), .int x1, .int x2])).length) Slot.unset).toArray = ls at hl ⊢
  have hl : lv_has ls 3 [(0, .ref (u r0)), (1, .int x1), (2, .int x2)] := hl
  refine ow_named (fun QQ hQQ => ?_)
  generalize ([.ref (u r0), .int x1, .int x2] : List Value).toArray = args at hts hT hQQ ⊢
  have hq : cm_X6_isPair_0 vl K x1 x2 r0 z = some (r, z1) := hq
  unfold cm_X6_isPair_0 at hq
  suffices key : ∀ (H : Heap) (locs : List Loc), uw_M D vwCl (cX vl) q (tw_A (cX vl) u) s.heap u z H locs → W p l e ({ frames := 1, cells := 0, slots := 0, locals := 22 } : Room) s m args below meth c H locs 0 0 QQ (F0 m 0 ls []) from key s.heap [] hM
  intro H locs hM
  refine lv_aload_n hx hb dcX6_isPair_0 rfl (lv_at hl 0 rfl) ?_
  refine vgX6_123 hx hb hT hown hK hM hr0 dcX6_isPair_1 ?_
  refine lv_iload_n hx hb dcX6_isPair_4 rfl (lv_at hl 1 rfl) ?_
  refine uw_iald cX_ok hx hb hK hM (cr_X7_2 hr0) hq dcX6_isPair_5 (fun v1 hq => ?_)
  refine lv_aload_n hx hb dcX6_isPair_6 rfl (lv_at hl 0 rfl) ?_
  refine vgX6_123 hx hb hT hown hK hM hr0 dcX6_isPair_7 ?_
  refine lv_iload_n hx hb dcX6_isPair_10 rfl (lv_at hl 2 rfl) ?_
  refine uw_iald cX_ok hx hb hK hM (cr_X7_2 hr0) hq dcX6_isPair_11 (fun v2 hq => ?_)
  refine lv_icmp_eq (tgt := 49) hx hb dcX6_isPair_12 (by decide) (fun hc => ?_) (fun hc => ?_)
  · have hq := tw_it hq hc
    refine lv_iconst (v := 0) hx hb dcX6_isPair_49 (by decide) ?_
    obtain ⟨hz, hq⟩ := tw_gZ hq
    exact cw_zret hx hb hr hlocks hM hz hq hQQ dcX6_isPair_50
  · have hq := tw_if hq hc
    refine lv_aload_n hx hb dcX6_isPair_15 rfl (lv_at hl 0 rfl) ?_
    refine lv_iconst (v := 2) hx hb dcX6_isPair_16 (by decide) ?_
    refine lv_iload_n hx hb dcX6_isPair_17 rfl (lv_at hl 1 rfl) ?_
    refine lv_imul hx hb dcX6_isPair_18 ?_
    refine lv_iconst (v := 2) hx hb dcX6_isPair_19 (by decide) ?_
    refine lv_iload_n hx hb dcX6_isPair_20 rfl (lv_at hl 2 rfl) ?_
    refine lv_imul hx hb dcX6_isPair_21 ?_
    obtain ⟨v4, z3, hcq, hq⟩ := tw_cl1 hq
    refine uw_cali hU hM (va_runS (As := [.ref (u r0), .int (2 * x1), .int (2 * x2)]) (rest := []) ⟨hx, hb, hml, hown, hts⟩ (kc_X6_isBeside l D q vl u hU.1 K r0 (2 * x1) (2 * x2) hr0 z z3 v4 hcq) (va_cwS 3 hts (tw_gS wC_good xq_148 xq_149 xq_146 xq_150) rfl rfl rfl cdd_X6_isBeside ⟨(Nat.le_of_ble_eq_true rfl), (Nat.le_of_ble_eq_true rfl)⟩) (cw_preS hK hM) rfl rfl hl.1 rfl (lv_room (Nat.le_of_ble_eq_true rfl)) dcX6_isPair_22 ⟨(Nat.le_of_ble_eq_true rfl), (Nat.le_of_ble_eq_true rfl)⟩) (fun H locs hM => ?_)
    refine lv_if_eq (tgt := 49) hx hb dcX6_isPair_25 (by decide) (fun hc => ?_) (fun hc => ?_)
    · have hq := tw_it hq hc
      refine lv_iconst (v := 0) hx hb dcX6_isPair_49 (by decide) ?_
      obtain ⟨hz, hq⟩ := tw_gZ hq
      exact cw_zret hx hb hr hlocks hM hz hq hQQ dcX6_isPair_50
    · have hq := tw_if hq hc
      refine lv_aload_n hx hb dcX6_isPair_28 rfl (lv_at hl 0 rfl) ?_
      refine lv_iconst (v := 2) hx hb dcX6_isPair_29 (by decide) ?_
      refine lv_iload_n hx hb dcX6_isPair_30 rfl (lv_at hl 1 rfl) ?_
      refine lv_imul hx hb dcX6_isPair_31 ?_
      refine lv_iconst (v := 1) hx hb dcX6_isPair_32 (by decide) ?_
      refine lv_iadd hx hb dcX6_isPair_33 ?_
      refine lv_iconst (v := 2) hx hb dcX6_isPair_34 (by decide) ?_
      refine lv_iload_n hx hb dcX6_isPair_35 rfl (lv_at hl 2 rfl) ?_
      refine lv_imul hx hb dcX6_isPair_36 ?_
      refine lv_iconst (v := 1) hx hb dcX6_isPair_37 (by decide) ?_
      refine lv_iadd hx hb dcX6_isPair_38 ?_
      obtain ⟨v6, z5, hcq, hq⟩ := tw_cl1 hq
      refine uw_cali hU hM (va_runS (As := [.ref (u r0), .int ((2 * x1) + 1), .int ((2 * x2) + 1)]) (rest := []) ⟨hx, hb, hml, hown, hts⟩ (kc_X6_isBeside l D q vl u hU.1 K r0 ((2 * x1) + 1) ((2 * x2) + 1) hr0 z3 z5 v6 hcq) (va_cwS 3 hts (tw_gS wC_good xq_148 xq_149 xq_146 xq_150) rfl rfl rfl cdd_X6_isBeside ⟨(Nat.le_of_ble_eq_true rfl), (Nat.le_of_ble_eq_true rfl)⟩) (cw_preS hK hM) rfl rfl hl.1 rfl (lv_room (Nat.le_of_ble_eq_true rfl)) dcX6_isPair_39 ⟨(Nat.le_of_ble_eq_true rfl), (Nat.le_of_ble_eq_true rfl)⟩) (fun H locs hM => ?_)
      refine lv_if_eq (tgt := 49) hx hb dcX6_isPair_42 (by decide) (fun hc => ?_) (fun hc => ?_)
      · have hq := tw_it hq hc
        refine lv_iconst (v := 0) hx hb dcX6_isPair_49 (by decide) ?_
        obtain ⟨hz, hq⟩ := tw_gZ hq
        exact cw_zret hx hb hr hlocks hM hz hq hQQ dcX6_isPair_50
      · have hq := tw_if hq hc
        refine lv_iconst (v := 1) hx hb dcX6_isPair_45 (by decide) ?_
        refine lv_goto (tgt := 50) hx hb dcX6_isPair_46 (by decide) ?_
        obtain ⟨hz, hq⟩ := tw_gZ hq
        exact cw_zret hx hb hr hlocks hM hz hq hQQ dcX6_isPair_50
